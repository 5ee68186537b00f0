section
/-! THE REFERENCE reads a line (printed by m27.py) -/
noncomputable def zxfli_zx0 : zyXp := (0, [595], [], [], [], [])
noncomputable def zpfli_z : zyPh := (0, [595], [(0, 4294967295)], [], [])
noncomputable def zxfli_ax0 : zyXp := (2, [595], [8, 595], [], [], [])
noncomputable def zpfli_a : zyPh := (0, [595], [(0, 4294967295)], [], [])
noncomputable def zxfli_b1x0 : zyXp := (9, [595], [595], [(23, 0, 34359738369, 0)], [(34359738369, 2147483649, 2147483649)], [])
noncomputable def zxfli_b1x1 : zyXp := (17, [595], [16, 595], [(22, 0, 34359738369, 0)], [(34359738369, 2147483648, 2147483648)], [])
noncomputable def zpfli_b1 : zyPh := (5, [595], [(0, 4294967295), (2147483648, 2147483649)], [], [34359738369])
noncomputable def zxfli_b2x0 : zyXp := (24, [595], [595], [(23, 0, 34359738369, 0)], [(34359738369, 2147483649, 2147483649)], [])
noncomputable def zxfli_b2x1 : zyXp := (32, [595], [24, 595], [(22, 0, 34359738369, 0)], [(34359738369, 2147483648, 2147483648)], [])
noncomputable def zpfli_b2 : zyPh := (20, [595], [(0, 4294967295), (2147483648, 2147483649)], [], [34359738369])
noncomputable def zxfli_b3x0 : zyXp := (39, [595], [595], [(23, 0, 34359738369, 0)], [(34359738369, 2147483649, 2147483649)], [])
noncomputable def zxfli_b3x1 : zyXp := (48, [595], [48, 595], [(22, 0, 34359738369, 0)], [(34359738369, 2147483648, 2147483648)], [])
noncomputable def zpfli_b3 : zyPh := (35, [595], [(0, 4294967295), (2147483648, 2147483649)], [], [34359738369])
noncomputable def zxfli_b6x0 : zyXp := (55, [595], [595], [(23, 0, 34359738369, 0)], [(34359738369, 2147483649, 2147483649)], [])
noncomputable def zxfli_b6x1 : zyXp := (64, [595], [56, 595], [(22, 0, 34359738369, 0)], [(34359738369, 2147483648, 2147483648)], [])
noncomputable def zpfli_b6 : zyPh := (51, [595], [(0, 4294967295), (2147483648, 2147483649)], [], [34359738369])
noncomputable def zxfli_b7x0 : zyXp := (71, [595], [595], [(23, 0, 34359738369, 0)], [(34359738369, 2147483649, 2147483649)], [])
noncomputable def zxfli_b7x1 : zyXp := (80, [595], [64, 595], [(22, 0, 34359738369, 0)], [(34359738369, 2147483648, 2147483648)], [])
noncomputable def zpfli_b7 : zyPh := (67, [595], [(0, 4294967295), (2147483648, 2147483649)], [], [34359738369])
noncomputable def zxfli_b8x0 : zyXp := (87, [595], [595], [(23, 0, 34359738369, 0)], [(34359738369, 2147483649, 2147483649)], [])
noncomputable def zxfli_b8x1 : zyXp := (93, [595], [], [(22, 0, 34359738369, 0)], [(34359738369, 2147483648, 2147483648)], [])
noncomputable def zpfli_b8 : zyPh := (83, [595], [(0, 4294967295), (2147483648, 2147483649)], [], [34359738369])
noncomputable def zxfli_mx0 : zyXp := (103, [595], [472, 595, 595], [(21, 0, 0, 34359738369), (23, 0, 137438953473, 32)], [(34359738369, 2147483648, 2147483648), (103079215105, 2147483648, 2147484548), (137438953473, 2147483648, 2147483651)], [(1212452, 16), (1212453, 103079215105)])
noncomputable def zxfli_mx1 : zyXp := (103, [595], [472, 595, 595], [(21, 0, 0, 34359738369), (22, 0, 137438953473, 32)], [(34359738369, 2147483648, 2147483648), (103079215105, 2147483648, 2147484548), (137438953473, 2147483652, 2147483652)], [(1212452, 8), (1212453, 103079215105)])
noncomputable def zpfli_m : zyPh := (93, [595], [(0, 4294967295), (2147483648, 2147483648), (0, 4294967295), (2147483648, 2147484548), (2147483648, 2147483652)], [(1212452, 34359738369), (1212453, 68719476737), (1212454, 103079215105), (1212456, 137438953473)], [])
noncomputable def zxfli_k1x0 : zyXp := (103, [595], [472, 595, 595], [], [], [])
noncomputable def zpfli_k1 : zyPh := (12, [595], [(0, 4294967295)], [], [])
noncomputable def zxfli_k2x0 : zyXp := (103, [595], [472, 595, 595], [], [], [])
noncomputable def zpfli_k2 : zyPh := (27, [595], [(0, 4294967295)], [], [])
noncomputable def zxfli_k3x0 : zyXp := (103, [595], [472, 595, 595], [], [], [])
noncomputable def zpfli_k3 : zyPh := (42, [595], [(0, 4294967295)], [], [])
noncomputable def zxfli_k6x0 : zyXp := (103, [595], [472, 595, 595], [], [], [])
noncomputable def zpfli_k6 : zyPh := (58, [595], [(0, 4294967295)], [], [])
noncomputable def zxfli_k7x0 : zyXp := (103, [595], [472, 595, 595], [], [], [])
noncomputable def zpfli_k7 : zyPh := (74, [595], [(0, 4294967295)], [], [])
noncomputable def zxfli_k8x0 : zyXp := (103, [595], [472, 595, 595], [], [], [])
noncomputable def zpfli_k8 : zyPh := (90, [595], [(0, 4294967295)], [], [])
noncomputable def zxfli_sx0 : zyXp := (106, [595], [34359738369, 595], [], [(34359738369, 2147483648, 2147483649)], [])
noncomputable def zpfli_s : zyPh := (106, [595], [(0, 4294967295), (2147483648, 2147483649)], [], [34359738369, 595])
noncomputable def zxfli_tr0 : zyXp := (0, [], [], [], [], [])
noncomputable def zpfli_t : zyPh := (109, [595], [(0, 4294967295)], [], [])
noncomputable def zpfli (i : Nat) : zyPh := zif (Nat.beq i 0) (zpfli_z) (zif (Nat.beq i 1) (zpfli_a) (zif (Nat.beq i 2) (zpfli_b1) (zif (Nat.beq i 3) (zpfli_b2) (zif (Nat.beq i 4) (zpfli_b3) (zif (Nat.beq i 5) (zpfli_b6) (zif (Nat.beq i 6) (zpfli_b7) (zif (Nat.beq i 7) (zpfli_b8) (zif (Nat.beq i 8) (zpfli_m) (zif (Nat.beq i 9) (zpfli_k1) (zif (Nat.beq i 10) (zpfli_k2) (zif (Nat.beq i 11) (zpfli_k3) (zif (Nat.beq i 12) (zpfli_k6) (zif (Nat.beq i 13) (zpfli_k7) (zif (Nat.beq i 14) (zpfli_k8) (zif (Nat.beq i 15) (zpfli_s) (zpfli_t))))))))))))))))
noncomputable def zXfli (i : Nat) : List zyXp := zif (Nat.beq i 0) ([zxfli_zx0]) (zif (Nat.beq i 1) ([zxfli_ax0]) (zif (Nat.beq i 2) ([zxfli_b1x0, zxfli_b1x1]) (zif (Nat.beq i 3) ([zxfli_b2x0, zxfli_b2x1]) (zif (Nat.beq i 4) ([zxfli_b3x0, zxfli_b3x1]) (zif (Nat.beq i 5) ([zxfli_b6x0, zxfli_b6x1]) (zif (Nat.beq i 6) ([zxfli_b7x0, zxfli_b7x1]) (zif (Nat.beq i 7) ([zxfli_b8x0, zxfli_b8x1]) (zif (Nat.beq i 8) ([zxfli_mx0, zxfli_mx1]) (zif (Nat.beq i 9) ([zxfli_k1x0]) (zif (Nat.beq i 10) ([zxfli_k2x0]) (zif (Nat.beq i 11) ([zxfli_k3x0]) (zif (Nat.beq i 12) ([zxfli_k6x0]) (zif (Nat.beq i 13) ([zxfli_k7x0]) (zif (Nat.beq i 14) ([zxfli_k8x0]) (zif (Nat.beq i 15) ([zxfli_sx0]) ([]))))))))))))))))
noncomputable def zRfli (i : Nat) : List zyXp := zif (Nat.beq i 0) ([]) (zif (Nat.beq i 1) ([]) (zif (Nat.beq i 2) ([]) (zif (Nat.beq i 3) ([]) (zif (Nat.beq i 4) ([]) (zif (Nat.beq i 5) ([]) (zif (Nat.beq i 6) ([]) (zif (Nat.beq i 7) ([]) (zif (Nat.beq i 8) ([]) (zif (Nat.beq i 9) ([]) (zif (Nat.beq i 10) ([]) (zif (Nat.beq i 11) ([]) (zif (Nat.beq i 12) ([]) (zif (Nat.beq i 13) ([]) (zif (Nat.beq i 14) ([]) (zif (Nat.beq i 15) ([]) ([zxfli_tr0]))))))))))))))))
noncomputable def zFfli (i : Nat) : zyR := zif (Nat.beq i 0) ([]) (zif (Nat.beq i 1) ([]) (zif (Nat.beq i 2) ([]) (zif (Nat.beq i 3) ([]) (zif (Nat.beq i 4) ([]) (zif (Nat.beq i 5) ([]) (zif (Nat.beq i 6) ([]) (zif (Nat.beq i 7) ([]) (zif (Nat.beq i 8) ([(74, 36, 37)]) (zif (Nat.beq i 9) ([]) (zif (Nat.beq i 10) ([]) (zif (Nat.beq i 11) ([]) (zif (Nat.beq i 12) ([]) (zif (Nat.beq i 13) ([]) (zif (Nat.beq i 14) ([]) (zif (Nat.beq i 15) ([]) ([]))))))))))))))))
noncomputable def zSfli (i : Nat) : Nat := zif (Nat.beq i 0) (0) (zif (Nat.beq i 1) (0) (zif (Nat.beq i 2) (0) (zif (Nat.beq i 3) (0) (zif (Nat.beq i 4) (0) (zif (Nat.beq i 5) (0) (zif (Nat.beq i 6) (0) (zif (Nat.beq i 7) (0) (zif (Nat.beq i 8) (0) (zif (Nat.beq i 9) (0) (zif (Nat.beq i 10) (0) (zif (Nat.beq i 11) (0) (zif (Nat.beq i 12) (0) (zif (Nat.beq i 13) (0) (zif (Nat.beq i 14) (0) (zif (Nat.beq i 15) (0) (0))))))))))))))))
theorem xIs_b {E E2 : zyEm} {r : Int} {x : Nat → Int} (h : xΨis x E E2 r) : r = 0 ∨ r = 1 := by
  unfold xΨis at h
  rw [h]
  split
  · exact Or.inr rfl
  · exact Or.inl rfl
/-- a line is read -/
def xΦln (_ : Nat → Int) (E : zyEm) : Prop := xWs E ∧ xE E 74 36 = 0 ∧ (xE E 74 38 ≤ xE E 74 42 ∧ xRD (xE E 84) (xE E 74 42) (xE E 74 38) E) ∧ ¬ tKd (xE E 84) (xE E 74 42) (xE E 74 38) = 0 ∧ (1 ≤ xE E 75 0 ∧ xE E 75 0 ≤ 4) ∧ (1 ≤ xE E 75 1 ∧ xE E 75 1 ≤ 5) ∧ (0 ≤ xE E 75 2 ∧ xE E 75 2 ≤ 8) ∧ ∀ b, 0 ≤ b → b < xE E 75 2 → 0 ≤ xE E 75 (136 + b)
def xΨln (_ : Nat → Int) (E E2 : zyEm) (_ : Int) : Prop := xRs (xE E 84) (xE E 74 42) E2 (pLine (xE E 84) (xE E 74 42) (xE E 74 38) (xE E 75))
noncomputable def fpfli : zyR := [(74, 36, 41), (74, 43, 43), (75, 2, 2), (75, 5, 5), (75, 8, 70), (75, 72, 159), (75, 460, 519)]
theorem zyfli_run : zyrS zymx zxi327 (327, 0, 0, 0, 0) 8 zpfli (fun _ _ => []) zFfli zSfli zXfli zRfli 17 = true := by decide +kernel
theorem zyfli_ck : zyAll (fun i => xsubR (zFfli i) fpfli && ((zXfli i).all xckX && (zRfli i).all (fun x => xckX x && xrtB false x))) 17 = true := by decide +kernel
def xIfli (i : Nat) (x0 : Nat → Int) (E0 : zyEm) (v : Nat → Int) (E : zyEm) : Prop := if i = 0 then (E = E0) else if i = 1 then (E = E0) else if i = 2 then (E = E0 ∧ ((v 1) = 1 ↔ tW (xE E0 84) (xE E0 74 42) (xE E0 74 38) [115, 119, 105, 116, 99, 104] = true)) else if i = 3 then (E = E0 ∧ ¬ (tW (xE E0 84) (xE E0 74 42) (xE E0 74 38) [115, 119, 105, 116, 99, 104] = true) ∧ ((v 1) = 1 ↔ tW (xE E0 84) (xE E0 74 42) (xE E0 74 38) [98, 111, 98, 98, 105, 110] = true)) else if i = 4 then (E = E0 ∧ ¬ (tW (xE E0 84) (xE E0 74 42) (xE E0 74 38) [115, 119, 105, 116, 99, 104] = true) ∧ ¬ (tW (xE E0 84) (xE E0 74 42) (xE E0 74 38) [98, 111, 98, 98, 105, 110] = true) ∧ ((v 1) = 1 ↔ tW (xE E0 84) (xE E0 74 42) (xE E0 74 38) [115, 116, 117, 99, 107] = true)) else if i = 5 then (E = E0 ∧ ¬ (tW (xE E0 84) (xE E0 74 42) (xE E0 74 38) [115, 119, 105, 116, 99, 104] = true) ∧ ¬ (tW (xE E0 84) (xE E0 74 42) (xE E0 74 38) [98, 111, 98, 98, 105, 110] = true) ∧ ¬ (tW (xE E0 84) (xE E0 74 42) (xE E0 74 38) [115, 116, 117, 99, 107] = true) ∧ ((v 1) = 1 ↔ tW (xE E0 84) (xE E0 74 42) (xE E0 74 38) [102, 114, 101, 101] = true)) else if i = 6 then (E = E0 ∧ ¬ (tW (xE E0 84) (xE E0 74 42) (xE E0 74 38) [115, 119, 105, 116, 99, 104] = true) ∧ ¬ (tW (xE E0 84) (xE E0 74 42) (xE E0 74 38) [98, 111, 98, 98, 105, 110] = true) ∧ ¬ (tW (xE E0 84) (xE E0 74 42) (xE E0 74 38) [115, 116, 117, 99, 107] = true) ∧ ¬ (tW (xE E0 84) (xE E0 74 42) (xE E0 74 38) [102, 114, 101, 101] = true) ∧ ((v 1) = 1 ↔ tW (xE E0 84) (xE E0 74 42) (xE E0 74 38) [112, 108, 97, 99, 101] = true)) else if i = 7 then (E = E0 ∧ ¬ (tW (xE E0 84) (xE E0 74 42) (xE E0 74 38) [115, 119, 105, 116, 99, 104] = true) ∧ ¬ (tW (xE E0 84) (xE E0 74 42) (xE E0 74 38) [98, 111, 98, 98, 105, 110] = true) ∧ ¬ (tW (xE E0 84) (xE E0 74 42) (xE E0 74 38) [115, 116, 117, 99, 107] = true) ∧ ¬ (tW (xE E0 84) (xE E0 74 42) (xE E0 74 38) [102, 114, 101, 101] = true) ∧ ¬ (tW (xE E0 84) (xE E0 74 42) (xE E0 74 38) [112, 108, 97, 99, 101] = true) ∧ ((v 1) = 1 ↔ tW (xE E0 84) (xE E0 74 42) (xE E0 74 38) [119, 111, 114, 100] = true)) else if i = 8 then (E = E0 ∧ ¬ (tW (xE E0 84) (xE E0 74 42) (xE E0 74 38) [115, 119, 105, 116, 99, 104] = true) ∧ ¬ (tW (xE E0 84) (xE E0 74 42) (xE E0 74 38) [98, 111, 98, 98, 105, 110] = true) ∧ ¬ (tW (xE E0 84) (xE E0 74 42) (xE E0 74 38) [115, 116, 117, 99, 107] = true) ∧ ¬ (tW (xE E0 84) (xE E0 74 42) (xE E0 74 38) [102, 114, 101, 101] = true) ∧ ¬ (tW (xE E0 84) (xE E0 74 42) (xE E0 74 38) [112, 108, 97, 99, 101] = true) ∧ ¬ (tW (xE E0 84) (xE E0 74 42) (xE E0 74 38) [119, 111, 114, 100] = true)) else if i = 9 then (xRs (xE E0 84) (xE E0 74 42) E (pBody (xE E0 84) (xE E0 74 42) (xE E0 74 38) (xE E0 75))) else if i = 10 then (xRs (xE E0 84) (xE E0 74 42) E (pBody (xE E0 84) (xE E0 74 42) (xE E0 74 38) (xE E0 75))) else if i = 11 then (xRs (xE E0 84) (xE E0 74 42) E (pBody (xE E0 84) (xE E0 74 42) (xE E0 74 38) (xE E0 75))) else if i = 12 then (xRs (xE E0 84) (xE E0 74 42) E (pBody (xE E0 84) (xE E0 74 42) (xE E0 74 38) (xE E0 75))) else if i = 13 then (xRs (xE E0 84) (xE E0 74 42) E (pBody (xE E0 84) (xE E0 74 42) (xE E0 74 38) (xE E0 75))) else if i = 14 then (xRs (xE E0 84) (xE E0 74 42) E (pBody (xE E0 84) (xE E0 74 42) (xE E0 74 38) (xE E0 75))) else if i = 15 then ((xE E 74 36 = 0 → ∃ p U, ((p) ≤ (xE E0 74 42) ∧ xRD (xE E0 84) (xE E0 74 42) (p) E) ∧ pBody (xE E0 84) (xE E0 74 42) (xE E0 74 38) (xE E0 75) = .ok (p, U) ∧ (∀ k, 0 ≤ k → k < 520 → xE E 75 k = U k) ∧ (v 1) = (if tKd (xE E0 84) (xE E0 74 42) p = 5 then 1 else 0)) ∧ (¬ xE E 74 36 = 0 → xEr E (pBody (xE E0 84) (xE E0 74 42) (xE E0 74 38) (xE E0 75)))) else (xRs (xE E0 84) (xE E0 74 42) E (pLine (xE E0 84) (xE E0 74 42) (xE E0 74 38) (xE E0 75)))
def xMfli (i : Nat) (x0 : Nat → Int) (E0 : zyEm) (v : Nat → Int) (E : zyEm) : Nat := if i = 0 then (100) else if i = 1 then (99) else if i = 2 then (98) else if i = 3 then (97) else if i = 4 then (96) else if i = 5 then (95) else if i = 6 then (94) else if i = 7 then (93) else if i = 8 then (92) else if i = 9 then (91) else if i = 10 then (90) else if i = 11 then (89) else if i = 12 then (88) else if i = 13 then (87) else if i = 14 then (86) else if i = 15 then (85) else (84)
theorem xLn {l : Launch} {en : zEn} {me : zMe} (hen : zG zxMeta 327 = some en) (hme : zG zMeth 327 = some me) : xFc l zymx en me 8 [74] 0 fpfli false xΦln xΨln := by
  have een : zG zxMeta 327 = some (zxi327, 1, 1, 11, 327, 0, 0, 0, 0) := rfl
  obtain ⟨me1, hme1, hOK⟩ := zall hen
  rw [hme] at hme1
  cases hme1
  rw [een] at hen
  cases hen
  have hr := zyfli_run
  have hck := fun i hi => zyAll_iff zyfli_ck i hi
  simp only [Bool.and_eq_true] at hck
  obtain ⟨mefiw, hmefiw, -⟩ := zall (show zG zxMeta 316 = some (zxi316, 2, 2, 11, 316, 0, 0, 2, 0) from rfl)
  have hfiw := xIw (l := l) (show zG zxMeta 316 = some (zxi316, 2, 2, 11, 316, 0, 0, 2, 0) from rfl) hmefiw
  obtain ⟨mefsw, hmefsw, -⟩ := zall (show zG zxMeta 321 = some (zxi321, 1, 5, 11, 321, 0, 0, 0, 0) from rfl)
  have hfsw := xSw (l := l) (show zG zxMeta 321 = some (zxi321, 1, 5, 11, 321, 0, 0, 0, 0) from rfl) hmefsw
  obtain ⟨mefbb, hmefbb, -⟩ := zall (show zG zxMeta 322 = some (zxi322, 1, 2, 11, 322, 0, 0, 0, 0) from rfl)
  have hfbb := xBb (l := l) (show zG zxMeta 322 = some (zxi322, 1, 2, 11, 322, 0, 0, 0, 0) from rfl) hmefbb
  obtain ⟨mefsk, hmefsk, -⟩ := zall (show zG zxMeta 323 = some (zxi323, 1, 3, 11, 323, 0, 0, 0, 0) from rfl)
  have hfsk := xSk (l := l) (show zG zxMeta 323 = some (zxi323, 1, 3, 11, 323, 0, 0, 0, 0) from rfl) hmefsk
  obtain ⟨meffr, hmeffr, -⟩ := zall (show zG zxMeta 324 = some (zxi324, 1, 2, 11, 324, 0, 0, 0, 0) from rfl)
  have hffr := xFf (l := l) (show zG zxMeta 324 = some (zxi324, 1, 2, 11, 324, 0, 0, 0, 0) from rfl) hmeffr
  obtain ⟨mefpl, hmefpl, -⟩ := zall (show zG zxMeta 325 = some (zxi325, 1, 3, 11, 325, 0, 0, 0, 0) from rfl)
  have hfpl := xPl (l := l) (show zG zxMeta 325 = some (zxi325, 1, 3, 11, 325, 0, 0, 0, 0) from rfl) hmefpl
  obtain ⟨mefwd, hmefwd, -⟩ := zall (show zG zxMeta 326 = some (zxi326, 1, 2, 11, 326, 0, 0, 0, 0) from rfl)
  have hfwd := xWd (l := l) (show zG zxMeta 326 = some (zxi326, 1, 2, 11, 326, 0, 0, 0, 0) from rfl) hmefwd
  obtain ⟨mefis, hmefis, -⟩ := zall (show zG zxMeta 317 = some (zxi317, 2, 2, 11, 317, 0, 0, 2, 0) from rfl)
  have hfis := xIs (l := l) (show zG zxMeta 317 = some (zxi317, 2, 2, 11, 317, 0, 0, 2, 0) from rfl) hmefis
  obtain ⟨meftk, hmeftk, -⟩ := zall (show zG zxMeta 318 = some (zxi318, 2, 2, 11, 318, 0, 0, 0, 0) from rfl)
  have hftk := xTk (l := l) (show zG zxMeta 318 = some (zxi318, 2, 2, 11, 318, 0, 0, 0, 0) from rfl) hmeftk
  intro B
  refine xcut (mi := zymx) (B := B) hOK rfl rfl (ι := Fin 17) (fun i => zpfli i.val) (fun _ _ => []) (fun i => zFfli i.val) (fun i => zSfli i.val) (fun i => zXfli i.val) (fun i => zRfli i.val) (fun i y2 ct en2 me2 h => by cases h) 200000 (fun i => zyAll_iff hr i.val i.isLt) (fun i => (hck i.val i.isLt).1) (fun i => (hck i.val i.isLt).2.1) (fun i => (hck i.val i.isLt).2.2) ⟨0, by decide⟩ ⟨rfl, rfl, rfl, rfl⟩ ⟨by decide, by decide⟩ (fun i x0 E0 v E => xIfli i.val x0 E0 v E) (fun i x0 E0 v E => xMfli i.val x0 E0 v E) ?_ ?_ ?_
  · intro x0 E hx0 hT hΦ
    have hΦ : xΦln x0 E := hΦ
    refine ⟨fun k p hp => ?_, ?_⟩
    · have hk : k < 1 := (List.getElem?_eq_some_iff.mp hp).1
      have hk : k = 0 := by omega
      rcases hk with rfl
      · have hp : some (0, 4294967295) = some p := hp
        cases hp
        show ((0 : Nat) : Int) ≤ 0 + 2147483648 ∧ 0 + 2147483648 ≤ ((4294967295 : Nat) : Int)
        omega
    · show E = E
      rfl
  · intro x0 s Wg hRu hrx hT0 hΦ i v H hT hrv hInv hKc hFr0 hIH x hx ρ2 v2 N2 H2 locs lsB stA hAt hB hv hr2 hXs hag hfr hFr hT2
    rcases i with ⟨i, hi⟩
    have hi2 : i = 0 ∨ i = 1 ∨ i = 2 ∨ i = 3 ∨ i = 4 ∨ i = 5 ∨ i = 6 ∨ i = 7 ∨ i = 8 ∨ i = 9 ∨ i = 10 ∨ i = 11 ∨ i = 12 ∨ i = 13 ∨ i = 14 ∨ i = 15 ∨ i = 16 := by omega
    rcases hi2 with rfl | rfl | rfl | rfl | rfl | rfl | rfl | rfl | rfl | rfl | rfl | rfl | rfl | rfl | rfl | rfl | rfl
    · have hx : x ∈ [zxfli_zx0] := hx
      have hag : ∀ k, k < 1 → v2 k = v k := hag
      have hfr : xFr [] _ _ := hfr
      have ex := List.mem_singleton.mp hx
      subst ex
      obtain ⟨hF, hBd, hM⟩ := hXs
      have e74_36 : xE (zyEl zymx B H2) 74 36 = xE (zyEl zymx B H) 74 36 := xFr_E hfr rfl
      have e74_37 : xE (zyEl zymx B H2) 74 37 = xE (zyEl zymx B H) 74 37 := xFr_E hfr rfl
      have e74_38 : xE (zyEl zymx B H2) 74 38 = xE (zyEl zymx B H) 74 38 := xFr_E hfr rfl
      have e74_39 : xE (zyEl zymx B H2) 74 39 = xE (zyEl zymx B H) 74 39 := xFr_E hfr rfl
      have e74_40 : xE (zyEl zymx B H2) 74 40 = xE (zyEl zymx B H) 74 40 := xFr_E hfr rfl
      have e74_41 : xE (zyEl zymx B H2) 74 41 = xE (zyEl zymx B H) 74 41 := xFr_E hfr rfl
      have e74_42 : xE (zyEl zymx B H2) 74 42 = xE (zyEl zymx B H) 74 42 := xFr_E hfr rfl
      have q74_42 : xE (zyEl zymx B H) 74 42 = xE (zyEl zymx B s.heap) 74 42 := xFr_E hFr0 rfl
      have e75_0 : xE (zyEl zymx B H2) 75 0 = xE (zyEl zymx B H) 75 0 := xFr_E hfr rfl
      have q75_0 : xE (zyEl zymx B H) 75 0 = xE (zyEl zymx B s.heap) 75 0 := xFr_E hFr0 rfl
      have e75_1 : xE (zyEl zymx B H2) 75 1 = xE (zyEl zymx B H) 75 1 := xFr_E hfr rfl
      have q75_1 : xE (zyEl zymx B H) 75 1 = xE (zyEl zymx B s.heap) 75 1 := xFr_E hFr0 rfl
      have e75_2 : xE (zyEl zymx B H2) 75 2 = xE (zyEl zymx B H) 75 2 := xFr_E hfr rfl
      have e84 : ∀ i, xE (zyEl zymx B H2) 84 i = xE (zyEl zymx B H) 84 i := fun i => xFr_E hfr rfl
      have q84 : ∀ i, xE (zyEl zymx B H) 84 i = xE (zyEl zymx B s.heap) 84 i := fun i => xFr_E hFr0 rfl
      have e75 : ∀ i, xE (zyEl zymx B H2) 75 i = xE (zyEl zymx B H) 75 i := fun i => xFr_E hfr rfl
      have y74_42 : ((2147483648 : Nat) : Int) ≤ xE (zyEl zymx B s.heap) 74 42 + 2147483648 ∧ xE (zyEl zymx B s.heap) 74 42 + 2147483648 ≤ ((2147484548 : Nat) : Int) := xTyF hT0 74 42 42 rfl rfl rfl rfl rfl rfl
      have hI : (zyEl zymx B H) = (zyEl zymx B s.heap) := hInv
      have q74_36 : xE (zyEl zymx B H) 74 36 = xE (zyEl zymx B s.heap) 74 36 := by rw [hI]
      have q74_37 : xE (zyEl zymx B H) 74 37 = xE (zyEl zymx B s.heap) 74 37 := by rw [hI]
      have q74_38 : xE (zyEl zymx B H) 74 38 = xE (zyEl zymx B s.heap) 74 38 := by rw [hI]
      have q74_39 : xE (zyEl zymx B H) 74 39 = xE (zyEl zymx B s.heap) 74 39 := by rw [hI]
      have q74_40 : xE (zyEl zymx B H) 74 40 = xE (zyEl zymx B s.heap) 74 40 := by rw [hI]
      have q74_41 : xE (zyEl zymx B H) 74 41 = xE (zyEl zymx B s.heap) 74 41 := by rw [hI]
      have q75_2 : xE (zyEl zymx B H) 75 2 = xE (zyEl zymx B s.heap) 75 2 := by rw [hI]
      have q75 : ∀ i, xE (zyEl zymx B H) 75 i = xE (zyEl zymx B s.heap) 75 i := fun i => by rw [hI]
      obtain ⟨hPW, hP1, ⟨hPp, hPs⟩, hPk, hP3, hP4, hP5, hP6⟩ := (show xΦln x0 (zyEl zymx B s.heap) from hΦ)
      obtain ⟨s1, s1b, s2, s3, s4, s5, s6, s7, s8⟩ := xRD_i hPs hPp
      have s4 := s4 hPk
      have hE := hI
      refine xGo hIH hAt hB hv hFr ⟨1, by decide⟩ [0] [0] rfl ⟨by decide +kernel, ⟨rfl, by decide +kernel⟩, (xcs_c rfl xcs_n), (xe_0 xe_n), xkq_n⟩ xst_n ?_ ?_
      · show (zyEl zymx B H2) = (zyEl zymx B s.heap)
        exact (xFr_n hfr).trans hI
      · show 99 < 100
        omega
    · have hx : x ∈ [zxfli_ax0] := hx
      have hag : ∀ k, k < 1 → v2 k = v k := hag
      have hfr : xFr [] _ _ := hfr
      have ex := List.mem_singleton.mp hx
      subst ex
      obtain ⟨hF, hBd, hM⟩ := hXs
      have e74_36 : xE (zyEl zymx B H2) 74 36 = xE (zyEl zymx B H) 74 36 := xFr_E hfr rfl
      have e74_37 : xE (zyEl zymx B H2) 74 37 = xE (zyEl zymx B H) 74 37 := xFr_E hfr rfl
      have e74_38 : xE (zyEl zymx B H2) 74 38 = xE (zyEl zymx B H) 74 38 := xFr_E hfr rfl
      have e74_39 : xE (zyEl zymx B H2) 74 39 = xE (zyEl zymx B H) 74 39 := xFr_E hfr rfl
      have e74_40 : xE (zyEl zymx B H2) 74 40 = xE (zyEl zymx B H) 74 40 := xFr_E hfr rfl
      have e74_41 : xE (zyEl zymx B H2) 74 41 = xE (zyEl zymx B H) 74 41 := xFr_E hfr rfl
      have e74_42 : xE (zyEl zymx B H2) 74 42 = xE (zyEl zymx B H) 74 42 := xFr_E hfr rfl
      have q74_42 : xE (zyEl zymx B H) 74 42 = xE (zyEl zymx B s.heap) 74 42 := xFr_E hFr0 rfl
      have e75_0 : xE (zyEl zymx B H2) 75 0 = xE (zyEl zymx B H) 75 0 := xFr_E hfr rfl
      have q75_0 : xE (zyEl zymx B H) 75 0 = xE (zyEl zymx B s.heap) 75 0 := xFr_E hFr0 rfl
      have e75_1 : xE (zyEl zymx B H2) 75 1 = xE (zyEl zymx B H) 75 1 := xFr_E hfr rfl
      have q75_1 : xE (zyEl zymx B H) 75 1 = xE (zyEl zymx B s.heap) 75 1 := xFr_E hFr0 rfl
      have e75_2 : xE (zyEl zymx B H2) 75 2 = xE (zyEl zymx B H) 75 2 := xFr_E hfr rfl
      have e84 : ∀ i, xE (zyEl zymx B H2) 84 i = xE (zyEl zymx B H) 84 i := fun i => xFr_E hfr rfl
      have q84 : ∀ i, xE (zyEl zymx B H) 84 i = xE (zyEl zymx B s.heap) 84 i := fun i => xFr_E hFr0 rfl
      have e75 : ∀ i, xE (zyEl zymx B H2) 75 i = xE (zyEl zymx B H) 75 i := fun i => xFr_E hfr rfl
      have y74_42 : ((2147483648 : Nat) : Int) ≤ xE (zyEl zymx B s.heap) 74 42 + 2147483648 ∧ xE (zyEl zymx B s.heap) 74 42 + 2147483648 ≤ ((2147484548 : Nat) : Int) := xTyF hT0 74 42 42 rfl rfl rfl rfl rfl rfl
      have hI : (zyEl zymx B H) = (zyEl zymx B s.heap) := hInv
      have q74_36 : xE (zyEl zymx B H) 74 36 = xE (zyEl zymx B s.heap) 74 36 := by rw [hI]
      have q74_37 : xE (zyEl zymx B H) 74 37 = xE (zyEl zymx B s.heap) 74 37 := by rw [hI]
      have q74_38 : xE (zyEl zymx B H) 74 38 = xE (zyEl zymx B s.heap) 74 38 := by rw [hI]
      have q74_39 : xE (zyEl zymx B H) 74 39 = xE (zyEl zymx B s.heap) 74 39 := by rw [hI]
      have q74_40 : xE (zyEl zymx B H) 74 40 = xE (zyEl zymx B s.heap) 74 40 := by rw [hI]
      have q74_41 : xE (zyEl zymx B H) 74 41 = xE (zyEl zymx B s.heap) 74 41 := by rw [hI]
      have q75_2 : xE (zyEl zymx B H) 75 2 = xE (zyEl zymx B s.heap) 75 2 := by rw [hI]
      have q75 : ∀ i, xE (zyEl zymx B H) 75 i = xE (zyEl zymx B s.heap) 75 i := fun i => by rw [hI]
      have hE := hI
      have hEE : (zyEl zymx B H2) = (zyEl zymx B s.heap) := (xFr_n hfr).trans hE
      obtain ⟨hPW, hP1, ⟨hPp, hPs⟩, hPk, hP3, hP4, hP5, hP6⟩ := (show xΦln x0 (zyEl zymx B s.heap) from hΦ)
      obtain ⟨s1, s1b, s2, s3, s4, s5, s6, s7, s8⟩ := xRD_i hPs hPp
      have s4 := s4 hPk
      refine xCa hRu hIH hAt hB hv hFr (hfiw B) (ix := 459) (ax := 5056) rfl rfl rfl hmefiw ⟨_, rfl, rfl, by decide⟩ ⟨rfl, rfl, rfl⟩ (by decide) [8] [] [1] rfl ⟨rfl, rfl⟩ (by decide +kernel) (xcs_c rfl xcs_n) (by decide +kernel) ?_ (fun H3 r hT3 hf3 hFr3 hr3 hΨ3 => ?_)
      · show xΦiw (xfv [1]) (zyEl zymx B H2)
        rw [hEE]
        exact ⟨by decide, hPW⟩
      · have hΨ3 : xΨiw (xfv [1]) (zyEl zymx B H2) (zyEl zymx B H3) r := hΨ3
        have d74_36 : xE (zyEl zymx B H3) 74 36 = xE (zyEl zymx B H2) 74 36 := xFr_E hf3 rfl
        have d74_37 : xE (zyEl zymx B H3) 74 37 = xE (zyEl zymx B H2) 74 37 := xFr_E hf3 rfl
        have d74_38 : xE (zyEl zymx B H3) 74 38 = xE (zyEl zymx B H2) 74 38 := xFr_E hf3 rfl
        have d74_39 : xE (zyEl zymx B H3) 74 39 = xE (zyEl zymx B H2) 74 39 := xFr_E hf3 rfl
        have d74_40 : xE (zyEl zymx B H3) 74 40 = xE (zyEl zymx B H2) 74 40 := xFr_E hf3 rfl
        have d74_41 : xE (zyEl zymx B H3) 74 41 = xE (zyEl zymx B H2) 74 41 := xFr_E hf3 rfl
        have d74_42 : xE (zyEl zymx B H3) 74 42 = xE (zyEl zymx B H2) 74 42 := xFr_E hf3 rfl
        have d75_0 : xE (zyEl zymx B H3) 75 0 = xE (zyEl zymx B H2) 75 0 := xFr_E hf3 rfl
        have d75_1 : xE (zyEl zymx B H3) 75 1 = xE (zyEl zymx B H2) 75 1 := xFr_E hf3 rfl
        have d75_2 : xE (zyEl zymx B H3) 75 2 = xE (zyEl zymx B H2) 75 2 := xFr_E hf3 rfl
        have d84 : ∀ i, xE (zyEl zymx B H3) 84 i = xE (zyEl zymx B H2) 84 i := fun i => xFr_E hf3 rfl
        have d75 : ∀ i, xE (zyEl zymx B H3) 75 i = xE (zyEl zymx B H2) 75 i := fun i => xFr_E hf3 rfl
        obtain ⟨hb, hb0, hb1⟩ := (show xΨiw (xfv [1]) (zyEl zymx B H2) (zyEl zymx B H3) r from hΨ3)
        rw [hEE] at hb1
        have hw : r = 1 ↔ tW (xE (zyEl zymx B s.heap) 84) (xE (zyEl zymx B s.heap) 74 42) (xE (zyEl zymx B s.heap) 74 38) [115, 119, 105, 116, 99, 104] = true := hb1 _ hPp hPs hP1
        have hE3 : (zyEl zymx B H3) = (zyEl zymx B s.heap) := (xFr_n hf3).trans hEE
        refine ⟨⟨2, by decide⟩, [0], [0, r], rfl, ⟨by decide +kernel, ⟨rfl, by decide +kernel⟩, (xcs_c rfl xcs_n), (xe_0 (xe_c (by omega) (by omega) rfl xe_n)), xkq_n⟩, (by rw [if_pos rfl]; exact ⟨1, [], rfl, by decide, rfl, xst_n⟩), ?_, ?_⟩
        · show (zyEl zymx B H3) = (zyEl zymx B s.heap) ∧ ((r : Int) = 1 ↔ tW (xE (zyEl zymx B s.heap) 84) (xE (zyEl zymx B s.heap) 74 42) (xE (zyEl zymx B s.heap) 74 38) [115, 119, 105, 116, 99, 104] = true)
          exact ⟨hE3, hw⟩
        · show 98 < 99
          omega
    · have hx : x ∈ [zxfli_b1x0, zxfli_b1x1] := hx
      have hag : ∀ k, k < 2 → v2 k = v k := hag
      have hfr : xFr [] _ _ := hfr
      rcases List.mem_cons.mp hx with ex | hx
      · subst ex
        obtain ⟨hF, hBd, hM⟩ := hXs
        have g1 : v2 1 = v 1 := hag 1 (by decide)
        have b0 : ((2147483649 : Nat) : Int) ≤ (v2 1) + 2147483648 ∧ (v2 1) + 2147483648 ≤ ((2147483649 : Nat) : Int) := xXb hBd 0 rfl
        have f0 : ¬ (v2 1) = 0 := xXf hF 0 rfl
        have e74_36 : xE (zyEl zymx B H2) 74 36 = xE (zyEl zymx B H) 74 36 := xFr_E hfr rfl
        have e74_37 : xE (zyEl zymx B H2) 74 37 = xE (zyEl zymx B H) 74 37 := xFr_E hfr rfl
        have e74_38 : xE (zyEl zymx B H2) 74 38 = xE (zyEl zymx B H) 74 38 := xFr_E hfr rfl
        have e74_39 : xE (zyEl zymx B H2) 74 39 = xE (zyEl zymx B H) 74 39 := xFr_E hfr rfl
        have e74_40 : xE (zyEl zymx B H2) 74 40 = xE (zyEl zymx B H) 74 40 := xFr_E hfr rfl
        have e74_41 : xE (zyEl zymx B H2) 74 41 = xE (zyEl zymx B H) 74 41 := xFr_E hfr rfl
        have e74_42 : xE (zyEl zymx B H2) 74 42 = xE (zyEl zymx B H) 74 42 := xFr_E hfr rfl
        have q74_42 : xE (zyEl zymx B H) 74 42 = xE (zyEl zymx B s.heap) 74 42 := xFr_E hFr0 rfl
        have e75_0 : xE (zyEl zymx B H2) 75 0 = xE (zyEl zymx B H) 75 0 := xFr_E hfr rfl
        have q75_0 : xE (zyEl zymx B H) 75 0 = xE (zyEl zymx B s.heap) 75 0 := xFr_E hFr0 rfl
        have e75_1 : xE (zyEl zymx B H2) 75 1 = xE (zyEl zymx B H) 75 1 := xFr_E hfr rfl
        have q75_1 : xE (zyEl zymx B H) 75 1 = xE (zyEl zymx B s.heap) 75 1 := xFr_E hFr0 rfl
        have e75_2 : xE (zyEl zymx B H2) 75 2 = xE (zyEl zymx B H) 75 2 := xFr_E hfr rfl
        have e84 : ∀ i, xE (zyEl zymx B H2) 84 i = xE (zyEl zymx B H) 84 i := fun i => xFr_E hfr rfl
        have q84 : ∀ i, xE (zyEl zymx B H) 84 i = xE (zyEl zymx B s.heap) 84 i := fun i => xFr_E hFr0 rfl
        have e75 : ∀ i, xE (zyEl zymx B H2) 75 i = xE (zyEl zymx B H) 75 i := fun i => xFr_E hfr rfl
        have y74_42 : ((2147483648 : Nat) : Int) ≤ xE (zyEl zymx B s.heap) 74 42 + 2147483648 ∧ xE (zyEl zymx B s.heap) 74 42 + 2147483648 ≤ ((2147484548 : Nat) : Int) := xTyF hT0 74 42 42 rfl rfl rfl rfl rfl rfl
        have hI : (zyEl zymx B H) = (zyEl zymx B s.heap) ∧ ((v 1) = 1 ↔ tW (xE (zyEl zymx B s.heap) 84) (xE (zyEl zymx B s.heap) 74 42) (xE (zyEl zymx B s.heap) 74 38) [115, 119, 105, 116, 99, 104] = true) := hInv
        have q74_36 : xE (zyEl zymx B H) 74 36 = xE (zyEl zymx B s.heap) 74 36 := by rw [hI.1]
        have q74_37 : xE (zyEl zymx B H) 74 37 = xE (zyEl zymx B s.heap) 74 37 := by rw [hI.1]
        have q74_38 : xE (zyEl zymx B H) 74 38 = xE (zyEl zymx B s.heap) 74 38 := by rw [hI.1]
        have q74_39 : xE (zyEl zymx B H) 74 39 = xE (zyEl zymx B s.heap) 74 39 := by rw [hI.1]
        have q74_40 : xE (zyEl zymx B H) 74 40 = xE (zyEl zymx B s.heap) 74 40 := by rw [hI.1]
        have q74_41 : xE (zyEl zymx B H) 74 41 = xE (zyEl zymx B s.heap) 74 41 := by rw [hI.1]
        have q75_2 : xE (zyEl zymx B H) 75 2 = xE (zyEl zymx B s.heap) 75 2 := by rw [hI.1]
        have q75 : ∀ i, xE (zyEl zymx B H) 75 i = xE (zyEl zymx B s.heap) 75 i := fun i => by rw [hI.1]
        obtain ⟨hE, hw⟩ := hI
        have hEE : (zyEl zymx B H2) = (zyEl zymx B s.heap) := (xFr_n hfr).trans hE
        obtain ⟨hPW, hP1, ⟨hPp, hPs⟩, hPk, hP3, hP4, hP5, hP6⟩ := (show xΦln x0 (zyEl zymx B s.heap) from hΦ)
        obtain ⟨s1, s1b, s2, s3, s4, s5, s6, s7, s8⟩ := xRD_i hPs hPp
        have s4 := s4 hPk
        have hw := hw.mp (by omega)
        refine xCa hRu hIH hAt hB hv hFr (hfsw B) (ix := 470) (ax := 5136) rfl rfl rfl hmefsw ⟨_, rfl, rfl, by decide⟩ ⟨rfl, rfl, rfl⟩ (by decide) [] [] [] rfl ⟨rfl, rfl⟩ (by decide +kernel) xcs_n (by decide +kernel) ?_ (fun H3 r hT3 hf3 hFr3 hr3 hΨ3 => ?_)
        · show xΦsw (xfv []) (zyEl zymx B H2)
          rw [hEE]
          exact ⟨hP1, by omega, hP3, hP4⟩
        · have hΨ3 : xΨsw (xfv []) (zyEl zymx B H2) (zyEl zymx B H3) r := hΨ3
          have d74_42 : xE (zyEl zymx B H3) 74 42 = xE (zyEl zymx B H2) 74 42 := xFr_E hf3 rfl
          have d75_0 : xE (zyEl zymx B H3) 75 0 = xE (zyEl zymx B H2) 75 0 := xFr_E hf3 rfl
          have d75_1 : xE (zyEl zymx B H3) 75 1 = xE (zyEl zymx B H2) 75 1 := xFr_E hf3 rfl
          have d75_2 : xE (zyEl zymx B H3) 75 2 = xE (zyEl zymx B H2) 75 2 := xFr_E hf3 rfl
          have d84 : ∀ i, xE (zyEl zymx B H3) 84 i = xE (zyEl zymx B H2) 84 i := fun i => xFr_E hf3 rfl
          have hΨ3 : xΨsw (xfv []) (zyEl zymx B s.heap) (zyEl zymx B H3) r := by rw [← hEE]; exact hΨ3
          have hg : xRs (xE (zyEl zymx B s.heap) 84) (xE (zyEl zymx B s.heap) 74 42) (zyEl zymx B H3) (pSwitch (xE (zyEl zymx B s.heap) 84) (xE (zyEl zymx B s.heap) 74 42) (xE (zyEl zymx B s.heap) 74 39) (xE (zyEl zymx B s.heap) 75)) := hΨ3
          rw [s4.1] at hg
          refine ⟨⟨9, by decide⟩, [0], [0], rfl, ⟨by decide +kernel, ⟨rfl, by decide +kernel⟩, (xcs_c rfl xcs_n), (xe_0 xe_n), xkq_n⟩, (by rw [if_neg (by decide)]; exact xst_n), ?_, ?_⟩
          · show xRs (xE (zyEl zymx B s.heap) 84) (xE (zyEl zymx B s.heap) 74 42) (zyEl zymx B H3) (pBody (xE (zyEl zymx B s.heap) 84) (xE (zyEl zymx B s.heap) 74 42) (xE (zyEl zymx B s.heap) 74 38) (xE (zyEl zymx B s.heap) 75))
            unfold pBody
            rw [if_pos hw]
            exact hg
          · show 91 < 98
            omega
      · skip
        have ex := List.mem_singleton.mp hx
        subst ex
        obtain ⟨hF, hBd, hM⟩ := hXs
        have g1 : v2 1 = v 1 := hag 1 (by decide)
        have b0 : ((2147483648 : Nat) : Int) ≤ (v2 1) + 2147483648 ∧ (v2 1) + 2147483648 ≤ ((2147483648 : Nat) : Int) := xXb hBd 0 rfl
        have f0 : (v2 1) = 0 := xXf hF 0 rfl
        have e74_36 : xE (zyEl zymx B H2) 74 36 = xE (zyEl zymx B H) 74 36 := xFr_E hfr rfl
        have e74_37 : xE (zyEl zymx B H2) 74 37 = xE (zyEl zymx B H) 74 37 := xFr_E hfr rfl
        have e74_38 : xE (zyEl zymx B H2) 74 38 = xE (zyEl zymx B H) 74 38 := xFr_E hfr rfl
        have e74_39 : xE (zyEl zymx B H2) 74 39 = xE (zyEl zymx B H) 74 39 := xFr_E hfr rfl
        have e74_40 : xE (zyEl zymx B H2) 74 40 = xE (zyEl zymx B H) 74 40 := xFr_E hfr rfl
        have e74_41 : xE (zyEl zymx B H2) 74 41 = xE (zyEl zymx B H) 74 41 := xFr_E hfr rfl
        have e74_42 : xE (zyEl zymx B H2) 74 42 = xE (zyEl zymx B H) 74 42 := xFr_E hfr rfl
        have q74_42 : xE (zyEl zymx B H) 74 42 = xE (zyEl zymx B s.heap) 74 42 := xFr_E hFr0 rfl
        have e75_0 : xE (zyEl zymx B H2) 75 0 = xE (zyEl zymx B H) 75 0 := xFr_E hfr rfl
        have q75_0 : xE (zyEl zymx B H) 75 0 = xE (zyEl zymx B s.heap) 75 0 := xFr_E hFr0 rfl
        have e75_1 : xE (zyEl zymx B H2) 75 1 = xE (zyEl zymx B H) 75 1 := xFr_E hfr rfl
        have q75_1 : xE (zyEl zymx B H) 75 1 = xE (zyEl zymx B s.heap) 75 1 := xFr_E hFr0 rfl
        have e75_2 : xE (zyEl zymx B H2) 75 2 = xE (zyEl zymx B H) 75 2 := xFr_E hfr rfl
        have e84 : ∀ i, xE (zyEl zymx B H2) 84 i = xE (zyEl zymx B H) 84 i := fun i => xFr_E hfr rfl
        have q84 : ∀ i, xE (zyEl zymx B H) 84 i = xE (zyEl zymx B s.heap) 84 i := fun i => xFr_E hFr0 rfl
        have e75 : ∀ i, xE (zyEl zymx B H2) 75 i = xE (zyEl zymx B H) 75 i := fun i => xFr_E hfr rfl
        have y74_42 : ((2147483648 : Nat) : Int) ≤ xE (zyEl zymx B s.heap) 74 42 + 2147483648 ∧ xE (zyEl zymx B s.heap) 74 42 + 2147483648 ≤ ((2147484548 : Nat) : Int) := xTyF hT0 74 42 42 rfl rfl rfl rfl rfl rfl
        have hI : (zyEl zymx B H) = (zyEl zymx B s.heap) ∧ ((v 1) = 1 ↔ tW (xE (zyEl zymx B s.heap) 84) (xE (zyEl zymx B s.heap) 74 42) (xE (zyEl zymx B s.heap) 74 38) [115, 119, 105, 116, 99, 104] = true) := hInv
        have q74_36 : xE (zyEl zymx B H) 74 36 = xE (zyEl zymx B s.heap) 74 36 := by rw [hI.1]
        have q74_37 : xE (zyEl zymx B H) 74 37 = xE (zyEl zymx B s.heap) 74 37 := by rw [hI.1]
        have q74_38 : xE (zyEl zymx B H) 74 38 = xE (zyEl zymx B s.heap) 74 38 := by rw [hI.1]
        have q74_39 : xE (zyEl zymx B H) 74 39 = xE (zyEl zymx B s.heap) 74 39 := by rw [hI.1]
        have q74_40 : xE (zyEl zymx B H) 74 40 = xE (zyEl zymx B s.heap) 74 40 := by rw [hI.1]
        have q74_41 : xE (zyEl zymx B H) 74 41 = xE (zyEl zymx B s.heap) 74 41 := by rw [hI.1]
        have q75_2 : xE (zyEl zymx B H) 75 2 = xE (zyEl zymx B s.heap) 75 2 := by rw [hI.1]
        have q75 : ∀ i, xE (zyEl zymx B H) 75 i = xE (zyEl zymx B s.heap) 75 i := fun i => by rw [hI.1]
        obtain ⟨hE, hw⟩ := hI
        have hEE : (zyEl zymx B H2) = (zyEl zymx B s.heap) := (xFr_n hfr).trans hE
        obtain ⟨hPW, hP1, ⟨hPp, hPs⟩, hPk, hP3, hP4, hP5, hP6⟩ := (show xΦln x0 (zyEl zymx B s.heap) from hΦ)
        obtain ⟨s1, s1b, s2, s3, s4, s5, s6, s7, s8⟩ := xRD_i hPs hPp
        have s4 := s4 hPk
        have hw : ¬ (tW (xE (zyEl zymx B s.heap) 84) (xE (zyEl zymx B s.heap) 74 42) (xE (zyEl zymx B s.heap) 74 38) [115, 119, 105, 116, 99, 104] = true) := fun z => by
          have := hw.mpr z
          omega
        refine xCa hRu hIH hAt hB hv hFr (hfiw B) (ix := 459) (ax := 5056) rfl rfl rfl hmefiw ⟨_, rfl, rfl, by decide⟩ ⟨rfl, rfl, rfl⟩ (by decide) [16] [] [2] rfl ⟨rfl, rfl⟩ (by decide +kernel) (xcs_c rfl xcs_n) (by decide +kernel) ?_ (fun H3 r hT3 hf3 hFr3 hr3 hΨ3 => ?_)
        · show xΦiw (xfv [2]) (zyEl zymx B H2)
          rw [hEE]
          exact ⟨by decide, hPW⟩
        · have hΨ3 : xΨiw (xfv [2]) (zyEl zymx B H2) (zyEl zymx B H3) r := hΨ3
          have d74_36 : xE (zyEl zymx B H3) 74 36 = xE (zyEl zymx B H2) 74 36 := xFr_E hf3 rfl
          have d74_37 : xE (zyEl zymx B H3) 74 37 = xE (zyEl zymx B H2) 74 37 := xFr_E hf3 rfl
          have d74_38 : xE (zyEl zymx B H3) 74 38 = xE (zyEl zymx B H2) 74 38 := xFr_E hf3 rfl
          have d74_39 : xE (zyEl zymx B H3) 74 39 = xE (zyEl zymx B H2) 74 39 := xFr_E hf3 rfl
          have d74_40 : xE (zyEl zymx B H3) 74 40 = xE (zyEl zymx B H2) 74 40 := xFr_E hf3 rfl
          have d74_41 : xE (zyEl zymx B H3) 74 41 = xE (zyEl zymx B H2) 74 41 := xFr_E hf3 rfl
          have d74_42 : xE (zyEl zymx B H3) 74 42 = xE (zyEl zymx B H2) 74 42 := xFr_E hf3 rfl
          have d75_0 : xE (zyEl zymx B H3) 75 0 = xE (zyEl zymx B H2) 75 0 := xFr_E hf3 rfl
          have d75_1 : xE (zyEl zymx B H3) 75 1 = xE (zyEl zymx B H2) 75 1 := xFr_E hf3 rfl
          have d75_2 : xE (zyEl zymx B H3) 75 2 = xE (zyEl zymx B H2) 75 2 := xFr_E hf3 rfl
          have d84 : ∀ i, xE (zyEl zymx B H3) 84 i = xE (zyEl zymx B H2) 84 i := fun i => xFr_E hf3 rfl
          have d75 : ∀ i, xE (zyEl zymx B H3) 75 i = xE (zyEl zymx B H2) 75 i := fun i => xFr_E hf3 rfl
          obtain ⟨hb, hb0, hb1⟩ := (show xΨiw (xfv [2]) (zyEl zymx B H2) (zyEl zymx B H3) r from hΨ3)
          rw [hEE] at hb1
          have hw2 : r = 1 ↔ tW (xE (zyEl zymx B s.heap) 84) (xE (zyEl zymx B s.heap) 74 42) (xE (zyEl zymx B s.heap) 74 38) [98, 111, 98, 98, 105, 110] = true := hb1 _ hPp hPs hP1
          have hE3 : (zyEl zymx B H3) = (zyEl zymx B s.heap) := (xFr_n hf3).trans hEE
          refine ⟨⟨3, by decide⟩, [0], [0, r], rfl, ⟨by decide +kernel, ⟨rfl, by decide +kernel⟩, (xcs_c rfl xcs_n), (xe_0 (xe_c (by omega) (by omega) rfl xe_n)), xkq_n⟩, (by rw [if_pos rfl]; exact ⟨1, [], rfl, by decide, rfl, xst_n⟩), ?_, ?_⟩
          · show (zyEl zymx B H3) = (zyEl zymx B s.heap) ∧ ¬ (tW (xE (zyEl zymx B s.heap) 84) (xE (zyEl zymx B s.heap) 74 42) (xE (zyEl zymx B s.heap) 74 38) [115, 119, 105, 116, 99, 104] = true) ∧ ((r : Int) = 1 ↔ tW (xE (zyEl zymx B s.heap) 84) (xE (zyEl zymx B s.heap) 74 42) (xE (zyEl zymx B s.heap) 74 38) [98, 111, 98, 98, 105, 110] = true)
            exact ⟨hE3, hw, hw2⟩
          · show 97 < 98
            omega
    · have hx : x ∈ [zxfli_b2x0, zxfli_b2x1] := hx
      have hag : ∀ k, k < 2 → v2 k = v k := hag
      have hfr : xFr [] _ _ := hfr
      rcases List.mem_cons.mp hx with ex | hx
      · subst ex
        obtain ⟨hF, hBd, hM⟩ := hXs
        have g1 : v2 1 = v 1 := hag 1 (by decide)
        have b0 : ((2147483649 : Nat) : Int) ≤ (v2 1) + 2147483648 ∧ (v2 1) + 2147483648 ≤ ((2147483649 : Nat) : Int) := xXb hBd 0 rfl
        have f0 : ¬ (v2 1) = 0 := xXf hF 0 rfl
        have e74_36 : xE (zyEl zymx B H2) 74 36 = xE (zyEl zymx B H) 74 36 := xFr_E hfr rfl
        have e74_37 : xE (zyEl zymx B H2) 74 37 = xE (zyEl zymx B H) 74 37 := xFr_E hfr rfl
        have e74_38 : xE (zyEl zymx B H2) 74 38 = xE (zyEl zymx B H) 74 38 := xFr_E hfr rfl
        have e74_39 : xE (zyEl zymx B H2) 74 39 = xE (zyEl zymx B H) 74 39 := xFr_E hfr rfl
        have e74_40 : xE (zyEl zymx B H2) 74 40 = xE (zyEl zymx B H) 74 40 := xFr_E hfr rfl
        have e74_41 : xE (zyEl zymx B H2) 74 41 = xE (zyEl zymx B H) 74 41 := xFr_E hfr rfl
        have e74_42 : xE (zyEl zymx B H2) 74 42 = xE (zyEl zymx B H) 74 42 := xFr_E hfr rfl
        have q74_42 : xE (zyEl zymx B H) 74 42 = xE (zyEl zymx B s.heap) 74 42 := xFr_E hFr0 rfl
        have e75_0 : xE (zyEl zymx B H2) 75 0 = xE (zyEl zymx B H) 75 0 := xFr_E hfr rfl
        have q75_0 : xE (zyEl zymx B H) 75 0 = xE (zyEl zymx B s.heap) 75 0 := xFr_E hFr0 rfl
        have e75_1 : xE (zyEl zymx B H2) 75 1 = xE (zyEl zymx B H) 75 1 := xFr_E hfr rfl
        have q75_1 : xE (zyEl zymx B H) 75 1 = xE (zyEl zymx B s.heap) 75 1 := xFr_E hFr0 rfl
        have e75_2 : xE (zyEl zymx B H2) 75 2 = xE (zyEl zymx B H) 75 2 := xFr_E hfr rfl
        have e84 : ∀ i, xE (zyEl zymx B H2) 84 i = xE (zyEl zymx B H) 84 i := fun i => xFr_E hfr rfl
        have q84 : ∀ i, xE (zyEl zymx B H) 84 i = xE (zyEl zymx B s.heap) 84 i := fun i => xFr_E hFr0 rfl
        have e75 : ∀ i, xE (zyEl zymx B H2) 75 i = xE (zyEl zymx B H) 75 i := fun i => xFr_E hfr rfl
        have y74_42 : ((2147483648 : Nat) : Int) ≤ xE (zyEl zymx B s.heap) 74 42 + 2147483648 ∧ xE (zyEl zymx B s.heap) 74 42 + 2147483648 ≤ ((2147484548 : Nat) : Int) := xTyF hT0 74 42 42 rfl rfl rfl rfl rfl rfl
        have hI : (zyEl zymx B H) = (zyEl zymx B s.heap) ∧ ¬ (tW (xE (zyEl zymx B s.heap) 84) (xE (zyEl zymx B s.heap) 74 42) (xE (zyEl zymx B s.heap) 74 38) [115, 119, 105, 116, 99, 104] = true) ∧ ((v 1) = 1 ↔ tW (xE (zyEl zymx B s.heap) 84) (xE (zyEl zymx B s.heap) 74 42) (xE (zyEl zymx B s.heap) 74 38) [98, 111, 98, 98, 105, 110] = true) := hInv
        have q74_36 : xE (zyEl zymx B H) 74 36 = xE (zyEl zymx B s.heap) 74 36 := by rw [hI.1]
        have q74_37 : xE (zyEl zymx B H) 74 37 = xE (zyEl zymx B s.heap) 74 37 := by rw [hI.1]
        have q74_38 : xE (zyEl zymx B H) 74 38 = xE (zyEl zymx B s.heap) 74 38 := by rw [hI.1]
        have q74_39 : xE (zyEl zymx B H) 74 39 = xE (zyEl zymx B s.heap) 74 39 := by rw [hI.1]
        have q74_40 : xE (zyEl zymx B H) 74 40 = xE (zyEl zymx B s.heap) 74 40 := by rw [hI.1]
        have q74_41 : xE (zyEl zymx B H) 74 41 = xE (zyEl zymx B s.heap) 74 41 := by rw [hI.1]
        have q75_2 : xE (zyEl zymx B H) 75 2 = xE (zyEl zymx B s.heap) 75 2 := by rw [hI.1]
        have q75 : ∀ i, xE (zyEl zymx B H) 75 i = xE (zyEl zymx B s.heap) 75 i := fun i => by rw [hI.1]
        obtain ⟨hE, n1, hw⟩ := hI
        have hEE : (zyEl zymx B H2) = (zyEl zymx B s.heap) := (xFr_n hfr).trans hE
        obtain ⟨hPW, hP1, ⟨hPp, hPs⟩, hPk, hP3, hP4, hP5, hP6⟩ := (show xΦln x0 (zyEl zymx B s.heap) from hΦ)
        obtain ⟨s1, s1b, s2, s3, s4, s5, s6, s7, s8⟩ := xRD_i hPs hPp
        have s4 := s4 hPk
        have hw := hw.mp (by omega)
        refine xCa hRu hIH hAt hB hv hFr (hfbb B) (ix := 473) (ax := 5152) rfl rfl rfl hmefbb ⟨_, rfl, rfl, by decide⟩ ⟨rfl, rfl, rfl⟩ (by decide) [] [] [] rfl ⟨rfl, rfl⟩ (by decide +kernel) xcs_n (by decide +kernel) ?_ (fun H3 r hT3 hf3 hFr3 hr3 hΨ3 => ?_)
        · show xΦbb (xfv []) (zyEl zymx B H2)
          rw [hEE]
          exact ⟨hP1, by omega, hP3, hP4, hP5, hP6⟩
        · have hΨ3 : xΨbb (xfv []) (zyEl zymx B H2) (zyEl zymx B H3) r := hΨ3
          have d74_42 : xE (zyEl zymx B H3) 74 42 = xE (zyEl zymx B H2) 74 42 := xFr_E hf3 rfl
          have d75_0 : xE (zyEl zymx B H3) 75 0 = xE (zyEl zymx B H2) 75 0 := xFr_E hf3 rfl
          have d75_1 : xE (zyEl zymx B H3) 75 1 = xE (zyEl zymx B H2) 75 1 := xFr_E hf3 rfl
          have d84 : ∀ i, xE (zyEl zymx B H3) 84 i = xE (zyEl zymx B H2) 84 i := fun i => xFr_E hf3 rfl
          have hΨ3 : xΨbb (xfv []) (zyEl zymx B s.heap) (zyEl zymx B H3) r := by rw [← hEE]; exact hΨ3
          have hg : xRs (xE (zyEl zymx B s.heap) 84) (xE (zyEl zymx B s.heap) 74 42) (zyEl zymx B H3) (pBobbin (xE (zyEl zymx B s.heap) 84) (xE (zyEl zymx B s.heap) 74 42) (xE (zyEl zymx B s.heap) 74 38) (xE (zyEl zymx B s.heap) 74 39) (xE (zyEl zymx B s.heap) 75)) := hΨ3 _ s1
          rw [s4.1] at hg
          refine ⟨⟨10, by decide⟩, [0], [0], rfl, ⟨by decide +kernel, ⟨rfl, by decide +kernel⟩, (xcs_c rfl xcs_n), (xe_0 xe_n), xkq_n⟩, (by rw [if_neg (by decide)]; exact xst_n), ?_, ?_⟩
          · show xRs (xE (zyEl zymx B s.heap) 84) (xE (zyEl zymx B s.heap) 74 42) (zyEl zymx B H3) (pBody (xE (zyEl zymx B s.heap) 84) (xE (zyEl zymx B s.heap) 74 42) (xE (zyEl zymx B s.heap) 74 38) (xE (zyEl zymx B s.heap) 75))
            unfold pBody
            rw [if_neg n1, if_pos hw]
            exact hg
          · show 90 < 97
            omega
      · skip
        have ex := List.mem_singleton.mp hx
        subst ex
        obtain ⟨hF, hBd, hM⟩ := hXs
        have g1 : v2 1 = v 1 := hag 1 (by decide)
        have b0 : ((2147483648 : Nat) : Int) ≤ (v2 1) + 2147483648 ∧ (v2 1) + 2147483648 ≤ ((2147483648 : Nat) : Int) := xXb hBd 0 rfl
        have f0 : (v2 1) = 0 := xXf hF 0 rfl
        have e74_36 : xE (zyEl zymx B H2) 74 36 = xE (zyEl zymx B H) 74 36 := xFr_E hfr rfl
        have e74_37 : xE (zyEl zymx B H2) 74 37 = xE (zyEl zymx B H) 74 37 := xFr_E hfr rfl
        have e74_38 : xE (zyEl zymx B H2) 74 38 = xE (zyEl zymx B H) 74 38 := xFr_E hfr rfl
        have e74_39 : xE (zyEl zymx B H2) 74 39 = xE (zyEl zymx B H) 74 39 := xFr_E hfr rfl
        have e74_40 : xE (zyEl zymx B H2) 74 40 = xE (zyEl zymx B H) 74 40 := xFr_E hfr rfl
        have e74_41 : xE (zyEl zymx B H2) 74 41 = xE (zyEl zymx B H) 74 41 := xFr_E hfr rfl
        have e74_42 : xE (zyEl zymx B H2) 74 42 = xE (zyEl zymx B H) 74 42 := xFr_E hfr rfl
        have q74_42 : xE (zyEl zymx B H) 74 42 = xE (zyEl zymx B s.heap) 74 42 := xFr_E hFr0 rfl
        have e75_0 : xE (zyEl zymx B H2) 75 0 = xE (zyEl zymx B H) 75 0 := xFr_E hfr rfl
        have q75_0 : xE (zyEl zymx B H) 75 0 = xE (zyEl zymx B s.heap) 75 0 := xFr_E hFr0 rfl
        have e75_1 : xE (zyEl zymx B H2) 75 1 = xE (zyEl zymx B H) 75 1 := xFr_E hfr rfl
        have q75_1 : xE (zyEl zymx B H) 75 1 = xE (zyEl zymx B s.heap) 75 1 := xFr_E hFr0 rfl
        have e75_2 : xE (zyEl zymx B H2) 75 2 = xE (zyEl zymx B H) 75 2 := xFr_E hfr rfl
        have e84 : ∀ i, xE (zyEl zymx B H2) 84 i = xE (zyEl zymx B H) 84 i := fun i => xFr_E hfr rfl
        have q84 : ∀ i, xE (zyEl zymx B H) 84 i = xE (zyEl zymx B s.heap) 84 i := fun i => xFr_E hFr0 rfl
        have e75 : ∀ i, xE (zyEl zymx B H2) 75 i = xE (zyEl zymx B H) 75 i := fun i => xFr_E hfr rfl
        have y74_42 : ((2147483648 : Nat) : Int) ≤ xE (zyEl zymx B s.heap) 74 42 + 2147483648 ∧ xE (zyEl zymx B s.heap) 74 42 + 2147483648 ≤ ((2147484548 : Nat) : Int) := xTyF hT0 74 42 42 rfl rfl rfl rfl rfl rfl
        have hI : (zyEl zymx B H) = (zyEl zymx B s.heap) ∧ ¬ (tW (xE (zyEl zymx B s.heap) 84) (xE (zyEl zymx B s.heap) 74 42) (xE (zyEl zymx B s.heap) 74 38) [115, 119, 105, 116, 99, 104] = true) ∧ ((v 1) = 1 ↔ tW (xE (zyEl zymx B s.heap) 84) (xE (zyEl zymx B s.heap) 74 42) (xE (zyEl zymx B s.heap) 74 38) [98, 111, 98, 98, 105, 110] = true) := hInv
        have q74_36 : xE (zyEl zymx B H) 74 36 = xE (zyEl zymx B s.heap) 74 36 := by rw [hI.1]
        have q74_37 : xE (zyEl zymx B H) 74 37 = xE (zyEl zymx B s.heap) 74 37 := by rw [hI.1]
        have q74_38 : xE (zyEl zymx B H) 74 38 = xE (zyEl zymx B s.heap) 74 38 := by rw [hI.1]
        have q74_39 : xE (zyEl zymx B H) 74 39 = xE (zyEl zymx B s.heap) 74 39 := by rw [hI.1]
        have q74_40 : xE (zyEl zymx B H) 74 40 = xE (zyEl zymx B s.heap) 74 40 := by rw [hI.1]
        have q74_41 : xE (zyEl zymx B H) 74 41 = xE (zyEl zymx B s.heap) 74 41 := by rw [hI.1]
        have q75_2 : xE (zyEl zymx B H) 75 2 = xE (zyEl zymx B s.heap) 75 2 := by rw [hI.1]
        have q75 : ∀ i, xE (zyEl zymx B H) 75 i = xE (zyEl zymx B s.heap) 75 i := fun i => by rw [hI.1]
        obtain ⟨hE, n1, hw⟩ := hI
        have hEE : (zyEl zymx B H2) = (zyEl zymx B s.heap) := (xFr_n hfr).trans hE
        obtain ⟨hPW, hP1, ⟨hPp, hPs⟩, hPk, hP3, hP4, hP5, hP6⟩ := (show xΦln x0 (zyEl zymx B s.heap) from hΦ)
        obtain ⟨s1, s1b, s2, s3, s4, s5, s6, s7, s8⟩ := xRD_i hPs hPp
        have s4 := s4 hPk
        have hw : ¬ (tW (xE (zyEl zymx B s.heap) 84) (xE (zyEl zymx B s.heap) 74 42) (xE (zyEl zymx B s.heap) 74 38) [98, 111, 98, 98, 105, 110] = true) := fun z => by
          have := hw.mpr z
          omega
        refine xCa hRu hIH hAt hB hv hFr (hfiw B) (ix := 459) (ax := 5056) rfl rfl rfl hmefiw ⟨_, rfl, rfl, by decide⟩ ⟨rfl, rfl, rfl⟩ (by decide) [24] [] [3] rfl ⟨rfl, rfl⟩ (by decide +kernel) (xcs_c rfl xcs_n) (by decide +kernel) ?_ (fun H3 r hT3 hf3 hFr3 hr3 hΨ3 => ?_)
        · show xΦiw (xfv [3]) (zyEl zymx B H2)
          rw [hEE]
          exact ⟨by decide, hPW⟩
        · have hΨ3 : xΨiw (xfv [3]) (zyEl zymx B H2) (zyEl zymx B H3) r := hΨ3
          have d74_36 : xE (zyEl zymx B H3) 74 36 = xE (zyEl zymx B H2) 74 36 := xFr_E hf3 rfl
          have d74_37 : xE (zyEl zymx B H3) 74 37 = xE (zyEl zymx B H2) 74 37 := xFr_E hf3 rfl
          have d74_38 : xE (zyEl zymx B H3) 74 38 = xE (zyEl zymx B H2) 74 38 := xFr_E hf3 rfl
          have d74_39 : xE (zyEl zymx B H3) 74 39 = xE (zyEl zymx B H2) 74 39 := xFr_E hf3 rfl
          have d74_40 : xE (zyEl zymx B H3) 74 40 = xE (zyEl zymx B H2) 74 40 := xFr_E hf3 rfl
          have d74_41 : xE (zyEl zymx B H3) 74 41 = xE (zyEl zymx B H2) 74 41 := xFr_E hf3 rfl
          have d74_42 : xE (zyEl zymx B H3) 74 42 = xE (zyEl zymx B H2) 74 42 := xFr_E hf3 rfl
          have d75_0 : xE (zyEl zymx B H3) 75 0 = xE (zyEl zymx B H2) 75 0 := xFr_E hf3 rfl
          have d75_1 : xE (zyEl zymx B H3) 75 1 = xE (zyEl zymx B H2) 75 1 := xFr_E hf3 rfl
          have d75_2 : xE (zyEl zymx B H3) 75 2 = xE (zyEl zymx B H2) 75 2 := xFr_E hf3 rfl
          have d84 : ∀ i, xE (zyEl zymx B H3) 84 i = xE (zyEl zymx B H2) 84 i := fun i => xFr_E hf3 rfl
          have d75 : ∀ i, xE (zyEl zymx B H3) 75 i = xE (zyEl zymx B H2) 75 i := fun i => xFr_E hf3 rfl
          obtain ⟨hb, hb0, hb1⟩ := (show xΨiw (xfv [3]) (zyEl zymx B H2) (zyEl zymx B H3) r from hΨ3)
          rw [hEE] at hb1
          have hw2 : r = 1 ↔ tW (xE (zyEl zymx B s.heap) 84) (xE (zyEl zymx B s.heap) 74 42) (xE (zyEl zymx B s.heap) 74 38) [115, 116, 117, 99, 107] = true := hb1 _ hPp hPs hP1
          have hE3 : (zyEl zymx B H3) = (zyEl zymx B s.heap) := (xFr_n hf3).trans hEE
          refine ⟨⟨4, by decide⟩, [0], [0, r], rfl, ⟨by decide +kernel, ⟨rfl, by decide +kernel⟩, (xcs_c rfl xcs_n), (xe_0 (xe_c (by omega) (by omega) rfl xe_n)), xkq_n⟩, (by rw [if_pos rfl]; exact ⟨1, [], rfl, by decide, rfl, xst_n⟩), ?_, ?_⟩
          · show (zyEl zymx B H3) = (zyEl zymx B s.heap) ∧ ¬ (tW (xE (zyEl zymx B s.heap) 84) (xE (zyEl zymx B s.heap) 74 42) (xE (zyEl zymx B s.heap) 74 38) [115, 119, 105, 116, 99, 104] = true) ∧ ¬ (tW (xE (zyEl zymx B s.heap) 84) (xE (zyEl zymx B s.heap) 74 42) (xE (zyEl zymx B s.heap) 74 38) [98, 111, 98, 98, 105, 110] = true) ∧ ((r : Int) = 1 ↔ tW (xE (zyEl zymx B s.heap) 84) (xE (zyEl zymx B s.heap) 74 42) (xE (zyEl zymx B s.heap) 74 38) [115, 116, 117, 99, 107] = true)
            exact ⟨hE3, n1, hw, hw2⟩
          · show 96 < 97
            omega
    · have hx : x ∈ [zxfli_b3x0, zxfli_b3x1] := hx
      have hag : ∀ k, k < 2 → v2 k = v k := hag
      have hfr : xFr [] _ _ := hfr
      rcases List.mem_cons.mp hx with ex | hx
      · subst ex
        obtain ⟨hF, hBd, hM⟩ := hXs
        have g1 : v2 1 = v 1 := hag 1 (by decide)
        have b0 : ((2147483649 : Nat) : Int) ≤ (v2 1) + 2147483648 ∧ (v2 1) + 2147483648 ≤ ((2147483649 : Nat) : Int) := xXb hBd 0 rfl
        have f0 : ¬ (v2 1) = 0 := xXf hF 0 rfl
        have e74_36 : xE (zyEl zymx B H2) 74 36 = xE (zyEl zymx B H) 74 36 := xFr_E hfr rfl
        have e74_37 : xE (zyEl zymx B H2) 74 37 = xE (zyEl zymx B H) 74 37 := xFr_E hfr rfl
        have e74_38 : xE (zyEl zymx B H2) 74 38 = xE (zyEl zymx B H) 74 38 := xFr_E hfr rfl
        have e74_39 : xE (zyEl zymx B H2) 74 39 = xE (zyEl zymx B H) 74 39 := xFr_E hfr rfl
        have e74_40 : xE (zyEl zymx B H2) 74 40 = xE (zyEl zymx B H) 74 40 := xFr_E hfr rfl
        have e74_41 : xE (zyEl zymx B H2) 74 41 = xE (zyEl zymx B H) 74 41 := xFr_E hfr rfl
        have e74_42 : xE (zyEl zymx B H2) 74 42 = xE (zyEl zymx B H) 74 42 := xFr_E hfr rfl
        have q74_42 : xE (zyEl zymx B H) 74 42 = xE (zyEl zymx B s.heap) 74 42 := xFr_E hFr0 rfl
        have e75_0 : xE (zyEl zymx B H2) 75 0 = xE (zyEl zymx B H) 75 0 := xFr_E hfr rfl
        have q75_0 : xE (zyEl zymx B H) 75 0 = xE (zyEl zymx B s.heap) 75 0 := xFr_E hFr0 rfl
        have e75_1 : xE (zyEl zymx B H2) 75 1 = xE (zyEl zymx B H) 75 1 := xFr_E hfr rfl
        have q75_1 : xE (zyEl zymx B H) 75 1 = xE (zyEl zymx B s.heap) 75 1 := xFr_E hFr0 rfl
        have e75_2 : xE (zyEl zymx B H2) 75 2 = xE (zyEl zymx B H) 75 2 := xFr_E hfr rfl
        have e84 : ∀ i, xE (zyEl zymx B H2) 84 i = xE (zyEl zymx B H) 84 i := fun i => xFr_E hfr rfl
        have q84 : ∀ i, xE (zyEl zymx B H) 84 i = xE (zyEl zymx B s.heap) 84 i := fun i => xFr_E hFr0 rfl
        have e75 : ∀ i, xE (zyEl zymx B H2) 75 i = xE (zyEl zymx B H) 75 i := fun i => xFr_E hfr rfl
        have y74_42 : ((2147483648 : Nat) : Int) ≤ xE (zyEl zymx B s.heap) 74 42 + 2147483648 ∧ xE (zyEl zymx B s.heap) 74 42 + 2147483648 ≤ ((2147484548 : Nat) : Int) := xTyF hT0 74 42 42 rfl rfl rfl rfl rfl rfl
        have hI : (zyEl zymx B H) = (zyEl zymx B s.heap) ∧ ¬ (tW (xE (zyEl zymx B s.heap) 84) (xE (zyEl zymx B s.heap) 74 42) (xE (zyEl zymx B s.heap) 74 38) [115, 119, 105, 116, 99, 104] = true) ∧ ¬ (tW (xE (zyEl zymx B s.heap) 84) (xE (zyEl zymx B s.heap) 74 42) (xE (zyEl zymx B s.heap) 74 38) [98, 111, 98, 98, 105, 110] = true) ∧ ((v 1) = 1 ↔ tW (xE (zyEl zymx B s.heap) 84) (xE (zyEl zymx B s.heap) 74 42) (xE (zyEl zymx B s.heap) 74 38) [115, 116, 117, 99, 107] = true) := hInv
        have q74_36 : xE (zyEl zymx B H) 74 36 = xE (zyEl zymx B s.heap) 74 36 := by rw [hI.1]
        have q74_37 : xE (zyEl zymx B H) 74 37 = xE (zyEl zymx B s.heap) 74 37 := by rw [hI.1]
        have q74_38 : xE (zyEl zymx B H) 74 38 = xE (zyEl zymx B s.heap) 74 38 := by rw [hI.1]
        have q74_39 : xE (zyEl zymx B H) 74 39 = xE (zyEl zymx B s.heap) 74 39 := by rw [hI.1]
        have q74_40 : xE (zyEl zymx B H) 74 40 = xE (zyEl zymx B s.heap) 74 40 := by rw [hI.1]
        have q74_41 : xE (zyEl zymx B H) 74 41 = xE (zyEl zymx B s.heap) 74 41 := by rw [hI.1]
        have q75_2 : xE (zyEl zymx B H) 75 2 = xE (zyEl zymx B s.heap) 75 2 := by rw [hI.1]
        have q75 : ∀ i, xE (zyEl zymx B H) 75 i = xE (zyEl zymx B s.heap) 75 i := fun i => by rw [hI.1]
        obtain ⟨hE, n1, n2, hw⟩ := hI
        have hEE : (zyEl zymx B H2) = (zyEl zymx B s.heap) := (xFr_n hfr).trans hE
        obtain ⟨hPW, hP1, ⟨hPp, hPs⟩, hPk, hP3, hP4, hP5, hP6⟩ := (show xΦln x0 (zyEl zymx B s.heap) from hΦ)
        obtain ⟨s1, s1b, s2, s3, s4, s5, s6, s7, s8⟩ := xRD_i hPs hPp
        have s4 := s4 hPk
        have hw := hw.mp (by omega)
        refine xCa hRu hIH hAt hB hv hFr (hfsk B) (ix := 476) (ax := 5168) rfl rfl rfl hmefsk ⟨_, rfl, rfl, by decide⟩ ⟨rfl, rfl, rfl⟩ (by decide) [] [] [] rfl ⟨rfl, rfl⟩ (by decide +kernel) xcs_n (by decide +kernel) ?_ (fun H3 r hT3 hf3 hFr3 hr3 hΨ3 => ?_)
        · show xΦsk (xfv []) (zyEl zymx B H2)
          rw [hEE]
          exact ⟨hPW, hP1, by omega, hP3, hP4⟩
        · have hΨ3 : xΨsk (xfv []) (zyEl zymx B H2) (zyEl zymx B H3) r := hΨ3
          have d74_42 : xE (zyEl zymx B H3) 74 42 = xE (zyEl zymx B H2) 74 42 := xFr_E hf3 rfl
          have d75_0 : xE (zyEl zymx B H3) 75 0 = xE (zyEl zymx B H2) 75 0 := xFr_E hf3 rfl
          have d75_1 : xE (zyEl zymx B H3) 75 1 = xE (zyEl zymx B H2) 75 1 := xFr_E hf3 rfl
          have d75_2 : xE (zyEl zymx B H3) 75 2 = xE (zyEl zymx B H2) 75 2 := xFr_E hf3 rfl
          have d84 : ∀ i, xE (zyEl zymx B H3) 84 i = xE (zyEl zymx B H2) 84 i := fun i => xFr_E hf3 rfl
          have hΨ3 : xΨsk (xfv []) (zyEl zymx B s.heap) (zyEl zymx B H3) r := by rw [← hEE]; exact hΨ3
          have hg : xRs (xE (zyEl zymx B s.heap) 84) (xE (zyEl zymx B s.heap) 74 42) (zyEl zymx B H3) (pStuck (xE (zyEl zymx B s.heap) 84) (xE (zyEl zymx B s.heap) 74 42) (xE (zyEl zymx B s.heap) 74 39) (xE (zyEl zymx B s.heap) 75)) := hΨ3
          rw [s4.1] at hg
          refine ⟨⟨11, by decide⟩, [0], [0], rfl, ⟨by decide +kernel, ⟨rfl, by decide +kernel⟩, (xcs_c rfl xcs_n), (xe_0 xe_n), xkq_n⟩, (by rw [if_neg (by decide)]; exact xst_n), ?_, ?_⟩
          · show xRs (xE (zyEl zymx B s.heap) 84) (xE (zyEl zymx B s.heap) 74 42) (zyEl zymx B H3) (pBody (xE (zyEl zymx B s.heap) 84) (xE (zyEl zymx B s.heap) 74 42) (xE (zyEl zymx B s.heap) 74 38) (xE (zyEl zymx B s.heap) 75))
            unfold pBody
            rw [if_neg n1, if_neg n2, if_pos hw]
            exact hg
          · show 89 < 96
            omega
      · skip
        have ex := List.mem_singleton.mp hx
        subst ex
        obtain ⟨hF, hBd, hM⟩ := hXs
        have g1 : v2 1 = v 1 := hag 1 (by decide)
        have b0 : ((2147483648 : Nat) : Int) ≤ (v2 1) + 2147483648 ∧ (v2 1) + 2147483648 ≤ ((2147483648 : Nat) : Int) := xXb hBd 0 rfl
        have f0 : (v2 1) = 0 := xXf hF 0 rfl
        have e74_36 : xE (zyEl zymx B H2) 74 36 = xE (zyEl zymx B H) 74 36 := xFr_E hfr rfl
        have e74_37 : xE (zyEl zymx B H2) 74 37 = xE (zyEl zymx B H) 74 37 := xFr_E hfr rfl
        have e74_38 : xE (zyEl zymx B H2) 74 38 = xE (zyEl zymx B H) 74 38 := xFr_E hfr rfl
        have e74_39 : xE (zyEl zymx B H2) 74 39 = xE (zyEl zymx B H) 74 39 := xFr_E hfr rfl
        have e74_40 : xE (zyEl zymx B H2) 74 40 = xE (zyEl zymx B H) 74 40 := xFr_E hfr rfl
        have e74_41 : xE (zyEl zymx B H2) 74 41 = xE (zyEl zymx B H) 74 41 := xFr_E hfr rfl
        have e74_42 : xE (zyEl zymx B H2) 74 42 = xE (zyEl zymx B H) 74 42 := xFr_E hfr rfl
        have q74_42 : xE (zyEl zymx B H) 74 42 = xE (zyEl zymx B s.heap) 74 42 := xFr_E hFr0 rfl
        have e75_0 : xE (zyEl zymx B H2) 75 0 = xE (zyEl zymx B H) 75 0 := xFr_E hfr rfl
        have q75_0 : xE (zyEl zymx B H) 75 0 = xE (zyEl zymx B s.heap) 75 0 := xFr_E hFr0 rfl
        have e75_1 : xE (zyEl zymx B H2) 75 1 = xE (zyEl zymx B H) 75 1 := xFr_E hfr rfl
        have q75_1 : xE (zyEl zymx B H) 75 1 = xE (zyEl zymx B s.heap) 75 1 := xFr_E hFr0 rfl
        have e75_2 : xE (zyEl zymx B H2) 75 2 = xE (zyEl zymx B H) 75 2 := xFr_E hfr rfl
        have e84 : ∀ i, xE (zyEl zymx B H2) 84 i = xE (zyEl zymx B H) 84 i := fun i => xFr_E hfr rfl
        have q84 : ∀ i, xE (zyEl zymx B H) 84 i = xE (zyEl zymx B s.heap) 84 i := fun i => xFr_E hFr0 rfl
        have e75 : ∀ i, xE (zyEl zymx B H2) 75 i = xE (zyEl zymx B H) 75 i := fun i => xFr_E hfr rfl
        have y74_42 : ((2147483648 : Nat) : Int) ≤ xE (zyEl zymx B s.heap) 74 42 + 2147483648 ∧ xE (zyEl zymx B s.heap) 74 42 + 2147483648 ≤ ((2147484548 : Nat) : Int) := xTyF hT0 74 42 42 rfl rfl rfl rfl rfl rfl
        have hI : (zyEl zymx B H) = (zyEl zymx B s.heap) ∧ ¬ (tW (xE (zyEl zymx B s.heap) 84) (xE (zyEl zymx B s.heap) 74 42) (xE (zyEl zymx B s.heap) 74 38) [115, 119, 105, 116, 99, 104] = true) ∧ ¬ (tW (xE (zyEl zymx B s.heap) 84) (xE (zyEl zymx B s.heap) 74 42) (xE (zyEl zymx B s.heap) 74 38) [98, 111, 98, 98, 105, 110] = true) ∧ ((v 1) = 1 ↔ tW (xE (zyEl zymx B s.heap) 84) (xE (zyEl zymx B s.heap) 74 42) (xE (zyEl zymx B s.heap) 74 38) [115, 116, 117, 99, 107] = true) := hInv
        have q74_36 : xE (zyEl zymx B H) 74 36 = xE (zyEl zymx B s.heap) 74 36 := by rw [hI.1]
        have q74_37 : xE (zyEl zymx B H) 74 37 = xE (zyEl zymx B s.heap) 74 37 := by rw [hI.1]
        have q74_38 : xE (zyEl zymx B H) 74 38 = xE (zyEl zymx B s.heap) 74 38 := by rw [hI.1]
        have q74_39 : xE (zyEl zymx B H) 74 39 = xE (zyEl zymx B s.heap) 74 39 := by rw [hI.1]
        have q74_40 : xE (zyEl zymx B H) 74 40 = xE (zyEl zymx B s.heap) 74 40 := by rw [hI.1]
        have q74_41 : xE (zyEl zymx B H) 74 41 = xE (zyEl zymx B s.heap) 74 41 := by rw [hI.1]
        have q75_2 : xE (zyEl zymx B H) 75 2 = xE (zyEl zymx B s.heap) 75 2 := by rw [hI.1]
        have q75 : ∀ i, xE (zyEl zymx B H) 75 i = xE (zyEl zymx B s.heap) 75 i := fun i => by rw [hI.1]
        obtain ⟨hE, n1, n2, hw⟩ := hI
        have hEE : (zyEl zymx B H2) = (zyEl zymx B s.heap) := (xFr_n hfr).trans hE
        obtain ⟨hPW, hP1, ⟨hPp, hPs⟩, hPk, hP3, hP4, hP5, hP6⟩ := (show xΦln x0 (zyEl zymx B s.heap) from hΦ)
        obtain ⟨s1, s1b, s2, s3, s4, s5, s6, s7, s8⟩ := xRD_i hPs hPp
        have s4 := s4 hPk
        have hw : ¬ (tW (xE (zyEl zymx B s.heap) 84) (xE (zyEl zymx B s.heap) 74 42) (xE (zyEl zymx B s.heap) 74 38) [115, 116, 117, 99, 107] = true) := fun z => by
          have := hw.mpr z
          omega
        refine xCa hRu hIH hAt hB hv hFr (hfiw B) (ix := 459) (ax := 5056) rfl rfl rfl hmefiw ⟨_, rfl, rfl, by decide⟩ ⟨rfl, rfl, rfl⟩ (by decide) [48] [] [6] rfl ⟨rfl, rfl⟩ (by decide +kernel) (xcs_c rfl xcs_n) (by decide +kernel) ?_ (fun H3 r hT3 hf3 hFr3 hr3 hΨ3 => ?_)
        · show xΦiw (xfv [6]) (zyEl zymx B H2)
          rw [hEE]
          exact ⟨by decide, hPW⟩
        · have hΨ3 : xΨiw (xfv [6]) (zyEl zymx B H2) (zyEl zymx B H3) r := hΨ3
          have d74_36 : xE (zyEl zymx B H3) 74 36 = xE (zyEl zymx B H2) 74 36 := xFr_E hf3 rfl
          have d74_37 : xE (zyEl zymx B H3) 74 37 = xE (zyEl zymx B H2) 74 37 := xFr_E hf3 rfl
          have d74_38 : xE (zyEl zymx B H3) 74 38 = xE (zyEl zymx B H2) 74 38 := xFr_E hf3 rfl
          have d74_39 : xE (zyEl zymx B H3) 74 39 = xE (zyEl zymx B H2) 74 39 := xFr_E hf3 rfl
          have d74_40 : xE (zyEl zymx B H3) 74 40 = xE (zyEl zymx B H2) 74 40 := xFr_E hf3 rfl
          have d74_41 : xE (zyEl zymx B H3) 74 41 = xE (zyEl zymx B H2) 74 41 := xFr_E hf3 rfl
          have d74_42 : xE (zyEl zymx B H3) 74 42 = xE (zyEl zymx B H2) 74 42 := xFr_E hf3 rfl
          have d75_0 : xE (zyEl zymx B H3) 75 0 = xE (zyEl zymx B H2) 75 0 := xFr_E hf3 rfl
          have d75_1 : xE (zyEl zymx B H3) 75 1 = xE (zyEl zymx B H2) 75 1 := xFr_E hf3 rfl
          have d75_2 : xE (zyEl zymx B H3) 75 2 = xE (zyEl zymx B H2) 75 2 := xFr_E hf3 rfl
          have d84 : ∀ i, xE (zyEl zymx B H3) 84 i = xE (zyEl zymx B H2) 84 i := fun i => xFr_E hf3 rfl
          have d75 : ∀ i, xE (zyEl zymx B H3) 75 i = xE (zyEl zymx B H2) 75 i := fun i => xFr_E hf3 rfl
          obtain ⟨hb, hb0, hb1⟩ := (show xΨiw (xfv [6]) (zyEl zymx B H2) (zyEl zymx B H3) r from hΨ3)
          rw [hEE] at hb1
          have hw2 : r = 1 ↔ tW (xE (zyEl zymx B s.heap) 84) (xE (zyEl zymx B s.heap) 74 42) (xE (zyEl zymx B s.heap) 74 38) [102, 114, 101, 101] = true := hb1 _ hPp hPs hP1
          have hE3 : (zyEl zymx B H3) = (zyEl zymx B s.heap) := (xFr_n hf3).trans hEE
          refine ⟨⟨5, by decide⟩, [0], [0, r], rfl, ⟨by decide +kernel, ⟨rfl, by decide +kernel⟩, (xcs_c rfl xcs_n), (xe_0 (xe_c (by omega) (by omega) rfl xe_n)), xkq_n⟩, (by rw [if_pos rfl]; exact ⟨1, [], rfl, by decide, rfl, xst_n⟩), ?_, ?_⟩
          · show (zyEl zymx B H3) = (zyEl zymx B s.heap) ∧ ¬ (tW (xE (zyEl zymx B s.heap) 84) (xE (zyEl zymx B s.heap) 74 42) (xE (zyEl zymx B s.heap) 74 38) [115, 119, 105, 116, 99, 104] = true) ∧ ¬ (tW (xE (zyEl zymx B s.heap) 84) (xE (zyEl zymx B s.heap) 74 42) (xE (zyEl zymx B s.heap) 74 38) [98, 111, 98, 98, 105, 110] = true) ∧ ¬ (tW (xE (zyEl zymx B s.heap) 84) (xE (zyEl zymx B s.heap) 74 42) (xE (zyEl zymx B s.heap) 74 38) [115, 116, 117, 99, 107] = true) ∧ ((r : Int) = 1 ↔ tW (xE (zyEl zymx B s.heap) 84) (xE (zyEl zymx B s.heap) 74 42) (xE (zyEl zymx B s.heap) 74 38) [102, 114, 101, 101] = true)
            exact ⟨hE3, n1, n2, hw, hw2⟩
          · show 95 < 96
            omega
    · have hx : x ∈ [zxfli_b6x0, zxfli_b6x1] := hx
      have hag : ∀ k, k < 2 → v2 k = v k := hag
      have hfr : xFr [] _ _ := hfr
      rcases List.mem_cons.mp hx with ex | hx
      · subst ex
        obtain ⟨hF, hBd, hM⟩ := hXs
        have g1 : v2 1 = v 1 := hag 1 (by decide)
        have b0 : ((2147483649 : Nat) : Int) ≤ (v2 1) + 2147483648 ∧ (v2 1) + 2147483648 ≤ ((2147483649 : Nat) : Int) := xXb hBd 0 rfl
        have f0 : ¬ (v2 1) = 0 := xXf hF 0 rfl
        have e74_36 : xE (zyEl zymx B H2) 74 36 = xE (zyEl zymx B H) 74 36 := xFr_E hfr rfl
        have e74_37 : xE (zyEl zymx B H2) 74 37 = xE (zyEl zymx B H) 74 37 := xFr_E hfr rfl
        have e74_38 : xE (zyEl zymx B H2) 74 38 = xE (zyEl zymx B H) 74 38 := xFr_E hfr rfl
        have e74_39 : xE (zyEl zymx B H2) 74 39 = xE (zyEl zymx B H) 74 39 := xFr_E hfr rfl
        have e74_40 : xE (zyEl zymx B H2) 74 40 = xE (zyEl zymx B H) 74 40 := xFr_E hfr rfl
        have e74_41 : xE (zyEl zymx B H2) 74 41 = xE (zyEl zymx B H) 74 41 := xFr_E hfr rfl
        have e74_42 : xE (zyEl zymx B H2) 74 42 = xE (zyEl zymx B H) 74 42 := xFr_E hfr rfl
        have q74_42 : xE (zyEl zymx B H) 74 42 = xE (zyEl zymx B s.heap) 74 42 := xFr_E hFr0 rfl
        have e75_0 : xE (zyEl zymx B H2) 75 0 = xE (zyEl zymx B H) 75 0 := xFr_E hfr rfl
        have q75_0 : xE (zyEl zymx B H) 75 0 = xE (zyEl zymx B s.heap) 75 0 := xFr_E hFr0 rfl
        have e75_1 : xE (zyEl zymx B H2) 75 1 = xE (zyEl zymx B H) 75 1 := xFr_E hfr rfl
        have q75_1 : xE (zyEl zymx B H) 75 1 = xE (zyEl zymx B s.heap) 75 1 := xFr_E hFr0 rfl
        have e75_2 : xE (zyEl zymx B H2) 75 2 = xE (zyEl zymx B H) 75 2 := xFr_E hfr rfl
        have e84 : ∀ i, xE (zyEl zymx B H2) 84 i = xE (zyEl zymx B H) 84 i := fun i => xFr_E hfr rfl
        have q84 : ∀ i, xE (zyEl zymx B H) 84 i = xE (zyEl zymx B s.heap) 84 i := fun i => xFr_E hFr0 rfl
        have e75 : ∀ i, xE (zyEl zymx B H2) 75 i = xE (zyEl zymx B H) 75 i := fun i => xFr_E hfr rfl
        have y74_42 : ((2147483648 : Nat) : Int) ≤ xE (zyEl zymx B s.heap) 74 42 + 2147483648 ∧ xE (zyEl zymx B s.heap) 74 42 + 2147483648 ≤ ((2147484548 : Nat) : Int) := xTyF hT0 74 42 42 rfl rfl rfl rfl rfl rfl
        have hI : (zyEl zymx B H) = (zyEl zymx B s.heap) ∧ ¬ (tW (xE (zyEl zymx B s.heap) 84) (xE (zyEl zymx B s.heap) 74 42) (xE (zyEl zymx B s.heap) 74 38) [115, 119, 105, 116, 99, 104] = true) ∧ ¬ (tW (xE (zyEl zymx B s.heap) 84) (xE (zyEl zymx B s.heap) 74 42) (xE (zyEl zymx B s.heap) 74 38) [98, 111, 98, 98, 105, 110] = true) ∧ ¬ (tW (xE (zyEl zymx B s.heap) 84) (xE (zyEl zymx B s.heap) 74 42) (xE (zyEl zymx B s.heap) 74 38) [115, 116, 117, 99, 107] = true) ∧ ((v 1) = 1 ↔ tW (xE (zyEl zymx B s.heap) 84) (xE (zyEl zymx B s.heap) 74 42) (xE (zyEl zymx B s.heap) 74 38) [102, 114, 101, 101] = true) := hInv
        have q74_36 : xE (zyEl zymx B H) 74 36 = xE (zyEl zymx B s.heap) 74 36 := by rw [hI.1]
        have q74_37 : xE (zyEl zymx B H) 74 37 = xE (zyEl zymx B s.heap) 74 37 := by rw [hI.1]
        have q74_38 : xE (zyEl zymx B H) 74 38 = xE (zyEl zymx B s.heap) 74 38 := by rw [hI.1]
        have q74_39 : xE (zyEl zymx B H) 74 39 = xE (zyEl zymx B s.heap) 74 39 := by rw [hI.1]
        have q74_40 : xE (zyEl zymx B H) 74 40 = xE (zyEl zymx B s.heap) 74 40 := by rw [hI.1]
        have q74_41 : xE (zyEl zymx B H) 74 41 = xE (zyEl zymx B s.heap) 74 41 := by rw [hI.1]
        have q75_2 : xE (zyEl zymx B H) 75 2 = xE (zyEl zymx B s.heap) 75 2 := by rw [hI.1]
        have q75 : ∀ i, xE (zyEl zymx B H) 75 i = xE (zyEl zymx B s.heap) 75 i := fun i => by rw [hI.1]
        obtain ⟨hE, n1, n2, n3, hw⟩ := hI
        have hEE : (zyEl zymx B H2) = (zyEl zymx B s.heap) := (xFr_n hfr).trans hE
        obtain ⟨hPW, hP1, ⟨hPp, hPs⟩, hPk, hP3, hP4, hP5, hP6⟩ := (show xΦln x0 (zyEl zymx B s.heap) from hΦ)
        obtain ⟨s1, s1b, s2, s3, s4, s5, s6, s7, s8⟩ := xRD_i hPs hPp
        have s4 := s4 hPk
        have hw := hw.mp (by omega)
        refine xCa hRu hIH hAt hB hv hFr (hffr B) (ix := 479) (ax := 5184) rfl rfl rfl hmeffr ⟨_, rfl, rfl, by decide⟩ ⟨rfl, rfl, rfl⟩ (by decide) [] [] [] rfl ⟨rfl, rfl⟩ (by decide +kernel) xcs_n (by decide +kernel) ?_ (fun H3 r hT3 hf3 hFr3 hr3 hΨ3 => ?_)
        · show xΦff (xfv []) (zyEl zymx B H2)
          rw [hEE]
          exact ⟨hP1, by omega, hP3, hP4⟩
        · have hΨ3 : xΨff (xfv []) (zyEl zymx B H2) (zyEl zymx B H3) r := hΨ3
          have d74_42 : xE (zyEl zymx B H3) 74 42 = xE (zyEl zymx B H2) 74 42 := xFr_E hf3 rfl
          have d75_0 : xE (zyEl zymx B H3) 75 0 = xE (zyEl zymx B H2) 75 0 := xFr_E hf3 rfl
          have d75_1 : xE (zyEl zymx B H3) 75 1 = xE (zyEl zymx B H2) 75 1 := xFr_E hf3 rfl
          have d75_2 : xE (zyEl zymx B H3) 75 2 = xE (zyEl zymx B H2) 75 2 := xFr_E hf3 rfl
          have d84 : ∀ i, xE (zyEl zymx B H3) 84 i = xE (zyEl zymx B H2) 84 i := fun i => xFr_E hf3 rfl
          have hΨ3 : xΨff (xfv []) (zyEl zymx B s.heap) (zyEl zymx B H3) r := by rw [← hEE]; exact hΨ3
          have hg : xRs (xE (zyEl zymx B s.heap) 84) (xE (zyEl zymx B s.heap) 74 42) (zyEl zymx B H3) (pFree (xE (zyEl zymx B s.heap) 84) (xE (zyEl zymx B s.heap) 74 42) (xE (zyEl zymx B s.heap) 74 38) (xE (zyEl zymx B s.heap) 74 39) (xE (zyEl zymx B s.heap) 75)) := hΨ3 _ s1
          rw [s4.1] at hg
          refine ⟨⟨12, by decide⟩, [0], [0], rfl, ⟨by decide +kernel, ⟨rfl, by decide +kernel⟩, (xcs_c rfl xcs_n), (xe_0 xe_n), xkq_n⟩, (by rw [if_neg (by decide)]; exact xst_n), ?_, ?_⟩
          · show xRs (xE (zyEl zymx B s.heap) 84) (xE (zyEl zymx B s.heap) 74 42) (zyEl zymx B H3) (pBody (xE (zyEl zymx B s.heap) 84) (xE (zyEl zymx B s.heap) 74 42) (xE (zyEl zymx B s.heap) 74 38) (xE (zyEl zymx B s.heap) 75))
            unfold pBody
            rw [if_neg n1, if_neg n2, if_neg n3, if_pos hw]
            exact hg
          · show 88 < 95
            omega
      · skip
        have ex := List.mem_singleton.mp hx
        subst ex
        obtain ⟨hF, hBd, hM⟩ := hXs
        have g1 : v2 1 = v 1 := hag 1 (by decide)
        have b0 : ((2147483648 : Nat) : Int) ≤ (v2 1) + 2147483648 ∧ (v2 1) + 2147483648 ≤ ((2147483648 : Nat) : Int) := xXb hBd 0 rfl
        have f0 : (v2 1) = 0 := xXf hF 0 rfl
        have e74_36 : xE (zyEl zymx B H2) 74 36 = xE (zyEl zymx B H) 74 36 := xFr_E hfr rfl
        have e74_37 : xE (zyEl zymx B H2) 74 37 = xE (zyEl zymx B H) 74 37 := xFr_E hfr rfl
        have e74_38 : xE (zyEl zymx B H2) 74 38 = xE (zyEl zymx B H) 74 38 := xFr_E hfr rfl
        have e74_39 : xE (zyEl zymx B H2) 74 39 = xE (zyEl zymx B H) 74 39 := xFr_E hfr rfl
        have e74_40 : xE (zyEl zymx B H2) 74 40 = xE (zyEl zymx B H) 74 40 := xFr_E hfr rfl
        have e74_41 : xE (zyEl zymx B H2) 74 41 = xE (zyEl zymx B H) 74 41 := xFr_E hfr rfl
        have e74_42 : xE (zyEl zymx B H2) 74 42 = xE (zyEl zymx B H) 74 42 := xFr_E hfr rfl
        have q74_42 : xE (zyEl zymx B H) 74 42 = xE (zyEl zymx B s.heap) 74 42 := xFr_E hFr0 rfl
        have e75_0 : xE (zyEl zymx B H2) 75 0 = xE (zyEl zymx B H) 75 0 := xFr_E hfr rfl
        have q75_0 : xE (zyEl zymx B H) 75 0 = xE (zyEl zymx B s.heap) 75 0 := xFr_E hFr0 rfl
        have e75_1 : xE (zyEl zymx B H2) 75 1 = xE (zyEl zymx B H) 75 1 := xFr_E hfr rfl
        have q75_1 : xE (zyEl zymx B H) 75 1 = xE (zyEl zymx B s.heap) 75 1 := xFr_E hFr0 rfl
        have e75_2 : xE (zyEl zymx B H2) 75 2 = xE (zyEl zymx B H) 75 2 := xFr_E hfr rfl
        have e84 : ∀ i, xE (zyEl zymx B H2) 84 i = xE (zyEl zymx B H) 84 i := fun i => xFr_E hfr rfl
        have q84 : ∀ i, xE (zyEl zymx B H) 84 i = xE (zyEl zymx B s.heap) 84 i := fun i => xFr_E hFr0 rfl
        have e75 : ∀ i, xE (zyEl zymx B H2) 75 i = xE (zyEl zymx B H) 75 i := fun i => xFr_E hfr rfl
        have y74_42 : ((2147483648 : Nat) : Int) ≤ xE (zyEl zymx B s.heap) 74 42 + 2147483648 ∧ xE (zyEl zymx B s.heap) 74 42 + 2147483648 ≤ ((2147484548 : Nat) : Int) := xTyF hT0 74 42 42 rfl rfl rfl rfl rfl rfl
        have hI : (zyEl zymx B H) = (zyEl zymx B s.heap) ∧ ¬ (tW (xE (zyEl zymx B s.heap) 84) (xE (zyEl zymx B s.heap) 74 42) (xE (zyEl zymx B s.heap) 74 38) [115, 119, 105, 116, 99, 104] = true) ∧ ¬ (tW (xE (zyEl zymx B s.heap) 84) (xE (zyEl zymx B s.heap) 74 42) (xE (zyEl zymx B s.heap) 74 38) [98, 111, 98, 98, 105, 110] = true) ∧ ¬ (tW (xE (zyEl zymx B s.heap) 84) (xE (zyEl zymx B s.heap) 74 42) (xE (zyEl zymx B s.heap) 74 38) [115, 116, 117, 99, 107] = true) ∧ ((v 1) = 1 ↔ tW (xE (zyEl zymx B s.heap) 84) (xE (zyEl zymx B s.heap) 74 42) (xE (zyEl zymx B s.heap) 74 38) [102, 114, 101, 101] = true) := hInv
        have q74_36 : xE (zyEl zymx B H) 74 36 = xE (zyEl zymx B s.heap) 74 36 := by rw [hI.1]
        have q74_37 : xE (zyEl zymx B H) 74 37 = xE (zyEl zymx B s.heap) 74 37 := by rw [hI.1]
        have q74_38 : xE (zyEl zymx B H) 74 38 = xE (zyEl zymx B s.heap) 74 38 := by rw [hI.1]
        have q74_39 : xE (zyEl zymx B H) 74 39 = xE (zyEl zymx B s.heap) 74 39 := by rw [hI.1]
        have q74_40 : xE (zyEl zymx B H) 74 40 = xE (zyEl zymx B s.heap) 74 40 := by rw [hI.1]
        have q74_41 : xE (zyEl zymx B H) 74 41 = xE (zyEl zymx B s.heap) 74 41 := by rw [hI.1]
        have q75_2 : xE (zyEl zymx B H) 75 2 = xE (zyEl zymx B s.heap) 75 2 := by rw [hI.1]
        have q75 : ∀ i, xE (zyEl zymx B H) 75 i = xE (zyEl zymx B s.heap) 75 i := fun i => by rw [hI.1]
        obtain ⟨hE, n1, n2, n3, hw⟩ := hI
        have hEE : (zyEl zymx B H2) = (zyEl zymx B s.heap) := (xFr_n hfr).trans hE
        obtain ⟨hPW, hP1, ⟨hPp, hPs⟩, hPk, hP3, hP4, hP5, hP6⟩ := (show xΦln x0 (zyEl zymx B s.heap) from hΦ)
        obtain ⟨s1, s1b, s2, s3, s4, s5, s6, s7, s8⟩ := xRD_i hPs hPp
        have s4 := s4 hPk
        have hw : ¬ (tW (xE (zyEl zymx B s.heap) 84) (xE (zyEl zymx B s.heap) 74 42) (xE (zyEl zymx B s.heap) 74 38) [102, 114, 101, 101] = true) := fun z => by
          have := hw.mpr z
          omega
        refine xCa hRu hIH hAt hB hv hFr (hfiw B) (ix := 459) (ax := 5056) rfl rfl rfl hmefiw ⟨_, rfl, rfl, by decide⟩ ⟨rfl, rfl, rfl⟩ (by decide) [56] [] [7] rfl ⟨rfl, rfl⟩ (by decide +kernel) (xcs_c rfl xcs_n) (by decide +kernel) ?_ (fun H3 r hT3 hf3 hFr3 hr3 hΨ3 => ?_)
        · show xΦiw (xfv [7]) (zyEl zymx B H2)
          rw [hEE]
          exact ⟨by decide, hPW⟩
        · have hΨ3 : xΨiw (xfv [7]) (zyEl zymx B H2) (zyEl zymx B H3) r := hΨ3
          have d74_36 : xE (zyEl zymx B H3) 74 36 = xE (zyEl zymx B H2) 74 36 := xFr_E hf3 rfl
          have d74_37 : xE (zyEl zymx B H3) 74 37 = xE (zyEl zymx B H2) 74 37 := xFr_E hf3 rfl
          have d74_38 : xE (zyEl zymx B H3) 74 38 = xE (zyEl zymx B H2) 74 38 := xFr_E hf3 rfl
          have d74_39 : xE (zyEl zymx B H3) 74 39 = xE (zyEl zymx B H2) 74 39 := xFr_E hf3 rfl
          have d74_40 : xE (zyEl zymx B H3) 74 40 = xE (zyEl zymx B H2) 74 40 := xFr_E hf3 rfl
          have d74_41 : xE (zyEl zymx B H3) 74 41 = xE (zyEl zymx B H2) 74 41 := xFr_E hf3 rfl
          have d74_42 : xE (zyEl zymx B H3) 74 42 = xE (zyEl zymx B H2) 74 42 := xFr_E hf3 rfl
          have d75_0 : xE (zyEl zymx B H3) 75 0 = xE (zyEl zymx B H2) 75 0 := xFr_E hf3 rfl
          have d75_1 : xE (zyEl zymx B H3) 75 1 = xE (zyEl zymx B H2) 75 1 := xFr_E hf3 rfl
          have d75_2 : xE (zyEl zymx B H3) 75 2 = xE (zyEl zymx B H2) 75 2 := xFr_E hf3 rfl
          have d84 : ∀ i, xE (zyEl zymx B H3) 84 i = xE (zyEl zymx B H2) 84 i := fun i => xFr_E hf3 rfl
          have d75 : ∀ i, xE (zyEl zymx B H3) 75 i = xE (zyEl zymx B H2) 75 i := fun i => xFr_E hf3 rfl
          obtain ⟨hb, hb0, hb1⟩ := (show xΨiw (xfv [7]) (zyEl zymx B H2) (zyEl zymx B H3) r from hΨ3)
          rw [hEE] at hb1
          have hw2 : r = 1 ↔ tW (xE (zyEl zymx B s.heap) 84) (xE (zyEl zymx B s.heap) 74 42) (xE (zyEl zymx B s.heap) 74 38) [112, 108, 97, 99, 101] = true := hb1 _ hPp hPs hP1
          have hE3 : (zyEl zymx B H3) = (zyEl zymx B s.heap) := (xFr_n hf3).trans hEE
          refine ⟨⟨6, by decide⟩, [0], [0, r], rfl, ⟨by decide +kernel, ⟨rfl, by decide +kernel⟩, (xcs_c rfl xcs_n), (xe_0 (xe_c (by omega) (by omega) rfl xe_n)), xkq_n⟩, (by rw [if_pos rfl]; exact ⟨1, [], rfl, by decide, rfl, xst_n⟩), ?_, ?_⟩
          · show (zyEl zymx B H3) = (zyEl zymx B s.heap) ∧ ¬ (tW (xE (zyEl zymx B s.heap) 84) (xE (zyEl zymx B s.heap) 74 42) (xE (zyEl zymx B s.heap) 74 38) [115, 119, 105, 116, 99, 104] = true) ∧ ¬ (tW (xE (zyEl zymx B s.heap) 84) (xE (zyEl zymx B s.heap) 74 42) (xE (zyEl zymx B s.heap) 74 38) [98, 111, 98, 98, 105, 110] = true) ∧ ¬ (tW (xE (zyEl zymx B s.heap) 84) (xE (zyEl zymx B s.heap) 74 42) (xE (zyEl zymx B s.heap) 74 38) [115, 116, 117, 99, 107] = true) ∧ ¬ (tW (xE (zyEl zymx B s.heap) 84) (xE (zyEl zymx B s.heap) 74 42) (xE (zyEl zymx B s.heap) 74 38) [102, 114, 101, 101] = true) ∧ ((r : Int) = 1 ↔ tW (xE (zyEl zymx B s.heap) 84) (xE (zyEl zymx B s.heap) 74 42) (xE (zyEl zymx B s.heap) 74 38) [112, 108, 97, 99, 101] = true)
            exact ⟨hE3, n1, n2, n3, hw, hw2⟩
          · show 94 < 95
            omega
    · have hx : x ∈ [zxfli_b7x0, zxfli_b7x1] := hx
      have hag : ∀ k, k < 2 → v2 k = v k := hag
      have hfr : xFr [] _ _ := hfr
      rcases List.mem_cons.mp hx with ex | hx
      · subst ex
        obtain ⟨hF, hBd, hM⟩ := hXs
        have g1 : v2 1 = v 1 := hag 1 (by decide)
        have b0 : ((2147483649 : Nat) : Int) ≤ (v2 1) + 2147483648 ∧ (v2 1) + 2147483648 ≤ ((2147483649 : Nat) : Int) := xXb hBd 0 rfl
        have f0 : ¬ (v2 1) = 0 := xXf hF 0 rfl
        have e74_36 : xE (zyEl zymx B H2) 74 36 = xE (zyEl zymx B H) 74 36 := xFr_E hfr rfl
        have e74_37 : xE (zyEl zymx B H2) 74 37 = xE (zyEl zymx B H) 74 37 := xFr_E hfr rfl
        have e74_38 : xE (zyEl zymx B H2) 74 38 = xE (zyEl zymx B H) 74 38 := xFr_E hfr rfl
        have e74_39 : xE (zyEl zymx B H2) 74 39 = xE (zyEl zymx B H) 74 39 := xFr_E hfr rfl
        have e74_40 : xE (zyEl zymx B H2) 74 40 = xE (zyEl zymx B H) 74 40 := xFr_E hfr rfl
        have e74_41 : xE (zyEl zymx B H2) 74 41 = xE (zyEl zymx B H) 74 41 := xFr_E hfr rfl
        have e74_42 : xE (zyEl zymx B H2) 74 42 = xE (zyEl zymx B H) 74 42 := xFr_E hfr rfl
        have q74_42 : xE (zyEl zymx B H) 74 42 = xE (zyEl zymx B s.heap) 74 42 := xFr_E hFr0 rfl
        have e75_0 : xE (zyEl zymx B H2) 75 0 = xE (zyEl zymx B H) 75 0 := xFr_E hfr rfl
        have q75_0 : xE (zyEl zymx B H) 75 0 = xE (zyEl zymx B s.heap) 75 0 := xFr_E hFr0 rfl
        have e75_1 : xE (zyEl zymx B H2) 75 1 = xE (zyEl zymx B H) 75 1 := xFr_E hfr rfl
        have q75_1 : xE (zyEl zymx B H) 75 1 = xE (zyEl zymx B s.heap) 75 1 := xFr_E hFr0 rfl
        have e75_2 : xE (zyEl zymx B H2) 75 2 = xE (zyEl zymx B H) 75 2 := xFr_E hfr rfl
        have e84 : ∀ i, xE (zyEl zymx B H2) 84 i = xE (zyEl zymx B H) 84 i := fun i => xFr_E hfr rfl
        have q84 : ∀ i, xE (zyEl zymx B H) 84 i = xE (zyEl zymx B s.heap) 84 i := fun i => xFr_E hFr0 rfl
        have e75 : ∀ i, xE (zyEl zymx B H2) 75 i = xE (zyEl zymx B H) 75 i := fun i => xFr_E hfr rfl
        have y74_42 : ((2147483648 : Nat) : Int) ≤ xE (zyEl zymx B s.heap) 74 42 + 2147483648 ∧ xE (zyEl zymx B s.heap) 74 42 + 2147483648 ≤ ((2147484548 : Nat) : Int) := xTyF hT0 74 42 42 rfl rfl rfl rfl rfl rfl
        have hI : (zyEl zymx B H) = (zyEl zymx B s.heap) ∧ ¬ (tW (xE (zyEl zymx B s.heap) 84) (xE (zyEl zymx B s.heap) 74 42) (xE (zyEl zymx B s.heap) 74 38) [115, 119, 105, 116, 99, 104] = true) ∧ ¬ (tW (xE (zyEl zymx B s.heap) 84) (xE (zyEl zymx B s.heap) 74 42) (xE (zyEl zymx B s.heap) 74 38) [98, 111, 98, 98, 105, 110] = true) ∧ ¬ (tW (xE (zyEl zymx B s.heap) 84) (xE (zyEl zymx B s.heap) 74 42) (xE (zyEl zymx B s.heap) 74 38) [115, 116, 117, 99, 107] = true) ∧ ¬ (tW (xE (zyEl zymx B s.heap) 84) (xE (zyEl zymx B s.heap) 74 42) (xE (zyEl zymx B s.heap) 74 38) [102, 114, 101, 101] = true) ∧ ((v 1) = 1 ↔ tW (xE (zyEl zymx B s.heap) 84) (xE (zyEl zymx B s.heap) 74 42) (xE (zyEl zymx B s.heap) 74 38) [112, 108, 97, 99, 101] = true) := hInv
        have q74_36 : xE (zyEl zymx B H) 74 36 = xE (zyEl zymx B s.heap) 74 36 := by rw [hI.1]
        have q74_37 : xE (zyEl zymx B H) 74 37 = xE (zyEl zymx B s.heap) 74 37 := by rw [hI.1]
        have q74_38 : xE (zyEl zymx B H) 74 38 = xE (zyEl zymx B s.heap) 74 38 := by rw [hI.1]
        have q74_39 : xE (zyEl zymx B H) 74 39 = xE (zyEl zymx B s.heap) 74 39 := by rw [hI.1]
        have q74_40 : xE (zyEl zymx B H) 74 40 = xE (zyEl zymx B s.heap) 74 40 := by rw [hI.1]
        have q74_41 : xE (zyEl zymx B H) 74 41 = xE (zyEl zymx B s.heap) 74 41 := by rw [hI.1]
        have q75_2 : xE (zyEl zymx B H) 75 2 = xE (zyEl zymx B s.heap) 75 2 := by rw [hI.1]
        have q75 : ∀ i, xE (zyEl zymx B H) 75 i = xE (zyEl zymx B s.heap) 75 i := fun i => by rw [hI.1]
        obtain ⟨hE, n1, n2, n3, n6, hw⟩ := hI
        have hEE : (zyEl zymx B H2) = (zyEl zymx B s.heap) := (xFr_n hfr).trans hE
        obtain ⟨hPW, hP1, ⟨hPp, hPs⟩, hPk, hP3, hP4, hP5, hP6⟩ := (show xΦln x0 (zyEl zymx B s.heap) from hΦ)
        obtain ⟨s1, s1b, s2, s3, s4, s5, s6, s7, s8⟩ := xRD_i hPs hPp
        have s4 := s4 hPk
        have hw := hw.mp (by omega)
        refine xCa hRu hIH hAt hB hv hFr (hfpl B) (ix := 482) (ax := 5200) rfl rfl rfl hmefpl ⟨_, rfl, rfl, by decide⟩ ⟨rfl, rfl, rfl⟩ (by decide) [] [] [] rfl ⟨rfl, rfl⟩ (by decide +kernel) xcs_n (by decide +kernel) ?_ (fun H3 r hT3 hf3 hFr3 hr3 hΨ3 => ?_)
        · show xΦpl (xfv []) (zyEl zymx B H2)
          rw [hEE]
          exact ⟨hP1, by omega, hP3, hP4, hP5⟩
        · have hΨ3 : xΨpl (xfv []) (zyEl zymx B H2) (zyEl zymx B H3) r := hΨ3
          have d74_42 : xE (zyEl zymx B H3) 74 42 = xE (zyEl zymx B H2) 74 42 := xFr_E hf3 rfl
          have d75_0 : xE (zyEl zymx B H3) 75 0 = xE (zyEl zymx B H2) 75 0 := xFr_E hf3 rfl
          have d75_1 : xE (zyEl zymx B H3) 75 1 = xE (zyEl zymx B H2) 75 1 := xFr_E hf3 rfl
          have d75_2 : xE (zyEl zymx B H3) 75 2 = xE (zyEl zymx B H2) 75 2 := xFr_E hf3 rfl
          have d84 : ∀ i, xE (zyEl zymx B H3) 84 i = xE (zyEl zymx B H2) 84 i := fun i => xFr_E hf3 rfl
          have hΨ3 : xΨpl (xfv []) (zyEl zymx B s.heap) (zyEl zymx B H3) r := by rw [← hEE]; exact hΨ3
          have hg : xRs (xE (zyEl zymx B s.heap) 84) (xE (zyEl zymx B s.heap) 74 42) (zyEl zymx B H3) (pPlace (xE (zyEl zymx B s.heap) 84) (xE (zyEl zymx B s.heap) 74 42) (xE (zyEl zymx B s.heap) 74 39) (xE (zyEl zymx B s.heap) 75)) := hΨ3
          rw [s4.1] at hg
          refine ⟨⟨13, by decide⟩, [0], [0], rfl, ⟨by decide +kernel, ⟨rfl, by decide +kernel⟩, (xcs_c rfl xcs_n), (xe_0 xe_n), xkq_n⟩, (by rw [if_neg (by decide)]; exact xst_n), ?_, ?_⟩
          · show xRs (xE (zyEl zymx B s.heap) 84) (xE (zyEl zymx B s.heap) 74 42) (zyEl zymx B H3) (pBody (xE (zyEl zymx B s.heap) 84) (xE (zyEl zymx B s.heap) 74 42) (xE (zyEl zymx B s.heap) 74 38) (xE (zyEl zymx B s.heap) 75))
            unfold pBody
            rw [if_neg n1, if_neg n2, if_neg n3, if_neg n6, if_pos hw]
            exact hg
          · show 87 < 94
            omega
      · skip
        have ex := List.mem_singleton.mp hx
        subst ex
        obtain ⟨hF, hBd, hM⟩ := hXs
        have g1 : v2 1 = v 1 := hag 1 (by decide)
        have b0 : ((2147483648 : Nat) : Int) ≤ (v2 1) + 2147483648 ∧ (v2 1) + 2147483648 ≤ ((2147483648 : Nat) : Int) := xXb hBd 0 rfl
        have f0 : (v2 1) = 0 := xXf hF 0 rfl
        have e74_36 : xE (zyEl zymx B H2) 74 36 = xE (zyEl zymx B H) 74 36 := xFr_E hfr rfl
        have e74_37 : xE (zyEl zymx B H2) 74 37 = xE (zyEl zymx B H) 74 37 := xFr_E hfr rfl
        have e74_38 : xE (zyEl zymx B H2) 74 38 = xE (zyEl zymx B H) 74 38 := xFr_E hfr rfl
        have e74_39 : xE (zyEl zymx B H2) 74 39 = xE (zyEl zymx B H) 74 39 := xFr_E hfr rfl
        have e74_40 : xE (zyEl zymx B H2) 74 40 = xE (zyEl zymx B H) 74 40 := xFr_E hfr rfl
        have e74_41 : xE (zyEl zymx B H2) 74 41 = xE (zyEl zymx B H) 74 41 := xFr_E hfr rfl
        have e74_42 : xE (zyEl zymx B H2) 74 42 = xE (zyEl zymx B H) 74 42 := xFr_E hfr rfl
        have q74_42 : xE (zyEl zymx B H) 74 42 = xE (zyEl zymx B s.heap) 74 42 := xFr_E hFr0 rfl
        have e75_0 : xE (zyEl zymx B H2) 75 0 = xE (zyEl zymx B H) 75 0 := xFr_E hfr rfl
        have q75_0 : xE (zyEl zymx B H) 75 0 = xE (zyEl zymx B s.heap) 75 0 := xFr_E hFr0 rfl
        have e75_1 : xE (zyEl zymx B H2) 75 1 = xE (zyEl zymx B H) 75 1 := xFr_E hfr rfl
        have q75_1 : xE (zyEl zymx B H) 75 1 = xE (zyEl zymx B s.heap) 75 1 := xFr_E hFr0 rfl
        have e75_2 : xE (zyEl zymx B H2) 75 2 = xE (zyEl zymx B H) 75 2 := xFr_E hfr rfl
        have e84 : ∀ i, xE (zyEl zymx B H2) 84 i = xE (zyEl zymx B H) 84 i := fun i => xFr_E hfr rfl
        have q84 : ∀ i, xE (zyEl zymx B H) 84 i = xE (zyEl zymx B s.heap) 84 i := fun i => xFr_E hFr0 rfl
        have e75 : ∀ i, xE (zyEl zymx B H2) 75 i = xE (zyEl zymx B H) 75 i := fun i => xFr_E hfr rfl
        have y74_42 : ((2147483648 : Nat) : Int) ≤ xE (zyEl zymx B s.heap) 74 42 + 2147483648 ∧ xE (zyEl zymx B s.heap) 74 42 + 2147483648 ≤ ((2147484548 : Nat) : Int) := xTyF hT0 74 42 42 rfl rfl rfl rfl rfl rfl
        have hI : (zyEl zymx B H) = (zyEl zymx B s.heap) ∧ ¬ (tW (xE (zyEl zymx B s.heap) 84) (xE (zyEl zymx B s.heap) 74 42) (xE (zyEl zymx B s.heap) 74 38) [115, 119, 105, 116, 99, 104] = true) ∧ ¬ (tW (xE (zyEl zymx B s.heap) 84) (xE (zyEl zymx B s.heap) 74 42) (xE (zyEl zymx B s.heap) 74 38) [98, 111, 98, 98, 105, 110] = true) ∧ ¬ (tW (xE (zyEl zymx B s.heap) 84) (xE (zyEl zymx B s.heap) 74 42) (xE (zyEl zymx B s.heap) 74 38) [115, 116, 117, 99, 107] = true) ∧ ¬ (tW (xE (zyEl zymx B s.heap) 84) (xE (zyEl zymx B s.heap) 74 42) (xE (zyEl zymx B s.heap) 74 38) [102, 114, 101, 101] = true) ∧ ((v 1) = 1 ↔ tW (xE (zyEl zymx B s.heap) 84) (xE (zyEl zymx B s.heap) 74 42) (xE (zyEl zymx B s.heap) 74 38) [112, 108, 97, 99, 101] = true) := hInv
        have q74_36 : xE (zyEl zymx B H) 74 36 = xE (zyEl zymx B s.heap) 74 36 := by rw [hI.1]
        have q74_37 : xE (zyEl zymx B H) 74 37 = xE (zyEl zymx B s.heap) 74 37 := by rw [hI.1]
        have q74_38 : xE (zyEl zymx B H) 74 38 = xE (zyEl zymx B s.heap) 74 38 := by rw [hI.1]
        have q74_39 : xE (zyEl zymx B H) 74 39 = xE (zyEl zymx B s.heap) 74 39 := by rw [hI.1]
        have q74_40 : xE (zyEl zymx B H) 74 40 = xE (zyEl zymx B s.heap) 74 40 := by rw [hI.1]
        have q74_41 : xE (zyEl zymx B H) 74 41 = xE (zyEl zymx B s.heap) 74 41 := by rw [hI.1]
        have q75_2 : xE (zyEl zymx B H) 75 2 = xE (zyEl zymx B s.heap) 75 2 := by rw [hI.1]
        have q75 : ∀ i, xE (zyEl zymx B H) 75 i = xE (zyEl zymx B s.heap) 75 i := fun i => by rw [hI.1]
        obtain ⟨hE, n1, n2, n3, n6, hw⟩ := hI
        have hEE : (zyEl zymx B H2) = (zyEl zymx B s.heap) := (xFr_n hfr).trans hE
        obtain ⟨hPW, hP1, ⟨hPp, hPs⟩, hPk, hP3, hP4, hP5, hP6⟩ := (show xΦln x0 (zyEl zymx B s.heap) from hΦ)
        obtain ⟨s1, s1b, s2, s3, s4, s5, s6, s7, s8⟩ := xRD_i hPs hPp
        have s4 := s4 hPk
        have hw : ¬ (tW (xE (zyEl zymx B s.heap) 84) (xE (zyEl zymx B s.heap) 74 42) (xE (zyEl zymx B s.heap) 74 38) [112, 108, 97, 99, 101] = true) := fun z => by
          have := hw.mpr z
          omega
        refine xCa hRu hIH hAt hB hv hFr (hfiw B) (ix := 459) (ax := 5056) rfl rfl rfl hmefiw ⟨_, rfl, rfl, by decide⟩ ⟨rfl, rfl, rfl⟩ (by decide) [64] [] [8] rfl ⟨rfl, rfl⟩ (by decide +kernel) (xcs_c rfl xcs_n) (by decide +kernel) ?_ (fun H3 r hT3 hf3 hFr3 hr3 hΨ3 => ?_)
        · show xΦiw (xfv [8]) (zyEl zymx B H2)
          rw [hEE]
          exact ⟨by decide, hPW⟩
        · have hΨ3 : xΨiw (xfv [8]) (zyEl zymx B H2) (zyEl zymx B H3) r := hΨ3
          have d74_36 : xE (zyEl zymx B H3) 74 36 = xE (zyEl zymx B H2) 74 36 := xFr_E hf3 rfl
          have d74_37 : xE (zyEl zymx B H3) 74 37 = xE (zyEl zymx B H2) 74 37 := xFr_E hf3 rfl
          have d74_38 : xE (zyEl zymx B H3) 74 38 = xE (zyEl zymx B H2) 74 38 := xFr_E hf3 rfl
          have d74_39 : xE (zyEl zymx B H3) 74 39 = xE (zyEl zymx B H2) 74 39 := xFr_E hf3 rfl
          have d74_40 : xE (zyEl zymx B H3) 74 40 = xE (zyEl zymx B H2) 74 40 := xFr_E hf3 rfl
          have d74_41 : xE (zyEl zymx B H3) 74 41 = xE (zyEl zymx B H2) 74 41 := xFr_E hf3 rfl
          have d74_42 : xE (zyEl zymx B H3) 74 42 = xE (zyEl zymx B H2) 74 42 := xFr_E hf3 rfl
          have d75_0 : xE (zyEl zymx B H3) 75 0 = xE (zyEl zymx B H2) 75 0 := xFr_E hf3 rfl
          have d75_1 : xE (zyEl zymx B H3) 75 1 = xE (zyEl zymx B H2) 75 1 := xFr_E hf3 rfl
          have d75_2 : xE (zyEl zymx B H3) 75 2 = xE (zyEl zymx B H2) 75 2 := xFr_E hf3 rfl
          have d84 : ∀ i, xE (zyEl zymx B H3) 84 i = xE (zyEl zymx B H2) 84 i := fun i => xFr_E hf3 rfl
          have d75 : ∀ i, xE (zyEl zymx B H3) 75 i = xE (zyEl zymx B H2) 75 i := fun i => xFr_E hf3 rfl
          obtain ⟨hb, hb0, hb1⟩ := (show xΨiw (xfv [8]) (zyEl zymx B H2) (zyEl zymx B H3) r from hΨ3)
          rw [hEE] at hb1
          have hw2 : r = 1 ↔ tW (xE (zyEl zymx B s.heap) 84) (xE (zyEl zymx B s.heap) 74 42) (xE (zyEl zymx B s.heap) 74 38) [119, 111, 114, 100] = true := hb1 _ hPp hPs hP1
          have hE3 : (zyEl zymx B H3) = (zyEl zymx B s.heap) := (xFr_n hf3).trans hEE
          refine ⟨⟨7, by decide⟩, [0], [0, r], rfl, ⟨by decide +kernel, ⟨rfl, by decide +kernel⟩, (xcs_c rfl xcs_n), (xe_0 (xe_c (by omega) (by omega) rfl xe_n)), xkq_n⟩, (by rw [if_pos rfl]; exact ⟨1, [], rfl, by decide, rfl, xst_n⟩), ?_, ?_⟩
          · show (zyEl zymx B H3) = (zyEl zymx B s.heap) ∧ ¬ (tW (xE (zyEl zymx B s.heap) 84) (xE (zyEl zymx B s.heap) 74 42) (xE (zyEl zymx B s.heap) 74 38) [115, 119, 105, 116, 99, 104] = true) ∧ ¬ (tW (xE (zyEl zymx B s.heap) 84) (xE (zyEl zymx B s.heap) 74 42) (xE (zyEl zymx B s.heap) 74 38) [98, 111, 98, 98, 105, 110] = true) ∧ ¬ (tW (xE (zyEl zymx B s.heap) 84) (xE (zyEl zymx B s.heap) 74 42) (xE (zyEl zymx B s.heap) 74 38) [115, 116, 117, 99, 107] = true) ∧ ¬ (tW (xE (zyEl zymx B s.heap) 84) (xE (zyEl zymx B s.heap) 74 42) (xE (zyEl zymx B s.heap) 74 38) [102, 114, 101, 101] = true) ∧ ¬ (tW (xE (zyEl zymx B s.heap) 84) (xE (zyEl zymx B s.heap) 74 42) (xE (zyEl zymx B s.heap) 74 38) [112, 108, 97, 99, 101] = true) ∧ ((r : Int) = 1 ↔ tW (xE (zyEl zymx B s.heap) 84) (xE (zyEl zymx B s.heap) 74 42) (xE (zyEl zymx B s.heap) 74 38) [119, 111, 114, 100] = true)
            exact ⟨hE3, n1, n2, n3, n6, hw, hw2⟩
          · show 93 < 94
            omega
    · have hx : x ∈ [zxfli_b8x0, zxfli_b8x1] := hx
      have hag : ∀ k, k < 2 → v2 k = v k := hag
      have hfr : xFr [] _ _ := hfr
      rcases List.mem_cons.mp hx with ex | hx
      · subst ex
        obtain ⟨hF, hBd, hM⟩ := hXs
        have g1 : v2 1 = v 1 := hag 1 (by decide)
        have b0 : ((2147483649 : Nat) : Int) ≤ (v2 1) + 2147483648 ∧ (v2 1) + 2147483648 ≤ ((2147483649 : Nat) : Int) := xXb hBd 0 rfl
        have f0 : ¬ (v2 1) = 0 := xXf hF 0 rfl
        have e74_36 : xE (zyEl zymx B H2) 74 36 = xE (zyEl zymx B H) 74 36 := xFr_E hfr rfl
        have e74_37 : xE (zyEl zymx B H2) 74 37 = xE (zyEl zymx B H) 74 37 := xFr_E hfr rfl
        have e74_38 : xE (zyEl zymx B H2) 74 38 = xE (zyEl zymx B H) 74 38 := xFr_E hfr rfl
        have e74_39 : xE (zyEl zymx B H2) 74 39 = xE (zyEl zymx B H) 74 39 := xFr_E hfr rfl
        have e74_40 : xE (zyEl zymx B H2) 74 40 = xE (zyEl zymx B H) 74 40 := xFr_E hfr rfl
        have e74_41 : xE (zyEl zymx B H2) 74 41 = xE (zyEl zymx B H) 74 41 := xFr_E hfr rfl
        have e74_42 : xE (zyEl zymx B H2) 74 42 = xE (zyEl zymx B H) 74 42 := xFr_E hfr rfl
        have q74_42 : xE (zyEl zymx B H) 74 42 = xE (zyEl zymx B s.heap) 74 42 := xFr_E hFr0 rfl
        have e75_0 : xE (zyEl zymx B H2) 75 0 = xE (zyEl zymx B H) 75 0 := xFr_E hfr rfl
        have q75_0 : xE (zyEl zymx B H) 75 0 = xE (zyEl zymx B s.heap) 75 0 := xFr_E hFr0 rfl
        have e75_1 : xE (zyEl zymx B H2) 75 1 = xE (zyEl zymx B H) 75 1 := xFr_E hfr rfl
        have q75_1 : xE (zyEl zymx B H) 75 1 = xE (zyEl zymx B s.heap) 75 1 := xFr_E hFr0 rfl
        have e75_2 : xE (zyEl zymx B H2) 75 2 = xE (zyEl zymx B H) 75 2 := xFr_E hfr rfl
        have e84 : ∀ i, xE (zyEl zymx B H2) 84 i = xE (zyEl zymx B H) 84 i := fun i => xFr_E hfr rfl
        have q84 : ∀ i, xE (zyEl zymx B H) 84 i = xE (zyEl zymx B s.heap) 84 i := fun i => xFr_E hFr0 rfl
        have e75 : ∀ i, xE (zyEl zymx B H2) 75 i = xE (zyEl zymx B H) 75 i := fun i => xFr_E hfr rfl
        have y74_42 : ((2147483648 : Nat) : Int) ≤ xE (zyEl zymx B s.heap) 74 42 + 2147483648 ∧ xE (zyEl zymx B s.heap) 74 42 + 2147483648 ≤ ((2147484548 : Nat) : Int) := xTyF hT0 74 42 42 rfl rfl rfl rfl rfl rfl
        have hI : (zyEl zymx B H) = (zyEl zymx B s.heap) ∧ ¬ (tW (xE (zyEl zymx B s.heap) 84) (xE (zyEl zymx B s.heap) 74 42) (xE (zyEl zymx B s.heap) 74 38) [115, 119, 105, 116, 99, 104] = true) ∧ ¬ (tW (xE (zyEl zymx B s.heap) 84) (xE (zyEl zymx B s.heap) 74 42) (xE (zyEl zymx B s.heap) 74 38) [98, 111, 98, 98, 105, 110] = true) ∧ ¬ (tW (xE (zyEl zymx B s.heap) 84) (xE (zyEl zymx B s.heap) 74 42) (xE (zyEl zymx B s.heap) 74 38) [115, 116, 117, 99, 107] = true) ∧ ¬ (tW (xE (zyEl zymx B s.heap) 84) (xE (zyEl zymx B s.heap) 74 42) (xE (zyEl zymx B s.heap) 74 38) [102, 114, 101, 101] = true) ∧ ¬ (tW (xE (zyEl zymx B s.heap) 84) (xE (zyEl zymx B s.heap) 74 42) (xE (zyEl zymx B s.heap) 74 38) [112, 108, 97, 99, 101] = true) ∧ ((v 1) = 1 ↔ tW (xE (zyEl zymx B s.heap) 84) (xE (zyEl zymx B s.heap) 74 42) (xE (zyEl zymx B s.heap) 74 38) [119, 111, 114, 100] = true) := hInv
        have q74_36 : xE (zyEl zymx B H) 74 36 = xE (zyEl zymx B s.heap) 74 36 := by rw [hI.1]
        have q74_37 : xE (zyEl zymx B H) 74 37 = xE (zyEl zymx B s.heap) 74 37 := by rw [hI.1]
        have q74_38 : xE (zyEl zymx B H) 74 38 = xE (zyEl zymx B s.heap) 74 38 := by rw [hI.1]
        have q74_39 : xE (zyEl zymx B H) 74 39 = xE (zyEl zymx B s.heap) 74 39 := by rw [hI.1]
        have q74_40 : xE (zyEl zymx B H) 74 40 = xE (zyEl zymx B s.heap) 74 40 := by rw [hI.1]
        have q74_41 : xE (zyEl zymx B H) 74 41 = xE (zyEl zymx B s.heap) 74 41 := by rw [hI.1]
        have q75_2 : xE (zyEl zymx B H) 75 2 = xE (zyEl zymx B s.heap) 75 2 := by rw [hI.1]
        have q75 : ∀ i, xE (zyEl zymx B H) 75 i = xE (zyEl zymx B s.heap) 75 i := fun i => by rw [hI.1]
        obtain ⟨hE, n1, n2, n3, n6, n7, hw⟩ := hI
        have hEE : (zyEl zymx B H2) = (zyEl zymx B s.heap) := (xFr_n hfr).trans hE
        obtain ⟨hPW, hP1, ⟨hPp, hPs⟩, hPk, hP3, hP4, hP5, hP6⟩ := (show xΦln x0 (zyEl zymx B s.heap) from hΦ)
        obtain ⟨s1, s1b, s2, s3, s4, s5, s6, s7, s8⟩ := xRD_i hPs hPp
        have s4 := s4 hPk
        have hw := hw.mp (by omega)
        refine xCa hRu hIH hAt hB hv hFr (hfwd B) (ix := 485) (ax := 5216) rfl rfl rfl hmefwd ⟨_, rfl, rfl, by decide⟩ ⟨rfl, rfl, rfl⟩ (by decide) [] [] [] rfl ⟨rfl, rfl⟩ (by decide +kernel) xcs_n (by decide +kernel) ?_ (fun H3 r hT3 hf3 hFr3 hr3 hΨ3 => ?_)
        · show xΦwd (xfv []) (zyEl zymx B H2)
          rw [hEE]
          exact ⟨hP1, by omega⟩
        · have hΨ3 : xΨwd (xfv []) (zyEl zymx B H2) (zyEl zymx B H3) r := hΨ3
          have d74_42 : xE (zyEl zymx B H3) 74 42 = xE (zyEl zymx B H2) 74 42 := xFr_E hf3 rfl
          have d75_0 : xE (zyEl zymx B H3) 75 0 = xE (zyEl zymx B H2) 75 0 := xFr_E hf3 rfl
          have d75_1 : xE (zyEl zymx B H3) 75 1 = xE (zyEl zymx B H2) 75 1 := xFr_E hf3 rfl
          have d75_2 : xE (zyEl zymx B H3) 75 2 = xE (zyEl zymx B H2) 75 2 := xFr_E hf3 rfl
          have d84 : ∀ i, xE (zyEl zymx B H3) 84 i = xE (zyEl zymx B H2) 84 i := fun i => xFr_E hf3 rfl
          have hΨ3 : xΨwd (xfv []) (zyEl zymx B s.heap) (zyEl zymx B H3) r := by rw [← hEE]; exact hΨ3
          have hg : xRs (xE (zyEl zymx B s.heap) 84) (xE (zyEl zymx B s.heap) 74 42) (zyEl zymx B H3) (pWs (xE (zyEl zymx B s.heap) 84) (xE (zyEl zymx B s.heap) 74 42) 60 (xE (zyEl zymx B s.heap) 74 39) (uS (xE (zyEl zymx B s.heap) 75) 5 0)) := hΨ3
          rw [s4.1] at hg
          refine ⟨⟨14, by decide⟩, [0], [0], rfl, ⟨by decide +kernel, ⟨rfl, by decide +kernel⟩, (xcs_c rfl xcs_n), (xe_0 xe_n), xkq_n⟩, (by rw [if_neg (by decide)]; exact xst_n), ?_, ?_⟩
          · show xRs (xE (zyEl zymx B s.heap) 84) (xE (zyEl zymx B s.heap) 74 42) (zyEl zymx B H3) (pBody (xE (zyEl zymx B s.heap) 84) (xE (zyEl zymx B s.heap) 74 42) (xE (zyEl zymx B s.heap) 74 38) (xE (zyEl zymx B s.heap) 75))
            unfold pBody
            rw [if_neg n1, if_neg n2, if_neg n3, if_neg n6, if_neg n7, if_pos hw]
            exact hg
          · show 86 < 93
            omega
      · skip
        have ex := List.mem_singleton.mp hx
        subst ex
        obtain ⟨hF, hBd, hM⟩ := hXs
        have g1 : v2 1 = v 1 := hag 1 (by decide)
        have b0 : ((2147483648 : Nat) : Int) ≤ (v2 1) + 2147483648 ∧ (v2 1) + 2147483648 ≤ ((2147483648 : Nat) : Int) := xXb hBd 0 rfl
        have f0 : (v2 1) = 0 := xXf hF 0 rfl
        have e74_36 : xE (zyEl zymx B H2) 74 36 = xE (zyEl zymx B H) 74 36 := xFr_E hfr rfl
        have e74_37 : xE (zyEl zymx B H2) 74 37 = xE (zyEl zymx B H) 74 37 := xFr_E hfr rfl
        have e74_38 : xE (zyEl zymx B H2) 74 38 = xE (zyEl zymx B H) 74 38 := xFr_E hfr rfl
        have e74_39 : xE (zyEl zymx B H2) 74 39 = xE (zyEl zymx B H) 74 39 := xFr_E hfr rfl
        have e74_40 : xE (zyEl zymx B H2) 74 40 = xE (zyEl zymx B H) 74 40 := xFr_E hfr rfl
        have e74_41 : xE (zyEl zymx B H2) 74 41 = xE (zyEl zymx B H) 74 41 := xFr_E hfr rfl
        have e74_42 : xE (zyEl zymx B H2) 74 42 = xE (zyEl zymx B H) 74 42 := xFr_E hfr rfl
        have q74_42 : xE (zyEl zymx B H) 74 42 = xE (zyEl zymx B s.heap) 74 42 := xFr_E hFr0 rfl
        have e75_0 : xE (zyEl zymx B H2) 75 0 = xE (zyEl zymx B H) 75 0 := xFr_E hfr rfl
        have q75_0 : xE (zyEl zymx B H) 75 0 = xE (zyEl zymx B s.heap) 75 0 := xFr_E hFr0 rfl
        have e75_1 : xE (zyEl zymx B H2) 75 1 = xE (zyEl zymx B H) 75 1 := xFr_E hfr rfl
        have q75_1 : xE (zyEl zymx B H) 75 1 = xE (zyEl zymx B s.heap) 75 1 := xFr_E hFr0 rfl
        have e75_2 : xE (zyEl zymx B H2) 75 2 = xE (zyEl zymx B H) 75 2 := xFr_E hfr rfl
        have e84 : ∀ i, xE (zyEl zymx B H2) 84 i = xE (zyEl zymx B H) 84 i := fun i => xFr_E hfr rfl
        have q84 : ∀ i, xE (zyEl zymx B H) 84 i = xE (zyEl zymx B s.heap) 84 i := fun i => xFr_E hFr0 rfl
        have e75 : ∀ i, xE (zyEl zymx B H2) 75 i = xE (zyEl zymx B H) 75 i := fun i => xFr_E hfr rfl
        have y74_42 : ((2147483648 : Nat) : Int) ≤ xE (zyEl zymx B s.heap) 74 42 + 2147483648 ∧ xE (zyEl zymx B s.heap) 74 42 + 2147483648 ≤ ((2147484548 : Nat) : Int) := xTyF hT0 74 42 42 rfl rfl rfl rfl rfl rfl
        have hI : (zyEl zymx B H) = (zyEl zymx B s.heap) ∧ ¬ (tW (xE (zyEl zymx B s.heap) 84) (xE (zyEl zymx B s.heap) 74 42) (xE (zyEl zymx B s.heap) 74 38) [115, 119, 105, 116, 99, 104] = true) ∧ ¬ (tW (xE (zyEl zymx B s.heap) 84) (xE (zyEl zymx B s.heap) 74 42) (xE (zyEl zymx B s.heap) 74 38) [98, 111, 98, 98, 105, 110] = true) ∧ ¬ (tW (xE (zyEl zymx B s.heap) 84) (xE (zyEl zymx B s.heap) 74 42) (xE (zyEl zymx B s.heap) 74 38) [115, 116, 117, 99, 107] = true) ∧ ¬ (tW (xE (zyEl zymx B s.heap) 84) (xE (zyEl zymx B s.heap) 74 42) (xE (zyEl zymx B s.heap) 74 38) [102, 114, 101, 101] = true) ∧ ¬ (tW (xE (zyEl zymx B s.heap) 84) (xE (zyEl zymx B s.heap) 74 42) (xE (zyEl zymx B s.heap) 74 38) [112, 108, 97, 99, 101] = true) ∧ ((v 1) = 1 ↔ tW (xE (zyEl zymx B s.heap) 84) (xE (zyEl zymx B s.heap) 74 42) (xE (zyEl zymx B s.heap) 74 38) [119, 111, 114, 100] = true) := hInv
        have q74_36 : xE (zyEl zymx B H) 74 36 = xE (zyEl zymx B s.heap) 74 36 := by rw [hI.1]
        have q74_37 : xE (zyEl zymx B H) 74 37 = xE (zyEl zymx B s.heap) 74 37 := by rw [hI.1]
        have q74_38 : xE (zyEl zymx B H) 74 38 = xE (zyEl zymx B s.heap) 74 38 := by rw [hI.1]
        have q74_39 : xE (zyEl zymx B H) 74 39 = xE (zyEl zymx B s.heap) 74 39 := by rw [hI.1]
        have q74_40 : xE (zyEl zymx B H) 74 40 = xE (zyEl zymx B s.heap) 74 40 := by rw [hI.1]
        have q74_41 : xE (zyEl zymx B H) 74 41 = xE (zyEl zymx B s.heap) 74 41 := by rw [hI.1]
        have q75_2 : xE (zyEl zymx B H) 75 2 = xE (zyEl zymx B s.heap) 75 2 := by rw [hI.1]
        have q75 : ∀ i, xE (zyEl zymx B H) 75 i = xE (zyEl zymx B s.heap) 75 i := fun i => by rw [hI.1]
        obtain ⟨hE, n1, n2, n3, n6, n7, hw⟩ := hI
        have hEE : (zyEl zymx B H2) = (zyEl zymx B s.heap) := (xFr_n hfr).trans hE
        obtain ⟨hPW, hP1, ⟨hPp, hPs⟩, hPk, hP3, hP4, hP5, hP6⟩ := (show xΦln x0 (zyEl zymx B s.heap) from hΦ)
        obtain ⟨s1, s1b, s2, s3, s4, s5, s6, s7, s8⟩ := xRD_i hPs hPp
        have s4 := s4 hPk
        have hw : ¬ (tW (xE (zyEl zymx B s.heap) 84) (xE (zyEl zymx B s.heap) 74 42) (xE (zyEl zymx B s.heap) 74 38) [119, 111, 114, 100] = true) := fun z => by
          have := hw.mpr z
          omega
        have z74_36 : ((2147483648 : Nat) : Int) ≤ xE (zyEl zymx B H2) 74 36 + 2147483648 ∧ xE (zyEl zymx B H2) 74 36 + 2147483648 ≤ ((2147483657 : Nat) : Int) := xTyF hT2 74 36 36 rfl rfl rfl rfl rfl rfl
        have z74_37 : ((0 : Nat) : Int) ≤ xE (zyEl zymx B H2) 74 37 + 2147483648 ∧ xE (zyEl zymx B H2) 74 37 + 2147483648 ≤ ((4294967295 : Nat) : Int) := xTyF hT2 74 37 37 rfl rfl rfl rfl rfl rfl
        have z74_38 : ((2147483648 : Nat) : Int) ≤ xE (zyEl zymx B H2) 74 38 + 2147483648 ∧ xE (zyEl zymx B H2) 74 38 + 2147483648 ≤ ((2147484548 : Nat) : Int) := xTyF hT2 74 38 38 rfl rfl rfl rfl rfl rfl
        have z74_40 : ((2147483648 : Nat) : Int) ≤ xE (zyEl zymx B H2) 74 40 + 2147483648 ∧ xE (zyEl zymx B H2) 74 40 + 2147483648 ≤ ((2147483652 : Nat) : Int) := xTyF hT2 74 40 40 rfl rfl rfl rfl rfl rfl
        refine xGo hIH hAt hB hv hFr ⟨8, by decide⟩ [0] [0, xE (zyEl zymx B H2) 74 36, xE (zyEl zymx B H2) 74 37, xE (zyEl zymx B H2) 74 38, xE (zyEl zymx B H2) 74 40] rfl ⟨by decide +kernel, ⟨rfl, by decide +kernel⟩, (xcs_c rfl xcs_n), (xe_0 (xe_c (by omega) (by omega) rfl (xe_f (xE_r _ _ _) (xe_c (by omega) (by omega) rfl (xe_c (by omega) (by omega) rfl xe_n))))), (xkq_c hT2 74 36 (q := 36) rfl rfl rfl rfl rfl rfl rfl rfl rfl rfl rfl (xkq_c hT2 74 37 (q := 37) rfl rfl rfl rfl rfl rfl rfl rfl rfl rfl rfl (xkq_c hT2 74 38 (q := 38) rfl rfl rfl rfl rfl rfl rfl rfl rfl rfl rfl (xkq_c hT2 74 40 (q := 40) rfl rfl rfl rfl rfl rfl rfl rfl rfl rfl rfl xkq_n))))⟩ xst_n ?_ ?_
        · show (zyEl zymx B H2) = (zyEl zymx B s.heap) ∧ ¬ (tW (xE (zyEl zymx B s.heap) 84) (xE (zyEl zymx B s.heap) 74 42) (xE (zyEl zymx B s.heap) 74 38) [115, 119, 105, 116, 99, 104] = true) ∧ ¬ (tW (xE (zyEl zymx B s.heap) 84) (xE (zyEl zymx B s.heap) 74 42) (xE (zyEl zymx B s.heap) 74 38) [98, 111, 98, 98, 105, 110] = true) ∧ ¬ (tW (xE (zyEl zymx B s.heap) 84) (xE (zyEl zymx B s.heap) 74 42) (xE (zyEl zymx B s.heap) 74 38) [115, 116, 117, 99, 107] = true) ∧ ¬ (tW (xE (zyEl zymx B s.heap) 84) (xE (zyEl zymx B s.heap) 74 42) (xE (zyEl zymx B s.heap) 74 38) [102, 114, 101, 101] = true) ∧ ¬ (tW (xE (zyEl zymx B s.heap) 84) (xE (zyEl zymx B s.heap) 74 42) (xE (zyEl zymx B s.heap) 74 38) [112, 108, 97, 99, 101] = true) ∧ ¬ (tW (xE (zyEl zymx B s.heap) 84) (xE (zyEl zymx B s.heap) 74 42) (xE (zyEl zymx B s.heap) 74 38) [119, 111, 114, 100] = true)
          exact ⟨hEE, n1, n2, n3, n6, n7, hw⟩
        · show 92 < 93
          omega
    · have hx : x ∈ [zxfli_mx0, zxfli_mx1] := hx
      have hag : ∀ k, k < 5 → v2 k = v k := hag
      have hfr : xFr [(74, 36, 37)] _ _ := hfr
      rcases List.mem_cons.mp hx with ex | hx
      · subst ex
        obtain ⟨hF, hBd, hM⟩ := hXs
        have g1 : v2 1 = v 1 := hag 1 (by decide)
        have g2 : v2 2 = v 2 := hag 2 (by decide)
        have g3 : v2 3 = v 3 := hag 3 (by decide)
        have g4 : v2 4 = v 4 := hag 4 (by decide)
        have b0 : ((2147483648 : Nat) : Int) ≤ (v2 1) + 2147483648 ∧ (v2 1) + 2147483648 ≤ ((2147483648 : Nat) : Int) := xXb hBd 0 rfl
        have b1 : ((2147483648 : Nat) : Int) ≤ (v2 3) + 2147483648 ∧ (v2 3) + 2147483648 ≤ ((2147484548 : Nat) : Int) := xXb hBd 1 rfl
        have b2 : ((2147483648 : Nat) : Int) ≤ (v2 4) + 2147483648 ∧ (v2 4) + 2147483648 ≤ ((2147483651 : Nat) : Int) := xXb hBd 2 rfl
        have k0 : xE (zyEl zymx B H) 74 36 = v 1 := xKcf hKc 0 rfl rfl
        have k1 : xE (zyEl zymx B H) 74 37 = v 2 := xKcf hKc 1 rfl rfl
        have k2 : xE (zyEl zymx B H) 74 38 = v 3 := xKcf hKc 2 rfl rfl
        have k3 : xE (zyEl zymx B H) 74 40 = v 4 := xKcf hKc 3 rfl rfl
        have f0 : (v2 1) ≤ 0 := xXf hF 0 rfl
        have f1 : ¬ (v2 4) = 4 := xXf hF 1 rfl
        have m0 : xE (zyEl zymx B H2) 74 36 = 2 := xXm hM 0 rfl
        have m1 : xE (zyEl zymx B H2) 74 37 = (v2 3) := xXm hM 1 rfl
        have e74_38 : xE (zyEl zymx B H2) 74 38 = xE (zyEl zymx B H) 74 38 := xFr_E hfr rfl
        have e74_39 : xE (zyEl zymx B H2) 74 39 = xE (zyEl zymx B H) 74 39 := xFr_E hfr rfl
        have e74_40 : xE (zyEl zymx B H2) 74 40 = xE (zyEl zymx B H) 74 40 := xFr_E hfr rfl
        have e74_41 : xE (zyEl zymx B H2) 74 41 = xE (zyEl zymx B H) 74 41 := xFr_E hfr rfl
        have e74_42 : xE (zyEl zymx B H2) 74 42 = xE (zyEl zymx B H) 74 42 := xFr_E hfr rfl
        have q74_42 : xE (zyEl zymx B H) 74 42 = xE (zyEl zymx B s.heap) 74 42 := xFr_E hFr0 rfl
        have e75_0 : xE (zyEl zymx B H2) 75 0 = xE (zyEl zymx B H) 75 0 := xFr_E hfr rfl
        have q75_0 : xE (zyEl zymx B H) 75 0 = xE (zyEl zymx B s.heap) 75 0 := xFr_E hFr0 rfl
        have e75_1 : xE (zyEl zymx B H2) 75 1 = xE (zyEl zymx B H) 75 1 := xFr_E hfr rfl
        have q75_1 : xE (zyEl zymx B H) 75 1 = xE (zyEl zymx B s.heap) 75 1 := xFr_E hFr0 rfl
        have e75_2 : xE (zyEl zymx B H2) 75 2 = xE (zyEl zymx B H) 75 2 := xFr_E hfr rfl
        have e84 : ∀ i, xE (zyEl zymx B H2) 84 i = xE (zyEl zymx B H) 84 i := fun i => xFr_E hfr rfl
        have q84 : ∀ i, xE (zyEl zymx B H) 84 i = xE (zyEl zymx B s.heap) 84 i := fun i => xFr_E hFr0 rfl
        have e75 : ∀ i, xE (zyEl zymx B H2) 75 i = xE (zyEl zymx B H) 75 i := fun i => xFr_E hfr rfl
        have y74_42 : ((2147483648 : Nat) : Int) ≤ xE (zyEl zymx B s.heap) 74 42 + 2147483648 ∧ xE (zyEl zymx B s.heap) 74 42 + 2147483648 ≤ ((2147484548 : Nat) : Int) := xTyF hT0 74 42 42 rfl rfl rfl rfl rfl rfl
        have hI : (zyEl zymx B H) = (zyEl zymx B s.heap) ∧ ¬ (tW (xE (zyEl zymx B s.heap) 84) (xE (zyEl zymx B s.heap) 74 42) (xE (zyEl zymx B s.heap) 74 38) [115, 119, 105, 116, 99, 104] = true) ∧ ¬ (tW (xE (zyEl zymx B s.heap) 84) (xE (zyEl zymx B s.heap) 74 42) (xE (zyEl zymx B s.heap) 74 38) [98, 111, 98, 98, 105, 110] = true) ∧ ¬ (tW (xE (zyEl zymx B s.heap) 84) (xE (zyEl zymx B s.heap) 74 42) (xE (zyEl zymx B s.heap) 74 38) [115, 116, 117, 99, 107] = true) ∧ ¬ (tW (xE (zyEl zymx B s.heap) 84) (xE (zyEl zymx B s.heap) 74 42) (xE (zyEl zymx B s.heap) 74 38) [102, 114, 101, 101] = true) ∧ ¬ (tW (xE (zyEl zymx B s.heap) 84) (xE (zyEl zymx B s.heap) 74 42) (xE (zyEl zymx B s.heap) 74 38) [112, 108, 97, 99, 101] = true) ∧ ¬ (tW (xE (zyEl zymx B s.heap) 84) (xE (zyEl zymx B s.heap) 74 42) (xE (zyEl zymx B s.heap) 74 38) [119, 111, 114, 100] = true) := hInv
        have q74_36 : xE (zyEl zymx B H) 74 36 = xE (zyEl zymx B s.heap) 74 36 := by rw [hI.1]
        have q74_37 : xE (zyEl zymx B H) 74 37 = xE (zyEl zymx B s.heap) 74 37 := by rw [hI.1]
        have q74_38 : xE (zyEl zymx B H) 74 38 = xE (zyEl zymx B s.heap) 74 38 := by rw [hI.1]
        have q74_39 : xE (zyEl zymx B H) 74 39 = xE (zyEl zymx B s.heap) 74 39 := by rw [hI.1]
        have q74_40 : xE (zyEl zymx B H) 74 40 = xE (zyEl zymx B s.heap) 74 40 := by rw [hI.1]
        have q74_41 : xE (zyEl zymx B H) 74 41 = xE (zyEl zymx B s.heap) 74 41 := by rw [hI.1]
        have q75_2 : xE (zyEl zymx B H) 75 2 = xE (zyEl zymx B s.heap) 75 2 := by rw [hI.1]
        have q75 : ∀ i, xE (zyEl zymx B H) 75 i = xE (zyEl zymx B s.heap) 75 i := fun i => by rw [hI.1]
        obtain ⟨hE, n1, n2, n3, n6, n7, n8⟩ := hI
        obtain ⟨hPW, hP1, ⟨hPp, hPs⟩, hPk, hP3, hP4, hP5, hP6⟩ := (show xΦln x0 (zyEl zymx B s.heap) from hΦ)
        obtain ⟨s1, s1b, s2, s3, s4, s5, s6, s7, s8⟩ := xRD_i hPs hPp
        have s4 := s4 hPk
        have hBe : pBody (xE (zyEl zymx B s.heap) 84) (xE (zyEl zymx B s.heap) 74 42) (xE (zyEl zymx B s.heap) 74 38) (xE (zyEl zymx B s.heap) 75) = .error (pMis (xE (zyEl zymx B s.heap) 84) (xE (zyEl zymx B s.heap) 74 42) (xE (zyEl zymx B s.heap) 74 38), tFr (xE (zyEl zymx B s.heap) 84) (xE (zyEl zymx B s.heap) 74 42) (xE (zyEl zymx B s.heap) 74 38)) := by
          unfold pBody
          rw [if_neg n1, if_neg n2, if_neg n3, if_neg n6, if_neg n7, if_neg n8]
        have hX : xEr (zyEl zymx B H2) (pBody (xE (zyEl zymx B s.heap) 84) (xE (zyEl zymx B s.heap) 74 42) (xE (zyEl zymx B s.heap) 74 38) (xE (zyEl zymx B s.heap) 75)) := by
          rw [hBe]
          unfold pMis
          by_cases c1 : tKd (xE (zyEl zymx B s.heap) 84) (xE (zyEl zymx B s.heap) 74 42) (xE (zyEl zymx B s.heap) 74 38) = 1
          · rw [if_pos c1]
            first
              | (exfalso; omega)
              | exact xEr_n (by omega) (by omega) (by omega)
          · rw [if_neg c1]
            first
              | (exfalso; omega)
              | exact xEr_n (by omega) (by omega) (by omega)
        have hX1 := hX.1
        refine xCa hRu hIH hAt hB hv hFr (hfis B) (ix := 466) (ax := 5072) rfl rfl rfl hmefis ⟨_, rfl, rfl, by decide⟩ ⟨rfl, rfl, rfl⟩ (by decide) [472] [595] [59] rfl ⟨rfl, rfl⟩ (by decide +kernel) (xcs_c rfl xcs_n) (by decide +kernel) ?_ (fun H3 r hT3 hf3 hFr3 hr3 hΨ3 => ?_)
        · show xΦis (xfv [59]) (zyEl zymx B H2)
          intro q0 q1
          omega
        · have hΨ3 : xΨis (xfv [59]) (zyEl zymx B H2) (zyEl zymx B H3) r := hΨ3
          have d74_36 : xE (zyEl zymx B H3) 74 36 = xE (zyEl zymx B H2) 74 36 := xFr_E hf3 rfl
          have d74_37 : xE (zyEl zymx B H3) 74 37 = xE (zyEl zymx B H2) 74 37 := xFr_E hf3 rfl
          have d74_38 : xE (zyEl zymx B H3) 74 38 = xE (zyEl zymx B H2) 74 38 := xFr_E hf3 rfl
          have d74_39 : xE (zyEl zymx B H3) 74 39 = xE (zyEl zymx B H2) 74 39 := xFr_E hf3 rfl
          have d74_40 : xE (zyEl zymx B H3) 74 40 = xE (zyEl zymx B H2) 74 40 := xFr_E hf3 rfl
          have d74_41 : xE (zyEl zymx B H3) 74 41 = xE (zyEl zymx B H2) 74 41 := xFr_E hf3 rfl
          have d74_42 : xE (zyEl zymx B H3) 74 42 = xE (zyEl zymx B H2) 74 42 := xFr_E hf3 rfl
          have d75_0 : xE (zyEl zymx B H3) 75 0 = xE (zyEl zymx B H2) 75 0 := xFr_E hf3 rfl
          have d75_1 : xE (zyEl zymx B H3) 75 1 = xE (zyEl zymx B H2) 75 1 := xFr_E hf3 rfl
          have d75_2 : xE (zyEl zymx B H3) 75 2 = xE (zyEl zymx B H2) 75 2 := xFr_E hf3 rfl
          have d84 : ∀ i, xE (zyEl zymx B H3) 84 i = xE (zyEl zymx B H2) 84 i := fun i => xFr_E hf3 rfl
          have d75 : ∀ i, xE (zyEl zymx B H3) 75 i = xE (zyEl zymx B H2) 75 i := fun i => xFr_E hf3 rfl
          have hE3 : (zyEl zymx B H3) = (zyEl zymx B H2) := xFr_n hf3
          have hb01 := xIs_b hΨ3
          refine ⟨⟨15, by decide⟩, [0], [0, r], rfl, ⟨by decide +kernel, ⟨rfl, by decide +kernel⟩, (xcs_c rfl xcs_n), (xe_0 (xe_c (by omega) (by omega) rfl xe_n)), xkq_n⟩, (by rw [if_pos rfl]; exact ⟨1, [595], rfl, by decide, rfl, (xst_r rfl xst_n)⟩), ?_, ?_⟩
          · show (xE (zyEl zymx B H3) 74 36 = 0 → ∃ p U, ((p) ≤ (xE (zyEl zymx B s.heap) 74 42) ∧ xRD (xE (zyEl zymx B s.heap) 84) (xE (zyEl zymx B s.heap) 74 42) (p) (zyEl zymx B H3)) ∧ pBody (xE (zyEl zymx B s.heap) 84) (xE (zyEl zymx B s.heap) 74 42) (xE (zyEl zymx B s.heap) 74 38) (xE (zyEl zymx B s.heap) 75) = .ok (p, U) ∧ (∀ k, 0 ≤ k → k < 520 → xE (zyEl zymx B H3) 75 k = U k) ∧ (r : Int) = (if tKd (xE (zyEl zymx B s.heap) 84) (xE (zyEl zymx B s.heap) 74 42) p = 5 then 1 else 0)) ∧ (¬ xE (zyEl zymx B H3) 74 36 = 0 → xEr (zyEl zymx B H3) (pBody (xE (zyEl zymx B s.heap) 84) (xE (zyEl zymx B s.heap) 74 42) (xE (zyEl zymx B s.heap) 74 38) (xE (zyEl zymx B s.heap) 75)))
            refine ⟨fun hz => ?_, fun hz => ?_⟩
            · rw [hE3] at hz
              omega
            · rw [hE3]
              exact hX
          · show 85 < 92
            omega
      · skip
        have ex := List.mem_singleton.mp hx
        subst ex
        obtain ⟨hF, hBd, hM⟩ := hXs
        have g1 : v2 1 = v 1 := hag 1 (by decide)
        have g2 : v2 2 = v 2 := hag 2 (by decide)
        have g3 : v2 3 = v 3 := hag 3 (by decide)
        have g4 : v2 4 = v 4 := hag 4 (by decide)
        have b0 : ((2147483648 : Nat) : Int) ≤ (v2 1) + 2147483648 ∧ (v2 1) + 2147483648 ≤ ((2147483648 : Nat) : Int) := xXb hBd 0 rfl
        have b1 : ((2147483648 : Nat) : Int) ≤ (v2 3) + 2147483648 ∧ (v2 3) + 2147483648 ≤ ((2147484548 : Nat) : Int) := xXb hBd 1 rfl
        have b2 : ((2147483652 : Nat) : Int) ≤ (v2 4) + 2147483648 ∧ (v2 4) + 2147483648 ≤ ((2147483652 : Nat) : Int) := xXb hBd 2 rfl
        have k0 : xE (zyEl zymx B H) 74 36 = v 1 := xKcf hKc 0 rfl rfl
        have k1 : xE (zyEl zymx B H) 74 37 = v 2 := xKcf hKc 1 rfl rfl
        have k2 : xE (zyEl zymx B H) 74 38 = v 3 := xKcf hKc 2 rfl rfl
        have k3 : xE (zyEl zymx B H) 74 40 = v 4 := xKcf hKc 3 rfl rfl
        have f0 : (v2 1) ≤ 0 := xXf hF 0 rfl
        have f1 : (v2 4) = 4 := xXf hF 1 rfl
        have m0 : xE (zyEl zymx B H2) 74 36 = 1 := xXm hM 0 rfl
        have m1 : xE (zyEl zymx B H2) 74 37 = (v2 3) := xXm hM 1 rfl
        have e74_38 : xE (zyEl zymx B H2) 74 38 = xE (zyEl zymx B H) 74 38 := xFr_E hfr rfl
        have e74_39 : xE (zyEl zymx B H2) 74 39 = xE (zyEl zymx B H) 74 39 := xFr_E hfr rfl
        have e74_40 : xE (zyEl zymx B H2) 74 40 = xE (zyEl zymx B H) 74 40 := xFr_E hfr rfl
        have e74_41 : xE (zyEl zymx B H2) 74 41 = xE (zyEl zymx B H) 74 41 := xFr_E hfr rfl
        have e74_42 : xE (zyEl zymx B H2) 74 42 = xE (zyEl zymx B H) 74 42 := xFr_E hfr rfl
        have q74_42 : xE (zyEl zymx B H) 74 42 = xE (zyEl zymx B s.heap) 74 42 := xFr_E hFr0 rfl
        have e75_0 : xE (zyEl zymx B H2) 75 0 = xE (zyEl zymx B H) 75 0 := xFr_E hfr rfl
        have q75_0 : xE (zyEl zymx B H) 75 0 = xE (zyEl zymx B s.heap) 75 0 := xFr_E hFr0 rfl
        have e75_1 : xE (zyEl zymx B H2) 75 1 = xE (zyEl zymx B H) 75 1 := xFr_E hfr rfl
        have q75_1 : xE (zyEl zymx B H) 75 1 = xE (zyEl zymx B s.heap) 75 1 := xFr_E hFr0 rfl
        have e75_2 : xE (zyEl zymx B H2) 75 2 = xE (zyEl zymx B H) 75 2 := xFr_E hfr rfl
        have e84 : ∀ i, xE (zyEl zymx B H2) 84 i = xE (zyEl zymx B H) 84 i := fun i => xFr_E hfr rfl
        have q84 : ∀ i, xE (zyEl zymx B H) 84 i = xE (zyEl zymx B s.heap) 84 i := fun i => xFr_E hFr0 rfl
        have e75 : ∀ i, xE (zyEl zymx B H2) 75 i = xE (zyEl zymx B H) 75 i := fun i => xFr_E hfr rfl
        have y74_42 : ((2147483648 : Nat) : Int) ≤ xE (zyEl zymx B s.heap) 74 42 + 2147483648 ∧ xE (zyEl zymx B s.heap) 74 42 + 2147483648 ≤ ((2147484548 : Nat) : Int) := xTyF hT0 74 42 42 rfl rfl rfl rfl rfl rfl
        have hI : (zyEl zymx B H) = (zyEl zymx B s.heap) ∧ ¬ (tW (xE (zyEl zymx B s.heap) 84) (xE (zyEl zymx B s.heap) 74 42) (xE (zyEl zymx B s.heap) 74 38) [115, 119, 105, 116, 99, 104] = true) ∧ ¬ (tW (xE (zyEl zymx B s.heap) 84) (xE (zyEl zymx B s.heap) 74 42) (xE (zyEl zymx B s.heap) 74 38) [98, 111, 98, 98, 105, 110] = true) ∧ ¬ (tW (xE (zyEl zymx B s.heap) 84) (xE (zyEl zymx B s.heap) 74 42) (xE (zyEl zymx B s.heap) 74 38) [115, 116, 117, 99, 107] = true) ∧ ¬ (tW (xE (zyEl zymx B s.heap) 84) (xE (zyEl zymx B s.heap) 74 42) (xE (zyEl zymx B s.heap) 74 38) [102, 114, 101, 101] = true) ∧ ¬ (tW (xE (zyEl zymx B s.heap) 84) (xE (zyEl zymx B s.heap) 74 42) (xE (zyEl zymx B s.heap) 74 38) [112, 108, 97, 99, 101] = true) ∧ ¬ (tW (xE (zyEl zymx B s.heap) 84) (xE (zyEl zymx B s.heap) 74 42) (xE (zyEl zymx B s.heap) 74 38) [119, 111, 114, 100] = true) := hInv
        have q74_36 : xE (zyEl zymx B H) 74 36 = xE (zyEl zymx B s.heap) 74 36 := by rw [hI.1]
        have q74_37 : xE (zyEl zymx B H) 74 37 = xE (zyEl zymx B s.heap) 74 37 := by rw [hI.1]
        have q74_38 : xE (zyEl zymx B H) 74 38 = xE (zyEl zymx B s.heap) 74 38 := by rw [hI.1]
        have q74_39 : xE (zyEl zymx B H) 74 39 = xE (zyEl zymx B s.heap) 74 39 := by rw [hI.1]
        have q74_40 : xE (zyEl zymx B H) 74 40 = xE (zyEl zymx B s.heap) 74 40 := by rw [hI.1]
        have q74_41 : xE (zyEl zymx B H) 74 41 = xE (zyEl zymx B s.heap) 74 41 := by rw [hI.1]
        have q75_2 : xE (zyEl zymx B H) 75 2 = xE (zyEl zymx B s.heap) 75 2 := by rw [hI.1]
        have q75 : ∀ i, xE (zyEl zymx B H) 75 i = xE (zyEl zymx B s.heap) 75 i := fun i => by rw [hI.1]
        obtain ⟨hE, n1, n2, n3, n6, n7, n8⟩ := hI
        obtain ⟨hPW, hP1, ⟨hPp, hPs⟩, hPk, hP3, hP4, hP5, hP6⟩ := (show xΦln x0 (zyEl zymx B s.heap) from hΦ)
        obtain ⟨s1, s1b, s2, s3, s4, s5, s6, s7, s8⟩ := xRD_i hPs hPp
        have s4 := s4 hPk
        have hBe : pBody (xE (zyEl zymx B s.heap) 84) (xE (zyEl zymx B s.heap) 74 42) (xE (zyEl zymx B s.heap) 74 38) (xE (zyEl zymx B s.heap) 75) = .error (pMis (xE (zyEl zymx B s.heap) 84) (xE (zyEl zymx B s.heap) 74 42) (xE (zyEl zymx B s.heap) 74 38), tFr (xE (zyEl zymx B s.heap) 84) (xE (zyEl zymx B s.heap) 74 42) (xE (zyEl zymx B s.heap) 74 38)) := by
          unfold pBody
          rw [if_neg n1, if_neg n2, if_neg n3, if_neg n6, if_neg n7, if_neg n8]
        have hX : xEr (zyEl zymx B H2) (pBody (xE (zyEl zymx B s.heap) 84) (xE (zyEl zymx B s.heap) 74 42) (xE (zyEl zymx B s.heap) 74 38) (xE (zyEl zymx B s.heap) 75)) := by
          rw [hBe]
          unfold pMis
          by_cases c1 : tKd (xE (zyEl zymx B s.heap) 84) (xE (zyEl zymx B s.heap) 74 42) (xE (zyEl zymx B s.heap) 74 38) = 1
          · rw [if_pos c1]
            first
              | (exfalso; omega)
              | exact xEr_n (by omega) (by omega) (by omega)
          · rw [if_neg c1]
            first
              | (exfalso; omega)
              | exact xEr_n (by omega) (by omega) (by omega)
        have hX1 := hX.1
        refine xCa hRu hIH hAt hB hv hFr (hfis B) (ix := 466) (ax := 5072) rfl rfl rfl hmefis ⟨_, rfl, rfl, by decide⟩ ⟨rfl, rfl, rfl⟩ (by decide) [472] [595] [59] rfl ⟨rfl, rfl⟩ (by decide +kernel) (xcs_c rfl xcs_n) (by decide +kernel) ?_ (fun H3 r hT3 hf3 hFr3 hr3 hΨ3 => ?_)
        · show xΦis (xfv [59]) (zyEl zymx B H2)
          intro q0 q1
          omega
        · have hΨ3 : xΨis (xfv [59]) (zyEl zymx B H2) (zyEl zymx B H3) r := hΨ3
          have d74_36 : xE (zyEl zymx B H3) 74 36 = xE (zyEl zymx B H2) 74 36 := xFr_E hf3 rfl
          have d74_37 : xE (zyEl zymx B H3) 74 37 = xE (zyEl zymx B H2) 74 37 := xFr_E hf3 rfl
          have d74_38 : xE (zyEl zymx B H3) 74 38 = xE (zyEl zymx B H2) 74 38 := xFr_E hf3 rfl
          have d74_39 : xE (zyEl zymx B H3) 74 39 = xE (zyEl zymx B H2) 74 39 := xFr_E hf3 rfl
          have d74_40 : xE (zyEl zymx B H3) 74 40 = xE (zyEl zymx B H2) 74 40 := xFr_E hf3 rfl
          have d74_41 : xE (zyEl zymx B H3) 74 41 = xE (zyEl zymx B H2) 74 41 := xFr_E hf3 rfl
          have d74_42 : xE (zyEl zymx B H3) 74 42 = xE (zyEl zymx B H2) 74 42 := xFr_E hf3 rfl
          have d75_0 : xE (zyEl zymx B H3) 75 0 = xE (zyEl zymx B H2) 75 0 := xFr_E hf3 rfl
          have d75_1 : xE (zyEl zymx B H3) 75 1 = xE (zyEl zymx B H2) 75 1 := xFr_E hf3 rfl
          have d75_2 : xE (zyEl zymx B H3) 75 2 = xE (zyEl zymx B H2) 75 2 := xFr_E hf3 rfl
          have d84 : ∀ i, xE (zyEl zymx B H3) 84 i = xE (zyEl zymx B H2) 84 i := fun i => xFr_E hf3 rfl
          have d75 : ∀ i, xE (zyEl zymx B H3) 75 i = xE (zyEl zymx B H2) 75 i := fun i => xFr_E hf3 rfl
          have hE3 : (zyEl zymx B H3) = (zyEl zymx B H2) := xFr_n hf3
          have hb01 := xIs_b hΨ3
          refine ⟨⟨15, by decide⟩, [0], [0, r], rfl, ⟨by decide +kernel, ⟨rfl, by decide +kernel⟩, (xcs_c rfl xcs_n), (xe_0 (xe_c (by omega) (by omega) rfl xe_n)), xkq_n⟩, (by rw [if_pos rfl]; exact ⟨1, [595], rfl, by decide, rfl, (xst_r rfl xst_n)⟩), ?_, ?_⟩
          · show (xE (zyEl zymx B H3) 74 36 = 0 → ∃ p U, ((p) ≤ (xE (zyEl zymx B s.heap) 74 42) ∧ xRD (xE (zyEl zymx B s.heap) 84) (xE (zyEl zymx B s.heap) 74 42) (p) (zyEl zymx B H3)) ∧ pBody (xE (zyEl zymx B s.heap) 84) (xE (zyEl zymx B s.heap) 74 42) (xE (zyEl zymx B s.heap) 74 38) (xE (zyEl zymx B s.heap) 75) = .ok (p, U) ∧ (∀ k, 0 ≤ k → k < 520 → xE (zyEl zymx B H3) 75 k = U k) ∧ (r : Int) = (if tKd (xE (zyEl zymx B s.heap) 84) (xE (zyEl zymx B s.heap) 74 42) p = 5 then 1 else 0)) ∧ (¬ xE (zyEl zymx B H3) 74 36 = 0 → xEr (zyEl zymx B H3) (pBody (xE (zyEl zymx B s.heap) 84) (xE (zyEl zymx B s.heap) 74 42) (xE (zyEl zymx B s.heap) 74 38) (xE (zyEl zymx B s.heap) 75)))
            refine ⟨fun hz => ?_, fun hz => ?_⟩
            · rw [hE3] at hz
              omega
            · rw [hE3]
              exact hX
          · show 85 < 92
            omega
    · have hx : x ∈ [zxfli_k1x0] := hx
      have hag : ∀ k, k < 1 → v2 k = v k := hag
      have hfr : xFr [] _ _ := hfr
      have ex := List.mem_singleton.mp hx
      subst ex
      obtain ⟨hF, hBd, hM⟩ := hXs
      have e74_36 : xE (zyEl zymx B H2) 74 36 = xE (zyEl zymx B H) 74 36 := xFr_E hfr rfl
      have e74_37 : xE (zyEl zymx B H2) 74 37 = xE (zyEl zymx B H) 74 37 := xFr_E hfr rfl
      have e74_38 : xE (zyEl zymx B H2) 74 38 = xE (zyEl zymx B H) 74 38 := xFr_E hfr rfl
      have e74_39 : xE (zyEl zymx B H2) 74 39 = xE (zyEl zymx B H) 74 39 := xFr_E hfr rfl
      have e74_40 : xE (zyEl zymx B H2) 74 40 = xE (zyEl zymx B H) 74 40 := xFr_E hfr rfl
      have e74_41 : xE (zyEl zymx B H2) 74 41 = xE (zyEl zymx B H) 74 41 := xFr_E hfr rfl
      have e74_42 : xE (zyEl zymx B H2) 74 42 = xE (zyEl zymx B H) 74 42 := xFr_E hfr rfl
      have q74_42 : xE (zyEl zymx B H) 74 42 = xE (zyEl zymx B s.heap) 74 42 := xFr_E hFr0 rfl
      have e75_0 : xE (zyEl zymx B H2) 75 0 = xE (zyEl zymx B H) 75 0 := xFr_E hfr rfl
      have q75_0 : xE (zyEl zymx B H) 75 0 = xE (zyEl zymx B s.heap) 75 0 := xFr_E hFr0 rfl
      have e75_1 : xE (zyEl zymx B H2) 75 1 = xE (zyEl zymx B H) 75 1 := xFr_E hfr rfl
      have q75_1 : xE (zyEl zymx B H) 75 1 = xE (zyEl zymx B s.heap) 75 1 := xFr_E hFr0 rfl
      have e75_2 : xE (zyEl zymx B H2) 75 2 = xE (zyEl zymx B H) 75 2 := xFr_E hfr rfl
      have e84 : ∀ i, xE (zyEl zymx B H2) 84 i = xE (zyEl zymx B H) 84 i := fun i => xFr_E hfr rfl
      have q84 : ∀ i, xE (zyEl zymx B H) 84 i = xE (zyEl zymx B s.heap) 84 i := fun i => xFr_E hFr0 rfl
      have e75 : ∀ i, xE (zyEl zymx B H2) 75 i = xE (zyEl zymx B H) 75 i := fun i => xFr_E hfr rfl
      have y74_42 : ((2147483648 : Nat) : Int) ≤ xE (zyEl zymx B s.heap) 74 42 + 2147483648 ∧ xE (zyEl zymx B s.heap) 74 42 + 2147483648 ≤ ((2147484548 : Nat) : Int) := xTyF hT0 74 42 42 rfl rfl rfl rfl rfl rfl
      have hI : xRs (xE (zyEl zymx B s.heap) 84) (xE (zyEl zymx B s.heap) 74 42) (zyEl zymx B H) (pBody (xE (zyEl zymx B s.heap) 84) (xE (zyEl zymx B s.heap) 74 42) (xE (zyEl zymx B s.heap) 74 38) (xE (zyEl zymx B s.heap) 75)) := hInv
      have hEE : (zyEl zymx B H2) = (zyEl zymx B H) := xFr_n hfr
      have hI2 : xRs (xE (zyEl zymx B s.heap) 84) (xE (zyEl zymx B s.heap) 74 42) (zyEl zymx B H2) (pBody (xE (zyEl zymx B s.heap) 84) (xE (zyEl zymx B s.heap) 74 42) (xE (zyEl zymx B s.heap) 74 38) (xE (zyEl zymx B s.heap) 75)) := by rw [hEE]; exact hI
      refine xCa hRu hIH hAt hB hv hFr (hfis B) (ix := 466) (ax := 5072) rfl rfl rfl hmefis ⟨_, rfl, rfl, by decide⟩ ⟨rfl, rfl, rfl⟩ (by decide) [472] [595] [59] rfl ⟨rfl, rfl⟩ (by decide +kernel) (xcs_c rfl xcs_n) (by decide +kernel) ?_ (fun H3 r hT3 hf3 hFr3 hr3 hΨ3 => ?_)
      · show xΦis (xfv [59]) (zyEl zymx B H2)
        intro hw q1
        obtain ⟨p, U, hU, hp, hs, hu⟩ := xRs_o hI2 hw
        obtain ⟨s1, s1b, s2, s3, s4, s5, s6, s7, s8⟩ := xRD_i hs hp
        omega
      · have hΨ3 : xΨis (xfv [59]) (zyEl zymx B H2) (zyEl zymx B H3) r := hΨ3
        have d74_36 : xE (zyEl zymx B H3) 74 36 = xE (zyEl zymx B H2) 74 36 := xFr_E hf3 rfl
        have d74_37 : xE (zyEl zymx B H3) 74 37 = xE (zyEl zymx B H2) 74 37 := xFr_E hf3 rfl
        have d74_38 : xE (zyEl zymx B H3) 74 38 = xE (zyEl zymx B H2) 74 38 := xFr_E hf3 rfl
        have d74_39 : xE (zyEl zymx B H3) 74 39 = xE (zyEl zymx B H2) 74 39 := xFr_E hf3 rfl
        have d74_40 : xE (zyEl zymx B H3) 74 40 = xE (zyEl zymx B H2) 74 40 := xFr_E hf3 rfl
        have d74_41 : xE (zyEl zymx B H3) 74 41 = xE (zyEl zymx B H2) 74 41 := xFr_E hf3 rfl
        have d74_42 : xE (zyEl zymx B H3) 74 42 = xE (zyEl zymx B H2) 74 42 := xFr_E hf3 rfl
        have d75_0 : xE (zyEl zymx B H3) 75 0 = xE (zyEl zymx B H2) 75 0 := xFr_E hf3 rfl
        have d75_1 : xE (zyEl zymx B H3) 75 1 = xE (zyEl zymx B H2) 75 1 := xFr_E hf3 rfl
        have d75_2 : xE (zyEl zymx B H3) 75 2 = xE (zyEl zymx B H2) 75 2 := xFr_E hf3 rfl
        have d84 : ∀ i, xE (zyEl zymx B H3) 84 i = xE (zyEl zymx B H2) 84 i := fun i => xFr_E hf3 rfl
        have d75 : ∀ i, xE (zyEl zymx B H3) 75 i = xE (zyEl zymx B H2) 75 i := fun i => xFr_E hf3 rfl
        have hE3 : (zyEl zymx B H3) = (zyEl zymx B H2) := xFr_n hf3
        have hb01 := xIs_b hΨ3
        refine ⟨⟨15, by decide⟩, [0], [0, r], rfl, ⟨by decide +kernel, ⟨rfl, by decide +kernel⟩, (xcs_c rfl xcs_n), (xe_0 (xe_c (by omega) (by omega) rfl xe_n)), xkq_n⟩, (by rw [if_pos rfl]; exact ⟨1, [595], rfl, by decide, rfl, (xst_r rfl xst_n)⟩), ?_, ?_⟩
        · show (xE (zyEl zymx B H3) 74 36 = 0 → ∃ p U, ((p) ≤ (xE (zyEl zymx B s.heap) 74 42) ∧ xRD (xE (zyEl zymx B s.heap) 84) (xE (zyEl zymx B s.heap) 74 42) (p) (zyEl zymx B H3)) ∧ pBody (xE (zyEl zymx B s.heap) 84) (xE (zyEl zymx B s.heap) 74 42) (xE (zyEl zymx B s.heap) 74 38) (xE (zyEl zymx B s.heap) 75) = .ok (p, U) ∧ (∀ k, 0 ≤ k → k < 520 → xE (zyEl zymx B H3) 75 k = U k) ∧ (r : Int) = (if tKd (xE (zyEl zymx B s.heap) 84) (xE (zyEl zymx B s.heap) 74 42) p = 5 then 1 else 0)) ∧ (¬ xE (zyEl zymx B H3) 74 36 = 0 → xEr (zyEl zymx B H3) (pBody (xE (zyEl zymx B s.heap) 84) (xE (zyEl zymx B s.heap) 74 42) (xE (zyEl zymx B s.heap) 74 38) (xE (zyEl zymx B s.heap) 75)))
          refine ⟨fun hz => ?_, fun hz => ?_⟩
          · rw [hE3] at hz
            obtain ⟨p, U, hU, hp, hs, hu⟩ := xRs_o hI2 hz
            have hr : r = if tKd (xE (zyEl zymx B s.heap) 84) (xE (zyEl zymx B s.heap) 74 42) p = 5 then 1 else 0 := (xIs_g (x := xfv [59]) hΨ3 hz hs hp (fun i => (e84 i).trans (q84 i))).2 rfl
            rw [hE3]
            exact ⟨p, U, ⟨hp, hs⟩, hU, hu, hr⟩
          · rw [hE3] at hz ⊢
            exact xRs_r hI2 hz
        · show 85 < 91
          omega
    · have hx : x ∈ [zxfli_k2x0] := hx
      have hag : ∀ k, k < 1 → v2 k = v k := hag
      have hfr : xFr [] _ _ := hfr
      have ex := List.mem_singleton.mp hx
      subst ex
      obtain ⟨hF, hBd, hM⟩ := hXs
      have e74_36 : xE (zyEl zymx B H2) 74 36 = xE (zyEl zymx B H) 74 36 := xFr_E hfr rfl
      have e74_37 : xE (zyEl zymx B H2) 74 37 = xE (zyEl zymx B H) 74 37 := xFr_E hfr rfl
      have e74_38 : xE (zyEl zymx B H2) 74 38 = xE (zyEl zymx B H) 74 38 := xFr_E hfr rfl
      have e74_39 : xE (zyEl zymx B H2) 74 39 = xE (zyEl zymx B H) 74 39 := xFr_E hfr rfl
      have e74_40 : xE (zyEl zymx B H2) 74 40 = xE (zyEl zymx B H) 74 40 := xFr_E hfr rfl
      have e74_41 : xE (zyEl zymx B H2) 74 41 = xE (zyEl zymx B H) 74 41 := xFr_E hfr rfl
      have e74_42 : xE (zyEl zymx B H2) 74 42 = xE (zyEl zymx B H) 74 42 := xFr_E hfr rfl
      have q74_42 : xE (zyEl zymx B H) 74 42 = xE (zyEl zymx B s.heap) 74 42 := xFr_E hFr0 rfl
      have e75_0 : xE (zyEl zymx B H2) 75 0 = xE (zyEl zymx B H) 75 0 := xFr_E hfr rfl
      have q75_0 : xE (zyEl zymx B H) 75 0 = xE (zyEl zymx B s.heap) 75 0 := xFr_E hFr0 rfl
      have e75_1 : xE (zyEl zymx B H2) 75 1 = xE (zyEl zymx B H) 75 1 := xFr_E hfr rfl
      have q75_1 : xE (zyEl zymx B H) 75 1 = xE (zyEl zymx B s.heap) 75 1 := xFr_E hFr0 rfl
      have e75_2 : xE (zyEl zymx B H2) 75 2 = xE (zyEl zymx B H) 75 2 := xFr_E hfr rfl
      have e84 : ∀ i, xE (zyEl zymx B H2) 84 i = xE (zyEl zymx B H) 84 i := fun i => xFr_E hfr rfl
      have q84 : ∀ i, xE (zyEl zymx B H) 84 i = xE (zyEl zymx B s.heap) 84 i := fun i => xFr_E hFr0 rfl
      have e75 : ∀ i, xE (zyEl zymx B H2) 75 i = xE (zyEl zymx B H) 75 i := fun i => xFr_E hfr rfl
      have y74_42 : ((2147483648 : Nat) : Int) ≤ xE (zyEl zymx B s.heap) 74 42 + 2147483648 ∧ xE (zyEl zymx B s.heap) 74 42 + 2147483648 ≤ ((2147484548 : Nat) : Int) := xTyF hT0 74 42 42 rfl rfl rfl rfl rfl rfl
      have hI : xRs (xE (zyEl zymx B s.heap) 84) (xE (zyEl zymx B s.heap) 74 42) (zyEl zymx B H) (pBody (xE (zyEl zymx B s.heap) 84) (xE (zyEl zymx B s.heap) 74 42) (xE (zyEl zymx B s.heap) 74 38) (xE (zyEl zymx B s.heap) 75)) := hInv
      have hEE : (zyEl zymx B H2) = (zyEl zymx B H) := xFr_n hfr
      have hI2 : xRs (xE (zyEl zymx B s.heap) 84) (xE (zyEl zymx B s.heap) 74 42) (zyEl zymx B H2) (pBody (xE (zyEl zymx B s.heap) 84) (xE (zyEl zymx B s.heap) 74 42) (xE (zyEl zymx B s.heap) 74 38) (xE (zyEl zymx B s.heap) 75)) := by rw [hEE]; exact hI
      refine xCa hRu hIH hAt hB hv hFr (hfis B) (ix := 466) (ax := 5072) rfl rfl rfl hmefis ⟨_, rfl, rfl, by decide⟩ ⟨rfl, rfl, rfl⟩ (by decide) [472] [595] [59] rfl ⟨rfl, rfl⟩ (by decide +kernel) (xcs_c rfl xcs_n) (by decide +kernel) ?_ (fun H3 r hT3 hf3 hFr3 hr3 hΨ3 => ?_)
      · show xΦis (xfv [59]) (zyEl zymx B H2)
        intro hw q1
        obtain ⟨p, U, hU, hp, hs, hu⟩ := xRs_o hI2 hw
        obtain ⟨s1, s1b, s2, s3, s4, s5, s6, s7, s8⟩ := xRD_i hs hp
        omega
      · have hΨ3 : xΨis (xfv [59]) (zyEl zymx B H2) (zyEl zymx B H3) r := hΨ3
        have d74_36 : xE (zyEl zymx B H3) 74 36 = xE (zyEl zymx B H2) 74 36 := xFr_E hf3 rfl
        have d74_37 : xE (zyEl zymx B H3) 74 37 = xE (zyEl zymx B H2) 74 37 := xFr_E hf3 rfl
        have d74_38 : xE (zyEl zymx B H3) 74 38 = xE (zyEl zymx B H2) 74 38 := xFr_E hf3 rfl
        have d74_39 : xE (zyEl zymx B H3) 74 39 = xE (zyEl zymx B H2) 74 39 := xFr_E hf3 rfl
        have d74_40 : xE (zyEl zymx B H3) 74 40 = xE (zyEl zymx B H2) 74 40 := xFr_E hf3 rfl
        have d74_41 : xE (zyEl zymx B H3) 74 41 = xE (zyEl zymx B H2) 74 41 := xFr_E hf3 rfl
        have d74_42 : xE (zyEl zymx B H3) 74 42 = xE (zyEl zymx B H2) 74 42 := xFr_E hf3 rfl
        have d75_0 : xE (zyEl zymx B H3) 75 0 = xE (zyEl zymx B H2) 75 0 := xFr_E hf3 rfl
        have d75_1 : xE (zyEl zymx B H3) 75 1 = xE (zyEl zymx B H2) 75 1 := xFr_E hf3 rfl
        have d75_2 : xE (zyEl zymx B H3) 75 2 = xE (zyEl zymx B H2) 75 2 := xFr_E hf3 rfl
        have d84 : ∀ i, xE (zyEl zymx B H3) 84 i = xE (zyEl zymx B H2) 84 i := fun i => xFr_E hf3 rfl
        have d75 : ∀ i, xE (zyEl zymx B H3) 75 i = xE (zyEl zymx B H2) 75 i := fun i => xFr_E hf3 rfl
        have hE3 : (zyEl zymx B H3) = (zyEl zymx B H2) := xFr_n hf3
        have hb01 := xIs_b hΨ3
        refine ⟨⟨15, by decide⟩, [0], [0, r], rfl, ⟨by decide +kernel, ⟨rfl, by decide +kernel⟩, (xcs_c rfl xcs_n), (xe_0 (xe_c (by omega) (by omega) rfl xe_n)), xkq_n⟩, (by rw [if_pos rfl]; exact ⟨1, [595], rfl, by decide, rfl, (xst_r rfl xst_n)⟩), ?_, ?_⟩
        · show (xE (zyEl zymx B H3) 74 36 = 0 → ∃ p U, ((p) ≤ (xE (zyEl zymx B s.heap) 74 42) ∧ xRD (xE (zyEl zymx B s.heap) 84) (xE (zyEl zymx B s.heap) 74 42) (p) (zyEl zymx B H3)) ∧ pBody (xE (zyEl zymx B s.heap) 84) (xE (zyEl zymx B s.heap) 74 42) (xE (zyEl zymx B s.heap) 74 38) (xE (zyEl zymx B s.heap) 75) = .ok (p, U) ∧ (∀ k, 0 ≤ k → k < 520 → xE (zyEl zymx B H3) 75 k = U k) ∧ (r : Int) = (if tKd (xE (zyEl zymx B s.heap) 84) (xE (zyEl zymx B s.heap) 74 42) p = 5 then 1 else 0)) ∧ (¬ xE (zyEl zymx B H3) 74 36 = 0 → xEr (zyEl zymx B H3) (pBody (xE (zyEl zymx B s.heap) 84) (xE (zyEl zymx B s.heap) 74 42) (xE (zyEl zymx B s.heap) 74 38) (xE (zyEl zymx B s.heap) 75)))
          refine ⟨fun hz => ?_, fun hz => ?_⟩
          · rw [hE3] at hz
            obtain ⟨p, U, hU, hp, hs, hu⟩ := xRs_o hI2 hz
            have hr : r = if tKd (xE (zyEl zymx B s.heap) 84) (xE (zyEl zymx B s.heap) 74 42) p = 5 then 1 else 0 := (xIs_g (x := xfv [59]) hΨ3 hz hs hp (fun i => (e84 i).trans (q84 i))).2 rfl
            rw [hE3]
            exact ⟨p, U, ⟨hp, hs⟩, hU, hu, hr⟩
          · rw [hE3] at hz ⊢
            exact xRs_r hI2 hz
        · show 85 < 90
          omega
    · have hx : x ∈ [zxfli_k3x0] := hx
      have hag : ∀ k, k < 1 → v2 k = v k := hag
      have hfr : xFr [] _ _ := hfr
      have ex := List.mem_singleton.mp hx
      subst ex
      obtain ⟨hF, hBd, hM⟩ := hXs
      have e74_36 : xE (zyEl zymx B H2) 74 36 = xE (zyEl zymx B H) 74 36 := xFr_E hfr rfl
      have e74_37 : xE (zyEl zymx B H2) 74 37 = xE (zyEl zymx B H) 74 37 := xFr_E hfr rfl
      have e74_38 : xE (zyEl zymx B H2) 74 38 = xE (zyEl zymx B H) 74 38 := xFr_E hfr rfl
      have e74_39 : xE (zyEl zymx B H2) 74 39 = xE (zyEl zymx B H) 74 39 := xFr_E hfr rfl
      have e74_40 : xE (zyEl zymx B H2) 74 40 = xE (zyEl zymx B H) 74 40 := xFr_E hfr rfl
      have e74_41 : xE (zyEl zymx B H2) 74 41 = xE (zyEl zymx B H) 74 41 := xFr_E hfr rfl
      have e74_42 : xE (zyEl zymx B H2) 74 42 = xE (zyEl zymx B H) 74 42 := xFr_E hfr rfl
      have q74_42 : xE (zyEl zymx B H) 74 42 = xE (zyEl zymx B s.heap) 74 42 := xFr_E hFr0 rfl
      have e75_0 : xE (zyEl zymx B H2) 75 0 = xE (zyEl zymx B H) 75 0 := xFr_E hfr rfl
      have q75_0 : xE (zyEl zymx B H) 75 0 = xE (zyEl zymx B s.heap) 75 0 := xFr_E hFr0 rfl
      have e75_1 : xE (zyEl zymx B H2) 75 1 = xE (zyEl zymx B H) 75 1 := xFr_E hfr rfl
      have q75_1 : xE (zyEl zymx B H) 75 1 = xE (zyEl zymx B s.heap) 75 1 := xFr_E hFr0 rfl
      have e75_2 : xE (zyEl zymx B H2) 75 2 = xE (zyEl zymx B H) 75 2 := xFr_E hfr rfl
      have e84 : ∀ i, xE (zyEl zymx B H2) 84 i = xE (zyEl zymx B H) 84 i := fun i => xFr_E hfr rfl
      have q84 : ∀ i, xE (zyEl zymx B H) 84 i = xE (zyEl zymx B s.heap) 84 i := fun i => xFr_E hFr0 rfl
      have e75 : ∀ i, xE (zyEl zymx B H2) 75 i = xE (zyEl zymx B H) 75 i := fun i => xFr_E hfr rfl
      have y74_42 : ((2147483648 : Nat) : Int) ≤ xE (zyEl zymx B s.heap) 74 42 + 2147483648 ∧ xE (zyEl zymx B s.heap) 74 42 + 2147483648 ≤ ((2147484548 : Nat) : Int) := xTyF hT0 74 42 42 rfl rfl rfl rfl rfl rfl
      have hI : xRs (xE (zyEl zymx B s.heap) 84) (xE (zyEl zymx B s.heap) 74 42) (zyEl zymx B H) (pBody (xE (zyEl zymx B s.heap) 84) (xE (zyEl zymx B s.heap) 74 42) (xE (zyEl zymx B s.heap) 74 38) (xE (zyEl zymx B s.heap) 75)) := hInv
      have hEE : (zyEl zymx B H2) = (zyEl zymx B H) := xFr_n hfr
      have hI2 : xRs (xE (zyEl zymx B s.heap) 84) (xE (zyEl zymx B s.heap) 74 42) (zyEl zymx B H2) (pBody (xE (zyEl zymx B s.heap) 84) (xE (zyEl zymx B s.heap) 74 42) (xE (zyEl zymx B s.heap) 74 38) (xE (zyEl zymx B s.heap) 75)) := by rw [hEE]; exact hI
      refine xCa hRu hIH hAt hB hv hFr (hfis B) (ix := 466) (ax := 5072) rfl rfl rfl hmefis ⟨_, rfl, rfl, by decide⟩ ⟨rfl, rfl, rfl⟩ (by decide) [472] [595] [59] rfl ⟨rfl, rfl⟩ (by decide +kernel) (xcs_c rfl xcs_n) (by decide +kernel) ?_ (fun H3 r hT3 hf3 hFr3 hr3 hΨ3 => ?_)
      · show xΦis (xfv [59]) (zyEl zymx B H2)
        intro hw q1
        obtain ⟨p, U, hU, hp, hs, hu⟩ := xRs_o hI2 hw
        obtain ⟨s1, s1b, s2, s3, s4, s5, s6, s7, s8⟩ := xRD_i hs hp
        omega
      · have hΨ3 : xΨis (xfv [59]) (zyEl zymx B H2) (zyEl zymx B H3) r := hΨ3
        have d74_36 : xE (zyEl zymx B H3) 74 36 = xE (zyEl zymx B H2) 74 36 := xFr_E hf3 rfl
        have d74_37 : xE (zyEl zymx B H3) 74 37 = xE (zyEl zymx B H2) 74 37 := xFr_E hf3 rfl
        have d74_38 : xE (zyEl zymx B H3) 74 38 = xE (zyEl zymx B H2) 74 38 := xFr_E hf3 rfl
        have d74_39 : xE (zyEl zymx B H3) 74 39 = xE (zyEl zymx B H2) 74 39 := xFr_E hf3 rfl
        have d74_40 : xE (zyEl zymx B H3) 74 40 = xE (zyEl zymx B H2) 74 40 := xFr_E hf3 rfl
        have d74_41 : xE (zyEl zymx B H3) 74 41 = xE (zyEl zymx B H2) 74 41 := xFr_E hf3 rfl
        have d74_42 : xE (zyEl zymx B H3) 74 42 = xE (zyEl zymx B H2) 74 42 := xFr_E hf3 rfl
        have d75_0 : xE (zyEl zymx B H3) 75 0 = xE (zyEl zymx B H2) 75 0 := xFr_E hf3 rfl
        have d75_1 : xE (zyEl zymx B H3) 75 1 = xE (zyEl zymx B H2) 75 1 := xFr_E hf3 rfl
        have d75_2 : xE (zyEl zymx B H3) 75 2 = xE (zyEl zymx B H2) 75 2 := xFr_E hf3 rfl
        have d84 : ∀ i, xE (zyEl zymx B H3) 84 i = xE (zyEl zymx B H2) 84 i := fun i => xFr_E hf3 rfl
        have d75 : ∀ i, xE (zyEl zymx B H3) 75 i = xE (zyEl zymx B H2) 75 i := fun i => xFr_E hf3 rfl
        have hE3 : (zyEl zymx B H3) = (zyEl zymx B H2) := xFr_n hf3
        have hb01 := xIs_b hΨ3
        refine ⟨⟨15, by decide⟩, [0], [0, r], rfl, ⟨by decide +kernel, ⟨rfl, by decide +kernel⟩, (xcs_c rfl xcs_n), (xe_0 (xe_c (by omega) (by omega) rfl xe_n)), xkq_n⟩, (by rw [if_pos rfl]; exact ⟨1, [595], rfl, by decide, rfl, (xst_r rfl xst_n)⟩), ?_, ?_⟩
        · show (xE (zyEl zymx B H3) 74 36 = 0 → ∃ p U, ((p) ≤ (xE (zyEl zymx B s.heap) 74 42) ∧ xRD (xE (zyEl zymx B s.heap) 84) (xE (zyEl zymx B s.heap) 74 42) (p) (zyEl zymx B H3)) ∧ pBody (xE (zyEl zymx B s.heap) 84) (xE (zyEl zymx B s.heap) 74 42) (xE (zyEl zymx B s.heap) 74 38) (xE (zyEl zymx B s.heap) 75) = .ok (p, U) ∧ (∀ k, 0 ≤ k → k < 520 → xE (zyEl zymx B H3) 75 k = U k) ∧ (r : Int) = (if tKd (xE (zyEl zymx B s.heap) 84) (xE (zyEl zymx B s.heap) 74 42) p = 5 then 1 else 0)) ∧ (¬ xE (zyEl zymx B H3) 74 36 = 0 → xEr (zyEl zymx B H3) (pBody (xE (zyEl zymx B s.heap) 84) (xE (zyEl zymx B s.heap) 74 42) (xE (zyEl zymx B s.heap) 74 38) (xE (zyEl zymx B s.heap) 75)))
          refine ⟨fun hz => ?_, fun hz => ?_⟩
          · rw [hE3] at hz
            obtain ⟨p, U, hU, hp, hs, hu⟩ := xRs_o hI2 hz
            have hr : r = if tKd (xE (zyEl zymx B s.heap) 84) (xE (zyEl zymx B s.heap) 74 42) p = 5 then 1 else 0 := (xIs_g (x := xfv [59]) hΨ3 hz hs hp (fun i => (e84 i).trans (q84 i))).2 rfl
            rw [hE3]
            exact ⟨p, U, ⟨hp, hs⟩, hU, hu, hr⟩
          · rw [hE3] at hz ⊢
            exact xRs_r hI2 hz
        · show 85 < 89
          omega
    · have hx : x ∈ [zxfli_k6x0] := hx
      have hag : ∀ k, k < 1 → v2 k = v k := hag
      have hfr : xFr [] _ _ := hfr
      have ex := List.mem_singleton.mp hx
      subst ex
      obtain ⟨hF, hBd, hM⟩ := hXs
      have e74_36 : xE (zyEl zymx B H2) 74 36 = xE (zyEl zymx B H) 74 36 := xFr_E hfr rfl
      have e74_37 : xE (zyEl zymx B H2) 74 37 = xE (zyEl zymx B H) 74 37 := xFr_E hfr rfl
      have e74_38 : xE (zyEl zymx B H2) 74 38 = xE (zyEl zymx B H) 74 38 := xFr_E hfr rfl
      have e74_39 : xE (zyEl zymx B H2) 74 39 = xE (zyEl zymx B H) 74 39 := xFr_E hfr rfl
      have e74_40 : xE (zyEl zymx B H2) 74 40 = xE (zyEl zymx B H) 74 40 := xFr_E hfr rfl
      have e74_41 : xE (zyEl zymx B H2) 74 41 = xE (zyEl zymx B H) 74 41 := xFr_E hfr rfl
      have e74_42 : xE (zyEl zymx B H2) 74 42 = xE (zyEl zymx B H) 74 42 := xFr_E hfr rfl
      have q74_42 : xE (zyEl zymx B H) 74 42 = xE (zyEl zymx B s.heap) 74 42 := xFr_E hFr0 rfl
      have e75_0 : xE (zyEl zymx B H2) 75 0 = xE (zyEl zymx B H) 75 0 := xFr_E hfr rfl
      have q75_0 : xE (zyEl zymx B H) 75 0 = xE (zyEl zymx B s.heap) 75 0 := xFr_E hFr0 rfl
      have e75_1 : xE (zyEl zymx B H2) 75 1 = xE (zyEl zymx B H) 75 1 := xFr_E hfr rfl
      have q75_1 : xE (zyEl zymx B H) 75 1 = xE (zyEl zymx B s.heap) 75 1 := xFr_E hFr0 rfl
      have e75_2 : xE (zyEl zymx B H2) 75 2 = xE (zyEl zymx B H) 75 2 := xFr_E hfr rfl
      have e84 : ∀ i, xE (zyEl zymx B H2) 84 i = xE (zyEl zymx B H) 84 i := fun i => xFr_E hfr rfl
      have q84 : ∀ i, xE (zyEl zymx B H) 84 i = xE (zyEl zymx B s.heap) 84 i := fun i => xFr_E hFr0 rfl
      have e75 : ∀ i, xE (zyEl zymx B H2) 75 i = xE (zyEl zymx B H) 75 i := fun i => xFr_E hfr rfl
      have y74_42 : ((2147483648 : Nat) : Int) ≤ xE (zyEl zymx B s.heap) 74 42 + 2147483648 ∧ xE (zyEl zymx B s.heap) 74 42 + 2147483648 ≤ ((2147484548 : Nat) : Int) := xTyF hT0 74 42 42 rfl rfl rfl rfl rfl rfl
      have hI : xRs (xE (zyEl zymx B s.heap) 84) (xE (zyEl zymx B s.heap) 74 42) (zyEl zymx B H) (pBody (xE (zyEl zymx B s.heap) 84) (xE (zyEl zymx B s.heap) 74 42) (xE (zyEl zymx B s.heap) 74 38) (xE (zyEl zymx B s.heap) 75)) := hInv
      have hEE : (zyEl zymx B H2) = (zyEl zymx B H) := xFr_n hfr
      have hI2 : xRs (xE (zyEl zymx B s.heap) 84) (xE (zyEl zymx B s.heap) 74 42) (zyEl zymx B H2) (pBody (xE (zyEl zymx B s.heap) 84) (xE (zyEl zymx B s.heap) 74 42) (xE (zyEl zymx B s.heap) 74 38) (xE (zyEl zymx B s.heap) 75)) := by rw [hEE]; exact hI
      refine xCa hRu hIH hAt hB hv hFr (hfis B) (ix := 466) (ax := 5072) rfl rfl rfl hmefis ⟨_, rfl, rfl, by decide⟩ ⟨rfl, rfl, rfl⟩ (by decide) [472] [595] [59] rfl ⟨rfl, rfl⟩ (by decide +kernel) (xcs_c rfl xcs_n) (by decide +kernel) ?_ (fun H3 r hT3 hf3 hFr3 hr3 hΨ3 => ?_)
      · show xΦis (xfv [59]) (zyEl zymx B H2)
        intro hw q1
        obtain ⟨p, U, hU, hp, hs, hu⟩ := xRs_o hI2 hw
        obtain ⟨s1, s1b, s2, s3, s4, s5, s6, s7, s8⟩ := xRD_i hs hp
        omega
      · have hΨ3 : xΨis (xfv [59]) (zyEl zymx B H2) (zyEl zymx B H3) r := hΨ3
        have d74_36 : xE (zyEl zymx B H3) 74 36 = xE (zyEl zymx B H2) 74 36 := xFr_E hf3 rfl
        have d74_37 : xE (zyEl zymx B H3) 74 37 = xE (zyEl zymx B H2) 74 37 := xFr_E hf3 rfl
        have d74_38 : xE (zyEl zymx B H3) 74 38 = xE (zyEl zymx B H2) 74 38 := xFr_E hf3 rfl
        have d74_39 : xE (zyEl zymx B H3) 74 39 = xE (zyEl zymx B H2) 74 39 := xFr_E hf3 rfl
        have d74_40 : xE (zyEl zymx B H3) 74 40 = xE (zyEl zymx B H2) 74 40 := xFr_E hf3 rfl
        have d74_41 : xE (zyEl zymx B H3) 74 41 = xE (zyEl zymx B H2) 74 41 := xFr_E hf3 rfl
        have d74_42 : xE (zyEl zymx B H3) 74 42 = xE (zyEl zymx B H2) 74 42 := xFr_E hf3 rfl
        have d75_0 : xE (zyEl zymx B H3) 75 0 = xE (zyEl zymx B H2) 75 0 := xFr_E hf3 rfl
        have d75_1 : xE (zyEl zymx B H3) 75 1 = xE (zyEl zymx B H2) 75 1 := xFr_E hf3 rfl
        have d75_2 : xE (zyEl zymx B H3) 75 2 = xE (zyEl zymx B H2) 75 2 := xFr_E hf3 rfl
        have d84 : ∀ i, xE (zyEl zymx B H3) 84 i = xE (zyEl zymx B H2) 84 i := fun i => xFr_E hf3 rfl
        have d75 : ∀ i, xE (zyEl zymx B H3) 75 i = xE (zyEl zymx B H2) 75 i := fun i => xFr_E hf3 rfl
        have hE3 : (zyEl zymx B H3) = (zyEl zymx B H2) := xFr_n hf3
        have hb01 := xIs_b hΨ3
        refine ⟨⟨15, by decide⟩, [0], [0, r], rfl, ⟨by decide +kernel, ⟨rfl, by decide +kernel⟩, (xcs_c rfl xcs_n), (xe_0 (xe_c (by omega) (by omega) rfl xe_n)), xkq_n⟩, (by rw [if_pos rfl]; exact ⟨1, [595], rfl, by decide, rfl, (xst_r rfl xst_n)⟩), ?_, ?_⟩
        · show (xE (zyEl zymx B H3) 74 36 = 0 → ∃ p U, ((p) ≤ (xE (zyEl zymx B s.heap) 74 42) ∧ xRD (xE (zyEl zymx B s.heap) 84) (xE (zyEl zymx B s.heap) 74 42) (p) (zyEl zymx B H3)) ∧ pBody (xE (zyEl zymx B s.heap) 84) (xE (zyEl zymx B s.heap) 74 42) (xE (zyEl zymx B s.heap) 74 38) (xE (zyEl zymx B s.heap) 75) = .ok (p, U) ∧ (∀ k, 0 ≤ k → k < 520 → xE (zyEl zymx B H3) 75 k = U k) ∧ (r : Int) = (if tKd (xE (zyEl zymx B s.heap) 84) (xE (zyEl zymx B s.heap) 74 42) p = 5 then 1 else 0)) ∧ (¬ xE (zyEl zymx B H3) 74 36 = 0 → xEr (zyEl zymx B H3) (pBody (xE (zyEl zymx B s.heap) 84) (xE (zyEl zymx B s.heap) 74 42) (xE (zyEl zymx B s.heap) 74 38) (xE (zyEl zymx B s.heap) 75)))
          refine ⟨fun hz => ?_, fun hz => ?_⟩
          · rw [hE3] at hz
            obtain ⟨p, U, hU, hp, hs, hu⟩ := xRs_o hI2 hz
            have hr : r = if tKd (xE (zyEl zymx B s.heap) 84) (xE (zyEl zymx B s.heap) 74 42) p = 5 then 1 else 0 := (xIs_g (x := xfv [59]) hΨ3 hz hs hp (fun i => (e84 i).trans (q84 i))).2 rfl
            rw [hE3]
            exact ⟨p, U, ⟨hp, hs⟩, hU, hu, hr⟩
          · rw [hE3] at hz ⊢
            exact xRs_r hI2 hz
        · show 85 < 88
          omega
    · have hx : x ∈ [zxfli_k7x0] := hx
      have hag : ∀ k, k < 1 → v2 k = v k := hag
      have hfr : xFr [] _ _ := hfr
      have ex := List.mem_singleton.mp hx
      subst ex
      obtain ⟨hF, hBd, hM⟩ := hXs
      have e74_36 : xE (zyEl zymx B H2) 74 36 = xE (zyEl zymx B H) 74 36 := xFr_E hfr rfl
      have e74_37 : xE (zyEl zymx B H2) 74 37 = xE (zyEl zymx B H) 74 37 := xFr_E hfr rfl
      have e74_38 : xE (zyEl zymx B H2) 74 38 = xE (zyEl zymx B H) 74 38 := xFr_E hfr rfl
      have e74_39 : xE (zyEl zymx B H2) 74 39 = xE (zyEl zymx B H) 74 39 := xFr_E hfr rfl
      have e74_40 : xE (zyEl zymx B H2) 74 40 = xE (zyEl zymx B H) 74 40 := xFr_E hfr rfl
      have e74_41 : xE (zyEl zymx B H2) 74 41 = xE (zyEl zymx B H) 74 41 := xFr_E hfr rfl
      have e74_42 : xE (zyEl zymx B H2) 74 42 = xE (zyEl zymx B H) 74 42 := xFr_E hfr rfl
      have q74_42 : xE (zyEl zymx B H) 74 42 = xE (zyEl zymx B s.heap) 74 42 := xFr_E hFr0 rfl
      have e75_0 : xE (zyEl zymx B H2) 75 0 = xE (zyEl zymx B H) 75 0 := xFr_E hfr rfl
      have q75_0 : xE (zyEl zymx B H) 75 0 = xE (zyEl zymx B s.heap) 75 0 := xFr_E hFr0 rfl
      have e75_1 : xE (zyEl zymx B H2) 75 1 = xE (zyEl zymx B H) 75 1 := xFr_E hfr rfl
      have q75_1 : xE (zyEl zymx B H) 75 1 = xE (zyEl zymx B s.heap) 75 1 := xFr_E hFr0 rfl
      have e75_2 : xE (zyEl zymx B H2) 75 2 = xE (zyEl zymx B H) 75 2 := xFr_E hfr rfl
      have e84 : ∀ i, xE (zyEl zymx B H2) 84 i = xE (zyEl zymx B H) 84 i := fun i => xFr_E hfr rfl
      have q84 : ∀ i, xE (zyEl zymx B H) 84 i = xE (zyEl zymx B s.heap) 84 i := fun i => xFr_E hFr0 rfl
      have e75 : ∀ i, xE (zyEl zymx B H2) 75 i = xE (zyEl zymx B H) 75 i := fun i => xFr_E hfr rfl
      have y74_42 : ((2147483648 : Nat) : Int) ≤ xE (zyEl zymx B s.heap) 74 42 + 2147483648 ∧ xE (zyEl zymx B s.heap) 74 42 + 2147483648 ≤ ((2147484548 : Nat) : Int) := xTyF hT0 74 42 42 rfl rfl rfl rfl rfl rfl
      have hI : xRs (xE (zyEl zymx B s.heap) 84) (xE (zyEl zymx B s.heap) 74 42) (zyEl zymx B H) (pBody (xE (zyEl zymx B s.heap) 84) (xE (zyEl zymx B s.heap) 74 42) (xE (zyEl zymx B s.heap) 74 38) (xE (zyEl zymx B s.heap) 75)) := hInv
      have hEE : (zyEl zymx B H2) = (zyEl zymx B H) := xFr_n hfr
      have hI2 : xRs (xE (zyEl zymx B s.heap) 84) (xE (zyEl zymx B s.heap) 74 42) (zyEl zymx B H2) (pBody (xE (zyEl zymx B s.heap) 84) (xE (zyEl zymx B s.heap) 74 42) (xE (zyEl zymx B s.heap) 74 38) (xE (zyEl zymx B s.heap) 75)) := by rw [hEE]; exact hI
      refine xCa hRu hIH hAt hB hv hFr (hfis B) (ix := 466) (ax := 5072) rfl rfl rfl hmefis ⟨_, rfl, rfl, by decide⟩ ⟨rfl, rfl, rfl⟩ (by decide) [472] [595] [59] rfl ⟨rfl, rfl⟩ (by decide +kernel) (xcs_c rfl xcs_n) (by decide +kernel) ?_ (fun H3 r hT3 hf3 hFr3 hr3 hΨ3 => ?_)
      · show xΦis (xfv [59]) (zyEl zymx B H2)
        intro hw q1
        obtain ⟨p, U, hU, hp, hs, hu⟩ := xRs_o hI2 hw
        obtain ⟨s1, s1b, s2, s3, s4, s5, s6, s7, s8⟩ := xRD_i hs hp
        omega
      · have hΨ3 : xΨis (xfv [59]) (zyEl zymx B H2) (zyEl zymx B H3) r := hΨ3
        have d74_36 : xE (zyEl zymx B H3) 74 36 = xE (zyEl zymx B H2) 74 36 := xFr_E hf3 rfl
        have d74_37 : xE (zyEl zymx B H3) 74 37 = xE (zyEl zymx B H2) 74 37 := xFr_E hf3 rfl
        have d74_38 : xE (zyEl zymx B H3) 74 38 = xE (zyEl zymx B H2) 74 38 := xFr_E hf3 rfl
        have d74_39 : xE (zyEl zymx B H3) 74 39 = xE (zyEl zymx B H2) 74 39 := xFr_E hf3 rfl
        have d74_40 : xE (zyEl zymx B H3) 74 40 = xE (zyEl zymx B H2) 74 40 := xFr_E hf3 rfl
        have d74_41 : xE (zyEl zymx B H3) 74 41 = xE (zyEl zymx B H2) 74 41 := xFr_E hf3 rfl
        have d74_42 : xE (zyEl zymx B H3) 74 42 = xE (zyEl zymx B H2) 74 42 := xFr_E hf3 rfl
        have d75_0 : xE (zyEl zymx B H3) 75 0 = xE (zyEl zymx B H2) 75 0 := xFr_E hf3 rfl
        have d75_1 : xE (zyEl zymx B H3) 75 1 = xE (zyEl zymx B H2) 75 1 := xFr_E hf3 rfl
        have d75_2 : xE (zyEl zymx B H3) 75 2 = xE (zyEl zymx B H2) 75 2 := xFr_E hf3 rfl
        have d84 : ∀ i, xE (zyEl zymx B H3) 84 i = xE (zyEl zymx B H2) 84 i := fun i => xFr_E hf3 rfl
        have d75 : ∀ i, xE (zyEl zymx B H3) 75 i = xE (zyEl zymx B H2) 75 i := fun i => xFr_E hf3 rfl
        have hE3 : (zyEl zymx B H3) = (zyEl zymx B H2) := xFr_n hf3
        have hb01 := xIs_b hΨ3
        refine ⟨⟨15, by decide⟩, [0], [0, r], rfl, ⟨by decide +kernel, ⟨rfl, by decide +kernel⟩, (xcs_c rfl xcs_n), (xe_0 (xe_c (by omega) (by omega) rfl xe_n)), xkq_n⟩, (by rw [if_pos rfl]; exact ⟨1, [595], rfl, by decide, rfl, (xst_r rfl xst_n)⟩), ?_, ?_⟩
        · show (xE (zyEl zymx B H3) 74 36 = 0 → ∃ p U, ((p) ≤ (xE (zyEl zymx B s.heap) 74 42) ∧ xRD (xE (zyEl zymx B s.heap) 84) (xE (zyEl zymx B s.heap) 74 42) (p) (zyEl zymx B H3)) ∧ pBody (xE (zyEl zymx B s.heap) 84) (xE (zyEl zymx B s.heap) 74 42) (xE (zyEl zymx B s.heap) 74 38) (xE (zyEl zymx B s.heap) 75) = .ok (p, U) ∧ (∀ k, 0 ≤ k → k < 520 → xE (zyEl zymx B H3) 75 k = U k) ∧ (r : Int) = (if tKd (xE (zyEl zymx B s.heap) 84) (xE (zyEl zymx B s.heap) 74 42) p = 5 then 1 else 0)) ∧ (¬ xE (zyEl zymx B H3) 74 36 = 0 → xEr (zyEl zymx B H3) (pBody (xE (zyEl zymx B s.heap) 84) (xE (zyEl zymx B s.heap) 74 42) (xE (zyEl zymx B s.heap) 74 38) (xE (zyEl zymx B s.heap) 75)))
          refine ⟨fun hz => ?_, fun hz => ?_⟩
          · rw [hE3] at hz
            obtain ⟨p, U, hU, hp, hs, hu⟩ := xRs_o hI2 hz
            have hr : r = if tKd (xE (zyEl zymx B s.heap) 84) (xE (zyEl zymx B s.heap) 74 42) p = 5 then 1 else 0 := (xIs_g (x := xfv [59]) hΨ3 hz hs hp (fun i => (e84 i).trans (q84 i))).2 rfl
            rw [hE3]
            exact ⟨p, U, ⟨hp, hs⟩, hU, hu, hr⟩
          · rw [hE3] at hz ⊢
            exact xRs_r hI2 hz
        · show 85 < 87
          omega
    · have hx : x ∈ [zxfli_k8x0] := hx
      have hag : ∀ k, k < 1 → v2 k = v k := hag
      have hfr : xFr [] _ _ := hfr
      have ex := List.mem_singleton.mp hx
      subst ex
      obtain ⟨hF, hBd, hM⟩ := hXs
      have e74_36 : xE (zyEl zymx B H2) 74 36 = xE (zyEl zymx B H) 74 36 := xFr_E hfr rfl
      have e74_37 : xE (zyEl zymx B H2) 74 37 = xE (zyEl zymx B H) 74 37 := xFr_E hfr rfl
      have e74_38 : xE (zyEl zymx B H2) 74 38 = xE (zyEl zymx B H) 74 38 := xFr_E hfr rfl
      have e74_39 : xE (zyEl zymx B H2) 74 39 = xE (zyEl zymx B H) 74 39 := xFr_E hfr rfl
      have e74_40 : xE (zyEl zymx B H2) 74 40 = xE (zyEl zymx B H) 74 40 := xFr_E hfr rfl
      have e74_41 : xE (zyEl zymx B H2) 74 41 = xE (zyEl zymx B H) 74 41 := xFr_E hfr rfl
      have e74_42 : xE (zyEl zymx B H2) 74 42 = xE (zyEl zymx B H) 74 42 := xFr_E hfr rfl
      have q74_42 : xE (zyEl zymx B H) 74 42 = xE (zyEl zymx B s.heap) 74 42 := xFr_E hFr0 rfl
      have e75_0 : xE (zyEl zymx B H2) 75 0 = xE (zyEl zymx B H) 75 0 := xFr_E hfr rfl
      have q75_0 : xE (zyEl zymx B H) 75 0 = xE (zyEl zymx B s.heap) 75 0 := xFr_E hFr0 rfl
      have e75_1 : xE (zyEl zymx B H2) 75 1 = xE (zyEl zymx B H) 75 1 := xFr_E hfr rfl
      have q75_1 : xE (zyEl zymx B H) 75 1 = xE (zyEl zymx B s.heap) 75 1 := xFr_E hFr0 rfl
      have e75_2 : xE (zyEl zymx B H2) 75 2 = xE (zyEl zymx B H) 75 2 := xFr_E hfr rfl
      have e84 : ∀ i, xE (zyEl zymx B H2) 84 i = xE (zyEl zymx B H) 84 i := fun i => xFr_E hfr rfl
      have q84 : ∀ i, xE (zyEl zymx B H) 84 i = xE (zyEl zymx B s.heap) 84 i := fun i => xFr_E hFr0 rfl
      have e75 : ∀ i, xE (zyEl zymx B H2) 75 i = xE (zyEl zymx B H) 75 i := fun i => xFr_E hfr rfl
      have y74_42 : ((2147483648 : Nat) : Int) ≤ xE (zyEl zymx B s.heap) 74 42 + 2147483648 ∧ xE (zyEl zymx B s.heap) 74 42 + 2147483648 ≤ ((2147484548 : Nat) : Int) := xTyF hT0 74 42 42 rfl rfl rfl rfl rfl rfl
      have hI : xRs (xE (zyEl zymx B s.heap) 84) (xE (zyEl zymx B s.heap) 74 42) (zyEl zymx B H) (pBody (xE (zyEl zymx B s.heap) 84) (xE (zyEl zymx B s.heap) 74 42) (xE (zyEl zymx B s.heap) 74 38) (xE (zyEl zymx B s.heap) 75)) := hInv
      have hEE : (zyEl zymx B H2) = (zyEl zymx B H) := xFr_n hfr
      have hI2 : xRs (xE (zyEl zymx B s.heap) 84) (xE (zyEl zymx B s.heap) 74 42) (zyEl zymx B H2) (pBody (xE (zyEl zymx B s.heap) 84) (xE (zyEl zymx B s.heap) 74 42) (xE (zyEl zymx B s.heap) 74 38) (xE (zyEl zymx B s.heap) 75)) := by rw [hEE]; exact hI
      refine xCa hRu hIH hAt hB hv hFr (hfis B) (ix := 466) (ax := 5072) rfl rfl rfl hmefis ⟨_, rfl, rfl, by decide⟩ ⟨rfl, rfl, rfl⟩ (by decide) [472] [595] [59] rfl ⟨rfl, rfl⟩ (by decide +kernel) (xcs_c rfl xcs_n) (by decide +kernel) ?_ (fun H3 r hT3 hf3 hFr3 hr3 hΨ3 => ?_)
      · show xΦis (xfv [59]) (zyEl zymx B H2)
        intro hw q1
        obtain ⟨p, U, hU, hp, hs, hu⟩ := xRs_o hI2 hw
        obtain ⟨s1, s1b, s2, s3, s4, s5, s6, s7, s8⟩ := xRD_i hs hp
        omega
      · have hΨ3 : xΨis (xfv [59]) (zyEl zymx B H2) (zyEl zymx B H3) r := hΨ3
        have d74_36 : xE (zyEl zymx B H3) 74 36 = xE (zyEl zymx B H2) 74 36 := xFr_E hf3 rfl
        have d74_37 : xE (zyEl zymx B H3) 74 37 = xE (zyEl zymx B H2) 74 37 := xFr_E hf3 rfl
        have d74_38 : xE (zyEl zymx B H3) 74 38 = xE (zyEl zymx B H2) 74 38 := xFr_E hf3 rfl
        have d74_39 : xE (zyEl zymx B H3) 74 39 = xE (zyEl zymx B H2) 74 39 := xFr_E hf3 rfl
        have d74_40 : xE (zyEl zymx B H3) 74 40 = xE (zyEl zymx B H2) 74 40 := xFr_E hf3 rfl
        have d74_41 : xE (zyEl zymx B H3) 74 41 = xE (zyEl zymx B H2) 74 41 := xFr_E hf3 rfl
        have d74_42 : xE (zyEl zymx B H3) 74 42 = xE (zyEl zymx B H2) 74 42 := xFr_E hf3 rfl
        have d75_0 : xE (zyEl zymx B H3) 75 0 = xE (zyEl zymx B H2) 75 0 := xFr_E hf3 rfl
        have d75_1 : xE (zyEl zymx B H3) 75 1 = xE (zyEl zymx B H2) 75 1 := xFr_E hf3 rfl
        have d75_2 : xE (zyEl zymx B H3) 75 2 = xE (zyEl zymx B H2) 75 2 := xFr_E hf3 rfl
        have d84 : ∀ i, xE (zyEl zymx B H3) 84 i = xE (zyEl zymx B H2) 84 i := fun i => xFr_E hf3 rfl
        have d75 : ∀ i, xE (zyEl zymx B H3) 75 i = xE (zyEl zymx B H2) 75 i := fun i => xFr_E hf3 rfl
        have hE3 : (zyEl zymx B H3) = (zyEl zymx B H2) := xFr_n hf3
        have hb01 := xIs_b hΨ3
        refine ⟨⟨15, by decide⟩, [0], [0, r], rfl, ⟨by decide +kernel, ⟨rfl, by decide +kernel⟩, (xcs_c rfl xcs_n), (xe_0 (xe_c (by omega) (by omega) rfl xe_n)), xkq_n⟩, (by rw [if_pos rfl]; exact ⟨1, [595], rfl, by decide, rfl, (xst_r rfl xst_n)⟩), ?_, ?_⟩
        · show (xE (zyEl zymx B H3) 74 36 = 0 → ∃ p U, ((p) ≤ (xE (zyEl zymx B s.heap) 74 42) ∧ xRD (xE (zyEl zymx B s.heap) 84) (xE (zyEl zymx B s.heap) 74 42) (p) (zyEl zymx B H3)) ∧ pBody (xE (zyEl zymx B s.heap) 84) (xE (zyEl zymx B s.heap) 74 42) (xE (zyEl zymx B s.heap) 74 38) (xE (zyEl zymx B s.heap) 75) = .ok (p, U) ∧ (∀ k, 0 ≤ k → k < 520 → xE (zyEl zymx B H3) 75 k = U k) ∧ (r : Int) = (if tKd (xE (zyEl zymx B s.heap) 84) (xE (zyEl zymx B s.heap) 74 42) p = 5 then 1 else 0)) ∧ (¬ xE (zyEl zymx B H3) 74 36 = 0 → xEr (zyEl zymx B H3) (pBody (xE (zyEl zymx B s.heap) 84) (xE (zyEl zymx B s.heap) 74 42) (xE (zyEl zymx B s.heap) 74 38) (xE (zyEl zymx B s.heap) 75)))
          refine ⟨fun hz => ?_, fun hz => ?_⟩
          · rw [hE3] at hz
            obtain ⟨p, U, hU, hp, hs, hu⟩ := xRs_o hI2 hz
            have hr : r = if tKd (xE (zyEl zymx B s.heap) 84) (xE (zyEl zymx B s.heap) 74 42) p = 5 then 1 else 0 := (xIs_g (x := xfv [59]) hΨ3 hz hs hp (fun i => (e84 i).trans (q84 i))).2 rfl
            rw [hE3]
            exact ⟨p, U, ⟨hp, hs⟩, hU, hu, hr⟩
          · rw [hE3] at hz ⊢
            exact xRs_r hI2 hz
        · show 85 < 86
          omega
    · have hx : x ∈ [zxfli_sx0] := hx
      have hag : ∀ k, k < 2 → v2 k = v k := hag
      have hfr : xFr [] _ _ := hfr
      have ex := List.mem_singleton.mp hx
      subst ex
      obtain ⟨hF, hBd, hM⟩ := hXs
      have g1 : v2 1 = v 1 := hag 1 (by decide)
      have b0 : ((2147483648 : Nat) : Int) ≤ (v2 1) + 2147483648 ∧ (v2 1) + 2147483648 ≤ ((2147483649 : Nat) : Int) := xXb hBd 0 rfl
      have e74_36 : xE (zyEl zymx B H2) 74 36 = xE (zyEl zymx B H) 74 36 := xFr_E hfr rfl
      have e74_37 : xE (zyEl zymx B H2) 74 37 = xE (zyEl zymx B H) 74 37 := xFr_E hfr rfl
      have e74_38 : xE (zyEl zymx B H2) 74 38 = xE (zyEl zymx B H) 74 38 := xFr_E hfr rfl
      have e74_39 : xE (zyEl zymx B H2) 74 39 = xE (zyEl zymx B H) 74 39 := xFr_E hfr rfl
      have e74_40 : xE (zyEl zymx B H2) 74 40 = xE (zyEl zymx B H) 74 40 := xFr_E hfr rfl
      have e74_41 : xE (zyEl zymx B H2) 74 41 = xE (zyEl zymx B H) 74 41 := xFr_E hfr rfl
      have e74_42 : xE (zyEl zymx B H2) 74 42 = xE (zyEl zymx B H) 74 42 := xFr_E hfr rfl
      have q74_42 : xE (zyEl zymx B H) 74 42 = xE (zyEl zymx B s.heap) 74 42 := xFr_E hFr0 rfl
      have e75_0 : xE (zyEl zymx B H2) 75 0 = xE (zyEl zymx B H) 75 0 := xFr_E hfr rfl
      have q75_0 : xE (zyEl zymx B H) 75 0 = xE (zyEl zymx B s.heap) 75 0 := xFr_E hFr0 rfl
      have e75_1 : xE (zyEl zymx B H2) 75 1 = xE (zyEl zymx B H) 75 1 := xFr_E hfr rfl
      have q75_1 : xE (zyEl zymx B H) 75 1 = xE (zyEl zymx B s.heap) 75 1 := xFr_E hFr0 rfl
      have e75_2 : xE (zyEl zymx B H2) 75 2 = xE (zyEl zymx B H) 75 2 := xFr_E hfr rfl
      have e84 : ∀ i, xE (zyEl zymx B H2) 84 i = xE (zyEl zymx B H) 84 i := fun i => xFr_E hfr rfl
      have q84 : ∀ i, xE (zyEl zymx B H) 84 i = xE (zyEl zymx B s.heap) 84 i := fun i => xFr_E hFr0 rfl
      have e75 : ∀ i, xE (zyEl zymx B H2) 75 i = xE (zyEl zymx B H) 75 i := fun i => xFr_E hfr rfl
      have y74_42 : ((2147483648 : Nat) : Int) ≤ xE (zyEl zymx B s.heap) 74 42 + 2147483648 ∧ xE (zyEl zymx B s.heap) 74 42 + 2147483648 ≤ ((2147484548 : Nat) : Int) := xTyF hT0 74 42 42 rfl rfl rfl rfl rfl rfl
      have hI : (xE (zyEl zymx B H) 74 36 = 0 → ∃ p U, ((p) ≤ (xE (zyEl zymx B s.heap) 74 42) ∧ xRD (xE (zyEl zymx B s.heap) 84) (xE (zyEl zymx B s.heap) 74 42) (p) (zyEl zymx B H)) ∧ pBody (xE (zyEl zymx B s.heap) 84) (xE (zyEl zymx B s.heap) 74 42) (xE (zyEl zymx B s.heap) 74 38) (xE (zyEl zymx B s.heap) 75) = .ok (p, U) ∧ (∀ k, 0 ≤ k → k < 520 → xE (zyEl zymx B H) 75 k = U k) ∧ (v 1) = (if tKd (xE (zyEl zymx B s.heap) 84) (xE (zyEl zymx B s.heap) 74 42) p = 5 then 1 else 0)) ∧ (¬ xE (zyEl zymx B H) 74 36 = 0 → xEr (zyEl zymx B H) (pBody (xE (zyEl zymx B s.heap) 84) (xE (zyEl zymx B s.heap) 74 42) (xE (zyEl zymx B s.heap) 74 38) (xE (zyEl zymx B s.heap) 75))) := hInv
      obtain ⟨i1, i2⟩ := hI
      have hEE : (zyEl zymx B H2) = (zyEl zymx B H) := xFr_n hfr
      refine xCa hRu hIH hAt hB hv hFr (hftk B) (ix := 462) (ax := 5088) rfl rfl rfl hmeftk ⟨_, rfl, rfl, by decide⟩ ⟨rfl, rfl, rfl⟩ (by decide) [34359738369] [] [(v2 1)] rfl ⟨rfl, rfl⟩ (by decide +kernel) (xcs_c rfl xcs_n) (by decide +kernel) ?_ (fun H3 r hT3 hf3 hFr3 hr3 hΨ3 => ?_)
      · show xΦtk (xfv [(v2 1)]) (zyEl zymx B H2)
        intro q1 q2
        obtain ⟨p, U, ⟨hp, hs⟩, hU, hu, hr⟩ := i1 (by omega)
        have q2 : ¬ (v2 1) = 0 := q2
        have hk : tKd (xE (zyEl zymx B s.heap) 84) (xE (zyEl zymx B s.heap) 74 42) p = 5 := Classical.byContradiction fun z => by
          rw [if_neg z] at hr
          omega
        obtain ⟨s1, s1b, s2, s3, s4, s5, s6, s7, s8⟩ := xRD_i hs hp
        omega
      · have hΨ3 : xΨtk (xfv [(v2 1)]) (zyEl zymx B H2) (zyEl zymx B H3) r := hΨ3
        have d74_42 : xE (zyEl zymx B H3) 74 42 = xE (zyEl zymx B H2) 74 42 := xFr_E hf3 rfl
        have d75_0 : xE (zyEl zymx B H3) 75 0 = xE (zyEl zymx B H2) 75 0 := xFr_E hf3 rfl
        have d75_1 : xE (zyEl zymx B H3) 75 1 = xE (zyEl zymx B H2) 75 1 := xFr_E hf3 rfl
        have d75_2 : xE (zyEl zymx B H3) 75 2 = xE (zyEl zymx B H2) 75 2 := xFr_E hf3 rfl
        have d84 : ∀ i, xE (zyEl zymx B H3) 84 i = xE (zyEl zymx B H2) 84 i := fun i => xFr_E hf3 rfl
        have d75 : ∀ i, xE (zyEl zymx B H3) 75 i = xE (zyEl zymx B H2) 75 i := fun i => xFr_E hf3 rfl
        have hg := fun p hw hs hp => xTk_g (T := (xE (zyEl zymx B s.heap) 84)) (n := (xE (zyEl zymx B s.heap) 74 42)) (p := p) (x := xfv [(v2 1)]) hΨ3 hw hs hp (fun i => (e84 i).trans (q84 i)) (by omega)
        have hge : ¬ xE (zyEl zymx B H2) 74 36 = 0 → xE (zyEl zymx B H3) 74 36 = xE (zyEl zymx B H2) 74 36 ∧ xE (zyEl zymx B H3) 74 37 = xE (zyEl zymx B H2) 74 37 := fun hw => xTk_e (x := xfv [(v2 1)]) hΨ3 hw
        refine ⟨⟨16, by decide⟩, [0], [0], rfl, ⟨by decide +kernel, ⟨rfl, by decide +kernel⟩, (xcs_c rfl xcs_n), (xe_0 xe_n), xkq_n⟩, (by rw [if_neg (by decide)]; exact xst_n), ?_, ?_⟩
        · show xRs (xE (zyEl zymx B s.heap) 84) (xE (zyEl zymx B s.heap) 74 42) (zyEl zymx B H3) (pLine (xE (zyEl zymx B s.heap) 84) (xE (zyEl zymx B s.heap) 74 42) (xE (zyEl zymx B s.heap) 74 38) (xE (zyEl zymx B s.heap) 75))
          unfold pLine
          by_cases hw : xE (zyEl zymx B H) 74 36 = 0
          · obtain ⟨p, U, ⟨hp, hs⟩, hU, hu, hr⟩ := i1 hw
            rw [hU]
            show xRs _ _ _ (pSem (xE (zyEl zymx B s.heap) 84) (xE (zyEl zymx B s.heap) 74 42) p U)
            obtain ⟨g1, g2⟩ := hg p (by omega) (by rw [hEE]; exact hs) hp
            have g1 : ¬ (v2 1) = 0 → _ := g1
            have g2 : (v2 1) = 0 → _ := g2
            unfold pSem
            by_cases ck : tKd (xE (zyEl zymx B s.heap) 84) (xE (zyEl zymx B s.heap) 74 42) p = 5
            · rw [if_pos ck] at hr
              rw [if_pos ck]
              obtain ⟨k1, k2, k3, k4⟩ := g1 (by omega) (by omega)
              exact ⟨k1, k3, k2, fun k k0 k1 => ((d75 k).trans (e75 k)).trans (hu k k0 k1)⟩
            · rw [if_neg ck] at hr
              rw [if_neg ck]
              exact xRs_e (g2 (by omega))
          · have hX := i2 hw
            have hX2 : xEr (zyEl zymx B H3) (pBody (xE (zyEl zymx B s.heap) 84) (xE (zyEl zymx B s.heap) 74 42) (xE (zyEl zymx B s.heap) 74 38) (xE (zyEl zymx B s.heap) 75)) := xEr_k hX (by have := hge (by omega); omega) (by have := hge (by omega); omega)
            rw [hX2.2]
            exact xRs_e ⟨hX2.1, rfl⟩
        · show 84 < 85
          omega
    · cases hx
  · intro x0 E0 E E2 hrx hT0 hΦ i v hT hrv hInv hKc hFr0 x hx v2 hr2 hXs hag hfr hFr hT2
    rcases i with ⟨i, hi⟩
    have hi2 : i = 0 ∨ i = 1 ∨ i = 2 ∨ i = 3 ∨ i = 4 ∨ i = 5 ∨ i = 6 ∨ i = 7 ∨ i = 8 ∨ i = 9 ∨ i = 10 ∨ i = 11 ∨ i = 12 ∨ i = 13 ∨ i = 14 ∨ i = 15 ∨ i = 16 := by omega
    rcases hi2 with rfl | rfl | rfl | rfl | rfl | rfl | rfl | rfl | rfl | rfl | rfl | rfl | rfl | rfl | rfl | rfl | rfl
    · cases hx
    · cases hx
    · cases hx
    · cases hx
    · cases hx
    · cases hx
    · cases hx
    · cases hx
    · cases hx
    · cases hx
    · cases hx
    · cases hx
    · cases hx
    · cases hx
    · cases hx
    · cases hx
    · have hx : x ∈ [zxfli_tr0] := hx
      have hag : ∀ k, k < 1 → v2 k = v k := hag
      have hfr : xFr [] _ _ := hfr
      have ex := List.mem_singleton.mp hx
      subst ex
      obtain ⟨hF, hBd, hM⟩ := hXs
      have e74_36 : xE E2 74 36 = xE E 74 36 := xFr_E hfr rfl
      have e74_37 : xE E2 74 37 = xE E 74 37 := xFr_E hfr rfl
      have e74_38 : xE E2 74 38 = xE E 74 38 := xFr_E hfr rfl
      have e74_39 : xE E2 74 39 = xE E 74 39 := xFr_E hfr rfl
      have e74_40 : xE E2 74 40 = xE E 74 40 := xFr_E hfr rfl
      have e74_41 : xE E2 74 41 = xE E 74 41 := xFr_E hfr rfl
      have e74_42 : xE E2 74 42 = xE E 74 42 := xFr_E hfr rfl
      have q74_42 : xE E 74 42 = xE E0 74 42 := xFr_E hFr0 rfl
      have e75_0 : xE E2 75 0 = xE E 75 0 := xFr_E hfr rfl
      have q75_0 : xE E 75 0 = xE E0 75 0 := xFr_E hFr0 rfl
      have e75_1 : xE E2 75 1 = xE E 75 1 := xFr_E hfr rfl
      have q75_1 : xE E 75 1 = xE E0 75 1 := xFr_E hFr0 rfl
      have e75_2 : xE E2 75 2 = xE E 75 2 := xFr_E hfr rfl
      have e84 : ∀ i, xE E2 84 i = xE E 84 i := fun i => xFr_E hfr rfl
      have q84 : ∀ i, xE E 84 i = xE E0 84 i := fun i => xFr_E hFr0 rfl
      have e75 : ∀ i, xE E2 75 i = xE E 75 i := fun i => xFr_E hfr rfl
      have y74_42 : ((2147483648 : Nat) : Int) ≤ xE E0 74 42 + 2147483648 ∧ xE E0 74 42 + 2147483648 ≤ ((2147484548 : Nat) : Int) := xTyF hT0 74 42 42 rfl rfl rfl rfl rfl rfl
      have hI : xRs (xE E0 84) (xE E0 74 42) E (pLine (xE E0 84) (xE E0 74 42) (xE E0 74 38) (xE E0 75)) := hInv
      show xΨln x0 E0 E2 0
      have hEE : E2 = E := xFr_n hfr
      unfold xΨln
      rw [hEE]
      exact hI
end
section
/-! HOW A TEXT IS READ: what is kept; that only the cells up to 519 count -/
def sI (S : Int → Int) : Prop := (1 ≤ S 0 ∧ S 0 ≤ 4) ∧ (1 ≤ S 1 ∧ S 1 ≤ 5) ∧ (0 ≤ S 2 ∧ S 2 ≤ 8) ∧ ∀ b, 0 ≤ b → b < S 2 → 0 ≤ S (136 + b)
def sQ (S S2 : Int → Int) : Prop := ∀ k, 0 ≤ k → k < 520 → S k = S2 k
def rQ (R R2 : pR) : Prop := match R, R2 with
  | .ok (q, S), .ok (q2, S2) => q = q2 ∧ sQ S S2
  | .error e, .error e2 => e = e2
  | _, _ => False
theorem pBind_o {p : Int} {S : Int → Int} {k : Int → (Int → Int) → pR} : pBind (.ok (p, S)) k = k p S := rfl
section SIQ
variable {T : Int → Int} {n p q lo hi : Int} {S S2 : Int → Int}
theorem sI_k (h : sI S) (hk : ∀ k, (k = 0 ∨ k = 1 ∨ k = 2 ∨ (136 ≤ k ∧ k < 144)) → S2 k = S k) : sI S2 := by
  obtain ⟨h1, h2, h3, h4⟩ := h
  have e0 := hk 0 (by omega)
  have e1 := hk 1 (by omega)
  have e2 := hk 2 (by omega)
  refine ⟨by omega, by omega, by omega, fun b b0 b1 => ?_⟩
  rw [hk (136 + b) (by omega)]
  exact h4 b b0 (by omega)
theorem pNum_ok {k : Int → Int → pR} {r : Int × (Int → Int)} (h : pNum T n p lo hi k = .ok r) : ∃ x, lo ≤ x ∧ x ≤ hi ∧ tKd T n p = 3 ∧ k x (tNx T n p) = .ok r := by
  unfold pNum at h
  by_cases c1 : tKd T n p = 3
  · rw [if_pos c1] at h
    by_cases c2 : lo ≤ tNm T n p ∧ tNm T n p ≤ hi
    · rw [if_pos c2] at h
      exact ⟨_, c2.1, c2.2, c1, h⟩
    · rw [if_neg c2] at h
      cases h
  · rw [if_neg c1] at h
    cases h
theorem pBits_ok {g : Int} {r : Int × (Int → Int)} : ∀ {f : Nat} {p len b : Int}, pBits T n S g f p len b = .ok r → ∃ l2 b2, r.2 = uS (uS S (8 + g) b2) (40 + g) l2 := by
  intro f
  induction f with
  | zero =>
    intro p len b h
    by_cases c : tKd T n p = 3
    · unfold pBits at h
      rw [if_pos c] at h
      split at h <;> cases h
    · rw [pBits_n c] at h
      cases h
      exact ⟨_, _, rfl⟩
  | succ f ih =>
    intro p len b h
    by_cases c : tKd T n p = 3
    · unfold pBits at h
      rw [if_pos c] at h
      split at h
      · exact ih h
      · cases h
    · rw [pBits_n c] at h
      cases h
      exact ⟨_, _, rfl⟩
theorem gN_b {r c : Int} (hr : 1 ≤ r ∧ r ≤ 4) (hc : 1 ≤ c ∧ c ≤ 5) : 0 ≤ gN r c ∧ gN r c ≤ 31 := gN_r hr hc
theorem uS_sI {k x : Int} (h : sI S) (hk : 3 ≤ k) (hk2 : k < 136 ∨ 144 ≤ k) : sI (uS S k x) := sI_k h (fun j hj => uS_n (by omega))
theorem pWs_I : ∀ {f : Nat} {p : Int} {S : Int → Int}, sI S → 0 ≤ S 5 → pWs T n f p S = .ok (q, S2) → sI S2 := by
  intro f
  induction f with
  | zero =>
    intro p S hS h5 h
    unfold pWs at h
    split at h
    · obtain ⟨x, -, -, -, h⟩ := pNum_ok h
      cases h
    · split at h
      · obtain ⟨x, -, -, -, h⟩ := pNum_ok h
        cases h
      · cases h
        exact hS
  | succ f ih =>
    intro p S hS h5 h
    unfold pWs at h
    split at h
    · obtain ⟨x, -, -, -, h⟩ := pNum_ok h
      exact ih (uS_sI (uS_sI hS (by omega) (by omega)) (by decide) (by decide)) (by rw [uS_e rfl]; omega) h
    · split at h
      · obtain ⟨x, -, -, -, h⟩ := pNum_ok h
        exact ih (uS_sI (uS_sI hS (by omega) (by omega)) (by decide) (by decide)) (by rw [uS_e rfl]; omega) h
      · cases h
        exact hS
theorem pNew_I {s : Int} (h : sI S) (h8 : ¬ 8 ≤ S 2) (hs : 0 ≤ s) : sI (pNew S s) := by
  obtain ⟨h1, h2, h3, h4⟩ := h
  have e : ∀ k, ¬ k = 2 → ¬ k = 152 + S 2 → ¬ k = 144 + S 2 → ¬ k = 136 + S 2 → pNew S s k = S k := by
    intro k k1 k2 k3 k4
    unfold pNew
    rw [uS_n k1, uS_n k2, uS_n k3, uS_n k4]
  have e2 : pNew S s 2 = S 2 + 1 := uS_e rfl
  have e0 := e 0 (by omega) (by omega) (by omega) (by omega)
  have e1 := e 1 (by omega) (by omega) (by omega) (by omega)
  refine ⟨by omega, by omega, by omega, fun b b0 b1 => ?_⟩
  by_cases eb : b = S 2
  · have : pNew S s (136 + b) = s := by
      unfold pNew
      rw [uS_n (by omega), uS_n (by omega), uS_n (by omega), uS_e (by omega)]
    omega
  · rw [e _ (by omega) (by omega) (by omega) (by omega)]
    exact h4 b b0 (by omega)
theorem pBody_I (h : sI S) (he : pBody T n p S = .ok (q, S2)) : sI S2 := by
  have hg := gN_b h.1 h.2.1
  have h2 := h.2.2.1
  unfold pBody at he
  split at he
  · unfold pSwitch at he
    obtain ⟨x, x1, x2, -, he⟩ := pNum_ok he
    obtain ⟨y, y1, y2, -, he⟩ := pNum_ok he
    obtain ⟨l2, b2, e⟩ := pBits_ok he
    have e : S2 = uS (uS S (8 + x) b2) (40 + x) l2 := e
    rw [e]
    exact uS_sI (uS_sI h (by omega) (by omega)) (by omega) (by omega)
  · split at he
    · unfold pBobbin at he
      split at he
      · cases he
      · rename_i h8
        obtain ⟨x, x1, x2, -, he⟩ := pNum_ok he
        split at he
        · cases he
        · cases he
          exact pNew_I h h8 x1
    · split at he
      · unfold pStuck at he
        obtain ⟨x, x1, x2, -, he⟩ := pNum_ok he
        split at he
        · cases he
          exact uS_sI h (by omega) (by omega)
        · split at he
          · cases he
            exact uS_sI h (by omega) (by omega)
          · cases he
      · split at he
        · unfold pFree at he
          split at he
          · cases he
          · obtain ⟨x, x1, x2, -, he⟩ := pNum_ok he
            cases he
            exact uS_sI h (by omega) (by omega)
        · split at he
          · unfold pPlace at he
            obtain ⟨x, x1, x2, -, he⟩ := pNum_ok he
            obtain ⟨y, y1, y2, -, he⟩ := pNum_ok he
            cases he
            exact uS_sI h (by omega) (by omega)
          · split at he
            · exact pWs_I (uS_sI h (by decide) (by decide)) (by rw [uS_e rfl]; decide) he
            · cases he
theorem pSem_S {S : Int → Int} (he : pSem T n p S = .ok (q, S2)) : S2 = S := by
  unfold pSem at he
  split at he
  · cases he
    rfl
  · cases he
theorem pLine_I (h : sI S) (he : pLine T n p S = .ok (q, S2)) : sI S2 := by
  unfold pLine at he
  obtain ⟨p2, S3, h1, h2⟩ := pBind_ok he
  rw [pSem_S h2]
  exact pBody_I h h1
theorem sQ_u {k x : Int} (h : sQ S S2) : sQ (uS S k x) (uS S2 k x) := by
  intro j j0 j1
  unfold uS
  split
  · rfl
  · exact h j j0 j1
theorem rQ_r (R : pR) : rQ R R := by
  cases R with
  | ok x => exact ⟨rfl, fun _ _ _ => rfl⟩
  | error e => exact rfl
theorem pNum_q {k k2 : Int → Int → pR} (h : ∀ x q, rQ (k x q) (k2 x q)) : rQ (pNum T n p lo hi k) (pNum T n p lo hi k2) := by
  unfold pNum
  split
  · split
    · exact h _ _
    · exact rfl
  · exact rfl
theorem pBits_q {g : Int} (h : sQ S S2) : ∀ {f : Nat} {p len b : Int}, rQ (pBits T n S g f p len b) (pBits T n S2 g f p len b) := by
  intro f
  induction f with
  | zero =>
    intro p len b
    unfold pBits
    split
    · exact rQ_r _
    · exact ⟨rfl, sQ_u (sQ_u h)⟩
  | succ f ih =>
    intro p len b
    unfold pBits
    split
    · split
      · exact ih
      · exact rfl
    · exact ⟨rfl, sQ_u (sQ_u h)⟩
theorem pTak_q {s f : Int} (h : sQ S S2) : ∀ {k : Nat}, k ≤ 8 → pTak S s f k = pTak S2 s f k := by
  intro k
  induction k with
  | zero => intro _; rfl
  | succ k ih =>
    intro hk
    show (pTak S s f k || (decide (S (136 + (k : Int)) = s) || decide (f = S (136 + (k : Int))))) = (pTak S2 s f k || (decide (S2 (136 + (k : Int)) = s) || decide (f = S2 (136 + (k : Int)))))
    rw [ih (by omega), h (136 + (k : Int)) (by omega) (by omega)]
theorem pCnt_q (h : sQ S S2) : ∀ {k : Nat}, k ≤ 31 → pCnt S 104 k = pCnt S2 104 k := by
  intro k
  induction k with
  | zero => intro _; rfl
  | succ k ih =>
    intro hk
    show pCnt S 104 k + (if 0 < S (104 + (k : Int)) then 1 else 0) = pCnt S2 104 k + (if 0 < S2 (104 + (k : Int)) then 1 else 0)
    rw [ih (by omega), h (104 + (k : Int)) (by omega) (by omega)]
theorem pNew_q {s : Int} (h : sQ S S2) : sQ (pNew S s) (pNew S2 s) := by
  have e := h 2 (by decide) (by decide)
  unfold pNew
  rw [e]
  exact sQ_u (sQ_u (sQ_u (sQ_u h)))
theorem pWs_q : ∀ {f : Nat} {p : Int} {S S2 : Int → Int}, sQ S S2 → rQ (pWs T n f p S) (pWs T n f p S2) := by
  intro f
  induction f with
  | zero =>
    intro p S S2 h
    unfold pWs
    split
    · exact pNum_q (fun _ _ => rfl)
    · split
      · exact pNum_q (fun _ _ => rfl)
      · exact ⟨rfl, h⟩
  | succ f ih =>
    intro p S S2 h
    have e := h 5 (by decide) (by decide)
    unfold pWs
    split
    · refine pNum_q (fun x q => ?_)
      rw [e]
      exact ih (sQ_u (sQ_u h))
    · split
      · refine pNum_q (fun x q => ?_)
        rw [e]
        exact ih (sQ_u (sQ_u h))
      · exact ⟨rfl, h⟩
theorem pBody_q (hI : sI S) (h : sQ S S2) : rQ (pBody T n p S) (pBody T n p S2) := by
  have hg := gN_b hI.1 hI.2.1
  have h2 := hI.2.2.1
  have e0 := h 0 (by decide) (by decide)
  have e1 := h 1 (by decide) (by decide)
  have e2 := h 2 (by decide) (by decide)
  unfold pBody
  split
  · unfold pSwitch
    rw [e0, e1]
    exact pNum_q (fun x q => pNum_q (fun y q => pBits_q h))
  · split
    · unfold pBobbin
      rw [← e0, ← e1, ← e2]
      split
      · exact rfl
      · refine pNum_q (fun x q => ?_)
        rw [pTak_q h (by omega)]
        split
        · exact rfl
        · exact ⟨rfl, pNew_q h⟩
    · split
      · unfold pStuck
        rw [e0, e1]
        refine pNum_q (fun x q => ?_)
        split
        · exact ⟨rfl, sQ_u h⟩
        · split
          · exact ⟨rfl, sQ_u h⟩
          · exact rfl
      · split
        · unfold pFree
          rw [← e0, ← e1, pCnt_q h (by omega)]
          split
          · exact rfl
          · exact pNum_q (fun x q => ⟨rfl, sQ_u h⟩)
        · split
          · unfold pPlace
            rw [e0, e1, e2]
            exact pNum_q (fun x q => pNum_q (fun y q => ⟨rfl, sQ_u h⟩))
          · split
            · exact pWs_q (sQ_u h)
            · exact rfl
theorem pLine_q (hI : sI S) (h : sQ S S2) : rQ (pLine T n p S) (pLine T n p S2) := by
  have hb := pBody_q (T := T) (n := n) (p := p) hI h
  unfold pLine
  revert hb
  cases pBody T n p S with
  | error e =>
    cases pBody T n p S2 with
    | error e2 => exact fun hb => hb
    | ok x => exact fun hb => hb.elim
  | ok x =>
    cases pBody T n p S2 with
    | error e2 => exact fun hb => hb.elim
    | ok x2 =>
      rintro ⟨h1, h2⟩
      show rQ (pSem T n x.1 x.2) (pSem T n x2.1 x2.2)
      rw [show x.1 = x2.1 from h1]
      unfold pSem
      split
      · exact ⟨rfl, h2⟩
      · exact rfl
theorem pLine_f : pLine T n (tFr T n p) S = pLine T n p S := by
  have e : pBody T n (tFr T n p) S = pBody T n p S := by
    unfold pBody pBobbin pFree
    rw [tW_f, tW_f, tW_f, tW_f, tW_f, tW_f, tNx_f, pMis_f, tFr_f]
  unfold pLine
  rw [e]
theorem xRD_f {E : zyEm} (h : xRD T n p E) : xRD T n (tFr T n p) E := by
  obtain ⟨h1, h2, h3, h4, h5, h6⟩ := h
  refine ⟨by rw [tFr_f]; exact h1, by rw [tKd_f]; exact h2, by rw [tFr_f, tNx_f]; exact h3, by rw [tFr_f]; exact h4, by rw [tKd_f, tNm_f]; exact h5, by rw [tKd_f, tFr_f, tNx_f]; exact h6⟩
theorem xRs_q {E : zyEm} {R R2 : pR} (hq : rQ R R2) (h : xRs T n E R) : xRs T n E R2 := by
  cases R with
  | error e =>
    cases R2 with
    | error e2 =>
      rw [← show e = e2 from hq]
      exact h
    | ok x => exact hq.elim
  | ok x =>
    cases R2 with
    | error e2 => exact hq.elim
    | ok x2 =>
      obtain ⟨h1, h2⟩ := (show x.1 = x2.1 ∧ sQ x.2 x2.2 from hq)
      obtain ⟨g1, g2, g3, g4⟩ := (show xE E 74 36 = 0 ∧ x.1 ≤ n ∧ xRD T n x.1 E ∧ ∀ k, 0 ≤ k → k < 520 → xE E 75 k = x.2 k from h)
      rw [h1] at g2 g3
      exact ⟨g1, g2, g3, fun k k0 k1 => (g4 k k0 k1).trans (h2 k k0 k1)⟩
end SIQ
/-- the plan is cleared -/
def xΦcs (x : Nat → Int) (_ : zyEm) : Prop := (1 ≤ x 0 ∧ x 0 ≤ 4) ∧ (1 ≤ x 1 ∧ x 1 ≤ 5)
def xΨcs (x : Nat → Int) (_ E2 : zyEm) (_ : Int) : Prop := ∀ k, 0 ≤ k → k < 520 → xE E2 75 k = pClr (x 0) (x 1) k
noncomputable def fpfcs : zyR := [(75, 0, 555)]
theorem xCs {l : Launch} {en : zEn} {me : zMe} (hen : zG zxMeta 193 = some en) (hme : zG zMeth 193 = some me) : xFc l zymx en me 2 [74] 2 fpfcs false xΦcs xΨcs := by
  intro B xs hx
  refine zyMet_pt (fun a s hp => ?_)
  obtain ⟨rfl, hK, hI, hΦ⟩ := hp
  obtain ⟨y, z, rfl⟩ : ∃ y z, xs = [y, z] := by
    match xs, hx with
    | [y, z], _ => exact ⟨y, z, rfl⟩
  obtain ⟨r1, c1⟩ := (show xΦcs (xfv [xI y, xI z]) (zyEl zymx B s.heap) from hΦ)
  have r1 : 1 ≤ xI y ∧ xI y ≤ 4 := r1
  have c1 : 1 ≤ xI z ∧ xI z ≤ 5 := c1
  have ey : y = Int32.ofNat (xI y).toNat := by
    have := xofI y
    rw [xofN (by omega) (by omega)] at this
    exact this.symm
  have ez : z = Int32.ofNat (xI z).toNat := by
    have := xofI z
    rw [xofN (by omega) (by omega)] at this
    exact this.symm
  have hm := zyclears (l := l) hen hme B [y, z] rfl
  refine ⟨_, _, hm, ⟨rfl, hK, hI, (xI y).toNat, (xI z).toNat, by unfold zyPr; omega, by rw [← ey, ← ez]⟩, fun o t hq2 => ?_⟩
  obtain ⟨vo, f1, k1, k2, ⟨k3, k4, R, C, hp, hRC, k5⟩, k6⟩ := hq2
  refine ⟨vo, f1, k1, k2, ⟨fun a k hk => ?_, 0, k3, fun k k0 k1 => ?_⟩, k6⟩
  · by_cases e : a = 75
    · subst e
      have hk5 : 555 < k := Classical.byContradiction fun h => by
        rw [show zyin fpfcs 75 k = true from zyin_iff.mpr ⟨(75, 0, 555), List.mem_singleton_self _, rfl, Nat.zero_le _, (show k ≤ 555 by omega)⟩] at hk
        cases hk
      unfold zyEl
      rw [show zG zymx 75 = some zymx75 from rfl]
      dsimp only
      rw [if_neg (show ¬ k < zyLen zymx75 from by show ¬ k < 556; omega), if_neg (show ¬ k < zyLen zymx75 from by show ¬ k < 556; omega)]
    · exact k4 a k e
  · show xE (zyEl zymx B t.heap) 75 k = pClr (xI y) (xI z) k
    have h5 := k5 k.toNat (by omega)
    obtain ⟨p1, p2, p3, p4⟩ := hp
    have hy : y = Int32.ofNat R := (List.cons.inj hRC).1
    have hz : z = Int32.ofNat C := (List.cons.inj (List.cons.inj hRC).2).1
    have gy : xI y = (R : Int) := by rw [hy, xI_nat (by omega)]; exact if_pos (by omega)
    have gz : xI z = (C : Int) := by rw [hz, xI_nat (by omega)]; exact if_pos (by omega)
    have hb : zcl R C 31 k.toNat < 4294967296 := by
      unfold zcl
      split
      · omega
      · split
        · omega
        · split
          · omega
          · split <;> omega
    rw [xE_s h5 rfl, xI_nat hb, gy, gz]
    unfold pClr zcl
    by_cases a0 : k = 0
    · rw [if_pos (by omega), if_pos a0]
      exact if_pos (by omega)
    · rw [if_neg (by omega), if_neg a0]
      by_cases a1 : k = 1
      · rw [if_pos (by omega), if_pos a1]
        exact if_pos (by omega)
      · rw [if_neg (by omega), if_neg a1]
        by_cases a5 : k = 5
        · rw [if_pos (by omega), if_pos a5]
          rfl
        · rw [if_neg (by omega), if_neg a5]
          by_cases a4 : 40 ≤ k ∧ k ≤ 70
          · rw [if_pos (by omega), if_pos a4]
            rfl
          · rw [if_neg (by omega), if_neg a4]
            rfl
end
section
/-! THE REFERENCE reads all (printed by m28.py) -/
noncomputable def zxfra_zx0 : zyXp := (0, [595, 13, 13], [], [], [], [])
noncomputable def zpfra_z : zyPh := (0, [595, 13, 13], [(0, 4294967295), (0, 4294967295), (0, 4294967295)], [], [])
noncomputable def zxfra_ax0 : zyXp := (3, [595, 13, 13], [0, 595, 595], [], [], [])
noncomputable def zpfra_a : zyPh := (0, [595, 13, 13], [(0, 4294967295), (0, 4294967295), (0, 4294967295)], [], [])
noncomputable def zxfra_bx0 : zyXp := (6, [595, 13, 13], [103079215105, 595], [], [(103079215105, 2147483648, 2147483649)], [])
noncomputable def zpfra_b : zyPh := (6, [595, 13, 13], [(0, 4294967295), (0, 4294967295), (0, 4294967295), (2147483648, 2147483649)], [], [103079215105, 595])
noncomputable def zxfra_cx0 : zyXp := (12, [595, 13, 13], [32, 8, 595], [], [], [])
noncomputable def zpfra_c : zyPh := (9, [595, 13, 13], [(0, 4294967295), (0, 4294967295), (0, 4294967295)], [], [])
noncomputable def zxfra_dx0 : zyXp := (19, [595, 103079215105, 13], [40, 8, 595], [], [], [])
noncomputable def zpfra_d : zyPh := (15, [595, 13, 13], [(0, 4294967295), (0, 4294967295), (0, 4294967295), (0, 4294967295)], [], [103079215105])
noncomputable def zxfra_ex0 : zyXp := (27, [595, 34359738369, 103079215105], [472, 595, 595], [], [], [])
noncomputable def zpfra_e : zyPh := (22, [595, 34359738369, 13], [(0, 4294967295), (0, 4294967295), (0, 4294967295), (0, 4294967295)], [], [103079215105])
noncomputable def zxfra_fx0 : zyXp := (30, [595, 34359738369, 68719476737], [103079215105, 595], [], [(103079215105, 2147483648, 2147483649)], [])
noncomputable def zpfra_f : zyPh := (30, [595, 34359738369, 68719476737], [(0, 4294967295), (0, 4294967295), (0, 4294967295), (2147483648, 2147483649)], [], [103079215105, 595])
noncomputable def zxfra_gx0 : zyXp := (44, [595, 34359738369, 68719476737], [68719476737, 34359738369, 595], [(21, 0, 0, 103079215105)], [(103079215105, 2147483648, 2147483648)], [])
noncomputable def zxfra_gr0 : zyXp := (0, [], [], [(20, 0, 0, 103079215105)], [(103079215105, 2147483649, 2147483657)], [])
noncomputable def zpfra_g : zyPh := (33, [595, 34359738369, 68719476737], [(0, 4294967295), (0, 4294967295), (0, 4294967295), (2147483648, 2147483657)], [(1212452, 103079215105)], [])
noncomputable def zxfra_hx0 : zyXp := (62, [595, 13, 13], [595], [(22, 0, 103079215105, 0), (23, 0, 137438953473, 0)], [(103079215105, 2147483648, 2147483648), (137438953473, 2147483649, 2147483652)], [])
noncomputable def zxfra_hr0 : zyXp := (0, [], [], [(23, 0, 103079215105, 0)], [(103079215105, 2147483649, 2147483657)], [])
noncomputable def zxfra_hr1 : zyXp := (0, [], [], [(22, 0, 103079215105, 0), (22, 0, 137438953473, 0)], [(103079215105, 2147483648, 2147483648), (137438953473, 2147483648, 2147483648)], [])
noncomputable def zpfra_h : zyPh := (47, [595, 13, 13], [(0, 4294967295), (0, 4294967295), (0, 4294967295), (2147483648, 2147483657), (2147483648, 2147483652)], [(1212452, 103079215105), (1212456, 137438953473)], [])
noncomputable def zxfra_ix0 : zyXp := (47, [595, 13, 13], [], [], [], [])
noncomputable def zpfra_i : zyPh := (65, [595, 13, 13], [(0, 4294967295), (0, 4294967295), (0, 4294967295)], [], [])
noncomputable def zpfra (i : Nat) : zyPh := zif (Nat.beq i 0) (zpfra_z) (zif (Nat.beq i 1) (zpfra_a) (zif (Nat.beq i 2) (zpfra_b) (zif (Nat.beq i 3) (zpfra_c) (zif (Nat.beq i 4) (zpfra_d) (zif (Nat.beq i 5) (zpfra_e) (zif (Nat.beq i 6) (zpfra_f) (zif (Nat.beq i 7) (zpfra_g) (zif (Nat.beq i 8) (zpfra_h) (zpfra_i)))))))))
noncomputable def zXfra (i : Nat) : List zyXp := zif (Nat.beq i 0) ([zxfra_zx0]) (zif (Nat.beq i 1) ([zxfra_ax0]) (zif (Nat.beq i 2) ([zxfra_bx0]) (zif (Nat.beq i 3) ([zxfra_cx0]) (zif (Nat.beq i 4) ([zxfra_dx0]) (zif (Nat.beq i 5) ([zxfra_ex0]) (zif (Nat.beq i 6) ([zxfra_fx0]) (zif (Nat.beq i 7) ([zxfra_gx0]) (zif (Nat.beq i 8) ([zxfra_hx0]) ([zxfra_ix0])))))))))
noncomputable def zRfra (i : Nat) : List zyXp := zif (Nat.beq i 0) ([]) (zif (Nat.beq i 1) ([]) (zif (Nat.beq i 2) ([]) (zif (Nat.beq i 3) ([]) (zif (Nat.beq i 4) ([]) (zif (Nat.beq i 5) ([]) (zif (Nat.beq i 6) ([]) (zif (Nat.beq i 7) ([zxfra_gr0]) (zif (Nat.beq i 8) ([zxfra_hr0, zxfra_hr1]) ([])))))))))
noncomputable def zFfra (i : Nat) : zyR := zif (Nat.beq i 0) ([]) (zif (Nat.beq i 1) ([]) (zif (Nat.beq i 2) ([]) (zif (Nat.beq i 3) ([]) (zif (Nat.beq i 4) ([]) (zif (Nat.beq i 5) ([]) (zif (Nat.beq i 6) ([]) (zif (Nat.beq i 7) ([]) (zif (Nat.beq i 8) ([]) ([])))))))))
noncomputable def zSfra (i : Nat) : Nat := zif (Nat.beq i 0) (0) (zif (Nat.beq i 1) (0) (zif (Nat.beq i 2) (0) (zif (Nat.beq i 3) (0) (zif (Nat.beq i 4) (0) (zif (Nat.beq i 5) (0) (zif (Nat.beq i 6) (0) (zif (Nat.beq i 7) (0) (zif (Nat.beq i 8) (0) (0)))))))))
/-- all of a text is read -/
def xΦal (_ : Nat → Int) (E : zyEm) : Prop := xWs E ∧ xE E 74 36 = 0 ∧ 0 ≤ xE E 74 42 ∧ xRD (xE E 84) (xE E 74 42) 0 E
def xΨal (_ : Nat → Int) (E E2 : zyEm) (_ : Int) : Prop := xRs (xE E 84) (xE E 74 42) E2 (pAll (xE E 84) (xE E 74 42))
/-- a line's end stands behind where it began -/
theorem pLine_p2 {T : Int → Int} {n p q : Int} {S S2 : Int → Int} (h : p ≤ n) (hk : ¬ tKd T n p = 0) (he : pLine T n p S = .ok (q, S2)) : tFr T n p < tFr T n q ∧ tFr T n q ≤ n := by
  have hb := tFr_b (T := T) h
  have hl := (tKd_i (T := T) h).2 hk
  rw [← pLine_f] at he
  have hq := pLine_p hb.2 (by rw [tKd_f]; exact hk) he
  have := tFr_b (T := T) hq.2
  omega
noncomputable def fpfra : zyR := [(74, 36, 41), (74, 43, 43), (75, 0, 555)]
theorem zyfra_run : zyrS zymx zxi328 (328, 0, 0, 0, 0) 9 zpfra (fun _ _ => []) zFfra zSfra zXfra zRfra 10 = true := by decide +kernel
theorem zyfra_ck : zyAll (fun i => xsubR (zFfra i) fpfra && ((zXfra i).all xckX && (zRfra i).all (fun x => xckX x && xrtB false x))) 10 = true := by decide +kernel
def xIfra (i : Nat) (x0 : Nat → Int) (E0 : zyEm) (v : Nat → Int) (E : zyEm) : Prop := if i = 0 then (E = E0) else if i = 1 then (E = E0) else if i = 2 then (E = E0 ∧ ((v 3) = 1 ↔ tW (xE E0 84) (xE E0 74 42) 0 [115, 105, 122, 101] = true)) else if i = 3 then ((xE E 74 36 = 0 → ((tNx (xE E0 84) (xE E0 74 42) 0) ≤ (xE E0 74 42) ∧ xRD (xE E0 84) (xE E0 74 42) (tNx (xE E0 84) (xE E0 74 42) 0) E) ∧ tW (xE E0 84) (xE E0 74 42) 0 [115, 105, 122, 101] = true) ∧ (¬ xE E 74 36 = 0 → xEr E (pSz (xE E0 84) (xE E0 74 42)))) else if i = 4 then ((xE E 74 36 = 0 → (1 ≤ (v 3) ∧ (v 3) ≤ 4) ∧ ∃ p, ((p) ≤ (xE E0 74 42) ∧ xRD (xE E0 84) (xE E0 74 42) (p) E) ∧ pSz (xE E0 84) (xE E0 74 42) = pNum (xE E0 84) (xE E0 74 42) p 1 5 (fun c p2 => pSem (xE E0 84) (xE E0 74 42) p2 (pClr (v 3) c))) ∧ (¬ xE E 74 36 = 0 → xEr E (pSz (xE E0 84) (xE E0 74 42)))) else if i = 5 then ((xE E 74 36 = 0 → (1 ≤ (v 1) ∧ (v 1) ≤ 4) ∧ (1 ≤ (v 3) ∧ (v 3) ≤ 5) ∧ ∃ p, ((p) ≤ (xE E0 74 42) ∧ xRD (xE E0 84) (xE E0 74 42) (p) E) ∧ pSz (xE E0 84) (xE E0 74 42) = pSem (xE E0 84) (xE E0 74 42) p (pClr (v 1) (v 3))) ∧ (¬ xE E 74 36 = 0 → xEr E (pSz (xE E0 84) (xE E0 74 42)))) else if i = 6 then ((xE E 74 36 = 0 → (1 ≤ (v 1) ∧ (v 1) ≤ 4) ∧ (1 ≤ (v 2) ∧ (v 2) ≤ 5) ∧ ∃ p, ((p) ≤ (xE E0 74 42) ∧ xRD (xE E0 84) (xE E0 74 42) (p) E) ∧ pSz (xE E0 84) (xE E0 74 42) = pSem (xE E0 84) (xE E0 74 42) p (pClr (v 1) (v 2)) ∧ (v 3) = (if tKd (xE E0 84) (xE E0 74 42) p = 5 then 1 else 0)) ∧ (¬ xE E 74 36 = 0 → xEr E (pSz (xE E0 84) (xE E0 74 42)))) else if i = 7 then ((xE E 74 36 = 0 → (1 ≤ (v 1) ∧ (v 1) ≤ 4) ∧ (1 ≤ (v 2) ∧ (v 2) ≤ 5) ∧ ∃ p, (0 ≤ p) ∧ ((p) ≤ (xE E0 74 42) ∧ xRD (xE E0 84) (xE E0 74 42) (p) E) ∧ pSz (xE E0 84) (xE E0 74 42) = .ok (p, pClr (v 1) (v 2))) ∧ (¬ xE E 74 36 = 0 → xEr E (pSz (xE E0 84) (xE E0 74 42)))) else if i = 8 then ((xE E 74 36 = 0 → ∃ (f : Nat) (p : Int) (U : Int → Int), ((p) ≤ (xE E0 74 42) ∧ xRD (xE E0 84) (xE E0 74 42) (p) E) ∧ pAll (xE E0 84) (xE E0 74 42) = pLines (xE E0 84) (xE E0 74 42) f p U ∧ (xE E0 74 42) - p < f ∧ (xE E0 74 42) - p < xE E0 74 42 + 1 ∧ sI U ∧ (∀ k, 0 ≤ k → k < 520 → xE E 75 k = U k)) ∧ (¬ xE E 74 36 = 0 → xEr E (pAll (xE E0 84) (xE E0 74 42)))) else ((xE E 74 36 = 0 → ∃ (f : Nat) (p : Int) (U : Int → Int), ((p) ≤ (xE E0 74 42) ∧ xRD (xE E0 84) (xE E0 74 42) (p) E) ∧ pAll (xE E0 84) (xE E0 74 42) = pLines (xE E0 84) (xE E0 74 42) f p U ∧ (xE E0 74 42) - p < f ∧ (xE E0 74 42) - p < xE E0 74 42 + 1 ∧ sI U ∧ (∀ k, 0 ≤ k → k < 520 → xE E 75 k = U k)) ∧ (¬ xE E 74 36 = 0 → xEr E (pAll (xE E0 84) (xE E0 74 42))))
def xMfra (i : Nat) (x0 : Nat → Int) (E0 : zyEm) (v : Nat → Int) (E : zyEm) : Nat := if i = 0 then (9000) else if i = 1 then (8999) else if i = 2 then (8998) else if i = 3 then (8997) else if i = 4 then (8996) else if i = 5 then (8995) else if i = 6 then (8994) else if i = 7 then (8993) else if i = 8 then (2 * (if xE E 74 36 = 0 then (2 + xE E 74 42 - xE E 74 38).toNat else 0)) else (2 * (if xE E 74 36 = 0 then (2 + xE E 74 42 - xE E 74 38).toNat else 0) + 1)
theorem xAl {l : Launch} {en : zEn} {me : zMe} (hen : zG zxMeta 328 = some en) (hme : zG zMeth 328 = some me) : xFc l zymx en me 9 [74] 0 fpfra false xΦal xΨal := by
  have een : zG zxMeta 328 = some (zxi328, 1, 3, 11, 328, 0, 0, 0, 0) := rfl
  obtain ⟨me1, hme1, hOK⟩ := zall hen
  rw [hme] at hme1
  cases hme1
  rw [een] at hen
  cases hen
  have hr := zyfra_run
  have hck := fun i hi => zyAll_iff zyfra_ck i hi
  simp only [Bool.and_eq_true] at hck
  obtain ⟨mefiw, hmefiw, -⟩ := zall (show zG zxMeta 316 = some (zxi316, 2, 2, 11, 316, 0, 0, 2, 0) from rfl)
  have hfiw := xIw (l := l) (show zG zxMeta 316 = some (zxi316, 2, 2, 11, 316, 0, 0, 2, 0) from rfl) hmefiw
  obtain ⟨meftk, hmeftk, -⟩ := zall (show zG zxMeta 318 = some (zxi318, 2, 2, 11, 318, 0, 0, 0, 0) from rfl)
  have hftk := xTk (l := l) (show zG zxMeta 318 = some (zxi318, 2, 2, 11, 318, 0, 0, 0, 0) from rfl) hmeftk
  obtain ⟨meftm, hmeftm, -⟩ := zall (show zG zxMeta 320 = some (zxi320, 3, 4, 11, 320, 0, 0, 1, 0) from rfl)
  have hftm := xTm (l := l) (show zG zxMeta 320 = some (zxi320, 3, 4, 11, 320, 0, 0, 1, 0) from rfl) hmeftm
  obtain ⟨mefis, hmefis, -⟩ := zall (show zG zxMeta 317 = some (zxi317, 2, 2, 11, 317, 0, 0, 2, 0) from rfl)
  have hfis := xIs (l := l) (show zG zxMeta 317 = some (zxi317, 2, 2, 11, 317, 0, 0, 2, 0) from rfl) hmefis
  obtain ⟨mefcs, hmefcs, -⟩ := zall (show zG zxMeta 193 = some (zxi193, 3, 4, 11, 193, 0, 0, 0, 0) from rfl)
  have hfcs := xCs (l := l) (show zG zxMeta 193 = some (zxi193, 3, 4, 11, 193, 0, 0, 0, 0) from rfl) hmefcs
  obtain ⟨mefli, hmefli, -⟩ := zall (show zG zxMeta 327 = some (zxi327, 1, 1, 11, 327, 0, 0, 0, 0) from rfl)
  have hfli := xLn (l := l) (show zG zxMeta 327 = some (zxi327, 1, 1, 11, 327, 0, 0, 0, 0) from rfl) hmefli
  intro B
  refine xcut (mi := zymx) (B := B) hOK rfl rfl (ι := Fin 10) (fun i => zpfra i.val) (fun _ _ => []) (fun i => zFfra i.val) (fun i => zSfra i.val) (fun i => zXfra i.val) (fun i => zRfra i.val) (fun i y2 ct en2 me2 h => by cases h) 200000 (fun i => zyAll_iff hr i.val i.isLt) (fun i => (hck i.val i.isLt).1) (fun i => (hck i.val i.isLt).2.1) (fun i => (hck i.val i.isLt).2.2) ⟨0, by decide⟩ ⟨rfl, rfl, rfl, rfl⟩ ⟨by decide, by decide⟩ (fun i x0 E0 v E => xIfra i.val x0 E0 v E) (fun i x0 E0 v E => xMfra i.val x0 E0 v E) ?_ ?_ ?_
  · intro x0 E hx0 hT hΦ
    have hΦ : xΦal x0 E := hΦ
    refine ⟨fun k p hp => ?_, ?_⟩
    · have hk : k < 3 := (List.getElem?_eq_some_iff.mp hp).1
      have hk : k = 0 ∨ k = 1 ∨ k = 2 := by omega
      rcases hk with rfl | rfl | rfl
      · have hp : some (0, 4294967295) = some p := hp
        cases hp
        show ((0 : Nat) : Int) ≤ 0 + 2147483648 ∧ 0 + 2147483648 ≤ ((4294967295 : Nat) : Int)
        omega
      · have hp : some (0, 4294967295) = some p := hp
        cases hp
        show ((0 : Nat) : Int) ≤ x0 0 + 2147483648 ∧ x0 0 + 2147483648 ≤ ((4294967295 : Nat) : Int)
        have hx := hx0 0
        omega
      · have hp : some (0, 4294967295) = some p := hp
        cases hp
        show ((0 : Nat) : Int) ≤ x0 1 + 2147483648 ∧ x0 1 + 2147483648 ≤ ((4294967295 : Nat) : Int)
        have hx := hx0 1
        omega
    · show E = E
      rfl
  · intro x0 s Wg hRu hrx hT0 hΦ i v H hT hrv hInv hKc hFr0 hIH x hx ρ2 v2 N2 H2 locs lsB stA hAt hB hv hr2 hXs hag hfr hFr hT2
    rcases i with ⟨i, hi⟩
    have hi2 : i = 0 ∨ i = 1 ∨ i = 2 ∨ i = 3 ∨ i = 4 ∨ i = 5 ∨ i = 6 ∨ i = 7 ∨ i = 8 ∨ i = 9 := by omega
    rcases hi2 with rfl | rfl | rfl | rfl | rfl | rfl | rfl | rfl | rfl | rfl
    · have hx : x ∈ [zxfra_zx0] := hx
      have hag : ∀ k, k < 3 → v2 k = v k := hag
      have hfr : xFr [] _ _ := hfr
      have ex := List.mem_singleton.mp hx
      subst ex
      obtain ⟨hF, hBd, hM⟩ := hXs
      have e74_36 : xE (zyEl zymx B H2) 74 36 = xE (zyEl zymx B H) 74 36 := xFr_E hfr rfl
      have e74_37 : xE (zyEl zymx B H2) 74 37 = xE (zyEl zymx B H) 74 37 := xFr_E hfr rfl
      have e74_38 : xE (zyEl zymx B H2) 74 38 = xE (zyEl zymx B H) 74 38 := xFr_E hfr rfl
      have e74_39 : xE (zyEl zymx B H2) 74 39 = xE (zyEl zymx B H) 74 39 := xFr_E hfr rfl
      have e74_40 : xE (zyEl zymx B H2) 74 40 = xE (zyEl zymx B H) 74 40 := xFr_E hfr rfl
      have e74_41 : xE (zyEl zymx B H2) 74 41 = xE (zyEl zymx B H) 74 41 := xFr_E hfr rfl
      have e74_42 : xE (zyEl zymx B H2) 74 42 = xE (zyEl zymx B H) 74 42 := xFr_E hfr rfl
      have q74_42 : xE (zyEl zymx B H) 74 42 = xE (zyEl zymx B s.heap) 74 42 := xFr_E hFr0 rfl
      have e75_0 : xE (zyEl zymx B H2) 75 0 = xE (zyEl zymx B H) 75 0 := xFr_E hfr rfl
      have e75_1 : xE (zyEl zymx B H2) 75 1 = xE (zyEl zymx B H) 75 1 := xFr_E hfr rfl
      have e75_2 : xE (zyEl zymx B H2) 75 2 = xE (zyEl zymx B H) 75 2 := xFr_E hfr rfl
      have e84 : ∀ i, xE (zyEl zymx B H2) 84 i = xE (zyEl zymx B H) 84 i := fun i => xFr_E hfr rfl
      have q84 : ∀ i, xE (zyEl zymx B H) 84 i = xE (zyEl zymx B s.heap) 84 i := fun i => xFr_E hFr0 rfl
      have y74_42 : ((2147483648 : Nat) : Int) ≤ xE (zyEl zymx B s.heap) 74 42 + 2147483648 ∧ xE (zyEl zymx B s.heap) 74 42 + 2147483648 ≤ ((2147484548 : Nat) : Int) := xTyF hT0 74 42 42 rfl rfl rfl rfl rfl rfl
      have hI : (zyEl zymx B H) = (zyEl zymx B s.heap) := hInv
      have q74_36 : xE (zyEl zymx B H) 74 36 = xE (zyEl zymx B s.heap) 74 36 := by rw [hI]
      have q74_37 : xE (zyEl zymx B H) 74 37 = xE (zyEl zymx B s.heap) 74 37 := by rw [hI]
      have q74_38 : xE (zyEl zymx B H) 74 38 = xE (zyEl zymx B s.heap) 74 38 := by rw [hI]
      have q74_39 : xE (zyEl zymx B H) 74 39 = xE (zyEl zymx B s.heap) 74 39 := by rw [hI]
      have q74_40 : xE (zyEl zymx B H) 74 40 = xE (zyEl zymx B s.heap) 74 40 := by rw [hI]
      have q74_41 : xE (zyEl zymx B H) 74 41 = xE (zyEl zymx B s.heap) 74 41 := by rw [hI]
      have q75_0 : xE (zyEl zymx B H) 75 0 = xE (zyEl zymx B s.heap) 75 0 := by rw [hI]
      have q75_1 : xE (zyEl zymx B H) 75 1 = xE (zyEl zymx B s.heap) 75 1 := by rw [hI]
      have q75_2 : xE (zyEl zymx B H) 75 2 = xE (zyEl zymx B s.heap) 75 2 := by rw [hI]
      refine xGo hIH hAt hB hv hFr ⟨1, by decide⟩ [0, 0, 0] [0, 0, 0] rfl ⟨by decide +kernel, ⟨rfl, by decide +kernel⟩, (xcs_c rfl (xcs_c rfl (xcs_c rfl xcs_n))), (xe_0 (xe_0 (xe_0 xe_n))), xkq_n⟩ xst_n ?_ ?_
      · show (zyEl zymx B H2) = (zyEl zymx B s.heap)
        exact (xFr_n hfr).trans hI
      · show 8999 < 9000
        omega
    · have hx : x ∈ [zxfra_ax0] := hx
      have hag : ∀ k, k < 3 → v2 k = v k := hag
      have hfr : xFr [] _ _ := hfr
      have ex := List.mem_singleton.mp hx
      subst ex
      obtain ⟨hF, hBd, hM⟩ := hXs
      have e74_36 : xE (zyEl zymx B H2) 74 36 = xE (zyEl zymx B H) 74 36 := xFr_E hfr rfl
      have e74_37 : xE (zyEl zymx B H2) 74 37 = xE (zyEl zymx B H) 74 37 := xFr_E hfr rfl
      have e74_38 : xE (zyEl zymx B H2) 74 38 = xE (zyEl zymx B H) 74 38 := xFr_E hfr rfl
      have e74_39 : xE (zyEl zymx B H2) 74 39 = xE (zyEl zymx B H) 74 39 := xFr_E hfr rfl
      have e74_40 : xE (zyEl zymx B H2) 74 40 = xE (zyEl zymx B H) 74 40 := xFr_E hfr rfl
      have e74_41 : xE (zyEl zymx B H2) 74 41 = xE (zyEl zymx B H) 74 41 := xFr_E hfr rfl
      have e74_42 : xE (zyEl zymx B H2) 74 42 = xE (zyEl zymx B H) 74 42 := xFr_E hfr rfl
      have q74_42 : xE (zyEl zymx B H) 74 42 = xE (zyEl zymx B s.heap) 74 42 := xFr_E hFr0 rfl
      have e75_0 : xE (zyEl zymx B H2) 75 0 = xE (zyEl zymx B H) 75 0 := xFr_E hfr rfl
      have e75_1 : xE (zyEl zymx B H2) 75 1 = xE (zyEl zymx B H) 75 1 := xFr_E hfr rfl
      have e75_2 : xE (zyEl zymx B H2) 75 2 = xE (zyEl zymx B H) 75 2 := xFr_E hfr rfl
      have e84 : ∀ i, xE (zyEl zymx B H2) 84 i = xE (zyEl zymx B H) 84 i := fun i => xFr_E hfr rfl
      have q84 : ∀ i, xE (zyEl zymx B H) 84 i = xE (zyEl zymx B s.heap) 84 i := fun i => xFr_E hFr0 rfl
      have y74_42 : ((2147483648 : Nat) : Int) ≤ xE (zyEl zymx B s.heap) 74 42 + 2147483648 ∧ xE (zyEl zymx B s.heap) 74 42 + 2147483648 ≤ ((2147484548 : Nat) : Int) := xTyF hT0 74 42 42 rfl rfl rfl rfl rfl rfl
      have hI : (zyEl zymx B H) = (zyEl zymx B s.heap) := hInv
      have q74_36 : xE (zyEl zymx B H) 74 36 = xE (zyEl zymx B s.heap) 74 36 := by rw [hI]
      have q74_37 : xE (zyEl zymx B H) 74 37 = xE (zyEl zymx B s.heap) 74 37 := by rw [hI]
      have q74_38 : xE (zyEl zymx B H) 74 38 = xE (zyEl zymx B s.heap) 74 38 := by rw [hI]
      have q74_39 : xE (zyEl zymx B H) 74 39 = xE (zyEl zymx B s.heap) 74 39 := by rw [hI]
      have q74_40 : xE (zyEl zymx B H) 74 40 = xE (zyEl zymx B s.heap) 74 40 := by rw [hI]
      have q74_41 : xE (zyEl zymx B H) 74 41 = xE (zyEl zymx B s.heap) 74 41 := by rw [hI]
      have q75_0 : xE (zyEl zymx B H) 75 0 = xE (zyEl zymx B s.heap) 75 0 := by rw [hI]
      have q75_1 : xE (zyEl zymx B H) 75 1 = xE (zyEl zymx B s.heap) 75 1 := by rw [hI]
      have q75_2 : xE (zyEl zymx B H) 75 2 = xE (zyEl zymx B s.heap) 75 2 := by rw [hI]
      have hE := hI
      have hEE : (zyEl zymx B H2) = (zyEl zymx B s.heap) := (xFr_n hfr).trans hE
      obtain ⟨hPW, hP1, hP2, hP3⟩ := (show xΦal x0 (zyEl zymx B s.heap) from hΦ)
      refine xCa hRu hIH hAt hB hv hFr (hfiw B) (ix := 459) (ax := 5056) rfl rfl rfl hmefiw ⟨_, rfl, rfl, by decide⟩ ⟨rfl, rfl, rfl⟩ (by decide) [0] [595] [0] rfl ⟨rfl, rfl⟩ (by decide +kernel) (xcs_c rfl xcs_n) (by decide +kernel) ?_ (fun H3 r hT3 hf3 hFr3 hr3 hΨ3 => ?_)
      · show xΦiw (xfv [0]) (zyEl zymx B H2)
        rw [hEE]
        exact ⟨by decide, hPW⟩
      · have hΨ3 : xΨiw (xfv [0]) (zyEl zymx B H2) (zyEl zymx B H3) r := hΨ3
        have d74_36 : xE (zyEl zymx B H3) 74 36 = xE (zyEl zymx B H2) 74 36 := xFr_E hf3 rfl
        have d74_37 : xE (zyEl zymx B H3) 74 37 = xE (zyEl zymx B H2) 74 37 := xFr_E hf3 rfl
        have d74_38 : xE (zyEl zymx B H3) 74 38 = xE (zyEl zymx B H2) 74 38 := xFr_E hf3 rfl
        have d74_39 : xE (zyEl zymx B H3) 74 39 = xE (zyEl zymx B H2) 74 39 := xFr_E hf3 rfl
        have d74_40 : xE (zyEl zymx B H3) 74 40 = xE (zyEl zymx B H2) 74 40 := xFr_E hf3 rfl
        have d74_41 : xE (zyEl zymx B H3) 74 41 = xE (zyEl zymx B H2) 74 41 := xFr_E hf3 rfl
        have d74_42 : xE (zyEl zymx B H3) 74 42 = xE (zyEl zymx B H2) 74 42 := xFr_E hf3 rfl
        have d75_0 : xE (zyEl zymx B H3) 75 0 = xE (zyEl zymx B H2) 75 0 := xFr_E hf3 rfl
        have d75_1 : xE (zyEl zymx B H3) 75 1 = xE (zyEl zymx B H2) 75 1 := xFr_E hf3 rfl
        have d75_2 : xE (zyEl zymx B H3) 75 2 = xE (zyEl zymx B H2) 75 2 := xFr_E hf3 rfl
        have d84 : ∀ i, xE (zyEl zymx B H3) 84 i = xE (zyEl zymx B H2) 84 i := fun i => xFr_E hf3 rfl
        obtain ⟨hb, hb0, hb1⟩ := (show xΨiw (xfv [0]) (zyEl zymx B H2) (zyEl zymx B H3) r from hΨ3)
        rw [hEE] at hb1
        have hw : r = 1 ↔ tW (xE (zyEl zymx B s.heap) 84) (xE (zyEl zymx B s.heap) 74 42) 0 [115, 105, 122, 101] = true := hb1 _ hP2 hP3 hP1
        have hE3 : (zyEl zymx B H3) = (zyEl zymx B s.heap) := (xFr_n hf3).trans hEE
        refine ⟨⟨2, by decide⟩, [0, 0, 0], [0, 0, 0, r], rfl, ⟨by decide +kernel, ⟨rfl, by decide +kernel⟩, (xcs_c rfl (xcs_c rfl (xcs_c rfl xcs_n))), (xe_0 (xe_0 (xe_0 (xe_c (by omega) (by omega) rfl xe_n)))), xkq_n⟩, (by rw [if_pos rfl]; exact ⟨3, [595], rfl, by decide, rfl, (xst_r rfl xst_n)⟩), ?_, ?_⟩
        · show (zyEl zymx B H3) = (zyEl zymx B s.heap) ∧ ((r : Int) = 1 ↔ tW (xE (zyEl zymx B s.heap) 84) (xE (zyEl zymx B s.heap) 74 42) 0 [115, 105, 122, 101] = true)
          exact ⟨hE3, hw⟩
        · show 8998 < 8999
          omega
    · have hx : x ∈ [zxfra_bx0] := hx
      have hag : ∀ k, k < 4 → v2 k = v k := hag
      have hfr : xFr [] _ _ := hfr
      have ex := List.mem_singleton.mp hx
      subst ex
      obtain ⟨hF, hBd, hM⟩ := hXs
      have g3 : v2 3 = v 3 := hag 3 (by decide)
      have b0 : ((2147483648 : Nat) : Int) ≤ (v2 3) + 2147483648 ∧ (v2 3) + 2147483648 ≤ ((2147483649 : Nat) : Int) := xXb hBd 0 rfl
      have e74_36 : xE (zyEl zymx B H2) 74 36 = xE (zyEl zymx B H) 74 36 := xFr_E hfr rfl
      have e74_37 : xE (zyEl zymx B H2) 74 37 = xE (zyEl zymx B H) 74 37 := xFr_E hfr rfl
      have e74_38 : xE (zyEl zymx B H2) 74 38 = xE (zyEl zymx B H) 74 38 := xFr_E hfr rfl
      have e74_39 : xE (zyEl zymx B H2) 74 39 = xE (zyEl zymx B H) 74 39 := xFr_E hfr rfl
      have e74_40 : xE (zyEl zymx B H2) 74 40 = xE (zyEl zymx B H) 74 40 := xFr_E hfr rfl
      have e74_41 : xE (zyEl zymx B H2) 74 41 = xE (zyEl zymx B H) 74 41 := xFr_E hfr rfl
      have e74_42 : xE (zyEl zymx B H2) 74 42 = xE (zyEl zymx B H) 74 42 := xFr_E hfr rfl
      have q74_42 : xE (zyEl zymx B H) 74 42 = xE (zyEl zymx B s.heap) 74 42 := xFr_E hFr0 rfl
      have e75_0 : xE (zyEl zymx B H2) 75 0 = xE (zyEl zymx B H) 75 0 := xFr_E hfr rfl
      have e75_1 : xE (zyEl zymx B H2) 75 1 = xE (zyEl zymx B H) 75 1 := xFr_E hfr rfl
      have e75_2 : xE (zyEl zymx B H2) 75 2 = xE (zyEl zymx B H) 75 2 := xFr_E hfr rfl
      have e84 : ∀ i, xE (zyEl zymx B H2) 84 i = xE (zyEl zymx B H) 84 i := fun i => xFr_E hfr rfl
      have q84 : ∀ i, xE (zyEl zymx B H) 84 i = xE (zyEl zymx B s.heap) 84 i := fun i => xFr_E hFr0 rfl
      have y74_42 : ((2147483648 : Nat) : Int) ≤ xE (zyEl zymx B s.heap) 74 42 + 2147483648 ∧ xE (zyEl zymx B s.heap) 74 42 + 2147483648 ≤ ((2147484548 : Nat) : Int) := xTyF hT0 74 42 42 rfl rfl rfl rfl rfl rfl
      have hI : (zyEl zymx B H) = (zyEl zymx B s.heap) ∧ ((v 3) = 1 ↔ tW (xE (zyEl zymx B s.heap) 84) (xE (zyEl zymx B s.heap) 74 42) 0 [115, 105, 122, 101] = true) := hInv
      have q74_36 : xE (zyEl zymx B H) 74 36 = xE (zyEl zymx B s.heap) 74 36 := by rw [hI.1]
      have q74_37 : xE (zyEl zymx B H) 74 37 = xE (zyEl zymx B s.heap) 74 37 := by rw [hI.1]
      have q74_38 : xE (zyEl zymx B H) 74 38 = xE (zyEl zymx B s.heap) 74 38 := by rw [hI.1]
      have q74_39 : xE (zyEl zymx B H) 74 39 = xE (zyEl zymx B s.heap) 74 39 := by rw [hI.1]
      have q74_40 : xE (zyEl zymx B H) 74 40 = xE (zyEl zymx B s.heap) 74 40 := by rw [hI.1]
      have q74_41 : xE (zyEl zymx B H) 74 41 = xE (zyEl zymx B s.heap) 74 41 := by rw [hI.1]
      have q75_0 : xE (zyEl zymx B H) 75 0 = xE (zyEl zymx B s.heap) 75 0 := by rw [hI.1]
      have q75_1 : xE (zyEl zymx B H) 75 1 = xE (zyEl zymx B s.heap) 75 1 := by rw [hI.1]
      have q75_2 : xE (zyEl zymx B H) 75 2 = xE (zyEl zymx B s.heap) 75 2 := by rw [hI.1]
      obtain ⟨hE, i1⟩ := hI
      have hEE : (zyEl zymx B H2) = (zyEl zymx B s.heap) := (xFr_n hfr).trans hE
      obtain ⟨hPW, hP1, hP2, hP3⟩ := (show xΦal x0 (zyEl zymx B s.heap) from hΦ)
      refine xCa hRu hIH hAt hB hv hFr (hftk B) (ix := 462) (ax := 5088) rfl rfl rfl hmeftk ⟨_, rfl, rfl, by decide⟩ ⟨rfl, rfl, rfl⟩ (by decide) [103079215105] [] [(v2 3)] rfl ⟨rfl, rfl⟩ (by decide +kernel) (xcs_c rfl xcs_n) (by decide +kernel) ?_ (fun H3 r hT3 hf3 hFr3 hr3 hΨ3 => ?_)
      · show xΦtk (xfv [(v2 3)]) (zyEl zymx B H2)
        rw [hEE]
        intro q1 q2
        have q2 : ¬ (v2 3) = 0 := q2
        have hk := tW_k (i1.mp (by omega))
        obtain ⟨s1, s1b, s2, s3, s4, s5, s6, s7, s8⟩ := xRD_i hP3 hP2
        omega
      · have hΨ3 : xΨtk (xfv [(v2 3)]) (zyEl zymx B H2) (zyEl zymx B H3) r := hΨ3
        have d74_42 : xE (zyEl zymx B H3) 74 42 = xE (zyEl zymx B H2) 74 42 := xFr_E hf3 rfl
        have d75_0 : xE (zyEl zymx B H3) 75 0 = xE (zyEl zymx B H2) 75 0 := xFr_E hf3 rfl
        have d75_1 : xE (zyEl zymx B H3) 75 1 = xE (zyEl zymx B H2) 75 1 := xFr_E hf3 rfl
        have d75_2 : xE (zyEl zymx B H3) 75 2 = xE (zyEl zymx B H2) 75 2 := xFr_E hf3 rfl
        have d84 : ∀ i, xE (zyEl zymx B H3) 84 i = xE (zyEl zymx B H2) 84 i := fun i => xFr_E hf3 rfl
        have hg := fun p hw hs hp => xTk_g (T := (xE (zyEl zymx B s.heap) 84)) (n := (xE (zyEl zymx B s.heap) 74 42)) (p := p) (x := xfv [(v2 3)]) hΨ3 hw hs hp (fun i => (e84 i).trans (q84 i)) (by omega)
        have hge : ¬ xE (zyEl zymx B H2) 74 36 = 0 → xE (zyEl zymx B H3) 74 36 = xE (zyEl zymx B H2) 74 36 ∧ xE (zyEl zymx B H3) 74 37 = xE (zyEl zymx B H2) 74 37 := fun hw => xTk_e (x := xfv [(v2 3)]) hΨ3 hw
        refine ⟨⟨3, by decide⟩, [0, 0, 0], [0, 0, 0], rfl, ⟨by decide +kernel, ⟨rfl, by decide +kernel⟩, (xcs_c rfl (xcs_c rfl (xcs_c rfl xcs_n))), (xe_0 (xe_0 (xe_0 xe_n))), xkq_n⟩, (by rw [if_neg (by decide)]; exact xst_n), ?_, ?_⟩
        · show (xE (zyEl zymx B H3) 74 36 = 0 → ((tNx (xE (zyEl zymx B s.heap) 84) (xE (zyEl zymx B s.heap) 74 42) 0) ≤ (xE (zyEl zymx B s.heap) 74 42) ∧ xRD (xE (zyEl zymx B s.heap) 84) (xE (zyEl zymx B s.heap) 74 42) (tNx (xE (zyEl zymx B s.heap) 84) (xE (zyEl zymx B s.heap) 74 42) 0) (zyEl zymx B H3)) ∧ tW (xE (zyEl zymx B s.heap) 84) (xE (zyEl zymx B s.heap) 74 42) 0 [115, 105, 122, 101] = true) ∧ (¬ xE (zyEl zymx B H3) 74 36 = 0 → xEr (zyEl zymx B H3) (pSz (xE (zyEl zymx B s.heap) 84) (xE (zyEl zymx B s.heap) 74 42)))
          obtain ⟨g1, g2⟩ := hg 0 (by omega) (by rw [hEE]; exact hP3) hP2
          have g1 : ¬ (v2 3) = 0 → _ := g1
          have g2 : (v2 3) = 0 → _ := g2
          by_cases cw : tW (xE (zyEl zymx B s.heap) 84) (xE (zyEl zymx B s.heap) 74 42) 0 [115, 105, 122, 101] = true
          · have g1 := g1 (by have := i1.mpr cw; omega) (by have := tW_k cw; omega)
            exact ⟨fun hz => ⟨⟨g1.2.2.1, g1.2.1⟩, cw⟩, fun hz => absurd g1.1 hz⟩
          · have g2 := g2 (by have : ¬ v 3 = 1 := fun z => cw (i1.mp z); omega)
            refine ⟨fun hz => (xEr_1 g2 hz).elim, fun hz => ?_⟩
            unfold pSz
            rw [if_neg cw]
            exact g2
        · show 8997 < 8998
          omega
    · have hx : x ∈ [zxfra_cx0] := hx
      have hag : ∀ k, k < 3 → v2 k = v k := hag
      have hfr : xFr [] _ _ := hfr
      have ex := List.mem_singleton.mp hx
      subst ex
      obtain ⟨hF, hBd, hM⟩ := hXs
      have e74_36 : xE (zyEl zymx B H2) 74 36 = xE (zyEl zymx B H) 74 36 := xFr_E hfr rfl
      have e74_37 : xE (zyEl zymx B H2) 74 37 = xE (zyEl zymx B H) 74 37 := xFr_E hfr rfl
      have e74_38 : xE (zyEl zymx B H2) 74 38 = xE (zyEl zymx B H) 74 38 := xFr_E hfr rfl
      have e74_39 : xE (zyEl zymx B H2) 74 39 = xE (zyEl zymx B H) 74 39 := xFr_E hfr rfl
      have e74_40 : xE (zyEl zymx B H2) 74 40 = xE (zyEl zymx B H) 74 40 := xFr_E hfr rfl
      have e74_41 : xE (zyEl zymx B H2) 74 41 = xE (zyEl zymx B H) 74 41 := xFr_E hfr rfl
      have e74_42 : xE (zyEl zymx B H2) 74 42 = xE (zyEl zymx B H) 74 42 := xFr_E hfr rfl
      have q74_42 : xE (zyEl zymx B H) 74 42 = xE (zyEl zymx B s.heap) 74 42 := xFr_E hFr0 rfl
      have e75_0 : xE (zyEl zymx B H2) 75 0 = xE (zyEl zymx B H) 75 0 := xFr_E hfr rfl
      have e75_1 : xE (zyEl zymx B H2) 75 1 = xE (zyEl zymx B H) 75 1 := xFr_E hfr rfl
      have e75_2 : xE (zyEl zymx B H2) 75 2 = xE (zyEl zymx B H) 75 2 := xFr_E hfr rfl
      have e84 : ∀ i, xE (zyEl zymx B H2) 84 i = xE (zyEl zymx B H) 84 i := fun i => xFr_E hfr rfl
      have q84 : ∀ i, xE (zyEl zymx B H) 84 i = xE (zyEl zymx B s.heap) 84 i := fun i => xFr_E hFr0 rfl
      have y74_42 : ((2147483648 : Nat) : Int) ≤ xE (zyEl zymx B s.heap) 74 42 + 2147483648 ∧ xE (zyEl zymx B s.heap) 74 42 + 2147483648 ≤ ((2147484548 : Nat) : Int) := xTyF hT0 74 42 42 rfl rfl rfl rfl rfl rfl
      have hI : (xE (zyEl zymx B H) 74 36 = 0 → ((tNx (xE (zyEl zymx B s.heap) 84) (xE (zyEl zymx B s.heap) 74 42) 0) ≤ (xE (zyEl zymx B s.heap) 74 42) ∧ xRD (xE (zyEl zymx B s.heap) 84) (xE (zyEl zymx B s.heap) 74 42) (tNx (xE (zyEl zymx B s.heap) 84) (xE (zyEl zymx B s.heap) 74 42) 0) (zyEl zymx B H)) ∧ tW (xE (zyEl zymx B s.heap) 84) (xE (zyEl zymx B s.heap) 74 42) 0 [115, 105, 122, 101] = true) ∧ (¬ xE (zyEl zymx B H) 74 36 = 0 → xEr (zyEl zymx B H) (pSz (xE (zyEl zymx B s.heap) 84) (xE (zyEl zymx B s.heap) 74 42))) := hInv
      obtain ⟨i1, i2⟩ := hI
      have hEE : (zyEl zymx B H2) = (zyEl zymx B H) := xFr_n hfr
      obtain ⟨hPW, hP1, hP2, hP3⟩ := (show xΦal x0 (zyEl zymx B s.heap) from hΦ)
      refine xCa hRu hIH hAt hB hv hFr (hftm B) (ix := 456) (ax := 5120) rfl rfl rfl hmeftm ⟨_, rfl, rfl, by decide⟩ ⟨rfl, rfl, rfl⟩ (by decide) [8, 32] [] [1, 4] rfl ⟨rfl, rfl⟩ (by decide +kernel) (xcs_c rfl (xcs_c rfl xcs_n)) (by decide +kernel) ?_ (fun H3 r hT3 hf3 hFr3 hr3 hΨ3 => ?_)
      · show xΦtm (xfv [1, 4]) (zyEl zymx B H2)
        intro q1 q2
        obtain ⟨⟨j1, j2⟩, j3⟩ := i1 (by omega)
        obtain ⟨s1, s1b, s2, s3, s4, s5, s6, s7, s8⟩ := xRD_i j2 j1
        omega
      · have hΨ3 : xΨtm (xfv [1, 4]) (zyEl zymx B H2) (zyEl zymx B H3) r := hΨ3
        have d74_42 : xE (zyEl zymx B H3) 74 42 = xE (zyEl zymx B H2) 74 42 := xFr_E hf3 rfl
        have d75_0 : xE (zyEl zymx B H3) 75 0 = xE (zyEl zymx B H2) 75 0 := xFr_E hf3 rfl
        have d75_1 : xE (zyEl zymx B H3) 75 1 = xE (zyEl zymx B H2) 75 1 := xFr_E hf3 rfl
        have d75_2 : xE (zyEl zymx B H3) 75 2 = xE (zyEl zymx B H2) 75 2 := xFr_E hf3 rfl
        have d84 : ∀ i, xE (zyEl zymx B H3) 84 i = xE (zyEl zymx B H2) 84 i := fun i => xFr_E hf3 rfl
        have hg : ∀ p, xE (zyEl zymx B H2) 74 36 = 0 → p ≤ (xE (zyEl zymx B s.heap) 74 42) → xRD (xE (zyEl zymx B s.heap) 84) (xE (zyEl zymx B s.heap) 74 42) p (zyEl zymx B H2) → (xE (zyEl zymx B H3) 74 36 = 0 ∧ xRD (xE (zyEl zymx B s.heap) 84) (xE (zyEl zymx B s.heap) 74 42) (tNx (xE (zyEl zymx B s.heap) 84) (xE (zyEl zymx B s.heap) 74 42) p) (zyEl zymx B H3) ∧ tNx (xE (zyEl zymx B s.heap) 84) (xE (zyEl zymx B s.heap) 74 42) p ≤ (xE (zyEl zymx B s.heap) 74 42) ∧ p < tNx (xE (zyEl zymx B s.heap) 84) (xE (zyEl zymx B s.heap) 74 42) p ∧ 1 ≤ r ∧ r ≤ 4 ∧ ∀ k, pNum (xE (zyEl zymx B s.heap) 84) (xE (zyEl zymx B s.heap) 74 42) p 1 4 k = k r (tNx (xE (zyEl zymx B s.heap) 84) (xE (zyEl zymx B s.heap) 74 42) p)) ∨ (∀ k, xEr (zyEl zymx B H3) (pNum (xE (zyEl zymx B s.heap) 84) (xE (zyEl zymx B s.heap) 74 42) p 1 4 k)) := fun p hw hp hs => xTm_g (x := xfv [1, 4]) hΨ3 hw hs hp (fun i => (e84 i).trans (q84 i)) (by omega)
        have hge : ¬ xE (zyEl zymx B H2) 74 36 = 0 → xE (zyEl zymx B H3) 74 36 = xE (zyEl zymx B H2) 74 36 ∧ xE (zyEl zymx B H3) 74 37 = xE (zyEl zymx B H2) 74 37 := fun hw => xTm_e (x := xfv [1, 4]) hΨ3 hw
        refine ⟨⟨4, by decide⟩, [0, 0, 0], [0, 0, 0, r], rfl, ⟨by decide +kernel, ⟨rfl, by decide +kernel⟩, (xcs_c rfl (xcs_c rfl (xcs_c rfl xcs_n))), (xe_0 (xe_0 (xe_0 (xe_f (by omega) xe_n)))), xkq_n⟩, (by rw [if_pos rfl]; exact ⟨3, [], rfl, by decide, rfl, xst_n⟩), ?_, ?_⟩
        · show (xE (zyEl zymx B H3) 74 36 = 0 → (1 ≤ (r : Int) ∧ (r : Int) ≤ 4) ∧ ∃ p, ((p) ≤ (xE (zyEl zymx B s.heap) 74 42) ∧ xRD (xE (zyEl zymx B s.heap) 84) (xE (zyEl zymx B s.heap) 74 42) (p) (zyEl zymx B H3)) ∧ pSz (xE (zyEl zymx B s.heap) 84) (xE (zyEl zymx B s.heap) 74 42) = pNum (xE (zyEl zymx B s.heap) 84) (xE (zyEl zymx B s.heap) 74 42) p 1 5 (fun c p2 => pSem (xE (zyEl zymx B s.heap) 84) (xE (zyEl zymx B s.heap) 74 42) p2 (pClr (r : Int) c))) ∧ (¬ xE (zyEl zymx B H3) 74 36 = 0 → xEr (zyEl zymx B H3) (pSz (xE (zyEl zymx B s.heap) 84) (xE (zyEl zymx B s.heap) 74 42)))
          refine ⟨fun hz => ?_, fun hz => ?_⟩
          · by_cases hw : xE (zyEl zymx B H2) 74 36 = 0
            · obtain ⟨⟨j1, j2⟩, j3⟩ := i1 (by omega)
              rcases hg _ hw j1 (by rw [hEE]; exact j2) with ⟨h1, h2, h3, h4, h5, h6, h7⟩ | he
              · refine ⟨⟨h5, h6⟩, _, ⟨h3, h2⟩, ?_⟩
                unfold pSz
                rw [if_pos j3]
                exact h7 _
              · exact (xEr_1 (he (fun _ _ => .error (0, 0))) hz).elim
            · have := hge hw
              omega
          · by_cases hw : xE (zyEl zymx B H2) 74 36 = 0
            · obtain ⟨⟨j1, j2⟩, j3⟩ := i1 (by omega)
              rcases hg _ hw j1 (by rw [hEE]; exact j2) with ⟨h1, h2, h3, h4, h5, h6, h7⟩ | he
              · exact absurd h1 hz
              · unfold pSz
                rw [if_pos j3]
                exact he _
            · have := hge hw
              exact xEr_k (i2 (by omega)) (by omega) (by omega)
        · show 8996 < 8997
          omega
    · have hx : x ∈ [zxfra_dx0] := hx
      have hag : ∀ k, k < 4 → v2 k = v k := hag
      have hfr : xFr [] _ _ := hfr
      have ex := List.mem_singleton.mp hx
      subst ex
      obtain ⟨hF, hBd, hM⟩ := hXs
      have r3 := hr2 3
      have g3 : v2 3 = v 3 := hag 3 (by decide)
      have e74_36 : xE (zyEl zymx B H2) 74 36 = xE (zyEl zymx B H) 74 36 := xFr_E hfr rfl
      have e74_37 : xE (zyEl zymx B H2) 74 37 = xE (zyEl zymx B H) 74 37 := xFr_E hfr rfl
      have e74_38 : xE (zyEl zymx B H2) 74 38 = xE (zyEl zymx B H) 74 38 := xFr_E hfr rfl
      have e74_39 : xE (zyEl zymx B H2) 74 39 = xE (zyEl zymx B H) 74 39 := xFr_E hfr rfl
      have e74_40 : xE (zyEl zymx B H2) 74 40 = xE (zyEl zymx B H) 74 40 := xFr_E hfr rfl
      have e74_41 : xE (zyEl zymx B H2) 74 41 = xE (zyEl zymx B H) 74 41 := xFr_E hfr rfl
      have e74_42 : xE (zyEl zymx B H2) 74 42 = xE (zyEl zymx B H) 74 42 := xFr_E hfr rfl
      have q74_42 : xE (zyEl zymx B H) 74 42 = xE (zyEl zymx B s.heap) 74 42 := xFr_E hFr0 rfl
      have e75_0 : xE (zyEl zymx B H2) 75 0 = xE (zyEl zymx B H) 75 0 := xFr_E hfr rfl
      have e75_1 : xE (zyEl zymx B H2) 75 1 = xE (zyEl zymx B H) 75 1 := xFr_E hfr rfl
      have e75_2 : xE (zyEl zymx B H2) 75 2 = xE (zyEl zymx B H) 75 2 := xFr_E hfr rfl
      have e84 : ∀ i, xE (zyEl zymx B H2) 84 i = xE (zyEl zymx B H) 84 i := fun i => xFr_E hfr rfl
      have q84 : ∀ i, xE (zyEl zymx B H) 84 i = xE (zyEl zymx B s.heap) 84 i := fun i => xFr_E hFr0 rfl
      have y74_42 : ((2147483648 : Nat) : Int) ≤ xE (zyEl zymx B s.heap) 74 42 + 2147483648 ∧ xE (zyEl zymx B s.heap) 74 42 + 2147483648 ≤ ((2147484548 : Nat) : Int) := xTyF hT0 74 42 42 rfl rfl rfl rfl rfl rfl
      have hI : (xE (zyEl zymx B H) 74 36 = 0 → (1 ≤ (v 3) ∧ (v 3) ≤ 4) ∧ ∃ p, ((p) ≤ (xE (zyEl zymx B s.heap) 74 42) ∧ xRD (xE (zyEl zymx B s.heap) 84) (xE (zyEl zymx B s.heap) 74 42) (p) (zyEl zymx B H)) ∧ pSz (xE (zyEl zymx B s.heap) 84) (xE (zyEl zymx B s.heap) 74 42) = pNum (xE (zyEl zymx B s.heap) 84) (xE (zyEl zymx B s.heap) 74 42) p 1 5 (fun c p2 => pSem (xE (zyEl zymx B s.heap) 84) (xE (zyEl zymx B s.heap) 74 42) p2 (pClr (v 3) c))) ∧ (¬ xE (zyEl zymx B H) 74 36 = 0 → xEr (zyEl zymx B H) (pSz (xE (zyEl zymx B s.heap) 84) (xE (zyEl zymx B s.heap) 74 42))) := hInv
      obtain ⟨i1, i2⟩ := hI
      have hEE : (zyEl zymx B H2) = (zyEl zymx B H) := xFr_n hfr
      obtain ⟨hPW, hP1, hP2, hP3⟩ := (show xΦal x0 (zyEl zymx B s.heap) from hΦ)
      refine xCa hRu hIH hAt hB hv hFr (hftm B) (ix := 456) (ax := 5120) rfl rfl rfl hmeftm ⟨_, rfl, rfl, by decide⟩ ⟨rfl, rfl, rfl⟩ (by decide) [8, 40] [] [1, 5] rfl ⟨rfl, rfl⟩ (by decide +kernel) (xcs_c rfl (xcs_c rfl xcs_n)) (by decide +kernel) ?_ (fun H3 r hT3 hf3 hFr3 hr3 hΨ3 => ?_)
      · show xΦtm (xfv [1, 5]) (zyEl zymx B H2)
        intro q1 q2
        obtain ⟨j0, p, ⟨j1, j2⟩, j3⟩ := i1 (by omega)
        obtain ⟨s1, s1b, s2, s3, s4, s5, s6, s7, s8⟩ := xRD_i j2 j1
        omega
      · have hΨ3 : xΨtm (xfv [1, 5]) (zyEl zymx B H2) (zyEl zymx B H3) r := hΨ3
        have d74_42 : xE (zyEl zymx B H3) 74 42 = xE (zyEl zymx B H2) 74 42 := xFr_E hf3 rfl
        have d75_0 : xE (zyEl zymx B H3) 75 0 = xE (zyEl zymx B H2) 75 0 := xFr_E hf3 rfl
        have d75_1 : xE (zyEl zymx B H3) 75 1 = xE (zyEl zymx B H2) 75 1 := xFr_E hf3 rfl
        have d75_2 : xE (zyEl zymx B H3) 75 2 = xE (zyEl zymx B H2) 75 2 := xFr_E hf3 rfl
        have d84 : ∀ i, xE (zyEl zymx B H3) 84 i = xE (zyEl zymx B H2) 84 i := fun i => xFr_E hf3 rfl
        have hg : ∀ p, xE (zyEl zymx B H2) 74 36 = 0 → p ≤ (xE (zyEl zymx B s.heap) 74 42) → xRD (xE (zyEl zymx B s.heap) 84) (xE (zyEl zymx B s.heap) 74 42) p (zyEl zymx B H2) → (xE (zyEl zymx B H3) 74 36 = 0 ∧ xRD (xE (zyEl zymx B s.heap) 84) (xE (zyEl zymx B s.heap) 74 42) (tNx (xE (zyEl zymx B s.heap) 84) (xE (zyEl zymx B s.heap) 74 42) p) (zyEl zymx B H3) ∧ tNx (xE (zyEl zymx B s.heap) 84) (xE (zyEl zymx B s.heap) 74 42) p ≤ (xE (zyEl zymx B s.heap) 74 42) ∧ p < tNx (xE (zyEl zymx B s.heap) 84) (xE (zyEl zymx B s.heap) 74 42) p ∧ 1 ≤ r ∧ r ≤ 5 ∧ ∀ k, pNum (xE (zyEl zymx B s.heap) 84) (xE (zyEl zymx B s.heap) 74 42) p 1 5 k = k r (tNx (xE (zyEl zymx B s.heap) 84) (xE (zyEl zymx B s.heap) 74 42) p)) ∨ (∀ k, xEr (zyEl zymx B H3) (pNum (xE (zyEl zymx B s.heap) 84) (xE (zyEl zymx B s.heap) 74 42) p 1 5 k)) := fun p hw hp hs => xTm_g (x := xfv [1, 5]) hΨ3 hw hs hp (fun i => (e84 i).trans (q84 i)) (by omega)
        have hge : ¬ xE (zyEl zymx B H2) 74 36 = 0 → xE (zyEl zymx B H3) 74 36 = xE (zyEl zymx B H2) 74 36 ∧ xE (zyEl zymx B H3) 74 37 = xE (zyEl zymx B H2) 74 37 := fun hw => xTm_e (x := xfv [1, 5]) hΨ3 hw
        refine ⟨⟨5, by decide⟩, [0, 103079215105, 0], [0, (v2 3), 0, r], rfl, ⟨by decide +kernel, ⟨rfl, by decide +kernel⟩, (xcs_c rfl (xcs_c rfl (xcs_c rfl xcs_n))), (xe_0 (xe_f (by omega) (xe_0 (xe_f (by omega) xe_n)))), xkq_n⟩, (by rw [if_pos rfl]; exact ⟨3, [], rfl, by decide, rfl, xst_n⟩), ?_, ?_⟩
        · show (xE (zyEl zymx B H3) 74 36 = 0 → (1 ≤ ((v2 3) : Int) ∧ ((v2 3) : Int) ≤ 4) ∧ (1 ≤ (r : Int) ∧ (r : Int) ≤ 5) ∧ ∃ p, ((p) ≤ (xE (zyEl zymx B s.heap) 74 42) ∧ xRD (xE (zyEl zymx B s.heap) 84) (xE (zyEl zymx B s.heap) 74 42) (p) (zyEl zymx B H3)) ∧ pSz (xE (zyEl zymx B s.heap) 84) (xE (zyEl zymx B s.heap) 74 42) = pSem (xE (zyEl zymx B s.heap) 84) (xE (zyEl zymx B s.heap) 74 42) p (pClr ((v2 3) : Int) (r : Int))) ∧ (¬ xE (zyEl zymx B H3) 74 36 = 0 → xEr (zyEl zymx B H3) (pSz (xE (zyEl zymx B s.heap) 84) (xE (zyEl zymx B s.heap) 74 42)))
          refine ⟨fun hz => ?_, fun hz => ?_⟩
          · by_cases hw : xE (zyEl zymx B H2) 74 36 = 0
            · obtain ⟨j0, p, ⟨j1, j2⟩, j3⟩ := i1 (by omega)
              rcases hg _ hw j1 (by rw [hEE]; exact j2) with ⟨h1, h2, h3, h4, h5, h6, h7⟩ | he
              · refine ⟨by omega, ⟨h5, h6⟩, _, ⟨h3, h2⟩, ?_⟩
                rw [j3, h7, show v2 3 = v 3 by omega]
              · exact (xEr_1 (he (fun _ _ => .error (0, 0))) hz).elim
            · have := hge hw
              omega
          · by_cases hw : xE (zyEl zymx B H2) 74 36 = 0
            · obtain ⟨j0, p, ⟨j1, j2⟩, j3⟩ := i1 (by omega)
              rcases hg _ hw j1 (by rw [hEE]; exact j2) with ⟨h1, h2, h3, h4, h5, h6, h7⟩ | he
              · exact absurd h1 hz
              · rw [j3]
                exact he _
            · have := hge hw
              exact xEr_k (i2 (by omega)) (by omega) (by omega)
        · show 8995 < 8996
          omega
    · have hx : x ∈ [zxfra_ex0] := hx
      have hag : ∀ k, k < 4 → v2 k = v k := hag
      have hfr : xFr [] _ _ := hfr
      have ex := List.mem_singleton.mp hx
      subst ex
      obtain ⟨hF, hBd, hM⟩ := hXs
      have r1 := hr2 1
      have r3 := hr2 3
      have g1 : v2 1 = v 1 := hag 1 (by decide)
      have g3 : v2 3 = v 3 := hag 3 (by decide)
      have e74_36 : xE (zyEl zymx B H2) 74 36 = xE (zyEl zymx B H) 74 36 := xFr_E hfr rfl
      have e74_37 : xE (zyEl zymx B H2) 74 37 = xE (zyEl zymx B H) 74 37 := xFr_E hfr rfl
      have e74_38 : xE (zyEl zymx B H2) 74 38 = xE (zyEl zymx B H) 74 38 := xFr_E hfr rfl
      have e74_39 : xE (zyEl zymx B H2) 74 39 = xE (zyEl zymx B H) 74 39 := xFr_E hfr rfl
      have e74_40 : xE (zyEl zymx B H2) 74 40 = xE (zyEl zymx B H) 74 40 := xFr_E hfr rfl
      have e74_41 : xE (zyEl zymx B H2) 74 41 = xE (zyEl zymx B H) 74 41 := xFr_E hfr rfl
      have e74_42 : xE (zyEl zymx B H2) 74 42 = xE (zyEl zymx B H) 74 42 := xFr_E hfr rfl
      have q74_42 : xE (zyEl zymx B H) 74 42 = xE (zyEl zymx B s.heap) 74 42 := xFr_E hFr0 rfl
      have e75_0 : xE (zyEl zymx B H2) 75 0 = xE (zyEl zymx B H) 75 0 := xFr_E hfr rfl
      have e75_1 : xE (zyEl zymx B H2) 75 1 = xE (zyEl zymx B H) 75 1 := xFr_E hfr rfl
      have e75_2 : xE (zyEl zymx B H2) 75 2 = xE (zyEl zymx B H) 75 2 := xFr_E hfr rfl
      have e84 : ∀ i, xE (zyEl zymx B H2) 84 i = xE (zyEl zymx B H) 84 i := fun i => xFr_E hfr rfl
      have q84 : ∀ i, xE (zyEl zymx B H) 84 i = xE (zyEl zymx B s.heap) 84 i := fun i => xFr_E hFr0 rfl
      have y74_42 : ((2147483648 : Nat) : Int) ≤ xE (zyEl zymx B s.heap) 74 42 + 2147483648 ∧ xE (zyEl zymx B s.heap) 74 42 + 2147483648 ≤ ((2147484548 : Nat) : Int) := xTyF hT0 74 42 42 rfl rfl rfl rfl rfl rfl
      have hI : (xE (zyEl zymx B H) 74 36 = 0 → (1 ≤ (v 1) ∧ (v 1) ≤ 4) ∧ (1 ≤ (v 3) ∧ (v 3) ≤ 5) ∧ ∃ p, ((p) ≤ (xE (zyEl zymx B s.heap) 74 42) ∧ xRD (xE (zyEl zymx B s.heap) 84) (xE (zyEl zymx B s.heap) 74 42) (p) (zyEl zymx B H)) ∧ pSz (xE (zyEl zymx B s.heap) 84) (xE (zyEl zymx B s.heap) 74 42) = pSem (xE (zyEl zymx B s.heap) 84) (xE (zyEl zymx B s.heap) 74 42) p (pClr (v 1) (v 3))) ∧ (¬ xE (zyEl zymx B H) 74 36 = 0 → xEr (zyEl zymx B H) (pSz (xE (zyEl zymx B s.heap) 84) (xE (zyEl zymx B s.heap) 74 42))) := hInv
      obtain ⟨i1, i2⟩ := hI
      have hEE : (zyEl zymx B H2) = (zyEl zymx B H) := xFr_n hfr
      obtain ⟨hPW, hP1, hP2, hP3⟩ := (show xΦal x0 (zyEl zymx B s.heap) from hΦ)
      refine xCa hRu hIH hAt hB hv hFr (hfis B) (ix := 466) (ax := 5072) rfl rfl rfl hmefis ⟨_, rfl, rfl, by decide⟩ ⟨rfl, rfl, rfl⟩ (by decide) [472] [595] [59] rfl ⟨rfl, rfl⟩ (by decide +kernel) (xcs_c rfl xcs_n) (by decide +kernel) ?_ (fun H3 r hT3 hf3 hFr3 hr3 hΨ3 => ?_)
      · show xΦis (xfv [59]) (zyEl zymx B H2)
        intro hw q1
        obtain ⟨j0, j0b, p, ⟨j1, j2⟩, j3⟩ := i1 (by omega)
        obtain ⟨s1, s1b, s2, s3, s4, s5, s6, s7, s8⟩ := xRD_i j2 j1
        omega
      · have hΨ3 : xΨis (xfv [59]) (zyEl zymx B H2) (zyEl zymx B H3) r := hΨ3
        have d74_36 : xE (zyEl zymx B H3) 74 36 = xE (zyEl zymx B H2) 74 36 := xFr_E hf3 rfl
        have d74_37 : xE (zyEl zymx B H3) 74 37 = xE (zyEl zymx B H2) 74 37 := xFr_E hf3 rfl
        have d74_38 : xE (zyEl zymx B H3) 74 38 = xE (zyEl zymx B H2) 74 38 := xFr_E hf3 rfl
        have d74_39 : xE (zyEl zymx B H3) 74 39 = xE (zyEl zymx B H2) 74 39 := xFr_E hf3 rfl
        have d74_40 : xE (zyEl zymx B H3) 74 40 = xE (zyEl zymx B H2) 74 40 := xFr_E hf3 rfl
        have d74_41 : xE (zyEl zymx B H3) 74 41 = xE (zyEl zymx B H2) 74 41 := xFr_E hf3 rfl
        have d74_42 : xE (zyEl zymx B H3) 74 42 = xE (zyEl zymx B H2) 74 42 := xFr_E hf3 rfl
        have d75_0 : xE (zyEl zymx B H3) 75 0 = xE (zyEl zymx B H2) 75 0 := xFr_E hf3 rfl
        have d75_1 : xE (zyEl zymx B H3) 75 1 = xE (zyEl zymx B H2) 75 1 := xFr_E hf3 rfl
        have d75_2 : xE (zyEl zymx B H3) 75 2 = xE (zyEl zymx B H2) 75 2 := xFr_E hf3 rfl
        have d84 : ∀ i, xE (zyEl zymx B H3) 84 i = xE (zyEl zymx B H2) 84 i := fun i => xFr_E hf3 rfl
        have hE3 : (zyEl zymx B H3) = (zyEl zymx B H2) := xFr_n hf3
        have hb01 := xIs_b hΨ3
        refine ⟨⟨6, by decide⟩, [0, 34359738369, 103079215105], [0, (v2 1), (v2 3), r], rfl, ⟨by decide +kernel, ⟨rfl, by decide +kernel⟩, (xcs_c rfl (xcs_c rfl (xcs_c rfl xcs_n))), (xe_0 (xe_f (by omega) (xe_f (by omega) (xe_c (by omega) (by omega) rfl xe_n)))), xkq_n⟩, (by rw [if_pos rfl]; exact ⟨3, [595], rfl, by decide, rfl, (xst_r rfl xst_n)⟩), ?_, ?_⟩
        · show (xE (zyEl zymx B H3) 74 36 = 0 → (1 ≤ ((v2 1) : Int) ∧ ((v2 1) : Int) ≤ 4) ∧ (1 ≤ ((v2 3) : Int) ∧ ((v2 3) : Int) ≤ 5) ∧ ∃ p, ((p) ≤ (xE (zyEl zymx B s.heap) 74 42) ∧ xRD (xE (zyEl zymx B s.heap) 84) (xE (zyEl zymx B s.heap) 74 42) (p) (zyEl zymx B H3)) ∧ pSz (xE (zyEl zymx B s.heap) 84) (xE (zyEl zymx B s.heap) 74 42) = pSem (xE (zyEl zymx B s.heap) 84) (xE (zyEl zymx B s.heap) 74 42) p (pClr ((v2 1) : Int) ((v2 3) : Int)) ∧ (r : Int) = (if tKd (xE (zyEl zymx B s.heap) 84) (xE (zyEl zymx B s.heap) 74 42) p = 5 then 1 else 0)) ∧ (¬ xE (zyEl zymx B H3) 74 36 = 0 → xEr (zyEl zymx B H3) (pSz (xE (zyEl zymx B s.heap) 84) (xE (zyEl zymx B s.heap) 74 42)))
          refine ⟨fun hz => ?_, fun hz => ?_⟩
          · rw [hE3, hEE] at hz
            obtain ⟨j0, j0b, p, ⟨j1, j2⟩, j3⟩ := i1 hz
            have hr : r = if tKd (xE (zyEl zymx B s.heap) 84) (xE (zyEl zymx B s.heap) 74 42) p = 5 then 1 else 0 := (xIs_g (x := xfv [59]) hΨ3 (by rw [hEE]; exact hz) (by rw [hEE]; exact j2) j1 (fun i => (e84 i).trans (q84 i))).2 rfl
            rw [hE3, hEE]
            rw [show v 1 = v2 1 by omega, show v 3 = v2 3 by omega] at j3
            exact ⟨by omega, by omega, p, ⟨j1, j2⟩, j3, hr⟩
          · rw [hE3, hEE] at hz ⊢
            exact i2 hz
        · show 8994 < 8995
          omega
    · have hx : x ∈ [zxfra_fx0] := hx
      have hag : ∀ k, k < 4 → v2 k = v k := hag
      have hfr : xFr [] _ _ := hfr
      have ex := List.mem_singleton.mp hx
      subst ex
      obtain ⟨hF, hBd, hM⟩ := hXs
      have r1 := hr2 1
      have r2 := hr2 2
      have g1 : v2 1 = v 1 := hag 1 (by decide)
      have g2 : v2 2 = v 2 := hag 2 (by decide)
      have g3 : v2 3 = v 3 := hag 3 (by decide)
      have b0 : ((2147483648 : Nat) : Int) ≤ (v2 3) + 2147483648 ∧ (v2 3) + 2147483648 ≤ ((2147483649 : Nat) : Int) := xXb hBd 0 rfl
      have e74_36 : xE (zyEl zymx B H2) 74 36 = xE (zyEl zymx B H) 74 36 := xFr_E hfr rfl
      have e74_37 : xE (zyEl zymx B H2) 74 37 = xE (zyEl zymx B H) 74 37 := xFr_E hfr rfl
      have e74_38 : xE (zyEl zymx B H2) 74 38 = xE (zyEl zymx B H) 74 38 := xFr_E hfr rfl
      have e74_39 : xE (zyEl zymx B H2) 74 39 = xE (zyEl zymx B H) 74 39 := xFr_E hfr rfl
      have e74_40 : xE (zyEl zymx B H2) 74 40 = xE (zyEl zymx B H) 74 40 := xFr_E hfr rfl
      have e74_41 : xE (zyEl zymx B H2) 74 41 = xE (zyEl zymx B H) 74 41 := xFr_E hfr rfl
      have e74_42 : xE (zyEl zymx B H2) 74 42 = xE (zyEl zymx B H) 74 42 := xFr_E hfr rfl
      have q74_42 : xE (zyEl zymx B H) 74 42 = xE (zyEl zymx B s.heap) 74 42 := xFr_E hFr0 rfl
      have e75_0 : xE (zyEl zymx B H2) 75 0 = xE (zyEl zymx B H) 75 0 := xFr_E hfr rfl
      have e75_1 : xE (zyEl zymx B H2) 75 1 = xE (zyEl zymx B H) 75 1 := xFr_E hfr rfl
      have e75_2 : xE (zyEl zymx B H2) 75 2 = xE (zyEl zymx B H) 75 2 := xFr_E hfr rfl
      have e84 : ∀ i, xE (zyEl zymx B H2) 84 i = xE (zyEl zymx B H) 84 i := fun i => xFr_E hfr rfl
      have q84 : ∀ i, xE (zyEl zymx B H) 84 i = xE (zyEl zymx B s.heap) 84 i := fun i => xFr_E hFr0 rfl
      have y74_42 : ((2147483648 : Nat) : Int) ≤ xE (zyEl zymx B s.heap) 74 42 + 2147483648 ∧ xE (zyEl zymx B s.heap) 74 42 + 2147483648 ≤ ((2147484548 : Nat) : Int) := xTyF hT0 74 42 42 rfl rfl rfl rfl rfl rfl
      have hI : (xE (zyEl zymx B H) 74 36 = 0 → (1 ≤ (v 1) ∧ (v 1) ≤ 4) ∧ (1 ≤ (v 2) ∧ (v 2) ≤ 5) ∧ ∃ p, ((p) ≤ (xE (zyEl zymx B s.heap) 74 42) ∧ xRD (xE (zyEl zymx B s.heap) 84) (xE (zyEl zymx B s.heap) 74 42) (p) (zyEl zymx B H)) ∧ pSz (xE (zyEl zymx B s.heap) 84) (xE (zyEl zymx B s.heap) 74 42) = pSem (xE (zyEl zymx B s.heap) 84) (xE (zyEl zymx B s.heap) 74 42) p (pClr (v 1) (v 2)) ∧ (v 3) = (if tKd (xE (zyEl zymx B s.heap) 84) (xE (zyEl zymx B s.heap) 74 42) p = 5 then 1 else 0)) ∧ (¬ xE (zyEl zymx B H) 74 36 = 0 → xEr (zyEl zymx B H) (pSz (xE (zyEl zymx B s.heap) 84) (xE (zyEl zymx B s.heap) 74 42))) := hInv
      obtain ⟨i1, i2⟩ := hI
      have hEE : (zyEl zymx B H2) = (zyEl zymx B H) := xFr_n hfr
      obtain ⟨hPW, hP1, hP2, hP3⟩ := (show xΦal x0 (zyEl zymx B s.heap) from hΦ)
      refine xCa hRu hIH hAt hB hv hFr (hftk B) (ix := 462) (ax := 5088) rfl rfl rfl hmeftk ⟨_, rfl, rfl, by decide⟩ ⟨rfl, rfl, rfl⟩ (by decide) [103079215105] [] [(v2 3)] rfl ⟨rfl, rfl⟩ (by decide +kernel) (xcs_c rfl xcs_n) (by decide +kernel) ?_ (fun H3 r hT3 hf3 hFr3 hr3 hΨ3 => ?_)
      · show xΦtk (xfv [(v2 3)]) (zyEl zymx B H2)
        intro q1 q2
        obtain ⟨j0, j0b, p, ⟨hp, hs⟩, hU, hr⟩ := i1 (by omega)
        have q2 : ¬ (v2 3) = 0 := q2
        have hk : tKd (xE (zyEl zymx B s.heap) 84) (xE (zyEl zymx B s.heap) 74 42) p = 5 := Classical.byContradiction fun z => by
          rw [if_neg z] at hr
          omega
        obtain ⟨s1, s1b, s2, s3, s4, s5, s6, s7, s8⟩ := xRD_i hs hp
        omega
      · have hΨ3 : xΨtk (xfv [(v2 3)]) (zyEl zymx B H2) (zyEl zymx B H3) r := hΨ3
        have d74_42 : xE (zyEl zymx B H3) 74 42 = xE (zyEl zymx B H2) 74 42 := xFr_E hf3 rfl
        have d75_0 : xE (zyEl zymx B H3) 75 0 = xE (zyEl zymx B H2) 75 0 := xFr_E hf3 rfl
        have d75_1 : xE (zyEl zymx B H3) 75 1 = xE (zyEl zymx B H2) 75 1 := xFr_E hf3 rfl
        have d75_2 : xE (zyEl zymx B H3) 75 2 = xE (zyEl zymx B H2) 75 2 := xFr_E hf3 rfl
        have d84 : ∀ i, xE (zyEl zymx B H3) 84 i = xE (zyEl zymx B H2) 84 i := fun i => xFr_E hf3 rfl
        have z74_36 : ((2147483648 : Nat) : Int) ≤ xE (zyEl zymx B H3) 74 36 + 2147483648 ∧ xE (zyEl zymx B H3) 74 36 + 2147483648 ≤ ((2147483657 : Nat) : Int) := xTyF hT3 74 36 36 rfl rfl rfl rfl rfl rfl
        have hg := fun p hw hs hp => xTk_g (T := (xE (zyEl zymx B s.heap) 84)) (n := (xE (zyEl zymx B s.heap) 74 42)) (p := p) (x := xfv [(v2 3)]) hΨ3 hw hs hp (fun i => (e84 i).trans (q84 i)) (by omega)
        have hge : ¬ xE (zyEl zymx B H2) 74 36 = 0 → xE (zyEl zymx B H3) 74 36 = xE (zyEl zymx B H2) 74 36 ∧ xE (zyEl zymx B H3) 74 37 = xE (zyEl zymx B H2) 74 37 := fun hw => xTk_e (x := xfv [(v2 3)]) hΨ3 hw
        refine ⟨⟨7, by decide⟩, [0, 34359738369, 68719476737], [0, (v2 1), (v2 2), xE (zyEl zymx B H3) 74 36], rfl, ⟨by decide +kernel, ⟨rfl, by decide +kernel⟩, (xcs_c rfl (xcs_c rfl (xcs_c rfl xcs_n))), (xe_0 (xe_f (by omega) (xe_f (by omega) (xe_c (by omega) (by omega) rfl xe_n)))), (xkq_c hT3 74 36 (q := 36) rfl rfl rfl rfl rfl rfl rfl rfl rfl rfl rfl xkq_n)⟩, (by rw [if_neg (by decide)]; exact xst_n), ?_, ?_⟩
        · show (xE (zyEl zymx B H3) 74 36 = 0 → (1 ≤ ((v2 1) : Int) ∧ ((v2 1) : Int) ≤ 4) ∧ (1 ≤ ((v2 2) : Int) ∧ ((v2 2) : Int) ≤ 5) ∧ ∃ p, (0 ≤ p) ∧ ((p) ≤ (xE (zyEl zymx B s.heap) 74 42) ∧ xRD (xE (zyEl zymx B s.heap) 84) (xE (zyEl zymx B s.heap) 74 42) (p) (zyEl zymx B H3)) ∧ pSz (xE (zyEl zymx B s.heap) 84) (xE (zyEl zymx B s.heap) 74 42) = .ok (p, pClr ((v2 1) : Int) ((v2 2) : Int))) ∧ (¬ xE (zyEl zymx B H3) 74 36 = 0 → xEr (zyEl zymx B H3) (pSz (xE (zyEl zymx B s.heap) 84) (xE (zyEl zymx B s.heap) 74 42)))
          by_cases hw : xE (zyEl zymx B H) 74 36 = 0
          · obtain ⟨j0, j0b, p, ⟨hp, hs⟩, hU, hr⟩ := i1 hw
            obtain ⟨g1, g2⟩ := hg p (by omega) (by rw [hEE]; exact hs) hp
            have g1 : ¬ (v2 3) = 0 → _ := g1
            have g2 : (v2 3) = 0 → _ := g2
            unfold pSem at hU
            by_cases ck : tKd (xE (zyEl zymx B s.heap) 84) (xE (zyEl zymx B s.heap) 74 42) p = 5
            · rw [if_pos ck] at hr hU
              obtain ⟨k1, k2, k3, k4⟩ := g1 (by omega) (by omega)
              refine ⟨fun _ => ⟨by omega, by omega, _, ?_, ⟨k3, k2⟩, ?_⟩, fun hz => absurd k1 hz⟩
              · have hz := pSz_p hP2 hU
                omega
              · rw [hU, show v 1 = v2 1 by omega, show v 2 = v2 2 by omega]
            · rw [if_neg ck] at hr hU
              have g2 := g2 (by omega)
              refine ⟨fun hz => (xEr_1 g2 hz).elim, fun hz => ?_⟩
              rw [hU]
              exact g2
          · have hge := hge (by omega)
            exact ⟨fun hz => by omega, fun hz => xEr_k (i2 hw) (by omega) (by omega)⟩
        · show 8993 < 8994
          omega
    · have hx : x ∈ [zxfra_gx0] := hx
      have hag : ∀ k, k < 4 → v2 k = v k := hag
      have hfr : xFr [] _ _ := hfr
      have ex := List.mem_singleton.mp hx
      subst ex
      obtain ⟨hF, hBd, hM⟩ := hXs
      have r1 := hr2 1
      have r2 := hr2 2
      have g1 : v2 1 = v 1 := hag 1 (by decide)
      have g2 : v2 2 = v 2 := hag 2 (by decide)
      have g3 : v2 3 = v 3 := hag 3 (by decide)
      have b0 : ((2147483648 : Nat) : Int) ≤ (v2 3) + 2147483648 ∧ (v2 3) + 2147483648 ≤ ((2147483648 : Nat) : Int) := xXb hBd 0 rfl
      have k0 : xE (zyEl zymx B H) 74 36 = v 3 := xKcf hKc 0 rfl rfl
      have f0 : (v2 3) ≤ 0 := xXf hF 0 rfl
      have e74_36 : xE (zyEl zymx B H2) 74 36 = xE (zyEl zymx B H) 74 36 := xFr_E hfr rfl
      have e74_37 : xE (zyEl zymx B H2) 74 37 = xE (zyEl zymx B H) 74 37 := xFr_E hfr rfl
      have e74_38 : xE (zyEl zymx B H2) 74 38 = xE (zyEl zymx B H) 74 38 := xFr_E hfr rfl
      have e74_39 : xE (zyEl zymx B H2) 74 39 = xE (zyEl zymx B H) 74 39 := xFr_E hfr rfl
      have e74_40 : xE (zyEl zymx B H2) 74 40 = xE (zyEl zymx B H) 74 40 := xFr_E hfr rfl
      have e74_41 : xE (zyEl zymx B H2) 74 41 = xE (zyEl zymx B H) 74 41 := xFr_E hfr rfl
      have e74_42 : xE (zyEl zymx B H2) 74 42 = xE (zyEl zymx B H) 74 42 := xFr_E hfr rfl
      have q74_42 : xE (zyEl zymx B H) 74 42 = xE (zyEl zymx B s.heap) 74 42 := xFr_E hFr0 rfl
      have e75_0 : xE (zyEl zymx B H2) 75 0 = xE (zyEl zymx B H) 75 0 := xFr_E hfr rfl
      have e75_1 : xE (zyEl zymx B H2) 75 1 = xE (zyEl zymx B H) 75 1 := xFr_E hfr rfl
      have e75_2 : xE (zyEl zymx B H2) 75 2 = xE (zyEl zymx B H) 75 2 := xFr_E hfr rfl
      have e84 : ∀ i, xE (zyEl zymx B H2) 84 i = xE (zyEl zymx B H) 84 i := fun i => xFr_E hfr rfl
      have q84 : ∀ i, xE (zyEl zymx B H) 84 i = xE (zyEl zymx B s.heap) 84 i := fun i => xFr_E hFr0 rfl
      have y74_42 : ((2147483648 : Nat) : Int) ≤ xE (zyEl zymx B s.heap) 74 42 + 2147483648 ∧ xE (zyEl zymx B s.heap) 74 42 + 2147483648 ≤ ((2147484548 : Nat) : Int) := xTyF hT0 74 42 42 rfl rfl rfl rfl rfl rfl
      have hI : (xE (zyEl zymx B H) 74 36 = 0 → (1 ≤ (v 1) ∧ (v 1) ≤ 4) ∧ (1 ≤ (v 2) ∧ (v 2) ≤ 5) ∧ ∃ p, (0 ≤ p) ∧ ((p) ≤ (xE (zyEl zymx B s.heap) 74 42) ∧ xRD (xE (zyEl zymx B s.heap) 84) (xE (zyEl zymx B s.heap) 74 42) (p) (zyEl zymx B H)) ∧ pSz (xE (zyEl zymx B s.heap) 84) (xE (zyEl zymx B s.heap) 74 42) = .ok (p, pClr (v 1) (v 2))) ∧ (¬ xE (zyEl zymx B H) 74 36 = 0 → xEr (zyEl zymx B H) (pSz (xE (zyEl zymx B s.heap) 84) (xE (zyEl zymx B s.heap) 74 42))) := hInv
      obtain ⟨i1, i2⟩ := hI
      have hEE : (zyEl zymx B H2) = (zyEl zymx B H) := xFr_n hfr
      obtain ⟨hPW, hP1, hP2, hP3⟩ := (show xΦal x0 (zyEl zymx B s.heap) from hΦ)
      obtain ⟨j0, j0b, p, p0, ⟨hp, hs⟩, hU⟩ := i1 (by omega)
      rw [show v 1 = v2 1 by omega, show v 2 = v2 2 by omega] at hU
      refine xCa hRu hIH hAt hB hv hFr (hfcs B) (ix := 85) (ax := 3088) rfl rfl rfl hmefcs ⟨_, rfl, rfl, by decide⟩ ⟨rfl, rfl, rfl⟩ (by decide) [34359738369, 68719476737] [] [(v2 1), (v2 2)] rfl ⟨rfl, rfl⟩ (by decide +kernel) (xcs_c rfl (xcs_c rfl xcs_n)) (by decide +kernel) ?_ (fun H3 r hT3 hf3 hFr3 hr3 hΨ3 => ?_)
      · show xΦcs (xfv [(v2 1), (v2 2)]) (zyEl zymx B H2)
        exact ⟨by show 1 ≤ (v2 1) ∧ (v2 1) ≤ 4; omega, by show 1 ≤ (v2 2) ∧ (v2 2) ≤ 5; omega⟩
      · have hΨ3 : xΨcs (xfv [(v2 1), (v2 2)]) (zyEl zymx B H2) (zyEl zymx B H3) r := hΨ3
        have d74_36 : xE (zyEl zymx B H3) 74 36 = xE (zyEl zymx B H2) 74 36 := xFr_E hf3 rfl
        have d74_37 : xE (zyEl zymx B H3) 74 37 = xE (zyEl zymx B H2) 74 37 := xFr_E hf3 rfl
        have d74_38 : xE (zyEl zymx B H3) 74 38 = xE (zyEl zymx B H2) 74 38 := xFr_E hf3 rfl
        have d74_39 : xE (zyEl zymx B H3) 74 39 = xE (zyEl zymx B H2) 74 39 := xFr_E hf3 rfl
        have d74_40 : xE (zyEl zymx B H3) 74 40 = xE (zyEl zymx B H2) 74 40 := xFr_E hf3 rfl
        have d74_41 : xE (zyEl zymx B H3) 74 41 = xE (zyEl zymx B H2) 74 41 := xFr_E hf3 rfl
        have d74_42 : xE (zyEl zymx B H3) 74 42 = xE (zyEl zymx B H2) 74 42 := xFr_E hf3 rfl
        have d84 : ∀ i, xE (zyEl zymx B H3) 84 i = xE (zyEl zymx B H2) 84 i := fun i => xFr_E hf3 rfl
        have z74_36 : ((2147483648 : Nat) : Int) ≤ xE (zyEl zymx B H3) 74 36 + 2147483648 ∧ xE (zyEl zymx B H3) 74 36 + 2147483648 ≤ ((2147483657 : Nat) : Int) := xTyF hT3 74 36 36 rfl rfl rfl rfl rfl rfl
        have z74_40 : ((2147483648 : Nat) : Int) ≤ xE (zyEl zymx B H3) 74 40 + 2147483648 ∧ xE (zyEl zymx B H3) 74 40 + 2147483648 ≤ ((2147483652 : Nat) : Int) := xTyF hT3 74 40 40 rfl rfl rfl rfl rfl rfl
        skip
        refine ⟨⟨8, by decide⟩, [0, 0, 0], [0, 0, 0, xE (zyEl zymx B H3) 74 36, xE (zyEl zymx B H3) 74 40], rfl, ⟨by decide +kernel, ⟨rfl, by decide +kernel⟩, (xcs_c rfl (xcs_c rfl (xcs_c rfl xcs_n))), (xe_0 (xe_0 (xe_0 (xe_c (by omega) (by omega) rfl (xe_c (by omega) (by omega) rfl xe_n))))), (xkq_c hT3 74 36 (q := 36) rfl rfl rfl rfl rfl rfl rfl rfl rfl rfl rfl (xkq_c hT3 74 40 (q := 40) rfl rfl rfl rfl rfl rfl rfl rfl rfl rfl rfl xkq_n))⟩, (by rw [if_neg (by decide)]; exact xst_n), ?_, ?_⟩
        · show (xE (zyEl zymx B H3) 74 36 = 0 → ∃ (f : Nat) (p : Int) (U : Int → Int), ((p) ≤ (xE (zyEl zymx B s.heap) 74 42) ∧ xRD (xE (zyEl zymx B s.heap) 84) (xE (zyEl zymx B s.heap) 74 42) (p) (zyEl zymx B H3)) ∧ pAll (xE (zyEl zymx B s.heap) 84) (xE (zyEl zymx B s.heap) 74 42) = pLines (xE (zyEl zymx B s.heap) 84) (xE (zyEl zymx B s.heap) 74 42) f p U ∧ (xE (zyEl zymx B s.heap) 74 42) - p < f ∧ (xE (zyEl zymx B s.heap) 74 42) - p < xE (zyEl zymx B s.heap) 74 42 + 1 ∧ sI U ∧ (∀ k, 0 ≤ k → k < 520 → xE (zyEl zymx B H3) 75 k = U k)) ∧ (¬ xE (zyEl zymx B H3) 74 36 = 0 → xEr (zyEl zymx B H3) (pAll (xE (zyEl zymx B s.heap) 84) (xE (zyEl zymx B s.heap) 74 42)))
          refine ⟨fun hz => ⟨901, p, pClr (v2 1) (v2 2), ⟨hp, xRD_k (by rw [hEE]; exact hs) hf3 rfl rfl rfl rfl rfl⟩, ?_, by omega, by omega, ?_, hΨ3⟩, fun hz => by omega⟩
          · unfold pAll
            rw [hU]
            exact pBind_o
          · refine ⟨by show 1 ≤ (v2 1) ∧ (v2 1) ≤ 4; omega, by show 1 ≤ (v2 2) ∧ (v2 2) ≤ 5; omega, by show (0 : Int) ≤ 0 ∧ (0 : Int) ≤ 8; decide, fun b b0 b1 => ?_⟩
            have b1 : b < 0 := b1
            omega
        · show 2 * (if xE (zyEl zymx B H3) 74 36 = 0 then (2 + xE (zyEl zymx B H3) 74 42 - xE (zyEl zymx B H3) 74 38).toNat else 0) < 8993
          have hs1 := hs.1
          have hb := tFr_b (T := xE (zyEl zymx B s.heap) 84) hp
          split <;> omega
    · have hx : x ∈ [zxfra_hx0] := hx
      have hag : ∀ k, k < 5 → v2 k = v k := hag
      have hfr : xFr [] _ _ := hfr
      have ex := List.mem_singleton.mp hx
      subst ex
      obtain ⟨hF, hBd, hM⟩ := hXs
      have g3 : v2 3 = v 3 := hag 3 (by decide)
      have g4 : v2 4 = v 4 := hag 4 (by decide)
      have b0 : ((2147483648 : Nat) : Int) ≤ (v2 3) + 2147483648 ∧ (v2 3) + 2147483648 ≤ ((2147483648 : Nat) : Int) := xXb hBd 0 rfl
      have b1 : ((2147483649 : Nat) : Int) ≤ (v2 4) + 2147483648 ∧ (v2 4) + 2147483648 ≤ ((2147483652 : Nat) : Int) := xXb hBd 1 rfl
      have k0 : xE (zyEl zymx B H) 74 36 = v 3 := xKcf hKc 0 rfl rfl
      have k1 : xE (zyEl zymx B H) 74 40 = v 4 := xKcf hKc 1 rfl rfl
      have f0 : (v2 3) = 0 := xXf hF 0 rfl
      have f1 : ¬ (v2 4) = 0 := xXf hF 1 rfl
      have e74_36 : xE (zyEl zymx B H2) 74 36 = xE (zyEl zymx B H) 74 36 := xFr_E hfr rfl
      have e74_37 : xE (zyEl zymx B H2) 74 37 = xE (zyEl zymx B H) 74 37 := xFr_E hfr rfl
      have e74_38 : xE (zyEl zymx B H2) 74 38 = xE (zyEl zymx B H) 74 38 := xFr_E hfr rfl
      have e74_39 : xE (zyEl zymx B H2) 74 39 = xE (zyEl zymx B H) 74 39 := xFr_E hfr rfl
      have e74_40 : xE (zyEl zymx B H2) 74 40 = xE (zyEl zymx B H) 74 40 := xFr_E hfr rfl
      have e74_41 : xE (zyEl zymx B H2) 74 41 = xE (zyEl zymx B H) 74 41 := xFr_E hfr rfl
      have e74_42 : xE (zyEl zymx B H2) 74 42 = xE (zyEl zymx B H) 74 42 := xFr_E hfr rfl
      have q74_42 : xE (zyEl zymx B H) 74 42 = xE (zyEl zymx B s.heap) 74 42 := xFr_E hFr0 rfl
      have e75_0 : xE (zyEl zymx B H2) 75 0 = xE (zyEl zymx B H) 75 0 := xFr_E hfr rfl
      have e75_1 : xE (zyEl zymx B H2) 75 1 = xE (zyEl zymx B H) 75 1 := xFr_E hfr rfl
      have e75_2 : xE (zyEl zymx B H2) 75 2 = xE (zyEl zymx B H) 75 2 := xFr_E hfr rfl
      have e84 : ∀ i, xE (zyEl zymx B H2) 84 i = xE (zyEl zymx B H) 84 i := fun i => xFr_E hfr rfl
      have q84 : ∀ i, xE (zyEl zymx B H) 84 i = xE (zyEl zymx B s.heap) 84 i := fun i => xFr_E hFr0 rfl
      have y74_42 : ((2147483648 : Nat) : Int) ≤ xE (zyEl zymx B s.heap) 74 42 + 2147483648 ∧ xE (zyEl zymx B s.heap) 74 42 + 2147483648 ≤ ((2147484548 : Nat) : Int) := xTyF hT0 74 42 42 rfl rfl rfl rfl rfl rfl
      have hI : (xE (zyEl zymx B H) 74 36 = 0 → ∃ (f : Nat) (p : Int) (U : Int → Int), ((p) ≤ (xE (zyEl zymx B s.heap) 74 42) ∧ xRD (xE (zyEl zymx B s.heap) 84) (xE (zyEl zymx B s.heap) 74 42) (p) (zyEl zymx B H)) ∧ pAll (xE (zyEl zymx B s.heap) 84) (xE (zyEl zymx B s.heap) 74 42) = pLines (xE (zyEl zymx B s.heap) 84) (xE (zyEl zymx B s.heap) 74 42) f p U ∧ (xE (zyEl zymx B s.heap) 74 42) - p < f ∧ (xE (zyEl zymx B s.heap) 74 42) - p < xE (zyEl zymx B s.heap) 74 42 + 1 ∧ sI U ∧ (∀ k, 0 ≤ k → k < 520 → xE (zyEl zymx B H) 75 k = U k)) ∧ (¬ xE (zyEl zymx B H) 74 36 = 0 → xEr (zyEl zymx B H) (pAll (xE (zyEl zymx B s.heap) 84) (xE (zyEl zymx B s.heap) 74 42))) := hInv
      obtain ⟨i1, i2⟩ := hI
      have hEE : (zyEl zymx B H2) = (zyEl zymx B H) := xFr_n hfr
      obtain ⟨hPW, hP1, hP2, hP3⟩ := (show xΦal x0 (zyEl zymx B s.heap) from hΦ)
      obtain ⟨f, p, U, ⟨hp, hs⟩, hU, hf, hf2, hSI, hu⟩ := i1 (by omega)
      obtain ⟨s1, s1b, s2, s3, s4, s5, s6, s7, s8⟩ := xRD_i hs hp
      have hk : ¬ tKd (xE (zyEl zymx B s.heap) 84) (xE (zyEl zymx B s.heap) 74 42) p = 0 := by omega
      have s4 := s4 hk
      obtain ⟨f2, rfl⟩ : ∃ f2, f = f2 + 1 := ⟨f - 1, by omega⟩
      rw [pLines_s hk] at hU
      have h0 := hu 0 (by decide) (by decide)
      have h1 := hu 1 (by decide) (by decide)
      have h2 := hu 2 (by decide) (by decide)
      have hSI0 : sI (xE (zyEl zymx B H) 75) := by
        obtain ⟨y1, y2, y3, y4⟩ := hSI
        refine ⟨by omega, by omega, by omega, fun b b0 b1 => ?_⟩
        rw [hu _ (by omega) (by omega)]
        exact y4 b b0 (by omega)
      have hSQ : sQ (xE (zyEl zymx B H) 75) U := hu
      have hT : xE (zyEl zymx B H) 84 = xE (zyEl zymx B s.heap) 84 := funext q84
      have hn : xE (zyEl zymx B H) 74 42 = xE (zyEl zymx B s.heap) 74 42 := by omega
      refine xCa hRu hIH hAt hB hv hFr (hfli B) (ix := 488) (ax := 5232) rfl rfl rfl hmefli ⟨_, rfl, rfl, by decide⟩ ⟨rfl, rfl, rfl⟩ (by decide) [] [] [] rfl ⟨rfl, rfl⟩ (by decide +kernel) xcs_n (by decide +kernel) ?_ (fun H3 r hT3 hf3 hFr3 hr3 hΨ3 => ?_)
      · show xΦln (xfv []) (zyEl zymx B H2)
        rw [hEE]
        unfold xΦln
        rw [hT, hn]
        refine ⟨xWs_k hPW hFr0 (fun _ => rfl), by omega, ⟨by omega, ?_⟩, ?_, hSI0.1, hSI0.2.1, hSI0.2.2.1, hSI0.2.2.2⟩
        · rw [s1]
          exact xRD_f hs
        · rw [s1, tKd_f]
          exact hk
      · have hΨ3 : xΨln (xfv []) (zyEl zymx B H2) (zyEl zymx B H3) r := hΨ3
        have d74_42 : xE (zyEl zymx B H3) 74 42 = xE (zyEl zymx B H2) 74 42 := xFr_E hf3 rfl
        have d75_0 : xE (zyEl zymx B H3) 75 0 = xE (zyEl zymx B H2) 75 0 := xFr_E hf3 rfl
        have d75_1 : xE (zyEl zymx B H3) 75 1 = xE (zyEl zymx B H2) 75 1 := xFr_E hf3 rfl
        have d84 : ∀ i, xE (zyEl zymx B H3) 84 i = xE (zyEl zymx B H2) 84 i := fun i => xFr_E hf3 rfl
        have hR : xRs (xE (zyEl zymx B H2) 84) (xE (zyEl zymx B H2) 74 42) (zyEl zymx B H3) (pLine (xE (zyEl zymx B H2) 84) (xE (zyEl zymx B H2) 74 42) (xE (zyEl zymx B H2) 74 38) (xE (zyEl zymx B H2) 75)) := hΨ3
        rw [hEE, hT, hn, s1, pLine_f] at hR
        have hR := xRs_q (pLine_q hSI0 hSQ) hR
        refine ⟨⟨9, by decide⟩, [0, 0, 0], [0, 0, 0], rfl, ⟨by decide +kernel, ⟨rfl, by decide +kernel⟩, (xcs_c rfl (xcs_c rfl (xcs_c rfl xcs_n))), (xe_0 (xe_0 (xe_0 xe_n))), xkq_n⟩, (by rw [if_neg (by decide)]; exact xst_n), ?_, ?_⟩
        · show (xE (zyEl zymx B H3) 74 36 = 0 → ∃ (f : Nat) (p : Int) (U : Int → Int), ((p) ≤ (xE (zyEl zymx B s.heap) 74 42) ∧ xRD (xE (zyEl zymx B s.heap) 84) (xE (zyEl zymx B s.heap) 74 42) (p) (zyEl zymx B H3)) ∧ pAll (xE (zyEl zymx B s.heap) 84) (xE (zyEl zymx B s.heap) 74 42) = pLines (xE (zyEl zymx B s.heap) 84) (xE (zyEl zymx B s.heap) 74 42) f p U ∧ (xE (zyEl zymx B s.heap) 74 42) - p < f ∧ (xE (zyEl zymx B s.heap) 74 42) - p < xE (zyEl zymx B s.heap) 74 42 + 1 ∧ sI U ∧ (∀ k, 0 ≤ k → k < 520 → xE (zyEl zymx B H3) 75 k = U k)) ∧ (¬ xE (zyEl zymx B H3) 74 36 = 0 → xEr (zyEl zymx B H3) (pAll (xE (zyEl zymx B s.heap) 84) (xE (zyEl zymx B s.heap) 74 42)))
          refine ⟨fun hz => ?_, fun hz => ?_⟩
          · obtain ⟨q, U2, e1, e2, e3, e4⟩ := xRs_o hR hz
            have hq := pLine_p hp hk e1
            rw [e1] at hU
            exact ⟨f2, q, U2, ⟨e2, e3⟩, hU, by omega, by omega, pLine_I hSI e1, e4⟩
          · have hX := xRs_r hR hz
            rw [hX.2] at hU
            rw [hU]
            exact ⟨hX.1, rfl⟩
        · show 2 * (if xE (zyEl zymx B H3) 74 36 = 0 then (2 + xE (zyEl zymx B H3) 74 42 - xE (zyEl zymx B H3) 74 38).toNat else 0) + 1 < 2 * (if xE (zyEl zymx B H) 74 36 = 0 then (2 + xE (zyEl zymx B H) 74 42 - xE (zyEl zymx B H) 74 38).toNat else 0)
          have hwe : xE (zyEl zymx B H) 74 36 = 0 := by omega
          rw [if_pos hwe]
          by_cases hz : xE (zyEl zymx B H3) 74 36 = 0
          · obtain ⟨q, U2, e1, e2, e3, e4⟩ := xRs_o hR hz
            have hq := pLine_p2 hp hk e1
            have s1q := e3.1
            rw [if_pos hz]
            omega
          · rw [if_neg hz]
            omega
    · have hx : x ∈ [zxfra_ix0] := hx
      have hag : ∀ k, k < 3 → v2 k = v k := hag
      have hfr : xFr [] _ _ := hfr
      have ex := List.mem_singleton.mp hx
      subst ex
      obtain ⟨hF, hBd, hM⟩ := hXs
      have e74_36 : xE (zyEl zymx B H2) 74 36 = xE (zyEl zymx B H) 74 36 := xFr_E hfr rfl
      have e74_37 : xE (zyEl zymx B H2) 74 37 = xE (zyEl zymx B H) 74 37 := xFr_E hfr rfl
      have e74_38 : xE (zyEl zymx B H2) 74 38 = xE (zyEl zymx B H) 74 38 := xFr_E hfr rfl
      have e74_39 : xE (zyEl zymx B H2) 74 39 = xE (zyEl zymx B H) 74 39 := xFr_E hfr rfl
      have e74_40 : xE (zyEl zymx B H2) 74 40 = xE (zyEl zymx B H) 74 40 := xFr_E hfr rfl
      have e74_41 : xE (zyEl zymx B H2) 74 41 = xE (zyEl zymx B H) 74 41 := xFr_E hfr rfl
      have e74_42 : xE (zyEl zymx B H2) 74 42 = xE (zyEl zymx B H) 74 42 := xFr_E hfr rfl
      have q74_42 : xE (zyEl zymx B H) 74 42 = xE (zyEl zymx B s.heap) 74 42 := xFr_E hFr0 rfl
      have e75_0 : xE (zyEl zymx B H2) 75 0 = xE (zyEl zymx B H) 75 0 := xFr_E hfr rfl
      have e75_1 : xE (zyEl zymx B H2) 75 1 = xE (zyEl zymx B H) 75 1 := xFr_E hfr rfl
      have e75_2 : xE (zyEl zymx B H2) 75 2 = xE (zyEl zymx B H) 75 2 := xFr_E hfr rfl
      have e84 : ∀ i, xE (zyEl zymx B H2) 84 i = xE (zyEl zymx B H) 84 i := fun i => xFr_E hfr rfl
      have q84 : ∀ i, xE (zyEl zymx B H) 84 i = xE (zyEl zymx B s.heap) 84 i := fun i => xFr_E hFr0 rfl
      have y74_42 : ((2147483648 : Nat) : Int) ≤ xE (zyEl zymx B s.heap) 74 42 + 2147483648 ∧ xE (zyEl zymx B s.heap) 74 42 + 2147483648 ≤ ((2147484548 : Nat) : Int) := xTyF hT0 74 42 42 rfl rfl rfl rfl rfl rfl
      have hI : (xE (zyEl zymx B H) 74 36 = 0 → ∃ (f : Nat) (p : Int) (U : Int → Int), ((p) ≤ (xE (zyEl zymx B s.heap) 74 42) ∧ xRD (xE (zyEl zymx B s.heap) 84) (xE (zyEl zymx B s.heap) 74 42) (p) (zyEl zymx B H)) ∧ pAll (xE (zyEl zymx B s.heap) 84) (xE (zyEl zymx B s.heap) 74 42) = pLines (xE (zyEl zymx B s.heap) 84) (xE (zyEl zymx B s.heap) 74 42) f p U ∧ (xE (zyEl zymx B s.heap) 74 42) - p < f ∧ (xE (zyEl zymx B s.heap) 74 42) - p < xE (zyEl zymx B s.heap) 74 42 + 1 ∧ sI U ∧ (∀ k, 0 ≤ k → k < 520 → xE (zyEl zymx B H) 75 k = U k)) ∧ (¬ xE (zyEl zymx B H) 74 36 = 0 → xEr (zyEl zymx B H) (pAll (xE (zyEl zymx B s.heap) 84) (xE (zyEl zymx B s.heap) 74 42))) := hInv
      have hEE : (zyEl zymx B H2) = (zyEl zymx B H) := xFr_n hfr
      have z74_36 : ((2147483648 : Nat) : Int) ≤ xE (zyEl zymx B H2) 74 36 + 2147483648 ∧ xE (zyEl zymx B H2) 74 36 + 2147483648 ≤ ((2147483657 : Nat) : Int) := xTyF hT2 74 36 36 rfl rfl rfl rfl rfl rfl
      have z74_40 : ((2147483648 : Nat) : Int) ≤ xE (zyEl zymx B H2) 74 40 + 2147483648 ∧ xE (zyEl zymx B H2) 74 40 + 2147483648 ≤ ((2147483652 : Nat) : Int) := xTyF hT2 74 40 40 rfl rfl rfl rfl rfl rfl
      refine xGo hIH hAt hB hv hFr ⟨8, by decide⟩ [0, 0, 0] [0, 0, 0, xE (zyEl zymx B H2) 74 36, xE (zyEl zymx B H2) 74 40] rfl ⟨by decide +kernel, ⟨rfl, by decide +kernel⟩, (xcs_c rfl (xcs_c rfl (xcs_c rfl xcs_n))), (xe_0 (xe_0 (xe_0 (xe_c (by omega) (by omega) rfl (xe_c (by omega) (by omega) rfl xe_n))))), (xkq_c hT2 74 36 (q := 36) rfl rfl rfl rfl rfl rfl rfl rfl rfl rfl rfl (xkq_c hT2 74 40 (q := 40) rfl rfl rfl rfl rfl rfl rfl rfl rfl rfl rfl xkq_n))⟩ xst_n ?_ ?_
      · show (xE (zyEl zymx B H2) 74 36 = 0 → ∃ (f : Nat) (p : Int) (U : Int → Int), ((p) ≤ (xE (zyEl zymx B s.heap) 74 42) ∧ xRD (xE (zyEl zymx B s.heap) 84) (xE (zyEl zymx B s.heap) 74 42) (p) (zyEl zymx B H2)) ∧ pAll (xE (zyEl zymx B s.heap) 84) (xE (zyEl zymx B s.heap) 74 42) = pLines (xE (zyEl zymx B s.heap) 84) (xE (zyEl zymx B s.heap) 74 42) f p U ∧ (xE (zyEl zymx B s.heap) 74 42) - p < f ∧ (xE (zyEl zymx B s.heap) 74 42) - p < xE (zyEl zymx B s.heap) 74 42 + 1 ∧ sI U ∧ (∀ k, 0 ≤ k → k < 520 → xE (zyEl zymx B H2) 75 k = U k)) ∧ (¬ xE (zyEl zymx B H2) 74 36 = 0 → xEr (zyEl zymx B H2) (pAll (xE (zyEl zymx B s.heap) 84) (xE (zyEl zymx B s.heap) 74 42)))
        rw [hEE]
        exact hI
      · show 2 * (if xE (zyEl zymx B H2) 74 36 = 0 then (2 + xE (zyEl zymx B H2) 74 42 - xE (zyEl zymx B H2) 74 38).toNat else 0) < 2 * (if xE (zyEl zymx B H) 74 36 = 0 then (2 + xE (zyEl zymx B H) 74 42 - xE (zyEl zymx B H) 74 38).toNat else 0) + 1
        rw [hEE]
        omega
  · intro x0 E0 E E2 hrx hT0 hΦ i v hT hrv hInv hKc hFr0 x hx v2 hr2 hXs hag hfr hFr hT2
    rcases i with ⟨i, hi⟩
    have hi2 : i = 0 ∨ i = 1 ∨ i = 2 ∨ i = 3 ∨ i = 4 ∨ i = 5 ∨ i = 6 ∨ i = 7 ∨ i = 8 ∨ i = 9 := by omega
    rcases hi2 with rfl | rfl | rfl | rfl | rfl | rfl | rfl | rfl | rfl | rfl
    · cases hx
    · cases hx
    · cases hx
    · cases hx
    · cases hx
    · cases hx
    · cases hx
    · have hx : x ∈ [zxfra_gr0] := hx
      have hag : ∀ k, k < 4 → v2 k = v k := hag
      have hfr : xFr [] _ _ := hfr
      have ex := List.mem_singleton.mp hx
      subst ex
      obtain ⟨hF, hBd, hM⟩ := hXs
      have g1 : v2 1 = v 1 := hag 1 (by decide)
      have g2 : v2 2 = v 2 := hag 2 (by decide)
      have g3 : v2 3 = v 3 := hag 3 (by decide)
      have b0 : ((2147483649 : Nat) : Int) ≤ (v2 3) + 2147483648 ∧ (v2 3) + 2147483648 ≤ ((2147483657 : Nat) : Int) := xXb hBd 0 rfl
      have k0 : xE E 74 36 = v 3 := xKcf hKc 0 rfl rfl
      have f0 : 0 < (v2 3) := xXf hF 0 rfl
      have e74_36 : xE E2 74 36 = xE E 74 36 := xFr_E hfr rfl
      have e74_37 : xE E2 74 37 = xE E 74 37 := xFr_E hfr rfl
      have e74_38 : xE E2 74 38 = xE E 74 38 := xFr_E hfr rfl
      have e74_39 : xE E2 74 39 = xE E 74 39 := xFr_E hfr rfl
      have e74_40 : xE E2 74 40 = xE E 74 40 := xFr_E hfr rfl
      have e74_41 : xE E2 74 41 = xE E 74 41 := xFr_E hfr rfl
      have e74_42 : xE E2 74 42 = xE E 74 42 := xFr_E hfr rfl
      have q74_42 : xE E 74 42 = xE E0 74 42 := xFr_E hFr0 rfl
      have e75_0 : xE E2 75 0 = xE E 75 0 := xFr_E hfr rfl
      have e75_1 : xE E2 75 1 = xE E 75 1 := xFr_E hfr rfl
      have e75_2 : xE E2 75 2 = xE E 75 2 := xFr_E hfr rfl
      have e84 : ∀ i, xE E2 84 i = xE E 84 i := fun i => xFr_E hfr rfl
      have q84 : ∀ i, xE E 84 i = xE E0 84 i := fun i => xFr_E hFr0 rfl
      have y74_42 : ((2147483648 : Nat) : Int) ≤ xE E0 74 42 + 2147483648 ∧ xE E0 74 42 + 2147483648 ≤ ((2147484548 : Nat) : Int) := xTyF hT0 74 42 42 rfl rfl rfl rfl rfl rfl
      have hI : (xE E 74 36 = 0 → (1 ≤ (v 1) ∧ (v 1) ≤ 4) ∧ (1 ≤ (v 2) ∧ (v 2) ≤ 5) ∧ ∃ p, (0 ≤ p) ∧ ((p) ≤ (xE E0 74 42) ∧ xRD (xE E0 84) (xE E0 74 42) (p) E) ∧ pSz (xE E0 84) (xE E0 74 42) = .ok (p, pClr (v 1) (v 2))) ∧ (¬ xE E 74 36 = 0 → xEr E (pSz (xE E0 84) (xE E0 74 42))) := hInv
      show xΨal x0 E0 E2 0
      obtain ⟨i1, i2⟩ := hI
      have hEE : E2 = E := xFr_n hfr
      obtain ⟨hPW, hP1, hP2, hP3⟩ := (show xΦal x0 E0 from hΦ)
      have hX := i2 (by omega)
      unfold xΨal pAll
      have hX2 : xEr E2 (pSz (xE E0 84) (xE E0 74 42)) := xEr_k hX (by omega) (by omega)
      rw [hX2.2]
      exact xRs_e ⟨hX2.1, rfl⟩
    · have hx : x ∈ [zxfra_hr0, zxfra_hr1] := hx
      have hag : ∀ k, k < 5 → v2 k = v k := hag
      have hfr : xFr [] _ _ := hfr
      rcases List.mem_cons.mp hx with ex | hx
      · subst ex
        obtain ⟨hF, hBd, hM⟩ := hXs
        have g3 : v2 3 = v 3 := hag 3 (by decide)
        have g4 : v2 4 = v 4 := hag 4 (by decide)
        have b0 : ((2147483649 : Nat) : Int) ≤ (v2 3) + 2147483648 ∧ (v2 3) + 2147483648 ≤ ((2147483657 : Nat) : Int) := xXb hBd 0 rfl
        have k0 : xE E 74 36 = v 3 := xKcf hKc 0 rfl rfl
        have k1 : xE E 74 40 = v 4 := xKcf hKc 1 rfl rfl
        have f0 : ¬ (v2 3) = 0 := xXf hF 0 rfl
        have e74_36 : xE E2 74 36 = xE E 74 36 := xFr_E hfr rfl
        have e74_37 : xE E2 74 37 = xE E 74 37 := xFr_E hfr rfl
        have e74_38 : xE E2 74 38 = xE E 74 38 := xFr_E hfr rfl
        have e74_39 : xE E2 74 39 = xE E 74 39 := xFr_E hfr rfl
        have e74_40 : xE E2 74 40 = xE E 74 40 := xFr_E hfr rfl
        have e74_41 : xE E2 74 41 = xE E 74 41 := xFr_E hfr rfl
        have e74_42 : xE E2 74 42 = xE E 74 42 := xFr_E hfr rfl
        have q74_42 : xE E 74 42 = xE E0 74 42 := xFr_E hFr0 rfl
        have e75_0 : xE E2 75 0 = xE E 75 0 := xFr_E hfr rfl
        have e75_1 : xE E2 75 1 = xE E 75 1 := xFr_E hfr rfl
        have e75_2 : xE E2 75 2 = xE E 75 2 := xFr_E hfr rfl
        have e84 : ∀ i, xE E2 84 i = xE E 84 i := fun i => xFr_E hfr rfl
        have q84 : ∀ i, xE E 84 i = xE E0 84 i := fun i => xFr_E hFr0 rfl
        have y74_42 : ((2147483648 : Nat) : Int) ≤ xE E0 74 42 + 2147483648 ∧ xE E0 74 42 + 2147483648 ≤ ((2147484548 : Nat) : Int) := xTyF hT0 74 42 42 rfl rfl rfl rfl rfl rfl
        have hI : (xE E 74 36 = 0 → ∃ (f : Nat) (p : Int) (U : Int → Int), ((p) ≤ (xE E0 74 42) ∧ xRD (xE E0 84) (xE E0 74 42) (p) E) ∧ pAll (xE E0 84) (xE E0 74 42) = pLines (xE E0 84) (xE E0 74 42) f p U ∧ (xE E0 74 42) - p < f ∧ (xE E0 74 42) - p < xE E0 74 42 + 1 ∧ sI U ∧ (∀ k, 0 ≤ k → k < 520 → xE E 75 k = U k)) ∧ (¬ xE E 74 36 = 0 → xEr E (pAll (xE E0 84) (xE E0 74 42))) := hInv
        show xΨal x0 E0 E2 0
        obtain ⟨i1, i2⟩ := hI
        have hEE : E2 = E := xFr_n hfr
        obtain ⟨hPW, hP1, hP2, hP3⟩ := (show xΦal x0 E0 from hΦ)
        by_cases hz : xE E 74 36 = 0
        · obtain ⟨f, p, U, ⟨hp, hs⟩, hU, hf, hf2, hSI, hu⟩ := i1 hz
          obtain ⟨s1, s1b, s2, s3, s4, s5, s6, s7, s8⟩ := xRD_i hs hp
          have hk : tKd (xE E0 84) (xE E0 74 42) p = 0 := by omega
          unfold xΨal
          rw [hU, pLines_0 hk, hEE]
          exact ⟨hz, hp, hs, hu⟩
        · exact xRs_e (xEr_k (i2 hz) (by omega) (by omega))
      · skip
        have ex := List.mem_singleton.mp hx
        subst ex
        obtain ⟨hF, hBd, hM⟩ := hXs
        have g3 : v2 3 = v 3 := hag 3 (by decide)
        have g4 : v2 4 = v 4 := hag 4 (by decide)
        have b0 : ((2147483648 : Nat) : Int) ≤ (v2 3) + 2147483648 ∧ (v2 3) + 2147483648 ≤ ((2147483648 : Nat) : Int) := xXb hBd 0 rfl
        have b1 : ((2147483648 : Nat) : Int) ≤ (v2 4) + 2147483648 ∧ (v2 4) + 2147483648 ≤ ((2147483648 : Nat) : Int) := xXb hBd 1 rfl
        have k0 : xE E 74 36 = v 3 := xKcf hKc 0 rfl rfl
        have k1 : xE E 74 40 = v 4 := xKcf hKc 1 rfl rfl
        have f0 : (v2 3) = 0 := xXf hF 0 rfl
        have f1 : (v2 4) = 0 := xXf hF 1 rfl
        have e74_36 : xE E2 74 36 = xE E 74 36 := xFr_E hfr rfl
        have e74_37 : xE E2 74 37 = xE E 74 37 := xFr_E hfr rfl
        have e74_38 : xE E2 74 38 = xE E 74 38 := xFr_E hfr rfl
        have e74_39 : xE E2 74 39 = xE E 74 39 := xFr_E hfr rfl
        have e74_40 : xE E2 74 40 = xE E 74 40 := xFr_E hfr rfl
        have e74_41 : xE E2 74 41 = xE E 74 41 := xFr_E hfr rfl
        have e74_42 : xE E2 74 42 = xE E 74 42 := xFr_E hfr rfl
        have q74_42 : xE E 74 42 = xE E0 74 42 := xFr_E hFr0 rfl
        have e75_0 : xE E2 75 0 = xE E 75 0 := xFr_E hfr rfl
        have e75_1 : xE E2 75 1 = xE E 75 1 := xFr_E hfr rfl
        have e75_2 : xE E2 75 2 = xE E 75 2 := xFr_E hfr rfl
        have e84 : ∀ i, xE E2 84 i = xE E 84 i := fun i => xFr_E hfr rfl
        have q84 : ∀ i, xE E 84 i = xE E0 84 i := fun i => xFr_E hFr0 rfl
        have y74_42 : ((2147483648 : Nat) : Int) ≤ xE E0 74 42 + 2147483648 ∧ xE E0 74 42 + 2147483648 ≤ ((2147484548 : Nat) : Int) := xTyF hT0 74 42 42 rfl rfl rfl rfl rfl rfl
        have hI : (xE E 74 36 = 0 → ∃ (f : Nat) (p : Int) (U : Int → Int), ((p) ≤ (xE E0 74 42) ∧ xRD (xE E0 84) (xE E0 74 42) (p) E) ∧ pAll (xE E0 84) (xE E0 74 42) = pLines (xE E0 84) (xE E0 74 42) f p U ∧ (xE E0 74 42) - p < f ∧ (xE E0 74 42) - p < xE E0 74 42 + 1 ∧ sI U ∧ (∀ k, 0 ≤ k → k < 520 → xE E 75 k = U k)) ∧ (¬ xE E 74 36 = 0 → xEr E (pAll (xE E0 84) (xE E0 74 42))) := hInv
        show xΨal x0 E0 E2 0
        obtain ⟨i1, i2⟩ := hI
        have hEE : E2 = E := xFr_n hfr
        obtain ⟨hPW, hP1, hP2, hP3⟩ := (show xΦal x0 E0 from hΦ)
        by_cases hz : xE E 74 36 = 0
        · obtain ⟨f, p, U, ⟨hp, hs⟩, hU, hf, hf2, hSI, hu⟩ := i1 hz
          obtain ⟨s1, s1b, s2, s3, s4, s5, s6, s7, s8⟩ := xRD_i hs hp
          have hk : tKd (xE E0 84) (xE E0 74 42) p = 0 := by omega
          unfold xΨal
          rw [hU, pLines_0 hk, hEE]
          exact ⟨hz, hp, hs, hu⟩
        · exact xRs_e (xEr_k (i2 hz) (by omega) (by omega))
    · cases hx
end
