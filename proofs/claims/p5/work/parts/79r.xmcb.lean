/-! THE CLASS reads: size, a line (printed by m11.py) -/
noncomputable def zxfrl17_zx0 : zyXp := (3, [283, 147], [800011, 283], [], [], [])
noncomputable def zpfrl17_z : zyPh := (0, [283, 147], [(0, 4294967295), (0, 4294967295)], [], [])
noncomputable def zxfrl17_w0x0 : zyXp := (11, [283, 147], [147, 283], [(23, 0, 68719476737, 0)], [(68719476737, 2147483649, 2147483649)], [])
noncomputable def zxfrl17_w0x1 : zyXp := (18, [283, 147], [800019, 283], [(22, 0, 68719476737, 0)], [(68719476737, 2147483648, 2147483648)], [])
noncomputable def zpfrl17_w0 : zyPh := (6, [283, 147], [(0, 4294967295), (0, 4294967295), (2147483648, 2147483649)], [], [68719476737])
noncomputable def zxfrl17_r0r0 : zyXp := (0, [], [68719476737], [], [(68719476737, 2147483648, 2147483649)], [])
noncomputable def zpfrl17_r0 : zyPh := (14, [283, 147], [(0, 4294967295), (0, 4294967295), (2147483648, 2147483649)], [], [68719476737])
noncomputable def zxfrl17_w1x0 : zyXp := (26, [283, 147], [147, 283], [(23, 0, 68719476737, 0)], [(68719476737, 2147483649, 2147483649)], [])
noncomputable def zxfrl17_w1x1 : zyXp := (33, [283, 147], [800027, 283], [(22, 0, 68719476737, 0)], [(68719476737, 2147483648, 2147483648)], [])
noncomputable def zpfrl17_w1 : zyPh := (21, [283, 147], [(0, 4294967295), (0, 4294967295), (2147483648, 2147483649)], [], [68719476737])
noncomputable def zxfrl17_r1r0 : zyXp := (0, [], [68719476737], [], [(68719476737, 2147483648, 2147483649)], [])
noncomputable def zpfrl17_r1 : zyPh := (29, [283, 147], [(0, 4294967295), (0, 4294967295), (2147483648, 2147483649)], [], [68719476737])
noncomputable def zxfrl17_w2x0 : zyXp := (41, [283, 147], [147, 283], [(23, 0, 68719476737, 0)], [(68719476737, 2147483649, 2147483649)], [])
noncomputable def zxfrl17_w2x1 : zyXp := (48, [283, 147], [800051, 283], [(22, 0, 68719476737, 0)], [(68719476737, 2147483648, 2147483648)], [])
noncomputable def zpfrl17_w2 : zyPh := (36, [283, 147], [(0, 4294967295), (0, 4294967295), (2147483648, 2147483649)], [], [68719476737])
noncomputable def zxfrl17_r2r0 : zyXp := (0, [], [68719476737], [], [(68719476737, 2147483648, 2147483649)], [])
noncomputable def zpfrl17_r2 : zyPh := (44, [283, 147], [(0, 4294967295), (0, 4294967295), (2147483648, 2147483649)], [], [68719476737])
noncomputable def zxfrl17_w3x0 : zyXp := (56, [283, 147], [147, 283], [(23, 0, 68719476737, 0)], [(68719476737, 2147483649, 2147483649)], [])
noncomputable def zxfrl17_w3x1 : zyXp := (63, [283, 147], [800059, 283], [(22, 0, 68719476737, 0)], [(68719476737, 2147483648, 2147483648)], [])
noncomputable def zpfrl17_w3 : zyPh := (51, [283, 147], [(0, 4294967295), (0, 4294967295), (2147483648, 2147483649)], [], [68719476737])
noncomputable def zxfrl17_r3r0 : zyXp := (0, [], [68719476737], [], [(68719476737, 2147483648, 2147483649)], [])
noncomputable def zpfrl17_r3 : zyPh := (59, [283, 147], [(0, 4294967295), (0, 4294967295), (2147483648, 2147483649)], [], [68719476737])
noncomputable def zxfrl17_w4x0 : zyXp := (71, [283, 147], [147, 283], [(23, 0, 68719476737, 0)], [(68719476737, 2147483649, 2147483649)], [])
noncomputable def zxfrl17_w4x1 : zyXp := (78, [283, 147], [800067, 283], [(22, 0, 68719476737, 0)], [(68719476737, 2147483648, 2147483648)], [])
noncomputable def zpfrl17_w4 : zyPh := (66, [283, 147], [(0, 4294967295), (0, 4294967295), (2147483648, 2147483649)], [], [68719476737])
noncomputable def zxfrl17_r4r0 : zyXp := (0, [], [68719476737], [], [(68719476737, 2147483648, 2147483649)], [])
noncomputable def zpfrl17_r4 : zyPh := (74, [283, 147], [(0, 4294967295), (0, 4294967295), (2147483648, 2147483649)], [], [68719476737])
noncomputable def zxfrl17_w5x0 : zyXp := (86, [283, 147], [147, 283], [(23, 0, 68719476737, 0)], [(68719476737, 2147483649, 2147483649), (103079215105, 2147483647, 2147483654), (137438953473, 2147483647, 2147484548)], [(573442, 103079215105), (573443, 137438953473)])
noncomputable def zxfrl17_w5r0 : zyXp := (0, [], [0], [(22, 0, 68719476737, 0), (24, 171798691841, 35, 56), (23, 0, 171798691841, 8), (24, 206158430209, 35, 40)], [(68719476737, 2147483648, 2147483648), (171798691841, 2147483650, 2147483653), (206158430209, 2147483648, 2147484548)], [(573442, 16), (573443, 206158430209)])
noncomputable def zxfrl17_w5r1 : zyXp := (0, [], [0], [(22, 0, 68719476737, 0), (24, 171798691841, 35, 56), (23, 0, 171798691841, 8), (24, 206158430209, 35, 40)], [(68719476737, 2147483648, 2147483648), (171798691841, 2147483648, 2147483648), (206158430209, 2147483648, 2147484548)], [(573442, 16), (573443, 206158430209)])
noncomputable def zxfrl17_w5r2 : zyXp := (0, [], [0], [(22, 0, 68719476737, 0), (24, 171798691841, 35, 56), (22, 0, 171798691841, 8), (24, 206158430209, 35, 40)], [(68719476737, 2147483648, 2147483648), (171798691841, 2147483649, 2147483649), (206158430209, 2147483648, 2147484548)], [(573442, 8), (573443, 206158430209)])
noncomputable def zpfrl17_w5 : zyPh := (81, [283, 147], [(0, 4294967295), (0, 4294967295), (2147483648, 2147483649), (2147483647, 2147483654), (2147483647, 2147484548)], [(573442, 103079215105), (573443, 137438953473)], [68719476737])
noncomputable def zxfrl17_r5r0 : zyXp := (0, [], [68719476737], [], [(68719476737, 2147483648, 2147483649)], [])
noncomputable def zpfrl17_r5 : zyPh := (89, [283, 147], [(0, 4294967295), (0, 4294967295), (2147483648, 2147483649)], [], [68719476737])
noncomputable def zpfrl17 (i : Nat) : zyPh := zif (Nat.beq i 0) (zpfrl17_z) (zif (Nat.beq i 1) (zpfrl17_w0) (zif (Nat.beq i 2) (zpfrl17_r0) (zif (Nat.beq i 3) (zpfrl17_w1) (zif (Nat.beq i 4) (zpfrl17_r1) (zif (Nat.beq i 5) (zpfrl17_w2) (zif (Nat.beq i 6) (zpfrl17_r2) (zif (Nat.beq i 7) (zpfrl17_w3) (zif (Nat.beq i 8) (zpfrl17_r3) (zif (Nat.beq i 9) (zpfrl17_w4) (zif (Nat.beq i 10) (zpfrl17_r4) (zif (Nat.beq i 11) (zpfrl17_w5) (zpfrl17_r5))))))))))))
noncomputable def zXfrl17 (i : Nat) : List zyXp := zif (Nat.beq i 0) ([zxfrl17_zx0]) (zif (Nat.beq i 1) ([zxfrl17_w0x0, zxfrl17_w0x1]) (zif (Nat.beq i 2) ([]) (zif (Nat.beq i 3) ([zxfrl17_w1x0, zxfrl17_w1x1]) (zif (Nat.beq i 4) ([]) (zif (Nat.beq i 5) ([zxfrl17_w2x0, zxfrl17_w2x1]) (zif (Nat.beq i 6) ([]) (zif (Nat.beq i 7) ([zxfrl17_w3x0, zxfrl17_w3x1]) (zif (Nat.beq i 8) ([]) (zif (Nat.beq i 9) ([zxfrl17_w4x0, zxfrl17_w4x1]) (zif (Nat.beq i 10) ([]) (zif (Nat.beq i 11) ([zxfrl17_w5x0]) ([]))))))))))))
noncomputable def zRfrl17 (i : Nat) : List zyXp := zif (Nat.beq i 0) ([]) (zif (Nat.beq i 1) ([]) (zif (Nat.beq i 2) ([zxfrl17_r0r0]) (zif (Nat.beq i 3) ([]) (zif (Nat.beq i 4) ([zxfrl17_r1r0]) (zif (Nat.beq i 5) ([]) (zif (Nat.beq i 6) ([zxfrl17_r2r0]) (zif (Nat.beq i 7) ([]) (zif (Nat.beq i 8) ([zxfrl17_r3r0]) (zif (Nat.beq i 9) ([]) (zif (Nat.beq i 10) ([zxfrl17_r4r0]) (zif (Nat.beq i 11) ([zxfrl17_w5r0, zxfrl17_w5r1, zxfrl17_w5r2]) ([zxfrl17_r5r0]))))))))))))
noncomputable def zFfrl17 (i : Nat) : zyR := zif (Nat.beq i 0) ([]) (zif (Nat.beq i 1) ([]) (zif (Nat.beq i 2) ([]) (zif (Nat.beq i 3) ([]) (zif (Nat.beq i 4) ([]) (zif (Nat.beq i 5) ([]) (zif (Nat.beq i 6) ([]) (zif (Nat.beq i 7) ([]) (zif (Nat.beq i 8) ([]) (zif (Nat.beq i 9) ([]) (zif (Nat.beq i 10) ([]) (zif (Nat.beq i 11) ([(35, 2, 3)]) ([]))))))))))))
noncomputable def zSfrl17 (i : Nat) : Nat := zif (Nat.beq i 0) (0) (zif (Nat.beq i 1) (0) (zif (Nat.beq i 2) (0) (zif (Nat.beq i 3) (0) (zif (Nat.beq i 4) (0) (zif (Nat.beq i 5) (0) (zif (Nat.beq i 6) (0) (zif (Nat.beq i 7) (0) (zif (Nat.beq i 8) (0) (zif (Nat.beq i 9) (0) (zif (Nat.beq i 10) (0) (zif (Nat.beq i 11) (0) (0))))))))))))
theorem xOut17_r {R : pR} {E2 : zyEm} {r : Int} (h : xOut17 R E2 r) : r = 0 ∨ r = 1 := by
  unfold xOut17 at h
  split at h
  · exact Or.inr h.1
  · exact Or.inl h.1
def xΦrl17 (_ : Nat → Int) (E : zyEm) : Prop := xE E 35 6 ≤ xE E 35 4 ∧ (∃ S, xAb17 E S) ∧ ∃ p, p ≤ xE E 35 4 ∧ xAD (xE E 36) (xE E 35 4) p E
def xΨfrl17 (_ : Nat → Int) (E E2 : zyEm) (r : Int) : Prop := ∀ p S, p ≤ xE E 35 4 → xAD (xE E 36) (xE E 35 4) p E → xAb17 E S → xOut17 (pLine (xE E 36) (xE E 35 4) p S) E2 r
def xΨfrl17S (x : Nat → Int) (E E2 : zyEm) (r : Int) : Prop := xΨfrl17 x E E2 r ∧ (¬ r = 0 → (xE E2 35 2 = xE E 35 2 ∧ xE E2 35 3 = xE E 35 3))
noncomputable def fpfrl17 : zyR := [(35, 2, 3), (35, 5, 8), (18, 5, 5), (18, 8, 8), (33, 1, 1), (34, 0, 59), (27, 0, 30), (28, 0, 30), (29, 0, 30), (30, 0, 30), (31, 0, 7), (32, 0, 7)]
theorem zyfrl17_run : zyrS zymc zxi61 (61, 0, 0, 2, 0) 9 zpfrl17 (fun _ _ => []) zFfrl17 zSfrl17 zXfrl17 zRfrl17 13 = true := by decide +kernel
theorem zyfrl17_ck : zyAll (fun i => xsubR (zFfrl17 i) fpfrl17 && ((zXfrl17 i).all xckX && (zRfrl17 i).all (fun x => xckX x && xrtB true x))) 13 = true := by decide +kernel
def xIfrl17 (i : Nat) (x0 : Nat → Int) (E0 : zyEm) (v : Nat → Int) (E : zyEm) : Prop := if i = 0 then ((E = E0) ∧ (xE E 35 2 = xE E0 35 2 ∧ xE E 35 3 = xE E0 35 3)) else if i = 1 then ((E = E0 ∧ (v 2) = if sW (xE E0 36) (xE E0 35 7) (xE E0 35 5) (xE E0 35 6) [115, 119, 105, 116, 99, 104] = true then 1 else 0) ∧ (xE E 35 2 = xE E0 35 2 ∧ xE E 35 3 = xE E0 35 3)) else if i = 2 then ((E0 = E0 ∧ ∀ p S, p ≤ xE E0 35 4 → xAD (xE E0 36) (xE E0 35 4) p E0 → xAb17 E0 S → xOut17 (pLine (xE E0 36) (xE E0 35 4) p S) E (v 2)) ∧ (¬ (v 2) = 0 → (xE E 35 2 = xE E0 35 2 ∧ xE E 35 3 = xE E0 35 3))) else if i = 3 then ((E = E0 ∧ sW (xE E0 36) (xE E0 35 7) (xE E0 35 5) (xE E0 35 6) [115, 119, 105, 116, 99, 104] = false ∧ (v 2) = if sW (xE E0 36) (xE E0 35 7) (xE E0 35 5) (xE E0 35 6) [98, 111, 98, 98, 105, 110] = true then 1 else 0) ∧ (xE E 35 2 = xE E0 35 2 ∧ xE E 35 3 = xE E0 35 3)) else if i = 4 then ((E0 = E0 ∧ ∀ p S, p ≤ xE E0 35 4 → xAD (xE E0 36) (xE E0 35 4) p E0 → xAb17 E0 S → xOut17 (pLine (xE E0 36) (xE E0 35 4) p S) E (v 2)) ∧ (¬ (v 2) = 0 → (xE E 35 2 = xE E0 35 2 ∧ xE E 35 3 = xE E0 35 3))) else if i = 5 then ((E = E0 ∧ sW (xE E0 36) (xE E0 35 7) (xE E0 35 5) (xE E0 35 6) [115, 119, 105, 116, 99, 104] = false ∧ sW (xE E0 36) (xE E0 35 7) (xE E0 35 5) (xE E0 35 6) [98, 111, 98, 98, 105, 110] = false ∧ (v 2) = if sW (xE E0 36) (xE E0 35 7) (xE E0 35 5) (xE E0 35 6) [115, 116, 117, 99, 107] = true then 1 else 0) ∧ (xE E 35 2 = xE E0 35 2 ∧ xE E 35 3 = xE E0 35 3)) else if i = 6 then ((E0 = E0 ∧ ∀ p S, p ≤ xE E0 35 4 → xAD (xE E0 36) (xE E0 35 4) p E0 → xAb17 E0 S → xOut17 (pLine (xE E0 36) (xE E0 35 4) p S) E (v 2)) ∧ (¬ (v 2) = 0 → (xE E 35 2 = xE E0 35 2 ∧ xE E 35 3 = xE E0 35 3))) else if i = 7 then ((E = E0 ∧ sW (xE E0 36) (xE E0 35 7) (xE E0 35 5) (xE E0 35 6) [115, 119, 105, 116, 99, 104] = false ∧ sW (xE E0 36) (xE E0 35 7) (xE E0 35 5) (xE E0 35 6) [98, 111, 98, 98, 105, 110] = false ∧ sW (xE E0 36) (xE E0 35 7) (xE E0 35 5) (xE E0 35 6) [115, 116, 117, 99, 107] = false ∧ (v 2) = if sW (xE E0 36) (xE E0 35 7) (xE E0 35 5) (xE E0 35 6) [102, 114, 101, 101] = true then 1 else 0) ∧ (xE E 35 2 = xE E0 35 2 ∧ xE E 35 3 = xE E0 35 3)) else if i = 8 then ((E0 = E0 ∧ ∀ p S, p ≤ xE E0 35 4 → xAD (xE E0 36) (xE E0 35 4) p E0 → xAb17 E0 S → xOut17 (pLine (xE E0 36) (xE E0 35 4) p S) E (v 2)) ∧ (¬ (v 2) = 0 → (xE E 35 2 = xE E0 35 2 ∧ xE E 35 3 = xE E0 35 3))) else if i = 9 then ((E = E0 ∧ sW (xE E0 36) (xE E0 35 7) (xE E0 35 5) (xE E0 35 6) [115, 119, 105, 116, 99, 104] = false ∧ sW (xE E0 36) (xE E0 35 7) (xE E0 35 5) (xE E0 35 6) [98, 111, 98, 98, 105, 110] = false ∧ sW (xE E0 36) (xE E0 35 7) (xE E0 35 5) (xE E0 35 6) [115, 116, 117, 99, 107] = false ∧ sW (xE E0 36) (xE E0 35 7) (xE E0 35 5) (xE E0 35 6) [102, 114, 101, 101] = false ∧ (v 2) = if sW (xE E0 36) (xE E0 35 7) (xE E0 35 5) (xE E0 35 6) [112, 108, 97, 99, 101] = true then 1 else 0) ∧ (xE E 35 2 = xE E0 35 2 ∧ xE E 35 3 = xE E0 35 3)) else if i = 10 then ((E0 = E0 ∧ ∀ p S, p ≤ xE E0 35 4 → xAD (xE E0 36) (xE E0 35 4) p E0 → xAb17 E0 S → xOut17 (pLine (xE E0 36) (xE E0 35 4) p S) E (v 2)) ∧ (¬ (v 2) = 0 → (xE E 35 2 = xE E0 35 2 ∧ xE E 35 3 = xE E0 35 3))) else if i = 11 then ((E = E0 ∧ sW (xE E0 36) (xE E0 35 7) (xE E0 35 5) (xE E0 35 6) [115, 119, 105, 116, 99, 104] = false ∧ sW (xE E0 36) (xE E0 35 7) (xE E0 35 5) (xE E0 35 6) [98, 111, 98, 98, 105, 110] = false ∧ sW (xE E0 36) (xE E0 35 7) (xE E0 35 5) (xE E0 35 6) [115, 116, 117, 99, 107] = false ∧ sW (xE E0 36) (xE E0 35 7) (xE E0 35 5) (xE E0 35 6) [102, 114, 101, 101] = false ∧ sW (xE E0 36) (xE E0 35 7) (xE E0 35 5) (xE E0 35 6) [112, 108, 97, 99, 101] = false ∧ (v 2) = if sW (xE E0 36) (xE E0 35 7) (xE E0 35 5) (xE E0 35 6) [119, 111, 114, 100] = true then 1 else 0) ∧ (xE E 35 2 = xE E0 35 2 ∧ xE E 35 3 = xE E0 35 3)) else ((E0 = E0 ∧ ∀ p S, p ≤ xE E0 35 4 → xAD (xE E0 36) (xE E0 35 4) p E0 → xAb17 E0 S → xOut17 (pLine (xE E0 36) (xE E0 35 4) p S) E (v 2)) ∧ (¬ (v 2) = 0 → (xE E 35 2 = xE E0 35 2 ∧ xE E 35 3 = xE E0 35 3)))
def xMfrl17 (i : Nat) (x0 : Nat → Int) (E0 : zyEm) (v : Nat → Int) (E : zyEm) : Nat := if i = 0 then (100) else if i = 1 then (50) else if i = 2 then (1) else if i = 3 then (49) else if i = 4 then (1) else if i = 5 then (48) else if i = 6 then (1) else if i = 7 then (47) else if i = 8 then (1) else if i = 9 then (46) else if i = 10 then (1) else if i = 11 then (45) else (1)
theorem xRl17 {l : Launch} {en : zEn} {me : zMe} (hen : zG zxMeta 61 = some en) (hme : zG zMeth 61 = some me) : xFc l zymc en me 9 [35, 18] 0 fpfrl17 true xΦrl17 xΨfrl17S := by
  have een : zG zxMeta 61 = some (zxi61, 2, 2, 5, 61, 0, 0, 2, 0) := rfl
  obtain ⟨me1, hme1, hOK⟩ := zall hen
  rw [hme] at hme1
  cases hme1
  rw [een] at hen
  cases hen
  have hr := zyfrl17_run
  have hck := fun i hi => zyAll_iff zyfrl17_ck i hi
  simp only [Bool.and_eq_true] at hck
  obtain ⟨mefrs17, hmefrs17, -⟩ := zall (show zG zxMeta 62 = some (zxi62, 2, 5, 5, 62, 0, 0, 2, 0) from rfl)
  have hfrs17 := xRs17 (l := l) (show zG zxMeta 62 = some (zxi62, 2, 5, 5, 62, 0, 0, 2, 0) from rfl) hmefrs17
  obtain ⟨mefrb17, hmefrb17, -⟩ := zall (show zG zxMeta 63 = some (zxi63, 2, 2, 5, 63, 0, 0, 2, 0) from rfl)
  have hfrb17 := xRb17 (l := l) (show zG zxMeta 63 = some (zxi63, 2, 2, 5, 63, 0, 0, 2, 0) from rfl) hmefrb17
  obtain ⟨mefrk17, hmefrk17, -⟩ := zall (show zG zxMeta 64 = some (zxi64, 2, 3, 5, 64, 0, 0, 2, 0) from rfl)
  have hfrk17 := xRk17 (l := l) (show zG zxMeta 64 = some (zxi64, 2, 3, 5, 64, 0, 0, 2, 0) from rfl) hmefrk17
  obtain ⟨mefrf17, hmefrf17, -⟩ := zall (show zG zxMeta 65 = some (zxi65, 2, 2, 5, 65, 0, 0, 2, 0) from rfl)
  have hfrf17 := xRf17 (l := l) (show zG zxMeta 65 = some (zxi65, 2, 2, 5, 65, 0, 0, 2, 0) from rfl) hmefrf17
  obtain ⟨mefrp17, hmefrp17, -⟩ := zall (show zG zxMeta 66 = some (zxi66, 2, 3, 5, 66, 0, 0, 2, 0) from rfl)
  have hfrp17 := xRp17 (l := l) (show zG zxMeta 66 = some (zxi66, 2, 3, 5, 66, 0, 0, 2, 0) from rfl) hmefrp17
  obtain ⟨mefrw17, hmefrw17, -⟩ := zall (show zG zxMeta 67 = some (zxi67, 2, 4, 5, 67, 0, 0, 2, 0) from rfl)
  have hfrw17 := xRw17 (l := l) (show zG zxMeta 67 = some (zxi67, 2, 4, 5, 67, 0, 0, 2, 0) from rfl) hmefrw17
  obtain ⟨mefwsw, hmefwsw, -⟩ := zall (show zG zxMeta 72 = some (zxi72, 2, 3, 5, 72, 0, 0, 2, 0) from rfl)
  have hfwsw := xWswitch (l := l) (show zG zxMeta 72 = some (zxi72, 2, 3, 5, 72, 0, 0, 2, 0) from rfl) hmefwsw
  obtain ⟨mefwbo, hmefwbo, -⟩ := zall (show zG zxMeta 72 = some (zxi72, 2, 3, 5, 72, 0, 0, 2, 0) from rfl)
  have hfwbo := xWbobbin (l := l) (show zG zxMeta 72 = some (zxi72, 2, 3, 5, 72, 0, 0, 2, 0) from rfl) hmefwbo
  obtain ⟨mefwst, hmefwst, -⟩ := zall (show zG zxMeta 72 = some (zxi72, 2, 3, 5, 72, 0, 0, 2, 0) from rfl)
  have hfwst := xWstuck (l := l) (show zG zxMeta 72 = some (zxi72, 2, 3, 5, 72, 0, 0, 2, 0) from rfl) hmefwst
  obtain ⟨mefwfr, hmefwfr, -⟩ := zall (show zG zxMeta 72 = some (zxi72, 2, 3, 5, 72, 0, 0, 2, 0) from rfl)
  have hfwfr := xWfree (l := l) (show zG zxMeta 72 = some (zxi72, 2, 3, 5, 72, 0, 0, 2, 0) from rfl) hmefwfr
  obtain ⟨mefwpl, hmefwpl, -⟩ := zall (show zG zxMeta 72 = some (zxi72, 2, 3, 5, 72, 0, 0, 2, 0) from rfl)
  have hfwpl := xWplace (l := l) (show zG zxMeta 72 = some (zxi72, 2, 3, 5, 72, 0, 0, 2, 0) from rfl) hmefwpl
  obtain ⟨mefwwo, hmefwwo, -⟩ := zall (show zG zxMeta 72 = some (zxi72, 2, 3, 5, 72, 0, 0, 2, 0) from rfl)
  have hfwwo := xWword (l := l) (show zG zxMeta 72 = some (zxi72, 2, 3, 5, 72, 0, 0, 2, 0) from rfl) hmefwwo
  intro B
  refine xcut (mi := zymc) (B := B) hOK rfl rfl (ι := Fin 13) (fun i => zpfrl17 i.val) (fun _ _ => []) (fun i => zFfrl17 i.val) (fun i => zSfrl17 i.val) (fun i => zXfrl17 i.val) (fun i => zRfrl17 i.val) (fun i y2 ct en2 me2 h => by cases h) 200000 (fun i => zyAll_iff hr i.val i.isLt) (fun i => (hck i.val i.isLt).1) (fun i => (hck i.val i.isLt).2.1) (fun i => (hck i.val i.isLt).2.2) ⟨0, by decide⟩ ⟨rfl, rfl, rfl, rfl⟩ ⟨by decide, by decide⟩ (fun i x0 E0 v E => xIfrl17 i.val x0 E0 v E) (fun i x0 E0 v E => xMfrl17 i.val x0 E0 v E) ?_ ?_ ?_
  · intro x0 E hx0 hT hΦ
    have hΦ : xΦrl17 x0 E := hΦ
    refine ⟨fun k p hp => ?_, ?_⟩
    · have hk : k < 2 := (List.getElem?_eq_some_iff.mp hp).1
      have hk : k = 0 ∨ k = 1 := by omega
      rcases hk with rfl | rfl
      · have hp : some (0, 4294967295) = some p := hp
        cases hp
        show ((0 : Nat) : Int) ≤ 0 + 2147483648 ∧ 0 + 2147483648 ≤ ((4294967295 : Nat) : Int)
        omega
      · have hp : some (0, 4294967295) = some p := hp
        cases hp
        show ((0 : Nat) : Int) ≤ 0 + 2147483648 ∧ 0 + 2147483648 ≤ ((4294967295 : Nat) : Int)
        omega
    · show (E = E) ∧ (xE E 35 2 = xE E 35 2 ∧ xE E 35 3 = xE E 35 3)
      refine ⟨?_, ⟨rfl, rfl⟩⟩
      rfl
  · intro x0 s Wg hRu hrx hT0 hΦ i v H hT hrv hInv hKc hFr0 hIH x hx ρ2 v2 N2 H2 locs lsB stA hAt hB hv hr2 hXs hag hfr hFr hT2
    rcases i with ⟨i, hi⟩
    have hi2 : i = 0 ∨ i = 1 ∨ i = 2 ∨ i = 3 ∨ i = 4 ∨ i = 5 ∨ i = 6 ∨ i = 7 ∨ i = 8 ∨ i = 9 ∨ i = 10 ∨ i = 11 ∨ i = 12 := by omega
    rcases hi2 with rfl | rfl | rfl | rfl | rfl | rfl | rfl | rfl | rfl | rfl | rfl | rfl | rfl
    · have hx : x ∈ [zxfrl17_zx0] := hx
      have hag : ∀ k, k < 2 → v2 k = v k := hag
      have hfr : xFr [] _ _ := hfr
      have ex := List.mem_singleton.mp hx
      subst ex
      obtain ⟨hF, hBd, hM⟩ := hXs
      have e35_4 : xE (zyEl zymc B H2) 35 4 = xE (zyEl zymc B H) 35 4 := xFr_E hfr rfl
      have q35_4 : xE (zyEl zymc B H) 35 4 = xE (zyEl zymc B s.heap) 35 4 := xFr_E hFr0 rfl
      have e35_5 : xE (zyEl zymc B H2) 35 5 = xE (zyEl zymc B H) 35 5 := xFr_E hfr rfl
      have e35_6 : xE (zyEl zymc B H2) 35 6 = xE (zyEl zymc B H) 35 6 := xFr_E hfr rfl
      have e35_7 : xE (zyEl zymc B H2) 35 7 = xE (zyEl zymc B H) 35 7 := xFr_E hfr rfl
      have e35_8 : xE (zyEl zymc B H2) 35 8 = xE (zyEl zymc B H) 35 8 := xFr_E hfr rfl
      have e35_2 : xE (zyEl zymc B H2) 35 2 = xE (zyEl zymc B H) 35 2 := xFr_E hfr rfl
      have e35_3 : xE (zyEl zymc B H2) 35 3 = xE (zyEl zymc B H) 35 3 := xFr_E hfr rfl
      have e36 : ∀ i, xE (zyEl zymc B H2) 36 i = xE (zyEl zymc B H) 36 i := fun i => xFr_E hfr rfl
      have q36 : ∀ i, xE (zyEl zymc B H) 36 i = xE (zyEl zymc B s.heap) 36 i := fun i => xFr_E hFr0 rfl
      have hI : ((zyEl zymc B H) = (zyEl zymc B s.heap)) ∧ (xE (zyEl zymc B H) 35 2 = xE (zyEl zymc B s.heap) 35 2 ∧ xE (zyEl zymc B H) 35 3 = xE (zyEl zymc B s.heap) 35 3) := hInv
      obtain ⟨hI, hSm⟩ := hI
      have q35_5 : xE (zyEl zymc B H) 35 5 = xE (zyEl zymc B s.heap) 35 5 := by rw [hI]
      have q35_6 : xE (zyEl zymc B H) 35 6 = xE (zyEl zymc B s.heap) 35 6 := by rw [hI]
      have q35_7 : xE (zyEl zymc B H) 35 7 = xE (zyEl zymc B s.heap) 35 7 := by rw [hI]
      have q35_8 : xE (zyEl zymc B H) 35 8 = xE (zyEl zymc B s.heap) 35 8 := by rw [hI]
      have q35_2 : xE (zyEl zymc B H) 35 2 = xE (zyEl zymc B s.heap) 35 2 := by rw [hI]
      have q35_3 : xE (zyEl zymc B H) 35 3 = xE (zyEl zymc B s.heap) 35 3 := by rw [hI]
      have hE20 := (xFr_n hfr).trans hI
      refine xCa hRu hIH hAt hB hv hFr (hfwsw B) (ix := 48) (ax := 1152) rfl rfl rfl hmefwsw ⟨_, rfl, rfl, by decide⟩ ⟨rfl, rfl, rfl⟩ (by decide) [] [] [] rfl ⟨rfl, rfl⟩ (by decide +kernel) xcs_n (by decide +kernel) ?_ (fun H3 r hT3 hf3 hFr3 hr3 hΨ3 => ?_)
      · show xΦ0 (xfv []) (zyEl zymc B H2)
        exact trivial
      · have hΨ3 : xΨfwsw (xfv []) (zyEl zymc B H2) (zyEl zymc B H3) r := hΨ3
        have d35_4 : xE (zyEl zymc B H3) 35 4 = xE (zyEl zymc B H2) 35 4 := xFr_E hf3 rfl
        have d35_5 : xE (zyEl zymc B H3) 35 5 = xE (zyEl zymc B H2) 35 5 := xFr_E hf3 rfl
        have d35_6 : xE (zyEl zymc B H3) 35 6 = xE (zyEl zymc B H2) 35 6 := xFr_E hf3 rfl
        have d35_7 : xE (zyEl zymc B H3) 35 7 = xE (zyEl zymc B H2) 35 7 := xFr_E hf3 rfl
        have d35_8 : xE (zyEl zymc B H3) 35 8 = xE (zyEl zymc B H2) 35 8 := xFr_E hf3 rfl
        have d35_2 : xE (zyEl zymc B H3) 35 2 = xE (zyEl zymc B H2) 35 2 := xFr_E hf3 rfl
        have d35_3 : xE (zyEl zymc B H3) 35 3 = xE (zyEl zymc B H2) 35 3 := xFr_E hf3 rfl
        have d36 : ∀ i, xE (zyEl zymc B H3) 36 i = xE (zyEl zymc B H2) 36 i := fun i => xFr_E hf3 rfl
        unfold xΨfwsw at hΨ3
        have hr01 : r = 0 ∨ r = 1 := by
          rw [hΨ3]
          split <;> omega
        have hEE3 : (zyEl zymc B H3) = (zyEl zymc B s.heap) := (xFr_n hf3).trans hE20
        rw [hE20] at hΨ3
        refine ⟨⟨1, by decide⟩, [0, 0], [0, 0, r], rfl, ⟨by decide +kernel, ⟨rfl, by decide +kernel⟩, (xcs_c rfl (xcs_c rfl xcs_n)), (xe_0 (xe_0 (xe_c (by omega) (by omega) rfl xe_n))), xkq_n⟩, (by rw [if_pos rfl]; exact ⟨2, [], rfl, by decide, rfl, xst_n⟩), ?_, ?_⟩
        · show ((zyEl zymc B H3) = (zyEl zymc B s.heap) ∧ (r : Int) = if sW (xE (zyEl zymc B s.heap) 36) (xE (zyEl zymc B s.heap) 35 7) (xE (zyEl zymc B s.heap) 35 5) (xE (zyEl zymc B s.heap) 35 6) [115, 119, 105, 116, 99, 104] = true then 1 else 0) ∧ (xE (zyEl zymc B H3) 35 2 = xE (zyEl zymc B s.heap) 35 2 ∧ xE (zyEl zymc B H3) 35 3 = xE (zyEl zymc B s.heap) 35 3)
          refine ⟨?_, ?_⟩
          · skip
            exact ⟨hEE3, hΨ3⟩
          · omega
        · show 50 < 100
          omega
    · have hx : x ∈ [zxfrl17_w0x0, zxfrl17_w0x1] := hx
      have hag : ∀ k, k < 3 → v2 k = v k := hag
      have hfr : xFr [] _ _ := hfr
      rcases List.mem_cons.mp hx with ex | hx
      · subst ex
        obtain ⟨hF, hBd, hM⟩ := hXs
        have g2 : v2 2 = v 2 := hag 2 (by decide)
        have b0 : ((2147483649 : Nat) : Int) ≤ (v2 2) + 2147483648 ∧ (v2 2) + 2147483648 ≤ ((2147483649 : Nat) : Int) := xXb hBd 0 rfl
        have f0 : ¬ (v2 2) = 0 := xXf hF 0 rfl
        have e35_4 : xE (zyEl zymc B H2) 35 4 = xE (zyEl zymc B H) 35 4 := xFr_E hfr rfl
        have q35_4 : xE (zyEl zymc B H) 35 4 = xE (zyEl zymc B s.heap) 35 4 := xFr_E hFr0 rfl
        have e35_5 : xE (zyEl zymc B H2) 35 5 = xE (zyEl zymc B H) 35 5 := xFr_E hfr rfl
        have e35_6 : xE (zyEl zymc B H2) 35 6 = xE (zyEl zymc B H) 35 6 := xFr_E hfr rfl
        have e35_7 : xE (zyEl zymc B H2) 35 7 = xE (zyEl zymc B H) 35 7 := xFr_E hfr rfl
        have e35_8 : xE (zyEl zymc B H2) 35 8 = xE (zyEl zymc B H) 35 8 := xFr_E hfr rfl
        have e35_2 : xE (zyEl zymc B H2) 35 2 = xE (zyEl zymc B H) 35 2 := xFr_E hfr rfl
        have e35_3 : xE (zyEl zymc B H2) 35 3 = xE (zyEl zymc B H) 35 3 := xFr_E hfr rfl
        have e36 : ∀ i, xE (zyEl zymc B H2) 36 i = xE (zyEl zymc B H) 36 i := fun i => xFr_E hfr rfl
        have q36 : ∀ i, xE (zyEl zymc B H) 36 i = xE (zyEl zymc B s.heap) 36 i := fun i => xFr_E hFr0 rfl
        have hI : ((zyEl zymc B H) = (zyEl zymc B s.heap) ∧ (v 2) = if sW (xE (zyEl zymc B s.heap) 36) (xE (zyEl zymc B s.heap) 35 7) (xE (zyEl zymc B s.heap) 35 5) (xE (zyEl zymc B s.heap) 35 6) [115, 119, 105, 116, 99, 104] = true then 1 else 0) ∧ (xE (zyEl zymc B H) 35 2 = xE (zyEl zymc B s.heap) 35 2 ∧ xE (zyEl zymc B H) 35 3 = xE (zyEl zymc B s.heap) 35 3) := hInv
        obtain ⟨hI, hSm⟩ := hI
        have q35_5 : xE (zyEl zymc B H) 35 5 = xE (zyEl zymc B s.heap) 35 5 := by rw [hI.1]
        have q35_6 : xE (zyEl zymc B H) 35 6 = xE (zyEl zymc B s.heap) 35 6 := by rw [hI.1]
        have q35_7 : xE (zyEl zymc B H) 35 7 = xE (zyEl zymc B s.heap) 35 7 := by rw [hI.1]
        have q35_8 : xE (zyEl zymc B H) 35 8 = xE (zyEl zymc B s.heap) 35 8 := by rw [hI.1]
        have q35_2 : xE (zyEl zymc B H) 35 2 = xE (zyEl zymc B s.heap) 35 2 := by rw [hI.1]
        have q35_3 : xE (zyEl zymc B H) 35 3 = xE (zyEl zymc B s.heap) 35 3 := by rw [hI.1]
        obtain ⟨hE, i3⟩ := hI
        obtain ⟨S0, hS0⟩ := hΦ.2.1
        obtain ⟨pp, hpp, hA0⟩ := hΦ.2.2
        have y0 : sW (xE (zyEl zymc B s.heap) 36) (xE (zyEl zymc B s.heap) 35 7) (xE (zyEl zymc B s.heap) 35 5) (xE (zyEl zymc B s.heap) 35 6) [115, 119, 105, 116, 99, 104] = true := by
          by_cases h : sW (xE (zyEl zymc B s.heap) 36) (xE (zyEl zymc B s.heap) 35 7) (xE (zyEl zymc B s.heap) 35 5) (xE (zyEl zymc B s.heap) 35 6) [115, 119, 105, 116, 99, 104] = true
          · exact h
          · rw [if_neg h] at i3
            omega
        have hE20 := (xFr_n hfr).trans hE
        refine xCa hRu hIH hAt hB hv hFr (hfrs17 B) (ix := 79) (ax := 992) rfl rfl rfl hmefrs17 ⟨_, rfl, rfl, by decide⟩ ⟨rfl, rfl, rfl⟩ (by decide) [] [] [] rfl ⟨rfl, rfl⟩ (by decide +kernel) xcs_n (by decide +kernel) ?_ (fun H3 r hT3 hf3 hFr3 hr3 hΨ3 => ?_)
        · show xΦrd17 (xfv []) (zyEl zymc B H2)
          rw [hE20]
          exact ⟨hΦ.1, S0, hS0⟩
        · have hΨ3 : xΨfrs17S (xfv []) (zyEl zymc B H2) (zyEl zymc B H3) r := hΨ3
          obtain ⟨hΨ3, hS3⟩ := hΨ3
          have hΨ3 : xΨfrs17 (xfv []) (zyEl zymc B H2) (zyEl zymc B H3) r := hΨ3
          have hS3 : (¬ (r) = 0 → (xE (zyEl zymc B H3) 35 2 = xE (zyEl zymc B H2) 35 2 ∧ xE (zyEl zymc B H3) 35 3 = xE (zyEl zymc B H2) 35 3)) := hS3
          have d35_4 : xE (zyEl zymc B H3) 35 4 = xE (zyEl zymc B H2) 35 4 := xFr_E hf3 rfl
          have d36 : ∀ i, xE (zyEl zymc B H3) 36 i = xE (zyEl zymc B H2) 36 i := fun i => xFr_E hf3 rfl
          unfold xΨfrs17 at hΨ3
          rw [hE20] at hΨ3
          have hr01 : r = 0 ∨ r = 1 := xOut17_r (hΨ3 S0 hS0)
          refine ⟨⟨2, by decide⟩, [0, 0], [0, 0, r], rfl, ⟨by decide +kernel, ⟨rfl, by decide +kernel⟩, (xcs_c rfl (xcs_c rfl xcs_n)), (xe_0 (xe_0 (xe_c (by omega) (by omega) rfl xe_n))), xkq_n⟩, (by rw [if_pos rfl]; exact ⟨2, [], rfl, by decide, rfl, xst_n⟩), ?_, ?_⟩
          · show ((zyEl zymc B s.heap) = (zyEl zymc B s.heap) ∧ ∀ p S, p ≤ xE (zyEl zymc B s.heap) 35 4 → xAD (xE (zyEl zymc B s.heap) 36) (xE (zyEl zymc B s.heap) 35 4) p (zyEl zymc B s.heap) → xAb17 (zyEl zymc B s.heap) S → xOut17 (pLine (xE (zyEl zymc B s.heap) 36) (xE (zyEl zymc B s.heap) 35 4) p S) (zyEl zymc B H3) (r : Int)) ∧ (¬ (r : Int) = 0 → (xE (zyEl zymc B H3) 35 2 = xE (zyEl zymc B s.heap) 35 2 ∧ xE (zyEl zymc B H3) 35 3 = xE (zyEl zymc B s.heap) 35 3))
            refine ⟨?_, ?_⟩
            · skip
              refine ⟨rfl, fun p S hp ⟨a1, a2, a3, a4⟩ hS => ?_⟩
              have w := hΨ3 S hS
              rw [a1] at w
              rw [a1, a2, a3] at y0
              unfold pLine pBody tW
              rw [y0, if_pos rfl]
              exact w
            · omega
          · show 1 < 50
            omega
      · skip
        have ex := List.mem_singleton.mp hx
        subst ex
        obtain ⟨hF, hBd, hM⟩ := hXs
        have g2 : v2 2 = v 2 := hag 2 (by decide)
        have b0 : ((2147483648 : Nat) : Int) ≤ (v2 2) + 2147483648 ∧ (v2 2) + 2147483648 ≤ ((2147483648 : Nat) : Int) := xXb hBd 0 rfl
        have f0 : (v2 2) = 0 := xXf hF 0 rfl
        have e35_4 : xE (zyEl zymc B H2) 35 4 = xE (zyEl zymc B H) 35 4 := xFr_E hfr rfl
        have q35_4 : xE (zyEl zymc B H) 35 4 = xE (zyEl zymc B s.heap) 35 4 := xFr_E hFr0 rfl
        have e35_5 : xE (zyEl zymc B H2) 35 5 = xE (zyEl zymc B H) 35 5 := xFr_E hfr rfl
        have e35_6 : xE (zyEl zymc B H2) 35 6 = xE (zyEl zymc B H) 35 6 := xFr_E hfr rfl
        have e35_7 : xE (zyEl zymc B H2) 35 7 = xE (zyEl zymc B H) 35 7 := xFr_E hfr rfl
        have e35_8 : xE (zyEl zymc B H2) 35 8 = xE (zyEl zymc B H) 35 8 := xFr_E hfr rfl
        have e35_2 : xE (zyEl zymc B H2) 35 2 = xE (zyEl zymc B H) 35 2 := xFr_E hfr rfl
        have e35_3 : xE (zyEl zymc B H2) 35 3 = xE (zyEl zymc B H) 35 3 := xFr_E hfr rfl
        have e36 : ∀ i, xE (zyEl zymc B H2) 36 i = xE (zyEl zymc B H) 36 i := fun i => xFr_E hfr rfl
        have q36 : ∀ i, xE (zyEl zymc B H) 36 i = xE (zyEl zymc B s.heap) 36 i := fun i => xFr_E hFr0 rfl
        have hI : ((zyEl zymc B H) = (zyEl zymc B s.heap) ∧ (v 2) = if sW (xE (zyEl zymc B s.heap) 36) (xE (zyEl zymc B s.heap) 35 7) (xE (zyEl zymc B s.heap) 35 5) (xE (zyEl zymc B s.heap) 35 6) [115, 119, 105, 116, 99, 104] = true then 1 else 0) ∧ (xE (zyEl zymc B H) 35 2 = xE (zyEl zymc B s.heap) 35 2 ∧ xE (zyEl zymc B H) 35 3 = xE (zyEl zymc B s.heap) 35 3) := hInv
        obtain ⟨hI, hSm⟩ := hI
        have q35_5 : xE (zyEl zymc B H) 35 5 = xE (zyEl zymc B s.heap) 35 5 := by rw [hI.1]
        have q35_6 : xE (zyEl zymc B H) 35 6 = xE (zyEl zymc B s.heap) 35 6 := by rw [hI.1]
        have q35_7 : xE (zyEl zymc B H) 35 7 = xE (zyEl zymc B s.heap) 35 7 := by rw [hI.1]
        have q35_8 : xE (zyEl zymc B H) 35 8 = xE (zyEl zymc B s.heap) 35 8 := by rw [hI.1]
        have q35_2 : xE (zyEl zymc B H) 35 2 = xE (zyEl zymc B s.heap) 35 2 := by rw [hI.1]
        have q35_3 : xE (zyEl zymc B H) 35 3 = xE (zyEl zymc B s.heap) 35 3 := by rw [hI.1]
        obtain ⟨hE, i3⟩ := hI
        obtain ⟨S0, hS0⟩ := hΦ.2.1
        obtain ⟨pp, hpp, hA0⟩ := hΦ.2.2
        have n0 : sW (xE (zyEl zymc B s.heap) 36) (xE (zyEl zymc B s.heap) 35 7) (xE (zyEl zymc B s.heap) 35 5) (xE (zyEl zymc B s.heap) 35 6) [115, 119, 105, 116, 99, 104] = false := by
          rw [Bool.eq_false_iff]
          intro h
          rw [if_pos h] at i3
          omega
        have hE20 := (xFr_n hfr).trans hE
        refine xCa hRu hIH hAt hB hv hFr (hfwbo B) (ix := 48) (ax := 1152) rfl rfl rfl hmefwbo ⟨_, rfl, rfl, by decide⟩ ⟨rfl, rfl, rfl⟩ (by decide) [] [] [] rfl ⟨rfl, rfl⟩ (by decide +kernel) xcs_n (by decide +kernel) ?_ (fun H3 r hT3 hf3 hFr3 hr3 hΨ3 => ?_)
        · show xΦ0 (xfv []) (zyEl zymc B H2)
          exact trivial
        · have hΨ3 : xΨfwbo (xfv []) (zyEl zymc B H2) (zyEl zymc B H3) r := hΨ3
          have d35_4 : xE (zyEl zymc B H3) 35 4 = xE (zyEl zymc B H2) 35 4 := xFr_E hf3 rfl
          have d35_5 : xE (zyEl zymc B H3) 35 5 = xE (zyEl zymc B H2) 35 5 := xFr_E hf3 rfl
          have d35_6 : xE (zyEl zymc B H3) 35 6 = xE (zyEl zymc B H2) 35 6 := xFr_E hf3 rfl
          have d35_7 : xE (zyEl zymc B H3) 35 7 = xE (zyEl zymc B H2) 35 7 := xFr_E hf3 rfl
          have d35_8 : xE (zyEl zymc B H3) 35 8 = xE (zyEl zymc B H2) 35 8 := xFr_E hf3 rfl
          have d35_2 : xE (zyEl zymc B H3) 35 2 = xE (zyEl zymc B H2) 35 2 := xFr_E hf3 rfl
          have d35_3 : xE (zyEl zymc B H3) 35 3 = xE (zyEl zymc B H2) 35 3 := xFr_E hf3 rfl
          have d36 : ∀ i, xE (zyEl zymc B H3) 36 i = xE (zyEl zymc B H2) 36 i := fun i => xFr_E hf3 rfl
          unfold xΨfwbo at hΨ3
          have hr01 : r = 0 ∨ r = 1 := by
            rw [hΨ3]
            split <;> omega
          have hEE3 : (zyEl zymc B H3) = (zyEl zymc B s.heap) := (xFr_n hf3).trans hE20
          rw [hE20] at hΨ3
          refine ⟨⟨3, by decide⟩, [0, 0], [0, 0, r], rfl, ⟨by decide +kernel, ⟨rfl, by decide +kernel⟩, (xcs_c rfl (xcs_c rfl xcs_n)), (xe_0 (xe_0 (xe_c (by omega) (by omega) rfl xe_n))), xkq_n⟩, (by rw [if_pos rfl]; exact ⟨2, [], rfl, by decide, rfl, xst_n⟩), ?_, ?_⟩
          · show ((zyEl zymc B H3) = (zyEl zymc B s.heap) ∧ sW (xE (zyEl zymc B s.heap) 36) (xE (zyEl zymc B s.heap) 35 7) (xE (zyEl zymc B s.heap) 35 5) (xE (zyEl zymc B s.heap) 35 6) [115, 119, 105, 116, 99, 104] = false ∧ (r : Int) = if sW (xE (zyEl zymc B s.heap) 36) (xE (zyEl zymc B s.heap) 35 7) (xE (zyEl zymc B s.heap) 35 5) (xE (zyEl zymc B s.heap) 35 6) [98, 111, 98, 98, 105, 110] = true then 1 else 0) ∧ (xE (zyEl zymc B H3) 35 2 = xE (zyEl zymc B s.heap) 35 2 ∧ xE (zyEl zymc B H3) 35 3 = xE (zyEl zymc B s.heap) 35 3)
            refine ⟨?_, ?_⟩
            · skip
              exact ⟨hEE3, n0, hΨ3⟩
            · omega
          · show 49 < 50
            omega
    · cases hx
    · have hx : x ∈ [zxfrl17_w1x0, zxfrl17_w1x1] := hx
      have hag : ∀ k, k < 3 → v2 k = v k := hag
      have hfr : xFr [] _ _ := hfr
      rcases List.mem_cons.mp hx with ex | hx
      · subst ex
        obtain ⟨hF, hBd, hM⟩ := hXs
        have g2 : v2 2 = v 2 := hag 2 (by decide)
        have b0 : ((2147483649 : Nat) : Int) ≤ (v2 2) + 2147483648 ∧ (v2 2) + 2147483648 ≤ ((2147483649 : Nat) : Int) := xXb hBd 0 rfl
        have f0 : ¬ (v2 2) = 0 := xXf hF 0 rfl
        have e35_4 : xE (zyEl zymc B H2) 35 4 = xE (zyEl zymc B H) 35 4 := xFr_E hfr rfl
        have q35_4 : xE (zyEl zymc B H) 35 4 = xE (zyEl zymc B s.heap) 35 4 := xFr_E hFr0 rfl
        have e35_5 : xE (zyEl zymc B H2) 35 5 = xE (zyEl zymc B H) 35 5 := xFr_E hfr rfl
        have e35_6 : xE (zyEl zymc B H2) 35 6 = xE (zyEl zymc B H) 35 6 := xFr_E hfr rfl
        have e35_7 : xE (zyEl zymc B H2) 35 7 = xE (zyEl zymc B H) 35 7 := xFr_E hfr rfl
        have e35_8 : xE (zyEl zymc B H2) 35 8 = xE (zyEl zymc B H) 35 8 := xFr_E hfr rfl
        have e35_2 : xE (zyEl zymc B H2) 35 2 = xE (zyEl zymc B H) 35 2 := xFr_E hfr rfl
        have e35_3 : xE (zyEl zymc B H2) 35 3 = xE (zyEl zymc B H) 35 3 := xFr_E hfr rfl
        have e36 : ∀ i, xE (zyEl zymc B H2) 36 i = xE (zyEl zymc B H) 36 i := fun i => xFr_E hfr rfl
        have q36 : ∀ i, xE (zyEl zymc B H) 36 i = xE (zyEl zymc B s.heap) 36 i := fun i => xFr_E hFr0 rfl
        have hI : ((zyEl zymc B H) = (zyEl zymc B s.heap) ∧ sW (xE (zyEl zymc B s.heap) 36) (xE (zyEl zymc B s.heap) 35 7) (xE (zyEl zymc B s.heap) 35 5) (xE (zyEl zymc B s.heap) 35 6) [115, 119, 105, 116, 99, 104] = false ∧ (v 2) = if sW (xE (zyEl zymc B s.heap) 36) (xE (zyEl zymc B s.heap) 35 7) (xE (zyEl zymc B s.heap) 35 5) (xE (zyEl zymc B s.heap) 35 6) [98, 111, 98, 98, 105, 110] = true then 1 else 0) ∧ (xE (zyEl zymc B H) 35 2 = xE (zyEl zymc B s.heap) 35 2 ∧ xE (zyEl zymc B H) 35 3 = xE (zyEl zymc B s.heap) 35 3) := hInv
        obtain ⟨hI, hSm⟩ := hI
        have q35_5 : xE (zyEl zymc B H) 35 5 = xE (zyEl zymc B s.heap) 35 5 := by rw [hI.1]
        have q35_6 : xE (zyEl zymc B H) 35 6 = xE (zyEl zymc B s.heap) 35 6 := by rw [hI.1]
        have q35_7 : xE (zyEl zymc B H) 35 7 = xE (zyEl zymc B s.heap) 35 7 := by rw [hI.1]
        have q35_8 : xE (zyEl zymc B H) 35 8 = xE (zyEl zymc B s.heap) 35 8 := by rw [hI.1]
        have q35_2 : xE (zyEl zymc B H) 35 2 = xE (zyEl zymc B s.heap) 35 2 := by rw [hI.1]
        have q35_3 : xE (zyEl zymc B H) 35 3 = xE (zyEl zymc B s.heap) 35 3 := by rw [hI.1]
        obtain ⟨hE, n0, i3⟩ := hI
        obtain ⟨S0, hS0⟩ := hΦ.2.1
        obtain ⟨pp, hpp, hA0⟩ := hΦ.2.2
        have y1 : sW (xE (zyEl zymc B s.heap) 36) (xE (zyEl zymc B s.heap) 35 7) (xE (zyEl zymc B s.heap) 35 5) (xE (zyEl zymc B s.heap) 35 6) [98, 111, 98, 98, 105, 110] = true := by
          by_cases h : sW (xE (zyEl zymc B s.heap) 36) (xE (zyEl zymc B s.heap) 35 7) (xE (zyEl zymc B s.heap) 35 5) (xE (zyEl zymc B s.heap) 35 6) [98, 111, 98, 98, 105, 110] = true
          · exact h
          · rw [if_neg h] at i3
            omega
        have hE20 := (xFr_n hfr).trans hE
        refine xCa hRu hIH hAt hB hv hFr (hfrb17 B) (ix := 84) (ax := 1008) rfl rfl rfl hmefrb17 ⟨_, rfl, rfl, by decide⟩ ⟨rfl, rfl, rfl⟩ (by decide) [] [] [] rfl ⟨rfl, rfl⟩ (by decide +kernel) xcs_n (by decide +kernel) ?_ (fun H3 r hT3 hf3 hFr3 hr3 hΨ3 => ?_)
        · show xΦrd17 (xfv []) (zyEl zymc B H2)
          rw [hE20]
          exact ⟨hΦ.1, S0, hS0⟩
        · have hΨ3 : xΨfrb17S (xfv []) (zyEl zymc B H2) (zyEl zymc B H3) r := hΨ3
          obtain ⟨hΨ3, hS3⟩ := hΨ3
          have hΨ3 : xΨfrb17 (xfv []) (zyEl zymc B H2) (zyEl zymc B H3) r := hΨ3
          have hS3 : (¬ (r) = 0 → (xE (zyEl zymc B H3) 35 2 = xE (zyEl zymc B H2) 35 2 ∧ xE (zyEl zymc B H3) 35 3 = xE (zyEl zymc B H2) 35 3)) := hS3
          have d35_4 : xE (zyEl zymc B H3) 35 4 = xE (zyEl zymc B H2) 35 4 := xFr_E hf3 rfl
          have d36 : ∀ i, xE (zyEl zymc B H3) 36 i = xE (zyEl zymc B H2) 36 i := fun i => xFr_E hf3 rfl
          unfold xΨfrb17 at hΨ3
          rw [hE20] at hΨ3
          have hr01 : r = 0 ∨ r = 1 := xOut17_r (hΨ3 S0 pp hS0 hA0.2.1.symm)
          refine ⟨⟨4, by decide⟩, [0, 0], [0, 0, r], rfl, ⟨by decide +kernel, ⟨rfl, by decide +kernel⟩, (xcs_c rfl (xcs_c rfl xcs_n)), (xe_0 (xe_0 (xe_c (by omega) (by omega) rfl xe_n))), xkq_n⟩, (by rw [if_pos rfl]; exact ⟨2, [], rfl, by decide, rfl, xst_n⟩), ?_, ?_⟩
          · show ((zyEl zymc B s.heap) = (zyEl zymc B s.heap) ∧ ∀ p S, p ≤ xE (zyEl zymc B s.heap) 35 4 → xAD (xE (zyEl zymc B s.heap) 36) (xE (zyEl zymc B s.heap) 35 4) p (zyEl zymc B s.heap) → xAb17 (zyEl zymc B s.heap) S → xOut17 (pLine (xE (zyEl zymc B s.heap) 36) (xE (zyEl zymc B s.heap) 35 4) p S) (zyEl zymc B H3) (r : Int)) ∧ (¬ (r : Int) = 0 → (xE (zyEl zymc B H3) 35 2 = xE (zyEl zymc B s.heap) 35 2 ∧ xE (zyEl zymc B H3) 35 3 = xE (zyEl zymc B s.heap) 35 3))
            refine ⟨?_, ?_⟩
            · skip
              refine ⟨rfl, fun p S hp ⟨a1, a2, a3, a4⟩ hS => ?_⟩
              have w := hΨ3 S p hS a2.symm
              rw [a1] at w
              rw [a1, a2, a3] at n0 y1
              unfold pLine pBody tW
              rw [n0, if_neg (by decide), y1, if_pos rfl]
              exact w
            · omega
          · show 1 < 49
            omega
      · skip
        have ex := List.mem_singleton.mp hx
        subst ex
        obtain ⟨hF, hBd, hM⟩ := hXs
        have g2 : v2 2 = v 2 := hag 2 (by decide)
        have b0 : ((2147483648 : Nat) : Int) ≤ (v2 2) + 2147483648 ∧ (v2 2) + 2147483648 ≤ ((2147483648 : Nat) : Int) := xXb hBd 0 rfl
        have f0 : (v2 2) = 0 := xXf hF 0 rfl
        have e35_4 : xE (zyEl zymc B H2) 35 4 = xE (zyEl zymc B H) 35 4 := xFr_E hfr rfl
        have q35_4 : xE (zyEl zymc B H) 35 4 = xE (zyEl zymc B s.heap) 35 4 := xFr_E hFr0 rfl
        have e35_5 : xE (zyEl zymc B H2) 35 5 = xE (zyEl zymc B H) 35 5 := xFr_E hfr rfl
        have e35_6 : xE (zyEl zymc B H2) 35 6 = xE (zyEl zymc B H) 35 6 := xFr_E hfr rfl
        have e35_7 : xE (zyEl zymc B H2) 35 7 = xE (zyEl zymc B H) 35 7 := xFr_E hfr rfl
        have e35_8 : xE (zyEl zymc B H2) 35 8 = xE (zyEl zymc B H) 35 8 := xFr_E hfr rfl
        have e35_2 : xE (zyEl zymc B H2) 35 2 = xE (zyEl zymc B H) 35 2 := xFr_E hfr rfl
        have e35_3 : xE (zyEl zymc B H2) 35 3 = xE (zyEl zymc B H) 35 3 := xFr_E hfr rfl
        have e36 : ∀ i, xE (zyEl zymc B H2) 36 i = xE (zyEl zymc B H) 36 i := fun i => xFr_E hfr rfl
        have q36 : ∀ i, xE (zyEl zymc B H) 36 i = xE (zyEl zymc B s.heap) 36 i := fun i => xFr_E hFr0 rfl
        have hI : ((zyEl zymc B H) = (zyEl zymc B s.heap) ∧ sW (xE (zyEl zymc B s.heap) 36) (xE (zyEl zymc B s.heap) 35 7) (xE (zyEl zymc B s.heap) 35 5) (xE (zyEl zymc B s.heap) 35 6) [115, 119, 105, 116, 99, 104] = false ∧ (v 2) = if sW (xE (zyEl zymc B s.heap) 36) (xE (zyEl zymc B s.heap) 35 7) (xE (zyEl zymc B s.heap) 35 5) (xE (zyEl zymc B s.heap) 35 6) [98, 111, 98, 98, 105, 110] = true then 1 else 0) ∧ (xE (zyEl zymc B H) 35 2 = xE (zyEl zymc B s.heap) 35 2 ∧ xE (zyEl zymc B H) 35 3 = xE (zyEl zymc B s.heap) 35 3) := hInv
        obtain ⟨hI, hSm⟩ := hI
        have q35_5 : xE (zyEl zymc B H) 35 5 = xE (zyEl zymc B s.heap) 35 5 := by rw [hI.1]
        have q35_6 : xE (zyEl zymc B H) 35 6 = xE (zyEl zymc B s.heap) 35 6 := by rw [hI.1]
        have q35_7 : xE (zyEl zymc B H) 35 7 = xE (zyEl zymc B s.heap) 35 7 := by rw [hI.1]
        have q35_8 : xE (zyEl zymc B H) 35 8 = xE (zyEl zymc B s.heap) 35 8 := by rw [hI.1]
        have q35_2 : xE (zyEl zymc B H) 35 2 = xE (zyEl zymc B s.heap) 35 2 := by rw [hI.1]
        have q35_3 : xE (zyEl zymc B H) 35 3 = xE (zyEl zymc B s.heap) 35 3 := by rw [hI.1]
        obtain ⟨hE, n0, i3⟩ := hI
        obtain ⟨S0, hS0⟩ := hΦ.2.1
        obtain ⟨pp, hpp, hA0⟩ := hΦ.2.2
        have n1 : sW (xE (zyEl zymc B s.heap) 36) (xE (zyEl zymc B s.heap) 35 7) (xE (zyEl zymc B s.heap) 35 5) (xE (zyEl zymc B s.heap) 35 6) [98, 111, 98, 98, 105, 110] = false := by
          rw [Bool.eq_false_iff]
          intro h
          rw [if_pos h] at i3
          omega
        have hE20 := (xFr_n hfr).trans hE
        refine xCa hRu hIH hAt hB hv hFr (hfwst B) (ix := 48) (ax := 1152) rfl rfl rfl hmefwst ⟨_, rfl, rfl, by decide⟩ ⟨rfl, rfl, rfl⟩ (by decide) [] [] [] rfl ⟨rfl, rfl⟩ (by decide +kernel) xcs_n (by decide +kernel) ?_ (fun H3 r hT3 hf3 hFr3 hr3 hΨ3 => ?_)
        · show xΦ0 (xfv []) (zyEl zymc B H2)
          exact trivial
        · have hΨ3 : xΨfwst (xfv []) (zyEl zymc B H2) (zyEl zymc B H3) r := hΨ3
          have d35_4 : xE (zyEl zymc B H3) 35 4 = xE (zyEl zymc B H2) 35 4 := xFr_E hf3 rfl
          have d35_5 : xE (zyEl zymc B H3) 35 5 = xE (zyEl zymc B H2) 35 5 := xFr_E hf3 rfl
          have d35_6 : xE (zyEl zymc B H3) 35 6 = xE (zyEl zymc B H2) 35 6 := xFr_E hf3 rfl
          have d35_7 : xE (zyEl zymc B H3) 35 7 = xE (zyEl zymc B H2) 35 7 := xFr_E hf3 rfl
          have d35_8 : xE (zyEl zymc B H3) 35 8 = xE (zyEl zymc B H2) 35 8 := xFr_E hf3 rfl
          have d35_2 : xE (zyEl zymc B H3) 35 2 = xE (zyEl zymc B H2) 35 2 := xFr_E hf3 rfl
          have d35_3 : xE (zyEl zymc B H3) 35 3 = xE (zyEl zymc B H2) 35 3 := xFr_E hf3 rfl
          have d36 : ∀ i, xE (zyEl zymc B H3) 36 i = xE (zyEl zymc B H2) 36 i := fun i => xFr_E hf3 rfl
          unfold xΨfwst at hΨ3
          have hr01 : r = 0 ∨ r = 1 := by
            rw [hΨ3]
            split <;> omega
          have hEE3 : (zyEl zymc B H3) = (zyEl zymc B s.heap) := (xFr_n hf3).trans hE20
          rw [hE20] at hΨ3
          refine ⟨⟨5, by decide⟩, [0, 0], [0, 0, r], rfl, ⟨by decide +kernel, ⟨rfl, by decide +kernel⟩, (xcs_c rfl (xcs_c rfl xcs_n)), (xe_0 (xe_0 (xe_c (by omega) (by omega) rfl xe_n))), xkq_n⟩, (by rw [if_pos rfl]; exact ⟨2, [], rfl, by decide, rfl, xst_n⟩), ?_, ?_⟩
          · show ((zyEl zymc B H3) = (zyEl zymc B s.heap) ∧ sW (xE (zyEl zymc B s.heap) 36) (xE (zyEl zymc B s.heap) 35 7) (xE (zyEl zymc B s.heap) 35 5) (xE (zyEl zymc B s.heap) 35 6) [115, 119, 105, 116, 99, 104] = false ∧ sW (xE (zyEl zymc B s.heap) 36) (xE (zyEl zymc B s.heap) 35 7) (xE (zyEl zymc B s.heap) 35 5) (xE (zyEl zymc B s.heap) 35 6) [98, 111, 98, 98, 105, 110] = false ∧ (r : Int) = if sW (xE (zyEl zymc B s.heap) 36) (xE (zyEl zymc B s.heap) 35 7) (xE (zyEl zymc B s.heap) 35 5) (xE (zyEl zymc B s.heap) 35 6) [115, 116, 117, 99, 107] = true then 1 else 0) ∧ (xE (zyEl zymc B H3) 35 2 = xE (zyEl zymc B s.heap) 35 2 ∧ xE (zyEl zymc B H3) 35 3 = xE (zyEl zymc B s.heap) 35 3)
            refine ⟨?_, ?_⟩
            · skip
              exact ⟨hEE3, n0, n1, hΨ3⟩
            · omega
          · show 48 < 49
            omega
    · cases hx
    · have hx : x ∈ [zxfrl17_w2x0, zxfrl17_w2x1] := hx
      have hag : ∀ k, k < 3 → v2 k = v k := hag
      have hfr : xFr [] _ _ := hfr
      rcases List.mem_cons.mp hx with ex | hx
      · subst ex
        obtain ⟨hF, hBd, hM⟩ := hXs
        have g2 : v2 2 = v 2 := hag 2 (by decide)
        have b0 : ((2147483649 : Nat) : Int) ≤ (v2 2) + 2147483648 ∧ (v2 2) + 2147483648 ≤ ((2147483649 : Nat) : Int) := xXb hBd 0 rfl
        have f0 : ¬ (v2 2) = 0 := xXf hF 0 rfl
        have e35_4 : xE (zyEl zymc B H2) 35 4 = xE (zyEl zymc B H) 35 4 := xFr_E hfr rfl
        have q35_4 : xE (zyEl zymc B H) 35 4 = xE (zyEl zymc B s.heap) 35 4 := xFr_E hFr0 rfl
        have e35_5 : xE (zyEl zymc B H2) 35 5 = xE (zyEl zymc B H) 35 5 := xFr_E hfr rfl
        have e35_6 : xE (zyEl zymc B H2) 35 6 = xE (zyEl zymc B H) 35 6 := xFr_E hfr rfl
        have e35_7 : xE (zyEl zymc B H2) 35 7 = xE (zyEl zymc B H) 35 7 := xFr_E hfr rfl
        have e35_8 : xE (zyEl zymc B H2) 35 8 = xE (zyEl zymc B H) 35 8 := xFr_E hfr rfl
        have e35_2 : xE (zyEl zymc B H2) 35 2 = xE (zyEl zymc B H) 35 2 := xFr_E hfr rfl
        have e35_3 : xE (zyEl zymc B H2) 35 3 = xE (zyEl zymc B H) 35 3 := xFr_E hfr rfl
        have e36 : ∀ i, xE (zyEl zymc B H2) 36 i = xE (zyEl zymc B H) 36 i := fun i => xFr_E hfr rfl
        have q36 : ∀ i, xE (zyEl zymc B H) 36 i = xE (zyEl zymc B s.heap) 36 i := fun i => xFr_E hFr0 rfl
        have hI : ((zyEl zymc B H) = (zyEl zymc B s.heap) ∧ sW (xE (zyEl zymc B s.heap) 36) (xE (zyEl zymc B s.heap) 35 7) (xE (zyEl zymc B s.heap) 35 5) (xE (zyEl zymc B s.heap) 35 6) [115, 119, 105, 116, 99, 104] = false ∧ sW (xE (zyEl zymc B s.heap) 36) (xE (zyEl zymc B s.heap) 35 7) (xE (zyEl zymc B s.heap) 35 5) (xE (zyEl zymc B s.heap) 35 6) [98, 111, 98, 98, 105, 110] = false ∧ (v 2) = if sW (xE (zyEl zymc B s.heap) 36) (xE (zyEl zymc B s.heap) 35 7) (xE (zyEl zymc B s.heap) 35 5) (xE (zyEl zymc B s.heap) 35 6) [115, 116, 117, 99, 107] = true then 1 else 0) ∧ (xE (zyEl zymc B H) 35 2 = xE (zyEl zymc B s.heap) 35 2 ∧ xE (zyEl zymc B H) 35 3 = xE (zyEl zymc B s.heap) 35 3) := hInv
        obtain ⟨hI, hSm⟩ := hI
        have q35_5 : xE (zyEl zymc B H) 35 5 = xE (zyEl zymc B s.heap) 35 5 := by rw [hI.1]
        have q35_6 : xE (zyEl zymc B H) 35 6 = xE (zyEl zymc B s.heap) 35 6 := by rw [hI.1]
        have q35_7 : xE (zyEl zymc B H) 35 7 = xE (zyEl zymc B s.heap) 35 7 := by rw [hI.1]
        have q35_8 : xE (zyEl zymc B H) 35 8 = xE (zyEl zymc B s.heap) 35 8 := by rw [hI.1]
        have q35_2 : xE (zyEl zymc B H) 35 2 = xE (zyEl zymc B s.heap) 35 2 := by rw [hI.1]
        have q35_3 : xE (zyEl zymc B H) 35 3 = xE (zyEl zymc B s.heap) 35 3 := by rw [hI.1]
        obtain ⟨hE, n0, n1, i3⟩ := hI
        obtain ⟨S0, hS0⟩ := hΦ.2.1
        obtain ⟨pp, hpp, hA0⟩ := hΦ.2.2
        have y2 : sW (xE (zyEl zymc B s.heap) 36) (xE (zyEl zymc B s.heap) 35 7) (xE (zyEl zymc B s.heap) 35 5) (xE (zyEl zymc B s.heap) 35 6) [115, 116, 117, 99, 107] = true := by
          by_cases h : sW (xE (zyEl zymc B s.heap) 36) (xE (zyEl zymc B s.heap) 35 7) (xE (zyEl zymc B s.heap) 35 5) (xE (zyEl zymc B s.heap) 35 6) [115, 116, 117, 99, 107] = true
          · exact h
          · rw [if_neg h] at i3
            omega
        have hE20 := (xFr_n hfr).trans hE
        refine xCa hRu hIH hAt hB hv hFr (hfrk17 B) (ix := 89) (ax := 1024) rfl rfl rfl hmefrk17 ⟨_, rfl, rfl, by decide⟩ ⟨rfl, rfl, rfl⟩ (by decide) [] [] [] rfl ⟨rfl, rfl⟩ (by decide +kernel) xcs_n (by decide +kernel) ?_ (fun H3 r hT3 hf3 hFr3 hr3 hΨ3 => ?_)
        · show xΦrd17 (xfv []) (zyEl zymc B H2)
          rw [hE20]
          exact ⟨hΦ.1, S0, hS0⟩
        · have hΨ3 : xΨfrk17S (xfv []) (zyEl zymc B H2) (zyEl zymc B H3) r := hΨ3
          obtain ⟨hΨ3, hS3⟩ := hΨ3
          have hΨ3 : xΨfrk17 (xfv []) (zyEl zymc B H2) (zyEl zymc B H3) r := hΨ3
          have hS3 : (¬ (r) = 0 → (xE (zyEl zymc B H3) 35 2 = xE (zyEl zymc B H2) 35 2 ∧ xE (zyEl zymc B H3) 35 3 = xE (zyEl zymc B H2) 35 3)) := hS3
          have d35_4 : xE (zyEl zymc B H3) 35 4 = xE (zyEl zymc B H2) 35 4 := xFr_E hf3 rfl
          have d36 : ∀ i, xE (zyEl zymc B H3) 36 i = xE (zyEl zymc B H2) 36 i := fun i => xFr_E hf3 rfl
          unfold xΨfrk17 at hΨ3
          rw [hE20] at hΨ3
          have hr01 : r = 0 ∨ r = 1 := xOut17_r (hΨ3 S0 hS0)
          refine ⟨⟨6, by decide⟩, [0, 0], [0, 0, r], rfl, ⟨by decide +kernel, ⟨rfl, by decide +kernel⟩, (xcs_c rfl (xcs_c rfl xcs_n)), (xe_0 (xe_0 (xe_c (by omega) (by omega) rfl xe_n))), xkq_n⟩, (by rw [if_pos rfl]; exact ⟨2, [], rfl, by decide, rfl, xst_n⟩), ?_, ?_⟩
          · show ((zyEl zymc B s.heap) = (zyEl zymc B s.heap) ∧ ∀ p S, p ≤ xE (zyEl zymc B s.heap) 35 4 → xAD (xE (zyEl zymc B s.heap) 36) (xE (zyEl zymc B s.heap) 35 4) p (zyEl zymc B s.heap) → xAb17 (zyEl zymc B s.heap) S → xOut17 (pLine (xE (zyEl zymc B s.heap) 36) (xE (zyEl zymc B s.heap) 35 4) p S) (zyEl zymc B H3) (r : Int)) ∧ (¬ (r : Int) = 0 → (xE (zyEl zymc B H3) 35 2 = xE (zyEl zymc B s.heap) 35 2 ∧ xE (zyEl zymc B H3) 35 3 = xE (zyEl zymc B s.heap) 35 3))
            refine ⟨?_, ?_⟩
            · skip
              refine ⟨rfl, fun p S hp ⟨a1, a2, a3, a4⟩ hS => ?_⟩
              have w := hΨ3 S hS
              rw [a1] at w
              rw [a1, a2, a3] at n0 n1 y2
              unfold pLine pBody tW
              rw [n0, if_neg (by decide), n1, if_neg (by decide), y2, if_pos rfl]
              exact w
            · omega
          · show 1 < 48
            omega
      · skip
        have ex := List.mem_singleton.mp hx
        subst ex
        obtain ⟨hF, hBd, hM⟩ := hXs
        have g2 : v2 2 = v 2 := hag 2 (by decide)
        have b0 : ((2147483648 : Nat) : Int) ≤ (v2 2) + 2147483648 ∧ (v2 2) + 2147483648 ≤ ((2147483648 : Nat) : Int) := xXb hBd 0 rfl
        have f0 : (v2 2) = 0 := xXf hF 0 rfl
        have e35_4 : xE (zyEl zymc B H2) 35 4 = xE (zyEl zymc B H) 35 4 := xFr_E hfr rfl
        have q35_4 : xE (zyEl zymc B H) 35 4 = xE (zyEl zymc B s.heap) 35 4 := xFr_E hFr0 rfl
        have e35_5 : xE (zyEl zymc B H2) 35 5 = xE (zyEl zymc B H) 35 5 := xFr_E hfr rfl
        have e35_6 : xE (zyEl zymc B H2) 35 6 = xE (zyEl zymc B H) 35 6 := xFr_E hfr rfl
        have e35_7 : xE (zyEl zymc B H2) 35 7 = xE (zyEl zymc B H) 35 7 := xFr_E hfr rfl
        have e35_8 : xE (zyEl zymc B H2) 35 8 = xE (zyEl zymc B H) 35 8 := xFr_E hfr rfl
        have e35_2 : xE (zyEl zymc B H2) 35 2 = xE (zyEl zymc B H) 35 2 := xFr_E hfr rfl
        have e35_3 : xE (zyEl zymc B H2) 35 3 = xE (zyEl zymc B H) 35 3 := xFr_E hfr rfl
        have e36 : ∀ i, xE (zyEl zymc B H2) 36 i = xE (zyEl zymc B H) 36 i := fun i => xFr_E hfr rfl
        have q36 : ∀ i, xE (zyEl zymc B H) 36 i = xE (zyEl zymc B s.heap) 36 i := fun i => xFr_E hFr0 rfl
        have hI : ((zyEl zymc B H) = (zyEl zymc B s.heap) ∧ sW (xE (zyEl zymc B s.heap) 36) (xE (zyEl zymc B s.heap) 35 7) (xE (zyEl zymc B s.heap) 35 5) (xE (zyEl zymc B s.heap) 35 6) [115, 119, 105, 116, 99, 104] = false ∧ sW (xE (zyEl zymc B s.heap) 36) (xE (zyEl zymc B s.heap) 35 7) (xE (zyEl zymc B s.heap) 35 5) (xE (zyEl zymc B s.heap) 35 6) [98, 111, 98, 98, 105, 110] = false ∧ (v 2) = if sW (xE (zyEl zymc B s.heap) 36) (xE (zyEl zymc B s.heap) 35 7) (xE (zyEl zymc B s.heap) 35 5) (xE (zyEl zymc B s.heap) 35 6) [115, 116, 117, 99, 107] = true then 1 else 0) ∧ (xE (zyEl zymc B H) 35 2 = xE (zyEl zymc B s.heap) 35 2 ∧ xE (zyEl zymc B H) 35 3 = xE (zyEl zymc B s.heap) 35 3) := hInv
        obtain ⟨hI, hSm⟩ := hI
        have q35_5 : xE (zyEl zymc B H) 35 5 = xE (zyEl zymc B s.heap) 35 5 := by rw [hI.1]
        have q35_6 : xE (zyEl zymc B H) 35 6 = xE (zyEl zymc B s.heap) 35 6 := by rw [hI.1]
        have q35_7 : xE (zyEl zymc B H) 35 7 = xE (zyEl zymc B s.heap) 35 7 := by rw [hI.1]
        have q35_8 : xE (zyEl zymc B H) 35 8 = xE (zyEl zymc B s.heap) 35 8 := by rw [hI.1]
        have q35_2 : xE (zyEl zymc B H) 35 2 = xE (zyEl zymc B s.heap) 35 2 := by rw [hI.1]
        have q35_3 : xE (zyEl zymc B H) 35 3 = xE (zyEl zymc B s.heap) 35 3 := by rw [hI.1]
        obtain ⟨hE, n0, n1, i3⟩ := hI
        obtain ⟨S0, hS0⟩ := hΦ.2.1
        obtain ⟨pp, hpp, hA0⟩ := hΦ.2.2
        have n2 : sW (xE (zyEl zymc B s.heap) 36) (xE (zyEl zymc B s.heap) 35 7) (xE (zyEl zymc B s.heap) 35 5) (xE (zyEl zymc B s.heap) 35 6) [115, 116, 117, 99, 107] = false := by
          rw [Bool.eq_false_iff]
          intro h
          rw [if_pos h] at i3
          omega
        have hE20 := (xFr_n hfr).trans hE
        refine xCa hRu hIH hAt hB hv hFr (hfwfr B) (ix := 48) (ax := 1152) rfl rfl rfl hmefwfr ⟨_, rfl, rfl, by decide⟩ ⟨rfl, rfl, rfl⟩ (by decide) [] [] [] rfl ⟨rfl, rfl⟩ (by decide +kernel) xcs_n (by decide +kernel) ?_ (fun H3 r hT3 hf3 hFr3 hr3 hΨ3 => ?_)
        · show xΦ0 (xfv []) (zyEl zymc B H2)
          exact trivial
        · have hΨ3 : xΨfwfr (xfv []) (zyEl zymc B H2) (zyEl zymc B H3) r := hΨ3
          have d35_4 : xE (zyEl zymc B H3) 35 4 = xE (zyEl zymc B H2) 35 4 := xFr_E hf3 rfl
          have d35_5 : xE (zyEl zymc B H3) 35 5 = xE (zyEl zymc B H2) 35 5 := xFr_E hf3 rfl
          have d35_6 : xE (zyEl zymc B H3) 35 6 = xE (zyEl zymc B H2) 35 6 := xFr_E hf3 rfl
          have d35_7 : xE (zyEl zymc B H3) 35 7 = xE (zyEl zymc B H2) 35 7 := xFr_E hf3 rfl
          have d35_8 : xE (zyEl zymc B H3) 35 8 = xE (zyEl zymc B H2) 35 8 := xFr_E hf3 rfl
          have d35_2 : xE (zyEl zymc B H3) 35 2 = xE (zyEl zymc B H2) 35 2 := xFr_E hf3 rfl
          have d35_3 : xE (zyEl zymc B H3) 35 3 = xE (zyEl zymc B H2) 35 3 := xFr_E hf3 rfl
          have d36 : ∀ i, xE (zyEl zymc B H3) 36 i = xE (zyEl zymc B H2) 36 i := fun i => xFr_E hf3 rfl
          unfold xΨfwfr at hΨ3
          have hr01 : r = 0 ∨ r = 1 := by
            rw [hΨ3]
            split <;> omega
          have hEE3 : (zyEl zymc B H3) = (zyEl zymc B s.heap) := (xFr_n hf3).trans hE20
          rw [hE20] at hΨ3
          refine ⟨⟨7, by decide⟩, [0, 0], [0, 0, r], rfl, ⟨by decide +kernel, ⟨rfl, by decide +kernel⟩, (xcs_c rfl (xcs_c rfl xcs_n)), (xe_0 (xe_0 (xe_c (by omega) (by omega) rfl xe_n))), xkq_n⟩, (by rw [if_pos rfl]; exact ⟨2, [], rfl, by decide, rfl, xst_n⟩), ?_, ?_⟩
          · show ((zyEl zymc B H3) = (zyEl zymc B s.heap) ∧ sW (xE (zyEl zymc B s.heap) 36) (xE (zyEl zymc B s.heap) 35 7) (xE (zyEl zymc B s.heap) 35 5) (xE (zyEl zymc B s.heap) 35 6) [115, 119, 105, 116, 99, 104] = false ∧ sW (xE (zyEl zymc B s.heap) 36) (xE (zyEl zymc B s.heap) 35 7) (xE (zyEl zymc B s.heap) 35 5) (xE (zyEl zymc B s.heap) 35 6) [98, 111, 98, 98, 105, 110] = false ∧ sW (xE (zyEl zymc B s.heap) 36) (xE (zyEl zymc B s.heap) 35 7) (xE (zyEl zymc B s.heap) 35 5) (xE (zyEl zymc B s.heap) 35 6) [115, 116, 117, 99, 107] = false ∧ (r : Int) = if sW (xE (zyEl zymc B s.heap) 36) (xE (zyEl zymc B s.heap) 35 7) (xE (zyEl zymc B s.heap) 35 5) (xE (zyEl zymc B s.heap) 35 6) [102, 114, 101, 101] = true then 1 else 0) ∧ (xE (zyEl zymc B H3) 35 2 = xE (zyEl zymc B s.heap) 35 2 ∧ xE (zyEl zymc B H3) 35 3 = xE (zyEl zymc B s.heap) 35 3)
            refine ⟨?_, ?_⟩
            · skip
              exact ⟨hEE3, n0, n1, n2, hΨ3⟩
            · omega
          · show 47 < 48
            omega
    · cases hx
    · have hx : x ∈ [zxfrl17_w3x0, zxfrl17_w3x1] := hx
      have hag : ∀ k, k < 3 → v2 k = v k := hag
      have hfr : xFr [] _ _ := hfr
      rcases List.mem_cons.mp hx with ex | hx
      · subst ex
        obtain ⟨hF, hBd, hM⟩ := hXs
        have g2 : v2 2 = v 2 := hag 2 (by decide)
        have b0 : ((2147483649 : Nat) : Int) ≤ (v2 2) + 2147483648 ∧ (v2 2) + 2147483648 ≤ ((2147483649 : Nat) : Int) := xXb hBd 0 rfl
        have f0 : ¬ (v2 2) = 0 := xXf hF 0 rfl
        have e35_4 : xE (zyEl zymc B H2) 35 4 = xE (zyEl zymc B H) 35 4 := xFr_E hfr rfl
        have q35_4 : xE (zyEl zymc B H) 35 4 = xE (zyEl zymc B s.heap) 35 4 := xFr_E hFr0 rfl
        have e35_5 : xE (zyEl zymc B H2) 35 5 = xE (zyEl zymc B H) 35 5 := xFr_E hfr rfl
        have e35_6 : xE (zyEl zymc B H2) 35 6 = xE (zyEl zymc B H) 35 6 := xFr_E hfr rfl
        have e35_7 : xE (zyEl zymc B H2) 35 7 = xE (zyEl zymc B H) 35 7 := xFr_E hfr rfl
        have e35_8 : xE (zyEl zymc B H2) 35 8 = xE (zyEl zymc B H) 35 8 := xFr_E hfr rfl
        have e35_2 : xE (zyEl zymc B H2) 35 2 = xE (zyEl zymc B H) 35 2 := xFr_E hfr rfl
        have e35_3 : xE (zyEl zymc B H2) 35 3 = xE (zyEl zymc B H) 35 3 := xFr_E hfr rfl
        have e36 : ∀ i, xE (zyEl zymc B H2) 36 i = xE (zyEl zymc B H) 36 i := fun i => xFr_E hfr rfl
        have q36 : ∀ i, xE (zyEl zymc B H) 36 i = xE (zyEl zymc B s.heap) 36 i := fun i => xFr_E hFr0 rfl
        have hI : ((zyEl zymc B H) = (zyEl zymc B s.heap) ∧ sW (xE (zyEl zymc B s.heap) 36) (xE (zyEl zymc B s.heap) 35 7) (xE (zyEl zymc B s.heap) 35 5) (xE (zyEl zymc B s.heap) 35 6) [115, 119, 105, 116, 99, 104] = false ∧ sW (xE (zyEl zymc B s.heap) 36) (xE (zyEl zymc B s.heap) 35 7) (xE (zyEl zymc B s.heap) 35 5) (xE (zyEl zymc B s.heap) 35 6) [98, 111, 98, 98, 105, 110] = false ∧ sW (xE (zyEl zymc B s.heap) 36) (xE (zyEl zymc B s.heap) 35 7) (xE (zyEl zymc B s.heap) 35 5) (xE (zyEl zymc B s.heap) 35 6) [115, 116, 117, 99, 107] = false ∧ (v 2) = if sW (xE (zyEl zymc B s.heap) 36) (xE (zyEl zymc B s.heap) 35 7) (xE (zyEl zymc B s.heap) 35 5) (xE (zyEl zymc B s.heap) 35 6) [102, 114, 101, 101] = true then 1 else 0) ∧ (xE (zyEl zymc B H) 35 2 = xE (zyEl zymc B s.heap) 35 2 ∧ xE (zyEl zymc B H) 35 3 = xE (zyEl zymc B s.heap) 35 3) := hInv
        obtain ⟨hI, hSm⟩ := hI
        have q35_5 : xE (zyEl zymc B H) 35 5 = xE (zyEl zymc B s.heap) 35 5 := by rw [hI.1]
        have q35_6 : xE (zyEl zymc B H) 35 6 = xE (zyEl zymc B s.heap) 35 6 := by rw [hI.1]
        have q35_7 : xE (zyEl zymc B H) 35 7 = xE (zyEl zymc B s.heap) 35 7 := by rw [hI.1]
        have q35_8 : xE (zyEl zymc B H) 35 8 = xE (zyEl zymc B s.heap) 35 8 := by rw [hI.1]
        have q35_2 : xE (zyEl zymc B H) 35 2 = xE (zyEl zymc B s.heap) 35 2 := by rw [hI.1]
        have q35_3 : xE (zyEl zymc B H) 35 3 = xE (zyEl zymc B s.heap) 35 3 := by rw [hI.1]
        obtain ⟨hE, n0, n1, n2, i3⟩ := hI
        obtain ⟨S0, hS0⟩ := hΦ.2.1
        obtain ⟨pp, hpp, hA0⟩ := hΦ.2.2
        have y3 : sW (xE (zyEl zymc B s.heap) 36) (xE (zyEl zymc B s.heap) 35 7) (xE (zyEl zymc B s.heap) 35 5) (xE (zyEl zymc B s.heap) 35 6) [102, 114, 101, 101] = true := by
          by_cases h : sW (xE (zyEl zymc B s.heap) 36) (xE (zyEl zymc B s.heap) 35 7) (xE (zyEl zymc B s.heap) 35 5) (xE (zyEl zymc B s.heap) 35 6) [102, 114, 101, 101] = true
          · exact h
          · rw [if_neg h] at i3
            omega
        have hE20 := (xFr_n hfr).trans hE
        refine xCa hRu hIH hAt hB hv hFr (hfrf17 B) (ix := 94) (ax := 1040) rfl rfl rfl hmefrf17 ⟨_, rfl, rfl, by decide⟩ ⟨rfl, rfl, rfl⟩ (by decide) [] [] [] rfl ⟨rfl, rfl⟩ (by decide +kernel) xcs_n (by decide +kernel) ?_ (fun H3 r hT3 hf3 hFr3 hr3 hΨ3 => ?_)
        · show xΦrd17 (xfv []) (zyEl zymc B H2)
          rw [hE20]
          exact ⟨hΦ.1, S0, hS0⟩
        · have hΨ3 : xΨfrf17S (xfv []) (zyEl zymc B H2) (zyEl zymc B H3) r := hΨ3
          obtain ⟨hΨ3, hS3⟩ := hΨ3
          have hΨ3 : xΨfrf17 (xfv []) (zyEl zymc B H2) (zyEl zymc B H3) r := hΨ3
          have hS3 : (¬ (r) = 0 → (xE (zyEl zymc B H3) 35 2 = xE (zyEl zymc B H2) 35 2 ∧ xE (zyEl zymc B H3) 35 3 = xE (zyEl zymc B H2) 35 3)) := hS3
          have d35_4 : xE (zyEl zymc B H3) 35 4 = xE (zyEl zymc B H2) 35 4 := xFr_E hf3 rfl
          have d36 : ∀ i, xE (zyEl zymc B H3) 36 i = xE (zyEl zymc B H2) 36 i := fun i => xFr_E hf3 rfl
          unfold xΨfrf17 at hΨ3
          rw [hE20] at hΨ3
          have hr01 : r = 0 ∨ r = 1 := xOut17_r (hΨ3 S0 pp hS0 hA0.2.1.symm)
          refine ⟨⟨8, by decide⟩, [0, 0], [0, 0, r], rfl, ⟨by decide +kernel, ⟨rfl, by decide +kernel⟩, (xcs_c rfl (xcs_c rfl xcs_n)), (xe_0 (xe_0 (xe_c (by omega) (by omega) rfl xe_n))), xkq_n⟩, (by rw [if_pos rfl]; exact ⟨2, [], rfl, by decide, rfl, xst_n⟩), ?_, ?_⟩
          · show ((zyEl zymc B s.heap) = (zyEl zymc B s.heap) ∧ ∀ p S, p ≤ xE (zyEl zymc B s.heap) 35 4 → xAD (xE (zyEl zymc B s.heap) 36) (xE (zyEl zymc B s.heap) 35 4) p (zyEl zymc B s.heap) → xAb17 (zyEl zymc B s.heap) S → xOut17 (pLine (xE (zyEl zymc B s.heap) 36) (xE (zyEl zymc B s.heap) 35 4) p S) (zyEl zymc B H3) (r : Int)) ∧ (¬ (r : Int) = 0 → (xE (zyEl zymc B H3) 35 2 = xE (zyEl zymc B s.heap) 35 2 ∧ xE (zyEl zymc B H3) 35 3 = xE (zyEl zymc B s.heap) 35 3))
            refine ⟨?_, ?_⟩
            · skip
              refine ⟨rfl, fun p S hp ⟨a1, a2, a3, a4⟩ hS => ?_⟩
              have w := hΨ3 S p hS a2.symm
              rw [a1] at w
              rw [a1, a2, a3] at n0 n1 n2 y3
              unfold pLine pBody tW
              rw [n0, if_neg (by decide), n1, if_neg (by decide), n2, if_neg (by decide), y3, if_pos rfl]
              exact w
            · omega
          · show 1 < 47
            omega
      · skip
        have ex := List.mem_singleton.mp hx
        subst ex
        obtain ⟨hF, hBd, hM⟩ := hXs
        have g2 : v2 2 = v 2 := hag 2 (by decide)
        have b0 : ((2147483648 : Nat) : Int) ≤ (v2 2) + 2147483648 ∧ (v2 2) + 2147483648 ≤ ((2147483648 : Nat) : Int) := xXb hBd 0 rfl
        have f0 : (v2 2) = 0 := xXf hF 0 rfl
        have e35_4 : xE (zyEl zymc B H2) 35 4 = xE (zyEl zymc B H) 35 4 := xFr_E hfr rfl
        have q35_4 : xE (zyEl zymc B H) 35 4 = xE (zyEl zymc B s.heap) 35 4 := xFr_E hFr0 rfl
        have e35_5 : xE (zyEl zymc B H2) 35 5 = xE (zyEl zymc B H) 35 5 := xFr_E hfr rfl
        have e35_6 : xE (zyEl zymc B H2) 35 6 = xE (zyEl zymc B H) 35 6 := xFr_E hfr rfl
        have e35_7 : xE (zyEl zymc B H2) 35 7 = xE (zyEl zymc B H) 35 7 := xFr_E hfr rfl
        have e35_8 : xE (zyEl zymc B H2) 35 8 = xE (zyEl zymc B H) 35 8 := xFr_E hfr rfl
        have e35_2 : xE (zyEl zymc B H2) 35 2 = xE (zyEl zymc B H) 35 2 := xFr_E hfr rfl
        have e35_3 : xE (zyEl zymc B H2) 35 3 = xE (zyEl zymc B H) 35 3 := xFr_E hfr rfl
        have e36 : ∀ i, xE (zyEl zymc B H2) 36 i = xE (zyEl zymc B H) 36 i := fun i => xFr_E hfr rfl
        have q36 : ∀ i, xE (zyEl zymc B H) 36 i = xE (zyEl zymc B s.heap) 36 i := fun i => xFr_E hFr0 rfl
        have hI : ((zyEl zymc B H) = (zyEl zymc B s.heap) ∧ sW (xE (zyEl zymc B s.heap) 36) (xE (zyEl zymc B s.heap) 35 7) (xE (zyEl zymc B s.heap) 35 5) (xE (zyEl zymc B s.heap) 35 6) [115, 119, 105, 116, 99, 104] = false ∧ sW (xE (zyEl zymc B s.heap) 36) (xE (zyEl zymc B s.heap) 35 7) (xE (zyEl zymc B s.heap) 35 5) (xE (zyEl zymc B s.heap) 35 6) [98, 111, 98, 98, 105, 110] = false ∧ sW (xE (zyEl zymc B s.heap) 36) (xE (zyEl zymc B s.heap) 35 7) (xE (zyEl zymc B s.heap) 35 5) (xE (zyEl zymc B s.heap) 35 6) [115, 116, 117, 99, 107] = false ∧ (v 2) = if sW (xE (zyEl zymc B s.heap) 36) (xE (zyEl zymc B s.heap) 35 7) (xE (zyEl zymc B s.heap) 35 5) (xE (zyEl zymc B s.heap) 35 6) [102, 114, 101, 101] = true then 1 else 0) ∧ (xE (zyEl zymc B H) 35 2 = xE (zyEl zymc B s.heap) 35 2 ∧ xE (zyEl zymc B H) 35 3 = xE (zyEl zymc B s.heap) 35 3) := hInv
        obtain ⟨hI, hSm⟩ := hI
        have q35_5 : xE (zyEl zymc B H) 35 5 = xE (zyEl zymc B s.heap) 35 5 := by rw [hI.1]
        have q35_6 : xE (zyEl zymc B H) 35 6 = xE (zyEl zymc B s.heap) 35 6 := by rw [hI.1]
        have q35_7 : xE (zyEl zymc B H) 35 7 = xE (zyEl zymc B s.heap) 35 7 := by rw [hI.1]
        have q35_8 : xE (zyEl zymc B H) 35 8 = xE (zyEl zymc B s.heap) 35 8 := by rw [hI.1]
        have q35_2 : xE (zyEl zymc B H) 35 2 = xE (zyEl zymc B s.heap) 35 2 := by rw [hI.1]
        have q35_3 : xE (zyEl zymc B H) 35 3 = xE (zyEl zymc B s.heap) 35 3 := by rw [hI.1]
        obtain ⟨hE, n0, n1, n2, i3⟩ := hI
        obtain ⟨S0, hS0⟩ := hΦ.2.1
        obtain ⟨pp, hpp, hA0⟩ := hΦ.2.2
        have n3 : sW (xE (zyEl zymc B s.heap) 36) (xE (zyEl zymc B s.heap) 35 7) (xE (zyEl zymc B s.heap) 35 5) (xE (zyEl zymc B s.heap) 35 6) [102, 114, 101, 101] = false := by
          rw [Bool.eq_false_iff]
          intro h
          rw [if_pos h] at i3
          omega
        have hE20 := (xFr_n hfr).trans hE
        refine xCa hRu hIH hAt hB hv hFr (hfwpl B) (ix := 48) (ax := 1152) rfl rfl rfl hmefwpl ⟨_, rfl, rfl, by decide⟩ ⟨rfl, rfl, rfl⟩ (by decide) [] [] [] rfl ⟨rfl, rfl⟩ (by decide +kernel) xcs_n (by decide +kernel) ?_ (fun H3 r hT3 hf3 hFr3 hr3 hΨ3 => ?_)
        · show xΦ0 (xfv []) (zyEl zymc B H2)
          exact trivial
        · have hΨ3 : xΨfwpl (xfv []) (zyEl zymc B H2) (zyEl zymc B H3) r := hΨ3
          have d35_4 : xE (zyEl zymc B H3) 35 4 = xE (zyEl zymc B H2) 35 4 := xFr_E hf3 rfl
          have d35_5 : xE (zyEl zymc B H3) 35 5 = xE (zyEl zymc B H2) 35 5 := xFr_E hf3 rfl
          have d35_6 : xE (zyEl zymc B H3) 35 6 = xE (zyEl zymc B H2) 35 6 := xFr_E hf3 rfl
          have d35_7 : xE (zyEl zymc B H3) 35 7 = xE (zyEl zymc B H2) 35 7 := xFr_E hf3 rfl
          have d35_8 : xE (zyEl zymc B H3) 35 8 = xE (zyEl zymc B H2) 35 8 := xFr_E hf3 rfl
          have d35_2 : xE (zyEl zymc B H3) 35 2 = xE (zyEl zymc B H2) 35 2 := xFr_E hf3 rfl
          have d35_3 : xE (zyEl zymc B H3) 35 3 = xE (zyEl zymc B H2) 35 3 := xFr_E hf3 rfl
          have d36 : ∀ i, xE (zyEl zymc B H3) 36 i = xE (zyEl zymc B H2) 36 i := fun i => xFr_E hf3 rfl
          unfold xΨfwpl at hΨ3
          have hr01 : r = 0 ∨ r = 1 := by
            rw [hΨ3]
            split <;> omega
          have hEE3 : (zyEl zymc B H3) = (zyEl zymc B s.heap) := (xFr_n hf3).trans hE20
          rw [hE20] at hΨ3
          refine ⟨⟨9, by decide⟩, [0, 0], [0, 0, r], rfl, ⟨by decide +kernel, ⟨rfl, by decide +kernel⟩, (xcs_c rfl (xcs_c rfl xcs_n)), (xe_0 (xe_0 (xe_c (by omega) (by omega) rfl xe_n))), xkq_n⟩, (by rw [if_pos rfl]; exact ⟨2, [], rfl, by decide, rfl, xst_n⟩), ?_, ?_⟩
          · show ((zyEl zymc B H3) = (zyEl zymc B s.heap) ∧ sW (xE (zyEl zymc B s.heap) 36) (xE (zyEl zymc B s.heap) 35 7) (xE (zyEl zymc B s.heap) 35 5) (xE (zyEl zymc B s.heap) 35 6) [115, 119, 105, 116, 99, 104] = false ∧ sW (xE (zyEl zymc B s.heap) 36) (xE (zyEl zymc B s.heap) 35 7) (xE (zyEl zymc B s.heap) 35 5) (xE (zyEl zymc B s.heap) 35 6) [98, 111, 98, 98, 105, 110] = false ∧ sW (xE (zyEl zymc B s.heap) 36) (xE (zyEl zymc B s.heap) 35 7) (xE (zyEl zymc B s.heap) 35 5) (xE (zyEl zymc B s.heap) 35 6) [115, 116, 117, 99, 107] = false ∧ sW (xE (zyEl zymc B s.heap) 36) (xE (zyEl zymc B s.heap) 35 7) (xE (zyEl zymc B s.heap) 35 5) (xE (zyEl zymc B s.heap) 35 6) [102, 114, 101, 101] = false ∧ (r : Int) = if sW (xE (zyEl zymc B s.heap) 36) (xE (zyEl zymc B s.heap) 35 7) (xE (zyEl zymc B s.heap) 35 5) (xE (zyEl zymc B s.heap) 35 6) [112, 108, 97, 99, 101] = true then 1 else 0) ∧ (xE (zyEl zymc B H3) 35 2 = xE (zyEl zymc B s.heap) 35 2 ∧ xE (zyEl zymc B H3) 35 3 = xE (zyEl zymc B s.heap) 35 3)
            refine ⟨?_, ?_⟩
            · skip
              exact ⟨hEE3, n0, n1, n2, n3, hΨ3⟩
            · omega
          · show 46 < 47
            omega
    · cases hx
    · have hx : x ∈ [zxfrl17_w4x0, zxfrl17_w4x1] := hx
      have hag : ∀ k, k < 3 → v2 k = v k := hag
      have hfr : xFr [] _ _ := hfr
      rcases List.mem_cons.mp hx with ex | hx
      · subst ex
        obtain ⟨hF, hBd, hM⟩ := hXs
        have g2 : v2 2 = v 2 := hag 2 (by decide)
        have b0 : ((2147483649 : Nat) : Int) ≤ (v2 2) + 2147483648 ∧ (v2 2) + 2147483648 ≤ ((2147483649 : Nat) : Int) := xXb hBd 0 rfl
        have f0 : ¬ (v2 2) = 0 := xXf hF 0 rfl
        have e35_4 : xE (zyEl zymc B H2) 35 4 = xE (zyEl zymc B H) 35 4 := xFr_E hfr rfl
        have q35_4 : xE (zyEl zymc B H) 35 4 = xE (zyEl zymc B s.heap) 35 4 := xFr_E hFr0 rfl
        have e35_5 : xE (zyEl zymc B H2) 35 5 = xE (zyEl zymc B H) 35 5 := xFr_E hfr rfl
        have e35_6 : xE (zyEl zymc B H2) 35 6 = xE (zyEl zymc B H) 35 6 := xFr_E hfr rfl
        have e35_7 : xE (zyEl zymc B H2) 35 7 = xE (zyEl zymc B H) 35 7 := xFr_E hfr rfl
        have e35_8 : xE (zyEl zymc B H2) 35 8 = xE (zyEl zymc B H) 35 8 := xFr_E hfr rfl
        have e35_2 : xE (zyEl zymc B H2) 35 2 = xE (zyEl zymc B H) 35 2 := xFr_E hfr rfl
        have e35_3 : xE (zyEl zymc B H2) 35 3 = xE (zyEl zymc B H) 35 3 := xFr_E hfr rfl
        have e36 : ∀ i, xE (zyEl zymc B H2) 36 i = xE (zyEl zymc B H) 36 i := fun i => xFr_E hfr rfl
        have q36 : ∀ i, xE (zyEl zymc B H) 36 i = xE (zyEl zymc B s.heap) 36 i := fun i => xFr_E hFr0 rfl
        have hI : ((zyEl zymc B H) = (zyEl zymc B s.heap) ∧ sW (xE (zyEl zymc B s.heap) 36) (xE (zyEl zymc B s.heap) 35 7) (xE (zyEl zymc B s.heap) 35 5) (xE (zyEl zymc B s.heap) 35 6) [115, 119, 105, 116, 99, 104] = false ∧ sW (xE (zyEl zymc B s.heap) 36) (xE (zyEl zymc B s.heap) 35 7) (xE (zyEl zymc B s.heap) 35 5) (xE (zyEl zymc B s.heap) 35 6) [98, 111, 98, 98, 105, 110] = false ∧ sW (xE (zyEl zymc B s.heap) 36) (xE (zyEl zymc B s.heap) 35 7) (xE (zyEl zymc B s.heap) 35 5) (xE (zyEl zymc B s.heap) 35 6) [115, 116, 117, 99, 107] = false ∧ sW (xE (zyEl zymc B s.heap) 36) (xE (zyEl zymc B s.heap) 35 7) (xE (zyEl zymc B s.heap) 35 5) (xE (zyEl zymc B s.heap) 35 6) [102, 114, 101, 101] = false ∧ (v 2) = if sW (xE (zyEl zymc B s.heap) 36) (xE (zyEl zymc B s.heap) 35 7) (xE (zyEl zymc B s.heap) 35 5) (xE (zyEl zymc B s.heap) 35 6) [112, 108, 97, 99, 101] = true then 1 else 0) ∧ (xE (zyEl zymc B H) 35 2 = xE (zyEl zymc B s.heap) 35 2 ∧ xE (zyEl zymc B H) 35 3 = xE (zyEl zymc B s.heap) 35 3) := hInv
        obtain ⟨hI, hSm⟩ := hI
        have q35_5 : xE (zyEl zymc B H) 35 5 = xE (zyEl zymc B s.heap) 35 5 := by rw [hI.1]
        have q35_6 : xE (zyEl zymc B H) 35 6 = xE (zyEl zymc B s.heap) 35 6 := by rw [hI.1]
        have q35_7 : xE (zyEl zymc B H) 35 7 = xE (zyEl zymc B s.heap) 35 7 := by rw [hI.1]
        have q35_8 : xE (zyEl zymc B H) 35 8 = xE (zyEl zymc B s.heap) 35 8 := by rw [hI.1]
        have q35_2 : xE (zyEl zymc B H) 35 2 = xE (zyEl zymc B s.heap) 35 2 := by rw [hI.1]
        have q35_3 : xE (zyEl zymc B H) 35 3 = xE (zyEl zymc B s.heap) 35 3 := by rw [hI.1]
        obtain ⟨hE, n0, n1, n2, n3, i3⟩ := hI
        obtain ⟨S0, hS0⟩ := hΦ.2.1
        obtain ⟨pp, hpp, hA0⟩ := hΦ.2.2
        have y4 : sW (xE (zyEl zymc B s.heap) 36) (xE (zyEl zymc B s.heap) 35 7) (xE (zyEl zymc B s.heap) 35 5) (xE (zyEl zymc B s.heap) 35 6) [112, 108, 97, 99, 101] = true := by
          by_cases h : sW (xE (zyEl zymc B s.heap) 36) (xE (zyEl zymc B s.heap) 35 7) (xE (zyEl zymc B s.heap) 35 5) (xE (zyEl zymc B s.heap) 35 6) [112, 108, 97, 99, 101] = true
          · exact h
          · rw [if_neg h] at i3
            omega
        have hE20 := (xFr_n hfr).trans hE
        refine xCa hRu hIH hAt hB hv hFr (hfrp17 B) (ix := 98) (ax := 1056) rfl rfl rfl hmefrp17 ⟨_, rfl, rfl, by decide⟩ ⟨rfl, rfl, rfl⟩ (by decide) [] [] [] rfl ⟨rfl, rfl⟩ (by decide +kernel) xcs_n (by decide +kernel) ?_ (fun H3 r hT3 hf3 hFr3 hr3 hΨ3 => ?_)
        · show xΦrd17 (xfv []) (zyEl zymc B H2)
          rw [hE20]
          exact ⟨hΦ.1, S0, hS0⟩
        · have hΨ3 : xΨfrp17S (xfv []) (zyEl zymc B H2) (zyEl zymc B H3) r := hΨ3
          obtain ⟨hΨ3, hS3⟩ := hΨ3
          have hΨ3 : xΨfrp17 (xfv []) (zyEl zymc B H2) (zyEl zymc B H3) r := hΨ3
          have hS3 : (¬ (r) = 0 → (xE (zyEl zymc B H3) 35 2 = xE (zyEl zymc B H2) 35 2 ∧ xE (zyEl zymc B H3) 35 3 = xE (zyEl zymc B H2) 35 3)) := hS3
          have d35_4 : xE (zyEl zymc B H3) 35 4 = xE (zyEl zymc B H2) 35 4 := xFr_E hf3 rfl
          have d36 : ∀ i, xE (zyEl zymc B H3) 36 i = xE (zyEl zymc B H2) 36 i := fun i => xFr_E hf3 rfl
          unfold xΨfrp17 at hΨ3
          rw [hE20] at hΨ3
          have hr01 : r = 0 ∨ r = 1 := xOut17_r (hΨ3 S0 hS0)
          refine ⟨⟨10, by decide⟩, [0, 0], [0, 0, r], rfl, ⟨by decide +kernel, ⟨rfl, by decide +kernel⟩, (xcs_c rfl (xcs_c rfl xcs_n)), (xe_0 (xe_0 (xe_c (by omega) (by omega) rfl xe_n))), xkq_n⟩, (by rw [if_pos rfl]; exact ⟨2, [], rfl, by decide, rfl, xst_n⟩), ?_, ?_⟩
          · show ((zyEl zymc B s.heap) = (zyEl zymc B s.heap) ∧ ∀ p S, p ≤ xE (zyEl zymc B s.heap) 35 4 → xAD (xE (zyEl zymc B s.heap) 36) (xE (zyEl zymc B s.heap) 35 4) p (zyEl zymc B s.heap) → xAb17 (zyEl zymc B s.heap) S → xOut17 (pLine (xE (zyEl zymc B s.heap) 36) (xE (zyEl zymc B s.heap) 35 4) p S) (zyEl zymc B H3) (r : Int)) ∧ (¬ (r : Int) = 0 → (xE (zyEl zymc B H3) 35 2 = xE (zyEl zymc B s.heap) 35 2 ∧ xE (zyEl zymc B H3) 35 3 = xE (zyEl zymc B s.heap) 35 3))
            refine ⟨?_, ?_⟩
            · skip
              refine ⟨rfl, fun p S hp ⟨a1, a2, a3, a4⟩ hS => ?_⟩
              have w := hΨ3 S hS
              rw [a1] at w
              rw [a1, a2, a3] at n0 n1 n2 n3 y4
              unfold pLine pBody tW
              rw [n0, if_neg (by decide), n1, if_neg (by decide), n2, if_neg (by decide), n3, if_neg (by decide), y4, if_pos rfl]
              exact w
            · omega
          · show 1 < 46
            omega
      · skip
        have ex := List.mem_singleton.mp hx
        subst ex
        obtain ⟨hF, hBd, hM⟩ := hXs
        have g2 : v2 2 = v 2 := hag 2 (by decide)
        have b0 : ((2147483648 : Nat) : Int) ≤ (v2 2) + 2147483648 ∧ (v2 2) + 2147483648 ≤ ((2147483648 : Nat) : Int) := xXb hBd 0 rfl
        have f0 : (v2 2) = 0 := xXf hF 0 rfl
        have e35_4 : xE (zyEl zymc B H2) 35 4 = xE (zyEl zymc B H) 35 4 := xFr_E hfr rfl
        have q35_4 : xE (zyEl zymc B H) 35 4 = xE (zyEl zymc B s.heap) 35 4 := xFr_E hFr0 rfl
        have e35_5 : xE (zyEl zymc B H2) 35 5 = xE (zyEl zymc B H) 35 5 := xFr_E hfr rfl
        have e35_6 : xE (zyEl zymc B H2) 35 6 = xE (zyEl zymc B H) 35 6 := xFr_E hfr rfl
        have e35_7 : xE (zyEl zymc B H2) 35 7 = xE (zyEl zymc B H) 35 7 := xFr_E hfr rfl
        have e35_8 : xE (zyEl zymc B H2) 35 8 = xE (zyEl zymc B H) 35 8 := xFr_E hfr rfl
        have e35_2 : xE (zyEl zymc B H2) 35 2 = xE (zyEl zymc B H) 35 2 := xFr_E hfr rfl
        have e35_3 : xE (zyEl zymc B H2) 35 3 = xE (zyEl zymc B H) 35 3 := xFr_E hfr rfl
        have e36 : ∀ i, xE (zyEl zymc B H2) 36 i = xE (zyEl zymc B H) 36 i := fun i => xFr_E hfr rfl
        have q36 : ∀ i, xE (zyEl zymc B H) 36 i = xE (zyEl zymc B s.heap) 36 i := fun i => xFr_E hFr0 rfl
        have hI : ((zyEl zymc B H) = (zyEl zymc B s.heap) ∧ sW (xE (zyEl zymc B s.heap) 36) (xE (zyEl zymc B s.heap) 35 7) (xE (zyEl zymc B s.heap) 35 5) (xE (zyEl zymc B s.heap) 35 6) [115, 119, 105, 116, 99, 104] = false ∧ sW (xE (zyEl zymc B s.heap) 36) (xE (zyEl zymc B s.heap) 35 7) (xE (zyEl zymc B s.heap) 35 5) (xE (zyEl zymc B s.heap) 35 6) [98, 111, 98, 98, 105, 110] = false ∧ sW (xE (zyEl zymc B s.heap) 36) (xE (zyEl zymc B s.heap) 35 7) (xE (zyEl zymc B s.heap) 35 5) (xE (zyEl zymc B s.heap) 35 6) [115, 116, 117, 99, 107] = false ∧ sW (xE (zyEl zymc B s.heap) 36) (xE (zyEl zymc B s.heap) 35 7) (xE (zyEl zymc B s.heap) 35 5) (xE (zyEl zymc B s.heap) 35 6) [102, 114, 101, 101] = false ∧ (v 2) = if sW (xE (zyEl zymc B s.heap) 36) (xE (zyEl zymc B s.heap) 35 7) (xE (zyEl zymc B s.heap) 35 5) (xE (zyEl zymc B s.heap) 35 6) [112, 108, 97, 99, 101] = true then 1 else 0) ∧ (xE (zyEl zymc B H) 35 2 = xE (zyEl zymc B s.heap) 35 2 ∧ xE (zyEl zymc B H) 35 3 = xE (zyEl zymc B s.heap) 35 3) := hInv
        obtain ⟨hI, hSm⟩ := hI
        have q35_5 : xE (zyEl zymc B H) 35 5 = xE (zyEl zymc B s.heap) 35 5 := by rw [hI.1]
        have q35_6 : xE (zyEl zymc B H) 35 6 = xE (zyEl zymc B s.heap) 35 6 := by rw [hI.1]
        have q35_7 : xE (zyEl zymc B H) 35 7 = xE (zyEl zymc B s.heap) 35 7 := by rw [hI.1]
        have q35_8 : xE (zyEl zymc B H) 35 8 = xE (zyEl zymc B s.heap) 35 8 := by rw [hI.1]
        have q35_2 : xE (zyEl zymc B H) 35 2 = xE (zyEl zymc B s.heap) 35 2 := by rw [hI.1]
        have q35_3 : xE (zyEl zymc B H) 35 3 = xE (zyEl zymc B s.heap) 35 3 := by rw [hI.1]
        obtain ⟨hE, n0, n1, n2, n3, i3⟩ := hI
        obtain ⟨S0, hS0⟩ := hΦ.2.1
        obtain ⟨pp, hpp, hA0⟩ := hΦ.2.2
        have n4 : sW (xE (zyEl zymc B s.heap) 36) (xE (zyEl zymc B s.heap) 35 7) (xE (zyEl zymc B s.heap) 35 5) (xE (zyEl zymc B s.heap) 35 6) [112, 108, 97, 99, 101] = false := by
          rw [Bool.eq_false_iff]
          intro h
          rw [if_pos h] at i3
          omega
        have hE20 := (xFr_n hfr).trans hE
        refine xCa hRu hIH hAt hB hv hFr (hfwwo B) (ix := 48) (ax := 1152) rfl rfl rfl hmefwwo ⟨_, rfl, rfl, by decide⟩ ⟨rfl, rfl, rfl⟩ (by decide) [] [] [] rfl ⟨rfl, rfl⟩ (by decide +kernel) xcs_n (by decide +kernel) ?_ (fun H3 r hT3 hf3 hFr3 hr3 hΨ3 => ?_)
        · show xΦ0 (xfv []) (zyEl zymc B H2)
          exact trivial
        · have hΨ3 : xΨfwwo (xfv []) (zyEl zymc B H2) (zyEl zymc B H3) r := hΨ3
          have d35_4 : xE (zyEl zymc B H3) 35 4 = xE (zyEl zymc B H2) 35 4 := xFr_E hf3 rfl
          have d35_5 : xE (zyEl zymc B H3) 35 5 = xE (zyEl zymc B H2) 35 5 := xFr_E hf3 rfl
          have d35_6 : xE (zyEl zymc B H3) 35 6 = xE (zyEl zymc B H2) 35 6 := xFr_E hf3 rfl
          have d35_7 : xE (zyEl zymc B H3) 35 7 = xE (zyEl zymc B H2) 35 7 := xFr_E hf3 rfl
          have d35_8 : xE (zyEl zymc B H3) 35 8 = xE (zyEl zymc B H2) 35 8 := xFr_E hf3 rfl
          have d35_2 : xE (zyEl zymc B H3) 35 2 = xE (zyEl zymc B H2) 35 2 := xFr_E hf3 rfl
          have d35_3 : xE (zyEl zymc B H3) 35 3 = xE (zyEl zymc B H2) 35 3 := xFr_E hf3 rfl
          have d36 : ∀ i, xE (zyEl zymc B H3) 36 i = xE (zyEl zymc B H2) 36 i := fun i => xFr_E hf3 rfl
          have z35_2 : ((2147483647 : Nat) : Int) ≤ xE (zyEl zymc B H3) 35 2 + 2147483648 ∧ xE (zyEl zymc B H3) 35 2 + 2147483648 ≤ ((2147483654 : Nat) : Int) := xTyF hT3 35 2 2 rfl rfl rfl rfl rfl rfl
          have z35_3 : ((2147483647 : Nat) : Int) ≤ xE (zyEl zymc B H3) 35 3 + 2147483648 ∧ xE (zyEl zymc B H3) 35 3 + 2147483648 ≤ ((2147484548 : Nat) : Int) := xTyF hT3 35 3 3 rfl rfl rfl rfl rfl rfl
          unfold xΨfwwo at hΨ3
          have hr01 : r = 0 ∨ r = 1 := by
            rw [hΨ3]
            split <;> omega
          have hEE3 : (zyEl zymc B H3) = (zyEl zymc B s.heap) := (xFr_n hf3).trans hE20
          rw [hE20] at hΨ3
          refine ⟨⟨11, by decide⟩, [0, 0], [0, 0, r, xE (zyEl zymc B H3) 35 2, xE (zyEl zymc B H3) 35 3], rfl, ⟨by decide +kernel, ⟨rfl, by decide +kernel⟩, (xcs_c rfl (xcs_c rfl xcs_n)), (xe_0 (xe_0 (xe_c (by omega) (by omega) rfl (xe_c (by omega) (by omega) rfl (xe_c (by omega) (by omega) rfl xe_n))))), (xkq_c hT3 35 2 (q := 2) rfl rfl rfl rfl rfl rfl rfl rfl rfl rfl rfl (xkq_c hT3 35 3 (q := 3) rfl rfl rfl rfl rfl rfl rfl rfl rfl rfl rfl xkq_n))⟩, (by rw [if_pos rfl]; exact ⟨2, [], rfl, by decide, rfl, xst_n⟩), ?_, ?_⟩
          · show ((zyEl zymc B H3) = (zyEl zymc B s.heap) ∧ sW (xE (zyEl zymc B s.heap) 36) (xE (zyEl zymc B s.heap) 35 7) (xE (zyEl zymc B s.heap) 35 5) (xE (zyEl zymc B s.heap) 35 6) [115, 119, 105, 116, 99, 104] = false ∧ sW (xE (zyEl zymc B s.heap) 36) (xE (zyEl zymc B s.heap) 35 7) (xE (zyEl zymc B s.heap) 35 5) (xE (zyEl zymc B s.heap) 35 6) [98, 111, 98, 98, 105, 110] = false ∧ sW (xE (zyEl zymc B s.heap) 36) (xE (zyEl zymc B s.heap) 35 7) (xE (zyEl zymc B s.heap) 35 5) (xE (zyEl zymc B s.heap) 35 6) [115, 116, 117, 99, 107] = false ∧ sW (xE (zyEl zymc B s.heap) 36) (xE (zyEl zymc B s.heap) 35 7) (xE (zyEl zymc B s.heap) 35 5) (xE (zyEl zymc B s.heap) 35 6) [102, 114, 101, 101] = false ∧ sW (xE (zyEl zymc B s.heap) 36) (xE (zyEl zymc B s.heap) 35 7) (xE (zyEl zymc B s.heap) 35 5) (xE (zyEl zymc B s.heap) 35 6) [112, 108, 97, 99, 101] = false ∧ (r : Int) = if sW (xE (zyEl zymc B s.heap) 36) (xE (zyEl zymc B s.heap) 35 7) (xE (zyEl zymc B s.heap) 35 5) (xE (zyEl zymc B s.heap) 35 6) [119, 111, 114, 100] = true then 1 else 0) ∧ (xE (zyEl zymc B H3) 35 2 = xE (zyEl zymc B s.heap) 35 2 ∧ xE (zyEl zymc B H3) 35 3 = xE (zyEl zymc B s.heap) 35 3)
            refine ⟨?_, ?_⟩
            · skip
              exact ⟨hEE3, n0, n1, n2, n3, n4, hΨ3⟩
            · omega
          · show 45 < 46
            omega
    · cases hx
    · have hx : x ∈ [zxfrl17_w5x0] := hx
      have hag : ∀ k, k < 5 → v2 k = v k := hag
      have hfr : xFr [(35, 2, 3)] _ _ := hfr
      have ex := List.mem_singleton.mp hx
      subst ex
      obtain ⟨hF, hBd, hM⟩ := hXs
      have g2 : v2 2 = v 2 := hag 2 (by decide)
      have g3 : v2 3 = v 3 := hag 3 (by decide)
      have g4 : v2 4 = v 4 := hag 4 (by decide)
      have b0 : ((2147483649 : Nat) : Int) ≤ (v2 2) + 2147483648 ∧ (v2 2) + 2147483648 ≤ ((2147483649 : Nat) : Int) := xXb hBd 0 rfl
      have b1 : ((2147483647 : Nat) : Int) ≤ (v2 3) + 2147483648 ∧ (v2 3) + 2147483648 ≤ ((2147483654 : Nat) : Int) := xXb hBd 1 rfl
      have b2 : ((2147483647 : Nat) : Int) ≤ (v2 4) + 2147483648 ∧ (v2 4) + 2147483648 ≤ ((2147484548 : Nat) : Int) := xXb hBd 2 rfl
      have k0 : xE (zyEl zymc B H) 35 2 = v 3 := xKcf hKc 0 rfl rfl
      have k1 : xE (zyEl zymc B H) 35 3 = v 4 := xKcf hKc 1 rfl rfl
      have f0 : ¬ (v2 2) = 0 := xXf hF 0 rfl
      have m0 : xE (zyEl zymc B H2) 35 2 = (v2 3) := xXm hM 0 rfl
      have m1 : xE (zyEl zymc B H2) 35 3 = (v2 4) := xXm hM 1 rfl
      have e35_4 : xE (zyEl zymc B H2) 35 4 = xE (zyEl zymc B H) 35 4 := xFr_E hfr rfl
      have q35_4 : xE (zyEl zymc B H) 35 4 = xE (zyEl zymc B s.heap) 35 4 := xFr_E hFr0 rfl
      have e35_5 : xE (zyEl zymc B H2) 35 5 = xE (zyEl zymc B H) 35 5 := xFr_E hfr rfl
      have e35_6 : xE (zyEl zymc B H2) 35 6 = xE (zyEl zymc B H) 35 6 := xFr_E hfr rfl
      have e35_7 : xE (zyEl zymc B H2) 35 7 = xE (zyEl zymc B H) 35 7 := xFr_E hfr rfl
      have e35_8 : xE (zyEl zymc B H2) 35 8 = xE (zyEl zymc B H) 35 8 := xFr_E hfr rfl
      have e36 : ∀ i, xE (zyEl zymc B H2) 36 i = xE (zyEl zymc B H) 36 i := fun i => xFr_E hfr rfl
      have q36 : ∀ i, xE (zyEl zymc B H) 36 i = xE (zyEl zymc B s.heap) 36 i := fun i => xFr_E hFr0 rfl
      have hI : ((zyEl zymc B H) = (zyEl zymc B s.heap) ∧ sW (xE (zyEl zymc B s.heap) 36) (xE (zyEl zymc B s.heap) 35 7) (xE (zyEl zymc B s.heap) 35 5) (xE (zyEl zymc B s.heap) 35 6) [115, 119, 105, 116, 99, 104] = false ∧ sW (xE (zyEl zymc B s.heap) 36) (xE (zyEl zymc B s.heap) 35 7) (xE (zyEl zymc B s.heap) 35 5) (xE (zyEl zymc B s.heap) 35 6) [98, 111, 98, 98, 105, 110] = false ∧ sW (xE (zyEl zymc B s.heap) 36) (xE (zyEl zymc B s.heap) 35 7) (xE (zyEl zymc B s.heap) 35 5) (xE (zyEl zymc B s.heap) 35 6) [115, 116, 117, 99, 107] = false ∧ sW (xE (zyEl zymc B s.heap) 36) (xE (zyEl zymc B s.heap) 35 7) (xE (zyEl zymc B s.heap) 35 5) (xE (zyEl zymc B s.heap) 35 6) [102, 114, 101, 101] = false ∧ sW (xE (zyEl zymc B s.heap) 36) (xE (zyEl zymc B s.heap) 35 7) (xE (zyEl zymc B s.heap) 35 5) (xE (zyEl zymc B s.heap) 35 6) [112, 108, 97, 99, 101] = false ∧ (v 2) = if sW (xE (zyEl zymc B s.heap) 36) (xE (zyEl zymc B s.heap) 35 7) (xE (zyEl zymc B s.heap) 35 5) (xE (zyEl zymc B s.heap) 35 6) [119, 111, 114, 100] = true then 1 else 0) ∧ (xE (zyEl zymc B H) 35 2 = xE (zyEl zymc B s.heap) 35 2 ∧ xE (zyEl zymc B H) 35 3 = xE (zyEl zymc B s.heap) 35 3) := hInv
      obtain ⟨hI, hSm⟩ := hI
      have q35_5 : xE (zyEl zymc B H) 35 5 = xE (zyEl zymc B s.heap) 35 5 := by rw [hI.1]
      have q35_6 : xE (zyEl zymc B H) 35 6 = xE (zyEl zymc B s.heap) 35 6 := by rw [hI.1]
      have q35_7 : xE (zyEl zymc B H) 35 7 = xE (zyEl zymc B s.heap) 35 7 := by rw [hI.1]
      have q35_8 : xE (zyEl zymc B H) 35 8 = xE (zyEl zymc B s.heap) 35 8 := by rw [hI.1]
      have q35_2 : xE (zyEl zymc B H) 35 2 = xE (zyEl zymc B s.heap) 35 2 := by rw [hI.1]
      have q35_3 : xE (zyEl zymc B H) 35 3 = xE (zyEl zymc B s.heap) 35 3 := by rw [hI.1]
      obtain ⟨hE, n0, n1, n2, n3, n4, i3⟩ := hI
      obtain ⟨S0, hS0⟩ := hΦ.2.1
      obtain ⟨pp, hpp, hA0⟩ := hΦ.2.2
      have y5 : sW (xE (zyEl zymc B s.heap) 36) (xE (zyEl zymc B s.heap) 35 7) (xE (zyEl zymc B s.heap) 35 5) (xE (zyEl zymc B s.heap) 35 6) [119, 111, 114, 100] = true := by
        by_cases h : sW (xE (zyEl zymc B s.heap) 36) (xE (zyEl zymc B s.heap) 35 7) (xE (zyEl zymc B s.heap) 35 5) (xE (zyEl zymc B s.heap) 35 6) [119, 111, 114, 100] = true
        · exact h
        · rw [if_neg h] at i3
          omega
      have hE20 : xFr [(35, 2, 3)] (zyEl zymc B s.heap) (zyEl zymc B H2) := by rw [← hE]; exact hfr
      have tt : xE (zyEl zymc B H2) 36 = xE (zyEl zymc B s.heap) 36 := funext fun i => xFr_E hE20 rfl
      have tn : xE (zyEl zymc B H2) 35 4 = xE (zyEl zymc B s.heap) 35 4 := xFr_E hE20 rfl
      have t6 : xE (zyEl zymc B H2) 35 6 = xE (zyEl zymc B s.heap) 35 6 := xFr_E hE20 rfl
      have hab : ∀ S, xAb17 (zyEl zymc B s.heap) S → xAb17 (zyEl zymc B H2) S := fun S hS => xAb17_35 hS (xFr_mono (by decide) hE20)
      refine xCa hRu hIH hAt hB hv hFr (hfrw17 B) (ix := 103) (ax := 1072) rfl rfl rfl hmefrw17 ⟨_, rfl, rfl, by decide⟩ ⟨rfl, rfl, rfl⟩ (by decide) [] [] [] rfl ⟨rfl, rfl⟩ (by decide +kernel) xcs_n (by decide +kernel) ?_ (fun H3 r hT3 hf3 hFr3 hr3 hΨ3 => ?_)
      · show xΦrd17 (xfv []) (zyEl zymc B H2)
        exact ⟨by rw [t6, tn]; exact hΦ.1, S0, hab S0 hS0⟩
      · have hΨ3 : xΨfrw17S (xfv []) (zyEl zymc B H2) (zyEl zymc B H3) r := hΨ3
        obtain ⟨hΨ3, hS3⟩ := hΨ3
        have hΨ3 : xΨfrw17 (xfv []) (zyEl zymc B H2) (zyEl zymc B H3) r := hΨ3
        have hS3 : (¬ (r) = 0 → (xE (zyEl zymc B H3) 35 2 = xE (zyEl zymc B H2) 35 2 ∧ xE (zyEl zymc B H3) 35 3 = xE (zyEl zymc B H2) 35 3)) := hS3
        have d35_4 : xE (zyEl zymc B H3) 35 4 = xE (zyEl zymc B H2) 35 4 := xFr_E hf3 rfl
        have d36 : ∀ i, xE (zyEl zymc B H3) 36 i = xE (zyEl zymc B H2) 36 i := fun i => xFr_E hf3 rfl
        unfold xΨfrw17 at hΨ3
        rw [tt, tn, t6] at hΨ3
        have hr01 : r = 0 ∨ r = 1 := xOut17_r (hΨ3 S0 (hab S0 hS0))
        refine ⟨⟨12, by decide⟩, [0, 0], [0, 0, r], rfl, ⟨by decide +kernel, ⟨rfl, by decide +kernel⟩, (xcs_c rfl (xcs_c rfl xcs_n)), (xe_0 (xe_0 (xe_c (by omega) (by omega) rfl xe_n))), xkq_n⟩, (by rw [if_pos rfl]; exact ⟨2, [], rfl, by decide, rfl, xst_n⟩), ?_, ?_⟩
        · show ((zyEl zymc B s.heap) = (zyEl zymc B s.heap) ∧ ∀ p S, p ≤ xE (zyEl zymc B s.heap) 35 4 → xAD (xE (zyEl zymc B s.heap) 36) (xE (zyEl zymc B s.heap) 35 4) p (zyEl zymc B s.heap) → xAb17 (zyEl zymc B s.heap) S → xOut17 (pLine (xE (zyEl zymc B s.heap) 36) (xE (zyEl zymc B s.heap) 35 4) p S) (zyEl zymc B H3) (r : Int)) ∧ (¬ (r : Int) = 0 → (xE (zyEl zymc B H3) 35 2 = xE (zyEl zymc B s.heap) 35 2 ∧ xE (zyEl zymc B H3) 35 3 = xE (zyEl zymc B s.heap) 35 3))
          refine ⟨?_, ?_⟩
          · skip
            refine ⟨rfl, fun p S hp ⟨a1, a2, a3, a4⟩ hS => ?_⟩
            have w := hΨ3 S (hab S hS)
            rw [a1] at w
            rw [a1, a2, a3] at n0 n1 n2 n3 n4 y5
            unfold pLine pBody tW
            rw [n0, if_neg (by decide), n1, if_neg (by decide), n2, if_neg (by decide), n3, if_neg (by decide), n4, if_neg (by decide), y5, if_pos rfl]
            exact w
          · omega
        · show 1 < 45
          omega
    · cases hx
  · intro x0 E0 E E2 hrx hT0 hΦ i v hT hrv hInv hKc hFr0 x hx v2 hr2 hXs hag hfr hFr hT2
    rcases i with ⟨i, hi⟩
    have hi2 : i = 0 ∨ i = 1 ∨ i = 2 ∨ i = 3 ∨ i = 4 ∨ i = 5 ∨ i = 6 ∨ i = 7 ∨ i = 8 ∨ i = 9 ∨ i = 10 ∨ i = 11 ∨ i = 12 := by omega
    rcases hi2 with rfl | rfl | rfl | rfl | rfl | rfl | rfl | rfl | rfl | rfl | rfl | rfl | rfl
    · cases hx
    · cases hx
    · have hx : x ∈ [zxfrl17_r0r0] := hx
      have hag : ∀ k, k < 3 → v2 k = v k := hag
      have hfr : xFr [] _ _ := hfr
      have ex := List.mem_singleton.mp hx
      subst ex
      obtain ⟨hF, hBd, hM⟩ := hXs
      have g2 : v2 2 = v 2 := hag 2 (by decide)
      have b0 : ((2147483648 : Nat) : Int) ≤ (v2 2) + 2147483648 ∧ (v2 2) + 2147483648 ≤ ((2147483649 : Nat) : Int) := xXb hBd 0 rfl
      have e35_4 : xE E2 35 4 = xE E 35 4 := xFr_E hfr rfl
      have q35_4 : xE E 35 4 = xE E0 35 4 := xFr_E hFr0 rfl
      have e35_5 : xE E2 35 5 = xE E 35 5 := xFr_E hfr rfl
      have e35_6 : xE E2 35 6 = xE E 35 6 := xFr_E hfr rfl
      have e35_7 : xE E2 35 7 = xE E 35 7 := xFr_E hfr rfl
      have e35_8 : xE E2 35 8 = xE E 35 8 := xFr_E hfr rfl
      have e35_2 : xE E2 35 2 = xE E 35 2 := xFr_E hfr rfl
      have e35_3 : xE E2 35 3 = xE E 35 3 := xFr_E hfr rfl
      have e36 : ∀ i, xE E2 36 i = xE E 36 i := fun i => xFr_E hfr rfl
      have q36 : ∀ i, xE E 36 i = xE E0 36 i := fun i => xFr_E hFr0 rfl
      have hI : (E0 = E0 ∧ ∀ p S, p ≤ xE E0 35 4 → xAD (xE E0 36) (xE E0 35 4) p E0 → xAb17 E0 S → xOut17 (pLine (xE E0 36) (xE E0 35 4) p S) E (v 2)) ∧ (¬ (v 2) = 0 → (xE E 35 2 = xE E0 35 2 ∧ xE E 35 3 = xE E0 35 3)) := hInv
      obtain ⟨hI, hSm⟩ := hI
      show xΨfrl17S x0 E0 E2 (v2 2)
      refine ⟨?_, ?_⟩
      · show xΨfrl17 x0 E0 E2 (v2 2)
        have hE2 := xFr_n hfr
        subst hE2
        intro p S hp hA hS
        have w := hI.2 p S hp hA hS
        rw [show (v 2) = v2 2 by omega] at w
        exact w
      · show (¬ ((v2 2)) = 0 → (xE E2 35 2 = xE E0 35 2 ∧ xE E2 35 3 = xE E0 35 3))
        omega
    · cases hx
    · have hx : x ∈ [zxfrl17_r1r0] := hx
      have hag : ∀ k, k < 3 → v2 k = v k := hag
      have hfr : xFr [] _ _ := hfr
      have ex := List.mem_singleton.mp hx
      subst ex
      obtain ⟨hF, hBd, hM⟩ := hXs
      have g2 : v2 2 = v 2 := hag 2 (by decide)
      have b0 : ((2147483648 : Nat) : Int) ≤ (v2 2) + 2147483648 ∧ (v2 2) + 2147483648 ≤ ((2147483649 : Nat) : Int) := xXb hBd 0 rfl
      have e35_4 : xE E2 35 4 = xE E 35 4 := xFr_E hfr rfl
      have q35_4 : xE E 35 4 = xE E0 35 4 := xFr_E hFr0 rfl
      have e35_5 : xE E2 35 5 = xE E 35 5 := xFr_E hfr rfl
      have e35_6 : xE E2 35 6 = xE E 35 6 := xFr_E hfr rfl
      have e35_7 : xE E2 35 7 = xE E 35 7 := xFr_E hfr rfl
      have e35_8 : xE E2 35 8 = xE E 35 8 := xFr_E hfr rfl
      have e35_2 : xE E2 35 2 = xE E 35 2 := xFr_E hfr rfl
      have e35_3 : xE E2 35 3 = xE E 35 3 := xFr_E hfr rfl
      have e36 : ∀ i, xE E2 36 i = xE E 36 i := fun i => xFr_E hfr rfl
      have q36 : ∀ i, xE E 36 i = xE E0 36 i := fun i => xFr_E hFr0 rfl
      have hI : (E0 = E0 ∧ ∀ p S, p ≤ xE E0 35 4 → xAD (xE E0 36) (xE E0 35 4) p E0 → xAb17 E0 S → xOut17 (pLine (xE E0 36) (xE E0 35 4) p S) E (v 2)) ∧ (¬ (v 2) = 0 → (xE E 35 2 = xE E0 35 2 ∧ xE E 35 3 = xE E0 35 3)) := hInv
      obtain ⟨hI, hSm⟩ := hI
      show xΨfrl17S x0 E0 E2 (v2 2)
      refine ⟨?_, ?_⟩
      · show xΨfrl17 x0 E0 E2 (v2 2)
        have hE2 := xFr_n hfr
        subst hE2
        intro p S hp hA hS
        have w := hI.2 p S hp hA hS
        rw [show (v 2) = v2 2 by omega] at w
        exact w
      · show (¬ ((v2 2)) = 0 → (xE E2 35 2 = xE E0 35 2 ∧ xE E2 35 3 = xE E0 35 3))
        omega
    · cases hx
    · have hx : x ∈ [zxfrl17_r2r0] := hx
      have hag : ∀ k, k < 3 → v2 k = v k := hag
      have hfr : xFr [] _ _ := hfr
      have ex := List.mem_singleton.mp hx
      subst ex
      obtain ⟨hF, hBd, hM⟩ := hXs
      have g2 : v2 2 = v 2 := hag 2 (by decide)
      have b0 : ((2147483648 : Nat) : Int) ≤ (v2 2) + 2147483648 ∧ (v2 2) + 2147483648 ≤ ((2147483649 : Nat) : Int) := xXb hBd 0 rfl
      have e35_4 : xE E2 35 4 = xE E 35 4 := xFr_E hfr rfl
      have q35_4 : xE E 35 4 = xE E0 35 4 := xFr_E hFr0 rfl
      have e35_5 : xE E2 35 5 = xE E 35 5 := xFr_E hfr rfl
      have e35_6 : xE E2 35 6 = xE E 35 6 := xFr_E hfr rfl
      have e35_7 : xE E2 35 7 = xE E 35 7 := xFr_E hfr rfl
      have e35_8 : xE E2 35 8 = xE E 35 8 := xFr_E hfr rfl
      have e35_2 : xE E2 35 2 = xE E 35 2 := xFr_E hfr rfl
      have e35_3 : xE E2 35 3 = xE E 35 3 := xFr_E hfr rfl
      have e36 : ∀ i, xE E2 36 i = xE E 36 i := fun i => xFr_E hfr rfl
      have q36 : ∀ i, xE E 36 i = xE E0 36 i := fun i => xFr_E hFr0 rfl
      have hI : (E0 = E0 ∧ ∀ p S, p ≤ xE E0 35 4 → xAD (xE E0 36) (xE E0 35 4) p E0 → xAb17 E0 S → xOut17 (pLine (xE E0 36) (xE E0 35 4) p S) E (v 2)) ∧ (¬ (v 2) = 0 → (xE E 35 2 = xE E0 35 2 ∧ xE E 35 3 = xE E0 35 3)) := hInv
      obtain ⟨hI, hSm⟩ := hI
      show xΨfrl17S x0 E0 E2 (v2 2)
      refine ⟨?_, ?_⟩
      · show xΨfrl17 x0 E0 E2 (v2 2)
        have hE2 := xFr_n hfr
        subst hE2
        intro p S hp hA hS
        have w := hI.2 p S hp hA hS
        rw [show (v 2) = v2 2 by omega] at w
        exact w
      · show (¬ ((v2 2)) = 0 → (xE E2 35 2 = xE E0 35 2 ∧ xE E2 35 3 = xE E0 35 3))
        omega
    · cases hx
    · have hx : x ∈ [zxfrl17_r3r0] := hx
      have hag : ∀ k, k < 3 → v2 k = v k := hag
      have hfr : xFr [] _ _ := hfr
      have ex := List.mem_singleton.mp hx
      subst ex
      obtain ⟨hF, hBd, hM⟩ := hXs
      have g2 : v2 2 = v 2 := hag 2 (by decide)
      have b0 : ((2147483648 : Nat) : Int) ≤ (v2 2) + 2147483648 ∧ (v2 2) + 2147483648 ≤ ((2147483649 : Nat) : Int) := xXb hBd 0 rfl
      have e35_4 : xE E2 35 4 = xE E 35 4 := xFr_E hfr rfl
      have q35_4 : xE E 35 4 = xE E0 35 4 := xFr_E hFr0 rfl
      have e35_5 : xE E2 35 5 = xE E 35 5 := xFr_E hfr rfl
      have e35_6 : xE E2 35 6 = xE E 35 6 := xFr_E hfr rfl
      have e35_7 : xE E2 35 7 = xE E 35 7 := xFr_E hfr rfl
      have e35_8 : xE E2 35 8 = xE E 35 8 := xFr_E hfr rfl
      have e35_2 : xE E2 35 2 = xE E 35 2 := xFr_E hfr rfl
      have e35_3 : xE E2 35 3 = xE E 35 3 := xFr_E hfr rfl
      have e36 : ∀ i, xE E2 36 i = xE E 36 i := fun i => xFr_E hfr rfl
      have q36 : ∀ i, xE E 36 i = xE E0 36 i := fun i => xFr_E hFr0 rfl
      have hI : (E0 = E0 ∧ ∀ p S, p ≤ xE E0 35 4 → xAD (xE E0 36) (xE E0 35 4) p E0 → xAb17 E0 S → xOut17 (pLine (xE E0 36) (xE E0 35 4) p S) E (v 2)) ∧ (¬ (v 2) = 0 → (xE E 35 2 = xE E0 35 2 ∧ xE E 35 3 = xE E0 35 3)) := hInv
      obtain ⟨hI, hSm⟩ := hI
      show xΨfrl17S x0 E0 E2 (v2 2)
      refine ⟨?_, ?_⟩
      · show xΨfrl17 x0 E0 E2 (v2 2)
        have hE2 := xFr_n hfr
        subst hE2
        intro p S hp hA hS
        have w := hI.2 p S hp hA hS
        rw [show (v 2) = v2 2 by omega] at w
        exact w
      · show (¬ ((v2 2)) = 0 → (xE E2 35 2 = xE E0 35 2 ∧ xE E2 35 3 = xE E0 35 3))
        omega
    · cases hx
    · have hx : x ∈ [zxfrl17_r4r0] := hx
      have hag : ∀ k, k < 3 → v2 k = v k := hag
      have hfr : xFr [] _ _ := hfr
      have ex := List.mem_singleton.mp hx
      subst ex
      obtain ⟨hF, hBd, hM⟩ := hXs
      have g2 : v2 2 = v 2 := hag 2 (by decide)
      have b0 : ((2147483648 : Nat) : Int) ≤ (v2 2) + 2147483648 ∧ (v2 2) + 2147483648 ≤ ((2147483649 : Nat) : Int) := xXb hBd 0 rfl
      have e35_4 : xE E2 35 4 = xE E 35 4 := xFr_E hfr rfl
      have q35_4 : xE E 35 4 = xE E0 35 4 := xFr_E hFr0 rfl
      have e35_5 : xE E2 35 5 = xE E 35 5 := xFr_E hfr rfl
      have e35_6 : xE E2 35 6 = xE E 35 6 := xFr_E hfr rfl
      have e35_7 : xE E2 35 7 = xE E 35 7 := xFr_E hfr rfl
      have e35_8 : xE E2 35 8 = xE E 35 8 := xFr_E hfr rfl
      have e35_2 : xE E2 35 2 = xE E 35 2 := xFr_E hfr rfl
      have e35_3 : xE E2 35 3 = xE E 35 3 := xFr_E hfr rfl
      have e36 : ∀ i, xE E2 36 i = xE E 36 i := fun i => xFr_E hfr rfl
      have q36 : ∀ i, xE E 36 i = xE E0 36 i := fun i => xFr_E hFr0 rfl
      have hI : (E0 = E0 ∧ ∀ p S, p ≤ xE E0 35 4 → xAD (xE E0 36) (xE E0 35 4) p E0 → xAb17 E0 S → xOut17 (pLine (xE E0 36) (xE E0 35 4) p S) E (v 2)) ∧ (¬ (v 2) = 0 → (xE E 35 2 = xE E0 35 2 ∧ xE E 35 3 = xE E0 35 3)) := hInv
      obtain ⟨hI, hSm⟩ := hI
      show xΨfrl17S x0 E0 E2 (v2 2)
      refine ⟨?_, ?_⟩
      · show xΨfrl17 x0 E0 E2 (v2 2)
        have hE2 := xFr_n hfr
        subst hE2
        intro p S hp hA hS
        have w := hI.2 p S hp hA hS
        rw [show (v 2) = v2 2 by omega] at w
        exact w
      · show (¬ ((v2 2)) = 0 → (xE E2 35 2 = xE E0 35 2 ∧ xE E2 35 3 = xE E0 35 3))
        omega
    · have hx : x ∈ [zxfrl17_w5r0, zxfrl17_w5r1, zxfrl17_w5r2] := hx
      have hag : ∀ k, k < 5 → v2 k = v k := hag
      have hfr : xFr [(35, 2, 3)] _ _ := hfr
      rcases List.mem_cons.mp hx with ex | hx
      · subst ex
        obtain ⟨hF, hBd, hM⟩ := hXs
        have g2 : v2 2 = v 2 := hag 2 (by decide)
        have g3 : v2 3 = v 3 := hag 3 (by decide)
        have g4 : v2 4 = v 4 := hag 4 (by decide)
        have b0 : ((2147483648 : Nat) : Int) ≤ (v2 2) + 2147483648 ∧ (v2 2) + 2147483648 ≤ ((2147483648 : Nat) : Int) := xXb hBd 0 rfl
        have b1 : ((2147483650 : Nat) : Int) ≤ (v2 5) + 2147483648 ∧ (v2 5) + 2147483648 ≤ ((2147483653 : Nat) : Int) := xXb hBd 1 rfl
        have b2 : ((2147483648 : Nat) : Int) ≤ (v2 6) + 2147483648 ∧ (v2 6) + 2147483648 ≤ ((2147484548 : Nat) : Int) := xXb hBd 2 rfl
        have k0 : xE E 35 2 = v 3 := xKcf hKc 0 rfl rfl
        have k1 : xE E 35 3 = v 4 := xKcf hKc 1 rfl rfl
        have f0 : (v2 2) = 0 := xXf hF 0 rfl
        have f1 : (0 : Int) ≤ 7 ∧ xE E 35 7 = (v2 5) := xXf hF 1 rfl
        have f2 : ¬ (v2 5) = 1 := xXf hF 2 rfl
        have f3 : (0 : Int) ≤ 5 ∧ xE E 35 5 = (v2 6) := xXf hF 3 rfl
        have m0 : xE E2 35 2 = 2 := xXm hM 0 rfl
        have m1 : xE E2 35 3 = (v2 6) := xXm hM 1 rfl
        have e35_4 : xE E2 35 4 = xE E 35 4 := xFr_E hfr rfl
        have q35_4 : xE E 35 4 = xE E0 35 4 := xFr_E hFr0 rfl
        have e35_5 : xE E2 35 5 = xE E 35 5 := xFr_E hfr rfl
        have e35_6 : xE E2 35 6 = xE E 35 6 := xFr_E hfr rfl
        have e35_7 : xE E2 35 7 = xE E 35 7 := xFr_E hfr rfl
        have e35_8 : xE E2 35 8 = xE E 35 8 := xFr_E hfr rfl
        have e36 : ∀ i, xE E2 36 i = xE E 36 i := fun i => xFr_E hfr rfl
        have q36 : ∀ i, xE E 36 i = xE E0 36 i := fun i => xFr_E hFr0 rfl
        have hI : (E = E0 ∧ sW (xE E0 36) (xE E0 35 7) (xE E0 35 5) (xE E0 35 6) [115, 119, 105, 116, 99, 104] = false ∧ sW (xE E0 36) (xE E0 35 7) (xE E0 35 5) (xE E0 35 6) [98, 111, 98, 98, 105, 110] = false ∧ sW (xE E0 36) (xE E0 35 7) (xE E0 35 5) (xE E0 35 6) [115, 116, 117, 99, 107] = false ∧ sW (xE E0 36) (xE E0 35 7) (xE E0 35 5) (xE E0 35 6) [102, 114, 101, 101] = false ∧ sW (xE E0 36) (xE E0 35 7) (xE E0 35 5) (xE E0 35 6) [112, 108, 97, 99, 101] = false ∧ (v 2) = if sW (xE E0 36) (xE E0 35 7) (xE E0 35 5) (xE E0 35 6) [119, 111, 114, 100] = true then 1 else 0) ∧ (xE E 35 2 = xE E0 35 2 ∧ xE E 35 3 = xE E0 35 3) := hInv
        obtain ⟨hI, hSm⟩ := hI
        have q35_5 : xE E 35 5 = xE E0 35 5 := by rw [hI.1]
        have q35_6 : xE E 35 6 = xE E0 35 6 := by rw [hI.1]
        have q35_7 : xE E 35 7 = xE E0 35 7 := by rw [hI.1]
        have q35_8 : xE E 35 8 = xE E0 35 8 := by rw [hI.1]
        have q35_2 : xE E 35 2 = xE E0 35 2 := by rw [hI.1]
        have q35_3 : xE E 35 3 = xE E0 35 3 := by rw [hI.1]
        show xΨfrl17S x0 E0 E2 0
        refine ⟨?_, ?_⟩
        · show xΨfrl17 x0 E0 E2 0
          obtain ⟨hE, n0, n1, n2, n3, n4, i3⟩ := hI
          obtain ⟨S0, hS0⟩ := hΦ.2.1
          obtain ⟨pp, hpp, hA0⟩ := hΦ.2.2
          have n5 : sW (xE E0 36) (xE E0 35 7) (xE E0 35 5) (xE E0 35 6) [119, 111, 114, 100] = false := by
            rw [Bool.eq_false_iff]
            intro h
            rw [if_pos h] at i3
            omega
          subst hE
          intro p S hp ⟨a1, a2, a3, a4⟩ hS
          have hm : pMis (xE E 36) (xE E 35 4) p = 2 := by unfold pMis; rw [if_neg (by omega)]
          rw [a1, a2, a3] at n0 n1 n2 n3 n4 n5
          unfold pLine pBody tW
          rw [n0, if_neg (by decide), n1, if_neg (by decide), n2, if_neg (by decide), n3, if_neg (by decide), n4, if_neg (by decide), n5, if_neg (by decide), hm]
          exact xOut17_e rfl (by omega) (by omega)
        · show (¬ (0) = 0 → (xE E2 35 2 = xE E0 35 2 ∧ xE E2 35 3 = xE E0 35 3))
          omega
      · skip
        rcases List.mem_cons.mp hx with ex | hx
        · subst ex
          obtain ⟨hF, hBd, hM⟩ := hXs
          have g2 : v2 2 = v 2 := hag 2 (by decide)
          have g3 : v2 3 = v 3 := hag 3 (by decide)
          have g4 : v2 4 = v 4 := hag 4 (by decide)
          have b0 : ((2147483648 : Nat) : Int) ≤ (v2 2) + 2147483648 ∧ (v2 2) + 2147483648 ≤ ((2147483648 : Nat) : Int) := xXb hBd 0 rfl
          have b1 : ((2147483648 : Nat) : Int) ≤ (v2 5) + 2147483648 ∧ (v2 5) + 2147483648 ≤ ((2147483648 : Nat) : Int) := xXb hBd 1 rfl
          have b2 : ((2147483648 : Nat) : Int) ≤ (v2 6) + 2147483648 ∧ (v2 6) + 2147483648 ≤ ((2147484548 : Nat) : Int) := xXb hBd 2 rfl
          have k0 : xE E 35 2 = v 3 := xKcf hKc 0 rfl rfl
          have k1 : xE E 35 3 = v 4 := xKcf hKc 1 rfl rfl
          have f0 : (v2 2) = 0 := xXf hF 0 rfl
          have f1 : (0 : Int) ≤ 7 ∧ xE E 35 7 = (v2 5) := xXf hF 1 rfl
          have f2 : ¬ (v2 5) = 1 := xXf hF 2 rfl
          have f3 : (0 : Int) ≤ 5 ∧ xE E 35 5 = (v2 6) := xXf hF 3 rfl
          have m0 : xE E2 35 2 = 2 := xXm hM 0 rfl
          have m1 : xE E2 35 3 = (v2 6) := xXm hM 1 rfl
          have e35_4 : xE E2 35 4 = xE E 35 4 := xFr_E hfr rfl
          have q35_4 : xE E 35 4 = xE E0 35 4 := xFr_E hFr0 rfl
          have e35_5 : xE E2 35 5 = xE E 35 5 := xFr_E hfr rfl
          have e35_6 : xE E2 35 6 = xE E 35 6 := xFr_E hfr rfl
          have e35_7 : xE E2 35 7 = xE E 35 7 := xFr_E hfr rfl
          have e35_8 : xE E2 35 8 = xE E 35 8 := xFr_E hfr rfl
          have e36 : ∀ i, xE E2 36 i = xE E 36 i := fun i => xFr_E hfr rfl
          have q36 : ∀ i, xE E 36 i = xE E0 36 i := fun i => xFr_E hFr0 rfl
          have hI : (E = E0 ∧ sW (xE E0 36) (xE E0 35 7) (xE E0 35 5) (xE E0 35 6) [115, 119, 105, 116, 99, 104] = false ∧ sW (xE E0 36) (xE E0 35 7) (xE E0 35 5) (xE E0 35 6) [98, 111, 98, 98, 105, 110] = false ∧ sW (xE E0 36) (xE E0 35 7) (xE E0 35 5) (xE E0 35 6) [115, 116, 117, 99, 107] = false ∧ sW (xE E0 36) (xE E0 35 7) (xE E0 35 5) (xE E0 35 6) [102, 114, 101, 101] = false ∧ sW (xE E0 36) (xE E0 35 7) (xE E0 35 5) (xE E0 35 6) [112, 108, 97, 99, 101] = false ∧ (v 2) = if sW (xE E0 36) (xE E0 35 7) (xE E0 35 5) (xE E0 35 6) [119, 111, 114, 100] = true then 1 else 0) ∧ (xE E 35 2 = xE E0 35 2 ∧ xE E 35 3 = xE E0 35 3) := hInv
          obtain ⟨hI, hSm⟩ := hI
          have q35_5 : xE E 35 5 = xE E0 35 5 := by rw [hI.1]
          have q35_6 : xE E 35 6 = xE E0 35 6 := by rw [hI.1]
          have q35_7 : xE E 35 7 = xE E0 35 7 := by rw [hI.1]
          have q35_8 : xE E 35 8 = xE E0 35 8 := by rw [hI.1]
          have q35_2 : xE E 35 2 = xE E0 35 2 := by rw [hI.1]
          have q35_3 : xE E 35 3 = xE E0 35 3 := by rw [hI.1]
          show xΨfrl17S x0 E0 E2 0
          refine ⟨?_, ?_⟩
          · show xΨfrl17 x0 E0 E2 0
            obtain ⟨hE, n0, n1, n2, n3, n4, i3⟩ := hI
            obtain ⟨S0, hS0⟩ := hΦ.2.1
            obtain ⟨pp, hpp, hA0⟩ := hΦ.2.2
            have n5 : sW (xE E0 36) (xE E0 35 7) (xE E0 35 5) (xE E0 35 6) [119, 111, 114, 100] = false := by
              rw [Bool.eq_false_iff]
              intro h
              rw [if_pos h] at i3
              omega
            subst hE
            intro p S hp ⟨a1, a2, a3, a4⟩ hS
            have hm : pMis (xE E 36) (xE E 35 4) p = 2 := by unfold pMis; rw [if_neg (by omega)]
            rw [a1, a2, a3] at n0 n1 n2 n3 n4 n5
            unfold pLine pBody tW
            rw [n0, if_neg (by decide), n1, if_neg (by decide), n2, if_neg (by decide), n3, if_neg (by decide), n4, if_neg (by decide), n5, if_neg (by decide), hm]
            exact xOut17_e rfl (by omega) (by omega)
          · show (¬ (0) = 0 → (xE E2 35 2 = xE E0 35 2 ∧ xE E2 35 3 = xE E0 35 3))
            omega
        · skip
          have ex := List.mem_singleton.mp hx
          subst ex
          obtain ⟨hF, hBd, hM⟩ := hXs
          have g2 : v2 2 = v 2 := hag 2 (by decide)
          have g3 : v2 3 = v 3 := hag 3 (by decide)
          have g4 : v2 4 = v 4 := hag 4 (by decide)
          have b0 : ((2147483648 : Nat) : Int) ≤ (v2 2) + 2147483648 ∧ (v2 2) + 2147483648 ≤ ((2147483648 : Nat) : Int) := xXb hBd 0 rfl
          have b1 : ((2147483649 : Nat) : Int) ≤ (v2 5) + 2147483648 ∧ (v2 5) + 2147483648 ≤ ((2147483649 : Nat) : Int) := xXb hBd 1 rfl
          have b2 : ((2147483648 : Nat) : Int) ≤ (v2 6) + 2147483648 ∧ (v2 6) + 2147483648 ≤ ((2147484548 : Nat) : Int) := xXb hBd 2 rfl
          have k0 : xE E 35 2 = v 3 := xKcf hKc 0 rfl rfl
          have k1 : xE E 35 3 = v 4 := xKcf hKc 1 rfl rfl
          have f0 : (v2 2) = 0 := xXf hF 0 rfl
          have f1 : (0 : Int) ≤ 7 ∧ xE E 35 7 = (v2 5) := xXf hF 1 rfl
          have f2 : (v2 5) = 1 := xXf hF 2 rfl
          have f3 : (0 : Int) ≤ 5 ∧ xE E 35 5 = (v2 6) := xXf hF 3 rfl
          have m0 : xE E2 35 2 = 1 := xXm hM 0 rfl
          have m1 : xE E2 35 3 = (v2 6) := xXm hM 1 rfl
          have e35_4 : xE E2 35 4 = xE E 35 4 := xFr_E hfr rfl
          have q35_4 : xE E 35 4 = xE E0 35 4 := xFr_E hFr0 rfl
          have e35_5 : xE E2 35 5 = xE E 35 5 := xFr_E hfr rfl
          have e35_6 : xE E2 35 6 = xE E 35 6 := xFr_E hfr rfl
          have e35_7 : xE E2 35 7 = xE E 35 7 := xFr_E hfr rfl
          have e35_8 : xE E2 35 8 = xE E 35 8 := xFr_E hfr rfl
          have e36 : ∀ i, xE E2 36 i = xE E 36 i := fun i => xFr_E hfr rfl
          have q36 : ∀ i, xE E 36 i = xE E0 36 i := fun i => xFr_E hFr0 rfl
          have hI : (E = E0 ∧ sW (xE E0 36) (xE E0 35 7) (xE E0 35 5) (xE E0 35 6) [115, 119, 105, 116, 99, 104] = false ∧ sW (xE E0 36) (xE E0 35 7) (xE E0 35 5) (xE E0 35 6) [98, 111, 98, 98, 105, 110] = false ∧ sW (xE E0 36) (xE E0 35 7) (xE E0 35 5) (xE E0 35 6) [115, 116, 117, 99, 107] = false ∧ sW (xE E0 36) (xE E0 35 7) (xE E0 35 5) (xE E0 35 6) [102, 114, 101, 101] = false ∧ sW (xE E0 36) (xE E0 35 7) (xE E0 35 5) (xE E0 35 6) [112, 108, 97, 99, 101] = false ∧ (v 2) = if sW (xE E0 36) (xE E0 35 7) (xE E0 35 5) (xE E0 35 6) [119, 111, 114, 100] = true then 1 else 0) ∧ (xE E 35 2 = xE E0 35 2 ∧ xE E 35 3 = xE E0 35 3) := hInv
          obtain ⟨hI, hSm⟩ := hI
          have q35_5 : xE E 35 5 = xE E0 35 5 := by rw [hI.1]
          have q35_6 : xE E 35 6 = xE E0 35 6 := by rw [hI.1]
          have q35_7 : xE E 35 7 = xE E0 35 7 := by rw [hI.1]
          have q35_8 : xE E 35 8 = xE E0 35 8 := by rw [hI.1]
          have q35_2 : xE E 35 2 = xE E0 35 2 := by rw [hI.1]
          have q35_3 : xE E 35 3 = xE E0 35 3 := by rw [hI.1]
          show xΨfrl17S x0 E0 E2 0
          refine ⟨?_, ?_⟩
          · show xΨfrl17 x0 E0 E2 0
            obtain ⟨hE, n0, n1, n2, n3, n4, i3⟩ := hI
            obtain ⟨S0, hS0⟩ := hΦ.2.1
            obtain ⟨pp, hpp, hA0⟩ := hΦ.2.2
            have n5 : sW (xE E0 36) (xE E0 35 7) (xE E0 35 5) (xE E0 35 6) [119, 111, 114, 100] = false := by
              rw [Bool.eq_false_iff]
              intro h
              rw [if_pos h] at i3
              omega
            subst hE
            intro p S hp ⟨a1, a2, a3, a4⟩ hS
            have hm : pMis (xE E 36) (xE E 35 4) p = 1 := by unfold pMis; rw [if_pos (by omega)]
            rw [a1, a2, a3] at n0 n1 n2 n3 n4 n5
            unfold pLine pBody tW
            rw [n0, if_neg (by decide), n1, if_neg (by decide), n2, if_neg (by decide), n3, if_neg (by decide), n4, if_neg (by decide), n5, if_neg (by decide), hm]
            exact xOut17_e rfl (by omega) (by omega)
          · show (¬ (0) = 0 → (xE E2 35 2 = xE E0 35 2 ∧ xE E2 35 3 = xE E0 35 3))
            omega
    · have hx : x ∈ [zxfrl17_r5r0] := hx
      have hag : ∀ k, k < 3 → v2 k = v k := hag
      have hfr : xFr [] _ _ := hfr
      have ex := List.mem_singleton.mp hx
      subst ex
      obtain ⟨hF, hBd, hM⟩ := hXs
      have g2 : v2 2 = v 2 := hag 2 (by decide)
      have b0 : ((2147483648 : Nat) : Int) ≤ (v2 2) + 2147483648 ∧ (v2 2) + 2147483648 ≤ ((2147483649 : Nat) : Int) := xXb hBd 0 rfl
      have e35_4 : xE E2 35 4 = xE E 35 4 := xFr_E hfr rfl
      have q35_4 : xE E 35 4 = xE E0 35 4 := xFr_E hFr0 rfl
      have e35_5 : xE E2 35 5 = xE E 35 5 := xFr_E hfr rfl
      have e35_6 : xE E2 35 6 = xE E 35 6 := xFr_E hfr rfl
      have e35_7 : xE E2 35 7 = xE E 35 7 := xFr_E hfr rfl
      have e35_8 : xE E2 35 8 = xE E 35 8 := xFr_E hfr rfl
      have e35_2 : xE E2 35 2 = xE E 35 2 := xFr_E hfr rfl
      have e35_3 : xE E2 35 3 = xE E 35 3 := xFr_E hfr rfl
      have e36 : ∀ i, xE E2 36 i = xE E 36 i := fun i => xFr_E hfr rfl
      have q36 : ∀ i, xE E 36 i = xE E0 36 i := fun i => xFr_E hFr0 rfl
      have hI : (E0 = E0 ∧ ∀ p S, p ≤ xE E0 35 4 → xAD (xE E0 36) (xE E0 35 4) p E0 → xAb17 E0 S → xOut17 (pLine (xE E0 36) (xE E0 35 4) p S) E (v 2)) ∧ (¬ (v 2) = 0 → (xE E 35 2 = xE E0 35 2 ∧ xE E 35 3 = xE E0 35 3)) := hInv
      obtain ⟨hI, hSm⟩ := hI
      show xΨfrl17S x0 E0 E2 (v2 2)
      refine ⟨?_, ?_⟩
      · show xΨfrl17 x0 E0 E2 (v2 2)
        have hE2 := xFr_n hfr
        subst hE2
        intro p S hp hA hS
        have w := hI.2 p S hp hA hS
        rw [show (v 2) = v2 2 by omega] at w
        exact w
      · show (¬ ((v2 2)) = 0 → (xE E2 35 2 = xE E0 35 2 ∧ xE E2 35 3 = xE E0 35 3))
        omega
