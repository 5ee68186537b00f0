section
/-! THE CLASS reads: readSwitch, plan at place 18 -/
noncomputable def zxfrs17_ax0 : zyXp := (11, [283, 147, 13, 13, 13], [206158430201, 0, 283], [(24, 171798691841, 19, 24)], [(171798691841, 2147483648, 2147483679), (206158430201, 2147483647, 2147483678)], [])
noncomputable def zpfrs17_a : zyPh := (0, [283, 147, 13, 13, 13], [(0, 4294967295), (0, 4294967295), (0, 4294967295), (0, 4294967295), (0, 4294967295)], [], [])
noncomputable def zxfrs17_bx0 : zyXp := (27, [283, 147, 206158430209, 13, 13], [8, 0, 283], [(23, 0, 171798691841, 0), (24, 206158430209, 35, 64)], [(171798691841, 2147483649, 2147483649)], [])
noncomputable def zxfrs17_br0 : zyXp := (0, [], [0], [(22, 0, 171798691841, 0)], [(171798691841, 2147483648, 2147483648)], [])
noncomputable def zpfrs17_b : zyPh := (14, [283, 147, 13, 13, 13], [(0, 4294967295), (0, 4294967295), (0, 4294967295), (0, 4294967295), (0, 4294967295), (2147483648, 2147483649)], [], [171798691841])
noncomputable def zxfrs17_cx0 : zyXp := (43, [283, 147, 68719476737, 206158430209, 8], [], [(23, 0, 171798691841, 0), (24, 206158430209, 35, 64)], [(68719476737, 2147483648, 2147483678), (171798691841, 2147483649, 2147483649)], [])
noncomputable def zxfrs17_cr0 : zyXp := (0, [], [0], [(22, 0, 171798691841, 0)], [(171798691841, 2147483648, 2147483648)], [])
noncomputable def zpfrs17_c : zyPh := (30, [283, 147, 68719476737, 13, 13], [(0, 4294967295), (0, 4294967295), (2147483648, 2147483678), (0, 4294967295), (0, 4294967295), (2147483648, 2147483649)], [], [171798691841])
noncomputable def zxfrs17_dx0 : zyXp := (50, [283, 147, 68719476737, 103079215105, 137438953473], [283], [(21, 0, 32, 137438953473)], [(68719476737, 2147483648, 2147483678), (103079215105, 2147483648, 2147483679), (137438953473, 2147483649, 2147483652), (171798691841, 2147483647, 2147483654), (206158430209, 2147483647, 2147484548)], [(573442, 171798691841), (573443, 206158430209)])
noncomputable def zxfrs17_dr0 : zyXp := (0, [], [0], [(20, 0, 32, 137438953473), (24, 240518168577, 35, 40)], [(137438953473, 2147483653, 2147483653), (240518168577, 2147483648, 2147484548)], [(573442, 48), (573443, 240518168577)])
noncomputable def zpfrs17_d : zyPh := (43, [283, 147, 68719476737, 103079215105, 137438953473], [(0, 4294967295), (0, 4294967295), (2147483648, 2147483678), (2147483648, 2147483679), (2147483649, 2147483653), (2147483647, 2147483654), (2147483647, 2147484548)], [(573442, 171798691841), (573443, 206158430209)], [])
noncomputable def zxfrs17_ex0 : zyXp := (43, [283, 147, 68719476737, 343597383681, 137438953481], [], [(24, 240518168577, 35, 56), (23, 0, 240518168577, 40), (22, 0, 240518168577, 24), (24, 274877906945, 35, 64), (21, 0, 274877906945, 0), (21, 0, 8, 274877906945), (8, 309237645313, 274877906945, 137438953473), (7, 343597383681, 103079215105, 309237645313)], [(68719476737, 2147483648, 2147483678), (103079215105, 2147483648, 2147483679), (137438953473, 2147483649, 2147483652), (171798691841, 2147483647, 2147483654), (206158430209, 2147483647, 2147484548), (240518168577, 2147483651, 2147483651), (274877906945, 2147483648, 2147483649), (309237645313, 2147483648, 2147483664), (343597383681, 2147483648, 2147483679), (137438953481, 2147483650, 2147483653)], [(573442, 171798691841), (573443, 206158430209)])
noncomputable def zxfrs17_ex1 : zyXp := (67, [283, 147, 68719476737, 103079215105, 137438953473], [103079215105, 68719476737, 219], [(24, 240518168577, 35, 56), (22, 0, 240518168577, 40)], [(68719476737, 2147483648, 2147483678), (103079215105, 2147483648, 2147483679), (137438953473, 2147483649, 2147483652), (171798691841, 2147483647, 2147483654), (206158430209, 2147483647, 2147484548), (240518168577, 2147483653, 2147483653)], [(573442, 171798691841), (573443, 206158430209)])
noncomputable def zxfrs17_er0 : zyXp := (0, [], [0], [(24, 240518168577, 35, 56), (23, 0, 240518168577, 40), (23, 0, 240518168577, 24), (23, 0, 240518168577, 8), (24, 274877906945, 35, 40)], [(240518168577, 2147483652, 2147483652), (274877906945, 2147483648, 2147484548)], [(573442, 16), (573443, 274877906945)])
noncomputable def zxfrs17_er1 : zyXp := (0, [], [0], [(24, 240518168577, 35, 56), (23, 0, 240518168577, 40), (23, 0, 240518168577, 24), (23, 0, 240518168577, 8), (24, 274877906945, 35, 40)], [(240518168577, 2147483650, 2147483650), (274877906945, 2147483648, 2147484548)], [(573442, 16), (573443, 274877906945)])
noncomputable def zxfrs17_er2 : zyXp := (0, [], [0], [(24, 240518168577, 35, 56), (23, 0, 240518168577, 40), (23, 0, 240518168577, 24), (23, 0, 240518168577, 8), (24, 274877906945, 35, 40)], [(240518168577, 2147483648, 2147483648), (274877906945, 2147483648, 2147484548)], [(573442, 16), (573443, 274877906945)])
noncomputable def zxfrs17_er3 : zyXp := (0, [], [0], [(24, 240518168577, 35, 56), (23, 0, 240518168577, 40), (23, 0, 240518168577, 24), (22, 0, 240518168577, 8), (24, 274877906945, 35, 40)], [(240518168577, 2147483649, 2147483649), (274877906945, 2147483648, 2147484548)], [(573442, 8), (573443, 274877906945)])
noncomputable def zxfrs17_er4 : zyXp := (0, [], [0], [(24, 240518168577, 35, 56), (23, 0, 240518168577, 40), (22, 0, 240518168577, 24), (24, 274877906945, 35, 64), (20, 0, 274877906945, 0), (24, 309237645313, 35, 40)], [(240518168577, 2147483651, 2147483651), (274877906945, 0, 2147483647), (309237645313, 2147483648, 2147484548)], [(573442, 24), (573443, 309237645313)])
noncomputable def zxfrs17_er5 : zyXp := (0, [], [0], [(24, 240518168577, 35, 56), (23, 0, 240518168577, 40), (22, 0, 240518168577, 24), (24, 274877906945, 35, 64), (21, 0, 274877906945, 0), (20, 0, 8, 274877906945), (24, 309237645313, 35, 40)], [(240518168577, 2147483651, 2147483651), (274877906945, 2147483650, 4294967295), (309237645313, 2147483648, 2147484548)], [(573442, 24), (573443, 309237645313)])
noncomputable def zpfrs17_e : zyPh := (53, [283, 147, 68719476737, 103079215105, 137438953473], [(0, 4294967295), (0, 4294967295), (2147483648, 2147483678), (2147483648, 2147483679), (2147483649, 2147483652), (2147483647, 2147483654), (2147483647, 2147484548)], [(573442, 171798691841), (573443, 206158430209)], [])
noncomputable def zxfrs17_fx0 : zyXp := (75, [283, 147, 68719476737, 103079215105, 137438953473], [137438953473, 68719476737, 227], [], [(68719476737, 2147483648, 2147483678), (103079215105, 2147483648, 2147483679), (137438953473, 2147483649, 2147483652)], [])
noncomputable def zpfrs17_f : zyPh := (68, [283, 147, 68719476737, 103079215105, 137438953473], [(0, 4294967295), (0, 4294967295), (2147483648, 2147483678), (2147483648, 2147483679), (2147483649, 2147483652)], [], [])
noncomputable def zxfrs17_gr0 : zyXp := (0, [], [8], [], [], [])
noncomputable def zpfrs17_g : zyPh := (76, [283, 147, 13, 13, 13], [(0, 4294967295), (0, 4294967295), (0, 4294967295), (0, 4294967295), (0, 4294967295)], [], [])
noncomputable def zpfrs17 (i : Nat) : zyPh := zif (Nat.beq i 0) (zpfrs17_a) (zif (Nat.beq i 1) (zpfrs17_b) (zif (Nat.beq i 2) (zpfrs17_c) (zif (Nat.beq i 3) (zpfrs17_d) (zif (Nat.beq i 4) (zpfrs17_e) (zif (Nat.beq i 5) (zpfrs17_f) (zpfrs17_g))))))
noncomputable def zXfrs17 (i : Nat) : List zyXp := zif (Nat.beq i 0) ([zxfrs17_ax0]) (zif (Nat.beq i 1) ([zxfrs17_bx0]) (zif (Nat.beq i 2) ([zxfrs17_cx0]) (zif (Nat.beq i 3) ([zxfrs17_dx0]) (zif (Nat.beq i 4) ([zxfrs17_ex0, zxfrs17_ex1]) (zif (Nat.beq i 5) ([zxfrs17_fx0]) ([]))))))
noncomputable def zRfrs17 (i : Nat) : List zyXp := zif (Nat.beq i 0) ([]) (zif (Nat.beq i 1) ([zxfrs17_br0]) (zif (Nat.beq i 2) ([zxfrs17_cr0]) (zif (Nat.beq i 3) ([zxfrs17_dr0]) (zif (Nat.beq i 4) ([zxfrs17_er0, zxfrs17_er1, zxfrs17_er2, zxfrs17_er3, zxfrs17_er4, zxfrs17_er5]) (zif (Nat.beq i 5) ([]) ([zxfrs17_gr0]))))))
noncomputable def zFfrs17 (i : Nat) : zyR := zif (Nat.beq i 0) ([]) (zif (Nat.beq i 1) ([]) (zif (Nat.beq i 2) ([]) (zif (Nat.beq i 3) ([(35, 2, 3)]) (zif (Nat.beq i 4) ([(35, 2, 3)]) (zif (Nat.beq i 5) ([]) ([]))))))
noncomputable def zSfrs17 (i : Nat) : Nat := zif (Nat.beq i 0) (0) (zif (Nat.beq i 1) (0) (zif (Nat.beq i 2) (0) (zif (Nat.beq i 3) (0) (zif (Nat.beq i 4) (0) (zif (Nat.beq i 5) (0) (0))))))
theorem xAb17_sw {E E2 : zyEm} {S : Int → Int} {g b l : Int} (h : xAb17 E S) (hg : 0 ≤ g ∧ g < 31) (hf : xFr [(35, 2, 3), (35, 5, 8), (27, 0, 30), (28, 0, 30)] E E2) (h1 : xE E2 27 g = b) (h2 : ∀ k, 0 ≤ k → ¬ k = g → xE E2 27 k = xE E 27 k) (h3 : xE E2 28 g = l) (h4 : ∀ k, 0 ≤ k → ¬ k = g → xE E2 28 k = xE E 28 k) : xAb17 E2 (uS (uS S (8 + g) b) (40 + g) l) := by
  obtain ⟨a0, a1, a2, a3, a4, a5, a6⟩ := h
  have u : ∀ j, ¬ j = 8 + g → ¬ j = 40 + g → uS (uS S (8 + g) b) (40 + g) l j = S j := fun j h1 h2 => (uS_n h2).trans (uS_n h1)
  have u0 := u 0 (by omega) (by omega)
  have u1 := u 1 (by omega) (by omega)
  have u2 := u 2 (by omega) (by omega)
  have u5 := u 5 (by omega) (by omega)
  refine ⟨by rw [u0, u1, u2, u5]; exact a0, ?_, ?_, ?_, ?_, ?_, ?_⟩
  · rw [u0, u1, xFr_E hf rfl, xFr_E hf rfl, xFr_E hf rfl, xFr_E hf rfl]
    exact a1
  · intro s s0 s1
    rw [u0, u1] at s1 ⊢
    rw [xFr_E hf rfl]
    exact a2 s s0 s1
  · rw [u2, xFr_E hf rfl]
    refine ⟨a3.1, fun k k0 k1 => ?_⟩
    rw [u (136 + k) (by omega) (by omega), u (152 + k) (by omega) (by omega), xFr_E hf rfl, xFr_E hf rfl]
    exact a3.2 k k0 k1
  · intro k k0 k1
    have w := a4 k k0 k1
    rw [u (72 + k) (by omega) (by omega), u (104 + k) (by omega) (by omega), xFr_E (a := 29) (i := k) hf rfl, xFr_E (a := 30) (i := k) hf rfl]
    by_cases e : k = g
    · subst e
      refine ⟨?_, ?_, w.2.2.1, w.2.2.2⟩
      · rw [uS_n (by omega), uS_e rfl, h1]
      · rw [uS_e rfl, h3]
    · refine ⟨?_, ?_, w.2.2.1, w.2.2.2⟩
      · rw [u (8 + k) (by omega) (by omega), h2 k k0 e]
        exact w.1
      · rw [u (40 + k) (by omega) (by omega), h4 k k0 e]
        exact w.2.1
  · rw [u5, xFr_E hf rfl, xFr_E hf rfl]
    exact a5
  · intro k k0 k1
    rw [u5] at k1
    rw [u (460 + k) (by omega) (by omega), xFr_E hf rfl]
    exact a6 k k0 k1
def xΨfrs17 (_ : Nat → Int) (E E2 : zyEm) (r : Int) : Prop := ∀ S, xAb17 E S → xOut17 (pBind (pSwitch (xE E 36) (xE E 35 4) (xE E 35 6) S) (pSem (xE E 36) (xE E 35 4))) E2 r

def xΨfrs17S (x : Nat → Int) (E E2 : zyEm) (r : Int) : Prop := xΨfrs17 x E E2 r ∧ (¬ r = 0 → (xE E2 35 2 = xE E 35 2 ∧ xE E2 35 3 = xE E 35 3))
noncomputable def fpfrs17 : zyR := [(35, 2, 3), (35, 5, 8), (27, 0, 30), (28, 0, 30)]
theorem zyfrs17_run : zyrS zymc zxi62 (62, 0, 0, 2, 0) 4 zpfrs17 (fun _ _ => []) zFfrs17 zSfrs17 zXfrs17 zRfrs17 7 = true := by decide +kernel
theorem zyfrs17_ck : zyAll (fun i => xsubR (zFfrs17 i) fpfrs17 && ((zXfrs17 i).all xckX && (zRfrs17 i).all (fun x => xckX x && xrtB true x))) 7 = true := by decide +kernel
def xIfrs17 (i : Nat) (x0 : Nat → Int) (E0 : zyEm) (v : Nat → Int) (E : zyEm) : Prop := if i = 0 then ((E = E0) ∧ (xE E 35 2 = xE E0 35 2 ∧ xE E 35 3 = xE E0 35 3)) else if i = 1 then ((xTN (xE E0 36) (xE E0 35 4) (xE E0 35 6) 0 (xE E0 19 3 - 1) E (v 5) ∧ (∀ k, xE E 27 k = xE E0 27 k) ∧ (∀ k, xE E 28 k = xE E0 28 k)) ∧ (¬ (v 5) = 0 → (xE E 35 2 = xE E0 35 2 ∧ xE E 35 3 = xE E0 35 3))) else if i = 2 then (((0 ≤ (v 2) ∧ (v 2) < xE E0 19 3) ∧ ∃ p1, p1 ≤ (xE E0 35 4) ∧ (∀ S, xAb17 E0 S → pSwitch (xE E0 36) (xE E0 35 4) (xE E0 35 6) S = pNum (xE E0 36) (xE E0 35 4) p1 0 1 (fun b p2 => pBits (xE E0 36) (xE E0 35 4) S (v 2) 3 p2 1 b)) ∧ xTN (xE E0 36) (xE E0 35 4) p1 0 1 E (v 5) ∧ (∀ k, xE E 27 k = xE E0 27 k) ∧ (∀ k, xE E 28 k = xE E0 28 k)) ∧ (¬ (v 5) = 0 → (xE E 35 2 = xE E0 35 2 ∧ xE E 35 3 = xE E0 35 3))) else if i = 3 then (((0 ≤ (v 2) ∧ (v 2) < xE E0 19 3) ∧ xE E 35 6 ≤ (xE E0 35 4) ∧ ((∀ k, xE E 27 k = xE E0 27 k) ∧ (∀ k, xE E 28 k = xE E0 28 k)) ∧ ((1 ≤ (v 4) ∧ (v 4) ≤ 4 ∧ ∀ S, xAb17 E0 S → pSwitch (xE E0 36) (xE E0 35 4) (xE E0 35 6) S = pBits (xE E0 36) (xE E0 35 4) S (v 2) (4 - (v 4)).toNat (xE E 35 6) (v 4) (v 3)) ∨ ((v 4) = 5 ∧ ∀ S, xAb17 E0 S → pSwitch (xE E0 36) (xE E0 35 4) (xE E0 35 6) S = .error (6, xE E 35 5)))) ∧ (xE E 35 2 = xE E0 35 2 ∧ xE E 35 3 = xE E0 35 3)) else if i = 4 then (((0 ≤ (v 2) ∧ (v 2) < xE E0 19 3) ∧ (1 ≤ (v 4) ∧ (v 4) ≤ 4) ∧ ∃ p1, p1 ≤ (xE E0 35 4) ∧ (∀ S, xAb17 E0 S → pSwitch (xE E0 36) (xE E0 35 4) (xE E0 35 6) S = pBits (xE E0 36) (xE E0 35 4) S (v 2) (4 - (v 4)).toNat p1 (v 4) (v 3)) ∧ xAD (xE E0 36) (xE E0 35 4) p1 E ∧ (∀ k, xE E 27 k = xE E0 27 k) ∧ (∀ k, xE E 28 k = xE E0 28 k)) ∧ (xE E 35 2 = xE E0 35 2 ∧ xE E 35 3 = xE E0 35 3)) else if i = 5 then (((0 ≤ (v 2) ∧ (v 2) < xE E0 19 3) ∧ (∀ S, xAb17 E0 S → pBind (pSwitch (xE E0 36) (xE E0 35 4) (xE E0 35 6) S) (pSem (xE E0 36) (xE E0 35 4)) = .ok (xE E 35 6, uS (uS S (8 + (v 2)) (v 3)) (40 + (v 2)) (v 4))) ∧ xE E 27 (v 2) = (v 3) ∧ (∀ k, 0 ≤ k → ¬ k = (v 2) → xE E 27 k = xE E0 27 k) ∧ ∀ k, xE E 28 k = xE E0 28 k) ∧ (xE E 35 2 = xE E0 35 2 ∧ xE E 35 3 = xE E0 35 3)) else ((∃ g b l, (0 ≤ g ∧ g < xE E0 19 3) ∧ (∀ S, xAb17 E0 S → pBind (pSwitch (xE E0 36) (xE E0 35 4) (xE E0 35 6) S) (pSem (xE E0 36) (xE E0 35 4)) = .ok (xE E 35 6, uS (uS S (8 + g) b) (40 + g) l)) ∧ xE E 27 g = b ∧ (∀ k, 0 ≤ k → ¬ k = g → xE E 27 k = xE E0 27 k) ∧ xE E 28 g = l ∧ (∀ k, 0 ≤ k → ¬ k = g → xE E 28 k = xE E0 28 k)) ∧ (xE E 35 2 = xE E0 35 2 ∧ xE E 35 3 = xE E0 35 3))
def xMfrs17 (i : Nat) (x0 : Nat → Int) (E0 : zyEm) (v : Nat → Int) (E : zyEm) : Nat := if i = 0 then (100) else if i = 1 then (99) else if i = 2 then (98) else if i = 3 then (50 + 2 * (10 - (v 4)).toNat) else if i = 4 then (49 + 2 * (10 - (v 4)).toNat) else if i = 5 then (2) else (1)
theorem xRs17 {l : Launch} {en : zEn} {me : zMe} (hen : zG zxMeta 62 = some en) (hme : zG zMeth 62 = some me) : xFc l zymc en me 4 [35, 18] 0 fpfrs17 true xΦrd17 xΨfrs17S := by
  have een : zG zxMeta 62 = some (zxi62, 2, 5, 5, 62, 0, 0, 2, 0) := rfl
  obtain ⟨me1, hme1, hOK⟩ := zall hen
  rw [hme] at hme1
  cases hme1
  rw [een] at hen
  cases hen
  have hr := zyfrs17_run
  have hck := fun i hi => zyAll_iff zyfrs17_ck i hi
  simp only [Bool.and_eq_true] at hck
  obtain ⟨meftn, hmeftn, -⟩ := zall (show zG zxMeta 69 = some (zxi69, 3, 3, 5, 69, 0, 0, 2, 0) from rfl)
  have hftn := xTn (l := l) (show zG zxMeta 69 = some (zxi69, 3, 3, 5, 69, 0, 0, 2, 0) from rfl) hmeftn
  obtain ⟨mefad, hmefad, -⟩ := zall (show zG zxMeta 73 = some (zxi73, 1, 1, 5, 73, 0, 0, 0, 0) from rfl)
  have hfad := xAd (l := l) (show zG zxMeta 73 = some (zxi73, 1, 1, 5, 73, 0, 0, 0, 0) from rfl) hmefad
  intro B
  refine xcut (mi := zymc) (B := B) hOK rfl rfl (ι := Fin 7) (fun i => zpfrs17 i.val) (fun _ _ => []) (fun i => zFfrs17 i.val) (fun i => zSfrs17 i.val) (fun i => zXfrs17 i.val) (fun i => zRfrs17 i.val) (fun i y2 ct en2 me2 h => by cases h) 200000 (fun i => zyAll_iff hr i.val i.isLt) (fun i => (hck i.val i.isLt).1) (fun i => (hck i.val i.isLt).2.1) (fun i => (hck i.val i.isLt).2.2) ⟨0, by decide⟩ ⟨rfl, rfl, rfl, rfl⟩ ⟨by decide, by decide⟩ (fun i x0 E0 v E => xIfrs17 i.val x0 E0 v E) (fun i x0 E0 v E => xMfrs17 i.val x0 E0 v E) ?_ ?_ ?_
  · intro x0 E hx0 hT hΦ
    have hΦ : xΦrd17 x0 E := hΦ
    refine ⟨fun k p hp => ?_, ?_⟩
    · have hk : k < 5 := (List.getElem?_eq_some_iff.mp hp).1
      have hk : k = 0 ∨ k = 1 ∨ k = 2 ∨ k = 3 ∨ k = 4 := by omega
      rcases hk with rfl | rfl | rfl | rfl | rfl
      · have hp : some (0, 4294967295) = some p := hp
        cases hp
        show ((0 : Nat) : Int) ≤ 0 + 2147483648 ∧ 0 + 2147483648 ≤ ((4294967295 : Nat) : Int)
        omega
      · have hp : some (0, 4294967295) = some p := hp
        cases hp
        show ((0 : Nat) : Int) ≤ 0 + 2147483648 ∧ 0 + 2147483648 ≤ ((4294967295 : Nat) : Int)
        omega
      · have hp : some (0, 4294967295) = some p := hp
        cases hp
        show ((0 : Nat) : Int) ≤ x0 0 + 2147483648 ∧ x0 0 + 2147483648 ≤ ((4294967295 : Nat) : Int)
        have hx := hx0 0
        omega
      · have hp : some (0, 4294967295) = some p := hp
        cases hp
        show ((0 : Nat) : Int) ≤ x0 1 + 2147483648 ∧ x0 1 + 2147483648 ≤ ((4294967295 : Nat) : Int)
        have hx := hx0 1
        omega
      · have hp : some (0, 4294967295) = some p := hp
        cases hp
        show ((0 : Nat) : Int) ≤ x0 2 + 2147483648 ∧ x0 2 + 2147483648 ≤ ((4294967295 : Nat) : Int)
        have hx := hx0 2
        omega
    · show (E = E) ∧ (xE E 35 2 = xE E 35 2 ∧ xE E 35 3 = xE E 35 3)
      refine ⟨?_, ⟨rfl, rfl⟩⟩
      rfl
  · intro x0 s Wg hRu hrx hT0 hΦ i v H hT hrv hInv hKc hFr0 hIH x hx ρ2 v2 N2 H2 locs lsB stA hAt hB hv hr2 hXs hag hfr hFr hT2
    rcases i with ⟨i, hi⟩
    have hi2 : i = 0 ∨ i = 1 ∨ i = 2 ∨ i = 3 ∨ i = 4 ∨ i = 5 ∨ i = 6 := by omega
    rcases hi2 with rfl | rfl | rfl | rfl | rfl | rfl | rfl
    · have hx : x ∈ [zxfrs17_ax0] := hx
      have hag : ∀ k, k < 5 → v2 k = v k := hag
      have hfr : xFr [] _ _ := hfr
      have ex := List.mem_singleton.mp hx
      subst ex
      obtain ⟨hF, hBd, hM⟩ := hXs
      have b0 : ((2147483648 : Nat) : Int) ≤ (v2 5) + 2147483648 ∧ (v2 5) + 2147483648 ≤ ((2147483679 : Nat) : Int) := xXb hBd 0 rfl
      have b1 : ((2147483647 : Nat) : Int) ≤ (v2 5 + (-1)) + 2147483648 ∧ (v2 5 + (-1)) + 2147483648 ≤ ((2147483678 : Nat) : Int) := xXb hBd 1 rfl
      have f0 : (0 : Int) ≤ 3 ∧ xE (zyEl zymc B H) 19 3 = (v2 5) := xXf hF 0 rfl
      have e35_4 : xE (zyEl zymc B H2) 35 4 = xE (zyEl zymc B H) 35 4 := xFr_E hfr rfl
      have q35_4 : xE (zyEl zymc B H) 35 4 = xE (zyEl zymc B s.heap) 35 4 := xFr_E hFr0 rfl
      have e35_5 : xE (zyEl zymc B H2) 35 5 = xE (zyEl zymc B H) 35 5 := xFr_E hfr rfl
      have e35_6 : xE (zyEl zymc B H2) 35 6 = xE (zyEl zymc B H) 35 6 := xFr_E hfr rfl
      have e35_7 : xE (zyEl zymc B H2) 35 7 = xE (zyEl zymc B H) 35 7 := xFr_E hfr rfl
      have e35_8 : xE (zyEl zymc B H2) 35 8 = xE (zyEl zymc B H) 35 8 := xFr_E hfr rfl
      have e35_2 : xE (zyEl zymc B H2) 35 2 = xE (zyEl zymc B H) 35 2 := xFr_E hfr rfl
      have e35_3 : xE (zyEl zymc B H2) 35 3 = xE (zyEl zymc B H) 35 3 := xFr_E hfr rfl
      have e19_3 : xE (zyEl zymc B H2) 19 3 = xE (zyEl zymc B H) 19 3 := xFr_E hfr rfl
      have q19_3 : xE (zyEl zymc B H) 19 3 = xE (zyEl zymc B s.heap) 19 3 := xFr_E hFr0 rfl
      have e36 : ∀ i, xE (zyEl zymc B H2) 36 i = xE (zyEl zymc B H) 36 i := fun i => xFr_E hfr rfl
      have q36 : ∀ i, xE (zyEl zymc B H) 36 i = xE (zyEl zymc B s.heap) 36 i := fun i => xFr_E hFr0 rfl
      have e27 : ∀ i, xE (zyEl zymc B H2) 27 i = xE (zyEl zymc B H) 27 i := fun i => xFr_E hfr rfl
      have e28 : ∀ i, xE (zyEl zymc B H2) 28 i = xE (zyEl zymc B H) 28 i := fun i => xFr_E hfr rfl
      have y19_3 : ((2147483648 : Nat) : Int) ≤ xE (zyEl zymc B s.heap) 19 3 + 2147483648 ∧ xE (zyEl zymc B s.heap) 19 3 + 2147483648 ≤ ((2147483679 : Nat) : Int) := xTyF hT0 19 3 3 rfl rfl rfl rfl rfl rfl
      have hI : ((zyEl zymc B H) = (zyEl zymc B s.heap)) ∧ (xE (zyEl zymc B H) 35 2 = xE (zyEl zymc B s.heap) 35 2 ∧ xE (zyEl zymc B H) 35 3 = xE (zyEl zymc B s.heap) 35 3) := hInv
      obtain ⟨hI, hSm⟩ := hI
      have q35_5 : xE (zyEl zymc B H) 35 5 = xE (zyEl zymc B s.heap) 35 5 := by rw [hI]
      have q35_6 : xE (zyEl zymc B H) 35 6 = xE (zyEl zymc B s.heap) 35 6 := by rw [hI]
      have q35_7 : xE (zyEl zymc B H) 35 7 = xE (zyEl zymc B s.heap) 35 7 := by rw [hI]
      have q35_8 : xE (zyEl zymc B H) 35 8 = xE (zyEl zymc B s.heap) 35 8 := by rw [hI]
      have q35_2 : xE (zyEl zymc B H) 35 2 = xE (zyEl zymc B s.heap) 35 2 := by rw [hI]
      have q35_3 : xE (zyEl zymc B H) 35 3 = xE (zyEl zymc B s.heap) 35 3 := by rw [hI]
      have q27 : ∀ i, xE (zyEl zymc B H) 27 i = xE (zyEl zymc B s.heap) 27 i := fun i => by rw [hI]
      have q28 : ∀ i, xE (zyEl zymc B H) 28 i = xE (zyEl zymc B s.heap) 28 i := fun i => by rw [hI]
      have tt : xE (zyEl zymc B H2) 36 = xE (zyEl zymc B s.heap) 36 := funext fun i => (e36 i).trans (q36 i)
      have tn : xE (zyEl zymc B H2) 35 4 = xE (zyEl zymc B s.heap) 35 4 := by omega
      refine xCa hRu hIH hAt hB hv hFr (hftn B) (ix := 60) (ax := 1104) rfl rfl rfl hmeftn ⟨_, rfl, rfl, by decide⟩ ⟨rfl, rfl, rfl⟩ (by decide) [0, 206158430201] [] [0, (v2 5 + (-1))] rfl ⟨rfl, rfl⟩ (by decide +kernel) (xcs_c rfl (xcs_c rfl xcs_n)) (by decide +kernel) ?_ (fun H3 r hT3 hf3 hFr3 hr3 hΨ3 => ?_)
      · show xΦad (xfv [0, (v2 5 + (-1))]) (zyEl zymc B H2)
        have hP := hΦ.1
        unfold xΦad
        omega
      · have hΨ3 : xΨftnS (xfv [0, (v2 5 + (-1))]) (zyEl zymc B H2) (zyEl zymc B H3) r := hΨ3
        obtain ⟨hΨ3, hS3⟩ := hΨ3
        have hΨ3 : xΨtn (xfv [0, (v2 5 + (-1))]) (zyEl zymc B H2) (zyEl zymc B H3) r := hΨ3
        have hS3 : (¬ (r) = 0 → (xE (zyEl zymc B H3) 35 2 = xE (zyEl zymc B H2) 35 2 ∧ xE (zyEl zymc B H3) 35 3 = xE (zyEl zymc B H2) 35 3)) := hS3
        have d35_4 : xE (zyEl zymc B H3) 35 4 = xE (zyEl zymc B H2) 35 4 := xFr_E hf3 rfl
        have d19_3 : xE (zyEl zymc B H3) 19 3 = xE (zyEl zymc B H2) 19 3 := xFr_E hf3 rfl
        have d36 : ∀ i, xE (zyEl zymc B H3) 36 i = xE (zyEl zymc B H2) 36 i := fun i => xFr_E hf3 rfl
        have d27 : ∀ i, xE (zyEl zymc B H3) 27 i = xE (zyEl zymc B H2) 27 i := fun i => xFr_E hf3 rfl
        have d28 : ∀ i, xE (zyEl zymc B H3) 28 i = xE (zyEl zymc B H2) 28 i := fun i => xFr_E hf3 rfl
        unfold xΨtn at hΨ3
        rw [tt, tn, show xE (zyEl zymc B H2) 35 6 = xE (zyEl zymc B s.heap) 35 6 by omega, show xfv [0, (v2 5 + (-1))] 1 = xE (zyEl zymc B s.heap) 19 3 - 1 by show (v2 5 + (-1)) = _; omega] at hΨ3
        have hr01 := xtn_r hΨ3
        refine ⟨⟨1, by decide⟩, [0, 0, 0, 0, 0], [0, 0, 0, 0, 0, r], rfl, ⟨by decide +kernel, ⟨rfl, by decide +kernel⟩, (xcs_c rfl (xcs_c rfl (xcs_c rfl (xcs_c rfl (xcs_c rfl xcs_n))))), (xe_0 (xe_0 (xe_0 (xe_0 (xe_0 (xe_c (by omega) (by omega) rfl xe_n)))))), xkq_n⟩, (by rw [if_pos rfl]; exact ⟨5, [], rfl, by decide, rfl, xst_n⟩), ?_, ?_⟩
        · show (xTN (xE (zyEl zymc B s.heap) 36) (xE (zyEl zymc B s.heap) 35 4) (xE (zyEl zymc B s.heap) 35 6) 0 (xE (zyEl zymc B s.heap) 19 3 - 1) (zyEl zymc B H3) (r : Int) ∧ (∀ k, xE (zyEl zymc B H3) 27 k = xE (zyEl zymc B s.heap) 27 k) ∧ (∀ k, xE (zyEl zymc B H3) 28 k = xE (zyEl zymc B s.heap) 28 k)) ∧ (¬ (r : Int) = 0 → (xE (zyEl zymc B H3) 35 2 = xE (zyEl zymc B s.heap) 35 2 ∧ xE (zyEl zymc B H3) 35 3 = xE (zyEl zymc B s.heap) 35 3))
          refine ⟨?_, ?_⟩
          · skip
            exact ⟨hΨ3, ⟨fun k => by rw [d27 k, e27 k, q27 k], fun k => by rw [d28 k, e28 k, q28 k]⟩⟩
          · omega
        · show 99 < 100
          omega
    · have hx : x ∈ [zxfrs17_bx0] := hx
      have hag : ∀ k, k < 6 → v2 k = v k := hag
      have hfr : xFr [] _ _ := hfr
      have ex := List.mem_singleton.mp hx
      subst ex
      obtain ⟨hF, hBd, hM⟩ := hXs
      have r6 := hr2 6
      have g5 : v2 5 = v 5 := hag 5 (by decide)
      have b0 : ((2147483649 : Nat) : Int) ≤ (v2 5) + 2147483648 ∧ (v2 5) + 2147483648 ≤ ((2147483649 : Nat) : Int) := xXb hBd 0 rfl
      have f0 : ¬ (v2 5) = 0 := xXf hF 0 rfl
      have f1 : (0 : Int) ≤ 8 ∧ xE (zyEl zymc B H) 35 8 = (v2 6) := xXf hF 1 rfl
      have e35_4 : xE (zyEl zymc B H2) 35 4 = xE (zyEl zymc B H) 35 4 := xFr_E hfr rfl
      have q35_4 : xE (zyEl zymc B H) 35 4 = xE (zyEl zymc B s.heap) 35 4 := xFr_E hFr0 rfl
      have e35_5 : xE (zyEl zymc B H2) 35 5 = xE (zyEl zymc B H) 35 5 := xFr_E hfr rfl
      have e35_6 : xE (zyEl zymc B H2) 35 6 = xE (zyEl zymc B H) 35 6 := xFr_E hfr rfl
      have e35_7 : xE (zyEl zymc B H2) 35 7 = xE (zyEl zymc B H) 35 7 := xFr_E hfr rfl
      have e35_8 : xE (zyEl zymc B H2) 35 8 = xE (zyEl zymc B H) 35 8 := xFr_E hfr rfl
      have e35_2 : xE (zyEl zymc B H2) 35 2 = xE (zyEl zymc B H) 35 2 := xFr_E hfr rfl
      have e35_3 : xE (zyEl zymc B H2) 35 3 = xE (zyEl zymc B H) 35 3 := xFr_E hfr rfl
      have e19_3 : xE (zyEl zymc B H2) 19 3 = xE (zyEl zymc B H) 19 3 := xFr_E hfr rfl
      have q19_3 : xE (zyEl zymc B H) 19 3 = xE (zyEl zymc B s.heap) 19 3 := xFr_E hFr0 rfl
      have e36 : ∀ i, xE (zyEl zymc B H2) 36 i = xE (zyEl zymc B H) 36 i := fun i => xFr_E hfr rfl
      have q36 : ∀ i, xE (zyEl zymc B H) 36 i = xE (zyEl zymc B s.heap) 36 i := fun i => xFr_E hFr0 rfl
      have e27 : ∀ i, xE (zyEl zymc B H2) 27 i = xE (zyEl zymc B H) 27 i := fun i => xFr_E hfr rfl
      have e28 : ∀ i, xE (zyEl zymc B H2) 28 i = xE (zyEl zymc B H) 28 i := fun i => xFr_E hfr rfl
      have y19_3 : ((2147483648 : Nat) : Int) ≤ xE (zyEl zymc B s.heap) 19 3 + 2147483648 ∧ xE (zyEl zymc B s.heap) 19 3 + 2147483648 ≤ ((2147483679 : Nat) : Int) := xTyF hT0 19 3 3 rfl rfl rfl rfl rfl rfl
      have hI : (xTN (xE (zyEl zymc B s.heap) 36) (xE (zyEl zymc B s.heap) 35 4) (xE (zyEl zymc B s.heap) 35 6) 0 (xE (zyEl zymc B s.heap) 19 3 - 1) (zyEl zymc B H) (v 5) ∧ (∀ k, xE (zyEl zymc B H) 27 k = xE (zyEl zymc B s.heap) 27 k) ∧ (∀ k, xE (zyEl zymc B H) 28 k = xE (zyEl zymc B s.heap) 28 k)) ∧ (¬ (v 5) = 0 → (xE (zyEl zymc B H) 35 2 = xE (zyEl zymc B s.heap) 35 2 ∧ xE (zyEl zymc B H) 35 3 = xE (zyEl zymc B s.heap) 35 3)) := hInv
      obtain ⟨hI, hSm⟩ := hI
      obtain ⟨i1, j0, j1⟩ := hI
      have tt : xE (zyEl zymc B H2) 36 = xE (zyEl zymc B s.heap) 36 := funext fun i => (e36 i).trans (q36 i)
      have tn : xE (zyEl zymc B H2) 35 4 = xE (zyEl zymc B s.heap) 35 4 := by omega
      obtain ⟨c1, c2, c3, c4, c5, c6, c7⟩ := xtn_1 i1 (by omega)
      have hPos := hΦ.1
      have hb := tNx_b (T := xE (zyEl zymc B s.heap) 36) (n := xE (zyEl zymc B s.heap) 35 4) (p := xE (zyEl zymc B s.heap) 35 6) hPos
      refine xCa hRu hIH hAt hB hv hFr (hftn B) (ix := 60) (ax := 1104) rfl rfl rfl hmeftn ⟨_, rfl, rfl, by decide⟩ ⟨rfl, rfl, rfl⟩ (by decide) [0, 8] [] [0, 1] rfl ⟨rfl, rfl⟩ (by decide +kernel) (xcs_c rfl (xcs_c rfl xcs_n)) (by decide +kernel) ?_ (fun H3 r hT3 hf3 hFr3 hr3 hΨ3 => ?_)
      · show xΦad (xfv [0, 1]) (zyEl zymc B H2)
        unfold xΦad
        omega
      · have hΨ3 : xΨftnS (xfv [0, 1]) (zyEl zymc B H2) (zyEl zymc B H3) r := hΨ3
        obtain ⟨hΨ3, hS3⟩ := hΨ3
        have hΨ3 : xΨtn (xfv [0, 1]) (zyEl zymc B H2) (zyEl zymc B H3) r := hΨ3
        have hS3 : (¬ (r) = 0 → (xE (zyEl zymc B H3) 35 2 = xE (zyEl zymc B H2) 35 2 ∧ xE (zyEl zymc B H3) 35 3 = xE (zyEl zymc B H2) 35 3)) := hS3
        have d35_4 : xE (zyEl zymc B H3) 35 4 = xE (zyEl zymc B H2) 35 4 := xFr_E hf3 rfl
        have d19_3 : xE (zyEl zymc B H3) 19 3 = xE (zyEl zymc B H2) 19 3 := xFr_E hf3 rfl
        have d36 : ∀ i, xE (zyEl zymc B H3) 36 i = xE (zyEl zymc B H2) 36 i := fun i => xFr_E hf3 rfl
        have d27 : ∀ i, xE (zyEl zymc B H3) 27 i = xE (zyEl zymc B H2) 27 i := fun i => xFr_E hf3 rfl
        have d28 : ∀ i, xE (zyEl zymc B H3) 28 i = xE (zyEl zymc B H2) 28 i := fun i => xFr_E hf3 rfl
        unfold xΨtn at hΨ3
        rw [tt, tn] at hΨ3
        have hr01 := xtn_r hΨ3
        refine ⟨⟨2, by decide⟩, [0, 0, 206158430209, 0, 0], [0, 0, (v2 6), 0, 0, r], rfl, ⟨by decide +kernel, ⟨rfl, by decide +kernel⟩, (xcs_c rfl (xcs_c rfl (xcs_c rfl (xcs_c rfl (xcs_c rfl xcs_n))))), (xe_0 (xe_0 (xe_c (by omega) (by omega) rfl (xe_0 (xe_0 (xe_c (by omega) (by omega) rfl xe_n)))))), xkq_n⟩, (by rw [if_pos rfl]; exact ⟨5, [], rfl, by decide, rfl, xst_n⟩), ?_, ?_⟩
        · show ((0 ≤ ((v2 6) : Int) ∧ ((v2 6) : Int) < xE (zyEl zymc B s.heap) 19 3) ∧ ∃ p1, p1 ≤ (xE (zyEl zymc B s.heap) 35 4) ∧ (∀ S, xAb17 (zyEl zymc B s.heap) S → pSwitch (xE (zyEl zymc B s.heap) 36) (xE (zyEl zymc B s.heap) 35 4) (xE (zyEl zymc B s.heap) 35 6) S = pNum (xE (zyEl zymc B s.heap) 36) (xE (zyEl zymc B s.heap) 35 4) p1 0 1 (fun b p2 => pBits (xE (zyEl zymc B s.heap) 36) (xE (zyEl zymc B s.heap) 35 4) S ((v2 6) : Int) 3 p2 1 b)) ∧ xTN (xE (zyEl zymc B s.heap) 36) (xE (zyEl zymc B s.heap) 35 4) p1 0 1 (zyEl zymc B H3) (r : Int) ∧ (∀ k, xE (zyEl zymc B H3) 27 k = xE (zyEl zymc B s.heap) 27 k) ∧ (∀ k, xE (zyEl zymc B H3) 28 k = xE (zyEl zymc B s.heap) 28 k)) ∧ (¬ (r : Int) = 0 → (xE (zyEl zymc B H3) 35 2 = xE (zyEl zymc B s.heap) 35 2 ∧ xE (zyEl zymc B H3) 35 3 = xE (zyEl zymc B s.heap) 35 3))
          refine ⟨?_, ?_⟩
          · skip
            refine ⟨by omega, xE (zyEl zymc B H2) 35 6, by omega, fun S hS => ?_, hΨ3, fun k => by rw [d27 k, e27 k, j0 k], fun k => by rw [d28 k, e28 k, j1 k]⟩
            unfold pSwitch
            rw [← hS.2.1.2.2.2, c7, show xE (zyEl zymc B H2) 35 6 = xE (zyEl zymc B H) 35 6 by omega, show xE (zyEl zymc B H) 35 8 = (v2 6) by omega]
          · omega
        · show 98 < 99
          omega
    · have hx : x ∈ [zxfrs17_cx0] := hx
      have hag : ∀ k, k < 6 → v2 k = v k := hag
      have hfr : xFr [] _ _ := hfr
      have ex := List.mem_singleton.mp hx
      subst ex
      obtain ⟨hF, hBd, hM⟩ := hXs
      have r6 := hr2 6
      have g2 : v2 2 = v 2 := hag 2 (by decide)
      have g5 : v2 5 = v 5 := hag 5 (by decide)
      have b0 : ((2147483648 : Nat) : Int) ≤ (v2 2) + 2147483648 ∧ (v2 2) + 2147483648 ≤ ((2147483678 : Nat) : Int) := xXb hBd 0 rfl
      have b1 : ((2147483649 : Nat) : Int) ≤ (v2 5) + 2147483648 ∧ (v2 5) + 2147483648 ≤ ((2147483649 : Nat) : Int) := xXb hBd 1 rfl
      have f0 : ¬ (v2 5) = 0 := xXf hF 0 rfl
      have f1 : (0 : Int) ≤ 8 ∧ xE (zyEl zymc B H) 35 8 = (v2 6) := xXf hF 1 rfl
      have e35_4 : xE (zyEl zymc B H2) 35 4 = xE (zyEl zymc B H) 35 4 := xFr_E hfr rfl
      have q35_4 : xE (zyEl zymc B H) 35 4 = xE (zyEl zymc B s.heap) 35 4 := xFr_E hFr0 rfl
      have e35_5 : xE (zyEl zymc B H2) 35 5 = xE (zyEl zymc B H) 35 5 := xFr_E hfr rfl
      have e35_6 : xE (zyEl zymc B H2) 35 6 = xE (zyEl zymc B H) 35 6 := xFr_E hfr rfl
      have e35_7 : xE (zyEl zymc B H2) 35 7 = xE (zyEl zymc B H) 35 7 := xFr_E hfr rfl
      have e35_8 : xE (zyEl zymc B H2) 35 8 = xE (zyEl zymc B H) 35 8 := xFr_E hfr rfl
      have e35_2 : xE (zyEl zymc B H2) 35 2 = xE (zyEl zymc B H) 35 2 := xFr_E hfr rfl
      have e35_3 : xE (zyEl zymc B H2) 35 3 = xE (zyEl zymc B H) 35 3 := xFr_E hfr rfl
      have e19_3 : xE (zyEl zymc B H2) 19 3 = xE (zyEl zymc B H) 19 3 := xFr_E hfr rfl
      have q19_3 : xE (zyEl zymc B H) 19 3 = xE (zyEl zymc B s.heap) 19 3 := xFr_E hFr0 rfl
      have e36 : ∀ i, xE (zyEl zymc B H2) 36 i = xE (zyEl zymc B H) 36 i := fun i => xFr_E hfr rfl
      have q36 : ∀ i, xE (zyEl zymc B H) 36 i = xE (zyEl zymc B s.heap) 36 i := fun i => xFr_E hFr0 rfl
      have e27 : ∀ i, xE (zyEl zymc B H2) 27 i = xE (zyEl zymc B H) 27 i := fun i => xFr_E hfr rfl
      have e28 : ∀ i, xE (zyEl zymc B H2) 28 i = xE (zyEl zymc B H) 28 i := fun i => xFr_E hfr rfl
      have y19_3 : ((2147483648 : Nat) : Int) ≤ xE (zyEl zymc B s.heap) 19 3 + 2147483648 ∧ xE (zyEl zymc B s.heap) 19 3 + 2147483648 ≤ ((2147483679 : Nat) : Int) := xTyF hT0 19 3 3 rfl rfl rfl rfl rfl rfl
      have hI : ((0 ≤ (v 2) ∧ (v 2) < xE (zyEl zymc B s.heap) 19 3) ∧ ∃ p1, p1 ≤ (xE (zyEl zymc B s.heap) 35 4) ∧ (∀ S, xAb17 (zyEl zymc B s.heap) S → pSwitch (xE (zyEl zymc B s.heap) 36) (xE (zyEl zymc B s.heap) 35 4) (xE (zyEl zymc B s.heap) 35 6) S = pNum (xE (zyEl zymc B s.heap) 36) (xE (zyEl zymc B s.heap) 35 4) p1 0 1 (fun b p2 => pBits (xE (zyEl zymc B s.heap) 36) (xE (zyEl zymc B s.heap) 35 4) S (v 2) 3 p2 1 b)) ∧ xTN (xE (zyEl zymc B s.heap) 36) (xE (zyEl zymc B s.heap) 35 4) p1 0 1 (zyEl zymc B H) (v 5) ∧ (∀ k, xE (zyEl zymc B H) 27 k = xE (zyEl zymc B s.heap) 27 k) ∧ (∀ k, xE (zyEl zymc B H) 28 k = xE (zyEl zymc B s.heap) 28 k)) ∧ (¬ (v 5) = 0 → (xE (zyEl zymc B H) 35 2 = xE (zyEl zymc B s.heap) 35 2 ∧ xE (zyEl zymc B H) 35 3 = xE (zyEl zymc B s.heap) 35 3)) := hInv
      obtain ⟨hI, hSm⟩ := hI
      obtain ⟨i1, p1, i0, i2, i3, j0, j1⟩ := hI
      have hb := tNx_b (T := xE (zyEl zymc B s.heap) 36) (n := xE (zyEl zymc B s.heap) 35 4) (p := p1) i0
      obtain ⟨c1, c2, c3, c4, c5, c6, c7⟩ := xtn_1 i3 (by omega)
      have z35_2 : ((2147483647 : Nat) : Int) ≤ xE (zyEl zymc B H2) 35 2 + 2147483648 ∧ xE (zyEl zymc B H2) 35 2 + 2147483648 ≤ ((2147483654 : Nat) : Int) := xTyF hT2 35 2 2 rfl rfl rfl rfl rfl rfl
      have z35_3 : ((2147483647 : Nat) : Int) ≤ xE (zyEl zymc B H2) 35 3 + 2147483648 ∧ xE (zyEl zymc B H2) 35 3 + 2147483648 ≤ ((2147484548 : Nat) : Int) := xTyF hT2 35 3 3 rfl rfl rfl rfl rfl rfl
      refine xGo hIH hAt hB hv hFr ⟨3, by decide⟩ [0, 0, 68719476737, 206158430209, 8] [0, 0, (v2 2), (v2 6), 1, xE (zyEl zymc B H2) 35 2, xE (zyEl zymc B H2) 35 3] rfl ⟨by decide +kernel, ⟨rfl, by decide +kernel⟩, (xcs_c rfl (xcs_c rfl (xcs_c rfl (xcs_c rfl (xcs_c rfl xcs_n))))), (xe_0 (xe_0 (xe_c (by omega) (by omega) rfl (xe_c (by omega) (by omega) rfl (xe_c (by omega) (by omega) rfl (xe_c (by omega) (by omega) rfl (xe_c (by omega) (by omega) rfl xe_n))))))), (xkq_c hT2 35 2 (q := 2) rfl rfl rfl rfl rfl rfl rfl rfl rfl rfl rfl (xkq_c hT2 35 3 (q := 3) rfl rfl rfl rfl rfl rfl rfl rfl rfl rfl rfl xkq_n))⟩ xst_n ?_ ?_
      · show ((0 ≤ ((v2 2) : Int) ∧ ((v2 2) : Int) < xE (zyEl zymc B s.heap) 19 3) ∧ xE (zyEl zymc B H2) 35 6 ≤ (xE (zyEl zymc B s.heap) 35 4) ∧ ((∀ k, xE (zyEl zymc B H2) 27 k = xE (zyEl zymc B s.heap) 27 k) ∧ (∀ k, xE (zyEl zymc B H2) 28 k = xE (zyEl zymc B s.heap) 28 k)) ∧ ((1 ≤ (1 : Int) ∧ (1 : Int) ≤ 4 ∧ ∀ S, xAb17 (zyEl zymc B s.heap) S → pSwitch (xE (zyEl zymc B s.heap) 36) (xE (zyEl zymc B s.heap) 35 4) (xE (zyEl zymc B s.heap) 35 6) S = pBits (xE (zyEl zymc B s.heap) 36) (xE (zyEl zymc B s.heap) 35 4) S ((v2 2) : Int) (4 - (1 : Int)).toNat (xE (zyEl zymc B H2) 35 6) (1 : Int) ((v2 6) : Int)) ∨ ((1 : Int) = 5 ∧ ∀ S, xAb17 (zyEl zymc B s.heap) S → pSwitch (xE (zyEl zymc B s.heap) 36) (xE (zyEl zymc B s.heap) 35 4) (xE (zyEl zymc B s.heap) 35 6) S = .error (6, xE (zyEl zymc B H2) 35 5)))) ∧ (xE (zyEl zymc B H2) 35 2 = xE (zyEl zymc B s.heap) 35 2 ∧ xE (zyEl zymc B H2) 35 3 = xE (zyEl zymc B s.heap) 35 3)
        refine ⟨?_, ?_⟩
        · skip
          refine ⟨by omega, by omega, ⟨fun k => by rw [e27 k, j0 k], fun k => by rw [e28 k, j1 k]⟩, Or.inl ⟨by omega, by omega, fun S hS => ?_⟩⟩
          rw [i2 S hS, c7, show xE (zyEl zymc B H) 35 6 = xE (zyEl zymc B H2) 35 6 by omega, show xE (zyEl zymc B H) 35 8 = (v2 6) by omega, show (v 2) = v2 2 by omega]
          rfl
        · omega
      · show 50 + 2 * (10 - (1 : Int)).toNat < 98
        omega
    · have hx : x ∈ [zxfrs17_dx0] := hx
      have hag : ∀ k, k < 7 → v2 k = v k := hag
      have hfr : xFr [(35, 2, 3)] _ _ := hfr
      have ex := List.mem_singleton.mp hx
      subst ex
      obtain ⟨hF, hBd, hM⟩ := hXs
      have g2 : v2 2 = v 2 := hag 2 (by decide)
      have g3 : v2 3 = v 3 := hag 3 (by decide)
      have g4 : v2 4 = v 4 := hag 4 (by decide)
      have g5 : v2 5 = v 5 := hag 5 (by decide)
      have g6 : v2 6 = v 6 := hag 6 (by decide)
      have b0 : ((2147483648 : Nat) : Int) ≤ (v2 2) + 2147483648 ∧ (v2 2) + 2147483648 ≤ ((2147483678 : Nat) : Int) := xXb hBd 0 rfl
      have b1 : ((2147483648 : Nat) : Int) ≤ (v2 3) + 2147483648 ∧ (v2 3) + 2147483648 ≤ ((2147483679 : Nat) : Int) := xXb hBd 1 rfl
      have b2 : ((2147483649 : Nat) : Int) ≤ (v2 4) + 2147483648 ∧ (v2 4) + 2147483648 ≤ ((2147483652 : Nat) : Int) := xXb hBd 2 rfl
      have b3 : ((2147483647 : Nat) : Int) ≤ (v2 5) + 2147483648 ∧ (v2 5) + 2147483648 ≤ ((2147483654 : Nat) : Int) := xXb hBd 3 rfl
      have b4 : ((2147483647 : Nat) : Int) ≤ (v2 6) + 2147483648 ∧ (v2 6) + 2147483648 ≤ ((2147484548 : Nat) : Int) := xXb hBd 4 rfl
      have k0 : xE (zyEl zymc B H) 35 2 = v 5 := xKcf hKc 0 rfl rfl
      have k1 : xE (zyEl zymc B H) 35 3 = v 6 := xKcf hKc 1 rfl rfl
      have f0 : (v2 4) ≤ 4 := xXf hF 0 rfl
      have m0 : xE (zyEl zymc B H2) 35 2 = (v2 5) := xXm hM 0 rfl
      have m1 : xE (zyEl zymc B H2) 35 3 = (v2 6) := xXm hM 1 rfl
      have e35_4 : xE (zyEl zymc B H2) 35 4 = xE (zyEl zymc B H) 35 4 := xFr_E hfr rfl
      have q35_4 : xE (zyEl zymc B H) 35 4 = xE (zyEl zymc B s.heap) 35 4 := xFr_E hFr0 rfl
      have e35_5 : xE (zyEl zymc B H2) 35 5 = xE (zyEl zymc B H) 35 5 := xFr_E hfr rfl
      have e35_6 : xE (zyEl zymc B H2) 35 6 = xE (zyEl zymc B H) 35 6 := xFr_E hfr rfl
      have e35_7 : xE (zyEl zymc B H2) 35 7 = xE (zyEl zymc B H) 35 7 := xFr_E hfr rfl
      have e35_8 : xE (zyEl zymc B H2) 35 8 = xE (zyEl zymc B H) 35 8 := xFr_E hfr rfl
      have e19_3 : xE (zyEl zymc B H2) 19 3 = xE (zyEl zymc B H) 19 3 := xFr_E hfr rfl
      have q19_3 : xE (zyEl zymc B H) 19 3 = xE (zyEl zymc B s.heap) 19 3 := xFr_E hFr0 rfl
      have e36 : ∀ i, xE (zyEl zymc B H2) 36 i = xE (zyEl zymc B H) 36 i := fun i => xFr_E hfr rfl
      have q36 : ∀ i, xE (zyEl zymc B H) 36 i = xE (zyEl zymc B s.heap) 36 i := fun i => xFr_E hFr0 rfl
      have e27 : ∀ i, xE (zyEl zymc B H2) 27 i = xE (zyEl zymc B H) 27 i := fun i => xFr_E hfr rfl
      have e28 : ∀ i, xE (zyEl zymc B H2) 28 i = xE (zyEl zymc B H) 28 i := fun i => xFr_E hfr rfl
      have y19_3 : ((2147483648 : Nat) : Int) ≤ xE (zyEl zymc B s.heap) 19 3 + 2147483648 ∧ xE (zyEl zymc B s.heap) 19 3 + 2147483648 ≤ ((2147483679 : Nat) : Int) := xTyF hT0 19 3 3 rfl rfl rfl rfl rfl rfl
      have hI : ((0 ≤ (v 2) ∧ (v 2) < xE (zyEl zymc B s.heap) 19 3) ∧ xE (zyEl zymc B H) 35 6 ≤ (xE (zyEl zymc B s.heap) 35 4) ∧ ((∀ k, xE (zyEl zymc B H) 27 k = xE (zyEl zymc B s.heap) 27 k) ∧ (∀ k, xE (zyEl zymc B H) 28 k = xE (zyEl zymc B s.heap) 28 k)) ∧ ((1 ≤ (v 4) ∧ (v 4) ≤ 4 ∧ ∀ S, xAb17 (zyEl zymc B s.heap) S → pSwitch (xE (zyEl zymc B s.heap) 36) (xE (zyEl zymc B s.heap) 35 4) (xE (zyEl zymc B s.heap) 35 6) S = pBits (xE (zyEl zymc B s.heap) 36) (xE (zyEl zymc B s.heap) 35 4) S (v 2) (4 - (v 4)).toNat (xE (zyEl zymc B H) 35 6) (v 4) (v 3)) ∨ ((v 4) = 5 ∧ ∀ S, xAb17 (zyEl zymc B s.heap) S → pSwitch (xE (zyEl zymc B s.heap) 36) (xE (zyEl zymc B s.heap) 35 4) (xE (zyEl zymc B s.heap) 35 6) S = .error (6, xE (zyEl zymc B H) 35 5)))) ∧ (xE (zyEl zymc B H) 35 2 = xE (zyEl zymc B s.heap) 35 2 ∧ xE (zyEl zymc B H) 35 3 = xE (zyEl zymc B s.heap) 35 3) := hInv
      obtain ⟨hI, hSm⟩ := hI
      have tt : xE (zyEl zymc B H2) 36 = xE (zyEl zymc B s.heap) 36 := funext fun i => (e36 i).trans (q36 i)
      have tn : xE (zyEl zymc B H2) 35 4 = xE (zyEl zymc B s.heap) 35 4 := by omega
      obtain ⟨i1, i0, ⟨j0, j1⟩, i2⟩ := hI
      rcases i2 with ⟨w1, w2, i2⟩ | ⟨w, -⟩
      · refine xCa hRu hIH hAt hB hv hFr (hfad B) (ix := 35) (ax := 1168) rfl rfl rfl hmefad ⟨_, rfl, rfl, by decide⟩ ⟨rfl, rfl, rfl⟩ (by decide) [] [] [] rfl ⟨rfl, rfl⟩ (by decide +kernel) xcs_n (by decide +kernel) ?_ (fun H3 r hT3 hf3 hFr3 hr3 hΨ3 => ?_)
        · show xΦad (xfv []) (zyEl zymc B H2)
          unfold xΦad
          omega
        · have hΨ3 : xΨad (xfv []) (zyEl zymc B H2) (zyEl zymc B H3) r := hΨ3
          have d35_4 : xE (zyEl zymc B H3) 35 4 = xE (zyEl zymc B H2) 35 4 := xFr_E hf3 rfl
          have d35_2 : xE (zyEl zymc B H3) 35 2 = xE (zyEl zymc B H2) 35 2 := xFr_E hf3 rfl
          have d35_3 : xE (zyEl zymc B H3) 35 3 = xE (zyEl zymc B H2) 35 3 := xFr_E hf3 rfl
          have d19_3 : xE (zyEl zymc B H3) 19 3 = xE (zyEl zymc B H2) 19 3 := xFr_E hf3 rfl
          have d36 : ∀ i, xE (zyEl zymc B H3) 36 i = xE (zyEl zymc B H2) 36 i := fun i => xFr_E hf3 rfl
          have d27 : ∀ i, xE (zyEl zymc B H3) 27 i = xE (zyEl zymc B H2) 27 i := fun i => xFr_E hf3 rfl
          have d28 : ∀ i, xE (zyEl zymc B H3) 28 i = xE (zyEl zymc B H2) 28 i := fun i => xFr_E hf3 rfl
          have z35_2 : ((2147483647 : Nat) : Int) ≤ xE (zyEl zymc B H3) 35 2 + 2147483648 ∧ xE (zyEl zymc B H3) 35 2 + 2147483648 ≤ ((2147483654 : Nat) : Int) := xTyF hT3 35 2 2 rfl rfl rfl rfl rfl rfl
          have z35_3 : ((2147483647 : Nat) : Int) ≤ xE (zyEl zymc B H3) 35 3 + 2147483648 ∧ xE (zyEl zymc B H3) 35 3 + 2147483648 ≤ ((2147484548 : Nat) : Int) := xTyF hT3 35 3 3 rfl rfl rfl rfl rfl rfl
          unfold xΨad at hΨ3
          rw [tt, tn] at hΨ3
          refine ⟨⟨4, by decide⟩, [0, 0, 68719476737, 103079215105, 137438953473], [0, 0, (v2 2), (v2 3), (v2 4), xE (zyEl zymc B H3) 35 2, xE (zyEl zymc B H3) 35 3], rfl, ⟨by decide +kernel, ⟨rfl, by decide +kernel⟩, (xcs_c rfl (xcs_c rfl (xcs_c rfl (xcs_c rfl (xcs_c rfl xcs_n))))), (xe_0 (xe_0 (xe_c (by omega) (by omega) rfl (xe_c (by omega) (by omega) rfl (xe_c (by omega) (by omega) rfl (xe_c (by omega) (by omega) rfl (xe_c (by omega) (by omega) rfl xe_n))))))), (xkq_c hT3 35 2 (q := 2) rfl rfl rfl rfl rfl rfl rfl rfl rfl rfl rfl (xkq_c hT3 35 3 (q := 3) rfl rfl rfl rfl rfl rfl rfl rfl rfl rfl rfl xkq_n))⟩, (by rw [if_neg (by decide)]; exact xst_n), ?_, ?_⟩
          · show ((0 ≤ ((v2 2) : Int) ∧ ((v2 2) : Int) < xE (zyEl zymc B s.heap) 19 3) ∧ (1 ≤ ((v2 4) : Int) ∧ ((v2 4) : Int) ≤ 4) ∧ ∃ p1, p1 ≤ (xE (zyEl zymc B s.heap) 35 4) ∧ (∀ S, xAb17 (zyEl zymc B s.heap) S → pSwitch (xE (zyEl zymc B s.heap) 36) (xE (zyEl zymc B s.heap) 35 4) (xE (zyEl zymc B s.heap) 35 6) S = pBits (xE (zyEl zymc B s.heap) 36) (xE (zyEl zymc B s.heap) 35 4) S ((v2 2) : Int) (4 - ((v2 4) : Int)).toNat p1 ((v2 4) : Int) ((v2 3) : Int)) ∧ xAD (xE (zyEl zymc B s.heap) 36) (xE (zyEl zymc B s.heap) 35 4) p1 (zyEl zymc B H3) ∧ (∀ k, xE (zyEl zymc B H3) 27 k = xE (zyEl zymc B s.heap) 27 k) ∧ (∀ k, xE (zyEl zymc B H3) 28 k = xE (zyEl zymc B s.heap) 28 k)) ∧ (xE (zyEl zymc B H3) 35 2 = xE (zyEl zymc B s.heap) 35 2 ∧ xE (zyEl zymc B H3) 35 3 = xE (zyEl zymc B s.heap) 35 3)
            refine ⟨?_, ?_⟩
            · skip
              refine ⟨by omega, by omega, xE (zyEl zymc B H2) 35 6, by omega, fun S hS => ?_, hΨ3, fun k => by rw [d27 k, e27 k, j0 k], fun k => by rw [d28 k, e28 k, j1 k]⟩
              rw [i2 S hS, show xE (zyEl zymc B H) 35 6 = xE (zyEl zymc B H2) 35 6 by omega, show (v 2) = v2 2 by omega, show (v 3) = v2 3 by omega, show (v 4) = v2 4 by omega]
            · omega
          · show 49 + 2 * (10 - ((v2 4) : Int)).toNat < 50 + 2 * (10 - (v 4)).toNat
            omega
      · omega
    · have hx : x ∈ [zxfrs17_ex0, zxfrs17_ex1] := hx
      have hag : ∀ k, k < 7 → v2 k = v k := hag
      have hfr : xFr [(35, 2, 3)] _ _ := hfr
      rcases List.mem_cons.mp hx with ex | hx
      · subst ex
        obtain ⟨hF, hBd, hM⟩ := hXs
        have g2 : v2 2 = v 2 := hag 2 (by decide)
        have g3 : v2 3 = v 3 := hag 3 (by decide)
        have g4 : v2 4 = v 4 := hag 4 (by decide)
        have g5 : v2 5 = v 5 := hag 5 (by decide)
        have g6 : v2 6 = v 6 := hag 6 (by decide)
        have b0 : ((2147483648 : Nat) : Int) ≤ (v2 2) + 2147483648 ∧ (v2 2) + 2147483648 ≤ ((2147483678 : Nat) : Int) := xXb hBd 0 rfl
        have b1 : ((2147483648 : Nat) : Int) ≤ (v2 3) + 2147483648 ∧ (v2 3) + 2147483648 ≤ ((2147483679 : Nat) : Int) := xXb hBd 1 rfl
        have b2 : ((2147483649 : Nat) : Int) ≤ (v2 4) + 2147483648 ∧ (v2 4) + 2147483648 ≤ ((2147483652 : Nat) : Int) := xXb hBd 2 rfl
        have b3 : ((2147483647 : Nat) : Int) ≤ (v2 5) + 2147483648 ∧ (v2 5) + 2147483648 ≤ ((2147483654 : Nat) : Int) := xXb hBd 3 rfl
        have b4 : ((2147483647 : Nat) : Int) ≤ (v2 6) + 2147483648 ∧ (v2 6) + 2147483648 ≤ ((2147484548 : Nat) : Int) := xXb hBd 4 rfl
        have b5 : ((2147483651 : Nat) : Int) ≤ (v2 7) + 2147483648 ∧ (v2 7) + 2147483648 ≤ ((2147483651 : Nat) : Int) := xXb hBd 5 rfl
        have b6 : ((2147483648 : Nat) : Int) ≤ (v2 8) + 2147483648 ∧ (v2 8) + 2147483648 ≤ ((2147483649 : Nat) : Int) := xXb hBd 6 rfl
        have b7 : ((2147483648 : Nat) : Int) ≤ (v2 9) + 2147483648 ∧ (v2 9) + 2147483648 ≤ ((2147483664 : Nat) : Int) := xXb hBd 7 rfl
        have b8 : ((2147483648 : Nat) : Int) ≤ (v2 10) + 2147483648 ∧ (v2 10) + 2147483648 ≤ ((2147483679 : Nat) : Int) := xXb hBd 8 rfl
        have b9 : ((2147483650 : Nat) : Int) ≤ (v2 4 + 1) + 2147483648 ∧ (v2 4 + 1) + 2147483648 ≤ ((2147483653 : Nat) : Int) := xXb hBd 9 rfl
        have k0 : xE (zyEl zymc B H) 35 2 = v 5 := xKcf hKc 0 rfl rfl
        have k1 : xE (zyEl zymc B H) 35 3 = v 6 := xKcf hKc 1 rfl rfl
        have f0 : (0 : Int) ≤ 7 ∧ xE (zyEl zymc B H) 35 7 = (v2 7) := xXf hF 0 rfl
        have f1 : ¬ (v2 7) = 5 := xXf hF 1 rfl
        have f2 : (v2 7) = 3 := xXf hF 2 rfl
        have f3 : (0 : Int) ≤ 8 ∧ xE (zyEl zymc B H) 35 8 = (v2 8) := xXf hF 3 rfl
        have f4 : 0 ≤ (v2 8) := xXf hF 4 rfl
        have f5 : (v2 8) ≤ 1 := xXf hF 5 rfl
        have f6 : (v2 9) = xop 8 (v2 8) (v2 4) := xXf hF 6 rfl
        have f7 : (v2 10) = xop 7 (v2 3) (v2 9) := xXf hF 7 rfl
        have m0 : xE (zyEl zymc B H2) 35 2 = (v2 5) := xXm hM 0 rfl
        have m1 : xE (zyEl zymc B H2) 35 3 = (v2 6) := xXm hM 1 rfl
        have e35_4 : xE (zyEl zymc B H2) 35 4 = xE (zyEl zymc B H) 35 4 := xFr_E hfr rfl
        have q35_4 : xE (zyEl zymc B H) 35 4 = xE (zyEl zymc B s.heap) 35 4 := xFr_E hFr0 rfl
        have e35_5 : xE (zyEl zymc B H2) 35 5 = xE (zyEl zymc B H) 35 5 := xFr_E hfr rfl
        have e35_6 : xE (zyEl zymc B H2) 35 6 = xE (zyEl zymc B H) 35 6 := xFr_E hfr rfl
        have e35_7 : xE (zyEl zymc B H2) 35 7 = xE (zyEl zymc B H) 35 7 := xFr_E hfr rfl
        have e35_8 : xE (zyEl zymc B H2) 35 8 = xE (zyEl zymc B H) 35 8 := xFr_E hfr rfl
        have e19_3 : xE (zyEl zymc B H2) 19 3 = xE (zyEl zymc B H) 19 3 := xFr_E hfr rfl
        have q19_3 : xE (zyEl zymc B H) 19 3 = xE (zyEl zymc B s.heap) 19 3 := xFr_E hFr0 rfl
        have e36 : ∀ i, xE (zyEl zymc B H2) 36 i = xE (zyEl zymc B H) 36 i := fun i => xFr_E hfr rfl
        have q36 : ∀ i, xE (zyEl zymc B H) 36 i = xE (zyEl zymc B s.heap) 36 i := fun i => xFr_E hFr0 rfl
        have e27 : ∀ i, xE (zyEl zymc B H2) 27 i = xE (zyEl zymc B H) 27 i := fun i => xFr_E hfr rfl
        have e28 : ∀ i, xE (zyEl zymc B H2) 28 i = xE (zyEl zymc B H) 28 i := fun i => xFr_E hfr rfl
        have y19_3 : ((2147483648 : Nat) : Int) ≤ xE (zyEl zymc B s.heap) 19 3 + 2147483648 ∧ xE (zyEl zymc B s.heap) 19 3 + 2147483648 ≤ ((2147483679 : Nat) : Int) := xTyF hT0 19 3 3 rfl rfl rfl rfl rfl rfl
        have hI : ((0 ≤ (v 2) ∧ (v 2) < xE (zyEl zymc B s.heap) 19 3) ∧ (1 ≤ (v 4) ∧ (v 4) ≤ 4) ∧ ∃ p1, p1 ≤ (xE (zyEl zymc B s.heap) 35 4) ∧ (∀ S, xAb17 (zyEl zymc B s.heap) S → pSwitch (xE (zyEl zymc B s.heap) 36) (xE (zyEl zymc B s.heap) 35 4) (xE (zyEl zymc B s.heap) 35 6) S = pBits (xE (zyEl zymc B s.heap) 36) (xE (zyEl zymc B s.heap) 35 4) S (v 2) (4 - (v 4)).toNat p1 (v 4) (v 3)) ∧ xAD (xE (zyEl zymc B s.heap) 36) (xE (zyEl zymc B s.heap) 35 4) p1 (zyEl zymc B H) ∧ (∀ k, xE (zyEl zymc B H) 27 k = xE (zyEl zymc B s.heap) 27 k) ∧ (∀ k, xE (zyEl zymc B H) 28 k = xE (zyEl zymc B s.heap) 28 k)) ∧ (xE (zyEl zymc B H) 35 2 = xE (zyEl zymc B s.heap) 35 2 ∧ xE (zyEl zymc B H) 35 3 = xE (zyEl zymc B s.heap) 35 3) := hInv
        obtain ⟨hI, hSm⟩ := hI
        obtain ⟨i1, i2, p1, i0, i3, ⟨i4, i5, i6, i7⟩, j0, j1⟩ := hI
        have hb := tNx_b (T := xE (zyEl zymc B s.heap) 36) (n := xE (zyEl zymc B s.heap) 35 4) (p := p1) i0
        rw [show (v 2) = v2 2 by omega, show (v 3) = v2 3 by omega, show (v 4) = v2 4 by omega] at i3
        have hk : tKd (xE (zyEl zymc B s.heap) 36) (xE (zyEl zymc B s.heap) 35 4) p1 = 3 := by omega
        have hval : tNm (xE (zyEl zymc B s.heap) 36) (xE (zyEl zymc B s.heap) 35 4) p1 = (v2 8) := by have := i7 hk; omega
        have hstep : (v2 4 = 4 ∧ ∀ S, xAb17 (zyEl zymc B s.heap) S → pSwitch (xE (zyEl zymc B s.heap) 36) (xE (zyEl zymc B s.heap) 35 4) (xE (zyEl zymc B s.heap) 35 6) S = .error (6, tFr (xE (zyEl zymc B s.heap) 36) (xE (zyEl zymc B s.heap) 35 4) p1)) ∨ (v2 4 < 4 ∧ ∀ S, xAb17 (zyEl zymc B s.heap) S → pSwitch (xE (zyEl zymc B s.heap) 36) (xE (zyEl zymc B s.heap) 35 4) (xE (zyEl zymc B s.heap) 35 6) S = pBits (xE (zyEl zymc B s.heap) 36) (xE (zyEl zymc B s.heap) 35 4) S (v2 2) (4 - (v2 4 + 1)).toNat (tNx (xE (zyEl zymc B s.heap) 36) (xE (zyEl zymc B s.heap) 35 4) p1) (v2 4 + 1) (v2 10)) := by
          by_cases h4 : v2 4 = 4
          · refine Or.inl ⟨h4, fun S hS => ?_⟩
            rw [i3 S hS, show (4 - v2 4).toNat = 0 by omega]
            unfold pBits
            rw [if_pos hk, if_pos (by omega)]
          · refine Or.inr ⟨by omega, fun S hS => ?_⟩
            rw [i3 S hS, show (4 - v2 4).toNat = (4 - (v2 4 + 1)).toNat + 1 by omega]
            show (if tKd (xE (zyEl zymc B s.heap) 36) (xE (zyEl zymc B s.heap) 35 4) p1 = 3 then (if 0 ≤ tNm (xE (zyEl zymc B s.heap) 36) (xE (zyEl zymc B s.heap) 35 4) p1 ∧ tNm (xE (zyEl zymc B s.heap) 36) (xE (zyEl zymc B s.heap) 35 4) p1 ≤ 1 then _ else _) else _) = _
            rw [if_pos hk, if_pos (by omega), hval, f7, f6]
        have z35_2 : ((2147483647 : Nat) : Int) ≤ xE (zyEl zymc B H2) 35 2 + 2147483648 ∧ xE (zyEl zymc B H2) 35 2 + 2147483648 ≤ ((2147483654 : Nat) : Int) := xTyF hT2 35 2 2 rfl rfl rfl rfl rfl rfl
        have z35_3 : ((2147483647 : Nat) : Int) ≤ xE (zyEl zymc B H2) 35 3 + 2147483648 ∧ xE (zyEl zymc B H2) 35 3 + 2147483648 ≤ ((2147484548 : Nat) : Int) := xTyF hT2 35 3 3 rfl rfl rfl rfl rfl rfl
        refine xGo hIH hAt hB hv hFr ⟨3, by decide⟩ [0, 0, 68719476737, 343597383681, 137438953481] [0, 0, (v2 2), (v2 10), (v2 4 + 1), xE (zyEl zymc B H2) 35 2, xE (zyEl zymc B H2) 35 3] rfl ⟨by decide +kernel, ⟨rfl, by decide +kernel⟩, (xcs_c rfl (xcs_c rfl (xcs_c rfl (xcs_c rfl (xcs_c rfl xcs_n))))), (xe_0 (xe_0 (xe_c (by omega) (by omega) rfl (xe_c (by omega) (by omega) rfl (xe_c (by omega) (by omega) rfl (xe_c (by omega) (by omega) rfl (xe_c (by omega) (by omega) rfl xe_n))))))), (xkq_c hT2 35 2 (q := 2) rfl rfl rfl rfl rfl rfl rfl rfl rfl rfl rfl (xkq_c hT2 35 3 (q := 3) rfl rfl rfl rfl rfl rfl rfl rfl rfl rfl rfl xkq_n))⟩ xst_n ?_ ?_
        · show ((0 ≤ ((v2 2) : Int) ∧ ((v2 2) : Int) < xE (zyEl zymc B s.heap) 19 3) ∧ xE (zyEl zymc B H2) 35 6 ≤ (xE (zyEl zymc B s.heap) 35 4) ∧ ((∀ k, xE (zyEl zymc B H2) 27 k = xE (zyEl zymc B s.heap) 27 k) ∧ (∀ k, xE (zyEl zymc B H2) 28 k = xE (zyEl zymc B s.heap) 28 k)) ∧ ((1 ≤ ((v2 4 + 1) : Int) ∧ ((v2 4 + 1) : Int) ≤ 4 ∧ ∀ S, xAb17 (zyEl zymc B s.heap) S → pSwitch (xE (zyEl zymc B s.heap) 36) (xE (zyEl zymc B s.heap) 35 4) (xE (zyEl zymc B s.heap) 35 6) S = pBits (xE (zyEl zymc B s.heap) 36) (xE (zyEl zymc B s.heap) 35 4) S ((v2 2) : Int) (4 - ((v2 4 + 1) : Int)).toNat (xE (zyEl zymc B H2) 35 6) ((v2 4 + 1) : Int) ((v2 10) : Int)) ∨ (((v2 4 + 1) : Int) = 5 ∧ ∀ S, xAb17 (zyEl zymc B s.heap) S → pSwitch (xE (zyEl zymc B s.heap) 36) (xE (zyEl zymc B s.heap) 35 4) (xE (zyEl zymc B s.heap) 35 6) S = .error (6, xE (zyEl zymc B H2) 35 5)))) ∧ (xE (zyEl zymc B H2) 35 2 = xE (zyEl zymc B s.heap) 35 2 ∧ xE (zyEl zymc B H2) 35 3 = xE (zyEl zymc B s.heap) 35 3)
          refine ⟨?_, ?_⟩
          · skip
            refine ⟨by omega, by omega, ⟨fun k => by rw [e27 k, j0 k], fun k => by rw [e28 k, j1 k]⟩, ?_⟩
            rcases hstep with ⟨h4, hs⟩ | ⟨h4, hs⟩
            · exact Or.inr ⟨by omega, fun S hS => by rw [hs S hS, show xE (zyEl zymc B H2) 35 5 = tFr (xE (zyEl zymc B s.heap) 36) (xE (zyEl zymc B s.heap) 35 4) p1 by omega]⟩
            · exact Or.inl ⟨by omega, by omega, fun S hS => by rw [hs S hS, show xE (zyEl zymc B H2) 35 6 = tNx (xE (zyEl zymc B s.heap) 36) (xE (zyEl zymc B s.heap) 35 4) p1 by omega]⟩
          · omega
        · show 50 + 2 * (10 - ((v2 4 + 1) : Int)).toNat < 49 + 2 * (10 - (v 4)).toNat
          omega
      · skip
        have ex := List.mem_singleton.mp hx
        subst ex
        obtain ⟨hF, hBd, hM⟩ := hXs
        have g2 : v2 2 = v 2 := hag 2 (by decide)
        have g3 : v2 3 = v 3 := hag 3 (by decide)
        have g4 : v2 4 = v 4 := hag 4 (by decide)
        have g5 : v2 5 = v 5 := hag 5 (by decide)
        have g6 : v2 6 = v 6 := hag 6 (by decide)
        have b0 : ((2147483648 : Nat) : Int) ≤ (v2 2) + 2147483648 ∧ (v2 2) + 2147483648 ≤ ((2147483678 : Nat) : Int) := xXb hBd 0 rfl
        have b1 : ((2147483648 : Nat) : Int) ≤ (v2 3) + 2147483648 ∧ (v2 3) + 2147483648 ≤ ((2147483679 : Nat) : Int) := xXb hBd 1 rfl
        have b2 : ((2147483649 : Nat) : Int) ≤ (v2 4) + 2147483648 ∧ (v2 4) + 2147483648 ≤ ((2147483652 : Nat) : Int) := xXb hBd 2 rfl
        have b3 : ((2147483647 : Nat) : Int) ≤ (v2 5) + 2147483648 ∧ (v2 5) + 2147483648 ≤ ((2147483654 : Nat) : Int) := xXb hBd 3 rfl
        have b4 : ((2147483647 : Nat) : Int) ≤ (v2 6) + 2147483648 ∧ (v2 6) + 2147483648 ≤ ((2147484548 : Nat) : Int) := xXb hBd 4 rfl
        have b5 : ((2147483653 : Nat) : Int) ≤ (v2 7) + 2147483648 ∧ (v2 7) + 2147483648 ≤ ((2147483653 : Nat) : Int) := xXb hBd 5 rfl
        have k0 : xE (zyEl zymc B H) 35 2 = v 5 := xKcf hKc 0 rfl rfl
        have k1 : xE (zyEl zymc B H) 35 3 = v 6 := xKcf hKc 1 rfl rfl
        have f0 : (0 : Int) ≤ 7 ∧ xE (zyEl zymc B H) 35 7 = (v2 7) := xXf hF 0 rfl
        have f1 : (v2 7) = 5 := xXf hF 1 rfl
        have m0 : xE (zyEl zymc B H2) 35 2 = (v2 5) := xXm hM 0 rfl
        have m1 : xE (zyEl zymc B H2) 35 3 = (v2 6) := xXm hM 1 rfl
        have e35_4 : xE (zyEl zymc B H2) 35 4 = xE (zyEl zymc B H) 35 4 := xFr_E hfr rfl
        have q35_4 : xE (zyEl zymc B H) 35 4 = xE (zyEl zymc B s.heap) 35 4 := xFr_E hFr0 rfl
        have e35_5 : xE (zyEl zymc B H2) 35 5 = xE (zyEl zymc B H) 35 5 := xFr_E hfr rfl
        have e35_6 : xE (zyEl zymc B H2) 35 6 = xE (zyEl zymc B H) 35 6 := xFr_E hfr rfl
        have e35_7 : xE (zyEl zymc B H2) 35 7 = xE (zyEl zymc B H) 35 7 := xFr_E hfr rfl
        have e35_8 : xE (zyEl zymc B H2) 35 8 = xE (zyEl zymc B H) 35 8 := xFr_E hfr rfl
        have e19_3 : xE (zyEl zymc B H2) 19 3 = xE (zyEl zymc B H) 19 3 := xFr_E hfr rfl
        have q19_3 : xE (zyEl zymc B H) 19 3 = xE (zyEl zymc B s.heap) 19 3 := xFr_E hFr0 rfl
        have e36 : ∀ i, xE (zyEl zymc B H2) 36 i = xE (zyEl zymc B H) 36 i := fun i => xFr_E hfr rfl
        have q36 : ∀ i, xE (zyEl zymc B H) 36 i = xE (zyEl zymc B s.heap) 36 i := fun i => xFr_E hFr0 rfl
        have e27 : ∀ i, xE (zyEl zymc B H2) 27 i = xE (zyEl zymc B H) 27 i := fun i => xFr_E hfr rfl
        have e28 : ∀ i, xE (zyEl zymc B H2) 28 i = xE (zyEl zymc B H) 28 i := fun i => xFr_E hfr rfl
        have y19_3 : ((2147483648 : Nat) : Int) ≤ xE (zyEl zymc B s.heap) 19 3 + 2147483648 ∧ xE (zyEl zymc B s.heap) 19 3 + 2147483648 ≤ ((2147483679 : Nat) : Int) := xTyF hT0 19 3 3 rfl rfl rfl rfl rfl rfl
        have hI : ((0 ≤ (v 2) ∧ (v 2) < xE (zyEl zymc B s.heap) 19 3) ∧ (1 ≤ (v 4) ∧ (v 4) ≤ 4) ∧ ∃ p1, p1 ≤ (xE (zyEl zymc B s.heap) 35 4) ∧ (∀ S, xAb17 (zyEl zymc B s.heap) S → pSwitch (xE (zyEl zymc B s.heap) 36) (xE (zyEl zymc B s.heap) 35 4) (xE (zyEl zymc B s.heap) 35 6) S = pBits (xE (zyEl zymc B s.heap) 36) (xE (zyEl zymc B s.heap) 35 4) S (v 2) (4 - (v 4)).toNat p1 (v 4) (v 3)) ∧ xAD (xE (zyEl zymc B s.heap) 36) (xE (zyEl zymc B s.heap) 35 4) p1 (zyEl zymc B H) ∧ (∀ k, xE (zyEl zymc B H) 27 k = xE (zyEl zymc B s.heap) 27 k) ∧ (∀ k, xE (zyEl zymc B H) 28 k = xE (zyEl zymc B s.heap) 28 k)) ∧ (xE (zyEl zymc B H) 35 2 = xE (zyEl zymc B s.heap) 35 2 ∧ xE (zyEl zymc B H) 35 3 = xE (zyEl zymc B s.heap) 35 3) := hInv
        obtain ⟨hI, hSm⟩ := hI
        obtain ⟨i1, i2, p1, i0, i3, ⟨i4, i5, i6, i7⟩, j0, j1⟩ := hI
        have hb := tNx_b (T := xE (zyEl zymc B s.heap) 36) (n := xE (zyEl zymc B s.heap) 35 4) (p := p1) i0
        rw [show (v 2) = v2 2 by omega, show (v 3) = v2 3 by omega, show (v 4) = v2 4 by omega] at i3
        have hpb : ∀ S, xAb17 (zyEl zymc B s.heap) S → pSwitch (xE (zyEl zymc B s.heap) 36) (xE (zyEl zymc B s.heap) 35 4) (xE (zyEl zymc B s.heap) 35 6) S = .ok (p1, uS (uS S (8 + v2 2) (v2 3)) (40 + v2 2) (v2 4)) := by
          intro S hS
          rw [i3 S hS]
          cases (4 - v2 4).toNat with
          | zero =>
            unfold pBits
            rw [if_neg (by omega)]
          | succ f =>
            show (if tKd (xE (zyEl zymc B s.heap) 36) (xE (zyEl zymc B s.heap) 35 4) p1 = 3 then _ else _) = _
            rw [if_neg (by omega)]
        refine xSt hRu hIH hAt hB hv hFr 27 (ax := 0) 103079215105 68719476737 (v2 3) (v2 2) rfl (Or.inl ⟨rfl, rfl⟩) rfl (by decide +kernel) rfl rfl (by omega) (by show (v2 2) < ((31 : Nat) : Int); omega) (fun r hr q1 q2 => by rw [List.mem_singleton.mp hr]; exact ⟨rfl, by show ((2147483648 : Nat) : Int) ≤ (v2 3) + 2147483648; omega, by show (v2 3) + 2147483648 ≤ ((4294967295 : Nat) : Int); omega⟩) (zyin_iff.mpr ⟨(27, 0, 30), by decide, rfl, (by show 0 ≤ Int.toNat (v2 2); omega), by show Int.toNat (v2 2) ≤ 30; omega⟩) (fun H3 hT3 hst3 hne3 hfn3 hFr3 => ?_)
        have hfe3 : ∀ (a2 : Nat) (k2 : Int), ¬ a2 = 27 → xE (zyEl zymc B H3) a2 k2 = xE (zyEl zymc B H2) a2 k2 := fun a2 k2 hne => by unfold xE; rw [hfn3 a2 k2.toNat (fun z => hne z.1)]
        have d35_4 : xE (zyEl zymc B H3) 35 4 = xE (zyEl zymc B H2) 35 4 := hfe3 35 4 (fun z => absurd z (by decide))
        have d35_5 : xE (zyEl zymc B H3) 35 5 = xE (zyEl zymc B H2) 35 5 := hfe3 35 5 (fun z => absurd z (by decide))
        have d35_6 : xE (zyEl zymc B H3) 35 6 = xE (zyEl zymc B H2) 35 6 := hfe3 35 6 (fun z => absurd z (by decide))
        have d35_7 : xE (zyEl zymc B H3) 35 7 = xE (zyEl zymc B H2) 35 7 := hfe3 35 7 (fun z => absurd z (by decide))
        have d35_8 : xE (zyEl zymc B H3) 35 8 = xE (zyEl zymc B H2) 35 8 := hfe3 35 8 (fun z => absurd z (by decide))
        have d35_2 : xE (zyEl zymc B H3) 35 2 = xE (zyEl zymc B H2) 35 2 := hfe3 35 2 (fun z => absurd z (by decide))
        have d35_3 : xE (zyEl zymc B H3) 35 3 = xE (zyEl zymc B H2) 35 3 := hfe3 35 3 (fun z => absurd z (by decide))
        have d19_3 : xE (zyEl zymc B H3) 19 3 = xE (zyEl zymc B H2) 19 3 := hfe3 19 3 (fun z => absurd z (by decide))
        refine ⟨⟨5, by decide⟩, [0, 0, 68719476737, 103079215105, 137438953473], [0, 0, (v2 2), (v2 3), (v2 4)], rfl, ⟨by decide +kernel, ⟨rfl, by decide +kernel⟩, (xcs_c rfl (xcs_c rfl (xcs_c rfl (xcs_c rfl (xcs_c rfl xcs_n))))), (xe_0 (xe_0 (xe_c (by omega) (by omega) rfl (xe_c (by omega) (by omega) rfl (xe_c (by omega) (by omega) rfl xe_n))))), xkq_n⟩, rfl, ?_, ?_⟩
        · show ((0 ≤ ((v2 2) : Int) ∧ ((v2 2) : Int) < xE (zyEl zymc B s.heap) 19 3) ∧ (∀ S, xAb17 (zyEl zymc B s.heap) S → pBind (pSwitch (xE (zyEl zymc B s.heap) 36) (xE (zyEl zymc B s.heap) 35 4) (xE (zyEl zymc B s.heap) 35 6) S) (pSem (xE (zyEl zymc B s.heap) 36) (xE (zyEl zymc B s.heap) 35 4)) = .ok (xE (zyEl zymc B H3) 35 6, uS (uS S (8 + ((v2 2) : Int)) ((v2 3) : Int)) (40 + ((v2 2) : Int)) ((v2 4) : Int))) ∧ xE (zyEl zymc B H3) 27 ((v2 2) : Int) = ((v2 3) : Int) ∧ (∀ k, 0 ≤ k → ¬ k = ((v2 2) : Int) → xE (zyEl zymc B H3) 27 k = xE (zyEl zymc B s.heap) 27 k) ∧ ∀ k, xE (zyEl zymc B H3) 28 k = xE (zyEl zymc B s.heap) 28 k) ∧ (xE (zyEl zymc B H3) 35 2 = xE (zyEl zymc B s.heap) 35 2 ∧ xE (zyEl zymc B H3) 35 3 = xE (zyEl zymc B s.heap) 35 3)
          refine ⟨?_, ?_⟩
          · skip
            refine ⟨by omega, fun S hS => ?_, ?_, ?_, ?_⟩
            · rw [hpb S hS]
              show pSem _ _ p1 _ = _
              unfold pSem
              rw [if_pos (by omega), show xE (zyEl zymc B H3) 35 6 = tNx (xE (zyEl zymc B s.heap) 36) (xE (zyEl zymc B s.heap) 35 4) p1 by omega]
            · exact hst3
            · intro k k0 k1
              rw [hne3 27 k k0 (fun z => k1 z.2), e27 k, j0 k]
            · intro k
              rw [hfe3 28 k (fun z => absurd z (by decide)), e28 k, j1 k]
          · omega
        · show 2 < 49 + 2 * (10 - (v 4)).toNat
          omega
    · have hx : x ∈ [zxfrs17_fx0] := hx
      have hag : ∀ k, k < 5 → v2 k = v k := hag
      have hfr : xFr [] _ _ := hfr
      have ex := List.mem_singleton.mp hx
      subst ex
      obtain ⟨hF, hBd, hM⟩ := hXs
      have g2 : v2 2 = v 2 := hag 2 (by decide)
      have g3 : v2 3 = v 3 := hag 3 (by decide)
      have g4 : v2 4 = v 4 := hag 4 (by decide)
      have b0 : ((2147483648 : Nat) : Int) ≤ (v2 2) + 2147483648 ∧ (v2 2) + 2147483648 ≤ ((2147483678 : Nat) : Int) := xXb hBd 0 rfl
      have b1 : ((2147483648 : Nat) : Int) ≤ (v2 3) + 2147483648 ∧ (v2 3) + 2147483648 ≤ ((2147483679 : Nat) : Int) := xXb hBd 1 rfl
      have b2 : ((2147483649 : Nat) : Int) ≤ (v2 4) + 2147483648 ∧ (v2 4) + 2147483648 ≤ ((2147483652 : Nat) : Int) := xXb hBd 2 rfl
      have e35_4 : xE (zyEl zymc B H2) 35 4 = xE (zyEl zymc B H) 35 4 := xFr_E hfr rfl
      have q35_4 : xE (zyEl zymc B H) 35 4 = xE (zyEl zymc B s.heap) 35 4 := xFr_E hFr0 rfl
      have e35_5 : xE (zyEl zymc B H2) 35 5 = xE (zyEl zymc B H) 35 5 := xFr_E hfr rfl
      have e35_6 : xE (zyEl zymc B H2) 35 6 = xE (zyEl zymc B H) 35 6 := xFr_E hfr rfl
      have e35_7 : xE (zyEl zymc B H2) 35 7 = xE (zyEl zymc B H) 35 7 := xFr_E hfr rfl
      have e35_8 : xE (zyEl zymc B H2) 35 8 = xE (zyEl zymc B H) 35 8 := xFr_E hfr rfl
      have e35_2 : xE (zyEl zymc B H2) 35 2 = xE (zyEl zymc B H) 35 2 := xFr_E hfr rfl
      have e35_3 : xE (zyEl zymc B H2) 35 3 = xE (zyEl zymc B H) 35 3 := xFr_E hfr rfl
      have e19_3 : xE (zyEl zymc B H2) 19 3 = xE (zyEl zymc B H) 19 3 := xFr_E hfr rfl
      have q19_3 : xE (zyEl zymc B H) 19 3 = xE (zyEl zymc B s.heap) 19 3 := xFr_E hFr0 rfl
      have e36 : ∀ i, xE (zyEl zymc B H2) 36 i = xE (zyEl zymc B H) 36 i := fun i => xFr_E hfr rfl
      have q36 : ∀ i, xE (zyEl zymc B H) 36 i = xE (zyEl zymc B s.heap) 36 i := fun i => xFr_E hFr0 rfl
      have e27 : ∀ i, xE (zyEl zymc B H2) 27 i = xE (zyEl zymc B H) 27 i := fun i => xFr_E hfr rfl
      have e28 : ∀ i, xE (zyEl zymc B H2) 28 i = xE (zyEl zymc B H) 28 i := fun i => xFr_E hfr rfl
      have y19_3 : ((2147483648 : Nat) : Int) ≤ xE (zyEl zymc B s.heap) 19 3 + 2147483648 ∧ xE (zyEl zymc B s.heap) 19 3 + 2147483648 ≤ ((2147483679 : Nat) : Int) := xTyF hT0 19 3 3 rfl rfl rfl rfl rfl rfl
      have hI : ((0 ≤ (v 2) ∧ (v 2) < xE (zyEl zymc B s.heap) 19 3) ∧ (∀ S, xAb17 (zyEl zymc B s.heap) S → pBind (pSwitch (xE (zyEl zymc B s.heap) 36) (xE (zyEl zymc B s.heap) 35 4) (xE (zyEl zymc B s.heap) 35 6) S) (pSem (xE (zyEl zymc B s.heap) 36) (xE (zyEl zymc B s.heap) 35 4)) = .ok (xE (zyEl zymc B H) 35 6, uS (uS S (8 + (v 2)) (v 3)) (40 + (v 2)) (v 4))) ∧ xE (zyEl zymc B H) 27 (v 2) = (v 3) ∧ (∀ k, 0 ≤ k → ¬ k = (v 2) → xE (zyEl zymc B H) 27 k = xE (zyEl zymc B s.heap) 27 k) ∧ ∀ k, xE (zyEl zymc B H) 28 k = xE (zyEl zymc B s.heap) 28 k) ∧ (xE (zyEl zymc B H) 35 2 = xE (zyEl zymc B s.heap) 35 2 ∧ xE (zyEl zymc B H) 35 3 = xE (zyEl zymc B s.heap) 35 3) := hInv
      obtain ⟨hI, hSm⟩ := hI
      obtain ⟨i1, i2, i3, i4, i5⟩ := hI
      rw [show (v 2) = v2 2 by omega, show (v 3) = v2 3 by omega] at i2 i3
      rw [show (v 2) = v2 2 by omega] at i4
      rw [show (v 4) = v2 4 by omega] at i2
      refine xSt hRu hIH hAt hB hv hFr 28 (ax := 0) 137438953473 68719476737 (v2 4) (v2 2) rfl (Or.inl ⟨rfl, rfl⟩) rfl (by decide +kernel) rfl rfl (by omega) (by show (v2 2) < ((31 : Nat) : Int); omega) (fun r hr q1 q2 => by rw [List.mem_singleton.mp hr]; exact ⟨rfl, by show ((2147483648 : Nat) : Int) ≤ (v2 4) + 2147483648; omega, by show (v2 4) + 2147483648 ≤ ((2147483652 : Nat) : Int); omega⟩) (zyin_iff.mpr ⟨(28, 0, 30), by decide, rfl, (by show 0 ≤ Int.toNat (v2 2); omega), by show Int.toNat (v2 2) ≤ 30; omega⟩) (fun H3 hT3 hst3 hne3 hfn3 hFr3 => ?_)
      have hfe3 : ∀ (a2 : Nat) (k2 : Int), ¬ a2 = 28 → xE (zyEl zymc B H3) a2 k2 = xE (zyEl zymc B H2) a2 k2 := fun a2 k2 hne => by unfold xE; rw [hfn3 a2 k2.toNat (fun z => hne z.1)]
      have d35_4 : xE (zyEl zymc B H3) 35 4 = xE (zyEl zymc B H2) 35 4 := hfe3 35 4 (fun z => absurd z (by decide))
      have d35_5 : xE (zyEl zymc B H3) 35 5 = xE (zyEl zymc B H2) 35 5 := hfe3 35 5 (fun z => absurd z (by decide))
      have d35_6 : xE (zyEl zymc B H3) 35 6 = xE (zyEl zymc B H2) 35 6 := hfe3 35 6 (fun z => absurd z (by decide))
      have d35_7 : xE (zyEl zymc B H3) 35 7 = xE (zyEl zymc B H2) 35 7 := hfe3 35 7 (fun z => absurd z (by decide))
      have d35_8 : xE (zyEl zymc B H3) 35 8 = xE (zyEl zymc B H2) 35 8 := hfe3 35 8 (fun z => absurd z (by decide))
      have d35_2 : xE (zyEl zymc B H3) 35 2 = xE (zyEl zymc B H2) 35 2 := hfe3 35 2 (fun z => absurd z (by decide))
      have d35_3 : xE (zyEl zymc B H3) 35 3 = xE (zyEl zymc B H2) 35 3 := hfe3 35 3 (fun z => absurd z (by decide))
      have d19_3 : xE (zyEl zymc B H3) 19 3 = xE (zyEl zymc B H2) 19 3 := hfe3 19 3 (fun z => absurd z (by decide))
      refine ⟨⟨6, by decide⟩, [0, 0, 0, 0, 0], [0, 0, 0, 0, 0], rfl, ⟨by decide +kernel, ⟨rfl, by decide +kernel⟩, (xcs_c rfl (xcs_c rfl (xcs_c rfl (xcs_c rfl (xcs_c rfl xcs_n))))), (xe_0 (xe_0 (xe_0 (xe_0 (xe_0 xe_n))))), xkq_n⟩, rfl, ?_, ?_⟩
      · show (∃ g b l, (0 ≤ g ∧ g < xE (zyEl zymc B s.heap) 19 3) ∧ (∀ S, xAb17 (zyEl zymc B s.heap) S → pBind (pSwitch (xE (zyEl zymc B s.heap) 36) (xE (zyEl zymc B s.heap) 35 4) (xE (zyEl zymc B s.heap) 35 6) S) (pSem (xE (zyEl zymc B s.heap) 36) (xE (zyEl zymc B s.heap) 35 4)) = .ok (xE (zyEl zymc B H3) 35 6, uS (uS S (8 + g) b) (40 + g) l)) ∧ xE (zyEl zymc B H3) 27 g = b ∧ (∀ k, 0 ≤ k → ¬ k = g → xE (zyEl zymc B H3) 27 k = xE (zyEl zymc B s.heap) 27 k) ∧ xE (zyEl zymc B H3) 28 g = l ∧ (∀ k, 0 ≤ k → ¬ k = g → xE (zyEl zymc B H3) 28 k = xE (zyEl zymc B s.heap) 28 k)) ∧ (xE (zyEl zymc B H3) 35 2 = xE (zyEl zymc B s.heap) 35 2 ∧ xE (zyEl zymc B H3) 35 3 = xE (zyEl zymc B s.heap) 35 3)
        refine ⟨?_, ?_⟩
        · skip
          refine ⟨v2 2, v2 3, v2 4, by omega, fun S hS => ?_, ?_, ?_, hst3, ?_⟩
          · rw [i2 S hS, show xE (zyEl zymc B H) 35 6 = xE (zyEl zymc B H3) 35 6 by omega]
          · rw [hfe3 27 (v2 2) (fun z => absurd z (by decide)), e27, i3]
          · intro k k0 k1
            rw [hfe3 27 k (fun z => absurd z (by decide)), e27, i4 k k0 k1]
          · intro k k0 k1
            rw [hne3 28 k k0 (fun z => k1 z.2), e28 k, i5 k]
        · omega
      · show 1 < 2
        omega
    · cases hx
  · intro x0 E0 E E2 hrx hT0 hΦ i v hT hrv hInv hKc hFr0 x hx v2 hr2 hXs hag hfr hFr hT2
    rcases i with ⟨i, hi⟩
    have hi2 : i = 0 ∨ i = 1 ∨ i = 2 ∨ i = 3 ∨ i = 4 ∨ i = 5 ∨ i = 6 := by omega
    rcases hi2 with rfl | rfl | rfl | rfl | rfl | rfl | rfl
    · cases hx
    · have hx : x ∈ [zxfrs17_br0] := hx
      have hag : ∀ k, k < 6 → v2 k = v k := hag
      have hfr : xFr [] _ _ := hfr
      have ex := List.mem_singleton.mp hx
      subst ex
      obtain ⟨hF, hBd, hM⟩ := hXs
      have g5 : v2 5 = v 5 := hag 5 (by decide)
      have b0 : ((2147483648 : Nat) : Int) ≤ (v2 5) + 2147483648 ∧ (v2 5) + 2147483648 ≤ ((2147483648 : Nat) : Int) := xXb hBd 0 rfl
      have f0 : (v2 5) = 0 := xXf hF 0 rfl
      have e35_4 : xE E2 35 4 = xE E 35 4 := xFr_E hfr rfl
      have q35_4 : xE E 35 4 = xE E0 35 4 := xFr_E hFr0 rfl
      have e35_5 : xE E2 35 5 = xE E 35 5 := xFr_E hfr rfl
      have e35_6 : xE E2 35 6 = xE E 35 6 := xFr_E hfr rfl
      have e35_7 : xE E2 35 7 = xE E 35 7 := xFr_E hfr rfl
      have e35_8 : xE E2 35 8 = xE E 35 8 := xFr_E hfr rfl
      have e35_2 : xE E2 35 2 = xE E 35 2 := xFr_E hfr rfl
      have e35_3 : xE E2 35 3 = xE E 35 3 := xFr_E hfr rfl
      have e19_3 : xE E2 19 3 = xE E 19 3 := xFr_E hfr rfl
      have q19_3 : xE E 19 3 = xE E0 19 3 := xFr_E hFr0 rfl
      have e36 : ∀ i, xE E2 36 i = xE E 36 i := fun i => xFr_E hfr rfl
      have q36 : ∀ i, xE E 36 i = xE E0 36 i := fun i => xFr_E hFr0 rfl
      have e27 : ∀ i, xE E2 27 i = xE E 27 i := fun i => xFr_E hfr rfl
      have e28 : ∀ i, xE E2 28 i = xE E 28 i := fun i => xFr_E hfr rfl
      have y19_3 : ((2147483648 : Nat) : Int) ≤ xE E0 19 3 + 2147483648 ∧ xE E0 19 3 + 2147483648 ≤ ((2147483679 : Nat) : Int) := xTyF hT0 19 3 3 rfl rfl rfl rfl rfl rfl
      have hI : (xTN (xE E0 36) (xE E0 35 4) (xE E0 35 6) 0 (xE E0 19 3 - 1) E (v 5) ∧ (∀ k, xE E 27 k = xE E0 27 k) ∧ (∀ k, xE E 28 k = xE E0 28 k)) ∧ (¬ (v 5) = 0 → (xE E 35 2 = xE E0 35 2 ∧ xE E 35 3 = xE E0 35 3)) := hInv
      obtain ⟨hI, hSm⟩ := hI
      show xΨfrs17S x0 E0 E2 0
      refine ⟨?_, ?_⟩
      · show xΨfrs17 x0 E0 E2 0
        obtain ⟨i1, j0, j1⟩ := hI
        have hz : (v 5) = 0 := by omega
        intro S hS
        have e : pSwitch (xE E0 36) (xE E0 35 4) (xE E0 35 6) S = Except.error (xE E 35 2, xE E 35 3) := by unfold pSwitch; rw [← hS.2.1.2.2.2]; exact xtn_0 i1 hz _
        show xOut17 (pBind (pSwitch (xE E0 36) (xE E0 35 4) (xE E0 35 6) S) (pSem (xE E0 36) (xE E0 35 4))) E2 0
        rw [e]
        exact xOut17_e (by omega) (by omega) (by omega)
      · show (¬ (0) = 0 → (xE E2 35 2 = xE E0 35 2 ∧ xE E2 35 3 = xE E0 35 3))
        omega
    · have hx : x ∈ [zxfrs17_cr0] := hx
      have hag : ∀ k, k < 6 → v2 k = v k := hag
      have hfr : xFr [] _ _ := hfr
      have ex := List.mem_singleton.mp hx
      subst ex
      obtain ⟨hF, hBd, hM⟩ := hXs
      have g2 : v2 2 = v 2 := hag 2 (by decide)
      have g5 : v2 5 = v 5 := hag 5 (by decide)
      have b0 : ((2147483648 : Nat) : Int) ≤ (v2 5) + 2147483648 ∧ (v2 5) + 2147483648 ≤ ((2147483648 : Nat) : Int) := xXb hBd 0 rfl
      have f0 : (v2 5) = 0 := xXf hF 0 rfl
      have e35_4 : xE E2 35 4 = xE E 35 4 := xFr_E hfr rfl
      have q35_4 : xE E 35 4 = xE E0 35 4 := xFr_E hFr0 rfl
      have e35_5 : xE E2 35 5 = xE E 35 5 := xFr_E hfr rfl
      have e35_6 : xE E2 35 6 = xE E 35 6 := xFr_E hfr rfl
      have e35_7 : xE E2 35 7 = xE E 35 7 := xFr_E hfr rfl
      have e35_8 : xE E2 35 8 = xE E 35 8 := xFr_E hfr rfl
      have e35_2 : xE E2 35 2 = xE E 35 2 := xFr_E hfr rfl
      have e35_3 : xE E2 35 3 = xE E 35 3 := xFr_E hfr rfl
      have e19_3 : xE E2 19 3 = xE E 19 3 := xFr_E hfr rfl
      have q19_3 : xE E 19 3 = xE E0 19 3 := xFr_E hFr0 rfl
      have e36 : ∀ i, xE E2 36 i = xE E 36 i := fun i => xFr_E hfr rfl
      have q36 : ∀ i, xE E 36 i = xE E0 36 i := fun i => xFr_E hFr0 rfl
      have e27 : ∀ i, xE E2 27 i = xE E 27 i := fun i => xFr_E hfr rfl
      have e28 : ∀ i, xE E2 28 i = xE E 28 i := fun i => xFr_E hfr rfl
      have y19_3 : ((2147483648 : Nat) : Int) ≤ xE E0 19 3 + 2147483648 ∧ xE E0 19 3 + 2147483648 ≤ ((2147483679 : Nat) : Int) := xTyF hT0 19 3 3 rfl rfl rfl rfl rfl rfl
      have hI : ((0 ≤ (v 2) ∧ (v 2) < xE E0 19 3) ∧ ∃ p1, p1 ≤ (xE E0 35 4) ∧ (∀ S, xAb17 E0 S → pSwitch (xE E0 36) (xE E0 35 4) (xE E0 35 6) S = pNum (xE E0 36) (xE E0 35 4) p1 0 1 (fun b p2 => pBits (xE E0 36) (xE E0 35 4) S (v 2) 3 p2 1 b)) ∧ xTN (xE E0 36) (xE E0 35 4) p1 0 1 E (v 5) ∧ (∀ k, xE E 27 k = xE E0 27 k) ∧ (∀ k, xE E 28 k = xE E0 28 k)) ∧ (¬ (v 5) = 0 → (xE E 35 2 = xE E0 35 2 ∧ xE E 35 3 = xE E0 35 3)) := hInv
      obtain ⟨hI, hSm⟩ := hI
      show xΨfrs17S x0 E0 E2 0
      refine ⟨?_, ?_⟩
      · show xΨfrs17 x0 E0 E2 0
        obtain ⟨i1, p1, i0, i2, i3, j0, j1⟩ := hI
        have hb := tNx_b (T := xE E0 36) (n := xE E0 35 4) (p := p1) i0
        have hz : (v 5) = 0 := by omega
        intro S hS
        have e : pSwitch (xE E0 36) (xE E0 35 4) (xE E0 35 6) S = Except.error (xE E 35 2, xE E 35 3) := (i2 S hS).trans (xtn_0 i3 hz _)
        show xOut17 (pBind (pSwitch (xE E0 36) (xE E0 35 4) (xE E0 35 6) S) (pSem (xE E0 36) (xE E0 35 4))) E2 0
        rw [e]
        exact xOut17_e (by omega) (by omega) (by omega)
      · show (¬ (0) = 0 → (xE E2 35 2 = xE E0 35 2 ∧ xE E2 35 3 = xE E0 35 3))
        omega
    · have hx : x ∈ [zxfrs17_dr0] := hx
      have hag : ∀ k, k < 7 → v2 k = v k := hag
      have hfr : xFr [(35, 2, 3)] _ _ := hfr
      have ex := List.mem_singleton.mp hx
      subst ex
      obtain ⟨hF, hBd, hM⟩ := hXs
      have g2 : v2 2 = v 2 := hag 2 (by decide)
      have g3 : v2 3 = v 3 := hag 3 (by decide)
      have g4 : v2 4 = v 4 := hag 4 (by decide)
      have g5 : v2 5 = v 5 := hag 5 (by decide)
      have g6 : v2 6 = v 6 := hag 6 (by decide)
      have b0 : ((2147483653 : Nat) : Int) ≤ (v2 4) + 2147483648 ∧ (v2 4) + 2147483648 ≤ ((2147483653 : Nat) : Int) := xXb hBd 0 rfl
      have b1 : ((2147483648 : Nat) : Int) ≤ (v2 7) + 2147483648 ∧ (v2 7) + 2147483648 ≤ ((2147484548 : Nat) : Int) := xXb hBd 1 rfl
      have k0 : xE E 35 2 = v 5 := xKcf hKc 0 rfl rfl
      have k1 : xE E 35 3 = v 6 := xKcf hKc 1 rfl rfl
      have f0 : 4 < (v2 4) := xXf hF 0 rfl
      have f1 : (0 : Int) ≤ 5 ∧ xE E 35 5 = (v2 7) := xXf hF 1 rfl
      have m0 : xE E2 35 2 = 6 := xXm hM 0 rfl
      have m1 : xE E2 35 3 = (v2 7) := xXm hM 1 rfl
      have e35_4 : xE E2 35 4 = xE E 35 4 := xFr_E hfr rfl
      have q35_4 : xE E 35 4 = xE E0 35 4 := xFr_E hFr0 rfl
      have e35_5 : xE E2 35 5 = xE E 35 5 := xFr_E hfr rfl
      have e35_6 : xE E2 35 6 = xE E 35 6 := xFr_E hfr rfl
      have e35_7 : xE E2 35 7 = xE E 35 7 := xFr_E hfr rfl
      have e35_8 : xE E2 35 8 = xE E 35 8 := xFr_E hfr rfl
      have e19_3 : xE E2 19 3 = xE E 19 3 := xFr_E hfr rfl
      have q19_3 : xE E 19 3 = xE E0 19 3 := xFr_E hFr0 rfl
      have e36 : ∀ i, xE E2 36 i = xE E 36 i := fun i => xFr_E hfr rfl
      have q36 : ∀ i, xE E 36 i = xE E0 36 i := fun i => xFr_E hFr0 rfl
      have e27 : ∀ i, xE E2 27 i = xE E 27 i := fun i => xFr_E hfr rfl
      have e28 : ∀ i, xE E2 28 i = xE E 28 i := fun i => xFr_E hfr rfl
      have y19_3 : ((2147483648 : Nat) : Int) ≤ xE E0 19 3 + 2147483648 ∧ xE E0 19 3 + 2147483648 ≤ ((2147483679 : Nat) : Int) := xTyF hT0 19 3 3 rfl rfl rfl rfl rfl rfl
      have hI : ((0 ≤ (v 2) ∧ (v 2) < xE E0 19 3) ∧ xE E 35 6 ≤ (xE E0 35 4) ∧ ((∀ k, xE E 27 k = xE E0 27 k) ∧ (∀ k, xE E 28 k = xE E0 28 k)) ∧ ((1 ≤ (v 4) ∧ (v 4) ≤ 4 ∧ ∀ S, xAb17 E0 S → pSwitch (xE E0 36) (xE E0 35 4) (xE E0 35 6) S = pBits (xE E0 36) (xE E0 35 4) S (v 2) (4 - (v 4)).toNat (xE E 35 6) (v 4) (v 3)) ∨ ((v 4) = 5 ∧ ∀ S, xAb17 E0 S → pSwitch (xE E0 36) (xE E0 35 4) (xE E0 35 6) S = .error (6, xE E 35 5)))) ∧ (xE E 35 2 = xE E0 35 2 ∧ xE E 35 3 = xE E0 35 3) := hInv
      obtain ⟨hI, hSm⟩ := hI
      show xΨfrs17S x0 E0 E2 0
      refine ⟨?_, ?_⟩
      · show xΨfrs17 x0 E0 E2 0
        obtain ⟨i1, i0, ⟨j0, j1⟩, i2⟩ := hI
        rcases i2 with ⟨-, w, -⟩ | ⟨-, i2⟩
        · omega
        intro S hS
        have e : pSwitch (xE E0 36) (xE E0 35 4) (xE E0 35 6) S = Except.error (6, xE E 35 5) := i2 S hS
        show xOut17 (pBind (pSwitch (xE E0 36) (xE E0 35 4) (xE E0 35 6) S) (pSem (xE E0 36) (xE E0 35 4))) E2 0
        rw [e]
        exact xOut17_e (by omega) (by omega) (by omega)
      · show (¬ (0) = 0 → (xE E2 35 2 = xE E0 35 2 ∧ xE E2 35 3 = xE E0 35 3))
        omega
    · have hx : x ∈ [zxfrs17_er0, zxfrs17_er1, zxfrs17_er2, zxfrs17_er3, zxfrs17_er4, zxfrs17_er5] := hx
      have hag : ∀ k, k < 7 → v2 k = v k := hag
      have hfr : xFr [(35, 2, 3)] _ _ := hfr
      rcases List.mem_cons.mp hx with ex | hx
      · subst ex
        obtain ⟨hF, hBd, hM⟩ := hXs
        have g2 : v2 2 = v 2 := hag 2 (by decide)
        have g3 : v2 3 = v 3 := hag 3 (by decide)
        have g4 : v2 4 = v 4 := hag 4 (by decide)
        have g5 : v2 5 = v 5 := hag 5 (by decide)
        have g6 : v2 6 = v 6 := hag 6 (by decide)
        have b0 : ((2147483652 : Nat) : Int) ≤ (v2 7) + 2147483648 ∧ (v2 7) + 2147483648 ≤ ((2147483652 : Nat) : Int) := xXb hBd 0 rfl
        have b1 : ((2147483648 : Nat) : Int) ≤ (v2 8) + 2147483648 ∧ (v2 8) + 2147483648 ≤ ((2147484548 : Nat) : Int) := xXb hBd 1 rfl
        have k0 : xE E 35 2 = v 5 := xKcf hKc 0 rfl rfl
        have k1 : xE E 35 3 = v 6 := xKcf hKc 1 rfl rfl
        have f0 : (0 : Int) ≤ 7 ∧ xE E 35 7 = (v2 7) := xXf hF 0 rfl
        have f1 : ¬ (v2 7) = 5 := xXf hF 1 rfl
        have f2 : ¬ (v2 7) = 3 := xXf hF 2 rfl
        have f3 : ¬ (v2 7) = 1 := xXf hF 3 rfl
        have f4 : (0 : Int) ≤ 5 ∧ xE E 35 5 = (v2 8) := xXf hF 4 rfl
        have m0 : xE E2 35 2 = 2 := xXm hM 0 rfl
        have m1 : xE E2 35 3 = (v2 8) := xXm hM 1 rfl
        have e35_4 : xE E2 35 4 = xE E 35 4 := xFr_E hfr rfl
        have q35_4 : xE E 35 4 = xE E0 35 4 := xFr_E hFr0 rfl
        have e35_5 : xE E2 35 5 = xE E 35 5 := xFr_E hfr rfl
        have e35_6 : xE E2 35 6 = xE E 35 6 := xFr_E hfr rfl
        have e35_7 : xE E2 35 7 = xE E 35 7 := xFr_E hfr rfl
        have e35_8 : xE E2 35 8 = xE E 35 8 := xFr_E hfr rfl
        have e19_3 : xE E2 19 3 = xE E 19 3 := xFr_E hfr rfl
        have q19_3 : xE E 19 3 = xE E0 19 3 := xFr_E hFr0 rfl
        have e36 : ∀ i, xE E2 36 i = xE E 36 i := fun i => xFr_E hfr rfl
        have q36 : ∀ i, xE E 36 i = xE E0 36 i := fun i => xFr_E hFr0 rfl
        have e27 : ∀ i, xE E2 27 i = xE E 27 i := fun i => xFr_E hfr rfl
        have e28 : ∀ i, xE E2 28 i = xE E 28 i := fun i => xFr_E hfr rfl
        have y19_3 : ((2147483648 : Nat) : Int) ≤ xE E0 19 3 + 2147483648 ∧ xE E0 19 3 + 2147483648 ≤ ((2147483679 : Nat) : Int) := xTyF hT0 19 3 3 rfl rfl rfl rfl rfl rfl
        have hI : ((0 ≤ (v 2) ∧ (v 2) < xE E0 19 3) ∧ (1 ≤ (v 4) ∧ (v 4) ≤ 4) ∧ ∃ p1, p1 ≤ (xE E0 35 4) ∧ (∀ S, xAb17 E0 S → pSwitch (xE E0 36) (xE E0 35 4) (xE E0 35 6) S = pBits (xE E0 36) (xE E0 35 4) S (v 2) (4 - (v 4)).toNat p1 (v 4) (v 3)) ∧ xAD (xE E0 36) (xE E0 35 4) p1 E ∧ (∀ k, xE E 27 k = xE E0 27 k) ∧ (∀ k, xE E 28 k = xE E0 28 k)) ∧ (xE E 35 2 = xE E0 35 2 ∧ xE E 35 3 = xE E0 35 3) := hInv
        obtain ⟨hI, hSm⟩ := hI
        show xΨfrs17S x0 E0 E2 0
        refine ⟨?_, ?_⟩
        · show xΨfrs17 x0 E0 E2 0
          obtain ⟨i1, i2, p1, i0, i3, ⟨i4, i5, i6, i7⟩, j0, j1⟩ := hI
          have hb := tNx_b (T := xE E0 36) (n := xE E0 35 4) (p := p1) i0
          rw [show (v 2) = v2 2 by omega, show (v 3) = v2 3 by omega, show (v 4) = v2 4 by omega] at i3
          have hpb : ∀ S, xAb17 E0 S → pSwitch (xE E0 36) (xE E0 35 4) (xE E0 35 6) S = .ok (p1, uS (uS S (8 + v2 2) (v2 3)) (40 + v2 2) (v2 4)) := by
            intro S hS
            rw [i3 S hS]
            cases (4 - v2 4).toNat with
            | zero =>
              unfold pBits
              rw [if_neg (by omega)]
            | succ f =>
              show (if tKd (xE E0 36) (xE E0 35 4) p1 = 3 then _ else _) = _
              rw [if_neg (by omega)]
          have hm : pMis (xE E0 36) (xE E0 35 4) p1 = 2 := by unfold pMis; rw [if_neg (by omega)]
          intro S hS
          show xOut17 (pBind (pSwitch (xE E0 36) (xE E0 35 4) (xE E0 35 6) S) (pSem (xE E0 36) (xE E0 35 4))) E2 0
          rw [hpb S hS]
          show xOut17 (pSem (xE E0 36) (xE E0 35 4) p1 _) E2 0
          unfold pSem
          rw [if_neg (by omega), hm]
          exact xOut17_f (by omega) (by omega) (by omega)
        · show (¬ (0) = 0 → (xE E2 35 2 = xE E0 35 2 ∧ xE E2 35 3 = xE E0 35 3))
          omega
      · skip
        rcases List.mem_cons.mp hx with ex | hx
        · subst ex
          obtain ⟨hF, hBd, hM⟩ := hXs
          have g2 : v2 2 = v 2 := hag 2 (by decide)
          have g3 : v2 3 = v 3 := hag 3 (by decide)
          have g4 : v2 4 = v 4 := hag 4 (by decide)
          have g5 : v2 5 = v 5 := hag 5 (by decide)
          have g6 : v2 6 = v 6 := hag 6 (by decide)
          have b0 : ((2147483650 : Nat) : Int) ≤ (v2 7) + 2147483648 ∧ (v2 7) + 2147483648 ≤ ((2147483650 : Nat) : Int) := xXb hBd 0 rfl
          have b1 : ((2147483648 : Nat) : Int) ≤ (v2 8) + 2147483648 ∧ (v2 8) + 2147483648 ≤ ((2147484548 : Nat) : Int) := xXb hBd 1 rfl
          have k0 : xE E 35 2 = v 5 := xKcf hKc 0 rfl rfl
          have k1 : xE E 35 3 = v 6 := xKcf hKc 1 rfl rfl
          have f0 : (0 : Int) ≤ 7 ∧ xE E 35 7 = (v2 7) := xXf hF 0 rfl
          have f1 : ¬ (v2 7) = 5 := xXf hF 1 rfl
          have f2 : ¬ (v2 7) = 3 := xXf hF 2 rfl
          have f3 : ¬ (v2 7) = 1 := xXf hF 3 rfl
          have f4 : (0 : Int) ≤ 5 ∧ xE E 35 5 = (v2 8) := xXf hF 4 rfl
          have m0 : xE E2 35 2 = 2 := xXm hM 0 rfl
          have m1 : xE E2 35 3 = (v2 8) := xXm hM 1 rfl
          have e35_4 : xE E2 35 4 = xE E 35 4 := xFr_E hfr rfl
          have q35_4 : xE E 35 4 = xE E0 35 4 := xFr_E hFr0 rfl
          have e35_5 : xE E2 35 5 = xE E 35 5 := xFr_E hfr rfl
          have e35_6 : xE E2 35 6 = xE E 35 6 := xFr_E hfr rfl
          have e35_7 : xE E2 35 7 = xE E 35 7 := xFr_E hfr rfl
          have e35_8 : xE E2 35 8 = xE E 35 8 := xFr_E hfr rfl
          have e19_3 : xE E2 19 3 = xE E 19 3 := xFr_E hfr rfl
          have q19_3 : xE E 19 3 = xE E0 19 3 := xFr_E hFr0 rfl
          have e36 : ∀ i, xE E2 36 i = xE E 36 i := fun i => xFr_E hfr rfl
          have q36 : ∀ i, xE E 36 i = xE E0 36 i := fun i => xFr_E hFr0 rfl
          have e27 : ∀ i, xE E2 27 i = xE E 27 i := fun i => xFr_E hfr rfl
          have e28 : ∀ i, xE E2 28 i = xE E 28 i := fun i => xFr_E hfr rfl
          have y19_3 : ((2147483648 : Nat) : Int) ≤ xE E0 19 3 + 2147483648 ∧ xE E0 19 3 + 2147483648 ≤ ((2147483679 : Nat) : Int) := xTyF hT0 19 3 3 rfl rfl rfl rfl rfl rfl
          have hI : ((0 ≤ (v 2) ∧ (v 2) < xE E0 19 3) ∧ (1 ≤ (v 4) ∧ (v 4) ≤ 4) ∧ ∃ p1, p1 ≤ (xE E0 35 4) ∧ (∀ S, xAb17 E0 S → pSwitch (xE E0 36) (xE E0 35 4) (xE E0 35 6) S = pBits (xE E0 36) (xE E0 35 4) S (v 2) (4 - (v 4)).toNat p1 (v 4) (v 3)) ∧ xAD (xE E0 36) (xE E0 35 4) p1 E ∧ (∀ k, xE E 27 k = xE E0 27 k) ∧ (∀ k, xE E 28 k = xE E0 28 k)) ∧ (xE E 35 2 = xE E0 35 2 ∧ xE E 35 3 = xE E0 35 3) := hInv
          obtain ⟨hI, hSm⟩ := hI
          show xΨfrs17S x0 E0 E2 0
          refine ⟨?_, ?_⟩
          · show xΨfrs17 x0 E0 E2 0
            obtain ⟨i1, i2, p1, i0, i3, ⟨i4, i5, i6, i7⟩, j0, j1⟩ := hI
            have hb := tNx_b (T := xE E0 36) (n := xE E0 35 4) (p := p1) i0
            rw [show (v 2) = v2 2 by omega, show (v 3) = v2 3 by omega, show (v 4) = v2 4 by omega] at i3
            have hpb : ∀ S, xAb17 E0 S → pSwitch (xE E0 36) (xE E0 35 4) (xE E0 35 6) S = .ok (p1, uS (uS S (8 + v2 2) (v2 3)) (40 + v2 2) (v2 4)) := by
              intro S hS
              rw [i3 S hS]
              cases (4 - v2 4).toNat with
              | zero =>
                unfold pBits
                rw [if_neg (by omega)]
              | succ f =>
                show (if tKd (xE E0 36) (xE E0 35 4) p1 = 3 then _ else _) = _
                rw [if_neg (by omega)]
            have hm : pMis (xE E0 36) (xE E0 35 4) p1 = 2 := by unfold pMis; rw [if_neg (by omega)]
            intro S hS
            show xOut17 (pBind (pSwitch (xE E0 36) (xE E0 35 4) (xE E0 35 6) S) (pSem (xE E0 36) (xE E0 35 4))) E2 0
            rw [hpb S hS]
            show xOut17 (pSem (xE E0 36) (xE E0 35 4) p1 _) E2 0
            unfold pSem
            rw [if_neg (by omega), hm]
            exact xOut17_f (by omega) (by omega) (by omega)
          · show (¬ (0) = 0 → (xE E2 35 2 = xE E0 35 2 ∧ xE E2 35 3 = xE E0 35 3))
            omega
        · skip
          rcases List.mem_cons.mp hx with ex | hx
          · subst ex
            obtain ⟨hF, hBd, hM⟩ := hXs
            have g2 : v2 2 = v 2 := hag 2 (by decide)
            have g3 : v2 3 = v 3 := hag 3 (by decide)
            have g4 : v2 4 = v 4 := hag 4 (by decide)
            have g5 : v2 5 = v 5 := hag 5 (by decide)
            have g6 : v2 6 = v 6 := hag 6 (by decide)
            have b0 : ((2147483648 : Nat) : Int) ≤ (v2 7) + 2147483648 ∧ (v2 7) + 2147483648 ≤ ((2147483648 : Nat) : Int) := xXb hBd 0 rfl
            have b1 : ((2147483648 : Nat) : Int) ≤ (v2 8) + 2147483648 ∧ (v2 8) + 2147483648 ≤ ((2147484548 : Nat) : Int) := xXb hBd 1 rfl
            have k0 : xE E 35 2 = v 5 := xKcf hKc 0 rfl rfl
            have k1 : xE E 35 3 = v 6 := xKcf hKc 1 rfl rfl
            have f0 : (0 : Int) ≤ 7 ∧ xE E 35 7 = (v2 7) := xXf hF 0 rfl
            have f1 : ¬ (v2 7) = 5 := xXf hF 1 rfl
            have f2 : ¬ (v2 7) = 3 := xXf hF 2 rfl
            have f3 : ¬ (v2 7) = 1 := xXf hF 3 rfl
            have f4 : (0 : Int) ≤ 5 ∧ xE E 35 5 = (v2 8) := xXf hF 4 rfl
            have m0 : xE E2 35 2 = 2 := xXm hM 0 rfl
            have m1 : xE E2 35 3 = (v2 8) := xXm hM 1 rfl
            have e35_4 : xE E2 35 4 = xE E 35 4 := xFr_E hfr rfl
            have q35_4 : xE E 35 4 = xE E0 35 4 := xFr_E hFr0 rfl
            have e35_5 : xE E2 35 5 = xE E 35 5 := xFr_E hfr rfl
            have e35_6 : xE E2 35 6 = xE E 35 6 := xFr_E hfr rfl
            have e35_7 : xE E2 35 7 = xE E 35 7 := xFr_E hfr rfl
            have e35_8 : xE E2 35 8 = xE E 35 8 := xFr_E hfr rfl
            have e19_3 : xE E2 19 3 = xE E 19 3 := xFr_E hfr rfl
            have q19_3 : xE E 19 3 = xE E0 19 3 := xFr_E hFr0 rfl
            have e36 : ∀ i, xE E2 36 i = xE E 36 i := fun i => xFr_E hfr rfl
            have q36 : ∀ i, xE E 36 i = xE E0 36 i := fun i => xFr_E hFr0 rfl
            have e27 : ∀ i, xE E2 27 i = xE E 27 i := fun i => xFr_E hfr rfl
            have e28 : ∀ i, xE E2 28 i = xE E 28 i := fun i => xFr_E hfr rfl
            have y19_3 : ((2147483648 : Nat) : Int) ≤ xE E0 19 3 + 2147483648 ∧ xE E0 19 3 + 2147483648 ≤ ((2147483679 : Nat) : Int) := xTyF hT0 19 3 3 rfl rfl rfl rfl rfl rfl
            have hI : ((0 ≤ (v 2) ∧ (v 2) < xE E0 19 3) ∧ (1 ≤ (v 4) ∧ (v 4) ≤ 4) ∧ ∃ p1, p1 ≤ (xE E0 35 4) ∧ (∀ S, xAb17 E0 S → pSwitch (xE E0 36) (xE E0 35 4) (xE E0 35 6) S = pBits (xE E0 36) (xE E0 35 4) S (v 2) (4 - (v 4)).toNat p1 (v 4) (v 3)) ∧ xAD (xE E0 36) (xE E0 35 4) p1 E ∧ (∀ k, xE E 27 k = xE E0 27 k) ∧ (∀ k, xE E 28 k = xE E0 28 k)) ∧ (xE E 35 2 = xE E0 35 2 ∧ xE E 35 3 = xE E0 35 3) := hInv
            obtain ⟨hI, hSm⟩ := hI
            show xΨfrs17S x0 E0 E2 0
            refine ⟨?_, ?_⟩
            · show xΨfrs17 x0 E0 E2 0
              obtain ⟨i1, i2, p1, i0, i3, ⟨i4, i5, i6, i7⟩, j0, j1⟩ := hI
              have hb := tNx_b (T := xE E0 36) (n := xE E0 35 4) (p := p1) i0
              rw [show (v 2) = v2 2 by omega, show (v 3) = v2 3 by omega, show (v 4) = v2 4 by omega] at i3
              have hpb : ∀ S, xAb17 E0 S → pSwitch (xE E0 36) (xE E0 35 4) (xE E0 35 6) S = .ok (p1, uS (uS S (8 + v2 2) (v2 3)) (40 + v2 2) (v2 4)) := by
                intro S hS
                rw [i3 S hS]
                cases (4 - v2 4).toNat with
                | zero =>
                  unfold pBits
                  rw [if_neg (by omega)]
                | succ f =>
                  show (if tKd (xE E0 36) (xE E0 35 4) p1 = 3 then _ else _) = _
                  rw [if_neg (by omega)]
              have hm : pMis (xE E0 36) (xE E0 35 4) p1 = 2 := by unfold pMis; rw [if_neg (by omega)]
              intro S hS
              show xOut17 (pBind (pSwitch (xE E0 36) (xE E0 35 4) (xE E0 35 6) S) (pSem (xE E0 36) (xE E0 35 4))) E2 0
              rw [hpb S hS]
              show xOut17 (pSem (xE E0 36) (xE E0 35 4) p1 _) E2 0
              unfold pSem
              rw [if_neg (by omega), hm]
              exact xOut17_f (by omega) (by omega) (by omega)
            · show (¬ (0) = 0 → (xE E2 35 2 = xE E0 35 2 ∧ xE E2 35 3 = xE E0 35 3))
              omega
          · skip
            rcases List.mem_cons.mp hx with ex | hx
            · subst ex
              obtain ⟨hF, hBd, hM⟩ := hXs
              have g2 : v2 2 = v 2 := hag 2 (by decide)
              have g3 : v2 3 = v 3 := hag 3 (by decide)
              have g4 : v2 4 = v 4 := hag 4 (by decide)
              have g5 : v2 5 = v 5 := hag 5 (by decide)
              have g6 : v2 6 = v 6 := hag 6 (by decide)
              have b0 : ((2147483649 : Nat) : Int) ≤ (v2 7) + 2147483648 ∧ (v2 7) + 2147483648 ≤ ((2147483649 : Nat) : Int) := xXb hBd 0 rfl
              have b1 : ((2147483648 : Nat) : Int) ≤ (v2 8) + 2147483648 ∧ (v2 8) + 2147483648 ≤ ((2147484548 : Nat) : Int) := xXb hBd 1 rfl
              have k0 : xE E 35 2 = v 5 := xKcf hKc 0 rfl rfl
              have k1 : xE E 35 3 = v 6 := xKcf hKc 1 rfl rfl
              have f0 : (0 : Int) ≤ 7 ∧ xE E 35 7 = (v2 7) := xXf hF 0 rfl
              have f1 : ¬ (v2 7) = 5 := xXf hF 1 rfl
              have f2 : ¬ (v2 7) = 3 := xXf hF 2 rfl
              have f3 : (v2 7) = 1 := xXf hF 3 rfl
              have f4 : (0 : Int) ≤ 5 ∧ xE E 35 5 = (v2 8) := xXf hF 4 rfl
              have m0 : xE E2 35 2 = 1 := xXm hM 0 rfl
              have m1 : xE E2 35 3 = (v2 8) := xXm hM 1 rfl
              have e35_4 : xE E2 35 4 = xE E 35 4 := xFr_E hfr rfl
              have q35_4 : xE E 35 4 = xE E0 35 4 := xFr_E hFr0 rfl
              have e35_5 : xE E2 35 5 = xE E 35 5 := xFr_E hfr rfl
              have e35_6 : xE E2 35 6 = xE E 35 6 := xFr_E hfr rfl
              have e35_7 : xE E2 35 7 = xE E 35 7 := xFr_E hfr rfl
              have e35_8 : xE E2 35 8 = xE E 35 8 := xFr_E hfr rfl
              have e19_3 : xE E2 19 3 = xE E 19 3 := xFr_E hfr rfl
              have q19_3 : xE E 19 3 = xE E0 19 3 := xFr_E hFr0 rfl
              have e36 : ∀ i, xE E2 36 i = xE E 36 i := fun i => xFr_E hfr rfl
              have q36 : ∀ i, xE E 36 i = xE E0 36 i := fun i => xFr_E hFr0 rfl
              have e27 : ∀ i, xE E2 27 i = xE E 27 i := fun i => xFr_E hfr rfl
              have e28 : ∀ i, xE E2 28 i = xE E 28 i := fun i => xFr_E hfr rfl
              have y19_3 : ((2147483648 : Nat) : Int) ≤ xE E0 19 3 + 2147483648 ∧ xE E0 19 3 + 2147483648 ≤ ((2147483679 : Nat) : Int) := xTyF hT0 19 3 3 rfl rfl rfl rfl rfl rfl
              have hI : ((0 ≤ (v 2) ∧ (v 2) < xE E0 19 3) ∧ (1 ≤ (v 4) ∧ (v 4) ≤ 4) ∧ ∃ p1, p1 ≤ (xE E0 35 4) ∧ (∀ S, xAb17 E0 S → pSwitch (xE E0 36) (xE E0 35 4) (xE E0 35 6) S = pBits (xE E0 36) (xE E0 35 4) S (v 2) (4 - (v 4)).toNat p1 (v 4) (v 3)) ∧ xAD (xE E0 36) (xE E0 35 4) p1 E ∧ (∀ k, xE E 27 k = xE E0 27 k) ∧ (∀ k, xE E 28 k = xE E0 28 k)) ∧ (xE E 35 2 = xE E0 35 2 ∧ xE E 35 3 = xE E0 35 3) := hInv
              obtain ⟨hI, hSm⟩ := hI
              show xΨfrs17S x0 E0 E2 0
              refine ⟨?_, ?_⟩
              · show xΨfrs17 x0 E0 E2 0
                obtain ⟨i1, i2, p1, i0, i3, ⟨i4, i5, i6, i7⟩, j0, j1⟩ := hI
                have hb := tNx_b (T := xE E0 36) (n := xE E0 35 4) (p := p1) i0
                rw [show (v 2) = v2 2 by omega, show (v 3) = v2 3 by omega, show (v 4) = v2 4 by omega] at i3
                have hpb : ∀ S, xAb17 E0 S → pSwitch (xE E0 36) (xE E0 35 4) (xE E0 35 6) S = .ok (p1, uS (uS S (8 + v2 2) (v2 3)) (40 + v2 2) (v2 4)) := by
                  intro S hS
                  rw [i3 S hS]
                  cases (4 - v2 4).toNat with
                  | zero =>
                    unfold pBits
                    rw [if_neg (by omega)]
                  | succ f =>
                    show (if tKd (xE E0 36) (xE E0 35 4) p1 = 3 then _ else _) = _
                    rw [if_neg (by omega)]
                have hm : pMis (xE E0 36) (xE E0 35 4) p1 = 1 := by unfold pMis; rw [if_pos (by omega)]
                intro S hS
                show xOut17 (pBind (pSwitch (xE E0 36) (xE E0 35 4) (xE E0 35 6) S) (pSem (xE E0 36) (xE E0 35 4))) E2 0
                rw [hpb S hS]
                show xOut17 (pSem (xE E0 36) (xE E0 35 4) p1 _) E2 0
                unfold pSem
                rw [if_neg (by omega), hm]
                exact xOut17_f (by omega) (by omega) (by omega)
              · show (¬ (0) = 0 → (xE E2 35 2 = xE E0 35 2 ∧ xE E2 35 3 = xE E0 35 3))
                omega
            · skip
              rcases List.mem_cons.mp hx with ex | hx
              · subst ex
                obtain ⟨hF, hBd, hM⟩ := hXs
                have g2 : v2 2 = v 2 := hag 2 (by decide)
                have g3 : v2 3 = v 3 := hag 3 (by decide)
                have g4 : v2 4 = v 4 := hag 4 (by decide)
                have g5 : v2 5 = v 5 := hag 5 (by decide)
                have g6 : v2 6 = v 6 := hag 6 (by decide)
                have b0 : ((2147483651 : Nat) : Int) ≤ (v2 7) + 2147483648 ∧ (v2 7) + 2147483648 ≤ ((2147483651 : Nat) : Int) := xXb hBd 0 rfl
                have b1 : ((0 : Nat) : Int) ≤ (v2 8) + 2147483648 ∧ (v2 8) + 2147483648 ≤ ((2147483647 : Nat) : Int) := xXb hBd 1 rfl
                have b2 : ((2147483648 : Nat) : Int) ≤ (v2 9) + 2147483648 ∧ (v2 9) + 2147483648 ≤ ((2147484548 : Nat) : Int) := xXb hBd 2 rfl
                have k0 : xE E 35 2 = v 5 := xKcf hKc 0 rfl rfl
                have k1 : xE E 35 3 = v 6 := xKcf hKc 1 rfl rfl
                have f0 : (0 : Int) ≤ 7 ∧ xE E 35 7 = (v2 7) := xXf hF 0 rfl
                have f1 : ¬ (v2 7) = 5 := xXf hF 1 rfl
                have f2 : (v2 7) = 3 := xXf hF 2 rfl
                have f3 : (0 : Int) ≤ 8 ∧ xE E 35 8 = (v2 8) := xXf hF 3 rfl
                have f4 : (v2 8) < 0 := xXf hF 4 rfl
                have f5 : (0 : Int) ≤ 5 ∧ xE E 35 5 = (v2 9) := xXf hF 5 rfl
                have m0 : xE E2 35 2 = 3 := xXm hM 0 rfl
                have m1 : xE E2 35 3 = (v2 9) := xXm hM 1 rfl
                have e35_4 : xE E2 35 4 = xE E 35 4 := xFr_E hfr rfl
                have q35_4 : xE E 35 4 = xE E0 35 4 := xFr_E hFr0 rfl
                have e35_5 : xE E2 35 5 = xE E 35 5 := xFr_E hfr rfl
                have e35_6 : xE E2 35 6 = xE E 35 6 := xFr_E hfr rfl
                have e35_7 : xE E2 35 7 = xE E 35 7 := xFr_E hfr rfl
                have e35_8 : xE E2 35 8 = xE E 35 8 := xFr_E hfr rfl
                have e19_3 : xE E2 19 3 = xE E 19 3 := xFr_E hfr rfl
                have q19_3 : xE E 19 3 = xE E0 19 3 := xFr_E hFr0 rfl
                have e36 : ∀ i, xE E2 36 i = xE E 36 i := fun i => xFr_E hfr rfl
                have q36 : ∀ i, xE E 36 i = xE E0 36 i := fun i => xFr_E hFr0 rfl
                have e27 : ∀ i, xE E2 27 i = xE E 27 i := fun i => xFr_E hfr rfl
                have e28 : ∀ i, xE E2 28 i = xE E 28 i := fun i => xFr_E hfr rfl
                have y19_3 : ((2147483648 : Nat) : Int) ≤ xE E0 19 3 + 2147483648 ∧ xE E0 19 3 + 2147483648 ≤ ((2147483679 : Nat) : Int) := xTyF hT0 19 3 3 rfl rfl rfl rfl rfl rfl
                have hI : ((0 ≤ (v 2) ∧ (v 2) < xE E0 19 3) ∧ (1 ≤ (v 4) ∧ (v 4) ≤ 4) ∧ ∃ p1, p1 ≤ (xE E0 35 4) ∧ (∀ S, xAb17 E0 S → pSwitch (xE E0 36) (xE E0 35 4) (xE E0 35 6) S = pBits (xE E0 36) (xE E0 35 4) S (v 2) (4 - (v 4)).toNat p1 (v 4) (v 3)) ∧ xAD (xE E0 36) (xE E0 35 4) p1 E ∧ (∀ k, xE E 27 k = xE E0 27 k) ∧ (∀ k, xE E 28 k = xE E0 28 k)) ∧ (xE E 35 2 = xE E0 35 2 ∧ xE E 35 3 = xE E0 35 3) := hInv
                obtain ⟨hI, hSm⟩ := hI
                show xΨfrs17S x0 E0 E2 0
                refine ⟨?_, ?_⟩
                · show xΨfrs17 x0 E0 E2 0
                  obtain ⟨i1, i2, p1, i0, i3, ⟨i4, i5, i6, i7⟩, j0, j1⟩ := hI
                  have hb := tNx_b (T := xE E0 36) (n := xE E0 35 4) (p := p1) i0
                  rw [show (v 2) = v2 2 by omega, show (v 3) = v2 3 by omega, show (v 4) = v2 4 by omega] at i3
                  have hk : tKd (xE E0 36) (xE E0 35 4) p1 = 3 := by omega
                  have hval := i7 hk
                  intro S hS
                  have e : pSwitch (xE E0 36) (xE E0 35 4) (xE E0 35 6) S = Except.error (3, tFr (xE E0 36) (xE E0 35 4) p1) := by
                    rw [i3 S hS]
                    cases (4 - v2 4).toNat with
                    | zero =>
                      unfold pBits
                      rw [if_pos hk, if_neg (by omega)]
                    | succ f =>
                      show (if tKd (xE E0 36) (xE E0 35 4) p1 = 3 then (if 0 ≤ tNm (xE E0 36) (xE E0 35 4) p1 ∧ tNm (xE E0 36) (xE E0 35 4) p1 ≤ 1 then _ else _) else _) = _
                      rw [if_pos hk, if_neg (by omega)]
                  show xOut17 (pBind (pSwitch (xE E0 36) (xE E0 35 4) (xE E0 35 6) S) (pSem (xE E0 36) (xE E0 35 4))) E2 0
                  rw [e]
                  exact xOut17_e (by omega) (by omega) (by omega)
                · show (¬ (0) = 0 → (xE E2 35 2 = xE E0 35 2 ∧ xE E2 35 3 = xE E0 35 3))
                  omega
              · skip
                have ex := List.mem_singleton.mp hx
                subst ex
                obtain ⟨hF, hBd, hM⟩ := hXs
                have g2 : v2 2 = v 2 := hag 2 (by decide)
                have g3 : v2 3 = v 3 := hag 3 (by decide)
                have g4 : v2 4 = v 4 := hag 4 (by decide)
                have g5 : v2 5 = v 5 := hag 5 (by decide)
                have g6 : v2 6 = v 6 := hag 6 (by decide)
                have b0 : ((2147483651 : Nat) : Int) ≤ (v2 7) + 2147483648 ∧ (v2 7) + 2147483648 ≤ ((2147483651 : Nat) : Int) := xXb hBd 0 rfl
                have b1 : ((2147483650 : Nat) : Int) ≤ (v2 8) + 2147483648 ∧ (v2 8) + 2147483648 ≤ ((4294967295 : Nat) : Int) := xXb hBd 1 rfl
                have b2 : ((2147483648 : Nat) : Int) ≤ (v2 9) + 2147483648 ∧ (v2 9) + 2147483648 ≤ ((2147484548 : Nat) : Int) := xXb hBd 2 rfl
                have k0 : xE E 35 2 = v 5 := xKcf hKc 0 rfl rfl
                have k1 : xE E 35 3 = v 6 := xKcf hKc 1 rfl rfl
                have f0 : (0 : Int) ≤ 7 ∧ xE E 35 7 = (v2 7) := xXf hF 0 rfl
                have f1 : ¬ (v2 7) = 5 := xXf hF 1 rfl
                have f2 : (v2 7) = 3 := xXf hF 2 rfl
                have f3 : (0 : Int) ≤ 8 ∧ xE E 35 8 = (v2 8) := xXf hF 3 rfl
                have f4 : 0 ≤ (v2 8) := xXf hF 4 rfl
                have f5 : 1 < (v2 8) := xXf hF 5 rfl
                have f6 : (0 : Int) ≤ 5 ∧ xE E 35 5 = (v2 9) := xXf hF 6 rfl
                have m0 : xE E2 35 2 = 3 := xXm hM 0 rfl
                have m1 : xE E2 35 3 = (v2 9) := xXm hM 1 rfl
                have e35_4 : xE E2 35 4 = xE E 35 4 := xFr_E hfr rfl
                have q35_4 : xE E 35 4 = xE E0 35 4 := xFr_E hFr0 rfl
                have e35_5 : xE E2 35 5 = xE E 35 5 := xFr_E hfr rfl
                have e35_6 : xE E2 35 6 = xE E 35 6 := xFr_E hfr rfl
                have e35_7 : xE E2 35 7 = xE E 35 7 := xFr_E hfr rfl
                have e35_8 : xE E2 35 8 = xE E 35 8 := xFr_E hfr rfl
                have e19_3 : xE E2 19 3 = xE E 19 3 := xFr_E hfr rfl
                have q19_3 : xE E 19 3 = xE E0 19 3 := xFr_E hFr0 rfl
                have e36 : ∀ i, xE E2 36 i = xE E 36 i := fun i => xFr_E hfr rfl
                have q36 : ∀ i, xE E 36 i = xE E0 36 i := fun i => xFr_E hFr0 rfl
                have e27 : ∀ i, xE E2 27 i = xE E 27 i := fun i => xFr_E hfr rfl
                have e28 : ∀ i, xE E2 28 i = xE E 28 i := fun i => xFr_E hfr rfl
                have y19_3 : ((2147483648 : Nat) : Int) ≤ xE E0 19 3 + 2147483648 ∧ xE E0 19 3 + 2147483648 ≤ ((2147483679 : Nat) : Int) := xTyF hT0 19 3 3 rfl rfl rfl rfl rfl rfl
                have hI : ((0 ≤ (v 2) ∧ (v 2) < xE E0 19 3) ∧ (1 ≤ (v 4) ∧ (v 4) ≤ 4) ∧ ∃ p1, p1 ≤ (xE E0 35 4) ∧ (∀ S, xAb17 E0 S → pSwitch (xE E0 36) (xE E0 35 4) (xE E0 35 6) S = pBits (xE E0 36) (xE E0 35 4) S (v 2) (4 - (v 4)).toNat p1 (v 4) (v 3)) ∧ xAD (xE E0 36) (xE E0 35 4) p1 E ∧ (∀ k, xE E 27 k = xE E0 27 k) ∧ (∀ k, xE E 28 k = xE E0 28 k)) ∧ (xE E 35 2 = xE E0 35 2 ∧ xE E 35 3 = xE E0 35 3) := hInv
                obtain ⟨hI, hSm⟩ := hI
                show xΨfrs17S x0 E0 E2 0
                refine ⟨?_, ?_⟩
                · show xΨfrs17 x0 E0 E2 0
                  obtain ⟨i1, i2, p1, i0, i3, ⟨i4, i5, i6, i7⟩, j0, j1⟩ := hI
                  have hb := tNx_b (T := xE E0 36) (n := xE E0 35 4) (p := p1) i0
                  rw [show (v 2) = v2 2 by omega, show (v 3) = v2 3 by omega, show (v 4) = v2 4 by omega] at i3
                  have hk : tKd (xE E0 36) (xE E0 35 4) p1 = 3 := by omega
                  have hval := i7 hk
                  intro S hS
                  have e : pSwitch (xE E0 36) (xE E0 35 4) (xE E0 35 6) S = Except.error (3, tFr (xE E0 36) (xE E0 35 4) p1) := by
                    rw [i3 S hS]
                    cases (4 - v2 4).toNat with
                    | zero =>
                      unfold pBits
                      rw [if_pos hk, if_neg (by omega)]
                    | succ f =>
                      show (if tKd (xE E0 36) (xE E0 35 4) p1 = 3 then (if 0 ≤ tNm (xE E0 36) (xE E0 35 4) p1 ∧ tNm (xE E0 36) (xE E0 35 4) p1 ≤ 1 then _ else _) else _) = _
                      rw [if_pos hk, if_neg (by omega)]
                  show xOut17 (pBind (pSwitch (xE E0 36) (xE E0 35 4) (xE E0 35 6) S) (pSem (xE E0 36) (xE E0 35 4))) E2 0
                  rw [e]
                  exact xOut17_e (by omega) (by omega) (by omega)
                · show (¬ (0) = 0 → (xE E2 35 2 = xE E0 35 2 ∧ xE E2 35 3 = xE E0 35 3))
                  omega
    · cases hx
    · have hx : x ∈ [zxfrs17_gr0] := hx
      have hag : ∀ k, k < 5 → v2 k = v k := hag
      have hfr : xFr [] _ _ := hfr
      have ex := List.mem_singleton.mp hx
      subst ex
      obtain ⟨hF, hBd, hM⟩ := hXs
      have e35_4 : xE E2 35 4 = xE E 35 4 := xFr_E hfr rfl
      have q35_4 : xE E 35 4 = xE E0 35 4 := xFr_E hFr0 rfl
      have e35_5 : xE E2 35 5 = xE E 35 5 := xFr_E hfr rfl
      have e35_6 : xE E2 35 6 = xE E 35 6 := xFr_E hfr rfl
      have e35_7 : xE E2 35 7 = xE E 35 7 := xFr_E hfr rfl
      have e35_8 : xE E2 35 8 = xE E 35 8 := xFr_E hfr rfl
      have e35_2 : xE E2 35 2 = xE E 35 2 := xFr_E hfr rfl
      have e35_3 : xE E2 35 3 = xE E 35 3 := xFr_E hfr rfl
      have e19_3 : xE E2 19 3 = xE E 19 3 := xFr_E hfr rfl
      have q19_3 : xE E 19 3 = xE E0 19 3 := xFr_E hFr0 rfl
      have e36 : ∀ i, xE E2 36 i = xE E 36 i := fun i => xFr_E hfr rfl
      have q36 : ∀ i, xE E 36 i = xE E0 36 i := fun i => xFr_E hFr0 rfl
      have e27 : ∀ i, xE E2 27 i = xE E 27 i := fun i => xFr_E hfr rfl
      have e28 : ∀ i, xE E2 28 i = xE E 28 i := fun i => xFr_E hfr rfl
      have y19_3 : ((2147483648 : Nat) : Int) ≤ xE E0 19 3 + 2147483648 ∧ xE E0 19 3 + 2147483648 ≤ ((2147483679 : Nat) : Int) := xTyF hT0 19 3 3 rfl rfl rfl rfl rfl rfl
      have hI : (∃ g b l, (0 ≤ g ∧ g < xE E0 19 3) ∧ (∀ S, xAb17 E0 S → pBind (pSwitch (xE E0 36) (xE E0 35 4) (xE E0 35 6) S) (pSem (xE E0 36) (xE E0 35 4)) = .ok (xE E 35 6, uS (uS S (8 + g) b) (40 + g) l)) ∧ xE E 27 g = b ∧ (∀ k, 0 ≤ k → ¬ k = g → xE E 27 k = xE E0 27 k) ∧ xE E 28 g = l ∧ (∀ k, 0 ≤ k → ¬ k = g → xE E 28 k = xE E0 28 k)) ∧ (xE E 35 2 = xE E0 35 2 ∧ xE E 35 3 = xE E0 35 3) := hInv
      obtain ⟨hI, hSm⟩ := hI
      show xΨfrs17S x0 E0 E2 1
      refine ⟨?_, ?_⟩
      · show xΨfrs17 x0 E0 E2 1
        obtain ⟨g, b, l, i1, i2, i3, i4, i5, i6⟩ := hI
        have hE2 := xFr_n hfr
        subst hE2
        intro S hS
        show xOut17 (pBind (pSwitch (xE E0 36) (xE E0 35 4) (xE E0 35 6) S) (pSem (xE E0 36) (xE E0 35 4))) E2 1
        rw [i2 S hS]
        have hN := hS.2.1.2.2.2
        exact xOut17_k rfl rfl (xAb17_sw hS ⟨by omega, by omega⟩ hFr0 i3 i4 i5 i6)
      · show (¬ (1) = 0 → (xE E2 35 2 = xE E0 35 2 ∧ xE E2 35 3 = xE E0 35 3))
        omega
end
section
/-! THE CLASS's plans as cells: what is told (printed by m7.py) -/
theorem xAb17_sk {E E2 : zyEm} {S : Int → Int} {g b : Int} (hg : 0 ≤ g ∧ g < 31) (h1 : xE E2 29 g = b) (h2 : ∀ k, 0 ≤ k → ¬ k = g → xE E2 29 k = xE E 29 k) (h : xAb17 E S) (hf : xFr [(35, 2, 3), (35, 5, 8), (29, 0, 30)] E E2) : xAb17 E2 (uS S (72 + g) b) := by
  obtain ⟨a0, a1, a2, a3, a4, a5, a6⟩ := h
  have u : ∀ j, ¬ j = 72 + g → uS S (72 + g) b j = S j := fun j h90 => by rw [uS_n h90]
  refine ⟨by rw [u (0) (by omega), u (1) (by omega), u (2) (by omega), u (5) (by omega)]; exact a0, ?_, ?_, ?_, ?_, ?_, ?_⟩
  · rw [u (0) (by omega), u (1) (by omega), xFr_E hf rfl, xFr_E hf rfl, xFr_E hf rfl, xFr_E hf rfl]
    exact a1
  · intro s s0 s1
    rw [u (0) (by omega), u (1) (by omega)] at s1 ⊢
    rw [xFr_E hf rfl]
    exact a2 s s0 s1
  · rw [u (2) (by omega), xFr_E hf rfl]
    refine ⟨a3.1, fun k k0 k1 => ?_⟩
    rw [u (136 + k) (by omega), u (152 + k) (by omega), (show xE E2 31 k = xE E 31 k from xFr_E hf rfl), (show xE E2 32 k = xE E 32 k from xFr_E hf rfl)]
    exact a3.2 k k0 k1
  · intro k k0 k1
    have w := a4 k k0 k1
    rw [u (8 + k) (by omega), u (40 + k) (by omega), u (104 + k) (by omega), (show xE E2 27 k = xE E 27 k from xFr_E hf rfl), (show xE E2 28 k = xE E 28 k from xFr_E hf rfl), (show xE E2 30 k = xE E 30 k from xFr_E hf rfl)]
    by_cases e : k = g
    · subst e
      rw [uS_e rfl, h1]
      exact ⟨w.1, w.2.1, rfl, w.2.2.2⟩
    · rw [u (72 + k) (by omega), h2 k k0 e]
      exact w
  · rw [u (5) (by omega), (show xE E2 18 8 = xE E 18 8 from xFr_E hf rfl), (show xE E2 33 1 = xE E 33 1 from xFr_E hf rfl)]
    exact a5
  · intro k k0 k1
    rw [u (5) (by omega)] at k1
    rw [u (460 + k) (by omega), (show xE E2 34 k = xE E 34 k from xFr_E hf rfl)]
    exact a6 k k0 k1
theorem xAb17_fr {E E2 : zyEm} {S : Int → Int} {g b : Int} (hg : 0 ≤ g ∧ g < 31) (h1 : xE E2 30 g = b) (h2 : ∀ k, 0 ≤ k → ¬ k = g → xE E2 30 k = xE E 30 k) (h : xAb17 E S) (hf : xFr [(35, 2, 3), (35, 5, 8), (30, 0, 30)] E E2) : xAb17 E2 (uS S (104 + g) b) := by
  obtain ⟨a0, a1, a2, a3, a4, a5, a6⟩ := h
  have u : ∀ j, ¬ j = 104 + g → uS S (104 + g) b j = S j := fun j h90 => by rw [uS_n h90]
  refine ⟨by rw [u (0) (by omega), u (1) (by omega), u (2) (by omega), u (5) (by omega)]; exact a0, ?_, ?_, ?_, ?_, ?_, ?_⟩
  · rw [u (0) (by omega), u (1) (by omega), xFr_E hf rfl, xFr_E hf rfl, xFr_E hf rfl, xFr_E hf rfl]
    exact a1
  · intro s s0 s1
    rw [u (0) (by omega), u (1) (by omega)] at s1 ⊢
    rw [xFr_E hf rfl]
    exact a2 s s0 s1
  · rw [u (2) (by omega), xFr_E hf rfl]
    refine ⟨a3.1, fun k k0 k1 => ?_⟩
    rw [u (136 + k) (by omega), u (152 + k) (by omega), (show xE E2 31 k = xE E 31 k from xFr_E hf rfl), (show xE E2 32 k = xE E 32 k from xFr_E hf rfl)]
    exact a3.2 k k0 k1
  · intro k k0 k1
    have w := a4 k k0 k1
    rw [u (8 + k) (by omega), u (40 + k) (by omega), u (72 + k) (by omega), (show xE E2 27 k = xE E 27 k from xFr_E hf rfl), (show xE E2 28 k = xE E 28 k from xFr_E hf rfl), (show xE E2 29 k = xE E 29 k from xFr_E hf rfl)]
    by_cases e : k = g
    · subst e
      rw [uS_e rfl, h1]
      exact ⟨w.1, w.2.1, w.2.2.1, rfl⟩
    · rw [u (104 + k) (by omega), h2 k k0 e]
      exact w
  · rw [u (5) (by omega), (show xE E2 18 8 = xE E 18 8 from xFr_E hf rfl), (show xE E2 33 1 = xE E 33 1 from xFr_E hf rfl)]
    exact a5
  · intro k k0 k1
    rw [u (5) (by omega)] at k1
    rw [u (460 + k) (by omega), (show xE E2 34 k = xE E 34 k from xFr_E hf rfl)]
    exact a6 k k0 k1
theorem xAb17_go {E E2 : zyEm} {S : Int → Int} {g b : Int} (hg : 0 ≤ g ∧ g < 8) (h1 : xE E2 32 g = b) (h2 : ∀ k, 0 ≤ k → ¬ k = g → xE E2 32 k = xE E 32 k) (h : xAb17 E S) (hf : xFr [(35, 2, 3), (35, 5, 8), (32, 0, 7)] E E2) : xAb17 E2 (uS S (152 + g) b) := by
  obtain ⟨a0, a1, a2, a3, a4, a5, a6⟩ := h
  have u : ∀ j, ¬ j = 152 + g → uS S (152 + g) b j = S j := fun j h90 => by rw [uS_n h90]
  refine ⟨by rw [u (0) (by omega), u (1) (by omega), u (2) (by omega), u (5) (by omega)]; exact a0, ?_, ?_, ?_, ?_, ?_, ?_⟩
  · rw [u (0) (by omega), u (1) (by omega), xFr_E hf rfl, xFr_E hf rfl, xFr_E hf rfl, xFr_E hf rfl]
    exact a1
  · intro s s0 s1
    rw [u (0) (by omega), u (1) (by omega)] at s1 ⊢
    rw [xFr_E hf rfl]
    exact a2 s s0 s1
  · rw [u (2) (by omega), xFr_E hf rfl]
    refine ⟨a3.1, fun k k0 k1 => ?_⟩
    have w := a3.2 k k0 k1
    rw [u (136 + k) (by omega), (show xE E2 31 k = xE E 31 k from xFr_E hf rfl)]
    by_cases e : k = g
    · subst e
      rw [uS_e rfl, h1]
      exact ⟨w.1, rfl⟩
    · rw [u (152 + k) (by omega), h2 k k0 e]
      exact w
  · intro k k0 k1
    rw [u (8 + k) (by omega), u (40 + k) (by omega), u (72 + k) (by omega), u (104 + k) (by omega), (show xE E2 27 k = xE E 27 k from xFr_E hf rfl), (show xE E2 28 k = xE E 28 k from xFr_E hf rfl), (show xE E2 29 k = xE E 29 k from xFr_E hf rfl), (show xE E2 30 k = xE E 30 k from xFr_E hf rfl)]
    exact a4 k k0 k1
  · rw [u (5) (by omega), (show xE E2 18 8 = xE E 18 8 from xFr_E hf rfl), (show xE E2 33 1 = xE E 33 1 from xFr_E hf rfl)]
    exact a5
  · intro k k0 k1
    rw [u (5) (by omega)] at k1
    rw [u (460 + k) (by omega), (show xE E2 34 k = xE E 34 k from xFr_E hf rfl)]
    exact a6 k k0 k1
theorem xAb17_nb {E E2 : zyEm} {S : Int → Int} {s : Int} (hb : 0 ≤ S 2 ∧ S 2 ≤ 7) (h0 : xE E2 18 5 = S 2 + 1) (h1 : xE E2 31 (S 2) = s) (h2 : ∀ k, 0 ≤ k → ¬ k = S 2 → xE E2 31 k = xE E 31 k) (h3 : xE E2 32 (S 2) = -1) (h4 : ∀ k, 0 ≤ k → ¬ k = S 2 → xE E2 32 k = xE E 32 k) (h : xAb17 E S) (hf : xFr [(35, 2, 3), (35, 5, 8), (18, 5, 5), (31, 0, 7), (32, 0, 7)] E E2) : xAb17 E2 (uS (uS (uS (uS S (136 + S 2) s) (144 + S 2) s) (152 + S 2) (-1)) 2 (S 2 + 1)) := by
  obtain ⟨a0, a1, a2, a3, a4, a5, a6⟩ := h
  have u : ∀ j, ¬ j = 136 + S 2 → ¬ j = 144 + S 2 → ¬ j = 152 + S 2 → ¬ j = 2 → uS (uS (uS (uS S (136 + S 2) s) (144 + S 2) s) (152 + S 2) (-1)) 2 (S 2 + 1) j = S j := fun j h90 h91 h92 h93 => by rw [uS_n h93, uS_n h92, uS_n h91, uS_n h90]
  refine ⟨by rw [u (0) (by omega) (by omega) (by omega) (by omega), u (1) (by omega) (by omega) (by omega) (by omega), uS_e rfl, u (5) (by omega) (by omega) (by omega) (by omega)]; omega, ?_, ?_, ?_, ?_, ?_, ?_⟩
  · rw [u (0) (by omega) (by omega) (by omega) (by omega), u (1) (by omega) (by omega) (by omega) (by omega), xFr_E hf rfl, xFr_E hf rfl, xFr_E hf rfl, xFr_E hf rfl]
    exact a1
  · intro s s0 s1
    rw [u (0) (by omega) (by omega) (by omega) (by omega), u (1) (by omega) (by omega) (by omega) (by omega)] at s1 ⊢
    rw [xFr_E hf rfl]
    exact a2 s s0 s1
  · rw [uS_e rfl]
    refine ⟨h0, fun k k0 k1 => ?_⟩
    by_cases e : k = S 2
    · subst e
      rw [uS_n (by omega), uS_n (by omega), uS_n (by omega), uS_e rfl, uS_n (by omega), uS_e rfl]
      exact ⟨h1, h3⟩
    · have w := a3.2 k k0 (by omega)
      rw [u (136 + k) (by omega) (by omega) (by omega) (by omega), u (152 + k) (by omega) (by omega) (by omega) (by omega), h2 k k0 e, h4 k k0 e]
      exact w
  · intro k k0 k1
    rw [u (8 + k) (by omega) (by omega) (by omega) (by omega), u (40 + k) (by omega) (by omega) (by omega) (by omega), u (72 + k) (by omega) (by omega) (by omega) (by omega), u (104 + k) (by omega) (by omega) (by omega) (by omega), (show xE E2 27 k = xE E 27 k from xFr_E hf rfl), (show xE E2 28 k = xE E 28 k from xFr_E hf rfl), (show xE E2 29 k = xE E 29 k from xFr_E hf rfl), (show xE E2 30 k = xE E 30 k from xFr_E hf rfl)]
    exact a4 k k0 k1
  · rw [u (5) (by omega) (by omega) (by omega) (by omega), (show xE E2 18 8 = xE E 18 8 from xFr_E hf rfl), (show xE E2 33 1 = xE E 33 1 from xFr_E hf rfl)]
    exact a5
  · intro k k0 k1
    rw [u (5) (by omega) (by omega) (by omega) (by omega)] at k1
    rw [u (460 + k) (by omega) (by omega) (by omega) (by omega), (show xE E2 34 k = xE E 34 k from xFr_E hf rfl)]
    exact a6 k k0 k1
theorem xAb17_wd {E E2 : zyEm} {S : Int → Int} {x : Int} (hs : 0 ≤ S 5 ∧ S 5 < 60) (h0 : xE E2 33 1 = S 5 + 1) (h1 : xE E2 34 (S 5) = x) (h2 : ∀ k, 0 ≤ k → ¬ k = S 5 → xE E2 34 k = xE E 34 k) (h8 : xE E2 18 8 = 1) (h : xAb17 E S) (hf : xFr [(35, 2, 3), (35, 5, 8), (18, 8, 8), (33, 1, 1), (34, 0, 59)] E E2) : xAb17 E2 (uS (uS S (460 + S 5) x) 5 (S 5 + 1)) := by
  obtain ⟨a0, a1, a2, a3, a4, a5, a6⟩ := h
  have u : ∀ j, ¬ j = 460 + S 5 → ¬ j = 5 → uS (uS S (460 + S 5) x) 5 (S 5 + 1) j = S j := fun j h90 h91 => by rw [uS_n h91, uS_n h90]
  refine ⟨by rw [u (0) (by omega) (by omega), u (1) (by omega) (by omega), u (2) (by omega) (by omega), uS_e rfl]; omega, ?_, ?_, ?_, ?_, ?_, ?_⟩
  · rw [u (0) (by omega) (by omega), u (1) (by omega) (by omega), xFr_E hf rfl, xFr_E hf rfl, xFr_E hf rfl, xFr_E hf rfl]
    exact a1
  · intro s s0 s1
    rw [u (0) (by omega) (by omega), u (1) (by omega) (by omega)] at s1 ⊢
    rw [xFr_E hf rfl]
    exact a2 s s0 s1
  · rw [u (2) (by omega) (by omega), xFr_E hf rfl]
    refine ⟨a3.1, fun k k0 k1 => ?_⟩
    rw [u (136 + k) (by omega) (by omega), u (152 + k) (by omega) (by omega), (show xE E2 31 k = xE E 31 k from xFr_E hf rfl), (show xE E2 32 k = xE E 32 k from xFr_E hf rfl)]
    exact a3.2 k k0 k1
  · intro k k0 k1
    rw [u (8 + k) (by omega) (by omega), u (40 + k) (by omega) (by omega), u (72 + k) (by omega) (by omega), u (104 + k) (by omega) (by omega), (show xE E2 27 k = xE E 27 k from xFr_E hf rfl), (show xE E2 28 k = xE E 28 k from xFr_E hf rfl), (show xE E2 29 k = xE E 29 k from xFr_E hf rfl), (show xE E2 30 k = xE E 30 k from xFr_E hf rfl)]
    exact a4 k k0 k1
  · rw [uS_e rfl]
    exact Or.inr ⟨h8, h0.symm⟩
  · intro k k0 k1
    rw [uS_e rfl] at k1
    by_cases e : k = S 5
    · subst e
      rw [uS_n (by omega), uS_e rfl]
      exact h1
    · rw [u (460 + k) (by omega) (by omega), h2 k k0 e]
      exact a6 k k0 (by omega)
theorem xAb17_w0 {E E2 : zyEm} {S : Int → Int} (h8 : xE E2 18 8 = 1) (h0 : xE E2 33 1 = 0) (h : xAb17 E S) (hf : xFr [(35, 2, 3), (35, 5, 8), (18, 8, 8), (33, 1, 1), (34, 0, 59)] E E2) : xAb17 E2 (uS S 5 0) := by
  obtain ⟨a0, a1, a2, a3, a4, a5, a6⟩ := h
  have u : ∀ j, ¬ j = 5 → uS S 5 0 j = S j := fun j h90 => by rw [uS_n h90]
  refine ⟨by rw [u (0) (by omega), u (1) (by omega), u (2) (by omega), uS_e rfl]; omega, ?_, ?_, ?_, ?_, ?_, ?_⟩
  · rw [u (0) (by omega), u (1) (by omega), xFr_E hf rfl, xFr_E hf rfl, xFr_E hf rfl, xFr_E hf rfl]
    exact a1
  · intro s s0 s1
    rw [u (0) (by omega), u (1) (by omega)] at s1 ⊢
    rw [xFr_E hf rfl]
    exact a2 s s0 s1
  · rw [u (2) (by omega), xFr_E hf rfl]
    refine ⟨a3.1, fun k k0 k1 => ?_⟩
    rw [u (136 + k) (by omega), u (152 + k) (by omega), (show xE E2 31 k = xE E 31 k from xFr_E hf rfl), (show xE E2 32 k = xE E 32 k from xFr_E hf rfl)]
    exact a3.2 k k0 k1
  · intro k k0 k1
    rw [u (8 + k) (by omega), u (40 + k) (by omega), u (72 + k) (by omega), u (104 + k) (by omega), (show xE E2 27 k = xE E 27 k from xFr_E hf rfl), (show xE E2 28 k = xE E 28 k from xFr_E hf rfl), (show xE E2 29 k = xE E 29 k from xFr_E hf rfl), (show xE E2 30 k = xE E 30 k from xFr_E hf rfl)]
    exact a4 k k0 k1
  · rw [uS_e rfl]
    exact Or.inr ⟨h8, h0.symm⟩
  · intro k k0 k1
    rw [uS_e rfl] at k1
    omega
end
section
/-! THE CLASS reads: countFree, hasStartAt, addBobbin, add (printed by m6.py) -/
noncomputable def zxfcf17_ax0 : zyXp := (4, [147, 0, 0], [], [], [], [])
noncomputable def zpfcf17_a : zyPh := (0, [147, 13, 13], [(0, 4294967295), (0, 4294967295), (0, 4294967295)], [], [])
noncomputable def zxfcf17_bx0 : zyXp := (4, [147, 34359738377, 68719476745], [], [(24, 103079215105, 19, 24), (20, 0, 68719476737, 103079215105), (24, 137438953473, 30, 68719476737), (23, 0, 137438953473, 0)], [(34359738369, 2147483648, 2147483679), (68719476737, 2147483648, 2147483678), (103079215105, 2147483649, 2147483679), (137438953473, 2147483649, 2147483649), (34359738377, 2147483649, 2147483680), (68719476745, 2147483649, 2147483679)], [])
noncomputable def zxfcf17_bx1 : zyXp := (4, [147, 34359738369, 68719476745], [], [(24, 103079215105, 19, 24), (20, 0, 68719476737, 103079215105), (24, 137438953473, 30, 68719476737), (22, 0, 137438953473, 0)], [(34359738369, 2147483648, 2147483679), (68719476737, 2147483648, 2147483678), (103079215105, 2147483649, 2147483679), (137438953473, 2147483648, 2147483648), (68719476745, 2147483649, 2147483679)], [])
noncomputable def zxfcf17_br0 : zyXp := (0, [], [34359738369], [(24, 103079215105, 19, 24), (21, 0, 68719476737, 103079215105)], [(34359738369, 2147483648, 2147483679), (68719476737, 2147483648, 2147483679), (103079215105, 2147483648, 2147483679)], [])
noncomputable def zpfcf17_b : zyPh := (4, [147, 34359738369, 68719476737], [(0, 4294967295), (2147483648, 2147483679), (2147483648, 2147483679)], [], [])
noncomputable def zpfcf17 (i : Nat) : zyPh := zif (Nat.beq i 0) (zpfcf17_a) (zpfcf17_b)
noncomputable def zXfcf17 (i : Nat) : List zyXp := zif (Nat.beq i 0) ([zxfcf17_ax0]) ([zxfcf17_bx0, zxfcf17_bx1])
noncomputable def zRfcf17 (i : Nat) : List zyXp := zif (Nat.beq i 0) ([]) ([zxfcf17_br0])
noncomputable def zFfcf17 (i : Nat) : zyR := zif (Nat.beq i 0) ([]) ([])
noncomputable def zSfcf17 (i : Nat) : Nat := zif (Nat.beq i 0) (0) (0)
def xΦcf17 (_ : Nat → Int) (_ : zyEm) : Prop := True
def xΨcf17 (_ : Nat → Int) (E _ : zyEm) (r : Int) : Prop := (0 ≤ r ∧ r ≤ 31) ∧ ∀ S, xAb17 E S → r = pCnt S 104 (gN (S 0) (S 1)).toNat
noncomputable def fpfcf17 : zyR := []
theorem zyfcf17_run : zyrS zymc zxi35 (35, 0, 0, 1, 0) 1 zpfcf17 (fun _ _ => []) zFfcf17 zSfcf17 zXfcf17 zRfcf17 2 = true := by decide +kernel
theorem zyfcf17_ck : zyAll (fun i => xsubR (zFfcf17 i) fpfcf17 && ((zXfcf17 i).all xckX && (zRfcf17 i).all (fun x => xckX x && xrtB true x))) 2 = true := by decide +kernel
def xIfcf17 (i : Nat) (x0 : Nat → Int) (E0 : zyEm) (v : Nat → Int) (E : zyEm) : Prop := if i = 0 then (E = E0) else ((0 ≤ (v 2) ∧ (v 2) ≤ xE E0 19 3) ∧ (0 ≤ (v 1) ∧ (v 1) ≤ (v 2)) ∧ ∀ S, xAb17 E0 S → (v 1) = pCnt S 104 ((v 2)).toNat)
def xMfcf17 (i : Nat) (x0 : Nat → Int) (E0 : zyEm) (v : Nat → Int) (E : zyEm) : Nat := if i = 0 then (100) else ((99 - (v 2)).toNat)
theorem xCf17 {l : Launch} {en : zEn} {me : zMe} (hen : zG zxMeta 35 = some en) (hme : zG zMeth 35 = some me) : xFc l zymc en me 1 [18] 0 fpfcf17 true xΦcf17 xΨcf17 := by
  have een : zG zxMeta 35 = some (zxi35, 1, 3, 3, 35, 0, 0, 1, 0) := rfl
  obtain ⟨me1, hme1, hOK⟩ := zall hen
  rw [hme] at hme1
  cases hme1
  rw [een] at hen
  cases hen
  have hr := zyfcf17_run
  have hck := fun i hi => zyAll_iff zyfcf17_ck i hi
  simp only [Bool.and_eq_true] at hck
  intro B
  refine xcut (mi := zymc) (B := B) hOK rfl rfl (ι := Fin 2) (fun i => zpfcf17 i.val) (fun _ _ => []) (fun i => zFfcf17 i.val) (fun i => zSfcf17 i.val) (fun i => zXfcf17 i.val) (fun i => zRfcf17 i.val) (fun i y2 ct en2 me2 h => by cases h) 200000 (fun i => zyAll_iff hr i.val i.isLt) (fun i => (hck i.val i.isLt).1) (fun i => (hck i.val i.isLt).2.1) (fun i => (hck i.val i.isLt).2.2) ⟨0, by decide⟩ ⟨rfl, rfl, rfl, rfl⟩ ⟨by decide, by decide⟩ (fun i x0 E0 v E => xIfcf17 i.val x0 E0 v E) (fun i x0 E0 v E => xMfcf17 i.val x0 E0 v E) ?_ ?_ ?_
  · intro x0 E hx0 hT hΦ
    have hΦ : xΦcf17 x0 E := hΦ
    refine ⟨fun k p hp => ?_, ?_⟩
    · have hk : k < 3 := (List.getElem?_eq_some_iff.mp hp).1
      have hk : k = 0 ∨ k = 1 ∨ k = 2 := by omega
      rcases hk with rfl | rfl | rfl
      · have hp : some (0, 4294967295) = some p := hp
        cases hp
        show ((0 : Nat) : Int) ≤ 0 + 2147483648 ∧ 0 + 2147483648 ≤ ((4294967295 : Nat) : Int)
        omega
      · have hp : some (0, 4294967295) = some p := hp
        cases hp
        show ((0 : Nat) : Int) ≤ x0 0 + 2147483648 ∧ x0 0 + 2147483648 ≤ ((4294967295 : Nat) : Int)
        have hx := hx0 0
        omega
      · have hp : some (0, 4294967295) = some p := hp
        cases hp
        show ((0 : Nat) : Int) ≤ x0 1 + 2147483648 ∧ x0 1 + 2147483648 ≤ ((4294967295 : Nat) : Int)
        have hx := hx0 1
        omega
    · show E = E
      rfl
  · intro x0 s Wg hRu hrx hT0 hΦ i v H hT hrv hInv hKc hFr0 hIH x hx ρ2 v2 N2 H2 locs lsB stA hAt hB hv hr2 hXs hag hfr hFr hT2
    rcases i with ⟨i, hi⟩
    have hi2 : i = 0 ∨ i = 1 := by omega
    rcases hi2 with rfl | rfl
    · have hx : x ∈ [zxfcf17_ax0] := hx
      have hag : ∀ k, k < 3 → v2 k = v k := hag
      have hfr : xFr [] _ _ := hfr
      have ex := List.mem_singleton.mp hx
      subst ex
      obtain ⟨hF, hBd, hM⟩ := hXs
      have e19_3 : xE (zyEl zymc B H2) 19 3 = xE (zyEl zymc B H) 19 3 := xFr_E hfr rfl
      have q19_3 : xE (zyEl zymc B H) 19 3 = xE (zyEl zymc B s.heap) 19 3 := xFr_E hFr0 rfl
      have e30 : ∀ i, xE (zyEl zymc B H2) 30 i = xE (zyEl zymc B H) 30 i := fun i => xFr_E hfr rfl
      have q30 : ∀ i, xE (zyEl zymc B H) 30 i = xE (zyEl zymc B s.heap) 30 i := fun i => xFr_E hFr0 rfl
      have y19_3 : ((2147483648 : Nat) : Int) ≤ xE (zyEl zymc B s.heap) 19 3 + 2147483648 ∧ xE (zyEl zymc B s.heap) 19 3 + 2147483648 ≤ ((2147483679 : Nat) : Int) := xTyF hT0 19 3 3 rfl rfl rfl rfl rfl rfl
      have hI : (zyEl zymc B H) = (zyEl zymc B s.heap) := hInv
      refine xGo hIH hAt hB hv hFr ⟨1, by decide⟩ [0, 0, 0] [0, 0, 0] rfl ⟨by decide +kernel, ⟨rfl, by decide +kernel⟩, (xcs_c rfl (xcs_c rfl (xcs_c rfl xcs_n))), (xe_0 (xe_c (by omega) (by omega) rfl (xe_c (by omega) (by omega) rfl xe_n))), xkq_n⟩ xst_n ?_ ?_
      · show (0 ≤ (0 : Int) ∧ (0 : Int) ≤ xE (zyEl zymc B s.heap) 19 3) ∧ (0 ≤ (0 : Int) ∧ (0 : Int) ≤ (0 : Int)) ∧ ∀ S, xAb17 (zyEl zymc B s.heap) S → (0 : Int) = pCnt S 104 ((0 : Int)).toNat
        exact ⟨by omega, by omega, fun S hS => rfl⟩
      · show (99 - (0 : Int)).toNat < 100
        omega
    · have hx : x ∈ [zxfcf17_bx0, zxfcf17_bx1] := hx
      have hag : ∀ k, k < 3 → v2 k = v k := hag
      have hfr : xFr [] _ _ := hfr
      rcases List.mem_cons.mp hx with ex | hx
      · subst ex
        obtain ⟨hF, hBd, hM⟩ := hXs
        have g1 : v2 1 = v 1 := hag 1 (by decide)
        have g2 : v2 2 = v 2 := hag 2 (by decide)
        have b0 : ((2147483648 : Nat) : Int) ≤ (v2 1) + 2147483648 ∧ (v2 1) + 2147483648 ≤ ((2147483679 : Nat) : Int) := xXb hBd 0 rfl
        have b1 : ((2147483648 : Nat) : Int) ≤ (v2 2) + 2147483648 ∧ (v2 2) + 2147483648 ≤ ((2147483678 : Nat) : Int) := xXb hBd 1 rfl
        have b2 : ((2147483649 : Nat) : Int) ≤ (v2 3) + 2147483648 ∧ (v2 3) + 2147483648 ≤ ((2147483679 : Nat) : Int) := xXb hBd 2 rfl
        have b3 : ((2147483649 : Nat) : Int) ≤ (v2 4) + 2147483648 ∧ (v2 4) + 2147483648 ≤ ((2147483649 : Nat) : Int) := xXb hBd 3 rfl
        have b4 : ((2147483649 : Nat) : Int) ≤ (v2 1 + 1) + 2147483648 ∧ (v2 1 + 1) + 2147483648 ≤ ((2147483680 : Nat) : Int) := xXb hBd 4 rfl
        have b5 : ((2147483649 : Nat) : Int) ≤ (v2 2 + 1) + 2147483648 ∧ (v2 2 + 1) + 2147483648 ≤ ((2147483679 : Nat) : Int) := xXb hBd 5 rfl
        have f0 : (0 : Int) ≤ 3 ∧ xE (zyEl zymc B H) 19 3 = (v2 3) := xXf hF 0 rfl
        have f1 : (v2 2) < (v2 3) := xXf hF 1 rfl
        have f2 : (0 : Int) ≤ (v2 2) ∧ xE (zyEl zymc B H) 30 (v2 2) = (v2 4) := xXf hF 2 rfl
        have f3 : ¬ (v2 4) = 0 := xXf hF 3 rfl
        have e19_3 : xE (zyEl zymc B H2) 19 3 = xE (zyEl zymc B H) 19 3 := xFr_E hfr rfl
        have q19_3 : xE (zyEl zymc B H) 19 3 = xE (zyEl zymc B s.heap) 19 3 := xFr_E hFr0 rfl
        have e30 : ∀ i, xE (zyEl zymc B H2) 30 i = xE (zyEl zymc B H) 30 i := fun i => xFr_E hfr rfl
        have q30 : ∀ i, xE (zyEl zymc B H) 30 i = xE (zyEl zymc B s.heap) 30 i := fun i => xFr_E hFr0 rfl
        have y19_3 : ((2147483648 : Nat) : Int) ≤ xE (zyEl zymc B s.heap) 19 3 + 2147483648 ∧ xE (zyEl zymc B s.heap) 19 3 + 2147483648 ≤ ((2147483679 : Nat) : Int) := xTyF hT0 19 3 3 rfl rfl rfl rfl rfl rfl
        have hI : (0 ≤ (v 2) ∧ (v 2) ≤ xE (zyEl zymc B s.heap) 19 3) ∧ (0 ≤ (v 1) ∧ (v 1) ≤ (v 2)) ∧ ∀ S, xAb17 (zyEl zymc B s.heap) S → (v 1) = pCnt S 104 ((v 2)).toNat := hInv
        obtain ⟨i1, i2, i3⟩ := hI
        refine xGo hIH hAt hB hv hFr ⟨1, by decide⟩ [0, 34359738377, 68719476745] [0, (v2 1 + 1), (v2 2 + 1)] rfl ⟨by decide +kernel, ⟨rfl, by decide +kernel⟩, (xcs_c rfl (xcs_c rfl (xcs_c rfl xcs_n))), (xe_0 (xe_c (by omega) (by omega) rfl (xe_c (by omega) (by omega) rfl xe_n))), xkq_n⟩ xst_n ?_ ?_
        · show (0 ≤ ((v2 2 + 1) : Int) ∧ ((v2 2 + 1) : Int) ≤ xE (zyEl zymc B s.heap) 19 3) ∧ (0 ≤ ((v2 1 + 1) : Int) ∧ ((v2 1 + 1) : Int) ≤ ((v2 2 + 1) : Int)) ∧ ∀ S, xAb17 (zyEl zymc B s.heap) S → ((v2 1 + 1) : Int) = pCnt S 104 (((v2 2 + 1) : Int)).toNat
          refine ⟨by omega, by omega, fun S hS => ?_⟩
          have hc := (hS.2.2.2.2.1 (v2 2) (by omega) (by omega)).2.2.2
          have hf := q30 (v2 2)
          rw [pCnt_s (by omega), show (v2 2) = v 2 by omega, ← i3 S hS, ← show (v2 2) = v 2 by omega, if_pos (by omega)]
          omega
        · show (99 - ((v2 2 + 1) : Int)).toNat < (99 - (v 2)).toNat
          omega
      · skip
        have ex := List.mem_singleton.mp hx
        subst ex
        obtain ⟨hF, hBd, hM⟩ := hXs
        have g1 : v2 1 = v 1 := hag 1 (by decide)
        have g2 : v2 2 = v 2 := hag 2 (by decide)
        have b0 : ((2147483648 : Nat) : Int) ≤ (v2 1) + 2147483648 ∧ (v2 1) + 2147483648 ≤ ((2147483679 : Nat) : Int) := xXb hBd 0 rfl
        have b1 : ((2147483648 : Nat) : Int) ≤ (v2 2) + 2147483648 ∧ (v2 2) + 2147483648 ≤ ((2147483678 : Nat) : Int) := xXb hBd 1 rfl
        have b2 : ((2147483649 : Nat) : Int) ≤ (v2 3) + 2147483648 ∧ (v2 3) + 2147483648 ≤ ((2147483679 : Nat) : Int) := xXb hBd 2 rfl
        have b3 : ((2147483648 : Nat) : Int) ≤ (v2 4) + 2147483648 ∧ (v2 4) + 2147483648 ≤ ((2147483648 : Nat) : Int) := xXb hBd 3 rfl
        have b4 : ((2147483649 : Nat) : Int) ≤ (v2 2 + 1) + 2147483648 ∧ (v2 2 + 1) + 2147483648 ≤ ((2147483679 : Nat) : Int) := xXb hBd 4 rfl
        have f0 : (0 : Int) ≤ 3 ∧ xE (zyEl zymc B H) 19 3 = (v2 3) := xXf hF 0 rfl
        have f1 : (v2 2) < (v2 3) := xXf hF 1 rfl
        have f2 : (0 : Int) ≤ (v2 2) ∧ xE (zyEl zymc B H) 30 (v2 2) = (v2 4) := xXf hF 2 rfl
        have f3 : (v2 4) = 0 := xXf hF 3 rfl
        have e19_3 : xE (zyEl zymc B H2) 19 3 = xE (zyEl zymc B H) 19 3 := xFr_E hfr rfl
        have q19_3 : xE (zyEl zymc B H) 19 3 = xE (zyEl zymc B s.heap) 19 3 := xFr_E hFr0 rfl
        have e30 : ∀ i, xE (zyEl zymc B H2) 30 i = xE (zyEl zymc B H) 30 i := fun i => xFr_E hfr rfl
        have q30 : ∀ i, xE (zyEl zymc B H) 30 i = xE (zyEl zymc B s.heap) 30 i := fun i => xFr_E hFr0 rfl
        have y19_3 : ((2147483648 : Nat) : Int) ≤ xE (zyEl zymc B s.heap) 19 3 + 2147483648 ∧ xE (zyEl zymc B s.heap) 19 3 + 2147483648 ≤ ((2147483679 : Nat) : Int) := xTyF hT0 19 3 3 rfl rfl rfl rfl rfl rfl
        have hI : (0 ≤ (v 2) ∧ (v 2) ≤ xE (zyEl zymc B s.heap) 19 3) ∧ (0 ≤ (v 1) ∧ (v 1) ≤ (v 2)) ∧ ∀ S, xAb17 (zyEl zymc B s.heap) S → (v 1) = pCnt S 104 ((v 2)).toNat := hInv
        obtain ⟨i1, i2, i3⟩ := hI
        refine xGo hIH hAt hB hv hFr ⟨1, by decide⟩ [0, 34359738369, 68719476745] [0, (v2 1), (v2 2 + 1)] rfl ⟨by decide +kernel, ⟨rfl, by decide +kernel⟩, (xcs_c rfl (xcs_c rfl (xcs_c rfl xcs_n))), (xe_0 (xe_c (by omega) (by omega) rfl (xe_c (by omega) (by omega) rfl xe_n))), xkq_n⟩ xst_n ?_ ?_
        · show (0 ≤ ((v2 2 + 1) : Int) ∧ ((v2 2 + 1) : Int) ≤ xE (zyEl zymc B s.heap) 19 3) ∧ (0 ≤ ((v2 1) : Int) ∧ ((v2 1) : Int) ≤ ((v2 2 + 1) : Int)) ∧ ∀ S, xAb17 (zyEl zymc B s.heap) S → ((v2 1) : Int) = pCnt S 104 (((v2 2 + 1) : Int)).toNat
          refine ⟨by omega, by omega, fun S hS => ?_⟩
          have hc := (hS.2.2.2.2.1 (v2 2) (by omega) (by omega)).2.2.2
          have hf := q30 (v2 2)
          rw [pCnt_s (by omega), show (v2 2) = v 2 by omega, ← i3 S hS, ← show (v2 2) = v 2 by omega, if_neg (by omega)]
          omega
        · show (99 - ((v2 2 + 1) : Int)).toNat < (99 - (v 2)).toNat
          omega
  · intro x0 E0 E E2 hrx hT0 hΦ i v hT hrv hInv hKc hFr0 x hx v2 hr2 hXs hag hfr hFr hT2
    rcases i with ⟨i, hi⟩
    have hi2 : i = 0 ∨ i = 1 := by omega
    rcases hi2 with rfl | rfl
    · cases hx
    · have hx : x ∈ [zxfcf17_br0] := hx
      have hag : ∀ k, k < 3 → v2 k = v k := hag
      have hfr : xFr [] _ _ := hfr
      have ex := List.mem_singleton.mp hx
      subst ex
      obtain ⟨hF, hBd, hM⟩ := hXs
      have g1 : v2 1 = v 1 := hag 1 (by decide)
      have g2 : v2 2 = v 2 := hag 2 (by decide)
      have b0 : ((2147483648 : Nat) : Int) ≤ (v2 1) + 2147483648 ∧ (v2 1) + 2147483648 ≤ ((2147483679 : Nat) : Int) := xXb hBd 0 rfl
      have b1 : ((2147483648 : Nat) : Int) ≤ (v2 2) + 2147483648 ∧ (v2 2) + 2147483648 ≤ ((2147483679 : Nat) : Int) := xXb hBd 1 rfl
      have b2 : ((2147483648 : Nat) : Int) ≤ (v2 3) + 2147483648 ∧ (v2 3) + 2147483648 ≤ ((2147483679 : Nat) : Int) := xXb hBd 2 rfl
      have f0 : (0 : Int) ≤ 3 ∧ xE E 19 3 = (v2 3) := xXf hF 0 rfl
      have f1 : (v2 3) ≤ (v2 2) := xXf hF 1 rfl
      have e19_3 : xE E2 19 3 = xE E 19 3 := xFr_E hfr rfl
      have q19_3 : xE E 19 3 = xE E0 19 3 := xFr_E hFr0 rfl
      have e30 : ∀ i, xE E2 30 i = xE E 30 i := fun i => xFr_E hfr rfl
      have q30 : ∀ i, xE E 30 i = xE E0 30 i := fun i => xFr_E hFr0 rfl
      have y19_3 : ((2147483648 : Nat) : Int) ≤ xE E0 19 3 + 2147483648 ∧ xE E0 19 3 + 2147483648 ≤ ((2147483679 : Nat) : Int) := xTyF hT0 19 3 3 rfl rfl rfl rfl rfl rfl
      have hI : (0 ≤ (v 2) ∧ (v 2) ≤ xE E0 19 3) ∧ (0 ≤ (v 1) ∧ (v 1) ≤ (v 2)) ∧ ∀ S, xAb17 E0 S → (v 1) = pCnt S 104 ((v 2)).toNat := hInv
      show xΨcf17 x0 E0 E2 (v2 1)
      obtain ⟨i1, i2, i3⟩ := hI
      unfold xΨcf17
      refine ⟨by omega, fun S hS => ?_⟩
      rw [← hS.2.1.2.2.2, show xE E0 19 3 = v2 2 by omega, show (v2 1) = v 1 by omega, show (v2 2) = v 2 by omega]
      exact i3 S hS
noncomputable def zxfhs17_ax0 : zyXp := (2, [147, 34359738369, 0], [], [], [(34359738369, 2147483648, 2147483727)], [])
noncomputable def zpfhs17_a : zyPh := (0, [147, 34359738369, 13], [(0, 4294967295), (2147483648, 2147483727), (0, 4294967295)], [], [])
noncomputable def zxfhs17_bx0 : zyXp := (2, [147, 34359738369, 68719476745], [], [(24, 103079215105, 18, 40), (20, 0, 68719476737, 103079215105), (24, 137438953473, 31, 68719476737), (23, 0, 137438953473, 34359738369), (24, 171798691841, 21, 34359738369), (24, 206158430209, 31, 68719476737), (23, 0, 171798691841, 206158430209)], [(34359738369, 2147483648, 2147483727), (68719476737, 2147483648, 2147483655), (103079215105, 2147483649, 2147483656), (137438953473, 2147483648, 2147483727), (171798691841, 2147483647, 2147483727), (206158430209, 2147483648, 2147483727), (68719476745, 2147483649, 2147483656)], [])
noncomputable def zxfhs17_br0 : zyXp := (0, [], [8], [(24, 103079215105, 18, 40), (20, 0, 68719476737, 103079215105), (24, 137438953473, 31, 68719476737), (23, 0, 137438953473, 34359738369), (24, 171798691841, 21, 34359738369), (24, 206158430209, 31, 68719476737), (22, 0, 171798691841, 206158430209)], [(34359738369, 2147483648, 2147483727), (68719476737, 2147483648, 2147483655), (103079215105, 2147483649, 2147483656), (137438953473, 2147483648, 2147483727), (171798691841, 2147483647, 2147483727), (206158430209, 2147483648, 2147483727)], [])
noncomputable def zxfhs17_br1 : zyXp := (0, [], [8], [(24, 103079215105, 18, 40), (20, 0, 68719476737, 103079215105), (24, 137438953473, 31, 68719476737), (22, 0, 137438953473, 34359738369)], [(34359738369, 2147483648, 2147483727), (68719476737, 2147483648, 2147483655), (103079215105, 2147483649, 2147483656), (137438953473, 2147483648, 2147483727)], [])
noncomputable def zxfhs17_br2 : zyXp := (0, [], [0], [(24, 103079215105, 18, 40), (21, 0, 68719476737, 103079215105)], [(68719476737, 2147483648, 2147483656), (103079215105, 2147483648, 2147483656)], [])
noncomputable def zpfhs17_b : zyPh := (2, [147, 34359738369, 68719476737], [(0, 4294967295), (2147483648, 2147483727), (2147483648, 2147483656)], [], [])
noncomputable def zpfhs17 (i : Nat) : zyPh := zif (Nat.beq i 0) (zpfhs17_a) (zpfhs17_b)
noncomputable def zXfhs17 (i : Nat) : List zyXp := zif (Nat.beq i 0) ([zxfhs17_ax0]) ([zxfhs17_bx0])
noncomputable def zRfhs17 (i : Nat) : List zyXp := zif (Nat.beq i 0) ([]) ([zxfhs17_br0, zxfhs17_br1, zxfhs17_br2])
noncomputable def zFfhs17 (i : Nat) : zyR := zif (Nat.beq i 0) ([]) ([])
noncomputable def zSfhs17 (i : Nat) : Nat := zif (Nat.beq i 0) (0) (0)
def xΦhs17 (x : Nat → Int) (E : zyEm) : Prop := 0 ≤ x 0 ∧ x 0 < xE E 19 2
def xΨhs17 (x : Nat → Int) (E _ : zyEm) (r : Int) : Prop := (r = 0 ∨ r = 1) ∧ ∀ S, xAb17 E S → r = if pTak S (x 0) (pF (S 0) (S 1) (x 0)) (S 2).toNat = true then 1 else 0
noncomputable def fpfhs17 : zyR := []
theorem zyfhs17_run : zyrS zymc zxi34 (34, 0, 0, 2, 0) 1 zpfhs17 (fun _ _ => []) zFfhs17 zSfhs17 zXfhs17 zRfhs17 2 = true := by decide +kernel
theorem zyfhs17_ck : zyAll (fun i => xsubR (zFfhs17 i) fpfhs17 && ((zXfhs17 i).all xckX && (zRfhs17 i).all (fun x => xckX x && xrtB true x))) 2 = true := by decide +kernel
def xIfhs17 (i : Nat) (x0 : Nat → Int) (E0 : zyEm) (v : Nat → Int) (E : zyEm) : Prop := if i = 0 then (E = E0 ∧ (v 1) = x0 0) else ((0 ≤ (v 2) ∧ (v 2) ≤ xE E0 18 5) ∧ (v 1) = x0 0 ∧ ∀ S, xAb17 E0 S → pTak S (x0 0) (pF (S 0) (S 1) (x0 0)) ((v 2)).toNat = false)
def xMfhs17 (i : Nat) (x0 : Nat → Int) (E0 : zyEm) (v : Nat → Int) (E : zyEm) : Nat := if i = 0 then (100) else ((99 - (v 2)).toNat)
theorem xHs17 {l : Launch} {en : zEn} {me : zMe} (hen : zG zxMeta 34 = some en) (hme : zG zMeth 34 = some me) : xFc l zymc en me 1 [18] 1 fpfhs17 true xΦhs17 xΨhs17 := by
  have een : zG zxMeta 34 = some (zxi34, 2, 3, 3, 34, 0, 0, 2, 0) := rfl
  obtain ⟨me1, hme1, hOK⟩ := zall hen
  rw [hme] at hme1
  cases hme1
  rw [een] at hen
  cases hen
  have hr := zyfhs17_run
  have hck := fun i hi => zyAll_iff zyfhs17_ck i hi
  simp only [Bool.and_eq_true] at hck
  intro B
  refine xcut (mi := zymc) (B := B) hOK rfl rfl (ι := Fin 2) (fun i => zpfhs17 i.val) (fun _ _ => []) (fun i => zFfhs17 i.val) (fun i => zSfhs17 i.val) (fun i => zXfhs17 i.val) (fun i => zRfhs17 i.val) (fun i y2 ct en2 me2 h => by cases h) 200000 (fun i => zyAll_iff hr i.val i.isLt) (fun i => (hck i.val i.isLt).1) (fun i => (hck i.val i.isLt).2.1) (fun i => (hck i.val i.isLt).2.2) ⟨0, by decide⟩ ⟨rfl, rfl, rfl, rfl⟩ ⟨by decide, by decide⟩ (fun i x0 E0 v E => xIfhs17 i.val x0 E0 v E) (fun i x0 E0 v E => xMfhs17 i.val x0 E0 v E) ?_ ?_ ?_
  · intro x0 E hx0 hT hΦ
    have hΦ : xΦhs17 x0 E := hΦ
    refine ⟨fun k p hp => ?_, ?_⟩
    · have hk : k < 3 := (List.getElem?_eq_some_iff.mp hp).1
      have hk : k = 0 ∨ k = 1 ∨ k = 2 := by omega
      rcases hk with rfl | rfl | rfl
      · have hp : some (0, 4294967295) = some p := hp
        cases hp
        show ((0 : Nat) : Int) ≤ 0 + 2147483648 ∧ 0 + 2147483648 ≤ ((4294967295 : Nat) : Int)
        omega
      · have hp : some (2147483648, 2147483727) = some p := hp
        cases hp
        show ((2147483648 : Nat) : Int) ≤ x0 0 + 2147483648 ∧ x0 0 + 2147483648 ≤ ((2147483727 : Nat) : Int)
        have hx := hx0 0
        have hP := hΦ.1
        have hP2 := hΦ.2
        have hT2 := xTyF hT 19 2 2 rfl rfl rfl rfl rfl rfl
        have hT2 : ((2147483648 : Nat) : Int) ≤ xE E 19 2 + 2147483648 ∧ xE E 19 2 + 2147483648 ≤ ((2147483728 : Nat) : Int) := hT2
        omega
      · have hp : some (0, 4294967295) = some p := hp
        cases hp
        show ((0 : Nat) : Int) ≤ x0 1 + 2147483648 ∧ x0 1 + 2147483648 ≤ ((4294967295 : Nat) : Int)
        have hx := hx0 1
        omega
    · show E = E ∧ (x0 0) = x0 0
      exact ⟨rfl, rfl⟩
  · intro x0 s Wg hRu hrx hT0 hΦ i v H hT hrv hInv hKc hFr0 hIH x hx ρ2 v2 N2 H2 locs lsB stA hAt hB hv hr2 hXs hag hfr hFr hT2
    rcases i with ⟨i, hi⟩
    have hi2 : i = 0 ∨ i = 1 := by omega
    rcases hi2 with rfl | rfl
    · have hx : x ∈ [zxfhs17_ax0] := hx
      have hag : ∀ k, k < 3 → v2 k = v k := hag
      have hfr : xFr [] _ _ := hfr
      have ex := List.mem_singleton.mp hx
      subst ex
      obtain ⟨hF, hBd, hM⟩ := hXs
      have g1 : v2 1 = v 1 := hag 1 (by decide)
      have b0 : ((2147483648 : Nat) : Int) ≤ (v2 1) + 2147483648 ∧ (v2 1) + 2147483648 ≤ ((2147483727 : Nat) : Int) := xXb hBd 0 rfl
      have e18_5 : xE (zyEl zymc B H2) 18 5 = xE (zyEl zymc B H) 18 5 := xFr_E hfr rfl
      have q18_5 : xE (zyEl zymc B H) 18 5 = xE (zyEl zymc B s.heap) 18 5 := xFr_E hFr0 rfl
      have e19_2 : xE (zyEl zymc B H2) 19 2 = xE (zyEl zymc B H) 19 2 := xFr_E hfr rfl
      have q19_2 : xE (zyEl zymc B H) 19 2 = xE (zyEl zymc B s.heap) 19 2 := xFr_E hFr0 rfl
      have e31 : ∀ i, xE (zyEl zymc B H2) 31 i = xE (zyEl zymc B H) 31 i := fun i => xFr_E hfr rfl
      have q31 : ∀ i, xE (zyEl zymc B H) 31 i = xE (zyEl zymc B s.heap) 31 i := fun i => xFr_E hFr0 rfl
      have e21 : ∀ i, xE (zyEl zymc B H2) 21 i = xE (zyEl zymc B H) 21 i := fun i => xFr_E hfr rfl
      have q21 : ∀ i, xE (zyEl zymc B H) 21 i = xE (zyEl zymc B s.heap) 21 i := fun i => xFr_E hFr0 rfl
      have y18_5 : ((2147483648 : Nat) : Int) ≤ xE (zyEl zymc B s.heap) 18 5 + 2147483648 ∧ xE (zyEl zymc B s.heap) 18 5 + 2147483648 ≤ ((2147483656 : Nat) : Int) := xTyF hT0 18 5 5 rfl rfl rfl rfl rfl rfl
      have y19_2 : ((2147483648 : Nat) : Int) ≤ xE (zyEl zymc B s.heap) 19 2 + 2147483648 ∧ xE (zyEl zymc B s.heap) 19 2 + 2147483648 ≤ ((2147483728 : Nat) : Int) := xTyF hT0 19 2 2 rfl rfl rfl rfl rfl rfl
      have hI : (zyEl zymc B H) = (zyEl zymc B s.heap) ∧ (v 1) = x0 0 := hInv
      have hP := hΦ.1
      have hP2 := hΦ.2
      refine xGo hIH hAt hB hv hFr ⟨1, by decide⟩ [0, 34359738369, 0] [0, (v2 1), 0] rfl ⟨by decide +kernel, ⟨rfl, by decide +kernel⟩, (xcs_c rfl (xcs_c rfl (xcs_c rfl xcs_n))), (xe_0 (xe_c (by omega) (by omega) rfl (xe_c (by omega) (by omega) rfl xe_n))), xkq_n⟩ xst_n ?_ ?_
      · show (0 ≤ (0 : Int) ∧ (0 : Int) ≤ xE (zyEl zymc B s.heap) 18 5) ∧ ((v2 1) : Int) = x0 0 ∧ ∀ S, xAb17 (zyEl zymc B s.heap) S → pTak S (x0 0) (pF (S 0) (S 1) (x0 0)) ((0 : Int)).toNat = false
        exact ⟨by omega, by omega, fun S hS => rfl⟩
      · show (99 - (0 : Int)).toNat < 100
        omega
    · have hx : x ∈ [zxfhs17_bx0] := hx
      have hag : ∀ k, k < 3 → v2 k = v k := hag
      have hfr : xFr [] _ _ := hfr
      have ex := List.mem_singleton.mp hx
      subst ex
      obtain ⟨hF, hBd, hM⟩ := hXs
      have g1 : v2 1 = v 1 := hag 1 (by decide)
      have g2 : v2 2 = v 2 := hag 2 (by decide)
      have b0 : ((2147483648 : Nat) : Int) ≤ (v2 1) + 2147483648 ∧ (v2 1) + 2147483648 ≤ ((2147483727 : Nat) : Int) := xXb hBd 0 rfl
      have b1 : ((2147483648 : Nat) : Int) ≤ (v2 2) + 2147483648 ∧ (v2 2) + 2147483648 ≤ ((2147483655 : Nat) : Int) := xXb hBd 1 rfl
      have b2 : ((2147483649 : Nat) : Int) ≤ (v2 3) + 2147483648 ∧ (v2 3) + 2147483648 ≤ ((2147483656 : Nat) : Int) := xXb hBd 2 rfl
      have b3 : ((2147483648 : Nat) : Int) ≤ (v2 4) + 2147483648 ∧ (v2 4) + 2147483648 ≤ ((2147483727 : Nat) : Int) := xXb hBd 3 rfl
      have b4 : ((2147483647 : Nat) : Int) ≤ (v2 5) + 2147483648 ∧ (v2 5) + 2147483648 ≤ ((2147483727 : Nat) : Int) := xXb hBd 4 rfl
      have b5 : ((2147483648 : Nat) : Int) ≤ (v2 6) + 2147483648 ∧ (v2 6) + 2147483648 ≤ ((2147483727 : Nat) : Int) := xXb hBd 5 rfl
      have b6 : ((2147483649 : Nat) : Int) ≤ (v2 2 + 1) + 2147483648 ∧ (v2 2 + 1) + 2147483648 ≤ ((2147483656 : Nat) : Int) := xXb hBd 6 rfl
      have f0 : (0 : Int) ≤ 5 ∧ xE (zyEl zymc B H) 18 5 = (v2 3) := xXf hF 0 rfl
      have f1 : (v2 2) < (v2 3) := xXf hF 1 rfl
      have f2 : (0 : Int) ≤ (v2 2) ∧ xE (zyEl zymc B H) 31 (v2 2) = (v2 4) := xXf hF 2 rfl
      have f3 : ¬ (v2 4) = (v2 1) := xXf hF 3 rfl
      have f4 : (0 : Int) ≤ (v2 1) ∧ xE (zyEl zymc B H) 21 (v2 1) = (v2 5) := xXf hF 4 rfl
      have f5 : (0 : Int) ≤ (v2 2) ∧ xE (zyEl zymc B H) 31 (v2 2) = (v2 6) := xXf hF 5 rfl
      have f6 : ¬ (v2 5) = (v2 6) := xXf hF 6 rfl
      have e18_5 : xE (zyEl zymc B H2) 18 5 = xE (zyEl zymc B H) 18 5 := xFr_E hfr rfl
      have q18_5 : xE (zyEl zymc B H) 18 5 = xE (zyEl zymc B s.heap) 18 5 := xFr_E hFr0 rfl
      have e19_2 : xE (zyEl zymc B H2) 19 2 = xE (zyEl zymc B H) 19 2 := xFr_E hfr rfl
      have q19_2 : xE (zyEl zymc B H) 19 2 = xE (zyEl zymc B s.heap) 19 2 := xFr_E hFr0 rfl
      have e31 : ∀ i, xE (zyEl zymc B H2) 31 i = xE (zyEl zymc B H) 31 i := fun i => xFr_E hfr rfl
      have q31 : ∀ i, xE (zyEl zymc B H) 31 i = xE (zyEl zymc B s.heap) 31 i := fun i => xFr_E hFr0 rfl
      have e21 : ∀ i, xE (zyEl zymc B H2) 21 i = xE (zyEl zymc B H) 21 i := fun i => xFr_E hfr rfl
      have q21 : ∀ i, xE (zyEl zymc B H) 21 i = xE (zyEl zymc B s.heap) 21 i := fun i => xFr_E hFr0 rfl
      have y18_5 : ((2147483648 : Nat) : Int) ≤ xE (zyEl zymc B s.heap) 18 5 + 2147483648 ∧ xE (zyEl zymc B s.heap) 18 5 + 2147483648 ≤ ((2147483656 : Nat) : Int) := xTyF hT0 18 5 5 rfl rfl rfl rfl rfl rfl
      have y19_2 : ((2147483648 : Nat) : Int) ≤ xE (zyEl zymc B s.heap) 19 2 + 2147483648 ∧ xE (zyEl zymc B s.heap) 19 2 + 2147483648 ≤ ((2147483728 : Nat) : Int) := xTyF hT0 19 2 2 rfl rfl rfl rfl rfl rfl
      have hI : (0 ≤ (v 2) ∧ (v 2) ≤ xE (zyEl zymc B s.heap) 18 5) ∧ (v 1) = x0 0 ∧ ∀ S, xAb17 (zyEl zymc B s.heap) S → pTak S (x0 0) (pF (S 0) (S 1) (x0 0)) ((v 2)).toNat = false := hInv
      obtain ⟨i1, i2, i3⟩ := hI
      have hP := hΦ.1
      have hP2 := hΦ.2
      rw [show (v 2) = v2 2 by omega] at i3
      have w2 : xE (zyEl zymc B s.heap) 31 (v2 2) = (v2 4) := by have := q31 (v2 2); omega
      have w5 : xE (zyEl zymc B s.heap) 31 (v2 2) = (v2 6) := by have := q31 (v2 2); omega
      have w4 : xE (zyEl zymc B s.heap) 21 (x0 0) = (v2 5) := by rw [show x0 0 = (v2 1) by omega]; have := q21 ((v2 1)); omega
      refine xGo hIH hAt hB hv hFr ⟨1, by decide⟩ [0, 34359738369, 68719476745] [0, (v2 1), (v2 2 + 1)] rfl ⟨by decide +kernel, ⟨rfl, by decide +kernel⟩, (xcs_c rfl (xcs_c rfl (xcs_c rfl xcs_n))), (xe_0 (xe_c (by omega) (by omega) rfl (xe_c (by omega) (by omega) rfl xe_n))), xkq_n⟩ xst_n ?_ ?_
      · show (0 ≤ ((v2 2 + 1) : Int) ∧ ((v2 2 + 1) : Int) ≤ xE (zyEl zymc B s.heap) 18 5) ∧ ((v2 1) : Int) = x0 0 ∧ ∀ S, xAb17 (zyEl zymc B s.heap) S → pTak S (x0 0) (pF (S 0) (S 1) (x0 0)) (((v2 2 + 1) : Int)).toNat = false
        refine ⟨by omega, by omega, fun S hS => ?_⟩
        have hst := (hS.2.2.2.1.2 (v2 2) (by omega) (by have := hS.2.2.2.1.1; omega)).1
        have hfc := hS.2.2.1 (x0 0) hP (by have := hS.2.1.2.2.1; omega)
        rw [pTak_s (by omega), i3 S hS, Bool.false_or, Bool.or_eq_false_iff, decide_eq_false_iff_not, decide_eq_false_iff_not]
        omega
      · show (99 - ((v2 2 + 1) : Int)).toNat < (99 - (v 2)).toNat
        omega
  · intro x0 E0 E E2 hrx hT0 hΦ i v hT hrv hInv hKc hFr0 x hx v2 hr2 hXs hag hfr hFr hT2
    rcases i with ⟨i, hi⟩
    have hi2 : i = 0 ∨ i = 1 := by omega
    rcases hi2 with rfl | rfl
    · cases hx
    · have hx : x ∈ [zxfhs17_br0, zxfhs17_br1, zxfhs17_br2] := hx
      have hag : ∀ k, k < 3 → v2 k = v k := hag
      have hfr : xFr [] _ _ := hfr
      rcases List.mem_cons.mp hx with ex | hx
      · subst ex
        obtain ⟨hF, hBd, hM⟩ := hXs
        have g1 : v2 1 = v 1 := hag 1 (by decide)
        have g2 : v2 2 = v 2 := hag 2 (by decide)
        have b0 : ((2147483648 : Nat) : Int) ≤ (v2 1) + 2147483648 ∧ (v2 1) + 2147483648 ≤ ((2147483727 : Nat) : Int) := xXb hBd 0 rfl
        have b1 : ((2147483648 : Nat) : Int) ≤ (v2 2) + 2147483648 ∧ (v2 2) + 2147483648 ≤ ((2147483655 : Nat) : Int) := xXb hBd 1 rfl
        have b2 : ((2147483649 : Nat) : Int) ≤ (v2 3) + 2147483648 ∧ (v2 3) + 2147483648 ≤ ((2147483656 : Nat) : Int) := xXb hBd 2 rfl
        have b3 : ((2147483648 : Nat) : Int) ≤ (v2 4) + 2147483648 ∧ (v2 4) + 2147483648 ≤ ((2147483727 : Nat) : Int) := xXb hBd 3 rfl
        have b4 : ((2147483647 : Nat) : Int) ≤ (v2 5) + 2147483648 ∧ (v2 5) + 2147483648 ≤ ((2147483727 : Nat) : Int) := xXb hBd 4 rfl
        have b5 : ((2147483648 : Nat) : Int) ≤ (v2 6) + 2147483648 ∧ (v2 6) + 2147483648 ≤ ((2147483727 : Nat) : Int) := xXb hBd 5 rfl
        have f0 : (0 : Int) ≤ 5 ∧ xE E 18 5 = (v2 3) := xXf hF 0 rfl
        have f1 : (v2 2) < (v2 3) := xXf hF 1 rfl
        have f2 : (0 : Int) ≤ (v2 2) ∧ xE E 31 (v2 2) = (v2 4) := xXf hF 2 rfl
        have f3 : ¬ (v2 4) = (v2 1) := xXf hF 3 rfl
        have f4 : (0 : Int) ≤ (v2 1) ∧ xE E 21 (v2 1) = (v2 5) := xXf hF 4 rfl
        have f5 : (0 : Int) ≤ (v2 2) ∧ xE E 31 (v2 2) = (v2 6) := xXf hF 5 rfl
        have f6 : (v2 5) = (v2 6) := xXf hF 6 rfl
        have e18_5 : xE E2 18 5 = xE E 18 5 := xFr_E hfr rfl
        have q18_5 : xE E 18 5 = xE E0 18 5 := xFr_E hFr0 rfl
        have e19_2 : xE E2 19 2 = xE E 19 2 := xFr_E hfr rfl
        have q19_2 : xE E 19 2 = xE E0 19 2 := xFr_E hFr0 rfl
        have e31 : ∀ i, xE E2 31 i = xE E 31 i := fun i => xFr_E hfr rfl
        have q31 : ∀ i, xE E 31 i = xE E0 31 i := fun i => xFr_E hFr0 rfl
        have e21 : ∀ i, xE E2 21 i = xE E 21 i := fun i => xFr_E hfr rfl
        have q21 : ∀ i, xE E 21 i = xE E0 21 i := fun i => xFr_E hFr0 rfl
        have y18_5 : ((2147483648 : Nat) : Int) ≤ xE E0 18 5 + 2147483648 ∧ xE E0 18 5 + 2147483648 ≤ ((2147483656 : Nat) : Int) := xTyF hT0 18 5 5 rfl rfl rfl rfl rfl rfl
        have y19_2 : ((2147483648 : Nat) : Int) ≤ xE E0 19 2 + 2147483648 ∧ xE E0 19 2 + 2147483648 ≤ ((2147483728 : Nat) : Int) := xTyF hT0 19 2 2 rfl rfl rfl rfl rfl rfl
        have hI : (0 ≤ (v 2) ∧ (v 2) ≤ xE E0 18 5) ∧ (v 1) = x0 0 ∧ ∀ S, xAb17 E0 S → pTak S (x0 0) (pF (S 0) (S 1) (x0 0)) ((v 2)).toNat = false := hInv
        show xΨhs17 x0 E0 E2 1
        obtain ⟨i1, i2, i3⟩ := hI
        have hP := hΦ.1
        have hP2 := hΦ.2
        rw [show (v 2) = v2 2 by omega] at i3
        have w2 : xE E0 31 (v2 2) = (v2 4) := by have := q31 (v2 2); omega
        have w5 : xE E0 31 (v2 2) = (v2 6) := by have := q31 (v2 2); omega
        have w4 : xE E0 21 (x0 0) = (v2 5) := by rw [show x0 0 = (v2 1) by omega]; have := q21 ((v2 1)); omega
        unfold xΨhs17
        refine ⟨by omega, fun S hS => ?_⟩
        have hst := (hS.2.2.2.1.2 (v2 2) (by omega) (by have := hS.2.2.2.1.1; omega)).1
        have hfc := hS.2.2.1 (x0 0) hP (by have := hS.2.1.2.2.1; omega)
        have hb := hS.2.2.2.1.1
        have ht : pTak S (x0 0) (pF (S 0) (S 1) (x0 0)) (v2 2 + 1).toNat = true := by
          rw [pTak_s (by omega), Bool.or_eq_true, Bool.or_eq_true, decide_eq_true_eq, decide_eq_true_eq]
          right
          omega
        rw [if_pos (pTak_m (by omega) ht)]
      · skip
        rcases List.mem_cons.mp hx with ex | hx
        · subst ex
          obtain ⟨hF, hBd, hM⟩ := hXs
          have g1 : v2 1 = v 1 := hag 1 (by decide)
          have g2 : v2 2 = v 2 := hag 2 (by decide)
          have b0 : ((2147483648 : Nat) : Int) ≤ (v2 1) + 2147483648 ∧ (v2 1) + 2147483648 ≤ ((2147483727 : Nat) : Int) := xXb hBd 0 rfl
          have b1 : ((2147483648 : Nat) : Int) ≤ (v2 2) + 2147483648 ∧ (v2 2) + 2147483648 ≤ ((2147483655 : Nat) : Int) := xXb hBd 1 rfl
          have b2 : ((2147483649 : Nat) : Int) ≤ (v2 3) + 2147483648 ∧ (v2 3) + 2147483648 ≤ ((2147483656 : Nat) : Int) := xXb hBd 2 rfl
          have b3 : ((2147483648 : Nat) : Int) ≤ (v2 4) + 2147483648 ∧ (v2 4) + 2147483648 ≤ ((2147483727 : Nat) : Int) := xXb hBd 3 rfl
          have f0 : (0 : Int) ≤ 5 ∧ xE E 18 5 = (v2 3) := xXf hF 0 rfl
          have f1 : (v2 2) < (v2 3) := xXf hF 1 rfl
          have f2 : (0 : Int) ≤ (v2 2) ∧ xE E 31 (v2 2) = (v2 4) := xXf hF 2 rfl
          have f3 : (v2 4) = (v2 1) := xXf hF 3 rfl
          have e18_5 : xE E2 18 5 = xE E 18 5 := xFr_E hfr rfl
          have q18_5 : xE E 18 5 = xE E0 18 5 := xFr_E hFr0 rfl
          have e19_2 : xE E2 19 2 = xE E 19 2 := xFr_E hfr rfl
          have q19_2 : xE E 19 2 = xE E0 19 2 := xFr_E hFr0 rfl
          have e31 : ∀ i, xE E2 31 i = xE E 31 i := fun i => xFr_E hfr rfl
          have q31 : ∀ i, xE E 31 i = xE E0 31 i := fun i => xFr_E hFr0 rfl
          have e21 : ∀ i, xE E2 21 i = xE E 21 i := fun i => xFr_E hfr rfl
          have q21 : ∀ i, xE E 21 i = xE E0 21 i := fun i => xFr_E hFr0 rfl
          have y18_5 : ((2147483648 : Nat) : Int) ≤ xE E0 18 5 + 2147483648 ∧ xE E0 18 5 + 2147483648 ≤ ((2147483656 : Nat) : Int) := xTyF hT0 18 5 5 rfl rfl rfl rfl rfl rfl
          have y19_2 : ((2147483648 : Nat) : Int) ≤ xE E0 19 2 + 2147483648 ∧ xE E0 19 2 + 2147483648 ≤ ((2147483728 : Nat) : Int) := xTyF hT0 19 2 2 rfl rfl rfl rfl rfl rfl
          have hI : (0 ≤ (v 2) ∧ (v 2) ≤ xE E0 18 5) ∧ (v 1) = x0 0 ∧ ∀ S, xAb17 E0 S → pTak S (x0 0) (pF (S 0) (S 1) (x0 0)) ((v 2)).toNat = false := hInv
          show xΨhs17 x0 E0 E2 1
          obtain ⟨i1, i2, i3⟩ := hI
          have hP := hΦ.1
          have hP2 := hΦ.2
          rw [show (v 2) = v2 2 by omega] at i3
          have w2 : xE E0 31 (v2 2) = (v2 4) := by have := q31 (v2 2); omega
          unfold xΨhs17
          refine ⟨by omega, fun S hS => ?_⟩
          have hst := (hS.2.2.2.1.2 (v2 2) (by omega) (by have := hS.2.2.2.1.1; omega)).1
          have hfc := hS.2.2.1 (x0 0) hP (by have := hS.2.1.2.2.1; omega)
          have hb := hS.2.2.2.1.1
          have ht : pTak S (x0 0) (pF (S 0) (S 1) (x0 0)) (v2 2 + 1).toNat = true := by
            rw [pTak_s (by omega), Bool.or_eq_true, Bool.or_eq_true, decide_eq_true_eq, decide_eq_true_eq]
            right
            omega
          rw [if_pos (pTak_m (by omega) ht)]
        · skip
          have ex := List.mem_singleton.mp hx
          subst ex
          obtain ⟨hF, hBd, hM⟩ := hXs
          have g1 : v2 1 = v 1 := hag 1 (by decide)
          have g2 : v2 2 = v 2 := hag 2 (by decide)
          have b0 : ((2147483648 : Nat) : Int) ≤ (v2 2) + 2147483648 ∧ (v2 2) + 2147483648 ≤ ((2147483656 : Nat) : Int) := xXb hBd 0 rfl
          have b1 : ((2147483648 : Nat) : Int) ≤ (v2 3) + 2147483648 ∧ (v2 3) + 2147483648 ≤ ((2147483656 : Nat) : Int) := xXb hBd 1 rfl
          have f0 : (0 : Int) ≤ 5 ∧ xE E 18 5 = (v2 3) := xXf hF 0 rfl
          have f1 : (v2 3) ≤ (v2 2) := xXf hF 1 rfl
          have e18_5 : xE E2 18 5 = xE E 18 5 := xFr_E hfr rfl
          have q18_5 : xE E 18 5 = xE E0 18 5 := xFr_E hFr0 rfl
          have e19_2 : xE E2 19 2 = xE E 19 2 := xFr_E hfr rfl
          have q19_2 : xE E 19 2 = xE E0 19 2 := xFr_E hFr0 rfl
          have e31 : ∀ i, xE E2 31 i = xE E 31 i := fun i => xFr_E hfr rfl
          have q31 : ∀ i, xE E 31 i = xE E0 31 i := fun i => xFr_E hFr0 rfl
          have e21 : ∀ i, xE E2 21 i = xE E 21 i := fun i => xFr_E hfr rfl
          have q21 : ∀ i, xE E 21 i = xE E0 21 i := fun i => xFr_E hFr0 rfl
          have y18_5 : ((2147483648 : Nat) : Int) ≤ xE E0 18 5 + 2147483648 ∧ xE E0 18 5 + 2147483648 ≤ ((2147483656 : Nat) : Int) := xTyF hT0 18 5 5 rfl rfl rfl rfl rfl rfl
          have y19_2 : ((2147483648 : Nat) : Int) ≤ xE E0 19 2 + 2147483648 ∧ xE E0 19 2 + 2147483648 ≤ ((2147483728 : Nat) : Int) := xTyF hT0 19 2 2 rfl rfl rfl rfl rfl rfl
          have hI : (0 ≤ (v 2) ∧ (v 2) ≤ xE E0 18 5) ∧ (v 1) = x0 0 ∧ ∀ S, xAb17 E0 S → pTak S (x0 0) (pF (S 0) (S 1) (x0 0)) ((v 2)).toNat = false := hInv
          show xΨhs17 x0 E0 E2 0
          obtain ⟨i1, i2, i3⟩ := hI
          have hP := hΦ.1
          have hP2 := hΦ.2
          rw [show (v 2) = v2 2 by omega] at i3
          unfold xΨhs17
          refine ⟨by omega, fun S hS => ?_⟩
          have hb := hS.2.2.2.1.1
          rw [show S 2 = v2 2 by omega, i3 S hS]
          rfl
noncomputable def zxfab17_ax0 : zyXp := (9, [147, 34359738369], [34359738369, 68719476737, 251], [(24, 68719476737, 18, 40)], [(34359738369, 2147483648, 2147483727), (68719476737, 2147483648, 2147483656)], [])
noncomputable def zpfab17_a : zyPh := (0, [147, 34359738369], [(0, 4294967295), (2147483648, 2147483727)], [], [])
noncomputable def zxfab17_bx0 : zyXp := (19, [147, 34359738369], [34359738360, 68719476737, 259], [(24, 68719476737, 18, 40)], [(34359738369, 2147483648, 2147483727), (68719476737, 2147483648, 2147483656)], [])
noncomputable def zpfab17_b : zyPh := (10, [147, 34359738369], [(0, 4294967295), (2147483648, 2147483727)], [], [])
noncomputable def zxfab17_cr0 : zyXp := (0, [], [], [], [(68719476737, 2147483648, 2147483655)], [(294917, 68719476745)])
noncomputable def zpfab17_c : zyPh := (20, [147, 34359738369], [(0, 4294967295), (2147483648, 2147483727), (2147483648, 2147483655)], [(294917, 68719476737)], [])
noncomputable def zpfab17 (i : Nat) : zyPh := zif (Nat.beq i 0) (zpfab17_a) (zif (Nat.beq i 1) (zpfab17_b) (zpfab17_c))
noncomputable def zXfab17 (i : Nat) : List zyXp := zif (Nat.beq i 0) ([zxfab17_ax0]) (zif (Nat.beq i 1) ([zxfab17_bx0]) ([]))
noncomputable def zRfab17 (i : Nat) : List zyXp := zif (Nat.beq i 0) ([]) (zif (Nat.beq i 1) ([]) ([zxfab17_cr0]))
noncomputable def zFfab17 (i : Nat) : zyR := zif (Nat.beq i 0) ([]) (zif (Nat.beq i 1) ([]) ([(18, 5, 5)]))
noncomputable def zSfab17 (i : Nat) : Nat := zif (Nat.beq i 0) (0) (zif (Nat.beq i 1) (0) (0))
def xΦab17 (x : Nat → Int) (E : zyEm) : Prop := xE E 18 5 ≤ 7 ∧ 0 ≤ x 0 ∧ x 0 ≤ 79
def xΨab17 (x : Nat → Int) (E E2 : zyEm) (_ : Int) : Prop := xE E2 18 5 = xE E 18 5 + 1 ∧ xE E2 31 (xE E 18 5) = x 0 ∧ (∀ k, 0 ≤ k → ¬ k = xE E 18 5 → xE E2 31 k = xE E 31 k) ∧ xE E2 32 (xE E 18 5) = -1 ∧ (∀ k, 0 ≤ k → ¬ k = xE E 18 5 → xE E2 32 k = xE E 32 k)
noncomputable def fpfab17 : zyR := [(18, 5, 5), (31, 0, 7), (32, 0, 7)]
theorem zyfab17_run : zyrS zymc zxi32 (32, 0, 0, 0, 0) 1 zpfab17 (fun _ _ => []) zFfab17 zSfab17 zXfab17 zRfab17 3 = true := by decide +kernel
theorem zyfab17_ck : zyAll (fun i => xsubR (zFfab17 i) fpfab17 && ((zXfab17 i).all xckX && (zRfab17 i).all (fun x => xckX x && xrtB false x))) 3 = true := by decide +kernel
def xIfab17 (i : Nat) (x0 : Nat → Int) (E0 : zyEm) (v : Nat → Int) (E : zyEm) : Prop := if i = 0 then (E = E0 ∧ (v 1) = x0 0) else if i = 1 then ((0 ≤ (v 1) ∧ (v 1) ≤ 79) ∧ xE E 18 5 = (xE E0 18 5) ∧ (xE E0 18 5) ≤ 7 ∧ xE E 31 (xE E0 18 5) = x0 0 ∧ (∀ k, 0 ≤ k → ¬ k = (xE E0 18 5) → xE E 31 k = xE E0 31 k) ∧ (∀ k, xE E 32 k = xE E0 32 k)) else (xE E 18 5 = (xE E0 18 5) ∧ (xE E0 18 5) ≤ 7 ∧ xE E 31 (xE E0 18 5) = x0 0 ∧ (∀ k, 0 ≤ k → ¬ k = (xE E0 18 5) → xE E 31 k = xE E0 31 k) ∧ xE E 32 (xE E0 18 5) = -1 ∧ (∀ k, 0 ≤ k → ¬ k = (xE E0 18 5) → xE E 32 k = xE E0 32 k))
def xMfab17 (i : Nat) (x0 : Nat → Int) (E0 : zyEm) (v : Nat → Int) (E : zyEm) : Nat := if i = 0 then (3) else if i = 1 then (2) else (1)
theorem xAbb17 {l : Launch} {en : zEn} {me : zMe} (hen : zG zxMeta 32 = some en) (hme : zG zMeth 32 = some me) : xFc l zymc en me 1 [18] 1 fpfab17 false xΦab17 xΨab17 := by
  have een : zG zxMeta 32 = some (zxi32, 2, 2, 3, 32, 0, 0, 0, 0) := rfl
  obtain ⟨me1, hme1, hOK⟩ := zall hen
  rw [hme] at hme1
  cases hme1
  rw [een] at hen
  cases hen
  have hr := zyfab17_run
  have hck := fun i hi => zyAll_iff zyfab17_ck i hi
  simp only [Bool.and_eq_true] at hck
  intro B
  refine xcut (mi := zymc) (B := B) hOK rfl rfl (ι := Fin 3) (fun i => zpfab17 i.val) (fun _ _ => []) (fun i => zFfab17 i.val) (fun i => zSfab17 i.val) (fun i => zXfab17 i.val) (fun i => zRfab17 i.val) (fun i y2 ct en2 me2 h => by cases h) 200000 (fun i => zyAll_iff hr i.val i.isLt) (fun i => (hck i.val i.isLt).1) (fun i => (hck i.val i.isLt).2.1) (fun i => (hck i.val i.isLt).2.2) ⟨0, by decide⟩ ⟨rfl, rfl, rfl, rfl⟩ ⟨by decide, by decide⟩ (fun i x0 E0 v E => xIfab17 i.val x0 E0 v E) (fun i x0 E0 v E => xMfab17 i.val x0 E0 v E) ?_ ?_ ?_
  · intro x0 E hx0 hT hΦ
    have hΦ : xΦab17 x0 E := hΦ
    refine ⟨fun k p hp => ?_, ?_⟩
    · have hk : k < 2 := (List.getElem?_eq_some_iff.mp hp).1
      have hk : k = 0 ∨ k = 1 := by omega
      rcases hk with rfl | rfl
      · have hp : some (0, 4294967295) = some p := hp
        cases hp
        show ((0 : Nat) : Int) ≤ 0 + 2147483648 ∧ 0 + 2147483648 ≤ ((4294967295 : Nat) : Int)
        omega
      · have hp : some (2147483648, 2147483727) = some p := hp
        cases hp
        show ((2147483648 : Nat) : Int) ≤ x0 0 + 2147483648 ∧ x0 0 + 2147483648 ≤ ((2147483727 : Nat) : Int)
        have hx := hx0 0
        have hP := hΦ.2
        omega
    · show E = E ∧ (x0 0) = x0 0
      exact ⟨rfl, rfl⟩
  · intro x0 s Wg hRu hrx hT0 hΦ i v H hT hrv hInv hKc hFr0 hIH x hx ρ2 v2 N2 H2 locs lsB stA hAt hB hv hr2 hXs hag hfr hFr hT2
    rcases i with ⟨i, hi⟩
    have hi2 : i = 0 ∨ i = 1 ∨ i = 2 := by omega
    rcases hi2 with rfl | rfl | rfl
    · have hx : x ∈ [zxfab17_ax0] := hx
      have hag : ∀ k, k < 2 → v2 k = v k := hag
      have hfr : xFr [] _ _ := hfr
      have ex := List.mem_singleton.mp hx
      subst ex
      obtain ⟨hF, hBd, hM⟩ := hXs
      have g1 : v2 1 = v 1 := hag 1 (by decide)
      have b0 : ((2147483648 : Nat) : Int) ≤ (v2 1) + 2147483648 ∧ (v2 1) + 2147483648 ≤ ((2147483727 : Nat) : Int) := xXb hBd 0 rfl
      have b1 : ((2147483648 : Nat) : Int) ≤ (v2 2) + 2147483648 ∧ (v2 2) + 2147483648 ≤ ((2147483656 : Nat) : Int) := xXb hBd 1 rfl
      have f0 : (0 : Int) ≤ 5 ∧ xE (zyEl zymc B H) 18 5 = (v2 2) := xXf hF 0 rfl
      have e18_5 : xE (zyEl zymc B H2) 18 5 = xE (zyEl zymc B H) 18 5 := xFr_E hfr rfl
      have e31 : ∀ i, xE (zyEl zymc B H2) 31 i = xE (zyEl zymc B H) 31 i := fun i => xFr_E hfr rfl
      have e32 : ∀ i, xE (zyEl zymc B H2) 32 i = xE (zyEl zymc B H) 32 i := fun i => xFr_E hfr rfl
      have y18_5 : ((2147483648 : Nat) : Int) ≤ xE (zyEl zymc B s.heap) 18 5 + 2147483648 ∧ xE (zyEl zymc B s.heap) 18 5 + 2147483648 ≤ ((2147483656 : Nat) : Int) := xTyF hT0 18 5 5 rfl rfl rfl rfl rfl rfl
      have hI : (zyEl zymc B H) = (zyEl zymc B s.heap) ∧ (v 1) = x0 0 := hInv
      have q18_5 : xE (zyEl zymc B H) 18 5 = xE (zyEl zymc B s.heap) 18 5 := by rw [hI.1]
      have q31 : ∀ i, xE (zyEl zymc B H) 31 i = xE (zyEl zymc B s.heap) 31 i := fun i => by rw [hI.1]
      have q32 : ∀ i, xE (zyEl zymc B H) 32 i = xE (zyEl zymc B s.heap) 32 i := fun i => by rw [hI.1]
      have hP := hΦ.1
      refine xSt hRu hIH hAt hB hv hFr 31 (ax := 0) 34359738369 68719476737 (v2 1) (v2 2) rfl (Or.inl ⟨rfl, rfl⟩) rfl (by decide +kernel) rfl rfl (by omega) (by show (v2 2) < ((8 : Nat) : Int); omega) (fun r hr q1 q2 => by rw [List.mem_singleton.mp hr]; exact ⟨rfl, by show ((2147483648 : Nat) : Int) ≤ (v2 1) + 2147483648; omega, by show (v2 1) + 2147483648 ≤ ((2147483727 : Nat) : Int); omega⟩) (zyin_iff.mpr ⟨(31, 0, 7), by decide, rfl, Nat.zero_le _, by show Int.toNat (v2 2) ≤ 7; omega⟩) (fun H3 hT3 hst3 hne3 hfn3 hFr3 => ?_)
      have hfe3 : ∀ (a2 : Nat) (k2 : Int), ¬ a2 = 31 → xE (zyEl zymc B H3) a2 k2 = xE (zyEl zymc B H2) a2 k2 := fun a2 k2 hne => by unfold xE; rw [hfn3 a2 k2.toNat (fun z => hne z.1)]
      have d18_5 : xE (zyEl zymc B H3) 18 5 = xE (zyEl zymc B H2) 18 5 := hfe3 18 5 (fun z => absurd z (by decide))
      refine ⟨⟨1, by decide⟩, [0, 34359738369], [0, (v2 1)], rfl, ⟨by decide +kernel, ⟨rfl, by decide +kernel⟩, (xcs_c rfl (xcs_c rfl xcs_n)), (xe_0 (xe_c (by omega) (by omega) rfl xe_n)), xkq_n⟩, rfl, ?_, ?_⟩
      · show (0 ≤ ((v2 1) : Int) ∧ ((v2 1) : Int) ≤ 79) ∧ xE (zyEl zymc B H3) 18 5 = (xE (zyEl zymc B s.heap) 18 5) ∧ (xE (zyEl zymc B s.heap) 18 5) ≤ 7 ∧ xE (zyEl zymc B H3) 31 (xE (zyEl zymc B s.heap) 18 5) = x0 0 ∧ (∀ k, 0 ≤ k → ¬ k = (xE (zyEl zymc B s.heap) 18 5) → xE (zyEl zymc B H3) 31 k = xE (zyEl zymc B s.heap) 31 k) ∧ (∀ k, xE (zyEl zymc B H3) 32 k = xE (zyEl zymc B s.heap) 32 k)
        rw [show (v2 2) = xE (zyEl zymc B s.heap) 18 5 by omega] at hst3 hne3
        exact ⟨by omega, by omega, by omega, hst3.trans (by omega), fun k k0 k1 => (hne3 31 k k0 (fun z => k1 z.2)).trans ((e31 k).trans (q31 k)), fun k => (hfe3 32 k (fun z => absurd z (by decide))).trans ((e32 k).trans (q32 k))⟩
      · show 2 < 3
        omega
    · have hx : x ∈ [zxfab17_bx0] := hx
      have hag : ∀ k, k < 2 → v2 k = v k := hag
      have hfr : xFr [] _ _ := hfr
      have ex := List.mem_singleton.mp hx
      subst ex
      obtain ⟨hF, hBd, hM⟩ := hXs
      have g1 : v2 1 = v 1 := hag 1 (by decide)
      have b0 : ((2147483648 : Nat) : Int) ≤ (v2 1) + 2147483648 ∧ (v2 1) + 2147483648 ≤ ((2147483727 : Nat) : Int) := xXb hBd 0 rfl
      have b1 : ((2147483648 : Nat) : Int) ≤ (v2 2) + 2147483648 ∧ (v2 2) + 2147483648 ≤ ((2147483656 : Nat) : Int) := xXb hBd 1 rfl
      have f0 : (0 : Int) ≤ 5 ∧ xE (zyEl zymc B H) 18 5 = (v2 2) := xXf hF 0 rfl
      have e18_5 : xE (zyEl zymc B H2) 18 5 = xE (zyEl zymc B H) 18 5 := xFr_E hfr rfl
      have e31 : ∀ i, xE (zyEl zymc B H2) 31 i = xE (zyEl zymc B H) 31 i := fun i => xFr_E hfr rfl
      have e32 : ∀ i, xE (zyEl zymc B H2) 32 i = xE (zyEl zymc B H) 32 i := fun i => xFr_E hfr rfl
      have y18_5 : ((2147483648 : Nat) : Int) ≤ xE (zyEl zymc B s.heap) 18 5 + 2147483648 ∧ xE (zyEl zymc B s.heap) 18 5 + 2147483648 ≤ ((2147483656 : Nat) : Int) := xTyF hT0 18 5 5 rfl rfl rfl rfl rfl rfl
      have hI : (0 ≤ (v 1) ∧ (v 1) ≤ 79) ∧ xE (zyEl zymc B H) 18 5 = (xE (zyEl zymc B s.heap) 18 5) ∧ (xE (zyEl zymc B s.heap) 18 5) ≤ 7 ∧ xE (zyEl zymc B H) 31 (xE (zyEl zymc B s.heap) 18 5) = x0 0 ∧ (∀ k, 0 ≤ k → ¬ k = (xE (zyEl zymc B s.heap) 18 5) → xE (zyEl zymc B H) 31 k = xE (zyEl zymc B s.heap) 31 k) ∧ (∀ k, xE (zyEl zymc B H) 32 k = xE (zyEl zymc B s.heap) 32 k) := hInv
      obtain ⟨i1, i2, i3, i4, i5, i6⟩ := hI
      refine xSt hRu hIH hAt hB hv hFr 32 (ax := 0) 34359738360 68719476737 (-1) (v2 2) rfl (Or.inl ⟨rfl, rfl⟩) rfl (by decide +kernel) rfl rfl (by omega) (by show (v2 2) < ((8 : Nat) : Int); omega) (fun r hr q1 q2 => by rw [List.mem_singleton.mp hr]; exact ⟨rfl, by show ((2147483647 : Nat) : Int) ≤ (-1) + 2147483648; omega, by show (-1) + 2147483648 ≤ ((2147483727 : Nat) : Int); omega⟩) (zyin_iff.mpr ⟨(32, 0, 7), by decide, rfl, Nat.zero_le _, by show Int.toNat (v2 2) ≤ 7; omega⟩) (fun H3 hT3 hst3 hne3 hfn3 hFr3 => ?_)
      have hfe3 : ∀ (a2 : Nat) (k2 : Int), ¬ a2 = 32 → xE (zyEl zymc B H3) a2 k2 = xE (zyEl zymc B H2) a2 k2 := fun a2 k2 hne => by unfold xE; rw [hfn3 a2 k2.toNat (fun z => hne z.1)]
      have d18_5 : xE (zyEl zymc B H3) 18 5 = xE (zyEl zymc B H2) 18 5 := hfe3 18 5 (fun z => absurd z (by decide))
      have z18_5 : ((2147483648 : Nat) : Int) ≤ xE (zyEl zymc B H3) 18 5 + 2147483648 ∧ xE (zyEl zymc B H3) 18 5 + 2147483648 ≤ ((2147483656 : Nat) : Int) := xTyF hT3 18 5 5 rfl rfl rfl rfl rfl rfl
      refine ⟨⟨2, by decide⟩, [0, 34359738369], [0, (v2 1), xE (zyEl zymc B H3) 18 5], rfl, ⟨by decide +kernel, ⟨rfl, by decide +kernel⟩, (xcs_c rfl (xcs_c rfl xcs_n)), (xe_0 (xe_c (by omega) (by omega) rfl (xe_c (by omega) (by omega) rfl xe_n))), (xkq_c hT3 18 5 (q := 5) rfl rfl rfl rfl rfl rfl rfl rfl rfl rfl rfl xkq_n)⟩, rfl, ?_, ?_⟩
      · show xE (zyEl zymc B H3) 18 5 = (xE (zyEl zymc B s.heap) 18 5) ∧ (xE (zyEl zymc B s.heap) 18 5) ≤ 7 ∧ xE (zyEl zymc B H3) 31 (xE (zyEl zymc B s.heap) 18 5) = x0 0 ∧ (∀ k, 0 ≤ k → ¬ k = (xE (zyEl zymc B s.heap) 18 5) → xE (zyEl zymc B H3) 31 k = xE (zyEl zymc B s.heap) 31 k) ∧ xE (zyEl zymc B H3) 32 (xE (zyEl zymc B s.heap) 18 5) = -1 ∧ (∀ k, 0 ≤ k → ¬ k = (xE (zyEl zymc B s.heap) 18 5) → xE (zyEl zymc B H3) 32 k = xE (zyEl zymc B s.heap) 32 k)
        rw [show (v2 2) = xE (zyEl zymc B s.heap) 18 5 by omega] at hst3 hne3
        exact ⟨by omega, by omega, (hfe3 31 _ (fun z => absurd z (by decide))).trans ((e31 _).trans i4), fun k k0 k1 => (hfe3 31 k (fun z => absurd z (by decide))).trans ((e31 k).trans (i5 k k0 k1)), hst3, fun k k0 k1 => (hne3 32 k k0 (fun z => k1 z.2)).trans ((e32 k).trans (i6 k))⟩
      · show 1 < 2
        omega
    · cases hx
  · intro x0 E0 E E2 hrx hT0 hΦ i v hT hrv hInv hKc hFr0 x hx v2 hr2 hXs hag hfr hFr hT2
    rcases i with ⟨i, hi⟩
    have hi2 : i = 0 ∨ i = 1 ∨ i = 2 := by omega
    rcases hi2 with rfl | rfl | rfl
    · cases hx
    · cases hx
    · have hx : x ∈ [zxfab17_cr0] := hx
      have hag : ∀ k, k < 3 → v2 k = v k := hag
      have hfr : xFr [(18, 5, 5)] _ _ := hfr
      have ex := List.mem_singleton.mp hx
      subst ex
      obtain ⟨hF, hBd, hM⟩ := hXs
      have g1 : v2 1 = v 1 := hag 1 (by decide)
      have g2 : v2 2 = v 2 := hag 2 (by decide)
      have b0 : ((2147483648 : Nat) : Int) ≤ (v2 2) + 2147483648 ∧ (v2 2) + 2147483648 ≤ ((2147483655 : Nat) : Int) := xXb hBd 0 rfl
      have k0 : xE E 18 5 = v 2 := xKcf hKc 0 rfl rfl
      have m0 : xE E2 18 5 = (v2 2 + 1) := xXm hM 0 rfl
      have e31 : ∀ i, xE E2 31 i = xE E 31 i := fun i => xFr_E hfr rfl
      have e32 : ∀ i, xE E2 32 i = xE E 32 i := fun i => xFr_E hfr rfl
      have y18_5 : ((2147483648 : Nat) : Int) ≤ xE E0 18 5 + 2147483648 ∧ xE E0 18 5 + 2147483648 ≤ ((2147483656 : Nat) : Int) := xTyF hT0 18 5 5 rfl rfl rfl rfl rfl rfl
      have hI : xE E 18 5 = (xE E0 18 5) ∧ (xE E0 18 5) ≤ 7 ∧ xE E 31 (xE E0 18 5) = x0 0 ∧ (∀ k, 0 ≤ k → ¬ k = (xE E0 18 5) → xE E 31 k = xE E0 31 k) ∧ xE E 32 (xE E0 18 5) = -1 ∧ (∀ k, 0 ≤ k → ¬ k = (xE E0 18 5) → xE E 32 k = xE E0 32 k) := hInv
      show xΨab17 x0 E0 E2 0
      obtain ⟨i1, i2, i3, i4, i5, i6⟩ := hI
      unfold xΨab17
      exact ⟨by omega, (e31 _).trans i3, fun k k0 k1 => (e31 k).trans (i4 k k0 k1), (e32 _).trans i5, fun k k0 k1 => (e32 k).trans (i6 k k0 k1)⟩
noncomputable def zxfwa17_zx0 : zyXp := (0, [267, 34359738369], [], [], [(34359738369, 2147483641, 2147483655)], [])
noncomputable def zpfwa17_z : zyPh := (0, [267, 34359738369], [(0, 4294967295), (2147483641, 2147483655)], [], [])
noncomputable def zxfwa17_ax0 : zyXp := (21, [267, 34359738369], [34359738369, 68719476737, 275], [(20, 0, 68719476737, 480)], [(34359738369, 2147483641, 2147483655), (68719476737, 2147483648, 2147483707)], [(540673, 68719476737)])
noncomputable def zxfwa17_ar0 : zyXp := (0, [], [], [(21, 0, 68719476737, 480)], [(68719476737, 2147483708, 2147483708)], [(540673, 488)])
noncomputable def zpfwa17_a : zyPh := (0, [267, 34359738369], [(0, 4294967295), (2147483641, 2147483655), (2147483648, 2147483708)], [(540673, 68719476737)], [])
noncomputable def zxfwa17_br0 : zyXp := (0, [], [], [], [(68719476737, 2147483648, 2147483707)], [(540673, 68719476745)])
noncomputable def zpfwa17_b : zyPh := (22, [267, 34359738369], [(0, 4294967295), (2147483641, 2147483655), (2147483648, 2147483707)], [(540673, 68719476737)], [])
noncomputable def zpfwa17 (i : Nat) : zyPh := zif (Nat.beq i 0) (zpfwa17_z) (zif (Nat.beq i 1) (zpfwa17_a) (zpfwa17_b))
noncomputable def zXfwa17 (i : Nat) : List zyXp := zif (Nat.beq i 0) ([zxfwa17_zx0]) (zif (Nat.beq i 1) ([zxfwa17_ax0]) ([]))
noncomputable def zRfwa17 (i : Nat) : List zyXp := zif (Nat.beq i 0) ([]) (zif (Nat.beq i 1) ([zxfwa17_ar0]) ([zxfwa17_br0]))
noncomputable def zFfwa17 (i : Nat) : zyR := zif (Nat.beq i 0) ([]) (zif (Nat.beq i 1) ([(33, 1, 1)]) ([(33, 1, 1)]))
noncomputable def zSfwa17 (i : Nat) : Nat := zif (Nat.beq i 0) (0) (zif (Nat.beq i 1) (0) (0))
def xΦwa17 (x : Nat → Int) (E : zyEm) : Prop := xE E 33 1 ≤ 60 ∧ -7 ≤ x 0 ∧ x 0 ≤ 7
def xΨwa17 (x : Nat → Int) (E E2 : zyEm) (_ : Int) : Prop := xE E2 33 1 = xE E 33 1 + 1 ∧ (xE E 33 1 < 60 → xE E2 34 (xE E 33 1) = x 0) ∧ (∀ k, 0 ≤ k → ¬ k = xE E 33 1 → xE E2 34 k = xE E 34 k)
noncomputable def fpfwa17 : zyR := [(33, 1, 1), (34, 0, 59)]
theorem zyfwa17_run : zyrS zymc zxi107 (107, 0, 0, 0, 0) 1 zpfwa17 (fun _ _ => []) zFfwa17 zSfwa17 zXfwa17 zRfwa17 3 = true := by decide +kernel
theorem zyfwa17_ck : zyAll (fun i => xsubR (zFfwa17 i) fpfwa17 && ((zXfwa17 i).all xckX && (zRfwa17 i).all (fun x => xckX x && xrtB false x))) 3 = true := by decide +kernel
def xIfwa17 (i : Nat) (x0 : Nat → Int) (E0 : zyEm) (v : Nat → Int) (E : zyEm) : Prop := if i = 0 then (E = E0 ∧ (v 1) = x0 0) else if i = 1 then ((v 1) = x0 0 ∧ xE E 33 1 = (xE E0 33 1) ∧ (xE E0 33 1) ≤ 60 ∧ (∀ k, xE E 34 k = xE E0 34 k)) else (xE E 33 1 = (xE E0 33 1) ∧ (xE E0 33 1) < 60 ∧ xE E 34 (xE E0 33 1) = x0 0 ∧ (∀ k, 0 ≤ k → ¬ k = (xE E0 33 1) → xE E 34 k = xE E0 34 k))
def xMfwa17 (i : Nat) (x0 : Nat → Int) (E0 : zyEm) (v : Nat → Int) (E : zyEm) : Nat := if i = 0 then (3) else if i = 1 then (2) else (1)
theorem xWa17 {l : Launch} {en : zEn} {me : zMe} (hen : zG zxMeta 107 = some en) (hme : zG zMeth 107 = some me) : xFc l zymc en me 1 [33] 1 fpfwa17 false xΦwa17 xΨwa17 := by
  have een : zG zxMeta 107 = some (zxi107, 2, 2, 9, 107, 0, 0, 0, 0) := rfl
  obtain ⟨me1, hme1, hOK⟩ := zall hen
  rw [hme] at hme1
  cases hme1
  rw [een] at hen
  cases hen
  have hr := zyfwa17_run
  have hck := fun i hi => zyAll_iff zyfwa17_ck i hi
  simp only [Bool.and_eq_true] at hck
  intro B
  refine xcut (mi := zymc) (B := B) hOK rfl rfl (ι := Fin 3) (fun i => zpfwa17 i.val) (fun _ _ => []) (fun i => zFfwa17 i.val) (fun i => zSfwa17 i.val) (fun i => zXfwa17 i.val) (fun i => zRfwa17 i.val) (fun i y2 ct en2 me2 h => by cases h) 200000 (fun i => zyAll_iff hr i.val i.isLt) (fun i => (hck i.val i.isLt).1) (fun i => (hck i.val i.isLt).2.1) (fun i => (hck i.val i.isLt).2.2) ⟨0, by decide⟩ ⟨rfl, rfl, rfl, rfl⟩ ⟨by decide, by decide⟩ (fun i x0 E0 v E => xIfwa17 i.val x0 E0 v E) (fun i x0 E0 v E => xMfwa17 i.val x0 E0 v E) ?_ ?_ ?_
  · intro x0 E hx0 hT hΦ
    have hΦ : xΦwa17 x0 E := hΦ
    refine ⟨fun k p hp => ?_, ?_⟩
    · have hk : k < 2 := (List.getElem?_eq_some_iff.mp hp).1
      have hk : k = 0 ∨ k = 1 := by omega
      rcases hk with rfl | rfl
      · have hp : some (0, 4294967295) = some p := hp
        cases hp
        show ((0 : Nat) : Int) ≤ 0 + 2147483648 ∧ 0 + 2147483648 ≤ ((4294967295 : Nat) : Int)
        omega
      · have hp : some (2147483641, 2147483655) = some p := hp
        cases hp
        show ((2147483641 : Nat) : Int) ≤ x0 0 + 2147483648 ∧ x0 0 + 2147483648 ≤ ((2147483655 : Nat) : Int)
        have hx := hx0 0
        have hP := hΦ.2
        omega
    · show E = E ∧ (x0 0) = x0 0
      exact ⟨rfl, rfl⟩
  · intro x0 s Wg hRu hrx hT0 hΦ i v H hT hrv hInv hKc hFr0 hIH x hx ρ2 v2 N2 H2 locs lsB stA hAt hB hv hr2 hXs hag hfr hFr hT2
    rcases i with ⟨i, hi⟩
    have hi2 : i = 0 ∨ i = 1 ∨ i = 2 := by omega
    rcases hi2 with rfl | rfl | rfl
    · have hx : x ∈ [zxfwa17_zx0] := hx
      have hag : ∀ k, k < 2 → v2 k = v k := hag
      have hfr : xFr [] _ _ := hfr
      have ex := List.mem_singleton.mp hx
      subst ex
      obtain ⟨hF, hBd, hM⟩ := hXs
      have g1 : v2 1 = v 1 := hag 1 (by decide)
      have b0 : ((2147483641 : Nat) : Int) ≤ (v2 1) + 2147483648 ∧ (v2 1) + 2147483648 ≤ ((2147483655 : Nat) : Int) := xXb hBd 0 rfl
      have e33_1 : xE (zyEl zymc B H2) 33 1 = xE (zyEl zymc B H) 33 1 := xFr_E hfr rfl
      have e34 : ∀ i, xE (zyEl zymc B H2) 34 i = xE (zyEl zymc B H) 34 i := fun i => xFr_E hfr rfl
      have y33_1 : ((2147483648 : Nat) : Int) ≤ xE (zyEl zymc B s.heap) 33 1 + 2147483648 ∧ xE (zyEl zymc B s.heap) 33 1 + 2147483648 ≤ ((2147483709 : Nat) : Int) := xTyF hT0 33 1 1 rfl rfl rfl rfl rfl rfl
      have hI : (zyEl zymc B H) = (zyEl zymc B s.heap) ∧ (v 1) = x0 0 := hInv
      have q33_1 : xE (zyEl zymc B H) 33 1 = xE (zyEl zymc B s.heap) 33 1 := by rw [hI.1]
      have q34 : ∀ i, xE (zyEl zymc B H) 34 i = xE (zyEl zymc B s.heap) 34 i := fun i => by rw [hI.1]
      have hP := hΦ.1
      have z33_1 : ((2147483648 : Nat) : Int) ≤ xE (zyEl zymc B H2) 33 1 + 2147483648 ∧ xE (zyEl zymc B H2) 33 1 + 2147483648 ≤ ((2147483709 : Nat) : Int) := xTyF hT2 33 1 1 rfl rfl rfl rfl rfl rfl
      refine xGo hIH hAt hB hv hFr ⟨1, by decide⟩ [0, 34359738369] [0, (v2 1), xE (zyEl zymc B H2) 33 1] rfl ⟨by decide +kernel, ⟨rfl, by decide +kernel⟩, (xcs_c rfl (xcs_c rfl xcs_n)), (xe_0 (xe_c (by omega) (by omega) rfl (xe_c (by omega) (by omega) rfl xe_n))), (xkq_c hT2 33 1 (q := 1) rfl rfl rfl rfl rfl rfl rfl rfl rfl rfl rfl xkq_n)⟩ xst_n ?_ ?_
      · show ((v2 1) : Int) = x0 0 ∧ xE (zyEl zymc B H2) 33 1 = (xE (zyEl zymc B s.heap) 33 1) ∧ (xE (zyEl zymc B s.heap) 33 1) ≤ 60 ∧ (∀ k, xE (zyEl zymc B H2) 34 k = xE (zyEl zymc B s.heap) 34 k)
        exact ⟨by omega, by omega, by omega, fun k => (e34 k).trans (q34 k)⟩
      · show 2 < 3
        omega
    · have hx : x ∈ [zxfwa17_ax0] := hx
      have hag : ∀ k, k < 3 → v2 k = v k := hag
      have hfr : xFr [(33, 1, 1)] _ _ := hfr
      have ex := List.mem_singleton.mp hx
      subst ex
      obtain ⟨hF, hBd, hM⟩ := hXs
      have g1 : v2 1 = v 1 := hag 1 (by decide)
      have g2 : v2 2 = v 2 := hag 2 (by decide)
      have b0 : ((2147483641 : Nat) : Int) ≤ (v2 1) + 2147483648 ∧ (v2 1) + 2147483648 ≤ ((2147483655 : Nat) : Int) := xXb hBd 0 rfl
      have b1 : ((2147483648 : Nat) : Int) ≤ (v2 2) + 2147483648 ∧ (v2 2) + 2147483648 ≤ ((2147483707 : Nat) : Int) := xXb hBd 1 rfl
      have k0 : xE (zyEl zymc B H) 33 1 = v 2 := xKcf hKc 0 rfl rfl
      have f0 : (v2 2) < 60 := xXf hF 0 rfl
      have m0 : xE (zyEl zymc B H2) 33 1 = (v2 2) := xXm hM 0 rfl
      have e34 : ∀ i, xE (zyEl zymc B H2) 34 i = xE (zyEl zymc B H) 34 i := fun i => xFr_E hfr rfl
      have y33_1 : ((2147483648 : Nat) : Int) ≤ xE (zyEl zymc B s.heap) 33 1 + 2147483648 ∧ xE (zyEl zymc B s.heap) 33 1 + 2147483648 ≤ ((2147483709 : Nat) : Int) := xTyF hT0 33 1 1 rfl rfl rfl rfl rfl rfl
      have hI : (v 1) = x0 0 ∧ xE (zyEl zymc B H) 33 1 = (xE (zyEl zymc B s.heap) 33 1) ∧ (xE (zyEl zymc B s.heap) 33 1) ≤ 60 ∧ (∀ k, xE (zyEl zymc B H) 34 k = xE (zyEl zymc B s.heap) 34 k) := hInv
      obtain ⟨i1, i2, i3, i4⟩ := hI
      refine xSt hRu hIH hAt hB hv hFr 34 (ax := 0) 34359738369 68719476737 (v2 1) (v2 2) rfl (Or.inl ⟨rfl, rfl⟩) rfl (by decide +kernel) rfl rfl (by omega) (by show (v2 2) < ((60 : Nat) : Int); omega) (fun r hr q1 q2 => by rw [List.mem_singleton.mp hr]; exact ⟨rfl, by show ((2147483641 : Nat) : Int) ≤ (v2 1) + 2147483648; omega, by show (v2 1) + 2147483648 ≤ ((2147483655 : Nat) : Int); omega⟩) (zyin_iff.mpr ⟨(34, 0, 59), by decide, rfl, Nat.zero_le _, by show Int.toNat (v2 2) ≤ 59; omega⟩) (fun H3 hT3 hst3 hne3 hfn3 hFr3 => ?_)
      have hfe3 : ∀ (a2 : Nat) (k2 : Int), ¬ a2 = 34 → xE (zyEl zymc B H3) a2 k2 = xE (zyEl zymc B H2) a2 k2 := fun a2 k2 hne => by unfold xE; rw [hfn3 a2 k2.toNat (fun z => hne z.1)]
      have d33_1 : xE (zyEl zymc B H3) 33 1 = xE (zyEl zymc B H2) 33 1 := hfe3 33 1 (fun z => absurd z (by decide))
      have z33_1 : ((2147483648 : Nat) : Int) ≤ xE (zyEl zymc B H3) 33 1 + 2147483648 ∧ xE (zyEl zymc B H3) 33 1 + 2147483648 ≤ ((2147483709 : Nat) : Int) := xTyF hT3 33 1 1 rfl rfl rfl rfl rfl rfl
      refine ⟨⟨2, by decide⟩, [0, 34359738369], [0, (v2 1), xE (zyEl zymc B H3) 33 1], rfl, ⟨by decide +kernel, ⟨rfl, by decide +kernel⟩, (xcs_c rfl (xcs_c rfl xcs_n)), (xe_0 (xe_c (by omega) (by omega) rfl (xe_c (by omega) (by omega) rfl xe_n))), (xkq_c hT3 33 1 (q := 1) rfl rfl rfl rfl rfl rfl rfl rfl rfl rfl rfl xkq_n)⟩, rfl, ?_, ?_⟩
      · show xE (zyEl zymc B H3) 33 1 = (xE (zyEl zymc B s.heap) 33 1) ∧ (xE (zyEl zymc B s.heap) 33 1) < 60 ∧ xE (zyEl zymc B H3) 34 (xE (zyEl zymc B s.heap) 33 1) = x0 0 ∧ (∀ k, 0 ≤ k → ¬ k = (xE (zyEl zymc B s.heap) 33 1) → xE (zyEl zymc B H3) 34 k = xE (zyEl zymc B s.heap) 34 k)
        rw [show (v2 2) = xE (zyEl zymc B s.heap) 33 1 by omega] at hst3 hne3
        exact ⟨by omega, by omega, hst3.trans (by omega), fun k k0 k1 => (hne3 34 k k0 (fun z => k1 z.2)).trans ((e34 k).trans (i4 k))⟩
      · show 1 < 2
        omega
    · cases hx
  · intro x0 E0 E E2 hrx hT0 hΦ i v hT hrv hInv hKc hFr0 x hx v2 hr2 hXs hag hfr hFr hT2
    rcases i with ⟨i, hi⟩
    have hi2 : i = 0 ∨ i = 1 ∨ i = 2 := by omega
    rcases hi2 with rfl | rfl | rfl
    · cases hx
    · have hx : x ∈ [zxfwa17_ar0] := hx
      have hag : ∀ k, k < 3 → v2 k = v k := hag
      have hfr : xFr [(33, 1, 1)] _ _ := hfr
      have ex := List.mem_singleton.mp hx
      subst ex
      obtain ⟨hF, hBd, hM⟩ := hXs
      have g1 : v2 1 = v 1 := hag 1 (by decide)
      have g2 : v2 2 = v 2 := hag 2 (by decide)
      have b0 : ((2147483708 : Nat) : Int) ≤ (v2 2) + 2147483648 ∧ (v2 2) + 2147483648 ≤ ((2147483708 : Nat) : Int) := xXb hBd 0 rfl
      have k0 : xE E 33 1 = v 2 := xKcf hKc 0 rfl rfl
      have f0 : 60 ≤ (v2 2) := xXf hF 0 rfl
      have m0 : xE E2 33 1 = 61 := xXm hM 0 rfl
      have e34 : ∀ i, xE E2 34 i = xE E 34 i := fun i => xFr_E hfr rfl
      have y33_1 : ((2147483648 : Nat) : Int) ≤ xE E0 33 1 + 2147483648 ∧ xE E0 33 1 + 2147483648 ≤ ((2147483709 : Nat) : Int) := xTyF hT0 33 1 1 rfl rfl rfl rfl rfl rfl
      have hI : (v 1) = x0 0 ∧ xE E 33 1 = (xE E0 33 1) ∧ (xE E0 33 1) ≤ 60 ∧ (∀ k, xE E 34 k = xE E0 34 k) := hInv
      show xΨwa17 x0 E0 E2 0
      obtain ⟨i1, i2, i3, i4⟩ := hI
      unfold xΨwa17
      exact ⟨by omega, fun h => by omega, fun k k0 k1 => (e34 k).trans (i4 k)⟩
    · have hx : x ∈ [zxfwa17_br0] := hx
      have hag : ∀ k, k < 3 → v2 k = v k := hag
      have hfr : xFr [(33, 1, 1)] _ _ := hfr
      have ex := List.mem_singleton.mp hx
      subst ex
      obtain ⟨hF, hBd, hM⟩ := hXs
      have g1 : v2 1 = v 1 := hag 1 (by decide)
      have g2 : v2 2 = v 2 := hag 2 (by decide)
      have b0 : ((2147483648 : Nat) : Int) ≤ (v2 2) + 2147483648 ∧ (v2 2) + 2147483648 ≤ ((2147483707 : Nat) : Int) := xXb hBd 0 rfl
      have k0 : xE E 33 1 = v 2 := xKcf hKc 0 rfl rfl
      have m0 : xE E2 33 1 = (v2 2 + 1) := xXm hM 0 rfl
      have e34 : ∀ i, xE E2 34 i = xE E 34 i := fun i => xFr_E hfr rfl
      have y33_1 : ((2147483648 : Nat) : Int) ≤ xE E0 33 1 + 2147483648 ∧ xE E0 33 1 + 2147483648 ≤ ((2147483709 : Nat) : Int) := xTyF hT0 33 1 1 rfl rfl rfl rfl rfl rfl
      have hI : xE E 33 1 = (xE E0 33 1) ∧ (xE E0 33 1) < 60 ∧ xE E 34 (xE E0 33 1) = x0 0 ∧ (∀ k, 0 ≤ k → ¬ k = (xE E0 33 1) → xE E 34 k = xE E0 34 k) := hInv
      show xΨwa17 x0 E0 E2 0
      obtain ⟨i1, i2, i3, i4⟩ := hI
      unfold xΨwa17
      exact ⟨by omega, fun h => (e34 _).trans i3, fun k k0 k1 => (e34 k).trans (i4 k k0 k1)⟩
end
