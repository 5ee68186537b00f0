/-! THE CLASS reads: readSwitch, plan at place 1 -/
noncomputable def zxfrs0_ax0 : zyXp := (11, [283, 11, 13, 13, 13], [206158430201, 0, 283], [(24, 171798691841, 2, 24)], [(171798691841, 2147483648, 2147483679), (206158430201, 2147483647, 2147483678)], [])
noncomputable def zpfrs0_a : zyPh := (0, [283, 11, 13, 13, 13], [(0, 4294967295), (0, 4294967295), (0, 4294967295), (0, 4294967295), (0, 4294967295)], [], [])
noncomputable def zxfrs0_bx0 : zyXp := (27, [283, 11, 206158430209, 13, 13], [8, 0, 283], [(23, 0, 171798691841, 0), (24, 206158430209, 35, 64)], [(171798691841, 2147483649, 2147483649)], [])
noncomputable def zxfrs0_br0 : zyXp := (0, [], [0], [(22, 0, 171798691841, 0)], [(171798691841, 2147483648, 2147483648)], [])
noncomputable def zpfrs0_b : zyPh := (14, [283, 11, 13, 13, 13], [(0, 4294967295), (0, 4294967295), (0, 4294967295), (0, 4294967295), (0, 4294967295), (2147483648, 2147483649)], [], [171798691841])
noncomputable def zxfrs0_cx0 : zyXp := (43, [283, 11, 68719476737, 206158430209, 8], [], [(23, 0, 171798691841, 0), (24, 206158430209, 35, 64)], [(68719476737, 2147483648, 2147483678), (171798691841, 2147483649, 2147483649)], [])
noncomputable def zxfrs0_cr0 : zyXp := (0, [], [0], [(22, 0, 171798691841, 0)], [(171798691841, 2147483648, 2147483648)], [])
noncomputable def zpfrs0_c : zyPh := (30, [283, 11, 68719476737, 13, 13], [(0, 4294967295), (0, 4294967295), (2147483648, 2147483678), (0, 4294967295), (0, 4294967295), (2147483648, 2147483649)], [], [171798691841])
noncomputable def zxfrs0_dx0 : zyXp := (50, [283, 11, 68719476737, 103079215105, 137438953473], [283], [(21, 0, 32, 137438953473)], [(68719476737, 2147483648, 2147483678), (103079215105, 2147483648, 2147483679), (137438953473, 2147483649, 2147483652), (171798691841, 2147483647, 2147483654), (206158430209, 2147483647, 2147484548)], [(573442, 171798691841), (573443, 206158430209)])
noncomputable def zxfrs0_dr0 : zyXp := (0, [], [0], [(20, 0, 32, 137438953473), (24, 240518168577, 35, 40)], [(137438953473, 2147483653, 2147483653), (240518168577, 2147483648, 2147484548)], [(573442, 48), (573443, 240518168577)])
noncomputable def zpfrs0_d : zyPh := (43, [283, 11, 68719476737, 103079215105, 137438953473], [(0, 4294967295), (0, 4294967295), (2147483648, 2147483678), (2147483648, 2147483679), (2147483649, 2147483653), (2147483647, 2147483654), (2147483647, 2147484548)], [(573442, 171798691841), (573443, 206158430209)], [])
noncomputable def zxfrs0_ex0 : zyXp := (43, [283, 11, 68719476737, 343597383681, 137438953481], [], [(24, 240518168577, 35, 56), (23, 0, 240518168577, 40), (22, 0, 240518168577, 24), (24, 274877906945, 35, 64), (21, 0, 274877906945, 0), (21, 0, 8, 274877906945), (8, 309237645313, 274877906945, 137438953473), (7, 343597383681, 103079215105, 309237645313)], [(68719476737, 2147483648, 2147483678), (103079215105, 2147483648, 2147483679), (137438953473, 2147483649, 2147483652), (171798691841, 2147483647, 2147483654), (206158430209, 2147483647, 2147484548), (240518168577, 2147483651, 2147483651), (274877906945, 2147483648, 2147483649), (309237645313, 2147483648, 2147483664), (343597383681, 2147483648, 2147483679), (137438953481, 2147483650, 2147483653)], [(573442, 171798691841), (573443, 206158430209)])
noncomputable def zxfrs0_ex1 : zyXp := (67, [283, 11, 68719476737, 103079215105, 137438953473], [103079215105, 68719476737, 83], [(24, 240518168577, 35, 56), (22, 0, 240518168577, 40)], [(68719476737, 2147483648, 2147483678), (103079215105, 2147483648, 2147483679), (137438953473, 2147483649, 2147483652), (171798691841, 2147483647, 2147483654), (206158430209, 2147483647, 2147484548), (240518168577, 2147483653, 2147483653)], [(573442, 171798691841), (573443, 206158430209)])
noncomputable def zxfrs0_er0 : zyXp := (0, [], [0], [(24, 240518168577, 35, 56), (23, 0, 240518168577, 40), (23, 0, 240518168577, 24), (23, 0, 240518168577, 8), (24, 274877906945, 35, 40)], [(240518168577, 2147483652, 2147483652), (274877906945, 2147483648, 2147484548)], [(573442, 16), (573443, 274877906945)])
noncomputable def zxfrs0_er1 : zyXp := (0, [], [0], [(24, 240518168577, 35, 56), (23, 0, 240518168577, 40), (23, 0, 240518168577, 24), (23, 0, 240518168577, 8), (24, 274877906945, 35, 40)], [(240518168577, 2147483650, 2147483650), (274877906945, 2147483648, 2147484548)], [(573442, 16), (573443, 274877906945)])
noncomputable def zxfrs0_er2 : zyXp := (0, [], [0], [(24, 240518168577, 35, 56), (23, 0, 240518168577, 40), (23, 0, 240518168577, 24), (23, 0, 240518168577, 8), (24, 274877906945, 35, 40)], [(240518168577, 2147483648, 2147483648), (274877906945, 2147483648, 2147484548)], [(573442, 16), (573443, 274877906945)])
noncomputable def zxfrs0_er3 : zyXp := (0, [], [0], [(24, 240518168577, 35, 56), (23, 0, 240518168577, 40), (23, 0, 240518168577, 24), (22, 0, 240518168577, 8), (24, 274877906945, 35, 40)], [(240518168577, 2147483649, 2147483649), (274877906945, 2147483648, 2147484548)], [(573442, 8), (573443, 274877906945)])
noncomputable def zxfrs0_er4 : zyXp := (0, [], [0], [(24, 240518168577, 35, 56), (23, 0, 240518168577, 40), (22, 0, 240518168577, 24), (24, 274877906945, 35, 64), (20, 0, 274877906945, 0), (24, 309237645313, 35, 40)], [(240518168577, 2147483651, 2147483651), (274877906945, 0, 2147483647), (309237645313, 2147483648, 2147484548)], [(573442, 24), (573443, 309237645313)])
noncomputable def zxfrs0_er5 : zyXp := (0, [], [0], [(24, 240518168577, 35, 56), (23, 0, 240518168577, 40), (22, 0, 240518168577, 24), (24, 274877906945, 35, 64), (21, 0, 274877906945, 0), (20, 0, 8, 274877906945), (24, 309237645313, 35, 40)], [(240518168577, 2147483651, 2147483651), (274877906945, 2147483650, 4294967295), (309237645313, 2147483648, 2147484548)], [(573442, 24), (573443, 309237645313)])
noncomputable def zpfrs0_e : zyPh := (53, [283, 11, 68719476737, 103079215105, 137438953473], [(0, 4294967295), (0, 4294967295), (2147483648, 2147483678), (2147483648, 2147483679), (2147483649, 2147483652), (2147483647, 2147483654), (2147483647, 2147484548)], [(573442, 171798691841), (573443, 206158430209)], [])
noncomputable def zxfrs0_fx0 : zyXp := (75, [283, 11, 68719476737, 103079215105, 137438953473], [137438953473, 68719476737, 91], [], [(68719476737, 2147483648, 2147483678), (103079215105, 2147483648, 2147483679), (137438953473, 2147483649, 2147483652)], [])
noncomputable def zpfrs0_f : zyPh := (68, [283, 11, 68719476737, 103079215105, 137438953473], [(0, 4294967295), (0, 4294967295), (2147483648, 2147483678), (2147483648, 2147483679), (2147483649, 2147483652)], [], [])
noncomputable def zxfrs0_gr0 : zyXp := (0, [], [8], [], [], [])
noncomputable def zpfrs0_g : zyPh := (76, [283, 11, 13, 13, 13], [(0, 4294967295), (0, 4294967295), (0, 4294967295), (0, 4294967295), (0, 4294967295)], [], [])
noncomputable def zpfrs0 (i : Nat) : zyPh := zif (Nat.beq i 0) (zpfrs0_a) (zif (Nat.beq i 1) (zpfrs0_b) (zif (Nat.beq i 2) (zpfrs0_c) (zif (Nat.beq i 3) (zpfrs0_d) (zif (Nat.beq i 4) (zpfrs0_e) (zif (Nat.beq i 5) (zpfrs0_f) (zpfrs0_g))))))
noncomputable def zXfrs0 (i : Nat) : List zyXp := zif (Nat.beq i 0) ([zxfrs0_ax0]) (zif (Nat.beq i 1) ([zxfrs0_bx0]) (zif (Nat.beq i 2) ([zxfrs0_cx0]) (zif (Nat.beq i 3) ([zxfrs0_dx0]) (zif (Nat.beq i 4) ([zxfrs0_ex0, zxfrs0_ex1]) (zif (Nat.beq i 5) ([zxfrs0_fx0]) ([]))))))
noncomputable def zRfrs0 (i : Nat) : List zyXp := zif (Nat.beq i 0) ([]) (zif (Nat.beq i 1) ([zxfrs0_br0]) (zif (Nat.beq i 2) ([zxfrs0_cr0]) (zif (Nat.beq i 3) ([zxfrs0_dr0]) (zif (Nat.beq i 4) ([zxfrs0_er0, zxfrs0_er1, zxfrs0_er2, zxfrs0_er3, zxfrs0_er4, zxfrs0_er5]) (zif (Nat.beq i 5) ([]) ([zxfrs0_gr0]))))))
noncomputable def zFfrs0 (i : Nat) : zyR := zif (Nat.beq i 0) ([]) (zif (Nat.beq i 1) ([]) (zif (Nat.beq i 2) ([]) (zif (Nat.beq i 3) ([(35, 2, 3)]) (zif (Nat.beq i 4) ([(35, 2, 3)]) (zif (Nat.beq i 5) ([]) ([]))))))
noncomputable def zSfrs0 (i : Nat) : Nat := zif (Nat.beq i 0) (0) (zif (Nat.beq i 1) (0) (zif (Nat.beq i 2) (0) (zif (Nat.beq i 3) (0) (zif (Nat.beq i 4) (0) (zif (Nat.beq i 5) (0) (0))))))
theorem xAb0_sw {E E2 : zyEm} {S : Int → Int} {g b l : Int} (h : xAb0 E S) (hg : 0 ≤ g ∧ g < 31) (hf : xFr [(35, 2, 3), (35, 5, 8), (10, 0, 30), (11, 0, 30)] E E2) (h1 : xE E2 10 g = b) (h2 : ∀ k, 0 ≤ k → ¬ k = g → xE E2 10 k = xE E 10 k) (h3 : xE E2 11 g = l) (h4 : ∀ k, 0 ≤ k → ¬ k = g → xE E2 11 k = xE E 11 k) : xAb0 E2 (uS (uS S (8 + g) b) (40 + g) l) := by
  obtain ⟨a0, a1, a2, a3, a4, a5, a6⟩ := h
  have u : ∀ j, ¬ j = 8 + g → ¬ j = 40 + g → uS (uS S (8 + g) b) (40 + g) l j = S j := fun j h1 h2 => (uS_n h2).trans (uS_n h1)
  have u0 := u 0 (by omega) (by omega)
  have u1 := u 1 (by omega) (by omega)
  have u2 := u 2 (by omega) (by omega)
  have u5 := u 5 (by omega) (by omega)
  refine ⟨by rw [u0, u1, u2, u5]; exact a0, ?_, ?_, ?_, ?_, ?_, ?_⟩
  · rw [u0, u1, xFr_E hf rfl, xFr_E hf rfl, xFr_E hf rfl, xFr_E hf rfl]
    exact a1
  · intro s s0 s1
    rw [u0, u1] at s1 ⊢
    rw [xFr_E hf rfl]
    exact a2 s s0 s1
  · rw [u2, xFr_E hf rfl]
    refine ⟨a3.1, fun k k0 k1 => ?_⟩
    rw [u (136 + k) (by omega) (by omega), u (152 + k) (by omega) (by omega), xFr_E hf rfl, xFr_E hf rfl]
    exact a3.2 k k0 k1
  · intro k k0 k1
    have w := a4 k k0 k1
    rw [u (72 + k) (by omega) (by omega), u (104 + k) (by omega) (by omega), xFr_E (a := 12) (i := k) hf rfl, xFr_E (a := 13) (i := k) hf rfl]
    by_cases e : k = g
    · subst e
      refine ⟨?_, ?_, w.2.2.1, w.2.2.2⟩
      · rw [uS_n (by omega), uS_e rfl, h1]
      · rw [uS_e rfl, h3]
    · refine ⟨?_, ?_, w.2.2.1, w.2.2.2⟩
      · rw [u (8 + k) (by omega) (by omega), h2 k k0 e]
        exact w.1
      · rw [u (40 + k) (by omega) (by omega), h4 k k0 e]
        exact w.2.1
  · rw [u5, xFr_E hf rfl, xFr_E hf rfl]
    exact a5
  · intro k k0 k1
    rw [u5] at k1
    rw [u (460 + k) (by omega) (by omega), xFr_E hf rfl]
    exact a6 k k0 k1
def xΨfrs0 (_ : Nat → Int) (E E2 : zyEm) (r : Int) : Prop := ∀ S, xAb0 E S → xOut0 (pBind (pSwitch (xE E 36) (xE E 35 4) (xE E 35 6) S) (pSem (xE E 36) (xE E 35 4))) E2 r

def xΨfrs0S (x : Nat → Int) (E E2 : zyEm) (r : Int) : Prop := xΨfrs0 x E E2 r ∧ (¬ r = 0 → (xE E2 35 2 = xE E 35 2 ∧ xE E2 35 3 = xE E 35 3))
noncomputable def fpfrs0 : zyR := [(35, 2, 3), (35, 5, 8), (10, 0, 30), (11, 0, 30)]
theorem zyfrs0_run : zyrS zymc zxi62 (62, 0, 0, 2, 0) 4 zpfrs0 (fun _ _ => []) zFfrs0 zSfrs0 zXfrs0 zRfrs0 7 = true := by decide +kernel
theorem zyfrs0_ck : zyAll (fun i => xsubR (zFfrs0 i) fpfrs0 && ((zXfrs0 i).all xckX && (zRfrs0 i).all (fun x => xckX x && xrtB true x))) 7 = true := by decide +kernel
def xIfrs0 (i : Nat) (x0 : Nat → Int) (E0 : zyEm) (v : Nat → Int) (E : zyEm) : Prop := if i = 0 then ((E = E0) ∧ (xE E 35 2 = xE E0 35 2 ∧ xE E 35 3 = xE E0 35 3)) else if i = 1 then ((xTN (xE E0 36) (xE E0 35 4) (xE E0 35 6) 0 (xE E0 2 3 - 1) E (v 5) ∧ (∀ k, xE E 10 k = xE E0 10 k) ∧ (∀ k, xE E 11 k = xE E0 11 k)) ∧ (¬ (v 5) = 0 → (xE E 35 2 = xE E0 35 2 ∧ xE E 35 3 = xE E0 35 3))) else if i = 2 then (((0 ≤ (v 2) ∧ (v 2) < xE E0 2 3) ∧ ∃ p1, p1 ≤ (xE E0 35 4) ∧ (∀ S, xAb0 E0 S → pSwitch (xE E0 36) (xE E0 35 4) (xE E0 35 6) S = pNum (xE E0 36) (xE E0 35 4) p1 0 1 (fun b p2 => pBits (xE E0 36) (xE E0 35 4) S (v 2) 3 p2 1 b)) ∧ xTN (xE E0 36) (xE E0 35 4) p1 0 1 E (v 5) ∧ (∀ k, xE E 10 k = xE E0 10 k) ∧ (∀ k, xE E 11 k = xE E0 11 k)) ∧ (¬ (v 5) = 0 → (xE E 35 2 = xE E0 35 2 ∧ xE E 35 3 = xE E0 35 3))) else if i = 3 then (((0 ≤ (v 2) ∧ (v 2) < xE E0 2 3) ∧ xE E 35 6 ≤ (xE E0 35 4) ∧ ((∀ k, xE E 10 k = xE E0 10 k) ∧ (∀ k, xE E 11 k = xE E0 11 k)) ∧ ((1 ≤ (v 4) ∧ (v 4) ≤ 4 ∧ ∀ S, xAb0 E0 S → pSwitch (xE E0 36) (xE E0 35 4) (xE E0 35 6) S = pBits (xE E0 36) (xE E0 35 4) S (v 2) (4 - (v 4)).toNat (xE E 35 6) (v 4) (v 3)) ∨ ((v 4) = 5 ∧ ∀ S, xAb0 E0 S → pSwitch (xE E0 36) (xE E0 35 4) (xE E0 35 6) S = .error (6, xE E 35 5)))) ∧ (xE E 35 2 = xE E0 35 2 ∧ xE E 35 3 = xE E0 35 3)) else if i = 4 then (((0 ≤ (v 2) ∧ (v 2) < xE E0 2 3) ∧ (1 ≤ (v 4) ∧ (v 4) ≤ 4) ∧ ∃ p1, p1 ≤ (xE E0 35 4) ∧ (∀ S, xAb0 E0 S → pSwitch (xE E0 36) (xE E0 35 4) (xE E0 35 6) S = pBits (xE E0 36) (xE E0 35 4) S (v 2) (4 - (v 4)).toNat p1 (v 4) (v 3)) ∧ xAD (xE E0 36) (xE E0 35 4) p1 E ∧ (∀ k, xE E 10 k = xE E0 10 k) ∧ (∀ k, xE E 11 k = xE E0 11 k)) ∧ (xE E 35 2 = xE E0 35 2 ∧ xE E 35 3 = xE E0 35 3)) else if i = 5 then (((0 ≤ (v 2) ∧ (v 2) < xE E0 2 3) ∧ (∀ S, xAb0 E0 S → pBind (pSwitch (xE E0 36) (xE E0 35 4) (xE E0 35 6) S) (pSem (xE E0 36) (xE E0 35 4)) = .ok (xE E 35 6, uS (uS S (8 + (v 2)) (v 3)) (40 + (v 2)) (v 4))) ∧ xE E 10 (v 2) = (v 3) ∧ (∀ k, 0 ≤ k → ¬ k = (v 2) → xE E 10 k = xE E0 10 k) ∧ ∀ k, xE E 11 k = xE E0 11 k) ∧ (xE E 35 2 = xE E0 35 2 ∧ xE E 35 3 = xE E0 35 3)) else ((∃ g b l, (0 ≤ g ∧ g < xE E0 2 3) ∧ (∀ S, xAb0 E0 S → pBind (pSwitch (xE E0 36) (xE E0 35 4) (xE E0 35 6) S) (pSem (xE E0 36) (xE E0 35 4)) = .ok (xE E 35 6, uS (uS S (8 + g) b) (40 + g) l)) ∧ xE E 10 g = b ∧ (∀ k, 0 ≤ k → ¬ k = g → xE E 10 k = xE E0 10 k) ∧ xE E 11 g = l ∧ (∀ k, 0 ≤ k → ¬ k = g → xE E 11 k = xE E0 11 k)) ∧ (xE E 35 2 = xE E0 35 2 ∧ xE E 35 3 = xE E0 35 3))
def xMfrs0 (i : Nat) (x0 : Nat → Int) (E0 : zyEm) (v : Nat → Int) (E : zyEm) : Nat := if i = 0 then (100) else if i = 1 then (99) else if i = 2 then (98) else if i = 3 then (50 + 2 * (10 - (v 4)).toNat) else if i = 4 then (49 + 2 * (10 - (v 4)).toNat) else if i = 5 then (2) else (1)
theorem xRs0 {l : Launch} {en : zEn} {me : zMe} (hen : zG zxMeta 62 = some en) (hme : zG zMeth 62 = some me) : xFc l zymc en me 4 [35, 1] 0 fpfrs0 true xΦrd0 xΨfrs0S := by
  have een : zG zxMeta 62 = some (zxi62, 2, 5, 5, 62, 0, 0, 2, 0) := rfl
  obtain ⟨me1, hme1, hOK⟩ := zall hen
  rw [hme] at hme1
  cases hme1
  rw [een] at hen
  cases hen
  have hr := zyfrs0_run
  have hck := fun i hi => zyAll_iff zyfrs0_ck i hi
  simp only [Bool.and_eq_true] at hck
  obtain ⟨meftn, hmeftn, -⟩ := zall (show zG zxMeta 69 = some (zxi69, 3, 3, 5, 69, 0, 0, 2, 0) from rfl)
  have hftn := xTn (l := l) (show zG zxMeta 69 = some (zxi69, 3, 3, 5, 69, 0, 0, 2, 0) from rfl) hmeftn
  obtain ⟨mefad, hmefad, -⟩ := zall (show zG zxMeta 73 = some (zxi73, 1, 1, 5, 73, 0, 0, 0, 0) from rfl)
  have hfad := xAd (l := l) (show zG zxMeta 73 = some (zxi73, 1, 1, 5, 73, 0, 0, 0, 0) from rfl) hmefad
  intro B
  refine xcut (mi := zymc) (B := B) hOK rfl rfl (ι := Fin 7) (fun i => zpfrs0 i.val) (fun _ _ => []) (fun i => zFfrs0 i.val) (fun i => zSfrs0 i.val) (fun i => zXfrs0 i.val) (fun i => zRfrs0 i.val) (fun i y2 ct en2 me2 h => by cases h) 200000 (fun i => zyAll_iff hr i.val i.isLt) (fun i => (hck i.val i.isLt).1) (fun i => (hck i.val i.isLt).2.1) (fun i => (hck i.val i.isLt).2.2) ⟨0, by decide⟩ ⟨rfl, rfl, rfl, rfl⟩ ⟨by decide, by decide⟩ (fun i x0 E0 v E => xIfrs0 i.val x0 E0 v E) (fun i x0 E0 v E => xMfrs0 i.val x0 E0 v E) ?_ ?_ ?_
  · intro x0 E hx0 hT hΦ
    have hΦ : xΦrd0 x0 E := hΦ
    refine ⟨fun k p hp => ?_, ?_⟩
    · have hk : k < 5 := (List.getElem?_eq_some_iff.mp hp).1
      have hk : k = 0 ∨ k = 1 ∨ k = 2 ∨ k = 3 ∨ k = 4 := by omega
      rcases hk with rfl | rfl | rfl | rfl | rfl
      · have hp : some (0, 4294967295) = some p := hp
        cases hp
        show ((0 : Nat) : Int) ≤ 0 + 2147483648 ∧ 0 + 2147483648 ≤ ((4294967295 : Nat) : Int)
        omega
      · have hp : some (0, 4294967295) = some p := hp
        cases hp
        show ((0 : Nat) : Int) ≤ 0 + 2147483648 ∧ 0 + 2147483648 ≤ ((4294967295 : Nat) : Int)
        omega
      · have hp : some (0, 4294967295) = some p := hp
        cases hp
        show ((0 : Nat) : Int) ≤ x0 0 + 2147483648 ∧ x0 0 + 2147483648 ≤ ((4294967295 : Nat) : Int)
        have hx := hx0 0
        omega
      · have hp : some (0, 4294967295) = some p := hp
        cases hp
        show ((0 : Nat) : Int) ≤ x0 1 + 2147483648 ∧ x0 1 + 2147483648 ≤ ((4294967295 : Nat) : Int)
        have hx := hx0 1
        omega
      · have hp : some (0, 4294967295) = some p := hp
        cases hp
        show ((0 : Nat) : Int) ≤ x0 2 + 2147483648 ∧ x0 2 + 2147483648 ≤ ((4294967295 : Nat) : Int)
        have hx := hx0 2
        omega
    · show (E = E) ∧ (xE E 35 2 = xE E 35 2 ∧ xE E 35 3 = xE E 35 3)
      refine ⟨?_, ⟨rfl, rfl⟩⟩
      rfl
  · intro x0 s Wg hRu hrx hT0 hΦ i v H hT hrv hInv hKc hFr0 hIH x hx ρ2 v2 N2 H2 locs lsB stA hAt hB hv hr2 hXs hag hfr hFr hT2
    rcases i with ⟨i, hi⟩
    have hi2 : i = 0 ∨ i = 1 ∨ i = 2 ∨ i = 3 ∨ i = 4 ∨ i = 5 ∨ i = 6 := by omega
    rcases hi2 with rfl | rfl | rfl | rfl | rfl | rfl | rfl
    · have hx : x ∈ [zxfrs0_ax0] := hx
      have hag : ∀ k, k < 5 → v2 k = v k := hag
      have hfr : xFr [] _ _ := hfr
      have ex := List.mem_singleton.mp hx
      subst ex
      obtain ⟨hF, hBd, hM⟩ := hXs
      have b0 : ((2147483648 : Nat) : Int) ≤ (v2 5) + 2147483648 ∧ (v2 5) + 2147483648 ≤ ((2147483679 : Nat) : Int) := xXb hBd 0 rfl
      have b1 : ((2147483647 : Nat) : Int) ≤ (v2 5 + (-1)) + 2147483648 ∧ (v2 5 + (-1)) + 2147483648 ≤ ((2147483678 : Nat) : Int) := xXb hBd 1 rfl
      have f0 : (0 : Int) ≤ 3 ∧ xE (zyEl zymc B H) 2 3 = (v2 5) := xXf hF 0 rfl
      have e35_4 : xE (zyEl zymc B H2) 35 4 = xE (zyEl zymc B H) 35 4 := xFr_E hfr rfl
      have q35_4 : xE (zyEl zymc B H) 35 4 = xE (zyEl zymc B s.heap) 35 4 := xFr_E hFr0 rfl
      have e35_5 : xE (zyEl zymc B H2) 35 5 = xE (zyEl zymc B H) 35 5 := xFr_E hfr rfl
      have e35_6 : xE (zyEl zymc B H2) 35 6 = xE (zyEl zymc B H) 35 6 := xFr_E hfr rfl
      have e35_7 : xE (zyEl zymc B H2) 35 7 = xE (zyEl zymc B H) 35 7 := xFr_E hfr rfl
      have e35_8 : xE (zyEl zymc B H2) 35 8 = xE (zyEl zymc B H) 35 8 := xFr_E hfr rfl
      have e35_2 : xE (zyEl zymc B H2) 35 2 = xE (zyEl zymc B H) 35 2 := xFr_E hfr rfl
      have e35_3 : xE (zyEl zymc B H2) 35 3 = xE (zyEl zymc B H) 35 3 := xFr_E hfr rfl
      have e2_3 : xE (zyEl zymc B H2) 2 3 = xE (zyEl zymc B H) 2 3 := xFr_E hfr rfl
      have q2_3 : xE (zyEl zymc B H) 2 3 = xE (zyEl zymc B s.heap) 2 3 := xFr_E hFr0 rfl
      have e36 : ∀ i, xE (zyEl zymc B H2) 36 i = xE (zyEl zymc B H) 36 i := fun i => xFr_E hfr rfl
      have q36 : ∀ i, xE (zyEl zymc B H) 36 i = xE (zyEl zymc B s.heap) 36 i := fun i => xFr_E hFr0 rfl
      have e10 : ∀ i, xE (zyEl zymc B H2) 10 i = xE (zyEl zymc B H) 10 i := fun i => xFr_E hfr rfl
      have e11 : ∀ i, xE (zyEl zymc B H2) 11 i = xE (zyEl zymc B H) 11 i := fun i => xFr_E hfr rfl
      have y2_3 : ((2147483648 : Nat) : Int) ≤ xE (zyEl zymc B s.heap) 2 3 + 2147483648 ∧ xE (zyEl zymc B s.heap) 2 3 + 2147483648 ≤ ((2147483679 : Nat) : Int) := xTyF hT0 2 3 3 rfl rfl rfl rfl rfl rfl
      have hI : ((zyEl zymc B H) = (zyEl zymc B s.heap)) ∧ (xE (zyEl zymc B H) 35 2 = xE (zyEl zymc B s.heap) 35 2 ∧ xE (zyEl zymc B H) 35 3 = xE (zyEl zymc B s.heap) 35 3) := hInv
      obtain ⟨hI, hSm⟩ := hI
      have q35_5 : xE (zyEl zymc B H) 35 5 = xE (zyEl zymc B s.heap) 35 5 := by rw [hI]
      have q35_6 : xE (zyEl zymc B H) 35 6 = xE (zyEl zymc B s.heap) 35 6 := by rw [hI]
      have q35_7 : xE (zyEl zymc B H) 35 7 = xE (zyEl zymc B s.heap) 35 7 := by rw [hI]
      have q35_8 : xE (zyEl zymc B H) 35 8 = xE (zyEl zymc B s.heap) 35 8 := by rw [hI]
      have q35_2 : xE (zyEl zymc B H) 35 2 = xE (zyEl zymc B s.heap) 35 2 := by rw [hI]
      have q35_3 : xE (zyEl zymc B H) 35 3 = xE (zyEl zymc B s.heap) 35 3 := by rw [hI]
      have q10 : ∀ i, xE (zyEl zymc B H) 10 i = xE (zyEl zymc B s.heap) 10 i := fun i => by rw [hI]
      have q11 : ∀ i, xE (zyEl zymc B H) 11 i = xE (zyEl zymc B s.heap) 11 i := fun i => by rw [hI]
      have tt : xE (zyEl zymc B H2) 36 = xE (zyEl zymc B s.heap) 36 := funext fun i => (e36 i).trans (q36 i)
      have tn : xE (zyEl zymc B H2) 35 4 = xE (zyEl zymc B s.heap) 35 4 := by omega
      refine xCa hRu hIH hAt hB hv hFr (hftn B) (ix := 60) (ax := 1104) rfl rfl rfl hmeftn ⟨_, rfl, rfl, by decide⟩ ⟨rfl, rfl, rfl⟩ (by decide) [0, 206158430201] [] [0, (v2 5 + (-1))] rfl ⟨rfl, rfl⟩ (by decide +kernel) (xcs_c rfl (xcs_c rfl xcs_n)) (by decide +kernel) ?_ (fun H3 r hT3 hf3 hFr3 hr3 hΨ3 => ?_)
      · show xΦad (xfv [0, (v2 5 + (-1))]) (zyEl zymc B H2)
        have hP := hΦ.1
        unfold xΦad
        omega
      · have hΨ3 : xΨftnS (xfv [0, (v2 5 + (-1))]) (zyEl zymc B H2) (zyEl zymc B H3) r := hΨ3
        obtain ⟨hΨ3, hS3⟩ := hΨ3
        have hΨ3 : xΨtn (xfv [0, (v2 5 + (-1))]) (zyEl zymc B H2) (zyEl zymc B H3) r := hΨ3
        have hS3 : (¬ (r) = 0 → (xE (zyEl zymc B H3) 35 2 = xE (zyEl zymc B H2) 35 2 ∧ xE (zyEl zymc B H3) 35 3 = xE (zyEl zymc B H2) 35 3)) := hS3
        have d35_4 : xE (zyEl zymc B H3) 35 4 = xE (zyEl zymc B H2) 35 4 := xFr_E hf3 rfl
        have d2_3 : xE (zyEl zymc B H3) 2 3 = xE (zyEl zymc B H2) 2 3 := xFr_E hf3 rfl
        have d36 : ∀ i, xE (zyEl zymc B H3) 36 i = xE (zyEl zymc B H2) 36 i := fun i => xFr_E hf3 rfl
        have d10 : ∀ i, xE (zyEl zymc B H3) 10 i = xE (zyEl zymc B H2) 10 i := fun i => xFr_E hf3 rfl
        have d11 : ∀ i, xE (zyEl zymc B H3) 11 i = xE (zyEl zymc B H2) 11 i := fun i => xFr_E hf3 rfl
        unfold xΨtn at hΨ3
        rw [tt, tn, show xE (zyEl zymc B H2) 35 6 = xE (zyEl zymc B s.heap) 35 6 by omega, show xfv [0, (v2 5 + (-1))] 1 = xE (zyEl zymc B s.heap) 2 3 - 1 by show (v2 5 + (-1)) = _; omega] at hΨ3
        have hr01 := xtn_r hΨ3
        refine ⟨⟨1, by decide⟩, [0, 0, 0, 0, 0], [0, 0, 0, 0, 0, r], rfl, ⟨by decide +kernel, ⟨rfl, by decide +kernel⟩, (xcs_c rfl (xcs_c rfl (xcs_c rfl (xcs_c rfl (xcs_c rfl xcs_n))))), (xe_0 (xe_0 (xe_0 (xe_0 (xe_0 (xe_c (by omega) (by omega) rfl xe_n)))))), xkq_n⟩, (by rw [if_pos rfl]; exact ⟨5, [], rfl, by decide, rfl, xst_n⟩), ?_, ?_⟩
        · show (xTN (xE (zyEl zymc B s.heap) 36) (xE (zyEl zymc B s.heap) 35 4) (xE (zyEl zymc B s.heap) 35 6) 0 (xE (zyEl zymc B s.heap) 2 3 - 1) (zyEl zymc B H3) (r : Int) ∧ (∀ k, xE (zyEl zymc B H3) 10 k = xE (zyEl zymc B s.heap) 10 k) ∧ (∀ k, xE (zyEl zymc B H3) 11 k = xE (zyEl zymc B s.heap) 11 k)) ∧ (¬ (r : Int) = 0 → (xE (zyEl zymc B H3) 35 2 = xE (zyEl zymc B s.heap) 35 2 ∧ xE (zyEl zymc B H3) 35 3 = xE (zyEl zymc B s.heap) 35 3))
          refine ⟨?_, ?_⟩
          · skip
            exact ⟨hΨ3, ⟨fun k => by rw [d10 k, e10 k, q10 k], fun k => by rw [d11 k, e11 k, q11 k]⟩⟩
          · omega
        · show 99 < 100
          omega
    · have hx : x ∈ [zxfrs0_bx0] := hx
      have hag : ∀ k, k < 6 → v2 k = v k := hag
      have hfr : xFr [] _ _ := hfr
      have ex := List.mem_singleton.mp hx
      subst ex
      obtain ⟨hF, hBd, hM⟩ := hXs
      have r6 := hr2 6
      have g5 : v2 5 = v 5 := hag 5 (by decide)
      have b0 : ((2147483649 : Nat) : Int) ≤ (v2 5) + 2147483648 ∧ (v2 5) + 2147483648 ≤ ((2147483649 : Nat) : Int) := xXb hBd 0 rfl
      have f0 : ¬ (v2 5) = 0 := xXf hF 0 rfl
      have f1 : (0 : Int) ≤ 8 ∧ xE (zyEl zymc B H) 35 8 = (v2 6) := xXf hF 1 rfl
      have e35_4 : xE (zyEl zymc B H2) 35 4 = xE (zyEl zymc B H) 35 4 := xFr_E hfr rfl
      have q35_4 : xE (zyEl zymc B H) 35 4 = xE (zyEl zymc B s.heap) 35 4 := xFr_E hFr0 rfl
      have e35_5 : xE (zyEl zymc B H2) 35 5 = xE (zyEl zymc B H) 35 5 := xFr_E hfr rfl
      have e35_6 : xE (zyEl zymc B H2) 35 6 = xE (zyEl zymc B H) 35 6 := xFr_E hfr rfl
      have e35_7 : xE (zyEl zymc B H2) 35 7 = xE (zyEl zymc B H) 35 7 := xFr_E hfr rfl
      have e35_8 : xE (zyEl zymc B H2) 35 8 = xE (zyEl zymc B H) 35 8 := xFr_E hfr rfl
      have e35_2 : xE (zyEl zymc B H2) 35 2 = xE (zyEl zymc B H) 35 2 := xFr_E hfr rfl
      have e35_3 : xE (zyEl zymc B H2) 35 3 = xE (zyEl zymc B H) 35 3 := xFr_E hfr rfl
      have e2_3 : xE (zyEl zymc B H2) 2 3 = xE (zyEl zymc B H) 2 3 := xFr_E hfr rfl
      have q2_3 : xE (zyEl zymc B H) 2 3 = xE (zyEl zymc B s.heap) 2 3 := xFr_E hFr0 rfl
      have e36 : ∀ i, xE (zyEl zymc B H2) 36 i = xE (zyEl zymc B H) 36 i := fun i => xFr_E hfr rfl
      have q36 : ∀ i, xE (zyEl zymc B H) 36 i = xE (zyEl zymc B s.heap) 36 i := fun i => xFr_E hFr0 rfl
      have e10 : ∀ i, xE (zyEl zymc B H2) 10 i = xE (zyEl zymc B H) 10 i := fun i => xFr_E hfr rfl
      have e11 : ∀ i, xE (zyEl zymc B H2) 11 i = xE (zyEl zymc B H) 11 i := fun i => xFr_E hfr rfl
      have y2_3 : ((2147483648 : Nat) : Int) ≤ xE (zyEl zymc B s.heap) 2 3 + 2147483648 ∧ xE (zyEl zymc B s.heap) 2 3 + 2147483648 ≤ ((2147483679 : Nat) : Int) := xTyF hT0 2 3 3 rfl rfl rfl rfl rfl rfl
      have hI : (xTN (xE (zyEl zymc B s.heap) 36) (xE (zyEl zymc B s.heap) 35 4) (xE (zyEl zymc B s.heap) 35 6) 0 (xE (zyEl zymc B s.heap) 2 3 - 1) (zyEl zymc B H) (v 5) ∧ (∀ k, xE (zyEl zymc B H) 10 k = xE (zyEl zymc B s.heap) 10 k) ∧ (∀ k, xE (zyEl zymc B H) 11 k = xE (zyEl zymc B s.heap) 11 k)) ∧ (¬ (v 5) = 0 → (xE (zyEl zymc B H) 35 2 = xE (zyEl zymc B s.heap) 35 2 ∧ xE (zyEl zymc B H) 35 3 = xE (zyEl zymc B s.heap) 35 3)) := hInv
      obtain ⟨hI, hSm⟩ := hI
      obtain ⟨i1, j0, j1⟩ := hI
      have tt : xE (zyEl zymc B H2) 36 = xE (zyEl zymc B s.heap) 36 := funext fun i => (e36 i).trans (q36 i)
      have tn : xE (zyEl zymc B H2) 35 4 = xE (zyEl zymc B s.heap) 35 4 := by omega
      obtain ⟨c1, c2, c3, c4, c5, c6, c7⟩ := xtn_1 i1 (by omega)
      have hPos := hΦ.1
      have hb := tNx_b (T := xE (zyEl zymc B s.heap) 36) (n := xE (zyEl zymc B s.heap) 35 4) (p := xE (zyEl zymc B s.heap) 35 6) hPos
      refine xCa hRu hIH hAt hB hv hFr (hftn B) (ix := 60) (ax := 1104) rfl rfl rfl hmeftn ⟨_, rfl, rfl, by decide⟩ ⟨rfl, rfl, rfl⟩ (by decide) [0, 8] [] [0, 1] rfl ⟨rfl, rfl⟩ (by decide +kernel) (xcs_c rfl (xcs_c rfl xcs_n)) (by decide +kernel) ?_ (fun H3 r hT3 hf3 hFr3 hr3 hΨ3 => ?_)
      · show xΦad (xfv [0, 1]) (zyEl zymc B H2)
        unfold xΦad
        omega
      · have hΨ3 : xΨftnS (xfv [0, 1]) (zyEl zymc B H2) (zyEl zymc B H3) r := hΨ3
        obtain ⟨hΨ3, hS3⟩ := hΨ3
        have hΨ3 : xΨtn (xfv [0, 1]) (zyEl zymc B H2) (zyEl zymc B H3) r := hΨ3
        have hS3 : (¬ (r) = 0 → (xE (zyEl zymc B H3) 35 2 = xE (zyEl zymc B H2) 35 2 ∧ xE (zyEl zymc B H3) 35 3 = xE (zyEl zymc B H2) 35 3)) := hS3
        have d35_4 : xE (zyEl zymc B H3) 35 4 = xE (zyEl zymc B H2) 35 4 := xFr_E hf3 rfl
        have d2_3 : xE (zyEl zymc B H3) 2 3 = xE (zyEl zymc B H2) 2 3 := xFr_E hf3 rfl
        have d36 : ∀ i, xE (zyEl zymc B H3) 36 i = xE (zyEl zymc B H2) 36 i := fun i => xFr_E hf3 rfl
        have d10 : ∀ i, xE (zyEl zymc B H3) 10 i = xE (zyEl zymc B H2) 10 i := fun i => xFr_E hf3 rfl
        have d11 : ∀ i, xE (zyEl zymc B H3) 11 i = xE (zyEl zymc B H2) 11 i := fun i => xFr_E hf3 rfl
        unfold xΨtn at hΨ3
        rw [tt, tn] at hΨ3
        have hr01 := xtn_r hΨ3
        refine ⟨⟨2, by decide⟩, [0, 0, 206158430209, 0, 0], [0, 0, (v2 6), 0, 0, r], rfl, ⟨by decide +kernel, ⟨rfl, by decide +kernel⟩, (xcs_c rfl (xcs_c rfl (xcs_c rfl (xcs_c rfl (xcs_c rfl xcs_n))))), (xe_0 (xe_0 (xe_c (by omega) (by omega) rfl (xe_0 (xe_0 (xe_c (by omega) (by omega) rfl xe_n)))))), xkq_n⟩, (by rw [if_pos rfl]; exact ⟨5, [], rfl, by decide, rfl, xst_n⟩), ?_, ?_⟩
        · show ((0 ≤ ((v2 6) : Int) ∧ ((v2 6) : Int) < xE (zyEl zymc B s.heap) 2 3) ∧ ∃ p1, p1 ≤ (xE (zyEl zymc B s.heap) 35 4) ∧ (∀ S, xAb0 (zyEl zymc B s.heap) S → pSwitch (xE (zyEl zymc B s.heap) 36) (xE (zyEl zymc B s.heap) 35 4) (xE (zyEl zymc B s.heap) 35 6) S = pNum (xE (zyEl zymc B s.heap) 36) (xE (zyEl zymc B s.heap) 35 4) p1 0 1 (fun b p2 => pBits (xE (zyEl zymc B s.heap) 36) (xE (zyEl zymc B s.heap) 35 4) S ((v2 6) : Int) 3 p2 1 b)) ∧ xTN (xE (zyEl zymc B s.heap) 36) (xE (zyEl zymc B s.heap) 35 4) p1 0 1 (zyEl zymc B H3) (r : Int) ∧ (∀ k, xE (zyEl zymc B H3) 10 k = xE (zyEl zymc B s.heap) 10 k) ∧ (∀ k, xE (zyEl zymc B H3) 11 k = xE (zyEl zymc B s.heap) 11 k)) ∧ (¬ (r : Int) = 0 → (xE (zyEl zymc B H3) 35 2 = xE (zyEl zymc B s.heap) 35 2 ∧ xE (zyEl zymc B H3) 35 3 = xE (zyEl zymc B s.heap) 35 3))
          refine ⟨?_, ?_⟩
          · skip
            refine ⟨by omega, xE (zyEl zymc B H2) 35 6, by omega, fun S hS => ?_, hΨ3, fun k => by rw [d10 k, e10 k, j0 k], fun k => by rw [d11 k, e11 k, j1 k]⟩
            unfold pSwitch
            rw [← hS.2.1.2.2.2, c7, show xE (zyEl zymc B H2) 35 6 = xE (zyEl zymc B H) 35 6 by omega, show xE (zyEl zymc B H) 35 8 = (v2 6) by omega]
          · omega
        · show 98 < 99
          omega
    · have hx : x ∈ [zxfrs0_cx0] := hx
      have hag : ∀ k, k < 6 → v2 k = v k := hag
      have hfr : xFr [] _ _ := hfr
      have ex := List.mem_singleton.mp hx
      subst ex
      obtain ⟨hF, hBd, hM⟩ := hXs
      have r6 := hr2 6
      have g2 : v2 2 = v 2 := hag 2 (by decide)
      have g5 : v2 5 = v 5 := hag 5 (by decide)
      have b0 : ((2147483648 : Nat) : Int) ≤ (v2 2) + 2147483648 ∧ (v2 2) + 2147483648 ≤ ((2147483678 : Nat) : Int) := xXb hBd 0 rfl
      have b1 : ((2147483649 : Nat) : Int) ≤ (v2 5) + 2147483648 ∧ (v2 5) + 2147483648 ≤ ((2147483649 : Nat) : Int) := xXb hBd 1 rfl
      have f0 : ¬ (v2 5) = 0 := xXf hF 0 rfl
      have f1 : (0 : Int) ≤ 8 ∧ xE (zyEl zymc B H) 35 8 = (v2 6) := xXf hF 1 rfl
      have e35_4 : xE (zyEl zymc B H2) 35 4 = xE (zyEl zymc B H) 35 4 := xFr_E hfr rfl
      have q35_4 : xE (zyEl zymc B H) 35 4 = xE (zyEl zymc B s.heap) 35 4 := xFr_E hFr0 rfl
      have e35_5 : xE (zyEl zymc B H2) 35 5 = xE (zyEl zymc B H) 35 5 := xFr_E hfr rfl
      have e35_6 : xE (zyEl zymc B H2) 35 6 = xE (zyEl zymc B H) 35 6 := xFr_E hfr rfl
      have e35_7 : xE (zyEl zymc B H2) 35 7 = xE (zyEl zymc B H) 35 7 := xFr_E hfr rfl
      have e35_8 : xE (zyEl zymc B H2) 35 8 = xE (zyEl zymc B H) 35 8 := xFr_E hfr rfl
      have e35_2 : xE (zyEl zymc B H2) 35 2 = xE (zyEl zymc B H) 35 2 := xFr_E hfr rfl
      have e35_3 : xE (zyEl zymc B H2) 35 3 = xE (zyEl zymc B H) 35 3 := xFr_E hfr rfl
      have e2_3 : xE (zyEl zymc B H2) 2 3 = xE (zyEl zymc B H) 2 3 := xFr_E hfr rfl
      have q2_3 : xE (zyEl zymc B H) 2 3 = xE (zyEl zymc B s.heap) 2 3 := xFr_E hFr0 rfl
      have e36 : ∀ i, xE (zyEl zymc B H2) 36 i = xE (zyEl zymc B H) 36 i := fun i => xFr_E hfr rfl
      have q36 : ∀ i, xE (zyEl zymc B H) 36 i = xE (zyEl zymc B s.heap) 36 i := fun i => xFr_E hFr0 rfl
      have e10 : ∀ i, xE (zyEl zymc B H2) 10 i = xE (zyEl zymc B H) 10 i := fun i => xFr_E hfr rfl
      have e11 : ∀ i, xE (zyEl zymc B H2) 11 i = xE (zyEl zymc B H) 11 i := fun i => xFr_E hfr rfl
      have y2_3 : ((2147483648 : Nat) : Int) ≤ xE (zyEl zymc B s.heap) 2 3 + 2147483648 ∧ xE (zyEl zymc B s.heap) 2 3 + 2147483648 ≤ ((2147483679 : Nat) : Int) := xTyF hT0 2 3 3 rfl rfl rfl rfl rfl rfl
      have hI : ((0 ≤ (v 2) ∧ (v 2) < xE (zyEl zymc B s.heap) 2 3) ∧ ∃ p1, p1 ≤ (xE (zyEl zymc B s.heap) 35 4) ∧ (∀ S, xAb0 (zyEl zymc B s.heap) S → pSwitch (xE (zyEl zymc B s.heap) 36) (xE (zyEl zymc B s.heap) 35 4) (xE (zyEl zymc B s.heap) 35 6) S = pNum (xE (zyEl zymc B s.heap) 36) (xE (zyEl zymc B s.heap) 35 4) p1 0 1 (fun b p2 => pBits (xE (zyEl zymc B s.heap) 36) (xE (zyEl zymc B s.heap) 35 4) S (v 2) 3 p2 1 b)) ∧ xTN (xE (zyEl zymc B s.heap) 36) (xE (zyEl zymc B s.heap) 35 4) p1 0 1 (zyEl zymc B H) (v 5) ∧ (∀ k, xE (zyEl zymc B H) 10 k = xE (zyEl zymc B s.heap) 10 k) ∧ (∀ k, xE (zyEl zymc B H) 11 k = xE (zyEl zymc B s.heap) 11 k)) ∧ (¬ (v 5) = 0 → (xE (zyEl zymc B H) 35 2 = xE (zyEl zymc B s.heap) 35 2 ∧ xE (zyEl zymc B H) 35 3 = xE (zyEl zymc B s.heap) 35 3)) := hInv
      obtain ⟨hI, hSm⟩ := hI
      obtain ⟨i1, p1, i0, i2, i3, j0, j1⟩ := hI
      have hb := tNx_b (T := xE (zyEl zymc B s.heap) 36) (n := xE (zyEl zymc B s.heap) 35 4) (p := p1) i0
      obtain ⟨c1, c2, c3, c4, c5, c6, c7⟩ := xtn_1 i3 (by omega)
      have z35_2 : ((2147483647 : Nat) : Int) ≤ xE (zyEl zymc B H2) 35 2 + 2147483648 ∧ xE (zyEl zymc B H2) 35 2 + 2147483648 ≤ ((2147483654 : Nat) : Int) := xTyF hT2 35 2 2 rfl rfl rfl rfl rfl rfl
      have z35_3 : ((2147483647 : Nat) : Int) ≤ xE (zyEl zymc B H2) 35 3 + 2147483648 ∧ xE (zyEl zymc B H2) 35 3 + 2147483648 ≤ ((2147484548 : Nat) : Int) := xTyF hT2 35 3 3 rfl rfl rfl rfl rfl rfl
      refine xGo hIH hAt hB hv hFr ⟨3, by decide⟩ [0, 0, 68719476737, 206158430209, 8] [0, 0, (v2 2), (v2 6), 1, xE (zyEl zymc B H2) 35 2, xE (zyEl zymc B H2) 35 3] rfl ⟨by decide +kernel, ⟨rfl, by decide +kernel⟩, (xcs_c rfl (xcs_c rfl (xcs_c rfl (xcs_c rfl (xcs_c rfl xcs_n))))), (xe_0 (xe_0 (xe_c (by omega) (by omega) rfl (xe_c (by omega) (by omega) rfl (xe_c (by omega) (by omega) rfl (xe_c (by omega) (by omega) rfl (xe_c (by omega) (by omega) rfl xe_n))))))), (xkq_c hT2 35 2 (q := 2) rfl rfl rfl rfl rfl rfl rfl rfl rfl rfl rfl (xkq_c hT2 35 3 (q := 3) rfl rfl rfl rfl rfl rfl rfl rfl rfl rfl rfl xkq_n))⟩ xst_n ?_ ?_
      · show ((0 ≤ ((v2 2) : Int) ∧ ((v2 2) : Int) < xE (zyEl zymc B s.heap) 2 3) ∧ xE (zyEl zymc B H2) 35 6 ≤ (xE (zyEl zymc B s.heap) 35 4) ∧ ((∀ k, xE (zyEl zymc B H2) 10 k = xE (zyEl zymc B s.heap) 10 k) ∧ (∀ k, xE (zyEl zymc B H2) 11 k = xE (zyEl zymc B s.heap) 11 k)) ∧ ((1 ≤ (1 : Int) ∧ (1 : Int) ≤ 4 ∧ ∀ S, xAb0 (zyEl zymc B s.heap) S → pSwitch (xE (zyEl zymc B s.heap) 36) (xE (zyEl zymc B s.heap) 35 4) (xE (zyEl zymc B s.heap) 35 6) S = pBits (xE (zyEl zymc B s.heap) 36) (xE (zyEl zymc B s.heap) 35 4) S ((v2 2) : Int) (4 - (1 : Int)).toNat (xE (zyEl zymc B H2) 35 6) (1 : Int) ((v2 6) : Int)) ∨ ((1 : Int) = 5 ∧ ∀ S, xAb0 (zyEl zymc B s.heap) S → pSwitch (xE (zyEl zymc B s.heap) 36) (xE (zyEl zymc B s.heap) 35 4) (xE (zyEl zymc B s.heap) 35 6) S = .error (6, xE (zyEl zymc B H2) 35 5)))) ∧ (xE (zyEl zymc B H2) 35 2 = xE (zyEl zymc B s.heap) 35 2 ∧ xE (zyEl zymc B H2) 35 3 = xE (zyEl zymc B s.heap) 35 3)
        refine ⟨?_, ?_⟩
        · skip
          refine ⟨by omega, by omega, ⟨fun k => by rw [e10 k, j0 k], fun k => by rw [e11 k, j1 k]⟩, Or.inl ⟨by omega, by omega, fun S hS => ?_⟩⟩
          rw [i2 S hS, c7, show xE (zyEl zymc B H) 35 6 = xE (zyEl zymc B H2) 35 6 by omega, show xE (zyEl zymc B H) 35 8 = (v2 6) by omega, show (v 2) = v2 2 by omega]
          rfl
        · omega
      · show 50 + 2 * (10 - (1 : Int)).toNat < 98
        omega
    · have hx : x ∈ [zxfrs0_dx0] := hx
      have hag : ∀ k, k < 7 → v2 k = v k := hag
      have hfr : xFr [(35, 2, 3)] _ _ := hfr
      have ex := List.mem_singleton.mp hx
      subst ex
      obtain ⟨hF, hBd, hM⟩ := hXs
      have g2 : v2 2 = v 2 := hag 2 (by decide)
      have g3 : v2 3 = v 3 := hag 3 (by decide)
      have g4 : v2 4 = v 4 := hag 4 (by decide)
      have g5 : v2 5 = v 5 := hag 5 (by decide)
      have g6 : v2 6 = v 6 := hag 6 (by decide)
      have b0 : ((2147483648 : Nat) : Int) ≤ (v2 2) + 2147483648 ∧ (v2 2) + 2147483648 ≤ ((2147483678 : Nat) : Int) := xXb hBd 0 rfl
      have b1 : ((2147483648 : Nat) : Int) ≤ (v2 3) + 2147483648 ∧ (v2 3) + 2147483648 ≤ ((2147483679 : Nat) : Int) := xXb hBd 1 rfl
      have b2 : ((2147483649 : Nat) : Int) ≤ (v2 4) + 2147483648 ∧ (v2 4) + 2147483648 ≤ ((2147483652 : Nat) : Int) := xXb hBd 2 rfl
      have b3 : ((2147483647 : Nat) : Int) ≤ (v2 5) + 2147483648 ∧ (v2 5) + 2147483648 ≤ ((2147483654 : Nat) : Int) := xXb hBd 3 rfl
      have b4 : ((2147483647 : Nat) : Int) ≤ (v2 6) + 2147483648 ∧ (v2 6) + 2147483648 ≤ ((2147484548 : Nat) : Int) := xXb hBd 4 rfl
      have k0 : xE (zyEl zymc B H) 35 2 = v 5 := xKcf hKc 0 rfl rfl
      have k1 : xE (zyEl zymc B H) 35 3 = v 6 := xKcf hKc 1 rfl rfl
      have f0 : (v2 4) ≤ 4 := xXf hF 0 rfl
      have m0 : xE (zyEl zymc B H2) 35 2 = (v2 5) := xXm hM 0 rfl
      have m1 : xE (zyEl zymc B H2) 35 3 = (v2 6) := xXm hM 1 rfl
      have e35_4 : xE (zyEl zymc B H2) 35 4 = xE (zyEl zymc B H) 35 4 := xFr_E hfr rfl
      have q35_4 : xE (zyEl zymc B H) 35 4 = xE (zyEl zymc B s.heap) 35 4 := xFr_E hFr0 rfl
      have e35_5 : xE (zyEl zymc B H2) 35 5 = xE (zyEl zymc B H) 35 5 := xFr_E hfr rfl
      have e35_6 : xE (zyEl zymc B H2) 35 6 = xE (zyEl zymc B H) 35 6 := xFr_E hfr rfl
      have e35_7 : xE (zyEl zymc B H2) 35 7 = xE (zyEl zymc B H) 35 7 := xFr_E hfr rfl
      have e35_8 : xE (zyEl zymc B H2) 35 8 = xE (zyEl zymc B H) 35 8 := xFr_E hfr rfl
      have e2_3 : xE (zyEl zymc B H2) 2 3 = xE (zyEl zymc B H) 2 3 := xFr_E hfr rfl
      have q2_3 : xE (zyEl zymc B H) 2 3 = xE (zyEl zymc B s.heap) 2 3 := xFr_E hFr0 rfl
      have e36 : ∀ i, xE (zyEl zymc B H2) 36 i = xE (zyEl zymc B H) 36 i := fun i => xFr_E hfr rfl
      have q36 : ∀ i, xE (zyEl zymc B H) 36 i = xE (zyEl zymc B s.heap) 36 i := fun i => xFr_E hFr0 rfl
      have e10 : ∀ i, xE (zyEl zymc B H2) 10 i = xE (zyEl zymc B H) 10 i := fun i => xFr_E hfr rfl
      have e11 : ∀ i, xE (zyEl zymc B H2) 11 i = xE (zyEl zymc B H) 11 i := fun i => xFr_E hfr rfl
      have y2_3 : ((2147483648 : Nat) : Int) ≤ xE (zyEl zymc B s.heap) 2 3 + 2147483648 ∧ xE (zyEl zymc B s.heap) 2 3 + 2147483648 ≤ ((2147483679 : Nat) : Int) := xTyF hT0 2 3 3 rfl rfl rfl rfl rfl rfl
      have hI : ((0 ≤ (v 2) ∧ (v 2) < xE (zyEl zymc B s.heap) 2 3) ∧ xE (zyEl zymc B H) 35 6 ≤ (xE (zyEl zymc B s.heap) 35 4) ∧ ((∀ k, xE (zyEl zymc B H) 10 k = xE (zyEl zymc B s.heap) 10 k) ∧ (∀ k, xE (zyEl zymc B H) 11 k = xE (zyEl zymc B s.heap) 11 k)) ∧ ((1 ≤ (v 4) ∧ (v 4) ≤ 4 ∧ ∀ S, xAb0 (zyEl zymc B s.heap) S → pSwitch (xE (zyEl zymc B s.heap) 36) (xE (zyEl zymc B s.heap) 35 4) (xE (zyEl zymc B s.heap) 35 6) S = pBits (xE (zyEl zymc B s.heap) 36) (xE (zyEl zymc B s.heap) 35 4) S (v 2) (4 - (v 4)).toNat (xE (zyEl zymc B H) 35 6) (v 4) (v 3)) ∨ ((v 4) = 5 ∧ ∀ S, xAb0 (zyEl zymc B s.heap) S → pSwitch (xE (zyEl zymc B s.heap) 36) (xE (zyEl zymc B s.heap) 35 4) (xE (zyEl zymc B s.heap) 35 6) S = .error (6, xE (zyEl zymc B H) 35 5)))) ∧ (xE (zyEl zymc B H) 35 2 = xE (zyEl zymc B s.heap) 35 2 ∧ xE (zyEl zymc B H) 35 3 = xE (zyEl zymc B s.heap) 35 3) := hInv
      obtain ⟨hI, hSm⟩ := hI
      have tt : xE (zyEl zymc B H2) 36 = xE (zyEl zymc B s.heap) 36 := funext fun i => (e36 i).trans (q36 i)
      have tn : xE (zyEl zymc B H2) 35 4 = xE (zyEl zymc B s.heap) 35 4 := by omega
      obtain ⟨i1, i0, ⟨j0, j1⟩, i2⟩ := hI
      rcases i2 with ⟨w1, w2, i2⟩ | ⟨w, -⟩
      · refine xCa hRu hIH hAt hB hv hFr (hfad B) (ix := 35) (ax := 1168) rfl rfl rfl hmefad ⟨_, rfl, rfl, by decide⟩ ⟨rfl, rfl, rfl⟩ (by decide) [] [] [] rfl ⟨rfl, rfl⟩ (by decide +kernel) xcs_n (by decide +kernel) ?_ (fun H3 r hT3 hf3 hFr3 hr3 hΨ3 => ?_)
        · show xΦad (xfv []) (zyEl zymc B H2)
          unfold xΦad
          omega
        · have hΨ3 : xΨad (xfv []) (zyEl zymc B H2) (zyEl zymc B H3) r := hΨ3
          have d35_4 : xE (zyEl zymc B H3) 35 4 = xE (zyEl zymc B H2) 35 4 := xFr_E hf3 rfl
          have d35_2 : xE (zyEl zymc B H3) 35 2 = xE (zyEl zymc B H2) 35 2 := xFr_E hf3 rfl
          have d35_3 : xE (zyEl zymc B H3) 35 3 = xE (zyEl zymc B H2) 35 3 := xFr_E hf3 rfl
          have d2_3 : xE (zyEl zymc B H3) 2 3 = xE (zyEl zymc B H2) 2 3 := xFr_E hf3 rfl
          have d36 : ∀ i, xE (zyEl zymc B H3) 36 i = xE (zyEl zymc B H2) 36 i := fun i => xFr_E hf3 rfl
          have d10 : ∀ i, xE (zyEl zymc B H3) 10 i = xE (zyEl zymc B H2) 10 i := fun i => xFr_E hf3 rfl
          have d11 : ∀ i, xE (zyEl zymc B H3) 11 i = xE (zyEl zymc B H2) 11 i := fun i => xFr_E hf3 rfl
          have z35_2 : ((2147483647 : Nat) : Int) ≤ xE (zyEl zymc B H3) 35 2 + 2147483648 ∧ xE (zyEl zymc B H3) 35 2 + 2147483648 ≤ ((2147483654 : Nat) : Int) := xTyF hT3 35 2 2 rfl rfl rfl rfl rfl rfl
          have z35_3 : ((2147483647 : Nat) : Int) ≤ xE (zyEl zymc B H3) 35 3 + 2147483648 ∧ xE (zyEl zymc B H3) 35 3 + 2147483648 ≤ ((2147484548 : Nat) : Int) := xTyF hT3 35 3 3 rfl rfl rfl rfl rfl rfl
          unfold xΨad at hΨ3
          rw [tt, tn] at hΨ3
          refine ⟨⟨4, by decide⟩, [0, 0, 68719476737, 103079215105, 137438953473], [0, 0, (v2 2), (v2 3), (v2 4), xE (zyEl zymc B H3) 35 2, xE (zyEl zymc B H3) 35 3], rfl, ⟨by decide +kernel, ⟨rfl, by decide +kernel⟩, (xcs_c rfl (xcs_c rfl (xcs_c rfl (xcs_c rfl (xcs_c rfl xcs_n))))), (xe_0 (xe_0 (xe_c (by omega) (by omega) rfl (xe_c (by omega) (by omega) rfl (xe_c (by omega) (by omega) rfl (xe_c (by omega) (by omega) rfl (xe_c (by omega) (by omega) rfl xe_n))))))), (xkq_c hT3 35 2 (q := 2) rfl rfl rfl rfl rfl rfl rfl rfl rfl rfl rfl (xkq_c hT3 35 3 (q := 3) rfl rfl rfl rfl rfl rfl rfl rfl rfl rfl rfl xkq_n))⟩, (by rw [if_neg (by decide)]; exact xst_n), ?_, ?_⟩
          · show ((0 ≤ ((v2 2) : Int) ∧ ((v2 2) : Int) < xE (zyEl zymc B s.heap) 2 3) ∧ (1 ≤ ((v2 4) : Int) ∧ ((v2 4) : Int) ≤ 4) ∧ ∃ p1, p1 ≤ (xE (zyEl zymc B s.heap) 35 4) ∧ (∀ S, xAb0 (zyEl zymc B s.heap) S → pSwitch (xE (zyEl zymc B s.heap) 36) (xE (zyEl zymc B s.heap) 35 4) (xE (zyEl zymc B s.heap) 35 6) S = pBits (xE (zyEl zymc B s.heap) 36) (xE (zyEl zymc B s.heap) 35 4) S ((v2 2) : Int) (4 - ((v2 4) : Int)).toNat p1 ((v2 4) : Int) ((v2 3) : Int)) ∧ xAD (xE (zyEl zymc B s.heap) 36) (xE (zyEl zymc B s.heap) 35 4) p1 (zyEl zymc B H3) ∧ (∀ k, xE (zyEl zymc B H3) 10 k = xE (zyEl zymc B s.heap) 10 k) ∧ (∀ k, xE (zyEl zymc B H3) 11 k = xE (zyEl zymc B s.heap) 11 k)) ∧ (xE (zyEl zymc B H3) 35 2 = xE (zyEl zymc B s.heap) 35 2 ∧ xE (zyEl zymc B H3) 35 3 = xE (zyEl zymc B s.heap) 35 3)
            refine ⟨?_, ?_⟩
            · skip
              refine ⟨by omega, by omega, xE (zyEl zymc B H2) 35 6, by omega, fun S hS => ?_, hΨ3, fun k => by rw [d10 k, e10 k, j0 k], fun k => by rw [d11 k, e11 k, j1 k]⟩
              rw [i2 S hS, show xE (zyEl zymc B H) 35 6 = xE (zyEl zymc B H2) 35 6 by omega, show (v 2) = v2 2 by omega, show (v 3) = v2 3 by omega, show (v 4) = v2 4 by omega]
            · omega
          · show 49 + 2 * (10 - ((v2 4) : Int)).toNat < 50 + 2 * (10 - (v 4)).toNat
            omega
      · omega
    · have hx : x ∈ [zxfrs0_ex0, zxfrs0_ex1] := hx
      have hag : ∀ k, k < 7 → v2 k = v k := hag
      have hfr : xFr [(35, 2, 3)] _ _ := hfr
      rcases List.mem_cons.mp hx with ex | hx
      · subst ex
        obtain ⟨hF, hBd, hM⟩ := hXs
        have g2 : v2 2 = v 2 := hag 2 (by decide)
        have g3 : v2 3 = v 3 := hag 3 (by decide)
        have g4 : v2 4 = v 4 := hag 4 (by decide)
        have g5 : v2 5 = v 5 := hag 5 (by decide)
        have g6 : v2 6 = v 6 := hag 6 (by decide)
        have b0 : ((2147483648 : Nat) : Int) ≤ (v2 2) + 2147483648 ∧ (v2 2) + 2147483648 ≤ ((2147483678 : Nat) : Int) := xXb hBd 0 rfl
        have b1 : ((2147483648 : Nat) : Int) ≤ (v2 3) + 2147483648 ∧ (v2 3) + 2147483648 ≤ ((2147483679 : Nat) : Int) := xXb hBd 1 rfl
        have b2 : ((2147483649 : Nat) : Int) ≤ (v2 4) + 2147483648 ∧ (v2 4) + 2147483648 ≤ ((2147483652 : Nat) : Int) := xXb hBd 2 rfl
        have b3 : ((2147483647 : Nat) : Int) ≤ (v2 5) + 2147483648 ∧ (v2 5) + 2147483648 ≤ ((2147483654 : Nat) : Int) := xXb hBd 3 rfl
        have b4 : ((2147483647 : Nat) : Int) ≤ (v2 6) + 2147483648 ∧ (v2 6) + 2147483648 ≤ ((2147484548 : Nat) : Int) := xXb hBd 4 rfl
        have b5 : ((2147483651 : Nat) : Int) ≤ (v2 7) + 2147483648 ∧ (v2 7) + 2147483648 ≤ ((2147483651 : Nat) : Int) := xXb hBd 5 rfl
        have b6 : ((2147483648 : Nat) : Int) ≤ (v2 8) + 2147483648 ∧ (v2 8) + 2147483648 ≤ ((2147483649 : Nat) : Int) := xXb hBd 6 rfl
        have b7 : ((2147483648 : Nat) : Int) ≤ (v2 9) + 2147483648 ∧ (v2 9) + 2147483648 ≤ ((2147483664 : Nat) : Int) := xXb hBd 7 rfl
        have b8 : ((2147483648 : Nat) : Int) ≤ (v2 10) + 2147483648 ∧ (v2 10) + 2147483648 ≤ ((2147483679 : Nat) : Int) := xXb hBd 8 rfl
        have b9 : ((2147483650 : Nat) : Int) ≤ (v2 4 + 1) + 2147483648 ∧ (v2 4 + 1) + 2147483648 ≤ ((2147483653 : Nat) : Int) := xXb hBd 9 rfl
        have k0 : xE (zyEl zymc B H) 35 2 = v 5 := xKcf hKc 0 rfl rfl
        have k1 : xE (zyEl zymc B H) 35 3 = v 6 := xKcf hKc 1 rfl rfl
        have f0 : (0 : Int) ≤ 7 ∧ xE (zyEl zymc B H) 35 7 = (v2 7) := xXf hF 0 rfl
        have f1 : ¬ (v2 7) = 5 := xXf hF 1 rfl
        have f2 : (v2 7) = 3 := xXf hF 2 rfl
        have f3 : (0 : Int) ≤ 8 ∧ xE (zyEl zymc B H) 35 8 = (v2 8) := xXf hF 3 rfl
        have f4 : 0 ≤ (v2 8) := xXf hF 4 rfl
        have f5 : (v2 8) ≤ 1 := xXf hF 5 rfl
        have f6 : (v2 9) = xop 8 (v2 8) (v2 4) := xXf hF 6 rfl
        have f7 : (v2 10) = xop 7 (v2 3) (v2 9) := xXf hF 7 rfl
        have m0 : xE (zyEl zymc B H2) 35 2 = (v2 5) := xXm hM 0 rfl
        have m1 : xE (zyEl zymc B H2) 35 3 = (v2 6) := xXm hM 1 rfl
        have e35_4 : xE (zyEl zymc B H2) 35 4 = xE (zyEl zymc B H) 35 4 := xFr_E hfr rfl
        have q35_4 : xE (zyEl zymc B H) 35 4 = xE (zyEl zymc B s.heap) 35 4 := xFr_E hFr0 rfl
        have e35_5 : xE (zyEl zymc B H2) 35 5 = xE (zyEl zymc B H) 35 5 := xFr_E hfr rfl
        have e35_6 : xE (zyEl zymc B H2) 35 6 = xE (zyEl zymc B H) 35 6 := xFr_E hfr rfl
        have e35_7 : xE (zyEl zymc B H2) 35 7 = xE (zyEl zymc B H) 35 7 := xFr_E hfr rfl
        have e35_8 : xE (zyEl zymc B H2) 35 8 = xE (zyEl zymc B H) 35 8 := xFr_E hfr rfl
        have e2_3 : xE (zyEl zymc B H2) 2 3 = xE (zyEl zymc B H) 2 3 := xFr_E hfr rfl
        have q2_3 : xE (zyEl zymc B H) 2 3 = xE (zyEl zymc B s.heap) 2 3 := xFr_E hFr0 rfl
        have e36 : ∀ i, xE (zyEl zymc B H2) 36 i = xE (zyEl zymc B H) 36 i := fun i => xFr_E hfr rfl
        have q36 : ∀ i, xE (zyEl zymc B H) 36 i = xE (zyEl zymc B s.heap) 36 i := fun i => xFr_E hFr0 rfl
        have e10 : ∀ i, xE (zyEl zymc B H2) 10 i = xE (zyEl zymc B H) 10 i := fun i => xFr_E hfr rfl
        have e11 : ∀ i, xE (zyEl zymc B H2) 11 i = xE (zyEl zymc B H) 11 i := fun i => xFr_E hfr rfl
        have y2_3 : ((2147483648 : Nat) : Int) ≤ xE (zyEl zymc B s.heap) 2 3 + 2147483648 ∧ xE (zyEl zymc B s.heap) 2 3 + 2147483648 ≤ ((2147483679 : Nat) : Int) := xTyF hT0 2 3 3 rfl rfl rfl rfl rfl rfl
        have hI : ((0 ≤ (v 2) ∧ (v 2) < xE (zyEl zymc B s.heap) 2 3) ∧ (1 ≤ (v 4) ∧ (v 4) ≤ 4) ∧ ∃ p1, p1 ≤ (xE (zyEl zymc B s.heap) 35 4) ∧ (∀ S, xAb0 (zyEl zymc B s.heap) S → pSwitch (xE (zyEl zymc B s.heap) 36) (xE (zyEl zymc B s.heap) 35 4) (xE (zyEl zymc B s.heap) 35 6) S = pBits (xE (zyEl zymc B s.heap) 36) (xE (zyEl zymc B s.heap) 35 4) S (v 2) (4 - (v 4)).toNat p1 (v 4) (v 3)) ∧ xAD (xE (zyEl zymc B s.heap) 36) (xE (zyEl zymc B s.heap) 35 4) p1 (zyEl zymc B H) ∧ (∀ k, xE (zyEl zymc B H) 10 k = xE (zyEl zymc B s.heap) 10 k) ∧ (∀ k, xE (zyEl zymc B H) 11 k = xE (zyEl zymc B s.heap) 11 k)) ∧ (xE (zyEl zymc B H) 35 2 = xE (zyEl zymc B s.heap) 35 2 ∧ xE (zyEl zymc B H) 35 3 = xE (zyEl zymc B s.heap) 35 3) := hInv
        obtain ⟨hI, hSm⟩ := hI
        obtain ⟨i1, i2, p1, i0, i3, ⟨i4, i5, i6, i7⟩, j0, j1⟩ := hI
        have hb := tNx_b (T := xE (zyEl zymc B s.heap) 36) (n := xE (zyEl zymc B s.heap) 35 4) (p := p1) i0
        rw [show (v 2) = v2 2 by omega, show (v 3) = v2 3 by omega, show (v 4) = v2 4 by omega] at i3
        have hk : tKd (xE (zyEl zymc B s.heap) 36) (xE (zyEl zymc B s.heap) 35 4) p1 = 3 := by omega
        have hval : tNm (xE (zyEl zymc B s.heap) 36) (xE (zyEl zymc B s.heap) 35 4) p1 = (v2 8) := by have := i7 hk; omega
        have hstep : (v2 4 = 4 ∧ ∀ S, xAb0 (zyEl zymc B s.heap) S → pSwitch (xE (zyEl zymc B s.heap) 36) (xE (zyEl zymc B s.heap) 35 4) (xE (zyEl zymc B s.heap) 35 6) S = .error (6, tFr (xE (zyEl zymc B s.heap) 36) (xE (zyEl zymc B s.heap) 35 4) p1)) ∨ (v2 4 < 4 ∧ ∀ S, xAb0 (zyEl zymc B s.heap) S → pSwitch (xE (zyEl zymc B s.heap) 36) (xE (zyEl zymc B s.heap) 35 4) (xE (zyEl zymc B s.heap) 35 6) S = pBits (xE (zyEl zymc B s.heap) 36) (xE (zyEl zymc B s.heap) 35 4) S (v2 2) (4 - (v2 4 + 1)).toNat (tNx (xE (zyEl zymc B s.heap) 36) (xE (zyEl zymc B s.heap) 35 4) p1) (v2 4 + 1) (v2 10)) := by
          by_cases h4 : v2 4 = 4
          · refine Or.inl ⟨h4, fun S hS => ?_⟩
            rw [i3 S hS, show (4 - v2 4).toNat = 0 by omega]
            unfold pBits
            rw [if_pos hk, if_pos (by omega)]
          · refine Or.inr ⟨by omega, fun S hS => ?_⟩
            rw [i3 S hS, show (4 - v2 4).toNat = (4 - (v2 4 + 1)).toNat + 1 by omega]
            show (if tKd (xE (zyEl zymc B s.heap) 36) (xE (zyEl zymc B s.heap) 35 4) p1 = 3 then (if 0 ≤ tNm (xE (zyEl zymc B s.heap) 36) (xE (zyEl zymc B s.heap) 35 4) p1 ∧ tNm (xE (zyEl zymc B s.heap) 36) (xE (zyEl zymc B s.heap) 35 4) p1 ≤ 1 then _ else _) else _) = _
            rw [if_pos hk, if_pos (by omega), hval, f7, f6]
        have z35_2 : ((2147483647 : Nat) : Int) ≤ xE (zyEl zymc B H2) 35 2 + 2147483648 ∧ xE (zyEl zymc B H2) 35 2 + 2147483648 ≤ ((2147483654 : Nat) : Int) := xTyF hT2 35 2 2 rfl rfl rfl rfl rfl rfl
        have z35_3 : ((2147483647 : Nat) : Int) ≤ xE (zyEl zymc B H2) 35 3 + 2147483648 ∧ xE (zyEl zymc B H2) 35 3 + 2147483648 ≤ ((2147484548 : Nat) : Int) := xTyF hT2 35 3 3 rfl rfl rfl rfl rfl rfl
        refine xGo hIH hAt hB hv hFr ⟨3, by decide⟩ [0, 0, 68719476737, 343597383681, 137438953481] [0, 0, (v2 2), (v2 10), (v2 4 + 1), xE (zyEl zymc B H2) 35 2, xE (zyEl zymc B H2) 35 3] rfl ⟨by decide +kernel, ⟨rfl, by decide +kernel⟩, (xcs_c rfl (xcs_c rfl (xcs_c rfl (xcs_c rfl (xcs_c rfl xcs_n))))), (xe_0 (xe_0 (xe_c (by omega) (by omega) rfl (xe_c (by omega) (by omega) rfl (xe_c (by omega) (by omega) rfl (xe_c (by omega) (by omega) rfl (xe_c (by omega) (by omega) rfl xe_n))))))), (xkq_c hT2 35 2 (q := 2) rfl rfl rfl rfl rfl rfl rfl rfl rfl rfl rfl (xkq_c hT2 35 3 (q := 3) rfl rfl rfl rfl rfl rfl rfl rfl rfl rfl rfl xkq_n))⟩ xst_n ?_ ?_
        · show ((0 ≤ ((v2 2) : Int) ∧ ((v2 2) : Int) < xE (zyEl zymc B s.heap) 2 3) ∧ xE (zyEl zymc B H2) 35 6 ≤ (xE (zyEl zymc B s.heap) 35 4) ∧ ((∀ k, xE (zyEl zymc B H2) 10 k = xE (zyEl zymc B s.heap) 10 k) ∧ (∀ k, xE (zyEl zymc B H2) 11 k = xE (zyEl zymc B s.heap) 11 k)) ∧ ((1 ≤ ((v2 4 + 1) : Int) ∧ ((v2 4 + 1) : Int) ≤ 4 ∧ ∀ S, xAb0 (zyEl zymc B s.heap) S → pSwitch (xE (zyEl zymc B s.heap) 36) (xE (zyEl zymc B s.heap) 35 4) (xE (zyEl zymc B s.heap) 35 6) S = pBits (xE (zyEl zymc B s.heap) 36) (xE (zyEl zymc B s.heap) 35 4) S ((v2 2) : Int) (4 - ((v2 4 + 1) : Int)).toNat (xE (zyEl zymc B H2) 35 6) ((v2 4 + 1) : Int) ((v2 10) : Int)) ∨ (((v2 4 + 1) : Int) = 5 ∧ ∀ S, xAb0 (zyEl zymc B s.heap) S → pSwitch (xE (zyEl zymc B s.heap) 36) (xE (zyEl zymc B s.heap) 35 4) (xE (zyEl zymc B s.heap) 35 6) S = .error (6, xE (zyEl zymc B H2) 35 5)))) ∧ (xE (zyEl zymc B H2) 35 2 = xE (zyEl zymc B s.heap) 35 2 ∧ xE (zyEl zymc B H2) 35 3 = xE (zyEl zymc B s.heap) 35 3)
          refine ⟨?_, ?_⟩
          · skip
            refine ⟨by omega, by omega, ⟨fun k => by rw [e10 k, j0 k], fun k => by rw [e11 k, j1 k]⟩, ?_⟩
            rcases hstep with ⟨h4, hs⟩ | ⟨h4, hs⟩
            · exact Or.inr ⟨by omega, fun S hS => by rw [hs S hS, show xE (zyEl zymc B H2) 35 5 = tFr (xE (zyEl zymc B s.heap) 36) (xE (zyEl zymc B s.heap) 35 4) p1 by omega]⟩
            · exact Or.inl ⟨by omega, by omega, fun S hS => by rw [hs S hS, show xE (zyEl zymc B H2) 35 6 = tNx (xE (zyEl zymc B s.heap) 36) (xE (zyEl zymc B s.heap) 35 4) p1 by omega]⟩
          · omega
        · show 50 + 2 * (10 - ((v2 4 + 1) : Int)).toNat < 49 + 2 * (10 - (v 4)).toNat
          omega
      · skip
        have ex := List.mem_singleton.mp hx
        subst ex
        obtain ⟨hF, hBd, hM⟩ := hXs
        have g2 : v2 2 = v 2 := hag 2 (by decide)
        have g3 : v2 3 = v 3 := hag 3 (by decide)
        have g4 : v2 4 = v 4 := hag 4 (by decide)
        have g5 : v2 5 = v 5 := hag 5 (by decide)
        have g6 : v2 6 = v 6 := hag 6 (by decide)
        have b0 : ((2147483648 : Nat) : Int) ≤ (v2 2) + 2147483648 ∧ (v2 2) + 2147483648 ≤ ((2147483678 : Nat) : Int) := xXb hBd 0 rfl
        have b1 : ((2147483648 : Nat) : Int) ≤ (v2 3) + 2147483648 ∧ (v2 3) + 2147483648 ≤ ((2147483679 : Nat) : Int) := xXb hBd 1 rfl
        have b2 : ((2147483649 : Nat) : Int) ≤ (v2 4) + 2147483648 ∧ (v2 4) + 2147483648 ≤ ((2147483652 : Nat) : Int) := xXb hBd 2 rfl
        have b3 : ((2147483647 : Nat) : Int) ≤ (v2 5) + 2147483648 ∧ (v2 5) + 2147483648 ≤ ((2147483654 : Nat) : Int) := xXb hBd 3 rfl
        have b4 : ((2147483647 : Nat) : Int) ≤ (v2 6) + 2147483648 ∧ (v2 6) + 2147483648 ≤ ((2147484548 : Nat) : Int) := xXb hBd 4 rfl
        have b5 : ((2147483653 : Nat) : Int) ≤ (v2 7) + 2147483648 ∧ (v2 7) + 2147483648 ≤ ((2147483653 : Nat) : Int) := xXb hBd 5 rfl
        have k0 : xE (zyEl zymc B H) 35 2 = v 5 := xKcf hKc 0 rfl rfl
        have k1 : xE (zyEl zymc B H) 35 3 = v 6 := xKcf hKc 1 rfl rfl
        have f0 : (0 : Int) ≤ 7 ∧ xE (zyEl zymc B H) 35 7 = (v2 7) := xXf hF 0 rfl
        have f1 : (v2 7) = 5 := xXf hF 1 rfl
        have m0 : xE (zyEl zymc B H2) 35 2 = (v2 5) := xXm hM 0 rfl
        have m1 : xE (zyEl zymc B H2) 35 3 = (v2 6) := xXm hM 1 rfl
        have e35_4 : xE (zyEl zymc B H2) 35 4 = xE (zyEl zymc B H) 35 4 := xFr_E hfr rfl
        have q35_4 : xE (zyEl zymc B H) 35 4 = xE (zyEl zymc B s.heap) 35 4 := xFr_E hFr0 rfl
        have e35_5 : xE (zyEl zymc B H2) 35 5 = xE (zyEl zymc B H) 35 5 := xFr_E hfr rfl
        have e35_6 : xE (zyEl zymc B H2) 35 6 = xE (zyEl zymc B H) 35 6 := xFr_E hfr rfl
        have e35_7 : xE (zyEl zymc B H2) 35 7 = xE (zyEl zymc B H) 35 7 := xFr_E hfr rfl
        have e35_8 : xE (zyEl zymc B H2) 35 8 = xE (zyEl zymc B H) 35 8 := xFr_E hfr rfl
        have e2_3 : xE (zyEl zymc B H2) 2 3 = xE (zyEl zymc B H) 2 3 := xFr_E hfr rfl
        have q2_3 : xE (zyEl zymc B H) 2 3 = xE (zyEl zymc B s.heap) 2 3 := xFr_E hFr0 rfl
        have e36 : ∀ i, xE (zyEl zymc B H2) 36 i = xE (zyEl zymc B H) 36 i := fun i => xFr_E hfr rfl
        have q36 : ∀ i, xE (zyEl zymc B H) 36 i = xE (zyEl zymc B s.heap) 36 i := fun i => xFr_E hFr0 rfl
        have e10 : ∀ i, xE (zyEl zymc B H2) 10 i = xE (zyEl zymc B H) 10 i := fun i => xFr_E hfr rfl
        have e11 : ∀ i, xE (zyEl zymc B H2) 11 i = xE (zyEl zymc B H) 11 i := fun i => xFr_E hfr rfl
        have y2_3 : ((2147483648 : Nat) : Int) ≤ xE (zyEl zymc B s.heap) 2 3 + 2147483648 ∧ xE (zyEl zymc B s.heap) 2 3 + 2147483648 ≤ ((2147483679 : Nat) : Int) := xTyF hT0 2 3 3 rfl rfl rfl rfl rfl rfl
        have hI : ((0 ≤ (v 2) ∧ (v 2) < xE (zyEl zymc B s.heap) 2 3) ∧ (1 ≤ (v 4) ∧ (v 4) ≤ 4) ∧ ∃ p1, p1 ≤ (xE (zyEl zymc B s.heap) 35 4) ∧ (∀ S, xAb0 (zyEl zymc B s.heap) S → pSwitch (xE (zyEl zymc B s.heap) 36) (xE (zyEl zymc B s.heap) 35 4) (xE (zyEl zymc B s.heap) 35 6) S = pBits (xE (zyEl zymc B s.heap) 36) (xE (zyEl zymc B s.heap) 35 4) S (v 2) (4 - (v 4)).toNat p1 (v 4) (v 3)) ∧ xAD (xE (zyEl zymc B s.heap) 36) (xE (zyEl zymc B s.heap) 35 4) p1 (zyEl zymc B H) ∧ (∀ k, xE (zyEl zymc B H) 10 k = xE (zyEl zymc B s.heap) 10 k) ∧ (∀ k, xE (zyEl zymc B H) 11 k = xE (zyEl zymc B s.heap) 11 k)) ∧ (xE (zyEl zymc B H) 35 2 = xE (zyEl zymc B s.heap) 35 2 ∧ xE (zyEl zymc B H) 35 3 = xE (zyEl zymc B s.heap) 35 3) := hInv
        obtain ⟨hI, hSm⟩ := hI
        obtain ⟨i1, i2, p1, i0, i3, ⟨i4, i5, i6, i7⟩, j0, j1⟩ := hI
        have hb := tNx_b (T := xE (zyEl zymc B s.heap) 36) (n := xE (zyEl zymc B s.heap) 35 4) (p := p1) i0
        rw [show (v 2) = v2 2 by omega, show (v 3) = v2 3 by omega, show (v 4) = v2 4 by omega] at i3
        have hpb : ∀ S, xAb0 (zyEl zymc B s.heap) S → pSwitch (xE (zyEl zymc B s.heap) 36) (xE (zyEl zymc B s.heap) 35 4) (xE (zyEl zymc B s.heap) 35 6) S = .ok (p1, uS (uS S (8 + v2 2) (v2 3)) (40 + v2 2) (v2 4)) := by
          intro S hS
          rw [i3 S hS]
          cases (4 - v2 4).toNat with
          | zero =>
            unfold pBits
            rw [if_neg (by omega)]
          | succ f =>
            show (if tKd (xE (zyEl zymc B s.heap) 36) (xE (zyEl zymc B s.heap) 35 4) p1 = 3 then _ else _) = _
            rw [if_neg (by omega)]
        refine xSt hRu hIH hAt hB hv hFr 10 (ax := 0) 103079215105 68719476737 (v2 3) (v2 2) rfl (Or.inl ⟨rfl, rfl⟩) rfl (by decide +kernel) rfl rfl (by omega) (by show (v2 2) < ((31 : Nat) : Int); omega) (fun r hr q1 q2 => by rw [List.mem_singleton.mp hr]; exact ⟨rfl, by show ((2147483648 : Nat) : Int) ≤ (v2 3) + 2147483648; omega, by show (v2 3) + 2147483648 ≤ ((4294967295 : Nat) : Int); omega⟩) (zyin_iff.mpr ⟨(10, 0, 30), by decide, rfl, (by show 0 ≤ Int.toNat (v2 2); omega), by show Int.toNat (v2 2) ≤ 30; omega⟩) (fun H3 hT3 hst3 hne3 hfn3 hFr3 => ?_)
        have hfe3 : ∀ (a2 : Nat) (k2 : Int), ¬ a2 = 10 → xE (zyEl zymc B H3) a2 k2 = xE (zyEl zymc B H2) a2 k2 := fun a2 k2 hne => by unfold xE; rw [hfn3 a2 k2.toNat (fun z => hne z.1)]
        have d35_4 : xE (zyEl zymc B H3) 35 4 = xE (zyEl zymc B H2) 35 4 := hfe3 35 4 (fun z => absurd z (by decide))
        have d35_5 : xE (zyEl zymc B H3) 35 5 = xE (zyEl zymc B H2) 35 5 := hfe3 35 5 (fun z => absurd z (by decide))
        have d35_6 : xE (zyEl zymc B H3) 35 6 = xE (zyEl zymc B H2) 35 6 := hfe3 35 6 (fun z => absurd z (by decide))
        have d35_7 : xE (zyEl zymc B H3) 35 7 = xE (zyEl zymc B H2) 35 7 := hfe3 35 7 (fun z => absurd z (by decide))
        have d35_8 : xE (zyEl zymc B H3) 35 8 = xE (zyEl zymc B H2) 35 8 := hfe3 35 8 (fun z => absurd z (by decide))
        have d35_2 : xE (zyEl zymc B H3) 35 2 = xE (zyEl zymc B H2) 35 2 := hfe3 35 2 (fun z => absurd z (by decide))
        have d35_3 : xE (zyEl zymc B H3) 35 3 = xE (zyEl zymc B H2) 35 3 := hfe3 35 3 (fun z => absurd z (by decide))
        have d2_3 : xE (zyEl zymc B H3) 2 3 = xE (zyEl zymc B H2) 2 3 := hfe3 2 3 (fun z => absurd z (by decide))
        refine ⟨⟨5, by decide⟩, [0, 0, 68719476737, 103079215105, 137438953473], [0, 0, (v2 2), (v2 3), (v2 4)], rfl, ⟨by decide +kernel, ⟨rfl, by decide +kernel⟩, (xcs_c rfl (xcs_c rfl (xcs_c rfl (xcs_c rfl (xcs_c rfl xcs_n))))), (xe_0 (xe_0 (xe_c (by omega) (by omega) rfl (xe_c (by omega) (by omega) rfl (xe_c (by omega) (by omega) rfl xe_n))))), xkq_n⟩, rfl, ?_, ?_⟩
        · show ((0 ≤ ((v2 2) : Int) ∧ ((v2 2) : Int) < xE (zyEl zymc B s.heap) 2 3) ∧ (∀ S, xAb0 (zyEl zymc B s.heap) S → pBind (pSwitch (xE (zyEl zymc B s.heap) 36) (xE (zyEl zymc B s.heap) 35 4) (xE (zyEl zymc B s.heap) 35 6) S) (pSem (xE (zyEl zymc B s.heap) 36) (xE (zyEl zymc B s.heap) 35 4)) = .ok (xE (zyEl zymc B H3) 35 6, uS (uS S (8 + ((v2 2) : Int)) ((v2 3) : Int)) (40 + ((v2 2) : Int)) ((v2 4) : Int))) ∧ xE (zyEl zymc B H3) 10 ((v2 2) : Int) = ((v2 3) : Int) ∧ (∀ k, 0 ≤ k → ¬ k = ((v2 2) : Int) → xE (zyEl zymc B H3) 10 k = xE (zyEl zymc B s.heap) 10 k) ∧ ∀ k, xE (zyEl zymc B H3) 11 k = xE (zyEl zymc B s.heap) 11 k) ∧ (xE (zyEl zymc B H3) 35 2 = xE (zyEl zymc B s.heap) 35 2 ∧ xE (zyEl zymc B H3) 35 3 = xE (zyEl zymc B s.heap) 35 3)
          refine ⟨?_, ?_⟩
          · skip
            refine ⟨by omega, fun S hS => ?_, ?_, ?_, ?_⟩
            · rw [hpb S hS]
              show pSem _ _ p1 _ = _
              unfold pSem
              rw [if_pos (by omega), show xE (zyEl zymc B H3) 35 6 = tNx (xE (zyEl zymc B s.heap) 36) (xE (zyEl zymc B s.heap) 35 4) p1 by omega]
            · exact hst3
            · intro k k0 k1
              rw [hne3 10 k k0 (fun z => k1 z.2), e10 k, j0 k]
            · intro k
              rw [hfe3 11 k (fun z => absurd z (by decide)), e11 k, j1 k]
          · omega
        · show 2 < 49 + 2 * (10 - (v 4)).toNat
          omega
    · have hx : x ∈ [zxfrs0_fx0] := hx
      have hag : ∀ k, k < 5 → v2 k = v k := hag
      have hfr : xFr [] _ _ := hfr
      have ex := List.mem_singleton.mp hx
      subst ex
      obtain ⟨hF, hBd, hM⟩ := hXs
      have g2 : v2 2 = v 2 := hag 2 (by decide)
      have g3 : v2 3 = v 3 := hag 3 (by decide)
      have g4 : v2 4 = v 4 := hag 4 (by decide)
      have b0 : ((2147483648 : Nat) : Int) ≤ (v2 2) + 2147483648 ∧ (v2 2) + 2147483648 ≤ ((2147483678 : Nat) : Int) := xXb hBd 0 rfl
      have b1 : ((2147483648 : Nat) : Int) ≤ (v2 3) + 2147483648 ∧ (v2 3) + 2147483648 ≤ ((2147483679 : Nat) : Int) := xXb hBd 1 rfl
      have b2 : ((2147483649 : Nat) : Int) ≤ (v2 4) + 2147483648 ∧ (v2 4) + 2147483648 ≤ ((2147483652 : Nat) : Int) := xXb hBd 2 rfl
      have e35_4 : xE (zyEl zymc B H2) 35 4 = xE (zyEl zymc B H) 35 4 := xFr_E hfr rfl
      have q35_4 : xE (zyEl zymc B H) 35 4 = xE (zyEl zymc B s.heap) 35 4 := xFr_E hFr0 rfl
      have e35_5 : xE (zyEl zymc B H2) 35 5 = xE (zyEl zymc B H) 35 5 := xFr_E hfr rfl
      have e35_6 : xE (zyEl zymc B H2) 35 6 = xE (zyEl zymc B H) 35 6 := xFr_E hfr rfl
      have e35_7 : xE (zyEl zymc B H2) 35 7 = xE (zyEl zymc B H) 35 7 := xFr_E hfr rfl
      have e35_8 : xE (zyEl zymc B H2) 35 8 = xE (zyEl zymc B H) 35 8 := xFr_E hfr rfl
      have e35_2 : xE (zyEl zymc B H2) 35 2 = xE (zyEl zymc B H) 35 2 := xFr_E hfr rfl
      have e35_3 : xE (zyEl zymc B H2) 35 3 = xE (zyEl zymc B H) 35 3 := xFr_E hfr rfl
      have e2_3 : xE (zyEl zymc B H2) 2 3 = xE (zyEl zymc B H) 2 3 := xFr_E hfr rfl
      have q2_3 : xE (zyEl zymc B H) 2 3 = xE (zyEl zymc B s.heap) 2 3 := xFr_E hFr0 rfl
      have e36 : ∀ i, xE (zyEl zymc B H2) 36 i = xE (zyEl zymc B H) 36 i := fun i => xFr_E hfr rfl
      have q36 : ∀ i, xE (zyEl zymc B H) 36 i = xE (zyEl zymc B s.heap) 36 i := fun i => xFr_E hFr0 rfl
      have e10 : ∀ i, xE (zyEl zymc B H2) 10 i = xE (zyEl zymc B H) 10 i := fun i => xFr_E hfr rfl
      have e11 : ∀ i, xE (zyEl zymc B H2) 11 i = xE (zyEl zymc B H) 11 i := fun i => xFr_E hfr rfl
      have y2_3 : ((2147483648 : Nat) : Int) ≤ xE (zyEl zymc B s.heap) 2 3 + 2147483648 ∧ xE (zyEl zymc B s.heap) 2 3 + 2147483648 ≤ ((2147483679 : Nat) : Int) := xTyF hT0 2 3 3 rfl rfl rfl rfl rfl rfl
      have hI : ((0 ≤ (v 2) ∧ (v 2) < xE (zyEl zymc B s.heap) 2 3) ∧ (∀ S, xAb0 (zyEl zymc B s.heap) S → pBind (pSwitch (xE (zyEl zymc B s.heap) 36) (xE (zyEl zymc B s.heap) 35 4) (xE (zyEl zymc B s.heap) 35 6) S) (pSem (xE (zyEl zymc B s.heap) 36) (xE (zyEl zymc B s.heap) 35 4)) = .ok (xE (zyEl zymc B H) 35 6, uS (uS S (8 + (v 2)) (v 3)) (40 + (v 2)) (v 4))) ∧ xE (zyEl zymc B H) 10 (v 2) = (v 3) ∧ (∀ k, 0 ≤ k → ¬ k = (v 2) → xE (zyEl zymc B H) 10 k = xE (zyEl zymc B s.heap) 10 k) ∧ ∀ k, xE (zyEl zymc B H) 11 k = xE (zyEl zymc B s.heap) 11 k) ∧ (xE (zyEl zymc B H) 35 2 = xE (zyEl zymc B s.heap) 35 2 ∧ xE (zyEl zymc B H) 35 3 = xE (zyEl zymc B s.heap) 35 3) := hInv
      obtain ⟨hI, hSm⟩ := hI
      obtain ⟨i1, i2, i3, i4, i5⟩ := hI
      rw [show (v 2) = v2 2 by omega, show (v 3) = v2 3 by omega] at i2 i3
      rw [show (v 2) = v2 2 by omega] at i4
      rw [show (v 4) = v2 4 by omega] at i2
      refine xSt hRu hIH hAt hB hv hFr 11 (ax := 0) 137438953473 68719476737 (v2 4) (v2 2) rfl (Or.inl ⟨rfl, rfl⟩) rfl (by decide +kernel) rfl rfl (by omega) (by show (v2 2) < ((31 : Nat) : Int); omega) (fun r hr q1 q2 => by rw [List.mem_singleton.mp hr]; exact ⟨rfl, by show ((2147483648 : Nat) : Int) ≤ (v2 4) + 2147483648; omega, by show (v2 4) + 2147483648 ≤ ((2147483652 : Nat) : Int); omega⟩) (zyin_iff.mpr ⟨(11, 0, 30), by decide, rfl, (by show 0 ≤ Int.toNat (v2 2); omega), by show Int.toNat (v2 2) ≤ 30; omega⟩) (fun H3 hT3 hst3 hne3 hfn3 hFr3 => ?_)
      have hfe3 : ∀ (a2 : Nat) (k2 : Int), ¬ a2 = 11 → xE (zyEl zymc B H3) a2 k2 = xE (zyEl zymc B H2) a2 k2 := fun a2 k2 hne => by unfold xE; rw [hfn3 a2 k2.toNat (fun z => hne z.1)]
      have d35_4 : xE (zyEl zymc B H3) 35 4 = xE (zyEl zymc B H2) 35 4 := hfe3 35 4 (fun z => absurd z (by decide))
      have d35_5 : xE (zyEl zymc B H3) 35 5 = xE (zyEl zymc B H2) 35 5 := hfe3 35 5 (fun z => absurd z (by decide))
      have d35_6 : xE (zyEl zymc B H3) 35 6 = xE (zyEl zymc B H2) 35 6 := hfe3 35 6 (fun z => absurd z (by decide))
      have d35_7 : xE (zyEl zymc B H3) 35 7 = xE (zyEl zymc B H2) 35 7 := hfe3 35 7 (fun z => absurd z (by decide))
      have d35_8 : xE (zyEl zymc B H3) 35 8 = xE (zyEl zymc B H2) 35 8 := hfe3 35 8 (fun z => absurd z (by decide))
      have d35_2 : xE (zyEl zymc B H3) 35 2 = xE (zyEl zymc B H2) 35 2 := hfe3 35 2 (fun z => absurd z (by decide))
      have d35_3 : xE (zyEl zymc B H3) 35 3 = xE (zyEl zymc B H2) 35 3 := hfe3 35 3 (fun z => absurd z (by decide))
      have d2_3 : xE (zyEl zymc B H3) 2 3 = xE (zyEl zymc B H2) 2 3 := hfe3 2 3 (fun z => absurd z (by decide))
      refine ⟨⟨6, by decide⟩, [0, 0, 0, 0, 0], [0, 0, 0, 0, 0], rfl, ⟨by decide +kernel, ⟨rfl, by decide +kernel⟩, (xcs_c rfl (xcs_c rfl (xcs_c rfl (xcs_c rfl (xcs_c rfl xcs_n))))), (xe_0 (xe_0 (xe_0 (xe_0 (xe_0 xe_n))))), xkq_n⟩, rfl, ?_, ?_⟩
      · show (∃ g b l, (0 ≤ g ∧ g < xE (zyEl zymc B s.heap) 2 3) ∧ (∀ S, xAb0 (zyEl zymc B s.heap) S → pBind (pSwitch (xE (zyEl zymc B s.heap) 36) (xE (zyEl zymc B s.heap) 35 4) (xE (zyEl zymc B s.heap) 35 6) S) (pSem (xE (zyEl zymc B s.heap) 36) (xE (zyEl zymc B s.heap) 35 4)) = .ok (xE (zyEl zymc B H3) 35 6, uS (uS S (8 + g) b) (40 + g) l)) ∧ xE (zyEl zymc B H3) 10 g = b ∧ (∀ k, 0 ≤ k → ¬ k = g → xE (zyEl zymc B H3) 10 k = xE (zyEl zymc B s.heap) 10 k) ∧ xE (zyEl zymc B H3) 11 g = l ∧ (∀ k, 0 ≤ k → ¬ k = g → xE (zyEl zymc B H3) 11 k = xE (zyEl zymc B s.heap) 11 k)) ∧ (xE (zyEl zymc B H3) 35 2 = xE (zyEl zymc B s.heap) 35 2 ∧ xE (zyEl zymc B H3) 35 3 = xE (zyEl zymc B s.heap) 35 3)
        refine ⟨?_, ?_⟩
        · skip
          refine ⟨v2 2, v2 3, v2 4, by omega, fun S hS => ?_, ?_, ?_, hst3, ?_⟩
          · rw [i2 S hS, show xE (zyEl zymc B H) 35 6 = xE (zyEl zymc B H3) 35 6 by omega]
          · rw [hfe3 10 (v2 2) (fun z => absurd z (by decide)), e10, i3]
          · intro k k0 k1
            rw [hfe3 10 k (fun z => absurd z (by decide)), e10, i4 k k0 k1]
          · intro k k0 k1
            rw [hne3 11 k k0 (fun z => k1 z.2), e11 k, i5 k]
        · omega
      · show 1 < 2
        omega
    · cases hx
  · intro x0 E0 E E2 hrx hT0 hΦ i v hT hrv hInv hKc hFr0 x hx v2 hr2 hXs hag hfr hFr hT2
    rcases i with ⟨i, hi⟩
    have hi2 : i = 0 ∨ i = 1 ∨ i = 2 ∨ i = 3 ∨ i = 4 ∨ i = 5 ∨ i = 6 := by omega
    rcases hi2 with rfl | rfl | rfl | rfl | rfl | rfl | rfl
    · cases hx
    · have hx : x ∈ [zxfrs0_br0] := hx
      have hag : ∀ k, k < 6 → v2 k = v k := hag
      have hfr : xFr [] _ _ := hfr
      have ex := List.mem_singleton.mp hx
      subst ex
      obtain ⟨hF, hBd, hM⟩ := hXs
      have g5 : v2 5 = v 5 := hag 5 (by decide)
      have b0 : ((2147483648 : Nat) : Int) ≤ (v2 5) + 2147483648 ∧ (v2 5) + 2147483648 ≤ ((2147483648 : Nat) : Int) := xXb hBd 0 rfl
      have f0 : (v2 5) = 0 := xXf hF 0 rfl
      have e35_4 : xE E2 35 4 = xE E 35 4 := xFr_E hfr rfl
      have q35_4 : xE E 35 4 = xE E0 35 4 := xFr_E hFr0 rfl
      have e35_5 : xE E2 35 5 = xE E 35 5 := xFr_E hfr rfl
      have e35_6 : xE E2 35 6 = xE E 35 6 := xFr_E hfr rfl
      have e35_7 : xE E2 35 7 = xE E 35 7 := xFr_E hfr rfl
      have e35_8 : xE E2 35 8 = xE E 35 8 := xFr_E hfr rfl
      have e35_2 : xE E2 35 2 = xE E 35 2 := xFr_E hfr rfl
      have e35_3 : xE E2 35 3 = xE E 35 3 := xFr_E hfr rfl
      have e2_3 : xE E2 2 3 = xE E 2 3 := xFr_E hfr rfl
      have q2_3 : xE E 2 3 = xE E0 2 3 := xFr_E hFr0 rfl
      have e36 : ∀ i, xE E2 36 i = xE E 36 i := fun i => xFr_E hfr rfl
      have q36 : ∀ i, xE E 36 i = xE E0 36 i := fun i => xFr_E hFr0 rfl
      have e10 : ∀ i, xE E2 10 i = xE E 10 i := fun i => xFr_E hfr rfl
      have e11 : ∀ i, xE E2 11 i = xE E 11 i := fun i => xFr_E hfr rfl
      have y2_3 : ((2147483648 : Nat) : Int) ≤ xE E0 2 3 + 2147483648 ∧ xE E0 2 3 + 2147483648 ≤ ((2147483679 : Nat) : Int) := xTyF hT0 2 3 3 rfl rfl rfl rfl rfl rfl
      have hI : (xTN (xE E0 36) (xE E0 35 4) (xE E0 35 6) 0 (xE E0 2 3 - 1) E (v 5) ∧ (∀ k, xE E 10 k = xE E0 10 k) ∧ (∀ k, xE E 11 k = xE E0 11 k)) ∧ (¬ (v 5) = 0 → (xE E 35 2 = xE E0 35 2 ∧ xE E 35 3 = xE E0 35 3)) := hInv
      obtain ⟨hI, hSm⟩ := hI
      show xΨfrs0S x0 E0 E2 0
      refine ⟨?_, ?_⟩
      · show xΨfrs0 x0 E0 E2 0
        obtain ⟨i1, j0, j1⟩ := hI
        have hz : (v 5) = 0 := by omega
        intro S hS
        have e : pSwitch (xE E0 36) (xE E0 35 4) (xE E0 35 6) S = Except.error (xE E 35 2, xE E 35 3) := by unfold pSwitch; rw [← hS.2.1.2.2.2]; exact xtn_0 i1 hz _
        show xOut0 (pBind (pSwitch (xE E0 36) (xE E0 35 4) (xE E0 35 6) S) (pSem (xE E0 36) (xE E0 35 4))) E2 0
        rw [e]
        exact xOut0_e (by omega) (by omega) (by omega)
      · show (¬ (0) = 0 → (xE E2 35 2 = xE E0 35 2 ∧ xE E2 35 3 = xE E0 35 3))
        omega
    · have hx : x ∈ [zxfrs0_cr0] := hx
      have hag : ∀ k, k < 6 → v2 k = v k := hag
      have hfr : xFr [] _ _ := hfr
      have ex := List.mem_singleton.mp hx
      subst ex
      obtain ⟨hF, hBd, hM⟩ := hXs
      have g2 : v2 2 = v 2 := hag 2 (by decide)
      have g5 : v2 5 = v 5 := hag 5 (by decide)
      have b0 : ((2147483648 : Nat) : Int) ≤ (v2 5) + 2147483648 ∧ (v2 5) + 2147483648 ≤ ((2147483648 : Nat) : Int) := xXb hBd 0 rfl
      have f0 : (v2 5) = 0 := xXf hF 0 rfl
      have e35_4 : xE E2 35 4 = xE E 35 4 := xFr_E hfr rfl
      have q35_4 : xE E 35 4 = xE E0 35 4 := xFr_E hFr0 rfl
      have e35_5 : xE E2 35 5 = xE E 35 5 := xFr_E hfr rfl
      have e35_6 : xE E2 35 6 = xE E 35 6 := xFr_E hfr rfl
      have e35_7 : xE E2 35 7 = xE E 35 7 := xFr_E hfr rfl
      have e35_8 : xE E2 35 8 = xE E 35 8 := xFr_E hfr rfl
      have e35_2 : xE E2 35 2 = xE E 35 2 := xFr_E hfr rfl
      have e35_3 : xE E2 35 3 = xE E 35 3 := xFr_E hfr rfl
      have e2_3 : xE E2 2 3 = xE E 2 3 := xFr_E hfr rfl
      have q2_3 : xE E 2 3 = xE E0 2 3 := xFr_E hFr0 rfl
      have e36 : ∀ i, xE E2 36 i = xE E 36 i := fun i => xFr_E hfr rfl
      have q36 : ∀ i, xE E 36 i = xE E0 36 i := fun i => xFr_E hFr0 rfl
      have e10 : ∀ i, xE E2 10 i = xE E 10 i := fun i => xFr_E hfr rfl
      have e11 : ∀ i, xE E2 11 i = xE E 11 i := fun i => xFr_E hfr rfl
      have y2_3 : ((2147483648 : Nat) : Int) ≤ xE E0 2 3 + 2147483648 ∧ xE E0 2 3 + 2147483648 ≤ ((2147483679 : Nat) : Int) := xTyF hT0 2 3 3 rfl rfl rfl rfl rfl rfl
      have hI : ((0 ≤ (v 2) ∧ (v 2) < xE E0 2 3) ∧ ∃ p1, p1 ≤ (xE E0 35 4) ∧ (∀ S, xAb0 E0 S → pSwitch (xE E0 36) (xE E0 35 4) (xE E0 35 6) S = pNum (xE E0 36) (xE E0 35 4) p1 0 1 (fun b p2 => pBits (xE E0 36) (xE E0 35 4) S (v 2) 3 p2 1 b)) ∧ xTN (xE E0 36) (xE E0 35 4) p1 0 1 E (v 5) ∧ (∀ k, xE E 10 k = xE E0 10 k) ∧ (∀ k, xE E 11 k = xE E0 11 k)) ∧ (¬ (v 5) = 0 → (xE E 35 2 = xE E0 35 2 ∧ xE E 35 3 = xE E0 35 3)) := hInv
      obtain ⟨hI, hSm⟩ := hI
      show xΨfrs0S x0 E0 E2 0
      refine ⟨?_, ?_⟩
      · show xΨfrs0 x0 E0 E2 0
        obtain ⟨i1, p1, i0, i2, i3, j0, j1⟩ := hI
        have hb := tNx_b (T := xE E0 36) (n := xE E0 35 4) (p := p1) i0
        have hz : (v 5) = 0 := by omega
        intro S hS
        have e : pSwitch (xE E0 36) (xE E0 35 4) (xE E0 35 6) S = Except.error (xE E 35 2, xE E 35 3) := (i2 S hS).trans (xtn_0 i3 hz _)
        show xOut0 (pBind (pSwitch (xE E0 36) (xE E0 35 4) (xE E0 35 6) S) (pSem (xE E0 36) (xE E0 35 4))) E2 0
        rw [e]
        exact xOut0_e (by omega) (by omega) (by omega)
      · show (¬ (0) = 0 → (xE E2 35 2 = xE E0 35 2 ∧ xE E2 35 3 = xE E0 35 3))
        omega
    · have hx : x ∈ [zxfrs0_dr0] := hx
      have hag : ∀ k, k < 7 → v2 k = v k := hag
      have hfr : xFr [(35, 2, 3)] _ _ := hfr
      have ex := List.mem_singleton.mp hx
      subst ex
      obtain ⟨hF, hBd, hM⟩ := hXs
      have g2 : v2 2 = v 2 := hag 2 (by decide)
      have g3 : v2 3 = v 3 := hag 3 (by decide)
      have g4 : v2 4 = v 4 := hag 4 (by decide)
      have g5 : v2 5 = v 5 := hag 5 (by decide)
      have g6 : v2 6 = v 6 := hag 6 (by decide)
      have b0 : ((2147483653 : Nat) : Int) ≤ (v2 4) + 2147483648 ∧ (v2 4) + 2147483648 ≤ ((2147483653 : Nat) : Int) := xXb hBd 0 rfl
      have b1 : ((2147483648 : Nat) : Int) ≤ (v2 7) + 2147483648 ∧ (v2 7) + 2147483648 ≤ ((2147484548 : Nat) : Int) := xXb hBd 1 rfl
      have k0 : xE E 35 2 = v 5 := xKcf hKc 0 rfl rfl
      have k1 : xE E 35 3 = v 6 := xKcf hKc 1 rfl rfl
      have f0 : 4 < (v2 4) := xXf hF 0 rfl
      have f1 : (0 : Int) ≤ 5 ∧ xE E 35 5 = (v2 7) := xXf hF 1 rfl
      have m0 : xE E2 35 2 = 6 := xXm hM 0 rfl
      have m1 : xE E2 35 3 = (v2 7) := xXm hM 1 rfl
      have e35_4 : xE E2 35 4 = xE E 35 4 := xFr_E hfr rfl
      have q35_4 : xE E 35 4 = xE E0 35 4 := xFr_E hFr0 rfl
      have e35_5 : xE E2 35 5 = xE E 35 5 := xFr_E hfr rfl
      have e35_6 : xE E2 35 6 = xE E 35 6 := xFr_E hfr rfl
      have e35_7 : xE E2 35 7 = xE E 35 7 := xFr_E hfr rfl
      have e35_8 : xE E2 35 8 = xE E 35 8 := xFr_E hfr rfl
      have e2_3 : xE E2 2 3 = xE E 2 3 := xFr_E hfr rfl
      have q2_3 : xE E 2 3 = xE E0 2 3 := xFr_E hFr0 rfl
      have e36 : ∀ i, xE E2 36 i = xE E 36 i := fun i => xFr_E hfr rfl
      have q36 : ∀ i, xE E 36 i = xE E0 36 i := fun i => xFr_E hFr0 rfl
      have e10 : ∀ i, xE E2 10 i = xE E 10 i := fun i => xFr_E hfr rfl
      have e11 : ∀ i, xE E2 11 i = xE E 11 i := fun i => xFr_E hfr rfl
      have y2_3 : ((2147483648 : Nat) : Int) ≤ xE E0 2 3 + 2147483648 ∧ xE E0 2 3 + 2147483648 ≤ ((2147483679 : Nat) : Int) := xTyF hT0 2 3 3 rfl rfl rfl rfl rfl rfl
      have hI : ((0 ≤ (v 2) ∧ (v 2) < xE E0 2 3) ∧ xE E 35 6 ≤ (xE E0 35 4) ∧ ((∀ k, xE E 10 k = xE E0 10 k) ∧ (∀ k, xE E 11 k = xE E0 11 k)) ∧ ((1 ≤ (v 4) ∧ (v 4) ≤ 4 ∧ ∀ S, xAb0 E0 S → pSwitch (xE E0 36) (xE E0 35 4) (xE E0 35 6) S = pBits (xE E0 36) (xE E0 35 4) S (v 2) (4 - (v 4)).toNat (xE E 35 6) (v 4) (v 3)) ∨ ((v 4) = 5 ∧ ∀ S, xAb0 E0 S → pSwitch (xE E0 36) (xE E0 35 4) (xE E0 35 6) S = .error (6, xE E 35 5)))) ∧ (xE E 35 2 = xE E0 35 2 ∧ xE E 35 3 = xE E0 35 3) := hInv
      obtain ⟨hI, hSm⟩ := hI
      show xΨfrs0S x0 E0 E2 0
      refine ⟨?_, ?_⟩
      · show xΨfrs0 x0 E0 E2 0
        obtain ⟨i1, i0, ⟨j0, j1⟩, i2⟩ := hI
        rcases i2 with ⟨-, w, -⟩ | ⟨-, i2⟩
        · omega
        intro S hS
        have e : pSwitch (xE E0 36) (xE E0 35 4) (xE E0 35 6) S = Except.error (6, xE E 35 5) := i2 S hS
        show xOut0 (pBind (pSwitch (xE E0 36) (xE E0 35 4) (xE E0 35 6) S) (pSem (xE E0 36) (xE E0 35 4))) E2 0
        rw [e]
        exact xOut0_e (by omega) (by omega) (by omega)
      · show (¬ (0) = 0 → (xE E2 35 2 = xE E0 35 2 ∧ xE E2 35 3 = xE E0 35 3))
        omega
    · have hx : x ∈ [zxfrs0_er0, zxfrs0_er1, zxfrs0_er2, zxfrs0_er3, zxfrs0_er4, zxfrs0_er5] := hx
      have hag : ∀ k, k < 7 → v2 k = v k := hag
      have hfr : xFr [(35, 2, 3)] _ _ := hfr
      rcases List.mem_cons.mp hx with ex | hx
      · subst ex
        obtain ⟨hF, hBd, hM⟩ := hXs
        have g2 : v2 2 = v 2 := hag 2 (by decide)
        have g3 : v2 3 = v 3 := hag 3 (by decide)
        have g4 : v2 4 = v 4 := hag 4 (by decide)
        have g5 : v2 5 = v 5 := hag 5 (by decide)
        have g6 : v2 6 = v 6 := hag 6 (by decide)
        have b0 : ((2147483652 : Nat) : Int) ≤ (v2 7) + 2147483648 ∧ (v2 7) + 2147483648 ≤ ((2147483652 : Nat) : Int) := xXb hBd 0 rfl
        have b1 : ((2147483648 : Nat) : Int) ≤ (v2 8) + 2147483648 ∧ (v2 8) + 2147483648 ≤ ((2147484548 : Nat) : Int) := xXb hBd 1 rfl
        have k0 : xE E 35 2 = v 5 := xKcf hKc 0 rfl rfl
        have k1 : xE E 35 3 = v 6 := xKcf hKc 1 rfl rfl
        have f0 : (0 : Int) ≤ 7 ∧ xE E 35 7 = (v2 7) := xXf hF 0 rfl
        have f1 : ¬ (v2 7) = 5 := xXf hF 1 rfl
        have f2 : ¬ (v2 7) = 3 := xXf hF 2 rfl
        have f3 : ¬ (v2 7) = 1 := xXf hF 3 rfl
        have f4 : (0 : Int) ≤ 5 ∧ xE E 35 5 = (v2 8) := xXf hF 4 rfl
        have m0 : xE E2 35 2 = 2 := xXm hM 0 rfl
        have m1 : xE E2 35 3 = (v2 8) := xXm hM 1 rfl
        have e35_4 : xE E2 35 4 = xE E 35 4 := xFr_E hfr rfl
        have q35_4 : xE E 35 4 = xE E0 35 4 := xFr_E hFr0 rfl
        have e35_5 : xE E2 35 5 = xE E 35 5 := xFr_E hfr rfl
        have e35_6 : xE E2 35 6 = xE E 35 6 := xFr_E hfr rfl
        have e35_7 : xE E2 35 7 = xE E 35 7 := xFr_E hfr rfl
        have e35_8 : xE E2 35 8 = xE E 35 8 := xFr_E hfr rfl
        have e2_3 : xE E2 2 3 = xE E 2 3 := xFr_E hfr rfl
        have q2_3 : xE E 2 3 = xE E0 2 3 := xFr_E hFr0 rfl
        have e36 : ∀ i, xE E2 36 i = xE E 36 i := fun i => xFr_E hfr rfl
        have q36 : ∀ i, xE E 36 i = xE E0 36 i := fun i => xFr_E hFr0 rfl
        have e10 : ∀ i, xE E2 10 i = xE E 10 i := fun i => xFr_E hfr rfl
        have e11 : ∀ i, xE E2 11 i = xE E 11 i := fun i => xFr_E hfr rfl
        have y2_3 : ((2147483648 : Nat) : Int) ≤ xE E0 2 3 + 2147483648 ∧ xE E0 2 3 + 2147483648 ≤ ((2147483679 : Nat) : Int) := xTyF hT0 2 3 3 rfl rfl rfl rfl rfl rfl
        have hI : ((0 ≤ (v 2) ∧ (v 2) < xE E0 2 3) ∧ (1 ≤ (v 4) ∧ (v 4) ≤ 4) ∧ ∃ p1, p1 ≤ (xE E0 35 4) ∧ (∀ S, xAb0 E0 S → pSwitch (xE E0 36) (xE E0 35 4) (xE E0 35 6) S = pBits (xE E0 36) (xE E0 35 4) S (v 2) (4 - (v 4)).toNat p1 (v 4) (v 3)) ∧ xAD (xE E0 36) (xE E0 35 4) p1 E ∧ (∀ k, xE E 10 k = xE E0 10 k) ∧ (∀ k, xE E 11 k = xE E0 11 k)) ∧ (xE E 35 2 = xE E0 35 2 ∧ xE E 35 3 = xE E0 35 3) := hInv
        obtain ⟨hI, hSm⟩ := hI
        show xΨfrs0S x0 E0 E2 0
        refine ⟨?_, ?_⟩
        · show xΨfrs0 x0 E0 E2 0
          obtain ⟨i1, i2, p1, i0, i3, ⟨i4, i5, i6, i7⟩, j0, j1⟩ := hI
          have hb := tNx_b (T := xE E0 36) (n := xE E0 35 4) (p := p1) i0
          rw [show (v 2) = v2 2 by omega, show (v 3) = v2 3 by omega, show (v 4) = v2 4 by omega] at i3
          have hpb : ∀ S, xAb0 E0 S → pSwitch (xE E0 36) (xE E0 35 4) (xE E0 35 6) S = .ok (p1, uS (uS S (8 + v2 2) (v2 3)) (40 + v2 2) (v2 4)) := by
            intro S hS
            rw [i3 S hS]
            cases (4 - v2 4).toNat with
            | zero =>
              unfold pBits
              rw [if_neg (by omega)]
            | succ f =>
              show (if tKd (xE E0 36) (xE E0 35 4) p1 = 3 then _ else _) = _
              rw [if_neg (by omega)]
          have hm : pMis (xE E0 36) (xE E0 35 4) p1 = 2 := by unfold pMis; rw [if_neg (by omega)]
          intro S hS
          show xOut0 (pBind (pSwitch (xE E0 36) (xE E0 35 4) (xE E0 35 6) S) (pSem (xE E0 36) (xE E0 35 4))) E2 0
          rw [hpb S hS]
          show xOut0 (pSem (xE E0 36) (xE E0 35 4) p1 _) E2 0
          unfold pSem
          rw [if_neg (by omega), hm]
          exact xOut0_f (by omega) (by omega) (by omega)
        · show (¬ (0) = 0 → (xE E2 35 2 = xE E0 35 2 ∧ xE E2 35 3 = xE E0 35 3))
          omega
      · skip
        rcases List.mem_cons.mp hx with ex | hx
        · subst ex
          obtain ⟨hF, hBd, hM⟩ := hXs
          have g2 : v2 2 = v 2 := hag 2 (by decide)
          have g3 : v2 3 = v 3 := hag 3 (by decide)
          have g4 : v2 4 = v 4 := hag 4 (by decide)
          have g5 : v2 5 = v 5 := hag 5 (by decide)
          have g6 : v2 6 = v 6 := hag 6 (by decide)
          have b0 : ((2147483650 : Nat) : Int) ≤ (v2 7) + 2147483648 ∧ (v2 7) + 2147483648 ≤ ((2147483650 : Nat) : Int) := xXb hBd 0 rfl
          have b1 : ((2147483648 : Nat) : Int) ≤ (v2 8) + 2147483648 ∧ (v2 8) + 2147483648 ≤ ((2147484548 : Nat) : Int) := xXb hBd 1 rfl
          have k0 : xE E 35 2 = v 5 := xKcf hKc 0 rfl rfl
          have k1 : xE E 35 3 = v 6 := xKcf hKc 1 rfl rfl
          have f0 : (0 : Int) ≤ 7 ∧ xE E 35 7 = (v2 7) := xXf hF 0 rfl
          have f1 : ¬ (v2 7) = 5 := xXf hF 1 rfl
          have f2 : ¬ (v2 7) = 3 := xXf hF 2 rfl
          have f3 : ¬ (v2 7) = 1 := xXf hF 3 rfl
          have f4 : (0 : Int) ≤ 5 ∧ xE E 35 5 = (v2 8) := xXf hF 4 rfl
          have m0 : xE E2 35 2 = 2 := xXm hM 0 rfl
          have m1 : xE E2 35 3 = (v2 8) := xXm hM 1 rfl
          have e35_4 : xE E2 35 4 = xE E 35 4 := xFr_E hfr rfl
          have q35_4 : xE E 35 4 = xE E0 35 4 := xFr_E hFr0 rfl
          have e35_5 : xE E2 35 5 = xE E 35 5 := xFr_E hfr rfl
          have e35_6 : xE E2 35 6 = xE E 35 6 := xFr_E hfr rfl
          have e35_7 : xE E2 35 7 = xE E 35 7 := xFr_E hfr rfl
          have e35_8 : xE E2 35 8 = xE E 35 8 := xFr_E hfr rfl
          have e2_3 : xE E2 2 3 = xE E 2 3 := xFr_E hfr rfl
          have q2_3 : xE E 2 3 = xE E0 2 3 := xFr_E hFr0 rfl
          have e36 : ∀ i, xE E2 36 i = xE E 36 i := fun i => xFr_E hfr rfl
          have q36 : ∀ i, xE E 36 i = xE E0 36 i := fun i => xFr_E hFr0 rfl
          have e10 : ∀ i, xE E2 10 i = xE E 10 i := fun i => xFr_E hfr rfl
          have e11 : ∀ i, xE E2 11 i = xE E 11 i := fun i => xFr_E hfr rfl
          have y2_3 : ((2147483648 : Nat) : Int) ≤ xE E0 2 3 + 2147483648 ∧ xE E0 2 3 + 2147483648 ≤ ((2147483679 : Nat) : Int) := xTyF hT0 2 3 3 rfl rfl rfl rfl rfl rfl
          have hI : ((0 ≤ (v 2) ∧ (v 2) < xE E0 2 3) ∧ (1 ≤ (v 4) ∧ (v 4) ≤ 4) ∧ ∃ p1, p1 ≤ (xE E0 35 4) ∧ (∀ S, xAb0 E0 S → pSwitch (xE E0 36) (xE E0 35 4) (xE E0 35 6) S = pBits (xE E0 36) (xE E0 35 4) S (v 2) (4 - (v 4)).toNat p1 (v 4) (v 3)) ∧ xAD (xE E0 36) (xE E0 35 4) p1 E ∧ (∀ k, xE E 10 k = xE E0 10 k) ∧ (∀ k, xE E 11 k = xE E0 11 k)) ∧ (xE E 35 2 = xE E0 35 2 ∧ xE E 35 3 = xE E0 35 3) := hInv
          obtain ⟨hI, hSm⟩ := hI
          show xΨfrs0S x0 E0 E2 0
          refine ⟨?_, ?_⟩
          · show xΨfrs0 x0 E0 E2 0
            obtain ⟨i1, i2, p1, i0, i3, ⟨i4, i5, i6, i7⟩, j0, j1⟩ := hI
            have hb := tNx_b (T := xE E0 36) (n := xE E0 35 4) (p := p1) i0
            rw [show (v 2) = v2 2 by omega, show (v 3) = v2 3 by omega, show (v 4) = v2 4 by omega] at i3
            have hpb : ∀ S, xAb0 E0 S → pSwitch (xE E0 36) (xE E0 35 4) (xE E0 35 6) S = .ok (p1, uS (uS S (8 + v2 2) (v2 3)) (40 + v2 2) (v2 4)) := by
              intro S hS
              rw [i3 S hS]
              cases (4 - v2 4).toNat with
              | zero =>
                unfold pBits
                rw [if_neg (by omega)]
              | succ f =>
                show (if tKd (xE E0 36) (xE E0 35 4) p1 = 3 then _ else _) = _
                rw [if_neg (by omega)]
            have hm : pMis (xE E0 36) (xE E0 35 4) p1 = 2 := by unfold pMis; rw [if_neg (by omega)]
            intro S hS
            show xOut0 (pBind (pSwitch (xE E0 36) (xE E0 35 4) (xE E0 35 6) S) (pSem (xE E0 36) (xE E0 35 4))) E2 0
            rw [hpb S hS]
            show xOut0 (pSem (xE E0 36) (xE E0 35 4) p1 _) E2 0
            unfold pSem
            rw [if_neg (by omega), hm]
            exact xOut0_f (by omega) (by omega) (by omega)
          · show (¬ (0) = 0 → (xE E2 35 2 = xE E0 35 2 ∧ xE E2 35 3 = xE E0 35 3))
            omega
        · skip
          rcases List.mem_cons.mp hx with ex | hx
          · subst ex
            obtain ⟨hF, hBd, hM⟩ := hXs
            have g2 : v2 2 = v 2 := hag 2 (by decide)
            have g3 : v2 3 = v 3 := hag 3 (by decide)
            have g4 : v2 4 = v 4 := hag 4 (by decide)
            have g5 : v2 5 = v 5 := hag 5 (by decide)
            have g6 : v2 6 = v 6 := hag 6 (by decide)
            have b0 : ((2147483648 : Nat) : Int) ≤ (v2 7) + 2147483648 ∧ (v2 7) + 2147483648 ≤ ((2147483648 : Nat) : Int) := xXb hBd 0 rfl
            have b1 : ((2147483648 : Nat) : Int) ≤ (v2 8) + 2147483648 ∧ (v2 8) + 2147483648 ≤ ((2147484548 : Nat) : Int) := xXb hBd 1 rfl
            have k0 : xE E 35 2 = v 5 := xKcf hKc 0 rfl rfl
            have k1 : xE E 35 3 = v 6 := xKcf hKc 1 rfl rfl
            have f0 : (0 : Int) ≤ 7 ∧ xE E 35 7 = (v2 7) := xXf hF 0 rfl
            have f1 : ¬ (v2 7) = 5 := xXf hF 1 rfl
            have f2 : ¬ (v2 7) = 3 := xXf hF 2 rfl
            have f3 : ¬ (v2 7) = 1 := xXf hF 3 rfl
            have f4 : (0 : Int) ≤ 5 ∧ xE E 35 5 = (v2 8) := xXf hF 4 rfl
            have m0 : xE E2 35 2 = 2 := xXm hM 0 rfl
            have m1 : xE E2 35 3 = (v2 8) := xXm hM 1 rfl
            have e35_4 : xE E2 35 4 = xE E 35 4 := xFr_E hfr rfl
            have q35_4 : xE E 35 4 = xE E0 35 4 := xFr_E hFr0 rfl
            have e35_5 : xE E2 35 5 = xE E 35 5 := xFr_E hfr rfl
            have e35_6 : xE E2 35 6 = xE E 35 6 := xFr_E hfr rfl
            have e35_7 : xE E2 35 7 = xE E 35 7 := xFr_E hfr rfl
            have e35_8 : xE E2 35 8 = xE E 35 8 := xFr_E hfr rfl
            have e2_3 : xE E2 2 3 = xE E 2 3 := xFr_E hfr rfl
            have q2_3 : xE E 2 3 = xE E0 2 3 := xFr_E hFr0 rfl
            have e36 : ∀ i, xE E2 36 i = xE E 36 i := fun i => xFr_E hfr rfl
            have q36 : ∀ i, xE E 36 i = xE E0 36 i := fun i => xFr_E hFr0 rfl
            have e10 : ∀ i, xE E2 10 i = xE E 10 i := fun i => xFr_E hfr rfl
            have e11 : ∀ i, xE E2 11 i = xE E 11 i := fun i => xFr_E hfr rfl
            have y2_3 : ((2147483648 : Nat) : Int) ≤ xE E0 2 3 + 2147483648 ∧ xE E0 2 3 + 2147483648 ≤ ((2147483679 : Nat) : Int) := xTyF hT0 2 3 3 rfl rfl rfl rfl rfl rfl
            have hI : ((0 ≤ (v 2) ∧ (v 2) < xE E0 2 3) ∧ (1 ≤ (v 4) ∧ (v 4) ≤ 4) ∧ ∃ p1, p1 ≤ (xE E0 35 4) ∧ (∀ S, xAb0 E0 S → pSwitch (xE E0 36) (xE E0 35 4) (xE E0 35 6) S = pBits (xE E0 36) (xE E0 35 4) S (v 2) (4 - (v 4)).toNat p1 (v 4) (v 3)) ∧ xAD (xE E0 36) (xE E0 35 4) p1 E ∧ (∀ k, xE E 10 k = xE E0 10 k) ∧ (∀ k, xE E 11 k = xE E0 11 k)) ∧ (xE E 35 2 = xE E0 35 2 ∧ xE E 35 3 = xE E0 35 3) := hInv
            obtain ⟨hI, hSm⟩ := hI
            show xΨfrs0S x0 E0 E2 0
            refine ⟨?_, ?_⟩
            · show xΨfrs0 x0 E0 E2 0
              obtain ⟨i1, i2, p1, i0, i3, ⟨i4, i5, i6, i7⟩, j0, j1⟩ := hI
              have hb := tNx_b (T := xE E0 36) (n := xE E0 35 4) (p := p1) i0
              rw [show (v 2) = v2 2 by omega, show (v 3) = v2 3 by omega, show (v 4) = v2 4 by omega] at i3
              have hpb : ∀ S, xAb0 E0 S → pSwitch (xE E0 36) (xE E0 35 4) (xE E0 35 6) S = .ok (p1, uS (uS S (8 + v2 2) (v2 3)) (40 + v2 2) (v2 4)) := by
                intro S hS
                rw [i3 S hS]
                cases (4 - v2 4).toNat with
                | zero =>
                  unfold pBits
                  rw [if_neg (by omega)]
                | succ f =>
                  show (if tKd (xE E0 36) (xE E0 35 4) p1 = 3 then _ else _) = _
                  rw [if_neg (by omega)]
              have hm : pMis (xE E0 36) (xE E0 35 4) p1 = 2 := by unfold pMis; rw [if_neg (by omega)]
              intro S hS
              show xOut0 (pBind (pSwitch (xE E0 36) (xE E0 35 4) (xE E0 35 6) S) (pSem (xE E0 36) (xE E0 35 4))) E2 0
              rw [hpb S hS]
              show xOut0 (pSem (xE E0 36) (xE E0 35 4) p1 _) E2 0
              unfold pSem
              rw [if_neg (by omega), hm]
              exact xOut0_f (by omega) (by omega) (by omega)
            · show (¬ (0) = 0 → (xE E2 35 2 = xE E0 35 2 ∧ xE E2 35 3 = xE E0 35 3))
              omega
          · skip
            rcases List.mem_cons.mp hx with ex | hx
            · subst ex
              obtain ⟨hF, hBd, hM⟩ := hXs
              have g2 : v2 2 = v 2 := hag 2 (by decide)
              have g3 : v2 3 = v 3 := hag 3 (by decide)
              have g4 : v2 4 = v 4 := hag 4 (by decide)
              have g5 : v2 5 = v 5 := hag 5 (by decide)
              have g6 : v2 6 = v 6 := hag 6 (by decide)
              have b0 : ((2147483649 : Nat) : Int) ≤ (v2 7) + 2147483648 ∧ (v2 7) + 2147483648 ≤ ((2147483649 : Nat) : Int) := xXb hBd 0 rfl
              have b1 : ((2147483648 : Nat) : Int) ≤ (v2 8) + 2147483648 ∧ (v2 8) + 2147483648 ≤ ((2147484548 : Nat) : Int) := xXb hBd 1 rfl
              have k0 : xE E 35 2 = v 5 := xKcf hKc 0 rfl rfl
              have k1 : xE E 35 3 = v 6 := xKcf hKc 1 rfl rfl
              have f0 : (0 : Int) ≤ 7 ∧ xE E 35 7 = (v2 7) := xXf hF 0 rfl
              have f1 : ¬ (v2 7) = 5 := xXf hF 1 rfl
              have f2 : ¬ (v2 7) = 3 := xXf hF 2 rfl
              have f3 : (v2 7) = 1 := xXf hF 3 rfl
              have f4 : (0 : Int) ≤ 5 ∧ xE E 35 5 = (v2 8) := xXf hF 4 rfl
              have m0 : xE E2 35 2 = 1 := xXm hM 0 rfl
              have m1 : xE E2 35 3 = (v2 8) := xXm hM 1 rfl
              have e35_4 : xE E2 35 4 = xE E 35 4 := xFr_E hfr rfl
              have q35_4 : xE E 35 4 = xE E0 35 4 := xFr_E hFr0 rfl
              have e35_5 : xE E2 35 5 = xE E 35 5 := xFr_E hfr rfl
              have e35_6 : xE E2 35 6 = xE E 35 6 := xFr_E hfr rfl
              have e35_7 : xE E2 35 7 = xE E 35 7 := xFr_E hfr rfl
              have e35_8 : xE E2 35 8 = xE E 35 8 := xFr_E hfr rfl
              have e2_3 : xE E2 2 3 = xE E 2 3 := xFr_E hfr rfl
              have q2_3 : xE E 2 3 = xE E0 2 3 := xFr_E hFr0 rfl
              have e36 : ∀ i, xE E2 36 i = xE E 36 i := fun i => xFr_E hfr rfl
              have q36 : ∀ i, xE E 36 i = xE E0 36 i := fun i => xFr_E hFr0 rfl
              have e10 : ∀ i, xE E2 10 i = xE E 10 i := fun i => xFr_E hfr rfl
              have e11 : ∀ i, xE E2 11 i = xE E 11 i := fun i => xFr_E hfr rfl
              have y2_3 : ((2147483648 : Nat) : Int) ≤ xE E0 2 3 + 2147483648 ∧ xE E0 2 3 + 2147483648 ≤ ((2147483679 : Nat) : Int) := xTyF hT0 2 3 3 rfl rfl rfl rfl rfl rfl
              have hI : ((0 ≤ (v 2) ∧ (v 2) < xE E0 2 3) ∧ (1 ≤ (v 4) ∧ (v 4) ≤ 4) ∧ ∃ p1, p1 ≤ (xE E0 35 4) ∧ (∀ S, xAb0 E0 S → pSwitch (xE E0 36) (xE E0 35 4) (xE E0 35 6) S = pBits (xE E0 36) (xE E0 35 4) S (v 2) (4 - (v 4)).toNat p1 (v 4) (v 3)) ∧ xAD (xE E0 36) (xE E0 35 4) p1 E ∧ (∀ k, xE E 10 k = xE E0 10 k) ∧ (∀ k, xE E 11 k = xE E0 11 k)) ∧ (xE E 35 2 = xE E0 35 2 ∧ xE E 35 3 = xE E0 35 3) := hInv
              obtain ⟨hI, hSm⟩ := hI
              show xΨfrs0S x0 E0 E2 0
              refine ⟨?_, ?_⟩
              · show xΨfrs0 x0 E0 E2 0
                obtain ⟨i1, i2, p1, i0, i3, ⟨i4, i5, i6, i7⟩, j0, j1⟩ := hI
                have hb := tNx_b (T := xE E0 36) (n := xE E0 35 4) (p := p1) i0
                rw [show (v 2) = v2 2 by omega, show (v 3) = v2 3 by omega, show (v 4) = v2 4 by omega] at i3
                have hpb : ∀ S, xAb0 E0 S → pSwitch (xE E0 36) (xE E0 35 4) (xE E0 35 6) S = .ok (p1, uS (uS S (8 + v2 2) (v2 3)) (40 + v2 2) (v2 4)) := by
                  intro S hS
                  rw [i3 S hS]
                  cases (4 - v2 4).toNat with
                  | zero =>
                    unfold pBits
                    rw [if_neg (by omega)]
                  | succ f =>
                    show (if tKd (xE E0 36) (xE E0 35 4) p1 = 3 then _ else _) = _
                    rw [if_neg (by omega)]
                have hm : pMis (xE E0 36) (xE E0 35 4) p1 = 1 := by unfold pMis; rw [if_pos (by omega)]
                intro S hS
                show xOut0 (pBind (pSwitch (xE E0 36) (xE E0 35 4) (xE E0 35 6) S) (pSem (xE E0 36) (xE E0 35 4))) E2 0
                rw [hpb S hS]
                show xOut0 (pSem (xE E0 36) (xE E0 35 4) p1 _) E2 0
                unfold pSem
                rw [if_neg (by omega), hm]
                exact xOut0_f (by omega) (by omega) (by omega)
              · show (¬ (0) = 0 → (xE E2 35 2 = xE E0 35 2 ∧ xE E2 35 3 = xE E0 35 3))
                omega
            · skip
              rcases List.mem_cons.mp hx with ex | hx
              · subst ex
                obtain ⟨hF, hBd, hM⟩ := hXs
                have g2 : v2 2 = v 2 := hag 2 (by decide)
                have g3 : v2 3 = v 3 := hag 3 (by decide)
                have g4 : v2 4 = v 4 := hag 4 (by decide)
                have g5 : v2 5 = v 5 := hag 5 (by decide)
                have g6 : v2 6 = v 6 := hag 6 (by decide)
                have b0 : ((2147483651 : Nat) : Int) ≤ (v2 7) + 2147483648 ∧ (v2 7) + 2147483648 ≤ ((2147483651 : Nat) : Int) := xXb hBd 0 rfl
                have b1 : ((0 : Nat) : Int) ≤ (v2 8) + 2147483648 ∧ (v2 8) + 2147483648 ≤ ((2147483647 : Nat) : Int) := xXb hBd 1 rfl
                have b2 : ((2147483648 : Nat) : Int) ≤ (v2 9) + 2147483648 ∧ (v2 9) + 2147483648 ≤ ((2147484548 : Nat) : Int) := xXb hBd 2 rfl
                have k0 : xE E 35 2 = v 5 := xKcf hKc 0 rfl rfl
                have k1 : xE E 35 3 = v 6 := xKcf hKc 1 rfl rfl
                have f0 : (0 : Int) ≤ 7 ∧ xE E 35 7 = (v2 7) := xXf hF 0 rfl
                have f1 : ¬ (v2 7) = 5 := xXf hF 1 rfl
                have f2 : (v2 7) = 3 := xXf hF 2 rfl
                have f3 : (0 : Int) ≤ 8 ∧ xE E 35 8 = (v2 8) := xXf hF 3 rfl
                have f4 : (v2 8) < 0 := xXf hF 4 rfl
                have f5 : (0 : Int) ≤ 5 ∧ xE E 35 5 = (v2 9) := xXf hF 5 rfl
                have m0 : xE E2 35 2 = 3 := xXm hM 0 rfl
                have m1 : xE E2 35 3 = (v2 9) := xXm hM 1 rfl
                have e35_4 : xE E2 35 4 = xE E 35 4 := xFr_E hfr rfl
                have q35_4 : xE E 35 4 = xE E0 35 4 := xFr_E hFr0 rfl
                have e35_5 : xE E2 35 5 = xE E 35 5 := xFr_E hfr rfl
                have e35_6 : xE E2 35 6 = xE E 35 6 := xFr_E hfr rfl
                have e35_7 : xE E2 35 7 = xE E 35 7 := xFr_E hfr rfl
                have e35_8 : xE E2 35 8 = xE E 35 8 := xFr_E hfr rfl
                have e2_3 : xE E2 2 3 = xE E 2 3 := xFr_E hfr rfl
                have q2_3 : xE E 2 3 = xE E0 2 3 := xFr_E hFr0 rfl
                have e36 : ∀ i, xE E2 36 i = xE E 36 i := fun i => xFr_E hfr rfl
                have q36 : ∀ i, xE E 36 i = xE E0 36 i := fun i => xFr_E hFr0 rfl
                have e10 : ∀ i, xE E2 10 i = xE E 10 i := fun i => xFr_E hfr rfl
                have e11 : ∀ i, xE E2 11 i = xE E 11 i := fun i => xFr_E hfr rfl
                have y2_3 : ((2147483648 : Nat) : Int) ≤ xE E0 2 3 + 2147483648 ∧ xE E0 2 3 + 2147483648 ≤ ((2147483679 : Nat) : Int) := xTyF hT0 2 3 3 rfl rfl rfl rfl rfl rfl
                have hI : ((0 ≤ (v 2) ∧ (v 2) < xE E0 2 3) ∧ (1 ≤ (v 4) ∧ (v 4) ≤ 4) ∧ ∃ p1, p1 ≤ (xE E0 35 4) ∧ (∀ S, xAb0 E0 S → pSwitch (xE E0 36) (xE E0 35 4) (xE E0 35 6) S = pBits (xE E0 36) (xE E0 35 4) S (v 2) (4 - (v 4)).toNat p1 (v 4) (v 3)) ∧ xAD (xE E0 36) (xE E0 35 4) p1 E ∧ (∀ k, xE E 10 k = xE E0 10 k) ∧ (∀ k, xE E 11 k = xE E0 11 k)) ∧ (xE E 35 2 = xE E0 35 2 ∧ xE E 35 3 = xE E0 35 3) := hInv
                obtain ⟨hI, hSm⟩ := hI
                show xΨfrs0S x0 E0 E2 0
                refine ⟨?_, ?_⟩
                · show xΨfrs0 x0 E0 E2 0
                  obtain ⟨i1, i2, p1, i0, i3, ⟨i4, i5, i6, i7⟩, j0, j1⟩ := hI
                  have hb := tNx_b (T := xE E0 36) (n := xE E0 35 4) (p := p1) i0
                  rw [show (v 2) = v2 2 by omega, show (v 3) = v2 3 by omega, show (v 4) = v2 4 by omega] at i3
                  have hk : tKd (xE E0 36) (xE E0 35 4) p1 = 3 := by omega
                  have hval := i7 hk
                  intro S hS
                  have e : pSwitch (xE E0 36) (xE E0 35 4) (xE E0 35 6) S = Except.error (3, tFr (xE E0 36) (xE E0 35 4) p1) := by
                    rw [i3 S hS]
                    cases (4 - v2 4).toNat with
                    | zero =>
                      unfold pBits
                      rw [if_pos hk, if_neg (by omega)]
                    | succ f =>
                      show (if tKd (xE E0 36) (xE E0 35 4) p1 = 3 then (if 0 ≤ tNm (xE E0 36) (xE E0 35 4) p1 ∧ tNm (xE E0 36) (xE E0 35 4) p1 ≤ 1 then _ else _) else _) = _
                      rw [if_pos hk, if_neg (by omega)]
                  show xOut0 (pBind (pSwitch (xE E0 36) (xE E0 35 4) (xE E0 35 6) S) (pSem (xE E0 36) (xE E0 35 4))) E2 0
                  rw [e]
                  exact xOut0_e (by omega) (by omega) (by omega)
                · show (¬ (0) = 0 → (xE E2 35 2 = xE E0 35 2 ∧ xE E2 35 3 = xE E0 35 3))
                  omega
              · skip
                have ex := List.mem_singleton.mp hx
                subst ex
                obtain ⟨hF, hBd, hM⟩ := hXs
                have g2 : v2 2 = v 2 := hag 2 (by decide)
                have g3 : v2 3 = v 3 := hag 3 (by decide)
                have g4 : v2 4 = v 4 := hag 4 (by decide)
                have g5 : v2 5 = v 5 := hag 5 (by decide)
                have g6 : v2 6 = v 6 := hag 6 (by decide)
                have b0 : ((2147483651 : Nat) : Int) ≤ (v2 7) + 2147483648 ∧ (v2 7) + 2147483648 ≤ ((2147483651 : Nat) : Int) := xXb hBd 0 rfl
                have b1 : ((2147483650 : Nat) : Int) ≤ (v2 8) + 2147483648 ∧ (v2 8) + 2147483648 ≤ ((4294967295 : Nat) : Int) := xXb hBd 1 rfl
                have b2 : ((2147483648 : Nat) : Int) ≤ (v2 9) + 2147483648 ∧ (v2 9) + 2147483648 ≤ ((2147484548 : Nat) : Int) := xXb hBd 2 rfl
                have k0 : xE E 35 2 = v 5 := xKcf hKc 0 rfl rfl
                have k1 : xE E 35 3 = v 6 := xKcf hKc 1 rfl rfl
                have f0 : (0 : Int) ≤ 7 ∧ xE E 35 7 = (v2 7) := xXf hF 0 rfl
                have f1 : ¬ (v2 7) = 5 := xXf hF 1 rfl
                have f2 : (v2 7) = 3 := xXf hF 2 rfl
                have f3 : (0 : Int) ≤ 8 ∧ xE E 35 8 = (v2 8) := xXf hF 3 rfl
                have f4 : 0 ≤ (v2 8) := xXf hF 4 rfl
                have f5 : 1 < (v2 8) := xXf hF 5 rfl
                have f6 : (0 : Int) ≤ 5 ∧ xE E 35 5 = (v2 9) := xXf hF 6 rfl
                have m0 : xE E2 35 2 = 3 := xXm hM 0 rfl
                have m1 : xE E2 35 3 = (v2 9) := xXm hM 1 rfl
                have e35_4 : xE E2 35 4 = xE E 35 4 := xFr_E hfr rfl
                have q35_4 : xE E 35 4 = xE E0 35 4 := xFr_E hFr0 rfl
                have e35_5 : xE E2 35 5 = xE E 35 5 := xFr_E hfr rfl
                have e35_6 : xE E2 35 6 = xE E 35 6 := xFr_E hfr rfl
                have e35_7 : xE E2 35 7 = xE E 35 7 := xFr_E hfr rfl
                have e35_8 : xE E2 35 8 = xE E 35 8 := xFr_E hfr rfl
                have e2_3 : xE E2 2 3 = xE E 2 3 := xFr_E hfr rfl
                have q2_3 : xE E 2 3 = xE E0 2 3 := xFr_E hFr0 rfl
                have e36 : ∀ i, xE E2 36 i = xE E 36 i := fun i => xFr_E hfr rfl
                have q36 : ∀ i, xE E 36 i = xE E0 36 i := fun i => xFr_E hFr0 rfl
                have e10 : ∀ i, xE E2 10 i = xE E 10 i := fun i => xFr_E hfr rfl
                have e11 : ∀ i, xE E2 11 i = xE E 11 i := fun i => xFr_E hfr rfl
                have y2_3 : ((2147483648 : Nat) : Int) ≤ xE E0 2 3 + 2147483648 ∧ xE E0 2 3 + 2147483648 ≤ ((2147483679 : Nat) : Int) := xTyF hT0 2 3 3 rfl rfl rfl rfl rfl rfl
                have hI : ((0 ≤ (v 2) ∧ (v 2) < xE E0 2 3) ∧ (1 ≤ (v 4) ∧ (v 4) ≤ 4) ∧ ∃ p1, p1 ≤ (xE E0 35 4) ∧ (∀ S, xAb0 E0 S → pSwitch (xE E0 36) (xE E0 35 4) (xE E0 35 6) S = pBits (xE E0 36) (xE E0 35 4) S (v 2) (4 - (v 4)).toNat p1 (v 4) (v 3)) ∧ xAD (xE E0 36) (xE E0 35 4) p1 E ∧ (∀ k, xE E 10 k = xE E0 10 k) ∧ (∀ k, xE E 11 k = xE E0 11 k)) ∧ (xE E 35 2 = xE E0 35 2 ∧ xE E 35 3 = xE E0 35 3) := hInv
                obtain ⟨hI, hSm⟩ := hI
                show xΨfrs0S x0 E0 E2 0
                refine ⟨?_, ?_⟩
                · show xΨfrs0 x0 E0 E2 0
                  obtain ⟨i1, i2, p1, i0, i3, ⟨i4, i5, i6, i7⟩, j0, j1⟩ := hI
                  have hb := tNx_b (T := xE E0 36) (n := xE E0 35 4) (p := p1) i0
                  rw [show (v 2) = v2 2 by omega, show (v 3) = v2 3 by omega, show (v 4) = v2 4 by omega] at i3
                  have hk : tKd (xE E0 36) (xE E0 35 4) p1 = 3 := by omega
                  have hval := i7 hk
                  intro S hS
                  have e : pSwitch (xE E0 36) (xE E0 35 4) (xE E0 35 6) S = Except.error (3, tFr (xE E0 36) (xE E0 35 4) p1) := by
                    rw [i3 S hS]
                    cases (4 - v2 4).toNat with
                    | zero =>
                      unfold pBits
                      rw [if_pos hk, if_neg (by omega)]
                    | succ f =>
                      show (if tKd (xE E0 36) (xE E0 35 4) p1 = 3 then (if 0 ≤ tNm (xE E0 36) (xE E0 35 4) p1 ∧ tNm (xE E0 36) (xE E0 35 4) p1 ≤ 1 then _ else _) else _) = _
                      rw [if_pos hk, if_neg (by omega)]
                  show xOut0 (pBind (pSwitch (xE E0 36) (xE E0 35 4) (xE E0 35 6) S) (pSem (xE E0 36) (xE E0 35 4))) E2 0
                  rw [e]
                  exact xOut0_e (by omega) (by omega) (by omega)
                · show (¬ (0) = 0 → (xE E2 35 2 = xE E0 35 2 ∧ xE E2 35 3 = xE E0 35 3))
                  omega
    · cases hx
    · have hx : x ∈ [zxfrs0_gr0] := hx
      have hag : ∀ k, k < 5 → v2 k = v k := hag
      have hfr : xFr [] _ _ := hfr
      have ex := List.mem_singleton.mp hx
      subst ex
      obtain ⟨hF, hBd, hM⟩ := hXs
      have e35_4 : xE E2 35 4 = xE E 35 4 := xFr_E hfr rfl
      have q35_4 : xE E 35 4 = xE E0 35 4 := xFr_E hFr0 rfl
      have e35_5 : xE E2 35 5 = xE E 35 5 := xFr_E hfr rfl
      have e35_6 : xE E2 35 6 = xE E 35 6 := xFr_E hfr rfl
      have e35_7 : xE E2 35 7 = xE E 35 7 := xFr_E hfr rfl
      have e35_8 : xE E2 35 8 = xE E 35 8 := xFr_E hfr rfl
      have e35_2 : xE E2 35 2 = xE E 35 2 := xFr_E hfr rfl
      have e35_3 : xE E2 35 3 = xE E 35 3 := xFr_E hfr rfl
      have e2_3 : xE E2 2 3 = xE E 2 3 := xFr_E hfr rfl
      have q2_3 : xE E 2 3 = xE E0 2 3 := xFr_E hFr0 rfl
      have e36 : ∀ i, xE E2 36 i = xE E 36 i := fun i => xFr_E hfr rfl
      have q36 : ∀ i, xE E 36 i = xE E0 36 i := fun i => xFr_E hFr0 rfl
      have e10 : ∀ i, xE E2 10 i = xE E 10 i := fun i => xFr_E hfr rfl
      have e11 : ∀ i, xE E2 11 i = xE E 11 i := fun i => xFr_E hfr rfl
      have y2_3 : ((2147483648 : Nat) : Int) ≤ xE E0 2 3 + 2147483648 ∧ xE E0 2 3 + 2147483648 ≤ ((2147483679 : Nat) : Int) := xTyF hT0 2 3 3 rfl rfl rfl rfl rfl rfl
      have hI : (∃ g b l, (0 ≤ g ∧ g < xE E0 2 3) ∧ (∀ S, xAb0 E0 S → pBind (pSwitch (xE E0 36) (xE E0 35 4) (xE E0 35 6) S) (pSem (xE E0 36) (xE E0 35 4)) = .ok (xE E 35 6, uS (uS S (8 + g) b) (40 + g) l)) ∧ xE E 10 g = b ∧ (∀ k, 0 ≤ k → ¬ k = g → xE E 10 k = xE E0 10 k) ∧ xE E 11 g = l ∧ (∀ k, 0 ≤ k → ¬ k = g → xE E 11 k = xE E0 11 k)) ∧ (xE E 35 2 = xE E0 35 2 ∧ xE E 35 3 = xE E0 35 3) := hInv
      obtain ⟨hI, hSm⟩ := hI
      show xΨfrs0S x0 E0 E2 1
      refine ⟨?_, ?_⟩
      · show xΨfrs0 x0 E0 E2 1
        obtain ⟨g, b, l, i1, i2, i3, i4, i5, i6⟩ := hI
        have hE2 := xFr_n hfr
        subst hE2
        intro S hS
        show xOut0 (pBind (pSwitch (xE E0 36) (xE E0 35 4) (xE E0 35 6) S) (pSem (xE E0 36) (xE E0 35 4))) E2 1
        rw [i2 S hS]
        have hN := hS.2.1.2.2.2
        exact xOut0_k rfl rfl (xAb0_sw hS ⟨by omega, by omega⟩ hFr0 i3 i4 i5 i6)
      · show (¬ (1) = 0 → (xE E2 35 2 = xE E0 35 2 ∧ xE E2 35 3 = xE E0 35 3))
        omega
