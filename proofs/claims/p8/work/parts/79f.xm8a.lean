/-! THE CLASS reads: stuck, free, place (printed by m8.py) -/
noncomputable def zxfrk0_ax0 : zyXp := (11, [283, 11, 13], [137438953465, 0, 283], [(24, 103079215105, 2, 24)], [(103079215105, 2147483648, 2147483679), (137438953465, 2147483647, 2147483678)], [])
noncomputable def zpfrk0_a : zyPh := (0, [283, 11, 13], [(0, 4294967295), (0, 4294967295), (0, 4294967295)], [], [])
noncomputable def zxfrk0_bx0 : zyXp := (25, [283, 11, 137438953473], [283], [(23, 0, 103079215105, 0), (24, 137438953473, 35, 64)], [(103079215105, 2147483649, 2147483649)], [])
noncomputable def zxfrk0_br0 : zyXp := (0, [], [0], [(22, 0, 103079215105, 0)], [(103079215105, 2147483648, 2147483648)], [])
noncomputable def zpfrk0_b : zyPh := (14, [283, 11, 13], [(0, 4294967295), (0, 4294967295), (0, 4294967295), (2147483648, 2147483649)], [], [103079215105])
noncomputable def zxfrk0_cx0 : zyXp := (31, [283, 11, 68719476737], [800035, 283], [], [(68719476737, 2147483648, 2147483678)], [])
noncomputable def zpfrk0_c : zyPh := (28, [283, 11, 68719476737], [(0, 4294967295), (0, 4294967295), (2147483648, 2147483678)], [], [])
noncomputable def zxfrk0_dx0 : zyXp := (43, [283, 11, 68719476737], [16, 68719476737, 99], [(23, 0, 103079215105, 0)], [(68719476737, 2147483648, 2147483678), (103079215105, 2147483649, 2147483649)], [])
noncomputable def zxfrk0_dx1 : zyXp := (50, [283, 11, 68719476737], [800043, 283], [(22, 0, 103079215105, 0)], [(68719476737, 2147483648, 2147483678), (103079215105, 2147483648, 2147483648)], [])
noncomputable def zpfrk0_d : zyPh := (34, [283, 11, 68719476737], [(0, 4294967295), (0, 4294967295), (2147483648, 2147483678), (2147483648, 2147483649)], [], [103079215105])
noncomputable def zxfrk0_ex0 : zyXp := (62, [283, 11, 68719476737], [8, 68719476737, 99], [(23, 0, 103079215105, 0)], [(68719476737, 2147483648, 2147483678), (103079215105, 2147483649, 2147483649)], [])
noncomputable def zxfrk0_er0 : zyXp := (0, [], [0], [(22, 0, 103079215105, 0), (24, 137438953473, 35, 56), (23, 0, 137438953473, 8), (24, 171798691841, 35, 40)], [(103079215105, 2147483648, 2147483648), (137438953473, 2147483650, 2147483653), (171798691841, 2147483648, 2147484548)], [(573442, 16), (573443, 171798691841)])
noncomputable def zxfrk0_er1 : zyXp := (0, [], [0], [(22, 0, 103079215105, 0), (24, 137438953473, 35, 56), (23, 0, 137438953473, 8), (24, 171798691841, 35, 40)], [(103079215105, 2147483648, 2147483648), (137438953473, 2147483648, 2147483648), (171798691841, 2147483648, 2147484548)], [(573442, 16), (573443, 171798691841)])
noncomputable def zxfrk0_er2 : zyXp := (0, [], [0], [(22, 0, 103079215105, 0), (24, 137438953473, 35, 56), (22, 0, 137438953473, 8), (24, 171798691841, 35, 40)], [(103079215105, 2147483648, 2147483648), (137438953473, 2147483649, 2147483649), (171798691841, 2147483648, 2147484548)], [(573442, 8), (573443, 171798691841)])
noncomputable def zpfrk0_e : zyPh := (53, [283, 11, 68719476737], [(0, 4294967295), (0, 4294967295), (2147483648, 2147483678), (2147483648, 2147483649)], [], [103079215105])
noncomputable def zxfrk0_fx0 : zyXp := (76, [283, 11, 68719476737], [283], [], [(68719476737, 2147483648, 2147483678)], [])
noncomputable def zpfrk0_f : zyPh := (44, [283, 11, 68719476737], [(0, 4294967295), (0, 4294967295), (2147483648, 2147483678)], [], [])
noncomputable def zxfrk0_gx0 : zyXp := (76, [283, 11, 68719476737], [283], [], [(68719476737, 2147483648, 2147483678)], [])
noncomputable def zpfrk0_g : zyPh := (63, [283, 11, 68719476737], [(0, 4294967295), (0, 4294967295), (2147483648, 2147483678)], [], [])
noncomputable def zxfrk0_hr0 : zyXp := (0, [], [103079215105], [], [(103079215105, 2147483648, 2147483649)], [])
noncomputable def zpfrk0_h : zyPh := (79, [283, 11, 68719476737], [(0, 4294967295), (0, 4294967295), (2147483648, 2147483678), (2147483648, 2147483649)], [], [103079215105])
noncomputable def zpfrk0 (i : Nat) : zyPh := zif (Nat.beq i 0) (zpfrk0_a) (zif (Nat.beq i 1) (zpfrk0_b) (zif (Nat.beq i 2) (zpfrk0_c) (zif (Nat.beq i 3) (zpfrk0_d) (zif (Nat.beq i 4) (zpfrk0_e) (zif (Nat.beq i 5) (zpfrk0_f) (zif (Nat.beq i 6) (zpfrk0_g) (zpfrk0_h)))))))
noncomputable def zXfrk0 (i : Nat) : List zyXp := zif (Nat.beq i 0) ([zxfrk0_ax0]) (zif (Nat.beq i 1) ([zxfrk0_bx0]) (zif (Nat.beq i 2) ([zxfrk0_cx0]) (zif (Nat.beq i 3) ([zxfrk0_dx0, zxfrk0_dx1]) (zif (Nat.beq i 4) ([zxfrk0_ex0]) (zif (Nat.beq i 5) ([zxfrk0_fx0]) (zif (Nat.beq i 6) ([zxfrk0_gx0]) ([])))))))
noncomputable def zRfrk0 (i : Nat) : List zyXp := zif (Nat.beq i 0) ([]) (zif (Nat.beq i 1) ([zxfrk0_br0]) (zif (Nat.beq i 2) ([]) (zif (Nat.beq i 3) ([]) (zif (Nat.beq i 4) ([zxfrk0_er0, zxfrk0_er1, zxfrk0_er2]) (zif (Nat.beq i 5) ([]) (zif (Nat.beq i 6) ([]) ([zxfrk0_hr0])))))))
noncomputable def zFfrk0 (i : Nat) : zyR := zif (Nat.beq i 0) ([]) (zif (Nat.beq i 1) ([]) (zif (Nat.beq i 2) ([]) (zif (Nat.beq i 3) ([]) (zif (Nat.beq i 4) ([(35, 2, 3)]) (zif (Nat.beq i 5) ([]) (zif (Nat.beq i 6) ([]) ([])))))))
noncomputable def zSfrk0 (i : Nat) : Nat := zif (Nat.beq i 0) (0) (zif (Nat.beq i 1) (0) (zif (Nat.beq i 2) (0) (zif (Nat.beq i 3) (0) (zif (Nat.beq i 4) (0) (zif (Nat.beq i 5) (0) (zif (Nat.beq i 6) (0) (0)))))))
def xΨfrk0 (_ : Nat → Int) (E E2 : zyEm) (r : Int) : Prop := ∀ S, xAb0 E S → xOut0 (pBind (pStuck (xE E 36) (xE E 35 4) (xE E 35 6) S) (pSem (xE E 36) (xE E 35 4))) E2 r
noncomputable def fpfrk0 : zyR := [(35, 2, 3), (35, 5, 8), (12, 0, 30)]
theorem zyfrk0_run : zyrS zymc zxi64 (64, 0, 0, 2, 0) 8 zpfrk0 (fun _ _ => []) zFfrk0 zSfrk0 zXfrk0 zRfrk0 8 = true := by decide +kernel
theorem zyfrk0_ck : zyAll (fun i => xsubR (zFfrk0 i) fpfrk0 && ((zXfrk0 i).all xckX && (zRfrk0 i).all (fun x => xckX x && xrtB true x))) 8 = true := by decide +kernel
def xIfrk0 (i : Nat) (x0 : Nat → Int) (E0 : zyEm) (v : Nat → Int) (E : zyEm) : Prop := if i = 0 then (E = E0) else if i = 1 then (xTN (xE E0 36) (xE E0 35 4) (xE E0 35 6) 0 (xE E0 2 3 - 1) E (v 3) ∧ (∀ k, xE E 12 k = xE E0 12 k)) else if i = 2 then ((0 ≤ (v 2) ∧ (v 2) < xE E0 2 3) ∧ ∃ p1, p1 ≤ (xE E0 35 4) ∧ (∀ S, xAb0 E0 S → pStuck (xE E0 36) (xE E0 35 4) (xE E0 35 6) S = (if tW (xE E0 36) (xE E0 35 4) p1 [111, 112, 101, 110] = true then .ok (tNx (xE E0 36) (xE E0 35 4) p1, uS S (72 + (v 2)) 2) else if tW (xE E0 36) (xE E0 35 4) p1 [115, 104, 117, 116] = true then .ok (tNx (xE E0 36) (xE E0 35 4) p1, uS S (72 + (v 2)) 1) else .error (pMis (xE E0 36) (xE E0 35 4) p1, tFr (xE E0 36) (xE E0 35 4) p1))) ∧ xAD (xE E0 36) (xE E0 35 4) p1 E ∧ (∀ k, xE E 12 k = xE E0 12 k)) else if i = 3 then ((0 ≤ (v 2) ∧ (v 2) < xE E0 2 3) ∧ ∃ p1, p1 ≤ (xE E0 35 4) ∧ (∀ S, xAb0 E0 S → pStuck (xE E0 36) (xE E0 35 4) (xE E0 35 6) S = (if tW (xE E0 36) (xE E0 35 4) p1 [111, 112, 101, 110] = true then .ok (tNx (xE E0 36) (xE E0 35 4) p1, uS S (72 + (v 2)) 2) else if tW (xE E0 36) (xE E0 35 4) p1 [115, 104, 117, 116] = true then .ok (tNx (xE E0 36) (xE E0 35 4) p1, uS S (72 + (v 2)) 1) else .error (pMis (xE E0 36) (xE E0 35 4) p1, tFr (xE E0 36) (xE E0 35 4) p1))) ∧ ((v 3) = if tW (xE E0 36) (xE E0 35 4) p1 [111, 112, 101, 110] = true then 1 else 0) ∧ xAD (xE E0 36) (xE E0 35 4) p1 E ∧ (∀ k, xE E 12 k = xE E0 12 k)) else if i = 4 then ((0 ≤ (v 2) ∧ (v 2) < xE E0 2 3) ∧ ∃ p1, p1 ≤ (xE E0 35 4) ∧ (∀ S, xAb0 E0 S → pStuck (xE E0 36) (xE E0 35 4) (xE E0 35 6) S = (if tW (xE E0 36) (xE E0 35 4) p1 [111, 112, 101, 110] = true then .ok (tNx (xE E0 36) (xE E0 35 4) p1, uS S (72 + (v 2)) 2) else if tW (xE E0 36) (xE E0 35 4) p1 [115, 104, 117, 116] = true then .ok (tNx (xE E0 36) (xE E0 35 4) p1, uS S (72 + (v 2)) 1) else .error (pMis (xE E0 36) (xE E0 35 4) p1, tFr (xE E0 36) (xE E0 35 4) p1))) ∧ (tW (xE E0 36) (xE E0 35 4) p1 [111, 112, 101, 110] = false ∧ (v 3) = if tW (xE E0 36) (xE E0 35 4) p1 [115, 104, 117, 116] = true then 1 else 0) ∧ xAD (xE E0 36) (xE E0 35 4) p1 E ∧ (∀ k, xE E 12 k = xE E0 12 k)) else if i = 5 then ((0 ≤ (v 2) ∧ (v 2) < xE E0 2 3) ∧ xE E 35 6 ≤ (xE E0 35 4) ∧ (∀ S, xAb0 E0 S → pStuck (xE E0 36) (xE E0 35 4) (xE E0 35 6) S = .ok (xE E 35 6, uS S (72 + (v 2)) 2)) ∧ xE E 12 (v 2) = 2 ∧ (∀ k, 0 ≤ k → ¬ k = (v 2) → xE E 12 k = xE E0 12 k)) else if i = 6 then ((0 ≤ (v 2) ∧ (v 2) < xE E0 2 3) ∧ xE E 35 6 ≤ (xE E0 35 4) ∧ (∀ S, xAb0 E0 S → pStuck (xE E0 36) (xE E0 35 4) (xE E0 35 6) S = .ok (xE E 35 6, uS S (72 + (v 2)) 1)) ∧ xE E 12 (v 2) = 1 ∧ (∀ k, 0 ≤ k → ¬ k = (v 2) → xE E 12 k = xE E0 12 k)) else (∃ g how p2, (0 ≤ g ∧ g < xE E0 2 3) ∧ (∀ S, xAb0 E0 S → pStuck (xE E0 36) (xE E0 35 4) (xE E0 35 6) S = .ok (p2, uS S (72 + g) how)) ∧ xE E 12 g = how ∧ (∀ k, 0 ≤ k → ¬ k = g → xE E 12 k = xE E0 12 k) ∧ xTS (xE E0 36) (xE E0 35 4) p2 E (v 3))
def xMfrk0 (i : Nat) (x0 : Nat → Int) (E0 : zyEm) (v : Nat → Int) (E : zyEm) : Nat := if i = 0 then (20) else if i = 1 then (19) else if i = 2 then (18) else if i = 3 then (17) else if i = 4 then (16) else if i = 5 then (15) else if i = 6 then (14) else (13)
theorem xRk0 {l : Launch} {en : zEn} {me : zMe} (hen : zG zxMeta 64 = some en) (hme : zG zMeth 64 = some me) : xFc l zymc en me 8 [35, 1] 0 fpfrk0 true xΦrd0 xΨfrk0 := by
  have een : zG zxMeta 64 = some (zxi64, 2, 3, 5, 64, 0, 0, 2, 0) := rfl
  obtain ⟨me1, hme1, hOK⟩ := zall hen
  rw [hme] at hme1
  cases hme1
  rw [een] at hen
  cases hen
  have hr := zyfrk0_run
  have hck := fun i hi => zyAll_iff zyfrk0_ck i hi
  simp only [Bool.and_eq_true] at hck
  obtain ⟨meftn, hmeftn, -⟩ := zall (show zG zxMeta 69 = some (zxi69, 3, 3, 5, 69, 0, 0, 2, 0) from rfl)
  have hftn := xTn (l := l) (show zG zxMeta 69 = some (zxi69, 3, 3, 5, 69, 0, 0, 2, 0) from rfl) hmeftn
  obtain ⟨mefad, hmefad, -⟩ := zall (show zG zxMeta 73 = some (zxi73, 1, 1, 5, 73, 0, 0, 0, 0) from rfl)
  have hfad := xAd (l := l) (show zG zxMeta 73 = some (zxi73, 1, 1, 5, 73, 0, 0, 0, 0) from rfl) hmefad
  obtain ⟨mefts, hmefts, -⟩ := zall (show zG zxMeta 68 = some (zxi68, 1, 1, 5, 68, 0, 0, 2, 0) from rfl)
  have hfts := xTs (l := l) (show zG zxMeta 68 = some (zxi68, 1, 1, 5, 68, 0, 0, 2, 0) from rfl) hmefts
  obtain ⟨mefwop, hmefwop, -⟩ := zall (show zG zxMeta 72 = some (zxi72, 2, 3, 5, 72, 0, 0, 2, 0) from rfl)
  have hfwop := xWopen (l := l) (show zG zxMeta 72 = some (zxi72, 2, 3, 5, 72, 0, 0, 2, 0) from rfl) hmefwop
  obtain ⟨mefwsh, hmefwsh, -⟩ := zall (show zG zxMeta 72 = some (zxi72, 2, 3, 5, 72, 0, 0, 2, 0) from rfl)
  have hfwsh := xWshut (l := l) (show zG zxMeta 72 = some (zxi72, 2, 3, 5, 72, 0, 0, 2, 0) from rfl) hmefwsh
  intro B
  refine xcut (mi := zymc) (B := B) hOK rfl rfl (ι := Fin 8) (fun i => zpfrk0 i.val) (fun _ _ => []) (fun i => zFfrk0 i.val) (fun i => zSfrk0 i.val) (fun i => zXfrk0 i.val) (fun i => zRfrk0 i.val) (fun i y2 ct en2 me2 h => by cases h) 200000 (fun i => zyAll_iff hr i.val i.isLt) (fun i => (hck i.val i.isLt).1) (fun i => (hck i.val i.isLt).2.1) (fun i => (hck i.val i.isLt).2.2) ⟨0, by decide⟩ ⟨rfl, rfl, rfl, rfl⟩ ⟨by decide, by decide⟩ (fun i x0 E0 v E => xIfrk0 i.val x0 E0 v E) (fun i x0 E0 v E => xMfrk0 i.val x0 E0 v E) ?_ ?_ ?_
  · intro x0 E hx0 hT hΦ
    have hΦ : xΦrd0 x0 E := hΦ
    refine ⟨fun k p hp => ?_, ?_⟩
    · have hk : k < 3 := (List.getElem?_eq_some_iff.mp hp).1
      have hk : k = 0 ∨ k = 1 ∨ k = 2 := by omega
      rcases hk with rfl | rfl | rfl
      · have hp : some (0, 4294967295) = some p := hp
        cases hp
        show ((0 : Nat) : Int) ≤ 0 + 2147483648 ∧ 0 + 2147483648 ≤ ((4294967295 : Nat) : Int)
        omega
      · have hp : some (0, 4294967295) = some p := hp
        cases hp
        show ((0 : Nat) : Int) ≤ 0 + 2147483648 ∧ 0 + 2147483648 ≤ ((4294967295 : Nat) : Int)
        omega
      · have hp : some (0, 4294967295) = some p := hp
        cases hp
        show ((0 : Nat) : Int) ≤ x0 0 + 2147483648 ∧ x0 0 + 2147483648 ≤ ((4294967295 : Nat) : Int)
        have hx := hx0 0
        omega
    · show E = E
      rfl
  · intro x0 s Wg hRu hrx hT0 hΦ i v H hT hrv hInv hKc hFr0 hIH x hx ρ2 v2 N2 H2 locs lsB stA hAt hB hv hr2 hXs hag hfr hFr hT2
    rcases i with ⟨i, hi⟩
    have hi2 : i = 0 ∨ i = 1 ∨ i = 2 ∨ i = 3 ∨ i = 4 ∨ i = 5 ∨ i = 6 ∨ i = 7 := by omega
    rcases hi2 with rfl | rfl | rfl | rfl | rfl | rfl | rfl | rfl
    · have hx : x ∈ [zxfrk0_ax0] := hx
      have hag : ∀ k, k < 3 → v2 k = v k := hag
      have hfr : xFr [] _ _ := hfr
      have ex := List.mem_singleton.mp hx
      subst ex
      obtain ⟨hF, hBd, hM⟩ := hXs
      have b0 : ((2147483648 : Nat) : Int) ≤ (v2 3) + 2147483648 ∧ (v2 3) + 2147483648 ≤ ((2147483679 : Nat) : Int) := xXb hBd 0 rfl
      have b1 : ((2147483647 : Nat) : Int) ≤ (v2 3 + (-1)) + 2147483648 ∧ (v2 3 + (-1)) + 2147483648 ≤ ((2147483678 : Nat) : Int) := xXb hBd 1 rfl
      have f0 : (0 : Int) ≤ 3 ∧ xE (zyEl zymc B H) 2 3 = (v2 3) := xXf hF 0 rfl
      have e35_4 : xE (zyEl zymc B H2) 35 4 = xE (zyEl zymc B H) 35 4 := xFr_E hfr rfl
      have q35_4 : xE (zyEl zymc B H) 35 4 = xE (zyEl zymc B s.heap) 35 4 := xFr_E hFr0 rfl
      have e35_5 : xE (zyEl zymc B H2) 35 5 = xE (zyEl zymc B H) 35 5 := xFr_E hfr rfl
      have e35_6 : xE (zyEl zymc B H2) 35 6 = xE (zyEl zymc B H) 35 6 := xFr_E hfr rfl
      have e35_7 : xE (zyEl zymc B H2) 35 7 = xE (zyEl zymc B H) 35 7 := xFr_E hfr rfl
      have e35_8 : xE (zyEl zymc B H2) 35 8 = xE (zyEl zymc B H) 35 8 := xFr_E hfr rfl
      have e35_2 : xE (zyEl zymc B H2) 35 2 = xE (zyEl zymc B H) 35 2 := xFr_E hfr rfl
      have e35_3 : xE (zyEl zymc B H2) 35 3 = xE (zyEl zymc B H) 35 3 := xFr_E hfr rfl
      have e2_3 : xE (zyEl zymc B H2) 2 3 = xE (zyEl zymc B H) 2 3 := xFr_E hfr rfl
      have q2_3 : xE (zyEl zymc B H) 2 3 = xE (zyEl zymc B s.heap) 2 3 := xFr_E hFr0 rfl
      have e36 : ∀ i, xE (zyEl zymc B H2) 36 i = xE (zyEl zymc B H) 36 i := fun i => xFr_E hfr rfl
      have q36 : ∀ i, xE (zyEl zymc B H) 36 i = xE (zyEl zymc B s.heap) 36 i := fun i => xFr_E hFr0 rfl
      have e12 : ∀ i, xE (zyEl zymc B H2) 12 i = xE (zyEl zymc B H) 12 i := fun i => xFr_E hfr rfl
      have y2_3 : ((2147483648 : Nat) : Int) ≤ xE (zyEl zymc B s.heap) 2 3 + 2147483648 ∧ xE (zyEl zymc B s.heap) 2 3 + 2147483648 ≤ ((2147483679 : Nat) : Int) := xTyF hT0 2 3 3 rfl rfl rfl rfl rfl rfl
      have hI : (zyEl zymc B H) = (zyEl zymc B s.heap) := hInv
      have q35_5 : xE (zyEl zymc B H) 35 5 = xE (zyEl zymc B s.heap) 35 5 := by rw [hI]
      have q35_6 : xE (zyEl zymc B H) 35 6 = xE (zyEl zymc B s.heap) 35 6 := by rw [hI]
      have q35_7 : xE (zyEl zymc B H) 35 7 = xE (zyEl zymc B s.heap) 35 7 := by rw [hI]
      have q35_8 : xE (zyEl zymc B H) 35 8 = xE (zyEl zymc B s.heap) 35 8 := by rw [hI]
      have q35_2 : xE (zyEl zymc B H) 35 2 = xE (zyEl zymc B s.heap) 35 2 := by rw [hI]
      have q35_3 : xE (zyEl zymc B H) 35 3 = xE (zyEl zymc B s.heap) 35 3 := by rw [hI]
      have q12 : ∀ i, xE (zyEl zymc B H) 12 i = xE (zyEl zymc B s.heap) 12 i := fun i => by rw [hI]
      have tt : xE (zyEl zymc B H2) 36 = xE (zyEl zymc B s.heap) 36 := funext fun i => (e36 i).trans (q36 i)
      have tn : xE (zyEl zymc B H2) 35 4 = xE (zyEl zymc B s.heap) 35 4 := by omega
      refine xCa hRu hIH hAt hB hv hFr (hftn B) (ix := 60) (ax := 1104) rfl rfl rfl hmeftn ⟨_, rfl, rfl, by decide⟩ ⟨rfl, rfl, rfl⟩ (by decide) [0, 137438953465] [] [0, (v2 3 + (-1))] rfl ⟨rfl, rfl⟩ (by decide +kernel) (xcs_c rfl (xcs_c rfl xcs_n)) (by decide +kernel) ?_ (fun H3 r hT3 hf3 hFr3 hr3 hΨ3 => ?_)
      · show xΦad (xfv [0, (v2 3 + (-1))]) (zyEl zymc B H2)
        have hP := hΦ.1
        unfold xΦad
        omega
      · have hΨ3 : xΨtn (xfv [0, (v2 3 + (-1))]) (zyEl zymc B H2) (zyEl zymc B H3) r := hΨ3
        have d35_4 : xE (zyEl zymc B H3) 35 4 = xE (zyEl zymc B H2) 35 4 := xFr_E hf3 rfl
        have d2_3 : xE (zyEl zymc B H3) 2 3 = xE (zyEl zymc B H2) 2 3 := xFr_E hf3 rfl
        have d36 : ∀ i, xE (zyEl zymc B H3) 36 i = xE (zyEl zymc B H2) 36 i := fun i => xFr_E hf3 rfl
        have d12 : ∀ i, xE (zyEl zymc B H3) 12 i = xE (zyEl zymc B H2) 12 i := fun i => xFr_E hf3 rfl
        unfold xΨtn at hΨ3
        rw [tt, tn, show xE (zyEl zymc B H2) 35 6 = xE (zyEl zymc B s.heap) 35 6 by omega, show xfv [0, (v2 3 + (-1))] 1 = xE (zyEl zymc B s.heap) 2 3 - 1 by show (v2 3 + (-1)) = _; omega] at hΨ3
        have hr01 := xtn_r hΨ3
        refine ⟨⟨1, by decide⟩, [0, 0, 0], [0, 0, 0, r], rfl, ⟨by decide +kernel, ⟨rfl, by decide +kernel⟩, (xcs_c rfl (xcs_c rfl (xcs_c rfl xcs_n))), (xe_0 (xe_0 (xe_0 (xe_c (by omega) (by omega) rfl xe_n)))), xkq_n⟩, (by rw [if_pos rfl]; exact ⟨3, [], rfl, by decide, rfl, xst_n⟩), ?_, ?_⟩
        · show xTN (xE (zyEl zymc B s.heap) 36) (xE (zyEl zymc B s.heap) 35 4) (xE (zyEl zymc B s.heap) 35 6) 0 (xE (zyEl zymc B s.heap) 2 3 - 1) (zyEl zymc B H3) (r : Int) ∧ (∀ k, xE (zyEl zymc B H3) 12 k = xE (zyEl zymc B s.heap) 12 k)
          exact ⟨hΨ3, fun k => by rw [d12 k, e12 k, q12 k]⟩
        · show 19 < 20
          omega
    · have hx : x ∈ [zxfrk0_bx0] := hx
      have hag : ∀ k, k < 4 → v2 k = v k := hag
      have hfr : xFr [] _ _ := hfr
      have ex := List.mem_singleton.mp hx
      subst ex
      obtain ⟨hF, hBd, hM⟩ := hXs
      have r4 := hr2 4
      have g3 : v2 3 = v 3 := hag 3 (by decide)
      have b0 : ((2147483649 : Nat) : Int) ≤ (v2 3) + 2147483648 ∧ (v2 3) + 2147483648 ≤ ((2147483649 : Nat) : Int) := xXb hBd 0 rfl
      have f0 : ¬ (v2 3) = 0 := xXf hF 0 rfl
      have f1 : (0 : Int) ≤ 8 ∧ xE (zyEl zymc B H) 35 8 = (v2 4) := xXf hF 1 rfl
      have e35_4 : xE (zyEl zymc B H2) 35 4 = xE (zyEl zymc B H) 35 4 := xFr_E hfr rfl
      have q35_4 : xE (zyEl zymc B H) 35 4 = xE (zyEl zymc B s.heap) 35 4 := xFr_E hFr0 rfl
      have e35_5 : xE (zyEl zymc B H2) 35 5 = xE (zyEl zymc B H) 35 5 := xFr_E hfr rfl
      have e35_6 : xE (zyEl zymc B H2) 35 6 = xE (zyEl zymc B H) 35 6 := xFr_E hfr rfl
      have e35_7 : xE (zyEl zymc B H2) 35 7 = xE (zyEl zymc B H) 35 7 := xFr_E hfr rfl
      have e35_8 : xE (zyEl zymc B H2) 35 8 = xE (zyEl zymc B H) 35 8 := xFr_E hfr rfl
      have e35_2 : xE (zyEl zymc B H2) 35 2 = xE (zyEl zymc B H) 35 2 := xFr_E hfr rfl
      have e35_3 : xE (zyEl zymc B H2) 35 3 = xE (zyEl zymc B H) 35 3 := xFr_E hfr rfl
      have e2_3 : xE (zyEl zymc B H2) 2 3 = xE (zyEl zymc B H) 2 3 := xFr_E hfr rfl
      have q2_3 : xE (zyEl zymc B H) 2 3 = xE (zyEl zymc B s.heap) 2 3 := xFr_E hFr0 rfl
      have e36 : ∀ i, xE (zyEl zymc B H2) 36 i = xE (zyEl zymc B H) 36 i := fun i => xFr_E hfr rfl
      have q36 : ∀ i, xE (zyEl zymc B H) 36 i = xE (zyEl zymc B s.heap) 36 i := fun i => xFr_E hFr0 rfl
      have e12 : ∀ i, xE (zyEl zymc B H2) 12 i = xE (zyEl zymc B H) 12 i := fun i => xFr_E hfr rfl
      have y2_3 : ((2147483648 : Nat) : Int) ≤ xE (zyEl zymc B s.heap) 2 3 + 2147483648 ∧ xE (zyEl zymc B s.heap) 2 3 + 2147483648 ≤ ((2147483679 : Nat) : Int) := xTyF hT0 2 3 3 rfl rfl rfl rfl rfl rfl
      have hI : xTN (xE (zyEl zymc B s.heap) 36) (xE (zyEl zymc B s.heap) 35 4) (xE (zyEl zymc B s.heap) 35 6) 0 (xE (zyEl zymc B s.heap) 2 3 - 1) (zyEl zymc B H) (v 3) ∧ (∀ k, xE (zyEl zymc B H) 12 k = xE (zyEl zymc B s.heap) 12 k) := hInv
      obtain ⟨i1, j0⟩ := hI
      have tt : xE (zyEl zymc B H2) 36 = xE (zyEl zymc B s.heap) 36 := funext fun i => (e36 i).trans (q36 i)
      have tn : xE (zyEl zymc B H2) 35 4 = xE (zyEl zymc B s.heap) 35 4 := by omega
      obtain ⟨c1, c2, c3, c4, c5, c6, c7⟩ := xtn_1 i1 (by omega)
      have hPos := hΦ.1
      have hb := tNx_b (T := xE (zyEl zymc B s.heap) 36) (n := xE (zyEl zymc B s.heap) 35 4) (p := xE (zyEl zymc B s.heap) 35 6) hPos
      refine xCa hRu hIH hAt hB hv hFr (hfad B) (ix := 35) (ax := 1168) rfl rfl rfl hmefad ⟨_, rfl, rfl, by decide⟩ ⟨rfl, rfl, rfl⟩ (by decide) [] [] [] rfl ⟨rfl, rfl⟩ (by decide +kernel) xcs_n (by decide +kernel) ?_ (fun H3 r hT3 hf3 hFr3 hr3 hΨ3 => ?_)
      · show xΦad (xfv []) (zyEl zymc B H2)
        unfold xΦad
        omega
      · have hΨ3 : xΨad (xfv []) (zyEl zymc B H2) (zyEl zymc B H3) r := hΨ3
        have d35_4 : xE (zyEl zymc B H3) 35 4 = xE (zyEl zymc B H2) 35 4 := xFr_E hf3 rfl
        have d35_2 : xE (zyEl zymc B H3) 35 2 = xE (zyEl zymc B H2) 35 2 := xFr_E hf3 rfl
        have d35_3 : xE (zyEl zymc B H3) 35 3 = xE (zyEl zymc B H2) 35 3 := xFr_E hf3 rfl
        have d2_3 : xE (zyEl zymc B H3) 2 3 = xE (zyEl zymc B H2) 2 3 := xFr_E hf3 rfl
        have d36 : ∀ i, xE (zyEl zymc B H3) 36 i = xE (zyEl zymc B H2) 36 i := fun i => xFr_E hf3 rfl
        have d12 : ∀ i, xE (zyEl zymc B H3) 12 i = xE (zyEl zymc B H2) 12 i := fun i => xFr_E hf3 rfl
        unfold xΨad at hΨ3
        rw [tt, tn] at hΨ3
        refine ⟨⟨2, by decide⟩, [0, 0, 137438953473], [0, 0, (v2 4)], rfl, ⟨by decide +kernel, ⟨rfl, by decide +kernel⟩, (xcs_c rfl (xcs_c rfl (xcs_c rfl xcs_n))), (xe_0 (xe_0 (xe_c (by omega) (by omega) rfl xe_n))), xkq_n⟩, (by rw [if_neg (by decide)]; exact xst_n), ?_, ?_⟩
        · show (0 ≤ ((v2 4) : Int) ∧ ((v2 4) : Int) < xE (zyEl zymc B s.heap) 2 3) ∧ ∃ p1, p1 ≤ (xE (zyEl zymc B s.heap) 35 4) ∧ (∀ S, xAb0 (zyEl zymc B s.heap) S → pStuck (xE (zyEl zymc B s.heap) 36) (xE (zyEl zymc B s.heap) 35 4) (xE (zyEl zymc B s.heap) 35 6) S = (if tW (xE (zyEl zymc B s.heap) 36) (xE (zyEl zymc B s.heap) 35 4) p1 [111, 112, 101, 110] = true then .ok (tNx (xE (zyEl zymc B s.heap) 36) (xE (zyEl zymc B s.heap) 35 4) p1, uS S (72 + ((v2 4) : Int)) 2) else if tW (xE (zyEl zymc B s.heap) 36) (xE (zyEl zymc B s.heap) 35 4) p1 [115, 104, 117, 116] = true then .ok (tNx (xE (zyEl zymc B s.heap) 36) (xE (zyEl zymc B s.heap) 35 4) p1, uS S (72 + ((v2 4) : Int)) 1) else .error (pMis (xE (zyEl zymc B s.heap) 36) (xE (zyEl zymc B s.heap) 35 4) p1, tFr (xE (zyEl zymc B s.heap) 36) (xE (zyEl zymc B s.heap) 35 4) p1))) ∧ xAD (xE (zyEl zymc B s.heap) 36) (xE (zyEl zymc B s.heap) 35 4) p1 (zyEl zymc B H3) ∧ (∀ k, xE (zyEl zymc B H3) 12 k = xE (zyEl zymc B s.heap) 12 k)
          refine ⟨by omega, xE (zyEl zymc B H2) 35 6, by omega, fun S hS => ?_, hΨ3, fun k => by rw [d12 k, e12 k, j0 k]⟩
          unfold pStuck
          rw [← hS.2.1.2.2.2, c7, show xE (zyEl zymc B H2) 35 6 = xE (zyEl zymc B H) 35 6 by omega, show xE (zyEl zymc B H) 35 8 = (v2 4) by omega]
        · show 18 < 19
          omega
    · have hx : x ∈ [zxfrk0_cx0] := hx
      have hag : ∀ k, k < 3 → v2 k = v k := hag
      have hfr : xFr [] _ _ := hfr
      have ex := List.mem_singleton.mp hx
      subst ex
      obtain ⟨hF, hBd, hM⟩ := hXs
      have g2 : v2 2 = v 2 := hag 2 (by decide)
      have b0 : ((2147483648 : Nat) : Int) ≤ (v2 2) + 2147483648 ∧ (v2 2) + 2147483648 ≤ ((2147483678 : Nat) : Int) := xXb hBd 0 rfl
      have e35_4 : xE (zyEl zymc B H2) 35 4 = xE (zyEl zymc B H) 35 4 := xFr_E hfr rfl
      have q35_4 : xE (zyEl zymc B H) 35 4 = xE (zyEl zymc B s.heap) 35 4 := xFr_E hFr0 rfl
      have e35_5 : xE (zyEl zymc B H2) 35 5 = xE (zyEl zymc B H) 35 5 := xFr_E hfr rfl
      have e35_6 : xE (zyEl zymc B H2) 35 6 = xE (zyEl zymc B H) 35 6 := xFr_E hfr rfl
      have e35_7 : xE (zyEl zymc B H2) 35 7 = xE (zyEl zymc B H) 35 7 := xFr_E hfr rfl
      have e35_8 : xE (zyEl zymc B H2) 35 8 = xE (zyEl zymc B H) 35 8 := xFr_E hfr rfl
      have e35_2 : xE (zyEl zymc B H2) 35 2 = xE (zyEl zymc B H) 35 2 := xFr_E hfr rfl
      have e35_3 : xE (zyEl zymc B H2) 35 3 = xE (zyEl zymc B H) 35 3 := xFr_E hfr rfl
      have e2_3 : xE (zyEl zymc B H2) 2 3 = xE (zyEl zymc B H) 2 3 := xFr_E hfr rfl
      have q2_3 : xE (zyEl zymc B H) 2 3 = xE (zyEl zymc B s.heap) 2 3 := xFr_E hFr0 rfl
      have e36 : ∀ i, xE (zyEl zymc B H2) 36 i = xE (zyEl zymc B H) 36 i := fun i => xFr_E hfr rfl
      have q36 : ∀ i, xE (zyEl zymc B H) 36 i = xE (zyEl zymc B s.heap) 36 i := fun i => xFr_E hFr0 rfl
      have e12 : ∀ i, xE (zyEl zymc B H2) 12 i = xE (zyEl zymc B H) 12 i := fun i => xFr_E hfr rfl
      have y2_3 : ((2147483648 : Nat) : Int) ≤ xE (zyEl zymc B s.heap) 2 3 + 2147483648 ∧ xE (zyEl zymc B s.heap) 2 3 + 2147483648 ≤ ((2147483679 : Nat) : Int) := xTyF hT0 2 3 3 rfl rfl rfl rfl rfl rfl
      have hI : (0 ≤ (v 2) ∧ (v 2) < xE (zyEl zymc B s.heap) 2 3) ∧ ∃ p1, p1 ≤ (xE (zyEl zymc B s.heap) 35 4) ∧ (∀ S, xAb0 (zyEl zymc B s.heap) S → pStuck (xE (zyEl zymc B s.heap) 36) (xE (zyEl zymc B s.heap) 35 4) (xE (zyEl zymc B s.heap) 35 6) S = (if tW (xE (zyEl zymc B s.heap) 36) (xE (zyEl zymc B s.heap) 35 4) p1 [111, 112, 101, 110] = true then .ok (tNx (xE (zyEl zymc B s.heap) 36) (xE (zyEl zymc B s.heap) 35 4) p1, uS S (72 + (v 2)) 2) else if tW (xE (zyEl zymc B s.heap) 36) (xE (zyEl zymc B s.heap) 35 4) p1 [115, 104, 117, 116] = true then .ok (tNx (xE (zyEl zymc B s.heap) 36) (xE (zyEl zymc B s.heap) 35 4) p1, uS S (72 + (v 2)) 1) else .error (pMis (xE (zyEl zymc B s.heap) 36) (xE (zyEl zymc B s.heap) 35 4) p1, tFr (xE (zyEl zymc B s.heap) 36) (xE (zyEl zymc B s.heap) 35 4) p1))) ∧ xAD (xE (zyEl zymc B s.heap) 36) (xE (zyEl zymc B s.heap) 35 4) p1 (zyEl zymc B H) ∧ (∀ k, xE (zyEl zymc B H) 12 k = xE (zyEl zymc B s.heap) 12 k) := hInv
      have tt : xE (zyEl zymc B H2) 36 = xE (zyEl zymc B s.heap) 36 := funext fun i => (e36 i).trans (q36 i)
      have tn : xE (zyEl zymc B H2) 35 4 = xE (zyEl zymc B s.heap) 35 4 := by omega
      obtain ⟨i1, p1, i0, i2, ⟨i4, i5, i6, i7⟩, j0⟩ := hI
      rw [show (v 2) = v2 2 by omega] at i2
      refine xCa hRu hIH hAt hB hv hFr (hfwop B) (ix := 48) (ax := 1152) rfl rfl rfl hmefwop ⟨_, rfl, rfl, by decide⟩ ⟨rfl, rfl, rfl⟩ (by decide) [] [] [] rfl ⟨rfl, rfl⟩ (by decide +kernel) xcs_n (by decide +kernel) ?_ (fun H3 r hT3 hf3 hFr3 hr3 hΨ3 => ?_)
      · show xΦ0 (xfv []) (zyEl zymc B H2)
        exact trivial
      · have hΨ3 : xΨfwop (xfv []) (zyEl zymc B H2) (zyEl zymc B H3) r := hΨ3
        have d35_4 : xE (zyEl zymc B H3) 35 4 = xE (zyEl zymc B H2) 35 4 := xFr_E hf3 rfl
        have d35_5 : xE (zyEl zymc B H3) 35 5 = xE (zyEl zymc B H2) 35 5 := xFr_E hf3 rfl
        have d35_6 : xE (zyEl zymc B H3) 35 6 = xE (zyEl zymc B H2) 35 6 := xFr_E hf3 rfl
        have d35_7 : xE (zyEl zymc B H3) 35 7 = xE (zyEl zymc B H2) 35 7 := xFr_E hf3 rfl
        have d35_8 : xE (zyEl zymc B H3) 35 8 = xE (zyEl zymc B H2) 35 8 := xFr_E hf3 rfl
        have d35_2 : xE (zyEl zymc B H3) 35 2 = xE (zyEl zymc B H2) 35 2 := xFr_E hf3 rfl
        have d35_3 : xE (zyEl zymc B H3) 35 3 = xE (zyEl zymc B H2) 35 3 := xFr_E hf3 rfl
        have d2_3 : xE (zyEl zymc B H3) 2 3 = xE (zyEl zymc B H2) 2 3 := xFr_E hf3 rfl
        have d36 : ∀ i, xE (zyEl zymc B H3) 36 i = xE (zyEl zymc B H2) 36 i := fun i => xFr_E hf3 rfl
        have d12 : ∀ i, xE (zyEl zymc B H3) 12 i = xE (zyEl zymc B H2) 12 i := fun i => xFr_E hf3 rfl
        unfold xΨfwop at hΨ3
        rw [show xE (zyEl zymc B H2) 36 = xE (zyEl zymc B s.heap) 36 from funext fun i => (e36 i).trans (q36 i), show xE (zyEl zymc B H2) 35 7 = tKd (xE (zyEl zymc B s.heap) 36) (xE (zyEl zymc B s.heap) 35 4) p1 by omega, show xE (zyEl zymc B H2) 35 5 = tFr (xE (zyEl zymc B s.heap) 36) (xE (zyEl zymc B s.heap) 35 4) p1 by omega, show xE (zyEl zymc B H2) 35 6 = tNx (xE (zyEl zymc B s.heap) 36) (xE (zyEl zymc B s.heap) 35 4) p1 by omega] at hΨ3
        have hΨ3 : r = if tW (xE (zyEl zymc B s.heap) 36) (xE (zyEl zymc B s.heap) 35 4) p1 [111, 112, 101, 110] = true then 1 else 0 := hΨ3
        have hr01 : r = 0 ∨ r = 1 := by
          rw [hΨ3]
          split <;> omega
        have hEE3 := xFr_n hf3
        refine ⟨⟨3, by decide⟩, [0, 0, 68719476737], [0, 0, (v2 2), r], rfl, ⟨by decide +kernel, ⟨rfl, by decide +kernel⟩, (xcs_c rfl (xcs_c rfl (xcs_c rfl xcs_n))), (xe_0 (xe_0 (xe_c (by omega) (by omega) rfl (xe_c (by omega) (by omega) rfl xe_n)))), xkq_n⟩, (by rw [if_pos rfl]; exact ⟨3, [], rfl, by decide, rfl, xst_n⟩), ?_, ?_⟩
        · show (0 ≤ ((v2 2) : Int) ∧ ((v2 2) : Int) < xE (zyEl zymc B s.heap) 2 3) ∧ ∃ p1, p1 ≤ (xE (zyEl zymc B s.heap) 35 4) ∧ (∀ S, xAb0 (zyEl zymc B s.heap) S → pStuck (xE (zyEl zymc B s.heap) 36) (xE (zyEl zymc B s.heap) 35 4) (xE (zyEl zymc B s.heap) 35 6) S = (if tW (xE (zyEl zymc B s.heap) 36) (xE (zyEl zymc B s.heap) 35 4) p1 [111, 112, 101, 110] = true then .ok (tNx (xE (zyEl zymc B s.heap) 36) (xE (zyEl zymc B s.heap) 35 4) p1, uS S (72 + ((v2 2) : Int)) 2) else if tW (xE (zyEl zymc B s.heap) 36) (xE (zyEl zymc B s.heap) 35 4) p1 [115, 104, 117, 116] = true then .ok (tNx (xE (zyEl zymc B s.heap) 36) (xE (zyEl zymc B s.heap) 35 4) p1, uS S (72 + ((v2 2) : Int)) 1) else .error (pMis (xE (zyEl zymc B s.heap) 36) (xE (zyEl zymc B s.heap) 35 4) p1, tFr (xE (zyEl zymc B s.heap) 36) (xE (zyEl zymc B s.heap) 35 4) p1))) ∧ ((r : Int) = if tW (xE (zyEl zymc B s.heap) 36) (xE (zyEl zymc B s.heap) 35 4) p1 [111, 112, 101, 110] = true then 1 else 0) ∧ xAD (xE (zyEl zymc B s.heap) 36) (xE (zyEl zymc B s.heap) 35 4) p1 (zyEl zymc B H3) ∧ (∀ k, xE (zyEl zymc B H3) 12 k = xE (zyEl zymc B s.heap) 12 k)
          rw [hEE3]
          exact ⟨by omega, p1, i0, i2, hΨ3, ⟨by omega, by omega, by omega, fun h => by have := i7 h; omega⟩, fun k => by rw [e12 k, j0 k]⟩
        · show 17 < 18
          omega
    · have hx : x ∈ [zxfrk0_dx0, zxfrk0_dx1] := hx
      have hag : ∀ k, k < 4 → v2 k = v k := hag
      have hfr : xFr [] _ _ := hfr
      rcases List.mem_cons.mp hx with ex | hx
      · subst ex
        obtain ⟨hF, hBd, hM⟩ := hXs
        have g2 : v2 2 = v 2 := hag 2 (by decide)
        have g3 : v2 3 = v 3 := hag 3 (by decide)
        have b0 : ((2147483648 : Nat) : Int) ≤ (v2 2) + 2147483648 ∧ (v2 2) + 2147483648 ≤ ((2147483678 : Nat) : Int) := xXb hBd 0 rfl
        have b1 : ((2147483649 : Nat) : Int) ≤ (v2 3) + 2147483648 ∧ (v2 3) + 2147483648 ≤ ((2147483649 : Nat) : Int) := xXb hBd 1 rfl
        have f0 : ¬ (v2 3) = 0 := xXf hF 0 rfl
        have e35_4 : xE (zyEl zymc B H2) 35 4 = xE (zyEl zymc B H) 35 4 := xFr_E hfr rfl
        have q35_4 : xE (zyEl zymc B H) 35 4 = xE (zyEl zymc B s.heap) 35 4 := xFr_E hFr0 rfl
        have e35_5 : xE (zyEl zymc B H2) 35 5 = xE (zyEl zymc B H) 35 5 := xFr_E hfr rfl
        have e35_6 : xE (zyEl zymc B H2) 35 6 = xE (zyEl zymc B H) 35 6 := xFr_E hfr rfl
        have e35_7 : xE (zyEl zymc B H2) 35 7 = xE (zyEl zymc B H) 35 7 := xFr_E hfr rfl
        have e35_8 : xE (zyEl zymc B H2) 35 8 = xE (zyEl zymc B H) 35 8 := xFr_E hfr rfl
        have e35_2 : xE (zyEl zymc B H2) 35 2 = xE (zyEl zymc B H) 35 2 := xFr_E hfr rfl
        have e35_3 : xE (zyEl zymc B H2) 35 3 = xE (zyEl zymc B H) 35 3 := xFr_E hfr rfl
        have e2_3 : xE (zyEl zymc B H2) 2 3 = xE (zyEl zymc B H) 2 3 := xFr_E hfr rfl
        have q2_3 : xE (zyEl zymc B H) 2 3 = xE (zyEl zymc B s.heap) 2 3 := xFr_E hFr0 rfl
        have e36 : ∀ i, xE (zyEl zymc B H2) 36 i = xE (zyEl zymc B H) 36 i := fun i => xFr_E hfr rfl
        have q36 : ∀ i, xE (zyEl zymc B H) 36 i = xE (zyEl zymc B s.heap) 36 i := fun i => xFr_E hFr0 rfl
        have e12 : ∀ i, xE (zyEl zymc B H2) 12 i = xE (zyEl zymc B H) 12 i := fun i => xFr_E hfr rfl
        have y2_3 : ((2147483648 : Nat) : Int) ≤ xE (zyEl zymc B s.heap) 2 3 + 2147483648 ∧ xE (zyEl zymc B s.heap) 2 3 + 2147483648 ≤ ((2147483679 : Nat) : Int) := xTyF hT0 2 3 3 rfl rfl rfl rfl rfl rfl
        have hI : (0 ≤ (v 2) ∧ (v 2) < xE (zyEl zymc B s.heap) 2 3) ∧ ∃ p1, p1 ≤ (xE (zyEl zymc B s.heap) 35 4) ∧ (∀ S, xAb0 (zyEl zymc B s.heap) S → pStuck (xE (zyEl zymc B s.heap) 36) (xE (zyEl zymc B s.heap) 35 4) (xE (zyEl zymc B s.heap) 35 6) S = (if tW (xE (zyEl zymc B s.heap) 36) (xE (zyEl zymc B s.heap) 35 4) p1 [111, 112, 101, 110] = true then .ok (tNx (xE (zyEl zymc B s.heap) 36) (xE (zyEl zymc B s.heap) 35 4) p1, uS S (72 + (v 2)) 2) else if tW (xE (zyEl zymc B s.heap) 36) (xE (zyEl zymc B s.heap) 35 4) p1 [115, 104, 117, 116] = true then .ok (tNx (xE (zyEl zymc B s.heap) 36) (xE (zyEl zymc B s.heap) 35 4) p1, uS S (72 + (v 2)) 1) else .error (pMis (xE (zyEl zymc B s.heap) 36) (xE (zyEl zymc B s.heap) 35 4) p1, tFr (xE (zyEl zymc B s.heap) 36) (xE (zyEl zymc B s.heap) 35 4) p1))) ∧ ((v 3) = if tW (xE (zyEl zymc B s.heap) 36) (xE (zyEl zymc B s.heap) 35 4) p1 [111, 112, 101, 110] = true then 1 else 0) ∧ xAD (xE (zyEl zymc B s.heap) 36) (xE (zyEl zymc B s.heap) 35 4) p1 (zyEl zymc B H) ∧ (∀ k, xE (zyEl zymc B H) 12 k = xE (zyEl zymc B s.heap) 12 k) := hInv
        obtain ⟨i1, p1, i0, i2, i3, ⟨i4, i5, i6, i7⟩, j0⟩ := hI
        rw [show (v 2) = v2 2 by omega] at i2
        have hb := tNx_b (T := xE (zyEl zymc B s.heap) 36) (n := xE (zyEl zymc B s.heap) 35 4) (p := p1) i0
        have hw : tW (xE (zyEl zymc B s.heap) 36) (xE (zyEl zymc B s.heap) 35 4) p1 [111, 112, 101, 110] = true := by
          by_cases h : tW (xE (zyEl zymc B s.heap) 36) (xE (zyEl zymc B s.heap) 35 4) p1 [111, 112, 101, 110] = true
          · exact h
          · rw [if_neg h] at i3
            omega
        refine xSt hRu hIH hAt hB hv hFr 12 (ax := 0) 16 68719476737 2 (v2 2) rfl (Or.inl ⟨rfl, rfl⟩) rfl (by decide +kernel) rfl rfl (by omega) (by show (v2 2) < ((31 : Nat) : Int); omega) (fun r hr q1 q2 => by rw [List.mem_singleton.mp hr]; exact ⟨rfl, by show ((2147483648 : Nat) : Int) ≤ 2 + 2147483648; omega, by show 2 + 2147483648 ≤ ((2147483650 : Nat) : Int); omega⟩) (zyin_iff.mpr ⟨(12, 0, 30), by decide, rfl, Nat.zero_le _, by show Int.toNat (v2 2) ≤ 30; omega⟩) (fun H3 hT3 hst3 hne3 hfn3 hFr3 => ?_)
        have hfe3 : ∀ (a2 : Nat) (k2 : Int), ¬ a2 = 12 → xE (zyEl zymc B H3) a2 k2 = xE (zyEl zymc B H2) a2 k2 := fun a2 k2 hne => by unfold xE; rw [hfn3 a2 k2.toNat (fun z => hne z.1)]
        have d35_4 : xE (zyEl zymc B H3) 35 4 = xE (zyEl zymc B H2) 35 4 := hfe3 35 4 (fun z => absurd z (by decide))
        have d35_5 : xE (zyEl zymc B H3) 35 5 = xE (zyEl zymc B H2) 35 5 := hfe3 35 5 (fun z => absurd z (by decide))
        have d35_6 : xE (zyEl zymc B H3) 35 6 = xE (zyEl zymc B H2) 35 6 := hfe3 35 6 (fun z => absurd z (by decide))
        have d35_7 : xE (zyEl zymc B H3) 35 7 = xE (zyEl zymc B H2) 35 7 := hfe3 35 7 (fun z => absurd z (by decide))
        have d35_8 : xE (zyEl zymc B H3) 35 8 = xE (zyEl zymc B H2) 35 8 := hfe3 35 8 (fun z => absurd z (by decide))
        have d35_2 : xE (zyEl zymc B H3) 35 2 = xE (zyEl zymc B H2) 35 2 := hfe3 35 2 (fun z => absurd z (by decide))
        have d35_3 : xE (zyEl zymc B H3) 35 3 = xE (zyEl zymc B H2) 35 3 := hfe3 35 3 (fun z => absurd z (by decide))
        have d2_3 : xE (zyEl zymc B H3) 2 3 = xE (zyEl zymc B H2) 2 3 := hfe3 2 3 (fun z => absurd z (by decide))
        refine ⟨⟨5, by decide⟩, [0, 0, 68719476737], [0, 0, (v2 2)], rfl, ⟨by decide +kernel, ⟨rfl, by decide +kernel⟩, (xcs_c rfl (xcs_c rfl (xcs_c rfl xcs_n))), (xe_0 (xe_0 (xe_c (by omega) (by omega) rfl xe_n))), xkq_n⟩, rfl, ?_, ?_⟩
        · show (0 ≤ ((v2 2) : Int) ∧ ((v2 2) : Int) < xE (zyEl zymc B s.heap) 2 3) ∧ xE (zyEl zymc B H3) 35 6 ≤ (xE (zyEl zymc B s.heap) 35 4) ∧ (∀ S, xAb0 (zyEl zymc B s.heap) S → pStuck (xE (zyEl zymc B s.heap) 36) (xE (zyEl zymc B s.heap) 35 4) (xE (zyEl zymc B s.heap) 35 6) S = .ok (xE (zyEl zymc B H3) 35 6, uS S (72 + ((v2 2) : Int)) 2)) ∧ xE (zyEl zymc B H3) 12 ((v2 2) : Int) = 2 ∧ (∀ k, 0 ≤ k → ¬ k = ((v2 2) : Int) → xE (zyEl zymc B H3) 12 k = xE (zyEl zymc B s.heap) 12 k)
          refine ⟨by omega, by omega, fun S hS => ?_, hst3, fun k k0 k1 => (hne3 12 k k0 (fun z => k1 z.2)).trans ((e12 k).trans (j0 k))⟩
          rw [i2 S hS, if_pos hw, show xE (zyEl zymc B H3) 35 6 = tNx (xE (zyEl zymc B s.heap) 36) (xE (zyEl zymc B s.heap) 35 4) p1 by omega]
        · show 15 < 17
          omega
      · skip
        have ex := List.mem_singleton.mp hx
        subst ex
        obtain ⟨hF, hBd, hM⟩ := hXs
        have g2 : v2 2 = v 2 := hag 2 (by decide)
        have g3 : v2 3 = v 3 := hag 3 (by decide)
        have b0 : ((2147483648 : Nat) : Int) ≤ (v2 2) + 2147483648 ∧ (v2 2) + 2147483648 ≤ ((2147483678 : Nat) : Int) := xXb hBd 0 rfl
        have b1 : ((2147483648 : Nat) : Int) ≤ (v2 3) + 2147483648 ∧ (v2 3) + 2147483648 ≤ ((2147483648 : Nat) : Int) := xXb hBd 1 rfl
        have f0 : (v2 3) = 0 := xXf hF 0 rfl
        have e35_4 : xE (zyEl zymc B H2) 35 4 = xE (zyEl zymc B H) 35 4 := xFr_E hfr rfl
        have q35_4 : xE (zyEl zymc B H) 35 4 = xE (zyEl zymc B s.heap) 35 4 := xFr_E hFr0 rfl
        have e35_5 : xE (zyEl zymc B H2) 35 5 = xE (zyEl zymc B H) 35 5 := xFr_E hfr rfl
        have e35_6 : xE (zyEl zymc B H2) 35 6 = xE (zyEl zymc B H) 35 6 := xFr_E hfr rfl
        have e35_7 : xE (zyEl zymc B H2) 35 7 = xE (zyEl zymc B H) 35 7 := xFr_E hfr rfl
        have e35_8 : xE (zyEl zymc B H2) 35 8 = xE (zyEl zymc B H) 35 8 := xFr_E hfr rfl
        have e35_2 : xE (zyEl zymc B H2) 35 2 = xE (zyEl zymc B H) 35 2 := xFr_E hfr rfl
        have e35_3 : xE (zyEl zymc B H2) 35 3 = xE (zyEl zymc B H) 35 3 := xFr_E hfr rfl
        have e2_3 : xE (zyEl zymc B H2) 2 3 = xE (zyEl zymc B H) 2 3 := xFr_E hfr rfl
        have q2_3 : xE (zyEl zymc B H) 2 3 = xE (zyEl zymc B s.heap) 2 3 := xFr_E hFr0 rfl
        have e36 : ∀ i, xE (zyEl zymc B H2) 36 i = xE (zyEl zymc B H) 36 i := fun i => xFr_E hfr rfl
        have q36 : ∀ i, xE (zyEl zymc B H) 36 i = xE (zyEl zymc B s.heap) 36 i := fun i => xFr_E hFr0 rfl
        have e12 : ∀ i, xE (zyEl zymc B H2) 12 i = xE (zyEl zymc B H) 12 i := fun i => xFr_E hfr rfl
        have y2_3 : ((2147483648 : Nat) : Int) ≤ xE (zyEl zymc B s.heap) 2 3 + 2147483648 ∧ xE (zyEl zymc B s.heap) 2 3 + 2147483648 ≤ ((2147483679 : Nat) : Int) := xTyF hT0 2 3 3 rfl rfl rfl rfl rfl rfl
        have hI : (0 ≤ (v 2) ∧ (v 2) < xE (zyEl zymc B s.heap) 2 3) ∧ ∃ p1, p1 ≤ (xE (zyEl zymc B s.heap) 35 4) ∧ (∀ S, xAb0 (zyEl zymc B s.heap) S → pStuck (xE (zyEl zymc B s.heap) 36) (xE (zyEl zymc B s.heap) 35 4) (xE (zyEl zymc B s.heap) 35 6) S = (if tW (xE (zyEl zymc B s.heap) 36) (xE (zyEl zymc B s.heap) 35 4) p1 [111, 112, 101, 110] = true then .ok (tNx (xE (zyEl zymc B s.heap) 36) (xE (zyEl zymc B s.heap) 35 4) p1, uS S (72 + (v 2)) 2) else if tW (xE (zyEl zymc B s.heap) 36) (xE (zyEl zymc B s.heap) 35 4) p1 [115, 104, 117, 116] = true then .ok (tNx (xE (zyEl zymc B s.heap) 36) (xE (zyEl zymc B s.heap) 35 4) p1, uS S (72 + (v 2)) 1) else .error (pMis (xE (zyEl zymc B s.heap) 36) (xE (zyEl zymc B s.heap) 35 4) p1, tFr (xE (zyEl zymc B s.heap) 36) (xE (zyEl zymc B s.heap) 35 4) p1))) ∧ ((v 3) = if tW (xE (zyEl zymc B s.heap) 36) (xE (zyEl zymc B s.heap) 35 4) p1 [111, 112, 101, 110] = true then 1 else 0) ∧ xAD (xE (zyEl zymc B s.heap) 36) (xE (zyEl zymc B s.heap) 35 4) p1 (zyEl zymc B H) ∧ (∀ k, xE (zyEl zymc B H) 12 k = xE (zyEl zymc B s.heap) 12 k) := hInv
        have tt : xE (zyEl zymc B H2) 36 = xE (zyEl zymc B s.heap) 36 := funext fun i => (e36 i).trans (q36 i)
        have tn : xE (zyEl zymc B H2) 35 4 = xE (zyEl zymc B s.heap) 35 4 := by omega
        obtain ⟨i1, p1, i0, i2, i3, ⟨i4, i5, i6, i7⟩, j0⟩ := hI
        rw [show (v 2) = v2 2 by omega] at i2
        have hb := tNx_b (T := xE (zyEl zymc B s.heap) 36) (n := xE (zyEl zymc B s.heap) 35 4) (p := p1) i0
        have hw : tW (xE (zyEl zymc B s.heap) 36) (xE (zyEl zymc B s.heap) 35 4) p1 [111, 112, 101, 110] = false := by
          rw [Bool.eq_false_iff]
          intro h
          rw [if_pos h] at i3
          omega
        refine xCa hRu hIH hAt hB hv hFr (hfwsh B) (ix := 48) (ax := 1152) rfl rfl rfl hmefwsh ⟨_, rfl, rfl, by decide⟩ ⟨rfl, rfl, rfl⟩ (by decide) [] [] [] rfl ⟨rfl, rfl⟩ (by decide +kernel) xcs_n (by decide +kernel) ?_ (fun H3 r hT3 hf3 hFr3 hr3 hΨ3 => ?_)
        · show xΦ0 (xfv []) (zyEl zymc B H2)
          exact trivial
        · have hΨ3 : xΨfwsh (xfv []) (zyEl zymc B H2) (zyEl zymc B H3) r := hΨ3
          have d35_4 : xE (zyEl zymc B H3) 35 4 = xE (zyEl zymc B H2) 35 4 := xFr_E hf3 rfl
          have d35_5 : xE (zyEl zymc B H3) 35 5 = xE (zyEl zymc B H2) 35 5 := xFr_E hf3 rfl
          have d35_6 : xE (zyEl zymc B H3) 35 6 = xE (zyEl zymc B H2) 35 6 := xFr_E hf3 rfl
          have d35_7 : xE (zyEl zymc B H3) 35 7 = xE (zyEl zymc B H2) 35 7 := xFr_E hf3 rfl
          have d35_8 : xE (zyEl zymc B H3) 35 8 = xE (zyEl zymc B H2) 35 8 := xFr_E hf3 rfl
          have d35_2 : xE (zyEl zymc B H3) 35 2 = xE (zyEl zymc B H2) 35 2 := xFr_E hf3 rfl
          have d35_3 : xE (zyEl zymc B H3) 35 3 = xE (zyEl zymc B H2) 35 3 := xFr_E hf3 rfl
          have d2_3 : xE (zyEl zymc B H3) 2 3 = xE (zyEl zymc B H2) 2 3 := xFr_E hf3 rfl
          have d36 : ∀ i, xE (zyEl zymc B H3) 36 i = xE (zyEl zymc B H2) 36 i := fun i => xFr_E hf3 rfl
          have d12 : ∀ i, xE (zyEl zymc B H3) 12 i = xE (zyEl zymc B H2) 12 i := fun i => xFr_E hf3 rfl
          unfold xΨfwsh at hΨ3
          rw [show xE (zyEl zymc B H2) 36 = xE (zyEl zymc B s.heap) 36 from funext fun i => (e36 i).trans (q36 i), show xE (zyEl zymc B H2) 35 7 = tKd (xE (zyEl zymc B s.heap) 36) (xE (zyEl zymc B s.heap) 35 4) p1 by omega, show xE (zyEl zymc B H2) 35 5 = tFr (xE (zyEl zymc B s.heap) 36) (xE (zyEl zymc B s.heap) 35 4) p1 by omega, show xE (zyEl zymc B H2) 35 6 = tNx (xE (zyEl zymc B s.heap) 36) (xE (zyEl zymc B s.heap) 35 4) p1 by omega] at hΨ3
          have hΨ3 : r = if tW (xE (zyEl zymc B s.heap) 36) (xE (zyEl zymc B s.heap) 35 4) p1 [115, 104, 117, 116] = true then 1 else 0 := hΨ3
          have hr01 : r = 0 ∨ r = 1 := by
            rw [hΨ3]
            split <;> omega
          have hEE3 := xFr_n hf3
          refine ⟨⟨4, by decide⟩, [0, 0, 68719476737], [0, 0, (v2 2), r], rfl, ⟨by decide +kernel, ⟨rfl, by decide +kernel⟩, (xcs_c rfl (xcs_c rfl (xcs_c rfl xcs_n))), (xe_0 (xe_0 (xe_c (by omega) (by omega) rfl (xe_c (by omega) (by omega) rfl xe_n)))), xkq_n⟩, (by rw [if_pos rfl]; exact ⟨3, [], rfl, by decide, rfl, xst_n⟩), ?_, ?_⟩
          · show (0 ≤ ((v2 2) : Int) ∧ ((v2 2) : Int) < xE (zyEl zymc B s.heap) 2 3) ∧ ∃ p1, p1 ≤ (xE (zyEl zymc B s.heap) 35 4) ∧ (∀ S, xAb0 (zyEl zymc B s.heap) S → pStuck (xE (zyEl zymc B s.heap) 36) (xE (zyEl zymc B s.heap) 35 4) (xE (zyEl zymc B s.heap) 35 6) S = (if tW (xE (zyEl zymc B s.heap) 36) (xE (zyEl zymc B s.heap) 35 4) p1 [111, 112, 101, 110] = true then .ok (tNx (xE (zyEl zymc B s.heap) 36) (xE (zyEl zymc B s.heap) 35 4) p1, uS S (72 + ((v2 2) : Int)) 2) else if tW (xE (zyEl zymc B s.heap) 36) (xE (zyEl zymc B s.heap) 35 4) p1 [115, 104, 117, 116] = true then .ok (tNx (xE (zyEl zymc B s.heap) 36) (xE (zyEl zymc B s.heap) 35 4) p1, uS S (72 + ((v2 2) : Int)) 1) else .error (pMis (xE (zyEl zymc B s.heap) 36) (xE (zyEl zymc B s.heap) 35 4) p1, tFr (xE (zyEl zymc B s.heap) 36) (xE (zyEl zymc B s.heap) 35 4) p1))) ∧ (tW (xE (zyEl zymc B s.heap) 36) (xE (zyEl zymc B s.heap) 35 4) p1 [111, 112, 101, 110] = false ∧ (r : Int) = if tW (xE (zyEl zymc B s.heap) 36) (xE (zyEl zymc B s.heap) 35 4) p1 [115, 104, 117, 116] = true then 1 else 0) ∧ xAD (xE (zyEl zymc B s.heap) 36) (xE (zyEl zymc B s.heap) 35 4) p1 (zyEl zymc B H3) ∧ (∀ k, xE (zyEl zymc B H3) 12 k = xE (zyEl zymc B s.heap) 12 k)
            rw [hEE3]
            exact ⟨by omega, p1, i0, i2, ⟨hw, hΨ3⟩, ⟨by omega, by omega, by omega, fun h => by have := i7 h; omega⟩, fun k => by rw [e12 k, j0 k]⟩
          · show 16 < 17
            omega
    · have hx : x ∈ [zxfrk0_ex0] := hx
      have hag : ∀ k, k < 4 → v2 k = v k := hag
      have hfr : xFr [(35, 2, 3)] _ _ := hfr
      have ex := List.mem_singleton.mp hx
      subst ex
      obtain ⟨hF, hBd, hM⟩ := hXs
      have g2 : v2 2 = v 2 := hag 2 (by decide)
      have g3 : v2 3 = v 3 := hag 3 (by decide)
      have b0 : ((2147483648 : Nat) : Int) ≤ (v2 2) + 2147483648 ∧ (v2 2) + 2147483648 ≤ ((2147483678 : Nat) : Int) := xXb hBd 0 rfl
      have b1 : ((2147483649 : Nat) : Int) ≤ (v2 3) + 2147483648 ∧ (v2 3) + 2147483648 ≤ ((2147483649 : Nat) : Int) := xXb hBd 1 rfl
      have f0 : ¬ (v2 3) = 0 := xXf hF 0 rfl
      have e35_4 : xE (zyEl zymc B H2) 35 4 = xE (zyEl zymc B H) 35 4 := xFr_E hfr rfl
      have q35_4 : xE (zyEl zymc B H) 35 4 = xE (zyEl zymc B s.heap) 35 4 := xFr_E hFr0 rfl
      have e35_5 : xE (zyEl zymc B H2) 35 5 = xE (zyEl zymc B H) 35 5 := xFr_E hfr rfl
      have e35_6 : xE (zyEl zymc B H2) 35 6 = xE (zyEl zymc B H) 35 6 := xFr_E hfr rfl
      have e35_7 : xE (zyEl zymc B H2) 35 7 = xE (zyEl zymc B H) 35 7 := xFr_E hfr rfl
      have e35_8 : xE (zyEl zymc B H2) 35 8 = xE (zyEl zymc B H) 35 8 := xFr_E hfr rfl
      have e2_3 : xE (zyEl zymc B H2) 2 3 = xE (zyEl zymc B H) 2 3 := xFr_E hfr rfl
      have q2_3 : xE (zyEl zymc B H) 2 3 = xE (zyEl zymc B s.heap) 2 3 := xFr_E hFr0 rfl
      have e36 : ∀ i, xE (zyEl zymc B H2) 36 i = xE (zyEl zymc B H) 36 i := fun i => xFr_E hfr rfl
      have q36 : ∀ i, xE (zyEl zymc B H) 36 i = xE (zyEl zymc B s.heap) 36 i := fun i => xFr_E hFr0 rfl
      have e12 : ∀ i, xE (zyEl zymc B H2) 12 i = xE (zyEl zymc B H) 12 i := fun i => xFr_E hfr rfl
      have y2_3 : ((2147483648 : Nat) : Int) ≤ xE (zyEl zymc B s.heap) 2 3 + 2147483648 ∧ xE (zyEl zymc B s.heap) 2 3 + 2147483648 ≤ ((2147483679 : Nat) : Int) := xTyF hT0 2 3 3 rfl rfl rfl rfl rfl rfl
      have hI : (0 ≤ (v 2) ∧ (v 2) < xE (zyEl zymc B s.heap) 2 3) ∧ ∃ p1, p1 ≤ (xE (zyEl zymc B s.heap) 35 4) ∧ (∀ S, xAb0 (zyEl zymc B s.heap) S → pStuck (xE (zyEl zymc B s.heap) 36) (xE (zyEl zymc B s.heap) 35 4) (xE (zyEl zymc B s.heap) 35 6) S = (if tW (xE (zyEl zymc B s.heap) 36) (xE (zyEl zymc B s.heap) 35 4) p1 [111, 112, 101, 110] = true then .ok (tNx (xE (zyEl zymc B s.heap) 36) (xE (zyEl zymc B s.heap) 35 4) p1, uS S (72 + (v 2)) 2) else if tW (xE (zyEl zymc B s.heap) 36) (xE (zyEl zymc B s.heap) 35 4) p1 [115, 104, 117, 116] = true then .ok (tNx (xE (zyEl zymc B s.heap) 36) (xE (zyEl zymc B s.heap) 35 4) p1, uS S (72 + (v 2)) 1) else .error (pMis (xE (zyEl zymc B s.heap) 36) (xE (zyEl zymc B s.heap) 35 4) p1, tFr (xE (zyEl zymc B s.heap) 36) (xE (zyEl zymc B s.heap) 35 4) p1))) ∧ (tW (xE (zyEl zymc B s.heap) 36) (xE (zyEl zymc B s.heap) 35 4) p1 [111, 112, 101, 110] = false ∧ (v 3) = if tW (xE (zyEl zymc B s.heap) 36) (xE (zyEl zymc B s.heap) 35 4) p1 [115, 104, 117, 116] = true then 1 else 0) ∧ xAD (xE (zyEl zymc B s.heap) 36) (xE (zyEl zymc B s.heap) 35 4) p1 (zyEl zymc B H) ∧ (∀ k, xE (zyEl zymc B H) 12 k = xE (zyEl zymc B s.heap) 12 k) := hInv
      obtain ⟨i1, p1, i0, i2, ⟨iw, i3⟩, ⟨i4, i5, i6, i7⟩, j0⟩ := hI
      rw [show (v 2) = v2 2 by omega] at i2
      have hb := tNx_b (T := xE (zyEl zymc B s.heap) 36) (n := xE (zyEl zymc B s.heap) 35 4) (p := p1) i0
      have hw : tW (xE (zyEl zymc B s.heap) 36) (xE (zyEl zymc B s.heap) 35 4) p1 [115, 104, 117, 116] = true := by
        by_cases h : tW (xE (zyEl zymc B s.heap) 36) (xE (zyEl zymc B s.heap) 35 4) p1 [115, 104, 117, 116] = true
        · exact h
        · rw [if_neg h] at i3
          omega
      refine xSt hRu hIH hAt hB hv hFr 12 (ax := 0) 8 68719476737 1 (v2 2) rfl (Or.inl ⟨rfl, rfl⟩) rfl (by decide +kernel) rfl rfl (by omega) (by show (v2 2) < ((31 : Nat) : Int); omega) (fun r hr q1 q2 => by rw [List.mem_singleton.mp hr]; exact ⟨rfl, by show ((2147483648 : Nat) : Int) ≤ 1 + 2147483648; omega, by show 1 + 2147483648 ≤ ((2147483650 : Nat) : Int); omega⟩) (zyin_iff.mpr ⟨(12, 0, 30), by decide, rfl, Nat.zero_le _, by show Int.toNat (v2 2) ≤ 30; omega⟩) (fun H3 hT3 hst3 hne3 hfn3 hFr3 => ?_)
      have hfe3 : ∀ (a2 : Nat) (k2 : Int), ¬ a2 = 12 → xE (zyEl zymc B H3) a2 k2 = xE (zyEl zymc B H2) a2 k2 := fun a2 k2 hne => by unfold xE; rw [hfn3 a2 k2.toNat (fun z => hne z.1)]
      have d35_4 : xE (zyEl zymc B H3) 35 4 = xE (zyEl zymc B H2) 35 4 := hfe3 35 4 (fun z => absurd z (by decide))
      have d35_5 : xE (zyEl zymc B H3) 35 5 = xE (zyEl zymc B H2) 35 5 := hfe3 35 5 (fun z => absurd z (by decide))
      have d35_6 : xE (zyEl zymc B H3) 35 6 = xE (zyEl zymc B H2) 35 6 := hfe3 35 6 (fun z => absurd z (by decide))
      have d35_7 : xE (zyEl zymc B H3) 35 7 = xE (zyEl zymc B H2) 35 7 := hfe3 35 7 (fun z => absurd z (by decide))
      have d35_8 : xE (zyEl zymc B H3) 35 8 = xE (zyEl zymc B H2) 35 8 := hfe3 35 8 (fun z => absurd z (by decide))
      have d35_2 : xE (zyEl zymc B H3) 35 2 = xE (zyEl zymc B H2) 35 2 := hfe3 35 2 (fun z => absurd z (by decide))
      have d35_3 : xE (zyEl zymc B H3) 35 3 = xE (zyEl zymc B H2) 35 3 := hfe3 35 3 (fun z => absurd z (by decide))
      have d2_3 : xE (zyEl zymc B H3) 2 3 = xE (zyEl zymc B H2) 2 3 := hfe3 2 3 (fun z => absurd z (by decide))
      refine ⟨⟨6, by decide⟩, [0, 0, 68719476737], [0, 0, (v2 2)], rfl, ⟨by decide +kernel, ⟨rfl, by decide +kernel⟩, (xcs_c rfl (xcs_c rfl (xcs_c rfl xcs_n))), (xe_0 (xe_0 (xe_c (by omega) (by omega) rfl xe_n))), xkq_n⟩, rfl, ?_, ?_⟩
      · show (0 ≤ ((v2 2) : Int) ∧ ((v2 2) : Int) < xE (zyEl zymc B s.heap) 2 3) ∧ xE (zyEl zymc B H3) 35 6 ≤ (xE (zyEl zymc B s.heap) 35 4) ∧ (∀ S, xAb0 (zyEl zymc B s.heap) S → pStuck (xE (zyEl zymc B s.heap) 36) (xE (zyEl zymc B s.heap) 35 4) (xE (zyEl zymc B s.heap) 35 6) S = .ok (xE (zyEl zymc B H3) 35 6, uS S (72 + ((v2 2) : Int)) 1)) ∧ xE (zyEl zymc B H3) 12 ((v2 2) : Int) = 1 ∧ (∀ k, 0 ≤ k → ¬ k = ((v2 2) : Int) → xE (zyEl zymc B H3) 12 k = xE (zyEl zymc B s.heap) 12 k)
        refine ⟨by omega, by omega, fun S hS => ?_, hst3, fun k k0 k1 => (hne3 12 k k0 (fun z => k1 z.2)).trans ((e12 k).trans (j0 k))⟩
        rw [i2 S hS, iw, if_neg (by decide), if_pos hw, show xE (zyEl zymc B H3) 35 6 = tNx (xE (zyEl zymc B s.heap) 36) (xE (zyEl zymc B s.heap) 35 4) p1 by omega]
      · show 14 < 16
        omega
    · have hx : x ∈ [zxfrk0_fx0] := hx
      have hag : ∀ k, k < 3 → v2 k = v k := hag
      have hfr : xFr [] _ _ := hfr
      have ex := List.mem_singleton.mp hx
      subst ex
      obtain ⟨hF, hBd, hM⟩ := hXs
      have g2 : v2 2 = v 2 := hag 2 (by decide)
      have b0 : ((2147483648 : Nat) : Int) ≤ (v2 2) + 2147483648 ∧ (v2 2) + 2147483648 ≤ ((2147483678 : Nat) : Int) := xXb hBd 0 rfl
      have e35_4 : xE (zyEl zymc B H2) 35 4 = xE (zyEl zymc B H) 35 4 := xFr_E hfr rfl
      have q35_4 : xE (zyEl zymc B H) 35 4 = xE (zyEl zymc B s.heap) 35 4 := xFr_E hFr0 rfl
      have e35_5 : xE (zyEl zymc B H2) 35 5 = xE (zyEl zymc B H) 35 5 := xFr_E hfr rfl
      have e35_6 : xE (zyEl zymc B H2) 35 6 = xE (zyEl zymc B H) 35 6 := xFr_E hfr rfl
      have e35_7 : xE (zyEl zymc B H2) 35 7 = xE (zyEl zymc B H) 35 7 := xFr_E hfr rfl
      have e35_8 : xE (zyEl zymc B H2) 35 8 = xE (zyEl zymc B H) 35 8 := xFr_E hfr rfl
      have e35_2 : xE (zyEl zymc B H2) 35 2 = xE (zyEl zymc B H) 35 2 := xFr_E hfr rfl
      have e35_3 : xE (zyEl zymc B H2) 35 3 = xE (zyEl zymc B H) 35 3 := xFr_E hfr rfl
      have e2_3 : xE (zyEl zymc B H2) 2 3 = xE (zyEl zymc B H) 2 3 := xFr_E hfr rfl
      have q2_3 : xE (zyEl zymc B H) 2 3 = xE (zyEl zymc B s.heap) 2 3 := xFr_E hFr0 rfl
      have e36 : ∀ i, xE (zyEl zymc B H2) 36 i = xE (zyEl zymc B H) 36 i := fun i => xFr_E hfr rfl
      have q36 : ∀ i, xE (zyEl zymc B H) 36 i = xE (zyEl zymc B s.heap) 36 i := fun i => xFr_E hFr0 rfl
      have e12 : ∀ i, xE (zyEl zymc B H2) 12 i = xE (zyEl zymc B H) 12 i := fun i => xFr_E hfr rfl
      have y2_3 : ((2147483648 : Nat) : Int) ≤ xE (zyEl zymc B s.heap) 2 3 + 2147483648 ∧ xE (zyEl zymc B s.heap) 2 3 + 2147483648 ≤ ((2147483679 : Nat) : Int) := xTyF hT0 2 3 3 rfl rfl rfl rfl rfl rfl
      have hI : (0 ≤ (v 2) ∧ (v 2) < xE (zyEl zymc B s.heap) 2 3) ∧ xE (zyEl zymc B H) 35 6 ≤ (xE (zyEl zymc B s.heap) 35 4) ∧ (∀ S, xAb0 (zyEl zymc B s.heap) S → pStuck (xE (zyEl zymc B s.heap) 36) (xE (zyEl zymc B s.heap) 35 4) (xE (zyEl zymc B s.heap) 35 6) S = .ok (xE (zyEl zymc B H) 35 6, uS S (72 + (v 2)) 2)) ∧ xE (zyEl zymc B H) 12 (v 2) = 2 ∧ (∀ k, 0 ≤ k → ¬ k = (v 2) → xE (zyEl zymc B H) 12 k = xE (zyEl zymc B s.heap) 12 k) := hInv
      have tt : xE (zyEl zymc B H2) 36 = xE (zyEl zymc B s.heap) 36 := funext fun i => (e36 i).trans (q36 i)
      have tn : xE (zyEl zymc B H2) 35 4 = xE (zyEl zymc B s.heap) 35 4 := by omega
      obtain ⟨i1, i0, i2, i3, i4⟩ := hI
      rw [show (v 2) = v2 2 by omega] at i2 i3 i4
      refine xCa hRu hIH hAt hB hv hFr (hfts B) (ix := 73) (ax := 1088) rfl rfl rfl hmefts ⟨_, rfl, rfl, by decide⟩ ⟨rfl, rfl, rfl⟩ (by decide) [] [] [] rfl ⟨rfl, rfl⟩ (by decide +kernel) xcs_n (by decide +kernel) ?_ (fun H3 r hT3 hf3 hFr3 hr3 hΨ3 => ?_)
      · show xΦad (xfv []) (zyEl zymc B H2)
        unfold xΦad
        omega
      · have hΨ3 : xΨts (xfv []) (zyEl zymc B H2) (zyEl zymc B H3) r := hΨ3
        have d35_4 : xE (zyEl zymc B H3) 35 4 = xE (zyEl zymc B H2) 35 4 := xFr_E hf3 rfl
        have d2_3 : xE (zyEl zymc B H3) 2 3 = xE (zyEl zymc B H2) 2 3 := xFr_E hf3 rfl
        have d36 : ∀ i, xE (zyEl zymc B H3) 36 i = xE (zyEl zymc B H2) 36 i := fun i => xFr_E hf3 rfl
        have d12 : ∀ i, xE (zyEl zymc B H3) 12 i = xE (zyEl zymc B H2) 12 i := fun i => xFr_E hf3 rfl
        unfold xΨts at hΨ3
        rw [tt, tn] at hΨ3
        have hr01 := xts_r hΨ3
        refine ⟨⟨7, by decide⟩, [0, 0, 68719476737], [0, 0, (v2 2), r], rfl, ⟨by decide +kernel, ⟨rfl, by decide +kernel⟩, (xcs_c rfl (xcs_c rfl (xcs_c rfl xcs_n))), (xe_0 (xe_0 (xe_c (by omega) (by omega) rfl (xe_c (by omega) (by omega) rfl xe_n)))), xkq_n⟩, (by rw [if_pos rfl]; exact ⟨3, [], rfl, by decide, rfl, xst_n⟩), ?_, ?_⟩
        · show ∃ g how p2, (0 ≤ g ∧ g < xE (zyEl zymc B s.heap) 2 3) ∧ (∀ S, xAb0 (zyEl zymc B s.heap) S → pStuck (xE (zyEl zymc B s.heap) 36) (xE (zyEl zymc B s.heap) 35 4) (xE (zyEl zymc B s.heap) 35 6) S = .ok (p2, uS S (72 + g) how)) ∧ xE (zyEl zymc B H3) 12 g = how ∧ (∀ k, 0 ≤ k → ¬ k = g → xE (zyEl zymc B H3) 12 k = xE (zyEl zymc B s.heap) 12 k) ∧ xTS (xE (zyEl zymc B s.heap) 36) (xE (zyEl zymc B s.heap) 35 4) p2 (zyEl zymc B H3) (r : Int)
          exact ⟨v2 2, 2, xE (zyEl zymc B H2) 35 6, by omega, fun S hS => by rw [i2 S hS, show xE (zyEl zymc B H) 35 6 = xE (zyEl zymc B H2) 35 6 by omega], (d12 _).trans ((e12 _).trans i3), fun k k0 k1 => (d12 k).trans ((e12 k).trans (i4 k k0 k1)), hΨ3⟩
        · show 13 < 15
          omega
    · have hx : x ∈ [zxfrk0_gx0] := hx
      have hag : ∀ k, k < 3 → v2 k = v k := hag
      have hfr : xFr [] _ _ := hfr
      have ex := List.mem_singleton.mp hx
      subst ex
      obtain ⟨hF, hBd, hM⟩ := hXs
      have g2 : v2 2 = v 2 := hag 2 (by decide)
      have b0 : ((2147483648 : Nat) : Int) ≤ (v2 2) + 2147483648 ∧ (v2 2) + 2147483648 ≤ ((2147483678 : Nat) : Int) := xXb hBd 0 rfl
      have e35_4 : xE (zyEl zymc B H2) 35 4 = xE (zyEl zymc B H) 35 4 := xFr_E hfr rfl
      have q35_4 : xE (zyEl zymc B H) 35 4 = xE (zyEl zymc B s.heap) 35 4 := xFr_E hFr0 rfl
      have e35_5 : xE (zyEl zymc B H2) 35 5 = xE (zyEl zymc B H) 35 5 := xFr_E hfr rfl
      have e35_6 : xE (zyEl zymc B H2) 35 6 = xE (zyEl zymc B H) 35 6 := xFr_E hfr rfl
      have e35_7 : xE (zyEl zymc B H2) 35 7 = xE (zyEl zymc B H) 35 7 := xFr_E hfr rfl
      have e35_8 : xE (zyEl zymc B H2) 35 8 = xE (zyEl zymc B H) 35 8 := xFr_E hfr rfl
      have e35_2 : xE (zyEl zymc B H2) 35 2 = xE (zyEl zymc B H) 35 2 := xFr_E hfr rfl
      have e35_3 : xE (zyEl zymc B H2) 35 3 = xE (zyEl zymc B H) 35 3 := xFr_E hfr rfl
      have e2_3 : xE (zyEl zymc B H2) 2 3 = xE (zyEl zymc B H) 2 3 := xFr_E hfr rfl
      have q2_3 : xE (zyEl zymc B H) 2 3 = xE (zyEl zymc B s.heap) 2 3 := xFr_E hFr0 rfl
      have e36 : ∀ i, xE (zyEl zymc B H2) 36 i = xE (zyEl zymc B H) 36 i := fun i => xFr_E hfr rfl
      have q36 : ∀ i, xE (zyEl zymc B H) 36 i = xE (zyEl zymc B s.heap) 36 i := fun i => xFr_E hFr0 rfl
      have e12 : ∀ i, xE (zyEl zymc B H2) 12 i = xE (zyEl zymc B H) 12 i := fun i => xFr_E hfr rfl
      have y2_3 : ((2147483648 : Nat) : Int) ≤ xE (zyEl zymc B s.heap) 2 3 + 2147483648 ∧ xE (zyEl zymc B s.heap) 2 3 + 2147483648 ≤ ((2147483679 : Nat) : Int) := xTyF hT0 2 3 3 rfl rfl rfl rfl rfl rfl
      have hI : (0 ≤ (v 2) ∧ (v 2) < xE (zyEl zymc B s.heap) 2 3) ∧ xE (zyEl zymc B H) 35 6 ≤ (xE (zyEl zymc B s.heap) 35 4) ∧ (∀ S, xAb0 (zyEl zymc B s.heap) S → pStuck (xE (zyEl zymc B s.heap) 36) (xE (zyEl zymc B s.heap) 35 4) (xE (zyEl zymc B s.heap) 35 6) S = .ok (xE (zyEl zymc B H) 35 6, uS S (72 + (v 2)) 1)) ∧ xE (zyEl zymc B H) 12 (v 2) = 1 ∧ (∀ k, 0 ≤ k → ¬ k = (v 2) → xE (zyEl zymc B H) 12 k = xE (zyEl zymc B s.heap) 12 k) := hInv
      have tt : xE (zyEl zymc B H2) 36 = xE (zyEl zymc B s.heap) 36 := funext fun i => (e36 i).trans (q36 i)
      have tn : xE (zyEl zymc B H2) 35 4 = xE (zyEl zymc B s.heap) 35 4 := by omega
      obtain ⟨i1, i0, i2, i3, i4⟩ := hI
      rw [show (v 2) = v2 2 by omega] at i2 i3 i4
      refine xCa hRu hIH hAt hB hv hFr (hfts B) (ix := 73) (ax := 1088) rfl rfl rfl hmefts ⟨_, rfl, rfl, by decide⟩ ⟨rfl, rfl, rfl⟩ (by decide) [] [] [] rfl ⟨rfl, rfl⟩ (by decide +kernel) xcs_n (by decide +kernel) ?_ (fun H3 r hT3 hf3 hFr3 hr3 hΨ3 => ?_)
      · show xΦad (xfv []) (zyEl zymc B H2)
        unfold xΦad
        omega
      · have hΨ3 : xΨts (xfv []) (zyEl zymc B H2) (zyEl zymc B H3) r := hΨ3
        have d35_4 : xE (zyEl zymc B H3) 35 4 = xE (zyEl zymc B H2) 35 4 := xFr_E hf3 rfl
        have d2_3 : xE (zyEl zymc B H3) 2 3 = xE (zyEl zymc B H2) 2 3 := xFr_E hf3 rfl
        have d36 : ∀ i, xE (zyEl zymc B H3) 36 i = xE (zyEl zymc B H2) 36 i := fun i => xFr_E hf3 rfl
        have d12 : ∀ i, xE (zyEl zymc B H3) 12 i = xE (zyEl zymc B H2) 12 i := fun i => xFr_E hf3 rfl
        unfold xΨts at hΨ3
        rw [tt, tn] at hΨ3
        have hr01 := xts_r hΨ3
        refine ⟨⟨7, by decide⟩, [0, 0, 68719476737], [0, 0, (v2 2), r], rfl, ⟨by decide +kernel, ⟨rfl, by decide +kernel⟩, (xcs_c rfl (xcs_c rfl (xcs_c rfl xcs_n))), (xe_0 (xe_0 (xe_c (by omega) (by omega) rfl (xe_c (by omega) (by omega) rfl xe_n)))), xkq_n⟩, (by rw [if_pos rfl]; exact ⟨3, [], rfl, by decide, rfl, xst_n⟩), ?_, ?_⟩
        · show ∃ g how p2, (0 ≤ g ∧ g < xE (zyEl zymc B s.heap) 2 3) ∧ (∀ S, xAb0 (zyEl zymc B s.heap) S → pStuck (xE (zyEl zymc B s.heap) 36) (xE (zyEl zymc B s.heap) 35 4) (xE (zyEl zymc B s.heap) 35 6) S = .ok (p2, uS S (72 + g) how)) ∧ xE (zyEl zymc B H3) 12 g = how ∧ (∀ k, 0 ≤ k → ¬ k = g → xE (zyEl zymc B H3) 12 k = xE (zyEl zymc B s.heap) 12 k) ∧ xTS (xE (zyEl zymc B s.heap) 36) (xE (zyEl zymc B s.heap) 35 4) p2 (zyEl zymc B H3) (r : Int)
          exact ⟨v2 2, 1, xE (zyEl zymc B H2) 35 6, by omega, fun S hS => by rw [i2 S hS, show xE (zyEl zymc B H) 35 6 = xE (zyEl zymc B H2) 35 6 by omega], (d12 _).trans ((e12 _).trans i3), fun k k0 k1 => (d12 k).trans ((e12 k).trans (i4 k k0 k1)), hΨ3⟩
        · show 13 < 14
          omega
    · cases hx
  · intro x0 E0 E E2 hrx hT0 hΦ i v hT hrv hInv hKc hFr0 x hx v2 hr2 hXs hag hfr hFr hT2
    rcases i with ⟨i, hi⟩
    have hi2 : i = 0 ∨ i = 1 ∨ i = 2 ∨ i = 3 ∨ i = 4 ∨ i = 5 ∨ i = 6 ∨ i = 7 := by omega
    rcases hi2 with rfl | rfl | rfl | rfl | rfl | rfl | rfl | rfl
    · cases hx
    · have hx : x ∈ [zxfrk0_br0] := hx
      have hag : ∀ k, k < 4 → v2 k = v k := hag
      have hfr : xFr [] _ _ := hfr
      have ex := List.mem_singleton.mp hx
      subst ex
      obtain ⟨hF, hBd, hM⟩ := hXs
      have g3 : v2 3 = v 3 := hag 3 (by decide)
      have b0 : ((2147483648 : Nat) : Int) ≤ (v2 3) + 2147483648 ∧ (v2 3) + 2147483648 ≤ ((2147483648 : Nat) : Int) := xXb hBd 0 rfl
      have f0 : (v2 3) = 0 := xXf hF 0 rfl
      have e35_4 : xE E2 35 4 = xE E 35 4 := xFr_E hfr rfl
      have q35_4 : xE E 35 4 = xE E0 35 4 := xFr_E hFr0 rfl
      have e35_5 : xE E2 35 5 = xE E 35 5 := xFr_E hfr rfl
      have e35_6 : xE E2 35 6 = xE E 35 6 := xFr_E hfr rfl
      have e35_7 : xE E2 35 7 = xE E 35 7 := xFr_E hfr rfl
      have e35_8 : xE E2 35 8 = xE E 35 8 := xFr_E hfr rfl
      have e35_2 : xE E2 35 2 = xE E 35 2 := xFr_E hfr rfl
      have e35_3 : xE E2 35 3 = xE E 35 3 := xFr_E hfr rfl
      have e2_3 : xE E2 2 3 = xE E 2 3 := xFr_E hfr rfl
      have q2_3 : xE E 2 3 = xE E0 2 3 := xFr_E hFr0 rfl
      have e36 : ∀ i, xE E2 36 i = xE E 36 i := fun i => xFr_E hfr rfl
      have q36 : ∀ i, xE E 36 i = xE E0 36 i := fun i => xFr_E hFr0 rfl
      have e12 : ∀ i, xE E2 12 i = xE E 12 i := fun i => xFr_E hfr rfl
      have y2_3 : ((2147483648 : Nat) : Int) ≤ xE E0 2 3 + 2147483648 ∧ xE E0 2 3 + 2147483648 ≤ ((2147483679 : Nat) : Int) := xTyF hT0 2 3 3 rfl rfl rfl rfl rfl rfl
      have hI : xTN (xE E0 36) (xE E0 35 4) (xE E0 35 6) 0 (xE E0 2 3 - 1) E (v 3) ∧ (∀ k, xE E 12 k = xE E0 12 k) := hInv
      show xΨfrk0 x0 E0 E2 0
      obtain ⟨i1, j0⟩ := hI
      have hz : (v 3) = 0 := by omega
      intro S hS
      have e : pStuck (xE E0 36) (xE E0 35 4) (xE E0 35 6) S = Except.error (xE E 35 2, xE E 35 3) := by unfold pStuck; rw [← hS.2.1.2.2.2]; exact xtn_0 i1 hz _
      show xOut0 (pBind (pStuck (xE E0 36) (xE E0 35 4) (xE E0 35 6) S) (pSem (xE E0 36) (xE E0 35 4))) E2 0
      rw [e]
      exact xOut0_e (by omega) (by omega) (by omega)
    · cases hx
    · cases hx
    · have hx : x ∈ [zxfrk0_er0, zxfrk0_er1, zxfrk0_er2] := hx
      have hag : ∀ k, k < 4 → v2 k = v k := hag
      have hfr : xFr [(35, 2, 3)] _ _ := hfr
      rcases List.mem_cons.mp hx with ex | hx
      · subst ex
        obtain ⟨hF, hBd, hM⟩ := hXs
        have g2 : v2 2 = v 2 := hag 2 (by decide)
        have g3 : v2 3 = v 3 := hag 3 (by decide)
        have b0 : ((2147483648 : Nat) : Int) ≤ (v2 3) + 2147483648 ∧ (v2 3) + 2147483648 ≤ ((2147483648 : Nat) : Int) := xXb hBd 0 rfl
        have b1 : ((2147483650 : Nat) : Int) ≤ (v2 4) + 2147483648 ∧ (v2 4) + 2147483648 ≤ ((2147483653 : Nat) : Int) := xXb hBd 1 rfl
        have b2 : ((2147483648 : Nat) : Int) ≤ (v2 5) + 2147483648 ∧ (v2 5) + 2147483648 ≤ ((2147484548 : Nat) : Int) := xXb hBd 2 rfl
        have f0 : (v2 3) = 0 := xXf hF 0 rfl
        have f1 : (0 : Int) ≤ 7 ∧ xE E 35 7 = (v2 4) := xXf hF 1 rfl
        have f2 : ¬ (v2 4) = 1 := xXf hF 2 rfl
        have f3 : (0 : Int) ≤ 5 ∧ xE E 35 5 = (v2 5) := xXf hF 3 rfl
        have m0 : xE E2 35 2 = 2 := xXm hM 0 rfl
        have m1 : xE E2 35 3 = (v2 5) := xXm hM 1 rfl
        have e35_4 : xE E2 35 4 = xE E 35 4 := xFr_E hfr rfl
        have q35_4 : xE E 35 4 = xE E0 35 4 := xFr_E hFr0 rfl
        have e35_5 : xE E2 35 5 = xE E 35 5 := xFr_E hfr rfl
        have e35_6 : xE E2 35 6 = xE E 35 6 := xFr_E hfr rfl
        have e35_7 : xE E2 35 7 = xE E 35 7 := xFr_E hfr rfl
        have e35_8 : xE E2 35 8 = xE E 35 8 := xFr_E hfr rfl
        have e2_3 : xE E2 2 3 = xE E 2 3 := xFr_E hfr rfl
        have q2_3 : xE E 2 3 = xE E0 2 3 := xFr_E hFr0 rfl
        have e36 : ∀ i, xE E2 36 i = xE E 36 i := fun i => xFr_E hfr rfl
        have q36 : ∀ i, xE E 36 i = xE E0 36 i := fun i => xFr_E hFr0 rfl
        have e12 : ∀ i, xE E2 12 i = xE E 12 i := fun i => xFr_E hfr rfl
        have y2_3 : ((2147483648 : Nat) : Int) ≤ xE E0 2 3 + 2147483648 ∧ xE E0 2 3 + 2147483648 ≤ ((2147483679 : Nat) : Int) := xTyF hT0 2 3 3 rfl rfl rfl rfl rfl rfl
        have hI : (0 ≤ (v 2) ∧ (v 2) < xE E0 2 3) ∧ ∃ p1, p1 ≤ (xE E0 35 4) ∧ (∀ S, xAb0 E0 S → pStuck (xE E0 36) (xE E0 35 4) (xE E0 35 6) S = (if tW (xE E0 36) (xE E0 35 4) p1 [111, 112, 101, 110] = true then .ok (tNx (xE E0 36) (xE E0 35 4) p1, uS S (72 + (v 2)) 2) else if tW (xE E0 36) (xE E0 35 4) p1 [115, 104, 117, 116] = true then .ok (tNx (xE E0 36) (xE E0 35 4) p1, uS S (72 + (v 2)) 1) else .error (pMis (xE E0 36) (xE E0 35 4) p1, tFr (xE E0 36) (xE E0 35 4) p1))) ∧ (tW (xE E0 36) (xE E0 35 4) p1 [111, 112, 101, 110] = false ∧ (v 3) = if tW (xE E0 36) (xE E0 35 4) p1 [115, 104, 117, 116] = true then 1 else 0) ∧ xAD (xE E0 36) (xE E0 35 4) p1 E ∧ (∀ k, xE E 12 k = xE E0 12 k) := hInv
        show xΨfrk0 x0 E0 E2 0
        obtain ⟨i1, p1, i0, i2, ⟨iw, i3⟩, ⟨i4, i5, i6, i7⟩, j0⟩ := hI
        rw [show (v 2) = v2 2 by omega] at i2
        have hb := tNx_b (T := xE E0 36) (n := xE E0 35 4) (p := p1) i0
        have hw : tW (xE E0 36) (xE E0 35 4) p1 [115, 104, 117, 116] = false := by
          rw [Bool.eq_false_iff]
          intro h
          rw [if_pos h] at i3
          omega
        have hm : pMis (xE E0 36) (xE E0 35 4) p1 = 2 := by unfold pMis; rw [if_neg (by omega)]
        intro S hS
        have e : pStuck (xE E0 36) (xE E0 35 4) (xE E0 35 6) S = Except.error (pMis (xE E0 36) (xE E0 35 4) p1, tFr (xE E0 36) (xE E0 35 4) p1) := by rw [i2 S hS, iw, hw, if_neg (by decide), if_neg (by decide)]
        show xOut0 (pBind (pStuck (xE E0 36) (xE E0 35 4) (xE E0 35 6) S) (pSem (xE E0 36) (xE E0 35 4))) E2 0
        rw [e]
        exact xOut0_e (by omega) (by omega) (by omega)
      · skip
        rcases List.mem_cons.mp hx with ex | hx
        · subst ex
          obtain ⟨hF, hBd, hM⟩ := hXs
          have g2 : v2 2 = v 2 := hag 2 (by decide)
          have g3 : v2 3 = v 3 := hag 3 (by decide)
          have b0 : ((2147483648 : Nat) : Int) ≤ (v2 3) + 2147483648 ∧ (v2 3) + 2147483648 ≤ ((2147483648 : Nat) : Int) := xXb hBd 0 rfl
          have b1 : ((2147483648 : Nat) : Int) ≤ (v2 4) + 2147483648 ∧ (v2 4) + 2147483648 ≤ ((2147483648 : Nat) : Int) := xXb hBd 1 rfl
          have b2 : ((2147483648 : Nat) : Int) ≤ (v2 5) + 2147483648 ∧ (v2 5) + 2147483648 ≤ ((2147484548 : Nat) : Int) := xXb hBd 2 rfl
          have f0 : (v2 3) = 0 := xXf hF 0 rfl
          have f1 : (0 : Int) ≤ 7 ∧ xE E 35 7 = (v2 4) := xXf hF 1 rfl
          have f2 : ¬ (v2 4) = 1 := xXf hF 2 rfl
          have f3 : (0 : Int) ≤ 5 ∧ xE E 35 5 = (v2 5) := xXf hF 3 rfl
          have m0 : xE E2 35 2 = 2 := xXm hM 0 rfl
          have m1 : xE E2 35 3 = (v2 5) := xXm hM 1 rfl
          have e35_4 : xE E2 35 4 = xE E 35 4 := xFr_E hfr rfl
          have q35_4 : xE E 35 4 = xE E0 35 4 := xFr_E hFr0 rfl
          have e35_5 : xE E2 35 5 = xE E 35 5 := xFr_E hfr rfl
          have e35_6 : xE E2 35 6 = xE E 35 6 := xFr_E hfr rfl
          have e35_7 : xE E2 35 7 = xE E 35 7 := xFr_E hfr rfl
          have e35_8 : xE E2 35 8 = xE E 35 8 := xFr_E hfr rfl
          have e2_3 : xE E2 2 3 = xE E 2 3 := xFr_E hfr rfl
          have q2_3 : xE E 2 3 = xE E0 2 3 := xFr_E hFr0 rfl
          have e36 : ∀ i, xE E2 36 i = xE E 36 i := fun i => xFr_E hfr rfl
          have q36 : ∀ i, xE E 36 i = xE E0 36 i := fun i => xFr_E hFr0 rfl
          have e12 : ∀ i, xE E2 12 i = xE E 12 i := fun i => xFr_E hfr rfl
          have y2_3 : ((2147483648 : Nat) : Int) ≤ xE E0 2 3 + 2147483648 ∧ xE E0 2 3 + 2147483648 ≤ ((2147483679 : Nat) : Int) := xTyF hT0 2 3 3 rfl rfl rfl rfl rfl rfl
          have hI : (0 ≤ (v 2) ∧ (v 2) < xE E0 2 3) ∧ ∃ p1, p1 ≤ (xE E0 35 4) ∧ (∀ S, xAb0 E0 S → pStuck (xE E0 36) (xE E0 35 4) (xE E0 35 6) S = (if tW (xE E0 36) (xE E0 35 4) p1 [111, 112, 101, 110] = true then .ok (tNx (xE E0 36) (xE E0 35 4) p1, uS S (72 + (v 2)) 2) else if tW (xE E0 36) (xE E0 35 4) p1 [115, 104, 117, 116] = true then .ok (tNx (xE E0 36) (xE E0 35 4) p1, uS S (72 + (v 2)) 1) else .error (pMis (xE E0 36) (xE E0 35 4) p1, tFr (xE E0 36) (xE E0 35 4) p1))) ∧ (tW (xE E0 36) (xE E0 35 4) p1 [111, 112, 101, 110] = false ∧ (v 3) = if tW (xE E0 36) (xE E0 35 4) p1 [115, 104, 117, 116] = true then 1 else 0) ∧ xAD (xE E0 36) (xE E0 35 4) p1 E ∧ (∀ k, xE E 12 k = xE E0 12 k) := hInv
          show xΨfrk0 x0 E0 E2 0
          obtain ⟨i1, p1, i0, i2, ⟨iw, i3⟩, ⟨i4, i5, i6, i7⟩, j0⟩ := hI
          rw [show (v 2) = v2 2 by omega] at i2
          have hb := tNx_b (T := xE E0 36) (n := xE E0 35 4) (p := p1) i0
          have hw : tW (xE E0 36) (xE E0 35 4) p1 [115, 104, 117, 116] = false := by
            rw [Bool.eq_false_iff]
            intro h
            rw [if_pos h] at i3
            omega
          have hm : pMis (xE E0 36) (xE E0 35 4) p1 = 2 := by unfold pMis; rw [if_neg (by omega)]
          intro S hS
          have e : pStuck (xE E0 36) (xE E0 35 4) (xE E0 35 6) S = Except.error (pMis (xE E0 36) (xE E0 35 4) p1, tFr (xE E0 36) (xE E0 35 4) p1) := by rw [i2 S hS, iw, hw, if_neg (by decide), if_neg (by decide)]
          show xOut0 (pBind (pStuck (xE E0 36) (xE E0 35 4) (xE E0 35 6) S) (pSem (xE E0 36) (xE E0 35 4))) E2 0
          rw [e]
          exact xOut0_e (by omega) (by omega) (by omega)
        · skip
          have ex := List.mem_singleton.mp hx
          subst ex
          obtain ⟨hF, hBd, hM⟩ := hXs
          have g2 : v2 2 = v 2 := hag 2 (by decide)
          have g3 : v2 3 = v 3 := hag 3 (by decide)
          have b0 : ((2147483648 : Nat) : Int) ≤ (v2 3) + 2147483648 ∧ (v2 3) + 2147483648 ≤ ((2147483648 : Nat) : Int) := xXb hBd 0 rfl
          have b1 : ((2147483649 : Nat) : Int) ≤ (v2 4) + 2147483648 ∧ (v2 4) + 2147483648 ≤ ((2147483649 : Nat) : Int) := xXb hBd 1 rfl
          have b2 : ((2147483648 : Nat) : Int) ≤ (v2 5) + 2147483648 ∧ (v2 5) + 2147483648 ≤ ((2147484548 : Nat) : Int) := xXb hBd 2 rfl
          have f0 : (v2 3) = 0 := xXf hF 0 rfl
          have f1 : (0 : Int) ≤ 7 ∧ xE E 35 7 = (v2 4) := xXf hF 1 rfl
          have f2 : (v2 4) = 1 := xXf hF 2 rfl
          have f3 : (0 : Int) ≤ 5 ∧ xE E 35 5 = (v2 5) := xXf hF 3 rfl
          have m0 : xE E2 35 2 = 1 := xXm hM 0 rfl
          have m1 : xE E2 35 3 = (v2 5) := xXm hM 1 rfl
          have e35_4 : xE E2 35 4 = xE E 35 4 := xFr_E hfr rfl
          have q35_4 : xE E 35 4 = xE E0 35 4 := xFr_E hFr0 rfl
          have e35_5 : xE E2 35 5 = xE E 35 5 := xFr_E hfr rfl
          have e35_6 : xE E2 35 6 = xE E 35 6 := xFr_E hfr rfl
          have e35_7 : xE E2 35 7 = xE E 35 7 := xFr_E hfr rfl
          have e35_8 : xE E2 35 8 = xE E 35 8 := xFr_E hfr rfl
          have e2_3 : xE E2 2 3 = xE E 2 3 := xFr_E hfr rfl
          have q2_3 : xE E 2 3 = xE E0 2 3 := xFr_E hFr0 rfl
          have e36 : ∀ i, xE E2 36 i = xE E 36 i := fun i => xFr_E hfr rfl
          have q36 : ∀ i, xE E 36 i = xE E0 36 i := fun i => xFr_E hFr0 rfl
          have e12 : ∀ i, xE E2 12 i = xE E 12 i := fun i => xFr_E hfr rfl
          have y2_3 : ((2147483648 : Nat) : Int) ≤ xE E0 2 3 + 2147483648 ∧ xE E0 2 3 + 2147483648 ≤ ((2147483679 : Nat) : Int) := xTyF hT0 2 3 3 rfl rfl rfl rfl rfl rfl
          have hI : (0 ≤ (v 2) ∧ (v 2) < xE E0 2 3) ∧ ∃ p1, p1 ≤ (xE E0 35 4) ∧ (∀ S, xAb0 E0 S → pStuck (xE E0 36) (xE E0 35 4) (xE E0 35 6) S = (if tW (xE E0 36) (xE E0 35 4) p1 [111, 112, 101, 110] = true then .ok (tNx (xE E0 36) (xE E0 35 4) p1, uS S (72 + (v 2)) 2) else if tW (xE E0 36) (xE E0 35 4) p1 [115, 104, 117, 116] = true then .ok (tNx (xE E0 36) (xE E0 35 4) p1, uS S (72 + (v 2)) 1) else .error (pMis (xE E0 36) (xE E0 35 4) p1, tFr (xE E0 36) (xE E0 35 4) p1))) ∧ (tW (xE E0 36) (xE E0 35 4) p1 [111, 112, 101, 110] = false ∧ (v 3) = if tW (xE E0 36) (xE E0 35 4) p1 [115, 104, 117, 116] = true then 1 else 0) ∧ xAD (xE E0 36) (xE E0 35 4) p1 E ∧ (∀ k, xE E 12 k = xE E0 12 k) := hInv
          show xΨfrk0 x0 E0 E2 0
          obtain ⟨i1, p1, i0, i2, ⟨iw, i3⟩, ⟨i4, i5, i6, i7⟩, j0⟩ := hI
          rw [show (v 2) = v2 2 by omega] at i2
          have hb := tNx_b (T := xE E0 36) (n := xE E0 35 4) (p := p1) i0
          have hw : tW (xE E0 36) (xE E0 35 4) p1 [115, 104, 117, 116] = false := by
            rw [Bool.eq_false_iff]
            intro h
            rw [if_pos h] at i3
            omega
          have hm : pMis (xE E0 36) (xE E0 35 4) p1 = 1 := by unfold pMis; rw [if_pos (by omega)]
          intro S hS
          have e : pStuck (xE E0 36) (xE E0 35 4) (xE E0 35 6) S = Except.error (pMis (xE E0 36) (xE E0 35 4) p1, tFr (xE E0 36) (xE E0 35 4) p1) := by rw [i2 S hS, iw, hw, if_neg (by decide), if_neg (by decide)]
          show xOut0 (pBind (pStuck (xE E0 36) (xE E0 35 4) (xE E0 35 6) S) (pSem (xE E0 36) (xE E0 35 4))) E2 0
          rw [e]
          exact xOut0_e (by omega) (by omega) (by omega)
    · cases hx
    · cases hx
    · have hx : x ∈ [zxfrk0_hr0] := hx
      have hag : ∀ k, k < 4 → v2 k = v k := hag
      have hfr : xFr [] _ _ := hfr
      have ex := List.mem_singleton.mp hx
      subst ex
      obtain ⟨hF, hBd, hM⟩ := hXs
      have g2 : v2 2 = v 2 := hag 2 (by decide)
      have g3 : v2 3 = v 3 := hag 3 (by decide)
      have b0 : ((2147483648 : Nat) : Int) ≤ (v2 3) + 2147483648 ∧ (v2 3) + 2147483648 ≤ ((2147483649 : Nat) : Int) := xXb hBd 0 rfl
      have e35_4 : xE E2 35 4 = xE E 35 4 := xFr_E hfr rfl
      have q35_4 : xE E 35 4 = xE E0 35 4 := xFr_E hFr0 rfl
      have e35_5 : xE E2 35 5 = xE E 35 5 := xFr_E hfr rfl
      have e35_6 : xE E2 35 6 = xE E 35 6 := xFr_E hfr rfl
      have e35_7 : xE E2 35 7 = xE E 35 7 := xFr_E hfr rfl
      have e35_8 : xE E2 35 8 = xE E 35 8 := xFr_E hfr rfl
      have e35_2 : xE E2 35 2 = xE E 35 2 := xFr_E hfr rfl
      have e35_3 : xE E2 35 3 = xE E 35 3 := xFr_E hfr rfl
      have e2_3 : xE E2 2 3 = xE E 2 3 := xFr_E hfr rfl
      have q2_3 : xE E 2 3 = xE E0 2 3 := xFr_E hFr0 rfl
      have e36 : ∀ i, xE E2 36 i = xE E 36 i := fun i => xFr_E hfr rfl
      have q36 : ∀ i, xE E 36 i = xE E0 36 i := fun i => xFr_E hFr0 rfl
      have e12 : ∀ i, xE E2 12 i = xE E 12 i := fun i => xFr_E hfr rfl
      have y2_3 : ((2147483648 : Nat) : Int) ≤ xE E0 2 3 + 2147483648 ∧ xE E0 2 3 + 2147483648 ≤ ((2147483679 : Nat) : Int) := xTyF hT0 2 3 3 rfl rfl rfl rfl rfl rfl
      have hI : ∃ g how p2, (0 ≤ g ∧ g < xE E0 2 3) ∧ (∀ S, xAb0 E0 S → pStuck (xE E0 36) (xE E0 35 4) (xE E0 35 6) S = .ok (p2, uS S (72 + g) how)) ∧ xE E 12 g = how ∧ (∀ k, 0 ≤ k → ¬ k = g → xE E 12 k = xE E0 12 k) ∧ xTS (xE E0 36) (xE E0 35 4) p2 E (v 3) := hInv
      show xΨfrk0 x0 E0 E2 (v2 3)
      obtain ⟨g, how, p2, i1, i2, i3, i4, i5⟩ := hI
      have hE2 := xFr_n hfr
      subst hE2
      rw [show (v 3) = v2 3 by omega] at i5
      intro S hS
      show xOut0 (pBind (pStuck (xE E0 36) (xE E0 35 4) (xE E0 35 6) S) (pSem (xE E0 36) (xE E0 35 4))) E2 (v2 3)
      rw [i2 S hS]
      have hN := hS.2.1.2.2.2
      by_cases hz : v2 3 = 0
      · show xOut0 (pSem (xE E0 36) (xE E0 35 4) p2 _) E2 (v2 3)
        rw [xts_0 i5 hz]
        exact xOut0_f hz rfl rfl
      · obtain ⟨c1, c2, c3⟩ := xts_1 i5 hz (uS S (72 + g) how)
        show xOut0 (pSem (xE E0 36) (xE E0 35 4) p2 (uS S (72 + g) how)) E2 (v2 3)
        rw [c3]
        exact xOut0_k c1 rfl (xAb0_sk ⟨by omega, by omega⟩ i3 i4 hS hFr0)
noncomputable def zxfrf0_ax0 : zyXp := (1, [283, 11], [11], [], [], [])
noncomputable def zpfrf0_a : zyPh := (0, [283, 11], [(0, 4294967295), (0, 4294967295)], [], [])
noncomputable def zxfrf0_bx0 : zyXp := (27, [283, 11], [137438953465, 0, 283], [(20, 0, 68719476737, 48), (24, 103079215105, 2, 24)], [(68719476737, 2147483648, 2147483653), (103079215105, 2147483648, 2147483679), (137438953465, 2147483647, 2147483678)], [])
noncomputable def zxfrf0_br0 : zyXp := (0, [], [0], [(21, 0, 68719476737, 48), (24, 103079215105, 35, 40)], [(68719476737, 2147483654, 2147483679), (103079215105, 2147483648, 2147484548)], [(573442, 48), (573443, 103079215105)])
noncomputable def zpfrf0_b : zyPh := (4, [283, 11], [(0, 4294967295), (0, 4294967295), (2147483648, 2147483679)], [], [68719476737])
noncomputable def zxfrf0_cx0 : zyXp := (44, [283, 11], [8, 103079215105, 107], [(23, 0, 68719476737, 0), (24, 103079215105, 35, 64)], [(68719476737, 2147483649, 2147483649)], [])
noncomputable def zxfrf0_cr0 : zyXp := (0, [], [0], [(22, 0, 68719476737, 0)], [(68719476737, 2147483648, 2147483648)], [])
noncomputable def zpfrf0_c : zyPh := (30, [283, 11], [(0, 4294967295), (0, 4294967295), (2147483648, 2147483649)], [], [68719476737])
noncomputable def zxfrf0_dx0 : zyXp := (46, [283, 11], [283], [], [], [])
noncomputable def zpfrf0_d : zyPh := (45, [283, 11], [(0, 4294967295), (0, 4294967295)], [], [])
noncomputable def zxfrf0_er0 : zyXp := (0, [], [68719476737], [], [(68719476737, 2147483648, 2147483649)], [])
noncomputable def zpfrf0_e : zyPh := (49, [283, 11], [(0, 4294967295), (0, 4294967295), (2147483648, 2147483649)], [], [68719476737])
noncomputable def zpfrf0 (i : Nat) : zyPh := zif (Nat.beq i 0) (zpfrf0_a) (zif (Nat.beq i 1) (zpfrf0_b) (zif (Nat.beq i 2) (zpfrf0_c) (zif (Nat.beq i 3) (zpfrf0_d) (zpfrf0_e))))
noncomputable def zXfrf0 (i : Nat) : List zyXp := zif (Nat.beq i 0) ([zxfrf0_ax0]) (zif (Nat.beq i 1) ([zxfrf0_bx0]) (zif (Nat.beq i 2) ([zxfrf0_cx0]) (zif (Nat.beq i 3) ([zxfrf0_dx0]) ([]))))
noncomputable def zRfrf0 (i : Nat) : List zyXp := zif (Nat.beq i 0) ([]) (zif (Nat.beq i 1) ([zxfrf0_br0]) (zif (Nat.beq i 2) ([zxfrf0_cr0]) (zif (Nat.beq i 3) ([]) ([zxfrf0_er0]))))
noncomputable def zFfrf0 (i : Nat) : zyR := zif (Nat.beq i 0) ([]) (zif (Nat.beq i 1) ([(35, 2, 3)]) (zif (Nat.beq i 2) ([]) (zif (Nat.beq i 3) ([]) ([]))))
noncomputable def zSfrf0 (i : Nat) : Nat := zif (Nat.beq i 0) (0) (zif (Nat.beq i 1) (0) (zif (Nat.beq i 2) (0) (zif (Nat.beq i 3) (0) (0))))
def xΨfrf0 (_ : Nat → Int) (E E2 : zyEm) (r : Int) : Prop := ∀ S q0, xAb0 E S → tFr (xE E 36) (xE E 35 4) q0 = xE E 35 5 → xOut0 (pBind (pFree (xE E 36) (xE E 35 4) q0 (xE E 35 6) S) (pSem (xE E 36) (xE E 35 4))) E2 r
noncomputable def fpfrf0 : zyR := [(35, 2, 3), (35, 5, 8), (13, 0, 30)]
theorem zyfrf0_run : zyrS zymc zxi65 (65, 0, 0, 2, 0) 5 zpfrf0 (fun _ _ => []) zFfrf0 zSfrf0 zXfrf0 zRfrf0 5 = true := by decide +kernel
theorem zyfrf0_ck : zyAll (fun i => xsubR (zFfrf0 i) fpfrf0 && ((zXfrf0 i).all xckX && (zRfrf0 i).all (fun x => xckX x && xrtB true x))) 5 = true := by decide +kernel
def xIfrf0 (i : Nat) (x0 : Nat → Int) (E0 : zyEm) (v : Nat → Int) (E : zyEm) : Prop := if i = 0 then (E = E0) else if i = 1 then ((∀ S, xAb0 E0 S → (v 2) = pCnt S 104 (gN (S 0) (S 1)).toNat) ∧ (xE E 35 2 = xE E0 35 2 ∧ xE E 35 3 = xE E0 35 3 ∧ xE E 35 5 = xE E0 35 5 ∧ xE E 35 6 = xE E0 35 6) ∧ (∀ k, xE E 13 k = xE E0 13 k)) else if i = 2 then ((∀ S, xAb0 E0 S → pCnt S 104 (gN (S 0) (S 1)).toNat < 6) ∧ xTN (xE E0 36) (xE E0 35 4) (xE E0 35 6) 0 (xE E0 2 3 - 1) E (v 2) ∧ (∀ k, xE E 13 k = xE E0 13 k)) else if i = 3 then (∃ g, (0 ≤ g ∧ g < xE E0 2 3) ∧ xE E 35 6 ≤ (xE E0 35 4) ∧ (∀ S, xAb0 E0 S → ∀ q0, pFree (xE E0 36) (xE E0 35 4) q0 (xE E0 35 6) S = .ok (xE E 35 6, uS S (104 + g) 1)) ∧ xE E 13 g = 1 ∧ (∀ k, 0 ≤ k → ¬ k = g → xE E 13 k = xE E0 13 k)) else (∃ g p2, (0 ≤ g ∧ g < xE E0 2 3) ∧ (∀ S, xAb0 E0 S → ∀ q0, pFree (xE E0 36) (xE E0 35 4) q0 (xE E0 35 6) S = .ok (p2, uS S (104 + g) 1)) ∧ xE E 13 g = 1 ∧ (∀ k, 0 ≤ k → ¬ k = g → xE E 13 k = xE E0 13 k) ∧ xTS (xE E0 36) (xE E0 35 4) p2 E (v 2))
def xMfrf0 (i : Nat) (x0 : Nat → Int) (E0 : zyEm) (v : Nat → Int) (E : zyEm) : Nat := if i = 0 then (20) else if i = 1 then (19) else if i = 2 then (18) else if i = 3 then (17) else (16)
theorem xRf0 {l : Launch} {en : zEn} {me : zMe} (hen : zG zxMeta 65 = some en) (hme : zG zMeth 65 = some me) : xFc l zymc en me 5 [35, 1] 0 fpfrf0 true xΦrd0 xΨfrf0 := by
  have een : zG zxMeta 65 = some (zxi65, 2, 2, 5, 65, 0, 0, 2, 0) := rfl
  obtain ⟨me1, hme1, hOK⟩ := zall hen
  rw [hme] at hme1
  cases hme1
  rw [een] at hen
  cases hen
  have hr := zyfrf0_run
  have hck := fun i hi => zyAll_iff zyfrf0_ck i hi
  simp only [Bool.and_eq_true] at hck
  obtain ⟨meftn, hmeftn, -⟩ := zall (show zG zxMeta 69 = some (zxi69, 3, 3, 5, 69, 0, 0, 2, 0) from rfl)
  have hftn := xTn (l := l) (show zG zxMeta 69 = some (zxi69, 3, 3, 5, 69, 0, 0, 2, 0) from rfl) hmeftn
  obtain ⟨mefts, hmefts, -⟩ := zall (show zG zxMeta 68 = some (zxi68, 1, 1, 5, 68, 0, 0, 2, 0) from rfl)
  have hfts := xTs (l := l) (show zG zxMeta 68 = some (zxi68, 1, 1, 5, 68, 0, 0, 2, 0) from rfl) hmefts
  obtain ⟨mefcf0, hmefcf0, -⟩ := zall (show zG zxMeta 35 = some (zxi35, 1, 3, 3, 35, 0, 0, 1, 0) from rfl)
  have hfcf0 := xCf0 (l := l) (show zG zxMeta 35 = some (zxi35, 1, 3, 3, 35, 0, 0, 1, 0) from rfl) hmefcf0
  intro B
  refine xcut (mi := zymc) (B := B) hOK rfl rfl (ι := Fin 5) (fun i => zpfrf0 i.val) (fun _ _ => []) (fun i => zFfrf0 i.val) (fun i => zSfrf0 i.val) (fun i => zXfrf0 i.val) (fun i => zRfrf0 i.val) (fun i y2 ct en2 me2 h => by cases h) 200000 (fun i => zyAll_iff hr i.val i.isLt) (fun i => (hck i.val i.isLt).1) (fun i => (hck i.val i.isLt).2.1) (fun i => (hck i.val i.isLt).2.2) ⟨0, by decide⟩ ⟨rfl, rfl, rfl, rfl⟩ ⟨by decide, by decide⟩ (fun i x0 E0 v E => xIfrf0 i.val x0 E0 v E) (fun i x0 E0 v E => xMfrf0 i.val x0 E0 v E) ?_ ?_ ?_
  · intro x0 E hx0 hT hΦ
    have hΦ : xΦrd0 x0 E := hΦ
    refine ⟨fun k p hp => ?_, ?_⟩
    · have hk : k < 2 := (List.getElem?_eq_some_iff.mp hp).1
      have hk : k = 0 ∨ k = 1 := by omega
      rcases hk with rfl | rfl
      · have hp : some (0, 4294967295) = some p := hp
        cases hp
        show ((0 : Nat) : Int) ≤ 0 + 2147483648 ∧ 0 + 2147483648 ≤ ((4294967295 : Nat) : Int)
        omega
      · have hp : some (0, 4294967295) = some p := hp
        cases hp
        show ((0 : Nat) : Int) ≤ 0 + 2147483648 ∧ 0 + 2147483648 ≤ ((4294967295 : Nat) : Int)
        omega
    · show E = E
      rfl
  · intro x0 s Wg hRu hrx hT0 hΦ i v H hT hrv hInv hKc hFr0 hIH x hx ρ2 v2 N2 H2 locs lsB stA hAt hB hv hr2 hXs hag hfr hFr hT2
    rcases i with ⟨i, hi⟩
    have hi2 : i = 0 ∨ i = 1 ∨ i = 2 ∨ i = 3 ∨ i = 4 := by omega
    rcases hi2 with rfl | rfl | rfl | rfl | rfl
    · have hx : x ∈ [zxfrf0_ax0] := hx
      have hag : ∀ k, k < 2 → v2 k = v k := hag
      have hfr : xFr [] _ _ := hfr
      have ex := List.mem_singleton.mp hx
      subst ex
      obtain ⟨hF, hBd, hM⟩ := hXs
      have e35_4 : xE (zyEl zymc B H2) 35 4 = xE (zyEl zymc B H) 35 4 := xFr_E hfr rfl
      have q35_4 : xE (zyEl zymc B H) 35 4 = xE (zyEl zymc B s.heap) 35 4 := xFr_E hFr0 rfl
      have e35_5 : xE (zyEl zymc B H2) 35 5 = xE (zyEl zymc B H) 35 5 := xFr_E hfr rfl
      have e35_6 : xE (zyEl zymc B H2) 35 6 = xE (zyEl zymc B H) 35 6 := xFr_E hfr rfl
      have e35_7 : xE (zyEl zymc B H2) 35 7 = xE (zyEl zymc B H) 35 7 := xFr_E hfr rfl
      have e35_8 : xE (zyEl zymc B H2) 35 8 = xE (zyEl zymc B H) 35 8 := xFr_E hfr rfl
      have e35_2 : xE (zyEl zymc B H2) 35 2 = xE (zyEl zymc B H) 35 2 := xFr_E hfr rfl
      have e35_3 : xE (zyEl zymc B H2) 35 3 = xE (zyEl zymc B H) 35 3 := xFr_E hfr rfl
      have e2_3 : xE (zyEl zymc B H2) 2 3 = xE (zyEl zymc B H) 2 3 := xFr_E hfr rfl
      have q2_3 : xE (zyEl zymc B H) 2 3 = xE (zyEl zymc B s.heap) 2 3 := xFr_E hFr0 rfl
      have e36 : ∀ i, xE (zyEl zymc B H2) 36 i = xE (zyEl zymc B H) 36 i := fun i => xFr_E hfr rfl
      have q36 : ∀ i, xE (zyEl zymc B H) 36 i = xE (zyEl zymc B s.heap) 36 i := fun i => xFr_E hFr0 rfl
      have e13 : ∀ i, xE (zyEl zymc B H2) 13 i = xE (zyEl zymc B H) 13 i := fun i => xFr_E hfr rfl
      have y2_3 : ((2147483648 : Nat) : Int) ≤ xE (zyEl zymc B s.heap) 2 3 + 2147483648 ∧ xE (zyEl zymc B s.heap) 2 3 + 2147483648 ≤ ((2147483679 : Nat) : Int) := xTyF hT0 2 3 3 rfl rfl rfl rfl rfl rfl
      have hI : (zyEl zymc B H) = (zyEl zymc B s.heap) := hInv
      have q35_5 : xE (zyEl zymc B H) 35 5 = xE (zyEl zymc B s.heap) 35 5 := by rw [hI]
      have q35_6 : xE (zyEl zymc B H) 35 6 = xE (zyEl zymc B s.heap) 35 6 := by rw [hI]
      have q35_7 : xE (zyEl zymc B H) 35 7 = xE (zyEl zymc B s.heap) 35 7 := by rw [hI]
      have q35_8 : xE (zyEl zymc B H) 35 8 = xE (zyEl zymc B s.heap) 35 8 := by rw [hI]
      have q35_2 : xE (zyEl zymc B H) 35 2 = xE (zyEl zymc B s.heap) 35 2 := by rw [hI]
      have q35_3 : xE (zyEl zymc B H) 35 3 = xE (zyEl zymc B s.heap) 35 3 := by rw [hI]
      have q13 : ∀ i, xE (zyEl zymc B H) 13 i = xE (zyEl zymc B s.heap) 13 i := fun i => by rw [hI]
      refine xCa hRu hIH hAt hB hv hFr (hfcf0 B) (ix := 144) (ax := 561) rfl rfl rfl hmefcf0 ⟨_, rfl, rfl, by decide⟩ ⟨rfl, rfl, rfl⟩ (by decide) [] [] [] rfl ⟨rfl, rfl⟩ (by decide +kernel) xcs_n (by decide +kernel) ?_ (fun H3 r hT3 hf3 hFr3 hr3 hΨ3 => ?_)
      · show xΦcf0 (xfv []) (zyEl zymc B H2)
        exact trivial
      · have hΨ3 : xΨcf0 (xfv []) (zyEl zymc B H2) (zyEl zymc B H3) r := hΨ3
        have d35_4 : xE (zyEl zymc B H3) 35 4 = xE (zyEl zymc B H2) 35 4 := xFr_E hf3 rfl
        have d35_5 : xE (zyEl zymc B H3) 35 5 = xE (zyEl zymc B H2) 35 5 := xFr_E hf3 rfl
        have d35_6 : xE (zyEl zymc B H3) 35 6 = xE (zyEl zymc B H2) 35 6 := xFr_E hf3 rfl
        have d35_7 : xE (zyEl zymc B H3) 35 7 = xE (zyEl zymc B H2) 35 7 := xFr_E hf3 rfl
        have d35_8 : xE (zyEl zymc B H3) 35 8 = xE (zyEl zymc B H2) 35 8 := xFr_E hf3 rfl
        have d35_2 : xE (zyEl zymc B H3) 35 2 = xE (zyEl zymc B H2) 35 2 := xFr_E hf3 rfl
        have d35_3 : xE (zyEl zymc B H3) 35 3 = xE (zyEl zymc B H2) 35 3 := xFr_E hf3 rfl
        have d2_3 : xE (zyEl zymc B H3) 2 3 = xE (zyEl zymc B H2) 2 3 := xFr_E hf3 rfl
        have d36 : ∀ i, xE (zyEl zymc B H3) 36 i = xE (zyEl zymc B H2) 36 i := fun i => xFr_E hf3 rfl
        have d13 : ∀ i, xE (zyEl zymc B H3) 13 i = xE (zyEl zymc B H2) 13 i := fun i => xFr_E hf3 rfl
        obtain ⟨w1, w2⟩ := hΨ3
        have hEE3 := xFr_n hf3
        have hE20 : (zyEl zymc B H2) = (zyEl zymc B s.heap) := (xFr_n hfr).trans hI
        rw [hE20] at w2
        refine ⟨⟨1, by decide⟩, [0, 0], [0, 0, r], rfl, ⟨by decide +kernel, ⟨rfl, by decide +kernel⟩, (xcs_c rfl (xcs_c rfl xcs_n)), (xe_0 (xe_0 (xe_c (by omega) (by omega) rfl xe_n))), xkq_n⟩, (by rw [if_pos rfl]; exact ⟨2, [], rfl, by decide, rfl, xst_n⟩), ?_, ?_⟩
        · show (∀ S, xAb0 (zyEl zymc B s.heap) S → (r : Int) = pCnt S 104 (gN (S 0) (S 1)).toNat) ∧ (xE (zyEl zymc B H3) 35 2 = xE (zyEl zymc B s.heap) 35 2 ∧ xE (zyEl zymc B H3) 35 3 = xE (zyEl zymc B s.heap) 35 3 ∧ xE (zyEl zymc B H3) 35 5 = xE (zyEl zymc B s.heap) 35 5 ∧ xE (zyEl zymc B H3) 35 6 = xE (zyEl zymc B s.heap) 35 6) ∧ (∀ k, xE (zyEl zymc B H3) 13 k = xE (zyEl zymc B s.heap) 13 k)
          rw [hEE3]
          exact ⟨w2, by omega, fun k => by rw [hE20]⟩
        · show 19 < 20
          omega
    · have hx : x ∈ [zxfrf0_bx0] := hx
      have hag : ∀ k, k < 3 → v2 k = v k := hag
      have hfr : xFr [(35, 2, 3)] _ _ := hfr
      have ex := List.mem_singleton.mp hx
      subst ex
      obtain ⟨hF, hBd, hM⟩ := hXs
      have g2 : v2 2 = v 2 := hag 2 (by decide)
      have b0 : ((2147483648 : Nat) : Int) ≤ (v2 2) + 2147483648 ∧ (v2 2) + 2147483648 ≤ ((2147483653 : Nat) : Int) := xXb hBd 0 rfl
      have b1 : ((2147483648 : Nat) : Int) ≤ (v2 3) + 2147483648 ∧ (v2 3) + 2147483648 ≤ ((2147483679 : Nat) : Int) := xXb hBd 1 rfl
      have b2 : ((2147483647 : Nat) : Int) ≤ (v2 3 + (-1)) + 2147483648 ∧ (v2 3 + (-1)) + 2147483648 ≤ ((2147483678 : Nat) : Int) := xXb hBd 2 rfl
      have f0 : (v2 2) < 6 := xXf hF 0 rfl
      have f1 : (0 : Int) ≤ 3 ∧ xE (zyEl zymc B H) 2 3 = (v2 3) := xXf hF 1 rfl
      have e35_4 : xE (zyEl zymc B H2) 35 4 = xE (zyEl zymc B H) 35 4 := xFr_E hfr rfl
      have q35_4 : xE (zyEl zymc B H) 35 4 = xE (zyEl zymc B s.heap) 35 4 := xFr_E hFr0 rfl
      have e35_5 : xE (zyEl zymc B H2) 35 5 = xE (zyEl zymc B H) 35 5 := xFr_E hfr rfl
      have e35_6 : xE (zyEl zymc B H2) 35 6 = xE (zyEl zymc B H) 35 6 := xFr_E hfr rfl
      have e35_7 : xE (zyEl zymc B H2) 35 7 = xE (zyEl zymc B H) 35 7 := xFr_E hfr rfl
      have e35_8 : xE (zyEl zymc B H2) 35 8 = xE (zyEl zymc B H) 35 8 := xFr_E hfr rfl
      have e2_3 : xE (zyEl zymc B H2) 2 3 = xE (zyEl zymc B H) 2 3 := xFr_E hfr rfl
      have q2_3 : xE (zyEl zymc B H) 2 3 = xE (zyEl zymc B s.heap) 2 3 := xFr_E hFr0 rfl
      have e36 : ∀ i, xE (zyEl zymc B H2) 36 i = xE (zyEl zymc B H) 36 i := fun i => xFr_E hfr rfl
      have q36 : ∀ i, xE (zyEl zymc B H) 36 i = xE (zyEl zymc B s.heap) 36 i := fun i => xFr_E hFr0 rfl
      have e13 : ∀ i, xE (zyEl zymc B H2) 13 i = xE (zyEl zymc B H) 13 i := fun i => xFr_E hfr rfl
      have y2_3 : ((2147483648 : Nat) : Int) ≤ xE (zyEl zymc B s.heap) 2 3 + 2147483648 ∧ xE (zyEl zymc B s.heap) 2 3 + 2147483648 ≤ ((2147483679 : Nat) : Int) := xTyF hT0 2 3 3 rfl rfl rfl rfl rfl rfl
      have hI : (∀ S, xAb0 (zyEl zymc B s.heap) S → (v 2) = pCnt S 104 (gN (S 0) (S 1)).toNat) ∧ (xE (zyEl zymc B H) 35 2 = xE (zyEl zymc B s.heap) 35 2 ∧ xE (zyEl zymc B H) 35 3 = xE (zyEl zymc B s.heap) 35 3 ∧ xE (zyEl zymc B H) 35 5 = xE (zyEl zymc B s.heap) 35 5 ∧ xE (zyEl zymc B H) 35 6 = xE (zyEl zymc B s.heap) 35 6) ∧ (∀ k, xE (zyEl zymc B H) 13 k = xE (zyEl zymc B s.heap) 13 k) := hInv
      have tt : xE (zyEl zymc B H2) 36 = xE (zyEl zymc B s.heap) 36 := funext fun i => (e36 i).trans (q36 i)
      have tn : xE (zyEl zymc B H2) 35 4 = xE (zyEl zymc B s.heap) 35 4 := by omega
      obtain ⟨i1, i2, j0⟩ := hI
      refine xCa hRu hIH hAt hB hv hFr (hftn B) (ix := 60) (ax := 1104) rfl rfl rfl hmeftn ⟨_, rfl, rfl, by decide⟩ ⟨rfl, rfl, rfl⟩ (by decide) [0, 137438953465] [] [0, (v2 3 + (-1))] rfl ⟨rfl, rfl⟩ (by decide +kernel) (xcs_c rfl (xcs_c rfl xcs_n)) (by decide +kernel) ?_ (fun H3 r hT3 hf3 hFr3 hr3 hΨ3 => ?_)
      · show xΦad (xfv [0, (v2 3 + (-1))]) (zyEl zymc B H2)
        have hP := hΦ.1
        unfold xΦad
        omega
      · have hΨ3 : xΨtn (xfv [0, (v2 3 + (-1))]) (zyEl zymc B H2) (zyEl zymc B H3) r := hΨ3
        have d35_4 : xE (zyEl zymc B H3) 35 4 = xE (zyEl zymc B H2) 35 4 := xFr_E hf3 rfl
        have d2_3 : xE (zyEl zymc B H3) 2 3 = xE (zyEl zymc B H2) 2 3 := xFr_E hf3 rfl
        have d36 : ∀ i, xE (zyEl zymc B H3) 36 i = xE (zyEl zymc B H2) 36 i := fun i => xFr_E hf3 rfl
        have d13 : ∀ i, xE (zyEl zymc B H3) 13 i = xE (zyEl zymc B H2) 13 i := fun i => xFr_E hf3 rfl
        unfold xΨtn at hΨ3
        rw [tt, tn, show xE (zyEl zymc B H2) 35 6 = xE (zyEl zymc B s.heap) 35 6 by omega, show xfv [0, (v2 3 + (-1))] 1 = xE (zyEl zymc B s.heap) 2 3 - 1 by show (v2 3 + (-1)) = _; omega] at hΨ3
        have hr01 := xtn_r hΨ3
        refine ⟨⟨2, by decide⟩, [0, 0], [0, 0, r], rfl, ⟨by decide +kernel, ⟨rfl, by decide +kernel⟩, (xcs_c rfl (xcs_c rfl xcs_n)), (xe_0 (xe_0 (xe_c (by omega) (by omega) rfl xe_n))), xkq_n⟩, (by rw [if_pos rfl]; exact ⟨2, [], rfl, by decide, rfl, xst_n⟩), ?_, ?_⟩
        · show (∀ S, xAb0 (zyEl zymc B s.heap) S → pCnt S 104 (gN (S 0) (S 1)).toNat < 6) ∧ xTN (xE (zyEl zymc B s.heap) 36) (xE (zyEl zymc B s.heap) 35 4) (xE (zyEl zymc B s.heap) 35 6) 0 (xE (zyEl zymc B s.heap) 2 3 - 1) (zyEl zymc B H3) (r : Int) ∧ (∀ k, xE (zyEl zymc B H3) 13 k = xE (zyEl zymc B s.heap) 13 k)
          exact ⟨fun S hS => by have := i1 S hS; omega, hΨ3, fun k => by rw [d13 k, e13 k, j0 k]⟩
        · show 18 < 19
          omega
    · have hx : x ∈ [zxfrf0_cx0] := hx
      have hag : ∀ k, k < 3 → v2 k = v k := hag
      have hfr : xFr [] _ _ := hfr
      have ex := List.mem_singleton.mp hx
      subst ex
      obtain ⟨hF, hBd, hM⟩ := hXs
      have r3 := hr2 3
      have g2 : v2 2 = v 2 := hag 2 (by decide)
      have b0 : ((2147483649 : Nat) : Int) ≤ (v2 2) + 2147483648 ∧ (v2 2) + 2147483648 ≤ ((2147483649 : Nat) : Int) := xXb hBd 0 rfl
      have f0 : ¬ (v2 2) = 0 := xXf hF 0 rfl
      have f1 : (0 : Int) ≤ 8 ∧ xE (zyEl zymc B H) 35 8 = (v2 3) := xXf hF 1 rfl
      have e35_4 : xE (zyEl zymc B H2) 35 4 = xE (zyEl zymc B H) 35 4 := xFr_E hfr rfl
      have q35_4 : xE (zyEl zymc B H) 35 4 = xE (zyEl zymc B s.heap) 35 4 := xFr_E hFr0 rfl
      have e35_5 : xE (zyEl zymc B H2) 35 5 = xE (zyEl zymc B H) 35 5 := xFr_E hfr rfl
      have e35_6 : xE (zyEl zymc B H2) 35 6 = xE (zyEl zymc B H) 35 6 := xFr_E hfr rfl
      have e35_7 : xE (zyEl zymc B H2) 35 7 = xE (zyEl zymc B H) 35 7 := xFr_E hfr rfl
      have e35_8 : xE (zyEl zymc B H2) 35 8 = xE (zyEl zymc B H) 35 8 := xFr_E hfr rfl
      have e35_2 : xE (zyEl zymc B H2) 35 2 = xE (zyEl zymc B H) 35 2 := xFr_E hfr rfl
      have e35_3 : xE (zyEl zymc B H2) 35 3 = xE (zyEl zymc B H) 35 3 := xFr_E hfr rfl
      have e2_3 : xE (zyEl zymc B H2) 2 3 = xE (zyEl zymc B H) 2 3 := xFr_E hfr rfl
      have q2_3 : xE (zyEl zymc B H) 2 3 = xE (zyEl zymc B s.heap) 2 3 := xFr_E hFr0 rfl
      have e36 : ∀ i, xE (zyEl zymc B H2) 36 i = xE (zyEl zymc B H) 36 i := fun i => xFr_E hfr rfl
      have q36 : ∀ i, xE (zyEl zymc B H) 36 i = xE (zyEl zymc B s.heap) 36 i := fun i => xFr_E hFr0 rfl
      have e13 : ∀ i, xE (zyEl zymc B H2) 13 i = xE (zyEl zymc B H) 13 i := fun i => xFr_E hfr rfl
      have y2_3 : ((2147483648 : Nat) : Int) ≤ xE (zyEl zymc B s.heap) 2 3 + 2147483648 ∧ xE (zyEl zymc B s.heap) 2 3 + 2147483648 ≤ ((2147483679 : Nat) : Int) := xTyF hT0 2 3 3 rfl rfl rfl rfl rfl rfl
      have hI : (∀ S, xAb0 (zyEl zymc B s.heap) S → pCnt S 104 (gN (S 0) (S 1)).toNat < 6) ∧ xTN (xE (zyEl zymc B s.heap) 36) (xE (zyEl zymc B s.heap) 35 4) (xE (zyEl zymc B s.heap) 35 6) 0 (xE (zyEl zymc B s.heap) 2 3 - 1) (zyEl zymc B H) (v 2) ∧ (∀ k, xE (zyEl zymc B H) 13 k = xE (zyEl zymc B s.heap) 13 k) := hInv
      obtain ⟨i1, i2, j0⟩ := hI
      rw [show (v 2) = v2 2 by omega] at i2
      obtain ⟨c1, c2, c3, c4, c5, c6, c7⟩ := xtn_1 i2 (by omega)
      have hPos := hΦ.1
      have hb := tNx_b (T := xE (zyEl zymc B s.heap) 36) (n := xE (zyEl zymc B s.heap) 35 4) (p := xE (zyEl zymc B s.heap) 35 6) hPos
      refine xSt hRu hIH hAt hB hv hFr 13 (ax := 0) 8 103079215105 1 (v2 3) rfl (Or.inr (Or.inr ⟨rfl, rfl, by omega, by omega⟩)) rfl (by decide +kernel) rfl rfl (by omega) (by show (v2 3) < ((31 : Nat) : Int); omega) (fun r hr q1 q2 => by rw [List.mem_singleton.mp hr]; exact ⟨rfl, by show ((2147483648 : Nat) : Int) ≤ 1 + 2147483648; omega, by show 1 + 2147483648 ≤ ((2147483649 : Nat) : Int); omega⟩) (zyin_iff.mpr ⟨(13, 0, 30), by decide, rfl, Nat.zero_le _, by show Int.toNat (v2 3) ≤ 30; omega⟩) (fun H3 hT3 hst3 hne3 hfn3 hFr3 => ?_)
      have hfe3 : ∀ (a2 : Nat) (k2 : Int), ¬ a2 = 13 → xE (zyEl zymc B H3) a2 k2 = xE (zyEl zymc B H2) a2 k2 := fun a2 k2 hne => by unfold xE; rw [hfn3 a2 k2.toNat (fun z => hne z.1)]
      have d35_4 : xE (zyEl zymc B H3) 35 4 = xE (zyEl zymc B H2) 35 4 := hfe3 35 4 (fun z => absurd z (by decide))
      have d35_5 : xE (zyEl zymc B H3) 35 5 = xE (zyEl zymc B H2) 35 5 := hfe3 35 5 (fun z => absurd z (by decide))
      have d35_6 : xE (zyEl zymc B H3) 35 6 = xE (zyEl zymc B H2) 35 6 := hfe3 35 6 (fun z => absurd z (by decide))
      have d35_7 : xE (zyEl zymc B H3) 35 7 = xE (zyEl zymc B H2) 35 7 := hfe3 35 7 (fun z => absurd z (by decide))
      have d35_8 : xE (zyEl zymc B H3) 35 8 = xE (zyEl zymc B H2) 35 8 := hfe3 35 8 (fun z => absurd z (by decide))
      have d35_2 : xE (zyEl zymc B H3) 35 2 = xE (zyEl zymc B H2) 35 2 := hfe3 35 2 (fun z => absurd z (by decide))
      have d35_3 : xE (zyEl zymc B H3) 35 3 = xE (zyEl zymc B H2) 35 3 := hfe3 35 3 (fun z => absurd z (by decide))
      have d2_3 : xE (zyEl zymc B H3) 2 3 = xE (zyEl zymc B H2) 2 3 := hfe3 2 3 (fun z => absurd z (by decide))
      refine ⟨⟨3, by decide⟩, [0, 0], [0, 0], rfl, ⟨by decide +kernel, ⟨rfl, by decide +kernel⟩, (xcs_c rfl (xcs_c rfl xcs_n)), (xe_0 (xe_0 xe_n)), xkq_n⟩, rfl, ?_, ?_⟩
      · show ∃ g, (0 ≤ g ∧ g < xE (zyEl zymc B s.heap) 2 3) ∧ xE (zyEl zymc B H3) 35 6 ≤ (xE (zyEl zymc B s.heap) 35 4) ∧ (∀ S, xAb0 (zyEl zymc B s.heap) S → ∀ q0, pFree (xE (zyEl zymc B s.heap) 36) (xE (zyEl zymc B s.heap) 35 4) q0 (xE (zyEl zymc B s.heap) 35 6) S = .ok (xE (zyEl zymc B H3) 35 6, uS S (104 + g) 1)) ∧ xE (zyEl zymc B H3) 13 g = 1 ∧ (∀ k, 0 ≤ k → ¬ k = g → xE (zyEl zymc B H3) 13 k = xE (zyEl zymc B s.heap) 13 k)
        refine ⟨(v2 3), by omega, by omega, fun S hS q0 => ?_, hst3, fun k k0 k1 => (hne3 13 k k0 (fun z => k1 z.2)).trans ((e13 k).trans (j0 k))⟩
        have h1 := i1 S hS
        unfold pFree
        rw [if_neg (by omega), ← hS.2.1.2.2.2, c7, show xE (zyEl zymc B H3) 35 6 = xE (zyEl zymc B H) 35 6 by omega, show xE (zyEl zymc B H) 35 8 = (v2 3) by omega]
      · show 17 < 18
        omega
    · have hx : x ∈ [zxfrf0_dx0] := hx
      have hag : ∀ k, k < 2 → v2 k = v k := hag
      have hfr : xFr [] _ _ := hfr
      have ex := List.mem_singleton.mp hx
      subst ex
      obtain ⟨hF, hBd, hM⟩ := hXs
      have e35_4 : xE (zyEl zymc B H2) 35 4 = xE (zyEl zymc B H) 35 4 := xFr_E hfr rfl
      have q35_4 : xE (zyEl zymc B H) 35 4 = xE (zyEl zymc B s.heap) 35 4 := xFr_E hFr0 rfl
      have e35_5 : xE (zyEl zymc B H2) 35 5 = xE (zyEl zymc B H) 35 5 := xFr_E hfr rfl
      have e35_6 : xE (zyEl zymc B H2) 35 6 = xE (zyEl zymc B H) 35 6 := xFr_E hfr rfl
      have e35_7 : xE (zyEl zymc B H2) 35 7 = xE (zyEl zymc B H) 35 7 := xFr_E hfr rfl
      have e35_8 : xE (zyEl zymc B H2) 35 8 = xE (zyEl zymc B H) 35 8 := xFr_E hfr rfl
      have e35_2 : xE (zyEl zymc B H2) 35 2 = xE (zyEl zymc B H) 35 2 := xFr_E hfr rfl
      have e35_3 : xE (zyEl zymc B H2) 35 3 = xE (zyEl zymc B H) 35 3 := xFr_E hfr rfl
      have e2_3 : xE (zyEl zymc B H2) 2 3 = xE (zyEl zymc B H) 2 3 := xFr_E hfr rfl
      have q2_3 : xE (zyEl zymc B H) 2 3 = xE (zyEl zymc B s.heap) 2 3 := xFr_E hFr0 rfl
      have e36 : ∀ i, xE (zyEl zymc B H2) 36 i = xE (zyEl zymc B H) 36 i := fun i => xFr_E hfr rfl
      have q36 : ∀ i, xE (zyEl zymc B H) 36 i = xE (zyEl zymc B s.heap) 36 i := fun i => xFr_E hFr0 rfl
      have e13 : ∀ i, xE (zyEl zymc B H2) 13 i = xE (zyEl zymc B H) 13 i := fun i => xFr_E hfr rfl
      have y2_3 : ((2147483648 : Nat) : Int) ≤ xE (zyEl zymc B s.heap) 2 3 + 2147483648 ∧ xE (zyEl zymc B s.heap) 2 3 + 2147483648 ≤ ((2147483679 : Nat) : Int) := xTyF hT0 2 3 3 rfl rfl rfl rfl rfl rfl
      have hI : ∃ g, (0 ≤ g ∧ g < xE (zyEl zymc B s.heap) 2 3) ∧ xE (zyEl zymc B H) 35 6 ≤ (xE (zyEl zymc B s.heap) 35 4) ∧ (∀ S, xAb0 (zyEl zymc B s.heap) S → ∀ q0, pFree (xE (zyEl zymc B s.heap) 36) (xE (zyEl zymc B s.heap) 35 4) q0 (xE (zyEl zymc B s.heap) 35 6) S = .ok (xE (zyEl zymc B H) 35 6, uS S (104 + g) 1)) ∧ xE (zyEl zymc B H) 13 g = 1 ∧ (∀ k, 0 ≤ k → ¬ k = g → xE (zyEl zymc B H) 13 k = xE (zyEl zymc B s.heap) 13 k) := hInv
      have tt : xE (zyEl zymc B H2) 36 = xE (zyEl zymc B s.heap) 36 := funext fun i => (e36 i).trans (q36 i)
      have tn : xE (zyEl zymc B H2) 35 4 = xE (zyEl zymc B s.heap) 35 4 := by omega
      obtain ⟨g, i1, i0, i2, i3, i4⟩ := hI
      refine xCa hRu hIH hAt hB hv hFr (hfts B) (ix := 73) (ax := 1088) rfl rfl rfl hmefts ⟨_, rfl, rfl, by decide⟩ ⟨rfl, rfl, rfl⟩ (by decide) [] [] [] rfl ⟨rfl, rfl⟩ (by decide +kernel) xcs_n (by decide +kernel) ?_ (fun H3 r hT3 hf3 hFr3 hr3 hΨ3 => ?_)
      · show xΦad (xfv []) (zyEl zymc B H2)
        unfold xΦad
        omega
      · have hΨ3 : xΨts (xfv []) (zyEl zymc B H2) (zyEl zymc B H3) r := hΨ3
        have d35_4 : xE (zyEl zymc B H3) 35 4 = xE (zyEl zymc B H2) 35 4 := xFr_E hf3 rfl
        have d2_3 : xE (zyEl zymc B H3) 2 3 = xE (zyEl zymc B H2) 2 3 := xFr_E hf3 rfl
        have d36 : ∀ i, xE (zyEl zymc B H3) 36 i = xE (zyEl zymc B H2) 36 i := fun i => xFr_E hf3 rfl
        have d13 : ∀ i, xE (zyEl zymc B H3) 13 i = xE (zyEl zymc B H2) 13 i := fun i => xFr_E hf3 rfl
        unfold xΨts at hΨ3
        rw [tt, tn] at hΨ3
        have hr01 := xts_r hΨ3
        refine ⟨⟨4, by decide⟩, [0, 0], [0, 0, r], rfl, ⟨by decide +kernel, ⟨rfl, by decide +kernel⟩, (xcs_c rfl (xcs_c rfl xcs_n)), (xe_0 (xe_0 (xe_c (by omega) (by omega) rfl xe_n))), xkq_n⟩, (by rw [if_pos rfl]; exact ⟨2, [], rfl, by decide, rfl, xst_n⟩), ?_, ?_⟩
        · show ∃ g p2, (0 ≤ g ∧ g < xE (zyEl zymc B s.heap) 2 3) ∧ (∀ S, xAb0 (zyEl zymc B s.heap) S → ∀ q0, pFree (xE (zyEl zymc B s.heap) 36) (xE (zyEl zymc B s.heap) 35 4) q0 (xE (zyEl zymc B s.heap) 35 6) S = .ok (p2, uS S (104 + g) 1)) ∧ xE (zyEl zymc B H3) 13 g = 1 ∧ (∀ k, 0 ≤ k → ¬ k = g → xE (zyEl zymc B H3) 13 k = xE (zyEl zymc B s.heap) 13 k) ∧ xTS (xE (zyEl zymc B s.heap) 36) (xE (zyEl zymc B s.heap) 35 4) p2 (zyEl zymc B H3) (r : Int)
          exact ⟨g, xE (zyEl zymc B H2) 35 6, by omega, fun S hS q0 => by rw [i2 S hS q0, show xE (zyEl zymc B H) 35 6 = xE (zyEl zymc B H2) 35 6 by omega], (d13 _).trans ((e13 _).trans i3), fun k k0 k1 => (d13 k).trans ((e13 k).trans (i4 k k0 k1)), hΨ3⟩
        · show 16 < 17
          omega
    · cases hx
  · intro x0 E0 E E2 hrx hT0 hΦ i v hT hrv hInv hKc hFr0 x hx v2 hr2 hXs hag hfr hFr hT2
    rcases i with ⟨i, hi⟩
    have hi2 : i = 0 ∨ i = 1 ∨ i = 2 ∨ i = 3 ∨ i = 4 := by omega
    rcases hi2 with rfl | rfl | rfl | rfl | rfl
    · cases hx
    · have hx : x ∈ [zxfrf0_br0] := hx
      have hag : ∀ k, k < 3 → v2 k = v k := hag
      have hfr : xFr [(35, 2, 3)] _ _ := hfr
      have ex := List.mem_singleton.mp hx
      subst ex
      obtain ⟨hF, hBd, hM⟩ := hXs
      have g2 : v2 2 = v 2 := hag 2 (by decide)
      have b0 : ((2147483654 : Nat) : Int) ≤ (v2 2) + 2147483648 ∧ (v2 2) + 2147483648 ≤ ((2147483679 : Nat) : Int) := xXb hBd 0 rfl
      have b1 : ((2147483648 : Nat) : Int) ≤ (v2 3) + 2147483648 ∧ (v2 3) + 2147483648 ≤ ((2147484548 : Nat) : Int) := xXb hBd 1 rfl
      have f0 : 6 ≤ (v2 2) := xXf hF 0 rfl
      have f1 : (0 : Int) ≤ 5 ∧ xE E 35 5 = (v2 3) := xXf hF 1 rfl
      have m0 : xE E2 35 2 = 6 := xXm hM 0 rfl
      have m1 : xE E2 35 3 = (v2 3) := xXm hM 1 rfl
      have e35_4 : xE E2 35 4 = xE E 35 4 := xFr_E hfr rfl
      have q35_4 : xE E 35 4 = xE E0 35 4 := xFr_E hFr0 rfl
      have e35_5 : xE E2 35 5 = xE E 35 5 := xFr_E hfr rfl
      have e35_6 : xE E2 35 6 = xE E 35 6 := xFr_E hfr rfl
      have e35_7 : xE E2 35 7 = xE E 35 7 := xFr_E hfr rfl
      have e35_8 : xE E2 35 8 = xE E 35 8 := xFr_E hfr rfl
      have e2_3 : xE E2 2 3 = xE E 2 3 := xFr_E hfr rfl
      have q2_3 : xE E 2 3 = xE E0 2 3 := xFr_E hFr0 rfl
      have e36 : ∀ i, xE E2 36 i = xE E 36 i := fun i => xFr_E hfr rfl
      have q36 : ∀ i, xE E 36 i = xE E0 36 i := fun i => xFr_E hFr0 rfl
      have e13 : ∀ i, xE E2 13 i = xE E 13 i := fun i => xFr_E hfr rfl
      have y2_3 : ((2147483648 : Nat) : Int) ≤ xE E0 2 3 + 2147483648 ∧ xE E0 2 3 + 2147483648 ≤ ((2147483679 : Nat) : Int) := xTyF hT0 2 3 3 rfl rfl rfl rfl rfl rfl
      have hI : (∀ S, xAb0 E0 S → (v 2) = pCnt S 104 (gN (S 0) (S 1)).toNat) ∧ (xE E 35 2 = xE E0 35 2 ∧ xE E 35 3 = xE E0 35 3 ∧ xE E 35 5 = xE E0 35 5 ∧ xE E 35 6 = xE E0 35 6) ∧ (∀ k, xE E 13 k = xE E0 13 k) := hInv
      show xΨfrf0 x0 E0 E2 0
      obtain ⟨i1, i2, j0⟩ := hI
      intro S q0 hS hq
      have h1 := i1 S hS
      show xOut0 (pBind (pFree (xE E0 36) (xE E0 35 4) q0 (xE E0 35 6) S) (pSem (xE E0 36) (xE E0 35 4))) E2 0
      unfold pFree
      rw [if_pos (by omega)]
      exact xOut0_e rfl (by omega) (by omega)
    · have hx : x ∈ [zxfrf0_cr0] := hx
      have hag : ∀ k, k < 3 → v2 k = v k := hag
      have hfr : xFr [] _ _ := hfr
      have ex := List.mem_singleton.mp hx
      subst ex
      obtain ⟨hF, hBd, hM⟩ := hXs
      have g2 : v2 2 = v 2 := hag 2 (by decide)
      have b0 : ((2147483648 : Nat) : Int) ≤ (v2 2) + 2147483648 ∧ (v2 2) + 2147483648 ≤ ((2147483648 : Nat) : Int) := xXb hBd 0 rfl
      have f0 : (v2 2) = 0 := xXf hF 0 rfl
      have e35_4 : xE E2 35 4 = xE E 35 4 := xFr_E hfr rfl
      have q35_4 : xE E 35 4 = xE E0 35 4 := xFr_E hFr0 rfl
      have e35_5 : xE E2 35 5 = xE E 35 5 := xFr_E hfr rfl
      have e35_6 : xE E2 35 6 = xE E 35 6 := xFr_E hfr rfl
      have e35_7 : xE E2 35 7 = xE E 35 7 := xFr_E hfr rfl
      have e35_8 : xE E2 35 8 = xE E 35 8 := xFr_E hfr rfl
      have e35_2 : xE E2 35 2 = xE E 35 2 := xFr_E hfr rfl
      have e35_3 : xE E2 35 3 = xE E 35 3 := xFr_E hfr rfl
      have e2_3 : xE E2 2 3 = xE E 2 3 := xFr_E hfr rfl
      have q2_3 : xE E 2 3 = xE E0 2 3 := xFr_E hFr0 rfl
      have e36 : ∀ i, xE E2 36 i = xE E 36 i := fun i => xFr_E hfr rfl
      have q36 : ∀ i, xE E 36 i = xE E0 36 i := fun i => xFr_E hFr0 rfl
      have e13 : ∀ i, xE E2 13 i = xE E 13 i := fun i => xFr_E hfr rfl
      have y2_3 : ((2147483648 : Nat) : Int) ≤ xE E0 2 3 + 2147483648 ∧ xE E0 2 3 + 2147483648 ≤ ((2147483679 : Nat) : Int) := xTyF hT0 2 3 3 rfl rfl rfl rfl rfl rfl
      have hI : (∀ S, xAb0 E0 S → pCnt S 104 (gN (S 0) (S 1)).toNat < 6) ∧ xTN (xE E0 36) (xE E0 35 4) (xE E0 35 6) 0 (xE E0 2 3 - 1) E (v 2) ∧ (∀ k, xE E 13 k = xE E0 13 k) := hInv
      show xΨfrf0 x0 E0 E2 0
      obtain ⟨i1, i2, j0⟩ := hI
      rw [show (v 2) = v2 2 by omega] at i2
      have hz : (v2 2) = 0 := by omega
      intro S q0 hS hq
      have h1 := i1 S hS
      have e : pFree (xE E0 36) (xE E0 35 4) q0 (xE E0 35 6) S = Except.error (xE E 35 2, xE E 35 3) := by unfold pFree; rw [if_neg (by omega), ← hS.2.1.2.2.2]; exact xtn_0 i2 hz _
      show xOut0 (pBind (pFree (xE E0 36) (xE E0 35 4) q0 (xE E0 35 6) S) (pSem (xE E0 36) (xE E0 35 4))) E2 0
      rw [e]
      exact xOut0_e rfl (by omega) (by omega)
    · cases hx
    · have hx : x ∈ [zxfrf0_er0] := hx
      have hag : ∀ k, k < 3 → v2 k = v k := hag
      have hfr : xFr [] _ _ := hfr
      have ex := List.mem_singleton.mp hx
      subst ex
      obtain ⟨hF, hBd, hM⟩ := hXs
      have g2 : v2 2 = v 2 := hag 2 (by decide)
      have b0 : ((2147483648 : Nat) : Int) ≤ (v2 2) + 2147483648 ∧ (v2 2) + 2147483648 ≤ ((2147483649 : Nat) : Int) := xXb hBd 0 rfl
      have e35_4 : xE E2 35 4 = xE E 35 4 := xFr_E hfr rfl
      have q35_4 : xE E 35 4 = xE E0 35 4 := xFr_E hFr0 rfl
      have e35_5 : xE E2 35 5 = xE E 35 5 := xFr_E hfr rfl
      have e35_6 : xE E2 35 6 = xE E 35 6 := xFr_E hfr rfl
      have e35_7 : xE E2 35 7 = xE E 35 7 := xFr_E hfr rfl
      have e35_8 : xE E2 35 8 = xE E 35 8 := xFr_E hfr rfl
      have e35_2 : xE E2 35 2 = xE E 35 2 := xFr_E hfr rfl
      have e35_3 : xE E2 35 3 = xE E 35 3 := xFr_E hfr rfl
      have e2_3 : xE E2 2 3 = xE E 2 3 := xFr_E hfr rfl
      have q2_3 : xE E 2 3 = xE E0 2 3 := xFr_E hFr0 rfl
      have e36 : ∀ i, xE E2 36 i = xE E 36 i := fun i => xFr_E hfr rfl
      have q36 : ∀ i, xE E 36 i = xE E0 36 i := fun i => xFr_E hFr0 rfl
      have e13 : ∀ i, xE E2 13 i = xE E 13 i := fun i => xFr_E hfr rfl
      have y2_3 : ((2147483648 : Nat) : Int) ≤ xE E0 2 3 + 2147483648 ∧ xE E0 2 3 + 2147483648 ≤ ((2147483679 : Nat) : Int) := xTyF hT0 2 3 3 rfl rfl rfl rfl rfl rfl
      have hI : ∃ g p2, (0 ≤ g ∧ g < xE E0 2 3) ∧ (∀ S, xAb0 E0 S → ∀ q0, pFree (xE E0 36) (xE E0 35 4) q0 (xE E0 35 6) S = .ok (p2, uS S (104 + g) 1)) ∧ xE E 13 g = 1 ∧ (∀ k, 0 ≤ k → ¬ k = g → xE E 13 k = xE E0 13 k) ∧ xTS (xE E0 36) (xE E0 35 4) p2 E (v 2) := hInv
      show xΨfrf0 x0 E0 E2 (v2 2)
      obtain ⟨g, p2, i1, i2, i3, i4, i5⟩ := hI
      have hE2 := xFr_n hfr
      subst hE2
      rw [show (v 2) = v2 2 by omega] at i5
      intro S q0 hS hq
      show xOut0 (pBind (pFree (xE E0 36) (xE E0 35 4) q0 (xE E0 35 6) S) (pSem (xE E0 36) (xE E0 35 4))) E2 (v2 2)
      rw [i2 S hS q0]
      have hN := hS.2.1.2.2.2
      by_cases hz : v2 2 = 0
      · show xOut0 (pSem (xE E0 36) (xE E0 35 4) p2 _) E2 (v2 2)
        rw [xts_0 i5 hz]
        exact xOut0_f hz rfl rfl
      · obtain ⟨c1, c2, c3⟩ := xts_1 i5 hz (uS S (104 + g) 1)
        show xOut0 (pSem (xE E0 36) (xE E0 35 4) p2 (uS S (104 + g) 1)) E2 (v2 2)
        rw [c3]
        exact xOut0_k c1 rfl (xAb0_fr ⟨by omega, by omega⟩ i3 i4 hS hFr0)
noncomputable def zxfrp0_ax0 : zyXp := (8, [283, 11, 13], [137438953465, 0, 283], [(24, 103079215105, 1, 40)], [(103079215105, 2147483648, 2147483656), (137438953465, 2147483647, 2147483655)], [])
noncomputable def zpfrp0_a : zyPh := (0, [283, 11, 13], [(0, 4294967295), (0, 4294967295), (0, 4294967295)], [], [])
noncomputable def zxfrp0_bx0 : zyXp := (32, [283, 11, 137438953473], [206158430201, 0, 283], [(23, 0, 103079215105, 0), (24, 137438953473, 35, 64), (24, 171798691841, 2, 16)], [(103079215105, 2147483649, 2147483649), (171798691841, 2147483648, 2147483728), (206158430201, 2147483647, 2147483727)], [])
noncomputable def zxfrp0_br0 : zyXp := (0, [], [0], [(22, 0, 103079215105, 0)], [(103079215105, 2147483648, 2147483648)], [])
noncomputable def zpfrp0_b : zyPh := (11, [283, 11, 13], [(0, 4294967295), (0, 4294967295), (0, 4294967295), (2147483648, 2147483649)], [], [103079215105])
noncomputable def zxfrp0_cx0 : zyXp := (49, [283, 11, 68719476737], [137438953473, 68719476737, 123], [(23, 0, 103079215105, 0), (24, 137438953473, 35, 64)], [(68719476737, 2147483648, 2147483655), (103079215105, 2147483649, 2147483649)], [])
noncomputable def zxfrp0_cr0 : zyXp := (0, [], [0], [(22, 0, 103079215105, 0)], [(103079215105, 2147483648, 2147483648)], [])
noncomputable def zpfrp0_c : zyPh := (35, [283, 11, 68719476737], [(0, 4294967295), (0, 4294967295), (2147483648, 2147483655), (2147483648, 2147483649)], [], [103079215105])
noncomputable def zxfrp0_dx0 : zyXp := (51, [283, 11, 68719476737], [283], [], [(68719476737, 2147483648, 2147483655)], [])
noncomputable def zpfrp0_d : zyPh := (50, [283, 11, 68719476737], [(0, 4294967295), (0, 4294967295), (2147483648, 2147483655)], [], [])
noncomputable def zxfrp0_er0 : zyXp := (0, [], [103079215105], [], [(103079215105, 2147483648, 2147483649)], [])
noncomputable def zpfrp0_e : zyPh := (54, [283, 11, 68719476737], [(0, 4294967295), (0, 4294967295), (2147483648, 2147483655), (2147483648, 2147483649)], [], [103079215105])
noncomputable def zpfrp0 (i : Nat) : zyPh := zif (Nat.beq i 0) (zpfrp0_a) (zif (Nat.beq i 1) (zpfrp0_b) (zif (Nat.beq i 2) (zpfrp0_c) (zif (Nat.beq i 3) (zpfrp0_d) (zpfrp0_e))))
noncomputable def zXfrp0 (i : Nat) : List zyXp := zif (Nat.beq i 0) ([zxfrp0_ax0]) (zif (Nat.beq i 1) ([zxfrp0_bx0]) (zif (Nat.beq i 2) ([zxfrp0_cx0]) (zif (Nat.beq i 3) ([zxfrp0_dx0]) ([]))))
noncomputable def zRfrp0 (i : Nat) : List zyXp := zif (Nat.beq i 0) ([]) (zif (Nat.beq i 1) ([zxfrp0_br0]) (zif (Nat.beq i 2) ([zxfrp0_cr0]) (zif (Nat.beq i 3) ([]) ([zxfrp0_er0]))))
noncomputable def zFfrp0 (i : Nat) : zyR := zif (Nat.beq i 0) ([]) (zif (Nat.beq i 1) ([]) (zif (Nat.beq i 2) ([]) (zif (Nat.beq i 3) ([]) ([]))))
noncomputable def zSfrp0 (i : Nat) : Nat := zif (Nat.beq i 0) (0) (zif (Nat.beq i 1) (0) (zif (Nat.beq i 2) (0) (zif (Nat.beq i 3) (0) (0))))
def xΨfrp0 (_ : Nat → Int) (E E2 : zyEm) (r : Int) : Prop := ∀ S, xAb0 E S → xOut0 (pBind (pPlace (xE E 36) (xE E 35 4) (xE E 35 6) S) (pSem (xE E 36) (xE E 35 4))) E2 r
noncomputable def fpfrp0 : zyR := [(35, 2, 3), (35, 5, 8), (15, 0, 7)]
theorem zyfrp0_run : zyrS zymc zxi66 (66, 0, 0, 2, 0) 5 zpfrp0 (fun _ _ => []) zFfrp0 zSfrp0 zXfrp0 zRfrp0 5 = true := by decide +kernel
theorem zyfrp0_ck : zyAll (fun i => xsubR (zFfrp0 i) fpfrp0 && ((zXfrp0 i).all xckX && (zRfrp0 i).all (fun x => xckX x && xrtB true x))) 5 = true := by decide +kernel
def xIfrp0 (i : Nat) (x0 : Nat → Int) (E0 : zyEm) (v : Nat → Int) (E : zyEm) : Prop := if i = 0 then (E = E0) else if i = 1 then (xTN (xE E0 36) (xE E0 35 4) (xE E0 35 6) 0 (xE E0 1 5 - 1) E (v 3) ∧ (∀ k, xE E 15 k = xE E0 15 k)) else if i = 2 then ((0 ≤ (v 2) ∧ (v 2) < xE E0 1 5) ∧ ∃ p1, p1 ≤ (xE E0 35 4) ∧ (∀ S, xAb0 E0 S → pPlace (xE E0 36) (xE E0 35 4) (xE E0 35 6) S = pNum (xE E0 36) (xE E0 35 4) p1 0 (xE E0 2 2 - 1) fun sl p2 => .ok (p2, uS S (152 + (v 2)) sl)) ∧ xTN (xE E0 36) (xE E0 35 4) p1 0 (xE E0 2 2 - 1) E (v 3) ∧ (∀ k, xE E 15 k = xE E0 15 k)) else if i = 3 then ((0 ≤ (v 2) ∧ (v 2) < xE E0 1 5) ∧ ∃ sl, xE E 35 6 ≤ (xE E0 35 4) ∧ (∀ S, xAb0 E0 S → pPlace (xE E0 36) (xE E0 35 4) (xE E0 35 6) S = .ok (xE E 35 6, uS S (152 + (v 2)) sl)) ∧ xE E 15 (v 2) = sl ∧ (∀ k, 0 ≤ k → ¬ k = (v 2) → xE E 15 k = xE E0 15 k)) else (∃ g sl p2, (0 ≤ g ∧ g < xE E0 1 5) ∧ (∀ S, xAb0 E0 S → pPlace (xE E0 36) (xE E0 35 4) (xE E0 35 6) S = .ok (p2, uS S (152 + g) sl)) ∧ xE E 15 g = sl ∧ (∀ k, 0 ≤ k → ¬ k = g → xE E 15 k = xE E0 15 k) ∧ xTS (xE E0 36) (xE E0 35 4) p2 E (v 3))
def xMfrp0 (i : Nat) (x0 : Nat → Int) (E0 : zyEm) (v : Nat → Int) (E : zyEm) : Nat := if i = 0 then (20) else if i = 1 then (19) else if i = 2 then (18) else if i = 3 then (17) else (16)
theorem xRp0 {l : Launch} {en : zEn} {me : zMe} (hen : zG zxMeta 66 = some en) (hme : zG zMeth 66 = some me) : xFc l zymc en me 5 [35, 1] 0 fpfrp0 true xΦrd0 xΨfrp0 := by
  have een : zG zxMeta 66 = some (zxi66, 2, 3, 5, 66, 0, 0, 2, 0) := rfl
  obtain ⟨me1, hme1, hOK⟩ := zall hen
  rw [hme] at hme1
  cases hme1
  rw [een] at hen
  cases hen
  have hr := zyfrp0_run
  have hck := fun i hi => zyAll_iff zyfrp0_ck i hi
  simp only [Bool.and_eq_true] at hck
  obtain ⟨meftn, hmeftn, -⟩ := zall (show zG zxMeta 69 = some (zxi69, 3, 3, 5, 69, 0, 0, 2, 0) from rfl)
  have hftn := xTn (l := l) (show zG zxMeta 69 = some (zxi69, 3, 3, 5, 69, 0, 0, 2, 0) from rfl) hmeftn
  obtain ⟨mefts, hmefts, -⟩ := zall (show zG zxMeta 68 = some (zxi68, 1, 1, 5, 68, 0, 0, 2, 0) from rfl)
  have hfts := xTs (l := l) (show zG zxMeta 68 = some (zxi68, 1, 1, 5, 68, 0, 0, 2, 0) from rfl) hmefts
  intro B
  refine xcut (mi := zymc) (B := B) hOK rfl rfl (ι := Fin 5) (fun i => zpfrp0 i.val) (fun _ _ => []) (fun i => zFfrp0 i.val) (fun i => zSfrp0 i.val) (fun i => zXfrp0 i.val) (fun i => zRfrp0 i.val) (fun i y2 ct en2 me2 h => by cases h) 200000 (fun i => zyAll_iff hr i.val i.isLt) (fun i => (hck i.val i.isLt).1) (fun i => (hck i.val i.isLt).2.1) (fun i => (hck i.val i.isLt).2.2) ⟨0, by decide⟩ ⟨rfl, rfl, rfl, rfl⟩ ⟨by decide, by decide⟩ (fun i x0 E0 v E => xIfrp0 i.val x0 E0 v E) (fun i x0 E0 v E => xMfrp0 i.val x0 E0 v E) ?_ ?_ ?_
  · intro x0 E hx0 hT hΦ
    have hΦ : xΦrd0 x0 E := hΦ
    refine ⟨fun k p hp => ?_, ?_⟩
    · have hk : k < 3 := (List.getElem?_eq_some_iff.mp hp).1
      have hk : k = 0 ∨ k = 1 ∨ k = 2 := by omega
      rcases hk with rfl | rfl | rfl
      · have hp : some (0, 4294967295) = some p := hp
        cases hp
        show ((0 : Nat) : Int) ≤ 0 + 2147483648 ∧ 0 + 2147483648 ≤ ((4294967295 : Nat) : Int)
        omega
      · have hp : some (0, 4294967295) = some p := hp
        cases hp
        show ((0 : Nat) : Int) ≤ 0 + 2147483648 ∧ 0 + 2147483648 ≤ ((4294967295 : Nat) : Int)
        omega
      · have hp : some (0, 4294967295) = some p := hp
        cases hp
        show ((0 : Nat) : Int) ≤ x0 0 + 2147483648 ∧ x0 0 + 2147483648 ≤ ((4294967295 : Nat) : Int)
        have hx := hx0 0
        omega
    · show E = E
      rfl
  · intro x0 s Wg hRu hrx hT0 hΦ i v H hT hrv hInv hKc hFr0 hIH x hx ρ2 v2 N2 H2 locs lsB stA hAt hB hv hr2 hXs hag hfr hFr hT2
    rcases i with ⟨i, hi⟩
    have hi2 : i = 0 ∨ i = 1 ∨ i = 2 ∨ i = 3 ∨ i = 4 := by omega
    rcases hi2 with rfl | rfl | rfl | rfl | rfl
    · have hx : x ∈ [zxfrp0_ax0] := hx
      have hag : ∀ k, k < 3 → v2 k = v k := hag
      have hfr : xFr [] _ _ := hfr
      have ex := List.mem_singleton.mp hx
      subst ex
      obtain ⟨hF, hBd, hM⟩ := hXs
      have b0 : ((2147483648 : Nat) : Int) ≤ (v2 3) + 2147483648 ∧ (v2 3) + 2147483648 ≤ ((2147483656 : Nat) : Int) := xXb hBd 0 rfl
      have b1 : ((2147483647 : Nat) : Int) ≤ (v2 3 + (-1)) + 2147483648 ∧ (v2 3 + (-1)) + 2147483648 ≤ ((2147483655 : Nat) : Int) := xXb hBd 1 rfl
      have f0 : (0 : Int) ≤ 5 ∧ xE (zyEl zymc B H) 1 5 = (v2 3) := xXf hF 0 rfl
      have e35_4 : xE (zyEl zymc B H2) 35 4 = xE (zyEl zymc B H) 35 4 := xFr_E hfr rfl
      have q35_4 : xE (zyEl zymc B H) 35 4 = xE (zyEl zymc B s.heap) 35 4 := xFr_E hFr0 rfl
      have e35_5 : xE (zyEl zymc B H2) 35 5 = xE (zyEl zymc B H) 35 5 := xFr_E hfr rfl
      have e35_6 : xE (zyEl zymc B H2) 35 6 = xE (zyEl zymc B H) 35 6 := xFr_E hfr rfl
      have e35_7 : xE (zyEl zymc B H2) 35 7 = xE (zyEl zymc B H) 35 7 := xFr_E hfr rfl
      have e35_8 : xE (zyEl zymc B H2) 35 8 = xE (zyEl zymc B H) 35 8 := xFr_E hfr rfl
      have e35_2 : xE (zyEl zymc B H2) 35 2 = xE (zyEl zymc B H) 35 2 := xFr_E hfr rfl
      have e35_3 : xE (zyEl zymc B H2) 35 3 = xE (zyEl zymc B H) 35 3 := xFr_E hfr rfl
      have e2_2 : xE (zyEl zymc B H2) 2 2 = xE (zyEl zymc B H) 2 2 := xFr_E hfr rfl
      have q2_2 : xE (zyEl zymc B H) 2 2 = xE (zyEl zymc B s.heap) 2 2 := xFr_E hFr0 rfl
      have e1_5 : xE (zyEl zymc B H2) 1 5 = xE (zyEl zymc B H) 1 5 := xFr_E hfr rfl
      have q1_5 : xE (zyEl zymc B H) 1 5 = xE (zyEl zymc B s.heap) 1 5 := xFr_E hFr0 rfl
      have e36 : ∀ i, xE (zyEl zymc B H2) 36 i = xE (zyEl zymc B H) 36 i := fun i => xFr_E hfr rfl
      have q36 : ∀ i, xE (zyEl zymc B H) 36 i = xE (zyEl zymc B s.heap) 36 i := fun i => xFr_E hFr0 rfl
      have e15 : ∀ i, xE (zyEl zymc B H2) 15 i = xE (zyEl zymc B H) 15 i := fun i => xFr_E hfr rfl
      have y2_2 : ((2147483648 : Nat) : Int) ≤ xE (zyEl zymc B s.heap) 2 2 + 2147483648 ∧ xE (zyEl zymc B s.heap) 2 2 + 2147483648 ≤ ((2147483728 : Nat) : Int) := xTyF hT0 2 2 2 rfl rfl rfl rfl rfl rfl
      have y1_5 : ((2147483648 : Nat) : Int) ≤ xE (zyEl zymc B s.heap) 1 5 + 2147483648 ∧ xE (zyEl zymc B s.heap) 1 5 + 2147483648 ≤ ((2147483656 : Nat) : Int) := xTyF hT0 1 5 5 rfl rfl rfl rfl rfl rfl
      have hI : (zyEl zymc B H) = (zyEl zymc B s.heap) := hInv
      have q35_5 : xE (zyEl zymc B H) 35 5 = xE (zyEl zymc B s.heap) 35 5 := by rw [hI]
      have q35_6 : xE (zyEl zymc B H) 35 6 = xE (zyEl zymc B s.heap) 35 6 := by rw [hI]
      have q35_7 : xE (zyEl zymc B H) 35 7 = xE (zyEl zymc B s.heap) 35 7 := by rw [hI]
      have q35_8 : xE (zyEl zymc B H) 35 8 = xE (zyEl zymc B s.heap) 35 8 := by rw [hI]
      have q35_2 : xE (zyEl zymc B H) 35 2 = xE (zyEl zymc B s.heap) 35 2 := by rw [hI]
      have q35_3 : xE (zyEl zymc B H) 35 3 = xE (zyEl zymc B s.heap) 35 3 := by rw [hI]
      have q15 : ∀ i, xE (zyEl zymc B H) 15 i = xE (zyEl zymc B s.heap) 15 i := fun i => by rw [hI]
      have tt : xE (zyEl zymc B H2) 36 = xE (zyEl zymc B s.heap) 36 := funext fun i => (e36 i).trans (q36 i)
      have tn : xE (zyEl zymc B H2) 35 4 = xE (zyEl zymc B s.heap) 35 4 := by omega
      refine xCa hRu hIH hAt hB hv hFr (hftn B) (ix := 60) (ax := 1104) rfl rfl rfl hmeftn ⟨_, rfl, rfl, by decide⟩ ⟨rfl, rfl, rfl⟩ (by decide) [0, 137438953465] [] [0, (v2 3 + (-1))] rfl ⟨rfl, rfl⟩ (by decide +kernel) (xcs_c rfl (xcs_c rfl xcs_n)) (by decide +kernel) ?_ (fun H3 r hT3 hf3 hFr3 hr3 hΨ3 => ?_)
      · show xΦad (xfv [0, (v2 3 + (-1))]) (zyEl zymc B H2)
        have hP := hΦ.1
        unfold xΦad
        omega
      · have hΨ3 : xΨtn (xfv [0, (v2 3 + (-1))]) (zyEl zymc B H2) (zyEl zymc B H3) r := hΨ3
        have d35_4 : xE (zyEl zymc B H3) 35 4 = xE (zyEl zymc B H2) 35 4 := xFr_E hf3 rfl
        have d2_2 : xE (zyEl zymc B H3) 2 2 = xE (zyEl zymc B H2) 2 2 := xFr_E hf3 rfl
        have d1_5 : xE (zyEl zymc B H3) 1 5 = xE (zyEl zymc B H2) 1 5 := xFr_E hf3 rfl
        have d36 : ∀ i, xE (zyEl zymc B H3) 36 i = xE (zyEl zymc B H2) 36 i := fun i => xFr_E hf3 rfl
        have d15 : ∀ i, xE (zyEl zymc B H3) 15 i = xE (zyEl zymc B H2) 15 i := fun i => xFr_E hf3 rfl
        unfold xΨtn at hΨ3
        rw [tt, tn, show xE (zyEl zymc B H2) 35 6 = xE (zyEl zymc B s.heap) 35 6 by omega, show xfv [0, (v2 3 + (-1))] 1 = xE (zyEl zymc B s.heap) 1 5 - 1 by show (v2 3 + (-1)) = _; omega] at hΨ3
        have hr01 := xtn_r hΨ3
        refine ⟨⟨1, by decide⟩, [0, 0, 0], [0, 0, 0, r], rfl, ⟨by decide +kernel, ⟨rfl, by decide +kernel⟩, (xcs_c rfl (xcs_c rfl (xcs_c rfl xcs_n))), (xe_0 (xe_0 (xe_0 (xe_c (by omega) (by omega) rfl xe_n)))), xkq_n⟩, (by rw [if_pos rfl]; exact ⟨3, [], rfl, by decide, rfl, xst_n⟩), ?_, ?_⟩
        · show xTN (xE (zyEl zymc B s.heap) 36) (xE (zyEl zymc B s.heap) 35 4) (xE (zyEl zymc B s.heap) 35 6) 0 (xE (zyEl zymc B s.heap) 1 5 - 1) (zyEl zymc B H3) (r : Int) ∧ (∀ k, xE (zyEl zymc B H3) 15 k = xE (zyEl zymc B s.heap) 15 k)
          exact ⟨hΨ3, fun k => by rw [d15 k, e15 k, q15 k]⟩
        · show 19 < 20
          omega
    · have hx : x ∈ [zxfrp0_bx0] := hx
      have hag : ∀ k, k < 4 → v2 k = v k := hag
      have hfr : xFr [] _ _ := hfr
      have ex := List.mem_singleton.mp hx
      subst ex
      obtain ⟨hF, hBd, hM⟩ := hXs
      have r4 := hr2 4
      have g3 : v2 3 = v 3 := hag 3 (by decide)
      have b0 : ((2147483649 : Nat) : Int) ≤ (v2 3) + 2147483648 ∧ (v2 3) + 2147483648 ≤ ((2147483649 : Nat) : Int) := xXb hBd 0 rfl
      have b1 : ((2147483648 : Nat) : Int) ≤ (v2 5) + 2147483648 ∧ (v2 5) + 2147483648 ≤ ((2147483728 : Nat) : Int) := xXb hBd 1 rfl
      have b2 : ((2147483647 : Nat) : Int) ≤ (v2 5 + (-1)) + 2147483648 ∧ (v2 5 + (-1)) + 2147483648 ≤ ((2147483727 : Nat) : Int) := xXb hBd 2 rfl
      have f0 : ¬ (v2 3) = 0 := xXf hF 0 rfl
      have f1 : (0 : Int) ≤ 8 ∧ xE (zyEl zymc B H) 35 8 = (v2 4) := xXf hF 1 rfl
      have f2 : (0 : Int) ≤ 2 ∧ xE (zyEl zymc B H) 2 2 = (v2 5) := xXf hF 2 rfl
      have e35_4 : xE (zyEl zymc B H2) 35 4 = xE (zyEl zymc B H) 35 4 := xFr_E hfr rfl
      have q35_4 : xE (zyEl zymc B H) 35 4 = xE (zyEl zymc B s.heap) 35 4 := xFr_E hFr0 rfl
      have e35_5 : xE (zyEl zymc B H2) 35 5 = xE (zyEl zymc B H) 35 5 := xFr_E hfr rfl
      have e35_6 : xE (zyEl zymc B H2) 35 6 = xE (zyEl zymc B H) 35 6 := xFr_E hfr rfl
      have e35_7 : xE (zyEl zymc B H2) 35 7 = xE (zyEl zymc B H) 35 7 := xFr_E hfr rfl
      have e35_8 : xE (zyEl zymc B H2) 35 8 = xE (zyEl zymc B H) 35 8 := xFr_E hfr rfl
      have e35_2 : xE (zyEl zymc B H2) 35 2 = xE (zyEl zymc B H) 35 2 := xFr_E hfr rfl
      have e35_3 : xE (zyEl zymc B H2) 35 3 = xE (zyEl zymc B H) 35 3 := xFr_E hfr rfl
      have e2_2 : xE (zyEl zymc B H2) 2 2 = xE (zyEl zymc B H) 2 2 := xFr_E hfr rfl
      have q2_2 : xE (zyEl zymc B H) 2 2 = xE (zyEl zymc B s.heap) 2 2 := xFr_E hFr0 rfl
      have e1_5 : xE (zyEl zymc B H2) 1 5 = xE (zyEl zymc B H) 1 5 := xFr_E hfr rfl
      have q1_5 : xE (zyEl zymc B H) 1 5 = xE (zyEl zymc B s.heap) 1 5 := xFr_E hFr0 rfl
      have e36 : ∀ i, xE (zyEl zymc B H2) 36 i = xE (zyEl zymc B H) 36 i := fun i => xFr_E hfr rfl
      have q36 : ∀ i, xE (zyEl zymc B H) 36 i = xE (zyEl zymc B s.heap) 36 i := fun i => xFr_E hFr0 rfl
      have e15 : ∀ i, xE (zyEl zymc B H2) 15 i = xE (zyEl zymc B H) 15 i := fun i => xFr_E hfr rfl
      have y2_2 : ((2147483648 : Nat) : Int) ≤ xE (zyEl zymc B s.heap) 2 2 + 2147483648 ∧ xE (zyEl zymc B s.heap) 2 2 + 2147483648 ≤ ((2147483728 : Nat) : Int) := xTyF hT0 2 2 2 rfl rfl rfl rfl rfl rfl
      have y1_5 : ((2147483648 : Nat) : Int) ≤ xE (zyEl zymc B s.heap) 1 5 + 2147483648 ∧ xE (zyEl zymc B s.heap) 1 5 + 2147483648 ≤ ((2147483656 : Nat) : Int) := xTyF hT0 1 5 5 rfl rfl rfl rfl rfl rfl
      have hI : xTN (xE (zyEl zymc B s.heap) 36) (xE (zyEl zymc B s.heap) 35 4) (xE (zyEl zymc B s.heap) 35 6) 0 (xE (zyEl zymc B s.heap) 1 5 - 1) (zyEl zymc B H) (v 3) ∧ (∀ k, xE (zyEl zymc B H) 15 k = xE (zyEl zymc B s.heap) 15 k) := hInv
      obtain ⟨i1, j0⟩ := hI
      have tt : xE (zyEl zymc B H2) 36 = xE (zyEl zymc B s.heap) 36 := funext fun i => (e36 i).trans (q36 i)
      have tn : xE (zyEl zymc B H2) 35 4 = xE (zyEl zymc B s.heap) 35 4 := by omega
      obtain ⟨c1, c2, c3, c4, c5, c6, c7⟩ := xtn_1 i1 (by omega)
      have hPos := hΦ.1
      have hb := tNx_b (T := xE (zyEl zymc B s.heap) 36) (n := xE (zyEl zymc B s.heap) 35 4) (p := xE (zyEl zymc B s.heap) 35 6) hPos
      refine xCa hRu hIH hAt hB hv hFr (hftn B) (ix := 60) (ax := 1104) rfl rfl rfl hmeftn ⟨_, rfl, rfl, by decide⟩ ⟨rfl, rfl, rfl⟩ (by decide) [0, 206158430201] [] [0, (v2 5 + (-1))] rfl ⟨rfl, rfl⟩ (by decide +kernel) (xcs_c rfl (xcs_c rfl xcs_n)) (by decide +kernel) ?_ (fun H3 r hT3 hf3 hFr3 hr3 hΨ3 => ?_)
      · show xΦad (xfv [0, (v2 5 + (-1))]) (zyEl zymc B H2)
        unfold xΦad
        omega
      · have hΨ3 : xΨtn (xfv [0, (v2 5 + (-1))]) (zyEl zymc B H2) (zyEl zymc B H3) r := hΨ3
        have d35_4 : xE (zyEl zymc B H3) 35 4 = xE (zyEl zymc B H2) 35 4 := xFr_E hf3 rfl
        have d2_2 : xE (zyEl zymc B H3) 2 2 = xE (zyEl zymc B H2) 2 2 := xFr_E hf3 rfl
        have d1_5 : xE (zyEl zymc B H3) 1 5 = xE (zyEl zymc B H2) 1 5 := xFr_E hf3 rfl
        have d36 : ∀ i, xE (zyEl zymc B H3) 36 i = xE (zyEl zymc B H2) 36 i := fun i => xFr_E hf3 rfl
        have d15 : ∀ i, xE (zyEl zymc B H3) 15 i = xE (zyEl zymc B H2) 15 i := fun i => xFr_E hf3 rfl
        unfold xΨtn at hΨ3
        rw [tt, tn, show xfv [0, (v2 5 + (-1))] 1 = xE (zyEl zymc B s.heap) 2 2 - 1 by show (v2 5 + (-1)) = _; omega] at hΨ3
        have hr01 := xtn_r hΨ3
        refine ⟨⟨2, by decide⟩, [0, 0, 137438953473], [0, 0, (v2 4), r], rfl, ⟨by decide +kernel, ⟨rfl, by decide +kernel⟩, (xcs_c rfl (xcs_c rfl (xcs_c rfl xcs_n))), (xe_0 (xe_0 (xe_c (by omega) (by omega) rfl (xe_c (by omega) (by omega) rfl xe_n)))), xkq_n⟩, (by rw [if_pos rfl]; exact ⟨3, [], rfl, by decide, rfl, xst_n⟩), ?_, ?_⟩
        · show (0 ≤ ((v2 4) : Int) ∧ ((v2 4) : Int) < xE (zyEl zymc B s.heap) 1 5) ∧ ∃ p1, p1 ≤ (xE (zyEl zymc B s.heap) 35 4) ∧ (∀ S, xAb0 (zyEl zymc B s.heap) S → pPlace (xE (zyEl zymc B s.heap) 36) (xE (zyEl zymc B s.heap) 35 4) (xE (zyEl zymc B s.heap) 35 6) S = pNum (xE (zyEl zymc B s.heap) 36) (xE (zyEl zymc B s.heap) 35 4) p1 0 (xE (zyEl zymc B s.heap) 2 2 - 1) fun sl p2 => .ok (p2, uS S (152 + ((v2 4) : Int)) sl)) ∧ xTN (xE (zyEl zymc B s.heap) 36) (xE (zyEl zymc B s.heap) 35 4) p1 0 (xE (zyEl zymc B s.heap) 2 2 - 1) (zyEl zymc B H3) (r : Int) ∧ (∀ k, xE (zyEl zymc B H3) 15 k = xE (zyEl zymc B s.heap) 15 k)
          refine ⟨by omega, xE (zyEl zymc B H2) 35 6, by omega, fun S hS => ?_, hΨ3, fun k => by rw [d15 k, e15 k, j0 k]⟩
          unfold pPlace
          rw [← hS.2.2.2.1.1, ← hS.2.1.2.2.1, c7, show xE (zyEl zymc B H2) 35 6 = xE (zyEl zymc B H) 35 6 by omega, show xE (zyEl zymc B H) 35 8 = (v2 4) by omega]
        · show 18 < 19
          omega
    · have hx : x ∈ [zxfrp0_cx0] := hx
      have hag : ∀ k, k < 4 → v2 k = v k := hag
      have hfr : xFr [] _ _ := hfr
      have ex := List.mem_singleton.mp hx
      subst ex
      obtain ⟨hF, hBd, hM⟩ := hXs
      have r4 := hr2 4
      have g2 : v2 2 = v 2 := hag 2 (by decide)
      have g3 : v2 3 = v 3 := hag 3 (by decide)
      have b0 : ((2147483648 : Nat) : Int) ≤ (v2 2) + 2147483648 ∧ (v2 2) + 2147483648 ≤ ((2147483655 : Nat) : Int) := xXb hBd 0 rfl
      have b1 : ((2147483649 : Nat) : Int) ≤ (v2 3) + 2147483648 ∧ (v2 3) + 2147483648 ≤ ((2147483649 : Nat) : Int) := xXb hBd 1 rfl
      have f0 : ¬ (v2 3) = 0 := xXf hF 0 rfl
      have f1 : (0 : Int) ≤ 8 ∧ xE (zyEl zymc B H) 35 8 = (v2 4) := xXf hF 1 rfl
      have e35_4 : xE (zyEl zymc B H2) 35 4 = xE (zyEl zymc B H) 35 4 := xFr_E hfr rfl
      have q35_4 : xE (zyEl zymc B H) 35 4 = xE (zyEl zymc B s.heap) 35 4 := xFr_E hFr0 rfl
      have e35_5 : xE (zyEl zymc B H2) 35 5 = xE (zyEl zymc B H) 35 5 := xFr_E hfr rfl
      have e35_6 : xE (zyEl zymc B H2) 35 6 = xE (zyEl zymc B H) 35 6 := xFr_E hfr rfl
      have e35_7 : xE (zyEl zymc B H2) 35 7 = xE (zyEl zymc B H) 35 7 := xFr_E hfr rfl
      have e35_8 : xE (zyEl zymc B H2) 35 8 = xE (zyEl zymc B H) 35 8 := xFr_E hfr rfl
      have e35_2 : xE (zyEl zymc B H2) 35 2 = xE (zyEl zymc B H) 35 2 := xFr_E hfr rfl
      have e35_3 : xE (zyEl zymc B H2) 35 3 = xE (zyEl zymc B H) 35 3 := xFr_E hfr rfl
      have e2_2 : xE (zyEl zymc B H2) 2 2 = xE (zyEl zymc B H) 2 2 := xFr_E hfr rfl
      have q2_2 : xE (zyEl zymc B H) 2 2 = xE (zyEl zymc B s.heap) 2 2 := xFr_E hFr0 rfl
      have e1_5 : xE (zyEl zymc B H2) 1 5 = xE (zyEl zymc B H) 1 5 := xFr_E hfr rfl
      have q1_5 : xE (zyEl zymc B H) 1 5 = xE (zyEl zymc B s.heap) 1 5 := xFr_E hFr0 rfl
      have e36 : ∀ i, xE (zyEl zymc B H2) 36 i = xE (zyEl zymc B H) 36 i := fun i => xFr_E hfr rfl
      have q36 : ∀ i, xE (zyEl zymc B H) 36 i = xE (zyEl zymc B s.heap) 36 i := fun i => xFr_E hFr0 rfl
      have e15 : ∀ i, xE (zyEl zymc B H2) 15 i = xE (zyEl zymc B H) 15 i := fun i => xFr_E hfr rfl
      have y2_2 : ((2147483648 : Nat) : Int) ≤ xE (zyEl zymc B s.heap) 2 2 + 2147483648 ∧ xE (zyEl zymc B s.heap) 2 2 + 2147483648 ≤ ((2147483728 : Nat) : Int) := xTyF hT0 2 2 2 rfl rfl rfl rfl rfl rfl
      have y1_5 : ((2147483648 : Nat) : Int) ≤ xE (zyEl zymc B s.heap) 1 5 + 2147483648 ∧ xE (zyEl zymc B s.heap) 1 5 + 2147483648 ≤ ((2147483656 : Nat) : Int) := xTyF hT0 1 5 5 rfl rfl rfl rfl rfl rfl
      have hI : (0 ≤ (v 2) ∧ (v 2) < xE (zyEl zymc B s.heap) 1 5) ∧ ∃ p1, p1 ≤ (xE (zyEl zymc B s.heap) 35 4) ∧ (∀ S, xAb0 (zyEl zymc B s.heap) S → pPlace (xE (zyEl zymc B s.heap) 36) (xE (zyEl zymc B s.heap) 35 4) (xE (zyEl zymc B s.heap) 35 6) S = pNum (xE (zyEl zymc B s.heap) 36) (xE (zyEl zymc B s.heap) 35 4) p1 0 (xE (zyEl zymc B s.heap) 2 2 - 1) fun sl p2 => .ok (p2, uS S (152 + (v 2)) sl)) ∧ xTN (xE (zyEl zymc B s.heap) 36) (xE (zyEl zymc B s.heap) 35 4) p1 0 (xE (zyEl zymc B s.heap) 2 2 - 1) (zyEl zymc B H) (v 3) ∧ (∀ k, xE (zyEl zymc B H) 15 k = xE (zyEl zymc B s.heap) 15 k) := hInv
      obtain ⟨i1, p1, i0, i2, i3, j0⟩ := hI
      rw [show (v 2) = v2 2 by omega] at i2
      have hb := tNx_b (T := xE (zyEl zymc B s.heap) 36) (n := xE (zyEl zymc B s.heap) 35 4) (p := p1) i0
      obtain ⟨c1, c2, c3, c4, c5, c6, c7⟩ := xtn_1 i3 (by omega)
      refine xSt hRu hIH hAt hB hv hFr 15 (ax := 0) 137438953473 68719476737 (v2 4) (v2 2) rfl (Or.inl ⟨rfl, rfl⟩) rfl (by decide +kernel) rfl rfl (by omega) (by show (v2 2) < ((8 : Nat) : Int); omega) (fun r hr q1 q2 => by rw [List.mem_singleton.mp hr]; exact ⟨rfl, by show ((2147483647 : Nat) : Int) ≤ (v2 4) + 2147483648; omega, by show (v2 4) + 2147483648 ≤ ((2147483727 : Nat) : Int); omega⟩) (zyin_iff.mpr ⟨(15, 0, 7), by decide, rfl, Nat.zero_le _, by show Int.toNat (v2 2) ≤ 7; omega⟩) (fun H3 hT3 hst3 hne3 hfn3 hFr3 => ?_)
      have hfe3 : ∀ (a2 : Nat) (k2 : Int), ¬ a2 = 15 → xE (zyEl zymc B H3) a2 k2 = xE (zyEl zymc B H2) a2 k2 := fun a2 k2 hne => by unfold xE; rw [hfn3 a2 k2.toNat (fun z => hne z.1)]
      have d35_4 : xE (zyEl zymc B H3) 35 4 = xE (zyEl zymc B H2) 35 4 := hfe3 35 4 (fun z => absurd z (by decide))
      have d35_5 : xE (zyEl zymc B H3) 35 5 = xE (zyEl zymc B H2) 35 5 := hfe3 35 5 (fun z => absurd z (by decide))
      have d35_6 : xE (zyEl zymc B H3) 35 6 = xE (zyEl zymc B H2) 35 6 := hfe3 35 6 (fun z => absurd z (by decide))
      have d35_7 : xE (zyEl zymc B H3) 35 7 = xE (zyEl zymc B H2) 35 7 := hfe3 35 7 (fun z => absurd z (by decide))
      have d35_8 : xE (zyEl zymc B H3) 35 8 = xE (zyEl zymc B H2) 35 8 := hfe3 35 8 (fun z => absurd z (by decide))
      have d35_2 : xE (zyEl zymc B H3) 35 2 = xE (zyEl zymc B H2) 35 2 := hfe3 35 2 (fun z => absurd z (by decide))
      have d35_3 : xE (zyEl zymc B H3) 35 3 = xE (zyEl zymc B H2) 35 3 := hfe3 35 3 (fun z => absurd z (by decide))
      have d2_2 : xE (zyEl zymc B H3) 2 2 = xE (zyEl zymc B H2) 2 2 := hfe3 2 2 (fun z => absurd z (by decide))
      have d1_5 : xE (zyEl zymc B H3) 1 5 = xE (zyEl zymc B H2) 1 5 := hfe3 1 5 (fun z => absurd z (by decide))
      refine ⟨⟨3, by decide⟩, [0, 0, 68719476737], [0, 0, (v2 2)], rfl, ⟨by decide +kernel, ⟨rfl, by decide +kernel⟩, (xcs_c rfl (xcs_c rfl (xcs_c rfl xcs_n))), (xe_0 (xe_0 (xe_c (by omega) (by omega) rfl xe_n))), xkq_n⟩, rfl, ?_, ?_⟩
      · show (0 ≤ ((v2 2) : Int) ∧ ((v2 2) : Int) < xE (zyEl zymc B s.heap) 1 5) ∧ ∃ sl, xE (zyEl zymc B H3) 35 6 ≤ (xE (zyEl zymc B s.heap) 35 4) ∧ (∀ S, xAb0 (zyEl zymc B s.heap) S → pPlace (xE (zyEl zymc B s.heap) 36) (xE (zyEl zymc B s.heap) 35 4) (xE (zyEl zymc B s.heap) 35 6) S = .ok (xE (zyEl zymc B H3) 35 6, uS S (152 + ((v2 2) : Int)) sl)) ∧ xE (zyEl zymc B H3) 15 ((v2 2) : Int) = sl ∧ (∀ k, 0 ≤ k → ¬ k = ((v2 2) : Int) → xE (zyEl zymc B H3) 15 k = xE (zyEl zymc B s.heap) 15 k)
        refine ⟨by omega, (v2 4), by omega, fun S hS => ?_, hst3, fun k k0 k1 => (hne3 15 k k0 (fun z => k1 z.2)).trans ((e15 k).trans (j0 k))⟩
        rw [i2 S hS, c7, show xE (zyEl zymc B H3) 35 6 = xE (zyEl zymc B H) 35 6 by omega, show xE (zyEl zymc B H) 35 8 = (v2 4) by omega]
      · show 17 < 18
        omega
    · have hx : x ∈ [zxfrp0_dx0] := hx
      have hag : ∀ k, k < 3 → v2 k = v k := hag
      have hfr : xFr [] _ _ := hfr
      have ex := List.mem_singleton.mp hx
      subst ex
      obtain ⟨hF, hBd, hM⟩ := hXs
      have g2 : v2 2 = v 2 := hag 2 (by decide)
      have b0 : ((2147483648 : Nat) : Int) ≤ (v2 2) + 2147483648 ∧ (v2 2) + 2147483648 ≤ ((2147483655 : Nat) : Int) := xXb hBd 0 rfl
      have e35_4 : xE (zyEl zymc B H2) 35 4 = xE (zyEl zymc B H) 35 4 := xFr_E hfr rfl
      have q35_4 : xE (zyEl zymc B H) 35 4 = xE (zyEl zymc B s.heap) 35 4 := xFr_E hFr0 rfl
      have e35_5 : xE (zyEl zymc B H2) 35 5 = xE (zyEl zymc B H) 35 5 := xFr_E hfr rfl
      have e35_6 : xE (zyEl zymc B H2) 35 6 = xE (zyEl zymc B H) 35 6 := xFr_E hfr rfl
      have e35_7 : xE (zyEl zymc B H2) 35 7 = xE (zyEl zymc B H) 35 7 := xFr_E hfr rfl
      have e35_8 : xE (zyEl zymc B H2) 35 8 = xE (zyEl zymc B H) 35 8 := xFr_E hfr rfl
      have e35_2 : xE (zyEl zymc B H2) 35 2 = xE (zyEl zymc B H) 35 2 := xFr_E hfr rfl
      have e35_3 : xE (zyEl zymc B H2) 35 3 = xE (zyEl zymc B H) 35 3 := xFr_E hfr rfl
      have e2_2 : xE (zyEl zymc B H2) 2 2 = xE (zyEl zymc B H) 2 2 := xFr_E hfr rfl
      have q2_2 : xE (zyEl zymc B H) 2 2 = xE (zyEl zymc B s.heap) 2 2 := xFr_E hFr0 rfl
      have e1_5 : xE (zyEl zymc B H2) 1 5 = xE (zyEl zymc B H) 1 5 := xFr_E hfr rfl
      have q1_5 : xE (zyEl zymc B H) 1 5 = xE (zyEl zymc B s.heap) 1 5 := xFr_E hFr0 rfl
      have e36 : ∀ i, xE (zyEl zymc B H2) 36 i = xE (zyEl zymc B H) 36 i := fun i => xFr_E hfr rfl
      have q36 : ∀ i, xE (zyEl zymc B H) 36 i = xE (zyEl zymc B s.heap) 36 i := fun i => xFr_E hFr0 rfl
      have e15 : ∀ i, xE (zyEl zymc B H2) 15 i = xE (zyEl zymc B H) 15 i := fun i => xFr_E hfr rfl
      have y2_2 : ((2147483648 : Nat) : Int) ≤ xE (zyEl zymc B s.heap) 2 2 + 2147483648 ∧ xE (zyEl zymc B s.heap) 2 2 + 2147483648 ≤ ((2147483728 : Nat) : Int) := xTyF hT0 2 2 2 rfl rfl rfl rfl rfl rfl
      have y1_5 : ((2147483648 : Nat) : Int) ≤ xE (zyEl zymc B s.heap) 1 5 + 2147483648 ∧ xE (zyEl zymc B s.heap) 1 5 + 2147483648 ≤ ((2147483656 : Nat) : Int) := xTyF hT0 1 5 5 rfl rfl rfl rfl rfl rfl
      have hI : (0 ≤ (v 2) ∧ (v 2) < xE (zyEl zymc B s.heap) 1 5) ∧ ∃ sl, xE (zyEl zymc B H) 35 6 ≤ (xE (zyEl zymc B s.heap) 35 4) ∧ (∀ S, xAb0 (zyEl zymc B s.heap) S → pPlace (xE (zyEl zymc B s.heap) 36) (xE (zyEl zymc B s.heap) 35 4) (xE (zyEl zymc B s.heap) 35 6) S = .ok (xE (zyEl zymc B H) 35 6, uS S (152 + (v 2)) sl)) ∧ xE (zyEl zymc B H) 15 (v 2) = sl ∧ (∀ k, 0 ≤ k → ¬ k = (v 2) → xE (zyEl zymc B H) 15 k = xE (zyEl zymc B s.heap) 15 k) := hInv
      have tt : xE (zyEl zymc B H2) 36 = xE (zyEl zymc B s.heap) 36 := funext fun i => (e36 i).trans (q36 i)
      have tn : xE (zyEl zymc B H2) 35 4 = xE (zyEl zymc B s.heap) 35 4 := by omega
      obtain ⟨i1, sl, i0, i2, i3, i4⟩ := hI
      refine xCa hRu hIH hAt hB hv hFr (hfts B) (ix := 73) (ax := 1088) rfl rfl rfl hmefts ⟨_, rfl, rfl, by decide⟩ ⟨rfl, rfl, rfl⟩ (by decide) [] [] [] rfl ⟨rfl, rfl⟩ (by decide +kernel) xcs_n (by decide +kernel) ?_ (fun H3 r hT3 hf3 hFr3 hr3 hΨ3 => ?_)
      · show xΦad (xfv []) (zyEl zymc B H2)
        unfold xΦad
        omega
      · have hΨ3 : xΨts (xfv []) (zyEl zymc B H2) (zyEl zymc B H3) r := hΨ3
        have d35_4 : xE (zyEl zymc B H3) 35 4 = xE (zyEl zymc B H2) 35 4 := xFr_E hf3 rfl
        have d2_2 : xE (zyEl zymc B H3) 2 2 = xE (zyEl zymc B H2) 2 2 := xFr_E hf3 rfl
        have d1_5 : xE (zyEl zymc B H3) 1 5 = xE (zyEl zymc B H2) 1 5 := xFr_E hf3 rfl
        have d36 : ∀ i, xE (zyEl zymc B H3) 36 i = xE (zyEl zymc B H2) 36 i := fun i => xFr_E hf3 rfl
        have d15 : ∀ i, xE (zyEl zymc B H3) 15 i = xE (zyEl zymc B H2) 15 i := fun i => xFr_E hf3 rfl
        unfold xΨts at hΨ3
        rw [tt, tn] at hΨ3
        have hr01 := xts_r hΨ3
        refine ⟨⟨4, by decide⟩, [0, 0, 68719476737], [0, 0, (v2 2), r], rfl, ⟨by decide +kernel, ⟨rfl, by decide +kernel⟩, (xcs_c rfl (xcs_c rfl (xcs_c rfl xcs_n))), (xe_0 (xe_0 (xe_c (by omega) (by omega) rfl (xe_c (by omega) (by omega) rfl xe_n)))), xkq_n⟩, (by rw [if_pos rfl]; exact ⟨3, [], rfl, by decide, rfl, xst_n⟩), ?_, ?_⟩
        · show ∃ g sl p2, (0 ≤ g ∧ g < xE (zyEl zymc B s.heap) 1 5) ∧ (∀ S, xAb0 (zyEl zymc B s.heap) S → pPlace (xE (zyEl zymc B s.heap) 36) (xE (zyEl zymc B s.heap) 35 4) (xE (zyEl zymc B s.heap) 35 6) S = .ok (p2, uS S (152 + g) sl)) ∧ xE (zyEl zymc B H3) 15 g = sl ∧ (∀ k, 0 ≤ k → ¬ k = g → xE (zyEl zymc B H3) 15 k = xE (zyEl zymc B s.heap) 15 k) ∧ xTS (xE (zyEl zymc B s.heap) 36) (xE (zyEl zymc B s.heap) 35 4) p2 (zyEl zymc B H3) (r : Int)
          exact ⟨v 2, sl, xE (zyEl zymc B H2) 35 6, by omega, fun S hS => by rw [i2 S hS, show xE (zyEl zymc B H) 35 6 = xE (zyEl zymc B H2) 35 6 by omega], (d15 _).trans ((e15 _).trans i3), fun k k0 k1 => (d15 k).trans ((e15 k).trans (i4 k k0 k1)), hΨ3⟩
        · show 16 < 17
          omega
    · cases hx
  · intro x0 E0 E E2 hrx hT0 hΦ i v hT hrv hInv hKc hFr0 x hx v2 hr2 hXs hag hfr hFr hT2
    rcases i with ⟨i, hi⟩
    have hi2 : i = 0 ∨ i = 1 ∨ i = 2 ∨ i = 3 ∨ i = 4 := by omega
    rcases hi2 with rfl | rfl | rfl | rfl | rfl
    · cases hx
    · have hx : x ∈ [zxfrp0_br0] := hx
      have hag : ∀ k, k < 4 → v2 k = v k := hag
      have hfr : xFr [] _ _ := hfr
      have ex := List.mem_singleton.mp hx
      subst ex
      obtain ⟨hF, hBd, hM⟩ := hXs
      have g3 : v2 3 = v 3 := hag 3 (by decide)
      have b0 : ((2147483648 : Nat) : Int) ≤ (v2 3) + 2147483648 ∧ (v2 3) + 2147483648 ≤ ((2147483648 : Nat) : Int) := xXb hBd 0 rfl
      have f0 : (v2 3) = 0 := xXf hF 0 rfl
      have e35_4 : xE E2 35 4 = xE E 35 4 := xFr_E hfr rfl
      have q35_4 : xE E 35 4 = xE E0 35 4 := xFr_E hFr0 rfl
      have e35_5 : xE E2 35 5 = xE E 35 5 := xFr_E hfr rfl
      have e35_6 : xE E2 35 6 = xE E 35 6 := xFr_E hfr rfl
      have e35_7 : xE E2 35 7 = xE E 35 7 := xFr_E hfr rfl
      have e35_8 : xE E2 35 8 = xE E 35 8 := xFr_E hfr rfl
      have e35_2 : xE E2 35 2 = xE E 35 2 := xFr_E hfr rfl
      have e35_3 : xE E2 35 3 = xE E 35 3 := xFr_E hfr rfl
      have e2_2 : xE E2 2 2 = xE E 2 2 := xFr_E hfr rfl
      have q2_2 : xE E 2 2 = xE E0 2 2 := xFr_E hFr0 rfl
      have e1_5 : xE E2 1 5 = xE E 1 5 := xFr_E hfr rfl
      have q1_5 : xE E 1 5 = xE E0 1 5 := xFr_E hFr0 rfl
      have e36 : ∀ i, xE E2 36 i = xE E 36 i := fun i => xFr_E hfr rfl
      have q36 : ∀ i, xE E 36 i = xE E0 36 i := fun i => xFr_E hFr0 rfl
      have e15 : ∀ i, xE E2 15 i = xE E 15 i := fun i => xFr_E hfr rfl
      have y2_2 : ((2147483648 : Nat) : Int) ≤ xE E0 2 2 + 2147483648 ∧ xE E0 2 2 + 2147483648 ≤ ((2147483728 : Nat) : Int) := xTyF hT0 2 2 2 rfl rfl rfl rfl rfl rfl
      have y1_5 : ((2147483648 : Nat) : Int) ≤ xE E0 1 5 + 2147483648 ∧ xE E0 1 5 + 2147483648 ≤ ((2147483656 : Nat) : Int) := xTyF hT0 1 5 5 rfl rfl rfl rfl rfl rfl
      have hI : xTN (xE E0 36) (xE E0 35 4) (xE E0 35 6) 0 (xE E0 1 5 - 1) E (v 3) ∧ (∀ k, xE E 15 k = xE E0 15 k) := hInv
      show xΨfrp0 x0 E0 E2 0
      obtain ⟨i1, j0⟩ := hI
      have hz : (v 3) = 0 := by omega
      intro S hS
      have e : pPlace (xE E0 36) (xE E0 35 4) (xE E0 35 6) S = Except.error (xE E 35 2, xE E 35 3) := by unfold pPlace; rw [← hS.2.2.2.1.1]; exact xtn_0 i1 hz _
      show xOut0 (pBind (pPlace (xE E0 36) (xE E0 35 4) (xE E0 35 6) S) (pSem (xE E0 36) (xE E0 35 4))) E2 0
      rw [e]
      exact xOut0_e (by omega) (by omega) (by omega)
    · have hx : x ∈ [zxfrp0_cr0] := hx
      have hag : ∀ k, k < 4 → v2 k = v k := hag
      have hfr : xFr [] _ _ := hfr
      have ex := List.mem_singleton.mp hx
      subst ex
      obtain ⟨hF, hBd, hM⟩ := hXs
      have g2 : v2 2 = v 2 := hag 2 (by decide)
      have g3 : v2 3 = v 3 := hag 3 (by decide)
      have b0 : ((2147483648 : Nat) : Int) ≤ (v2 3) + 2147483648 ∧ (v2 3) + 2147483648 ≤ ((2147483648 : Nat) : Int) := xXb hBd 0 rfl
      have f0 : (v2 3) = 0 := xXf hF 0 rfl
      have e35_4 : xE E2 35 4 = xE E 35 4 := xFr_E hfr rfl
      have q35_4 : xE E 35 4 = xE E0 35 4 := xFr_E hFr0 rfl
      have e35_5 : xE E2 35 5 = xE E 35 5 := xFr_E hfr rfl
      have e35_6 : xE E2 35 6 = xE E 35 6 := xFr_E hfr rfl
      have e35_7 : xE E2 35 7 = xE E 35 7 := xFr_E hfr rfl
      have e35_8 : xE E2 35 8 = xE E 35 8 := xFr_E hfr rfl
      have e35_2 : xE E2 35 2 = xE E 35 2 := xFr_E hfr rfl
      have e35_3 : xE E2 35 3 = xE E 35 3 := xFr_E hfr rfl
      have e2_2 : xE E2 2 2 = xE E 2 2 := xFr_E hfr rfl
      have q2_2 : xE E 2 2 = xE E0 2 2 := xFr_E hFr0 rfl
      have e1_5 : xE E2 1 5 = xE E 1 5 := xFr_E hfr rfl
      have q1_5 : xE E 1 5 = xE E0 1 5 := xFr_E hFr0 rfl
      have e36 : ∀ i, xE E2 36 i = xE E 36 i := fun i => xFr_E hfr rfl
      have q36 : ∀ i, xE E 36 i = xE E0 36 i := fun i => xFr_E hFr0 rfl
      have e15 : ∀ i, xE E2 15 i = xE E 15 i := fun i => xFr_E hfr rfl
      have y2_2 : ((2147483648 : Nat) : Int) ≤ xE E0 2 2 + 2147483648 ∧ xE E0 2 2 + 2147483648 ≤ ((2147483728 : Nat) : Int) := xTyF hT0 2 2 2 rfl rfl rfl rfl rfl rfl
      have y1_5 : ((2147483648 : Nat) : Int) ≤ xE E0 1 5 + 2147483648 ∧ xE E0 1 5 + 2147483648 ≤ ((2147483656 : Nat) : Int) := xTyF hT0 1 5 5 rfl rfl rfl rfl rfl rfl
      have hI : (0 ≤ (v 2) ∧ (v 2) < xE E0 1 5) ∧ ∃ p1, p1 ≤ (xE E0 35 4) ∧ (∀ S, xAb0 E0 S → pPlace (xE E0 36) (xE E0 35 4) (xE E0 35 6) S = pNum (xE E0 36) (xE E0 35 4) p1 0 (xE E0 2 2 - 1) fun sl p2 => .ok (p2, uS S (152 + (v 2)) sl)) ∧ xTN (xE E0 36) (xE E0 35 4) p1 0 (xE E0 2 2 - 1) E (v 3) ∧ (∀ k, xE E 15 k = xE E0 15 k) := hInv
      show xΨfrp0 x0 E0 E2 0
      obtain ⟨i1, p1, i0, i2, i3, j0⟩ := hI
      rw [show (v 2) = v2 2 by omega] at i2
      have hb := tNx_b (T := xE E0 36) (n := xE E0 35 4) (p := p1) i0
      have hz : (v 3) = 0 := by omega
      intro S hS
      have e : pPlace (xE E0 36) (xE E0 35 4) (xE E0 35 6) S = Except.error (xE E 35 2, xE E 35 3) := (i2 S hS).trans (xtn_0 i3 hz _)
      show xOut0 (pBind (pPlace (xE E0 36) (xE E0 35 4) (xE E0 35 6) S) (pSem (xE E0 36) (xE E0 35 4))) E2 0
      rw [e]
      exact xOut0_e (by omega) (by omega) (by omega)
    · cases hx
    · have hx : x ∈ [zxfrp0_er0] := hx
      have hag : ∀ k, k < 4 → v2 k = v k := hag
      have hfr : xFr [] _ _ := hfr
      have ex := List.mem_singleton.mp hx
      subst ex
      obtain ⟨hF, hBd, hM⟩ := hXs
      have g2 : v2 2 = v 2 := hag 2 (by decide)
      have g3 : v2 3 = v 3 := hag 3 (by decide)
      have b0 : ((2147483648 : Nat) : Int) ≤ (v2 3) + 2147483648 ∧ (v2 3) + 2147483648 ≤ ((2147483649 : Nat) : Int) := xXb hBd 0 rfl
      have e35_4 : xE E2 35 4 = xE E 35 4 := xFr_E hfr rfl
      have q35_4 : xE E 35 4 = xE E0 35 4 := xFr_E hFr0 rfl
      have e35_5 : xE E2 35 5 = xE E 35 5 := xFr_E hfr rfl
      have e35_6 : xE E2 35 6 = xE E 35 6 := xFr_E hfr rfl
      have e35_7 : xE E2 35 7 = xE E 35 7 := xFr_E hfr rfl
      have e35_8 : xE E2 35 8 = xE E 35 8 := xFr_E hfr rfl
      have e35_2 : xE E2 35 2 = xE E 35 2 := xFr_E hfr rfl
      have e35_3 : xE E2 35 3 = xE E 35 3 := xFr_E hfr rfl
      have e2_2 : xE E2 2 2 = xE E 2 2 := xFr_E hfr rfl
      have q2_2 : xE E 2 2 = xE E0 2 2 := xFr_E hFr0 rfl
      have e1_5 : xE E2 1 5 = xE E 1 5 := xFr_E hfr rfl
      have q1_5 : xE E 1 5 = xE E0 1 5 := xFr_E hFr0 rfl
      have e36 : ∀ i, xE E2 36 i = xE E 36 i := fun i => xFr_E hfr rfl
      have q36 : ∀ i, xE E 36 i = xE E0 36 i := fun i => xFr_E hFr0 rfl
      have e15 : ∀ i, xE E2 15 i = xE E 15 i := fun i => xFr_E hfr rfl
      have y2_2 : ((2147483648 : Nat) : Int) ≤ xE E0 2 2 + 2147483648 ∧ xE E0 2 2 + 2147483648 ≤ ((2147483728 : Nat) : Int) := xTyF hT0 2 2 2 rfl rfl rfl rfl rfl rfl
      have y1_5 : ((2147483648 : Nat) : Int) ≤ xE E0 1 5 + 2147483648 ∧ xE E0 1 5 + 2147483648 ≤ ((2147483656 : Nat) : Int) := xTyF hT0 1 5 5 rfl rfl rfl rfl rfl rfl
      have hI : ∃ g sl p2, (0 ≤ g ∧ g < xE E0 1 5) ∧ (∀ S, xAb0 E0 S → pPlace (xE E0 36) (xE E0 35 4) (xE E0 35 6) S = .ok (p2, uS S (152 + g) sl)) ∧ xE E 15 g = sl ∧ (∀ k, 0 ≤ k → ¬ k = g → xE E 15 k = xE E0 15 k) ∧ xTS (xE E0 36) (xE E0 35 4) p2 E (v 3) := hInv
      show xΨfrp0 x0 E0 E2 (v2 3)
      obtain ⟨g, sl, p2, i1, i2, i3, i4, i5⟩ := hI
      have hE2 := xFr_n hfr
      subst hE2
      rw [show (v 3) = v2 3 by omega] at i5
      intro S hS
      show xOut0 (pBind (pPlace (xE E0 36) (xE E0 35 4) (xE E0 35 6) S) (pSem (xE E0 36) (xE E0 35 4))) E2 (v2 3)
      rw [i2 S hS]
      by_cases hz : v2 3 = 0
      · show xOut0 (pSem (xE E0 36) (xE E0 35 4) p2 _) E2 (v2 3)
        rw [xts_0 i5 hz]
        exact xOut0_f hz rfl rfl
      · obtain ⟨c1, c2, c3⟩ := xts_1 i5 hz (uS S (152 + g) sl)
        show xOut0 (pSem (xE E0 36) (xE E0 35 4) p2 (uS S (152 + g) sl)) E2 (v2 3)
        rw [c3]
        exact xOut0_k c1 rfl (xAb0_go ⟨by omega, by omega⟩ i3 i4 hS hFr0)
