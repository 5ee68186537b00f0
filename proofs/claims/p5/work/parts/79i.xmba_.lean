section
/-! THE CLASS reads: size, a line (printed by m11.py) -/
noncomputable def zxfrz0_ax0 : zyXp := (1, [283, 11, 13], [283], [], [], [])
noncomputable def zpfrz0_a : zyPh := (0, [283, 11, 13], [(0, 4294967295), (0, 4294967295), (0, 4294967295)], [], [])
noncomputable def zxfrz0_bx0 : zyXp := (7, [283, 11, 13], [800003, 283], [], [], [])
noncomputable def zpfrz0_b : zyPh := (4, [283, 11, 13], [(0, 4294967295), (0, 4294967295), (0, 4294967295)], [], [])
noncomputable def zxfrz0_cx0 : zyXp := (25, [283, 11, 13], [32, 8, 283], [(23, 0, 103079215105, 0)], [(103079215105, 2147483649, 2147483649), (137438953473, 2147483647, 2147483654), (171798691841, 2147483647, 2147484548)], [(573442, 137438953473), (573443, 171798691841)])
noncomputable def zxfrz0_cr0 : zyXp := (0, [], [0], [(22, 0, 103079215105, 0), (24, 206158430209, 35, 56), (23, 0, 206158430209, 8), (24, 240518168577, 35, 40)], [(103079215105, 2147483648, 2147483648), (206158430209, 2147483650, 2147483653), (240518168577, 2147483648, 2147484548)], [(573442, 16), (573443, 240518168577)])
noncomputable def zxfrz0_cr1 : zyXp := (0, [], [0], [(22, 0, 103079215105, 0), (24, 206158430209, 35, 56), (23, 0, 206158430209, 8), (24, 240518168577, 35, 40)], [(103079215105, 2147483648, 2147483648), (206158430209, 2147483648, 2147483648), (240518168577, 2147483648, 2147484548)], [(573442, 16), (573443, 240518168577)])
noncomputable def zxfrz0_cr2 : zyXp := (0, [], [0], [(22, 0, 103079215105, 0), (24, 206158430209, 35, 56), (22, 0, 206158430209, 8), (24, 240518168577, 35, 40)], [(103079215105, 2147483648, 2147483648), (206158430209, 2147483649, 2147483649), (240518168577, 2147483648, 2147484548)], [(573442, 8), (573443, 240518168577)])
noncomputable def zpfrz0_c : zyPh := (10, [283, 11, 13], [(0, 4294967295), (0, 4294967295), (0, 4294967295), (2147483648, 2147483649), (2147483647, 2147483654), (2147483647, 2147484548)], [(573442, 137438953473), (573443, 171798691841)], [103079215105])
noncomputable def zxfrz0_dx0 : zyXp := (41, [283, 11, 137438953473], [40, 8, 283], [(23, 0, 103079215105, 0), (24, 137438953473, 35, 64)], [(103079215105, 2147483649, 2147483649)], [])
noncomputable def zxfrz0_dr0 : zyXp := (0, [], [0], [(22, 0, 103079215105, 0)], [(103079215105, 2147483648, 2147483648)], [])
noncomputable def zpfrz0_d : zyPh := (28, [283, 11, 13], [(0, 4294967295), (0, 4294967295), (0, 4294967295), (2147483648, 2147483649)], [], [103079215105])
noncomputable def zxfrz0_ex0 : zyXp := (55, [283, 11, 13], [137438953473, 68719476737, 11], [(23, 0, 103079215105, 0), (24, 137438953473, 35, 64)], [(68719476737, 2147483649, 2147483652), (103079215105, 2147483649, 2147483649)], [])
noncomputable def zxfrz0_er0 : zyXp := (0, [], [0], [(22, 0, 103079215105, 0)], [(103079215105, 2147483648, 2147483648)], [])
noncomputable def zpfrz0_e : zyPh := (44, [283, 11, 68719476737], [(0, 4294967295), (0, 4294967295), (2147483649, 2147483652), (2147483648, 2147483649)], [], [103079215105])
noncomputable def zxfrz0_fx0 : zyXp := (59, [283, 11, 13], [283], [], [], [])
noncomputable def zpfrz0_f : zyPh := (58, [283, 11, 13], [(0, 4294967295), (0, 4294967295), (0, 4294967295)], [], [])
noncomputable def zxfrz0_gr0 : zyXp := (0, [], [103079215105], [], [(103079215105, 2147483648, 2147483649)], [])
noncomputable def zpfrz0_g : zyPh := (62, [283, 11, 13], [(0, 4294967295), (0, 4294967295), (0, 4294967295), (2147483648, 2147483649)], [], [103079215105])
noncomputable def zpfrz0 (i : Nat) : zyPh := zif (Nat.beq i 0) (zpfrz0_a) (zif (Nat.beq i 1) (zpfrz0_b) (zif (Nat.beq i 2) (zpfrz0_c) (zif (Nat.beq i 3) (zpfrz0_d) (zif (Nat.beq i 4) (zpfrz0_e) (zif (Nat.beq i 5) (zpfrz0_f) (zpfrz0_g))))))
noncomputable def zXfrz0 (i : Nat) : List zyXp := zif (Nat.beq i 0) ([zxfrz0_ax0]) (zif (Nat.beq i 1) ([zxfrz0_bx0]) (zif (Nat.beq i 2) ([zxfrz0_cx0]) (zif (Nat.beq i 3) ([zxfrz0_dx0]) (zif (Nat.beq i 4) ([zxfrz0_ex0]) (zif (Nat.beq i 5) ([zxfrz0_fx0]) ([]))))))
noncomputable def zRfrz0 (i : Nat) : List zyXp := zif (Nat.beq i 0) ([]) (zif (Nat.beq i 1) ([]) (zif (Nat.beq i 2) ([zxfrz0_cr0, zxfrz0_cr1, zxfrz0_cr2]) (zif (Nat.beq i 3) ([zxfrz0_dr0]) (zif (Nat.beq i 4) ([zxfrz0_er0]) (zif (Nat.beq i 5) ([]) ([zxfrz0_gr0]))))))
noncomputable def zFfrz0 (i : Nat) : zyR := zif (Nat.beq i 0) ([]) (zif (Nat.beq i 1) ([]) (zif (Nat.beq i 2) ([(35, 2, 3)]) (zif (Nat.beq i 3) ([]) (zif (Nat.beq i 4) ([]) (zif (Nat.beq i 5) ([]) ([]))))))
noncomputable def zSfrz0 (i : Nat) : Nat := zif (Nat.beq i 0) (0) (zif (Nat.beq i 1) (0) (zif (Nat.beq i 2) (0) (zif (Nat.beq i 3) (0) (zif (Nat.beq i 4) (0) (zif (Nat.beq i 5) (0) (0))))))
theorem xGeo0_35 {E E2 : zyEm} {r c : Nat} (h : xGeo0 E r c) (hf : xFr [(35, 0, 8)] E E2) : xGeo0 E2 r c := by
  refine ⟨fun s hs => ?_, fun g hg => ?_⟩
  · rw [(show xE E2 3 s = xE E 3 s from xFr_E hf rfl), (show xE E2 4 s = xE E 4 s from xFr_E hf rfl), (show xE E2 5 s = xE E 5 s from xFr_E hf rfl), (show xE E2 6 s = xE E 6 s from xFr_E hf rfl), (show xE E2 7 s = xE E 7 s from xFr_E hf rfl)]
    exact h.1 s hs
  · rw [(show xE E2 8 g = xE E 8 g from xFr_E hf rfl), (show xE E2 9 g = xE E 9 g from xFr_E hf rfl)]
    exact h.2 g hg
def xΦrz0 (_ : Nat → Int) (E : zyEm) : Prop := xE E 35 6 = 0 ∧ 0 ≤ xE E 35 4
def xΨfrz0 (_ : Nat → Int) (E E2 : zyEm) (r : Int) : Prop := xOut0 (pSz (xE E 36) (xE E 35 4)) E2 r ∧ xJk0 E E2 ∧ ∀ p S, pSz (xE E 36) (xE E 35 4) = .ok (p, S) → xGeo0 E2 (S 0).toNat (S 1).toNat
def xΨfrz0S (x : Nat → Int) (E E2 : zyEm) (r : Int) : Prop := xΨfrz0 x E E2 r ∧ (¬ r = 0 → (xE E2 35 2 = xE E 35 2 ∧ xE E2 35 3 = xE E 35 3))
noncomputable def fpfrz0 : zyR := [(35, 2, 3), (35, 5, 8), (1, 5, 5), (1, 8, 8), (2, 0, 3), (3, 0, 79), (4, 0, 79), (5, 0, 79), (6, 0, 79), (7, 0, 79), (8, 0, 30), (9, 0, 30), (10, 0, 30), (11, 0, 30), (12, 0, 30), (13, 0, 30), (16, 1, 1)]
theorem zyfrz0_run : zyrS zymc zxi60 (60, 0, 0, 2, 0) 8 zpfrz0 (fun _ _ => []) zFfrz0 zSfrz0 zXfrz0 zRfrz0 7 = true := by decide +kernel
theorem zyfrz0_ck : zyAll (fun i => xsubR (zFfrz0 i) fpfrz0 && ((zXfrz0 i).all xckX && (zRfrz0 i).all (fun x => xckX x && xrtB true x))) 7 = true := by decide +kernel
def xIfrz0 (i : Nat) (x0 : Nat → Int) (E0 : zyEm) (v : Nat → Int) (E : zyEm) : Prop := if i = 0 then ((E = E0) ∧ (xE E 35 2 = xE E0 35 2 ∧ xE E 35 3 = xE E0 35 3)) else if i = 1 then ((xAD (xE E0 36) (xE E0 35 4) 0 E ∧ (∀ k, xE E 4 k = xE E0 4 k) ∧ (∀ k, xE E 5 k = xE E0 5 k)) ∧ (xE E 35 2 = xE E0 35 2 ∧ xE E 35 3 = xE E0 35 3)) else if i = 2 then ((xAD (xE E0 36) (xE E0 35 4) 0 E ∧ ((v 3) = if tW (xE E0 36) (xE E0 35 4) 0 [115, 105, 122, 101] = true then 1 else 0) ∧ (∀ k, xE E 4 k = xE E0 4 k) ∧ (∀ k, xE E 5 k = xE E0 5 k)) ∧ (xE E 35 2 = xE E0 35 2 ∧ xE E 35 3 = xE E0 35 3)) else if i = 3 then ((tW (xE E0 36) (xE E0 35 4) 0 [115, 105, 122, 101] = true ∧ xTN (xE E0 36) (xE E0 35 4) (tNx (xE E0 36) (xE E0 35 4) 0) 1 4 E (v 3) ∧ (∀ k, xE E 4 k = xE E0 4 k) ∧ (∀ k, xE E 5 k = xE E0 5 k)) ∧ (¬ (v 3) = 0 → (xE E 35 2 = xE E0 35 2 ∧ xE E 35 3 = xE E0 35 3))) else if i = 4 then ((∃ p1, p1 ≤ (xE E0 35 4) ∧ (1 ≤ (v 2) ∧ (v 2) ≤ 4) ∧ pSz (xE E0 36) (xE E0 35 4) = pNum (xE E0 36) (xE E0 35 4) p1 1 5 (fun cc p2 => pSem (xE E0 36) (xE E0 35 4) p2 (pClr (v 2) cc)) ∧ xTN (xE E0 36) (xE E0 35 4) p1 1 5 E (v 3) ∧ (∀ k, xE E 4 k = xE E0 4 k) ∧ (∀ k, xE E 5 k = xE E0 5 k)) ∧ (¬ (v 3) = 0 → (xE E 35 2 = xE E0 35 2 ∧ xE E 35 3 = xE E0 35 3))) else if i = 5 then ((∃ rr cc : Int, xE E 35 6 ≤ (xE E0 35 4) ∧ pSz (xE E0 36) (xE E0 35 4) = pSem (xE E0 36) (xE E0 35 4) (xE E 35 6) (pClr rr cc) ∧ (1 ≤ rr ∧ rr ≤ 4 ∧ 1 ≤ cc ∧ cc ≤ 5) ∧ xAb0 E (pClr rr cc) ∧ xGeo0 E rr.toNat cc.toNat ∧ xJk0 E0 E) ∧ (xE E 35 2 = xE E0 35 2 ∧ xE E 35 3 = xE E0 35 3)) else ((∃ rr cc p2 : Int, pSz (xE E0 36) (xE E0 35 4) = pSem (xE E0 36) (xE E0 35 4) p2 (pClr rr cc) ∧ xTS (xE E0 36) (xE E0 35 4) p2 E (v 3) ∧ (1 ≤ rr ∧ rr ≤ 4 ∧ 1 ≤ cc ∧ cc ≤ 5) ∧ xAb0 E (pClr rr cc) ∧ xGeo0 E rr.toNat cc.toNat ∧ xJk0 E0 E) ∧ (¬ (v 3) = 0 → (xE E 35 2 = xE E0 35 2 ∧ xE E 35 3 = xE E0 35 3)))
def xMfrz0 (i : Nat) (x0 : Nat → Int) (E0 : zyEm) (v : Nat → Int) (E : zyEm) : Nat := if i = 0 then (20) else if i = 1 then (19) else if i = 2 then (18) else if i = 3 then (17) else if i = 4 then (16) else if i = 5 then (15) else (14)
theorem xRz0 {l : Launch} {en : zEn} {me : zMe} (hen : zG zxMeta 60 = some en) (hme : zG zMeth 60 = some me) : xFc l zymc en me 8 [35, 1] 0 fpfrz0 true xΦrz0 xΨfrz0S := by
  have een : zG zxMeta 60 = some (zxi60, 2, 3, 5, 60, 0, 0, 2, 0) := rfl
  obtain ⟨me1, hme1, hOK⟩ := zall hen
  rw [hme] at hme1
  cases hme1
  rw [een] at hen
  cases hen
  have hr := zyfrz0_run
  have hck := fun i hi => zyAll_iff zyfrz0_ck i hi
  simp only [Bool.and_eq_true] at hck
  obtain ⟨mefad, hmefad, -⟩ := zall (show zG zxMeta 73 = some (zxi73, 1, 1, 5, 73, 0, 0, 0, 0) from rfl)
  have hfad := xAd (l := l) (show zG zxMeta 73 = some (zxi73, 1, 1, 5, 73, 0, 0, 0, 0) from rfl) hmefad
  obtain ⟨meftn, hmeftn, -⟩ := zall (show zG zxMeta 69 = some (zxi69, 3, 3, 5, 69, 0, 0, 2, 0) from rfl)
  have hftn := xTn (l := l) (show zG zxMeta 69 = some (zxi69, 3, 3, 5, 69, 0, 0, 2, 0) from rfl) hmeftn
  obtain ⟨mefts, hmefts, -⟩ := zall (show zG zxMeta 68 = some (zxi68, 1, 1, 5, 68, 0, 0, 2, 0) from rfl)
  have hfts := xTs (l := l) (show zG zxMeta 68 = some (zxi68, 1, 1, 5, 68, 0, 0, 2, 0) from rfl) hmefts
  obtain ⟨mefwsi, hmefwsi, -⟩ := zall (show zG zxMeta 72 = some (zxi72, 2, 3, 5, 72, 0, 0, 2, 0) from rfl)
  have hfwsi := xWsize (l := l) (show zG zxMeta 72 = some (zxi72, 2, 3, 5, 72, 0, 0, 2, 0) from rfl) hmefwsi
  obtain ⟨mefcl0, hmefcl0, -⟩ := zall (show zG zxMeta 31 = some (zxi31, 3, 4, 3, 31, 0, 0, 0, 0) from rfl)
  have hfcl0 := xCl0 (l := l) (show zG zxMeta 31 = some (zxi31, 3, 4, 3, 31, 0, 0, 0, 0) from rfl) hmefcl0
  intro B
  refine xcut (mi := zymc) (B := B) hOK rfl rfl (ι := Fin 7) (fun i => zpfrz0 i.val) (fun _ _ => []) (fun i => zFfrz0 i.val) (fun i => zSfrz0 i.val) (fun i => zXfrz0 i.val) (fun i => zRfrz0 i.val) (fun i y2 ct en2 me2 h => by cases h) 200000 (fun i => zyAll_iff hr i.val i.isLt) (fun i => (hck i.val i.isLt).1) (fun i => (hck i.val i.isLt).2.1) (fun i => (hck i.val i.isLt).2.2) ⟨0, by decide⟩ ⟨rfl, rfl, rfl, rfl⟩ ⟨by decide, by decide⟩ (fun i x0 E0 v E => xIfrz0 i.val x0 E0 v E) (fun i x0 E0 v E => xMfrz0 i.val x0 E0 v E) ?_ ?_ ?_
  · intro x0 E hx0 hT hΦ
    have hΦ : xΦrz0 x0 E := hΦ
    refine ⟨fun k p hp => ?_, ?_⟩
    · have hk : k < 3 := (List.getElem?_eq_some_iff.mp hp).1
      have hk : k = 0 ∨ k = 1 ∨ k = 2 := by omega
      rcases hk with rfl | rfl | rfl
      · have hp : some (0, 4294967295) = some p := hp
        cases hp
        show ((0 : Nat) : Int) ≤ 0 + 2147483648 ∧ 0 + 2147483648 ≤ ((4294967295 : Nat) : Int)
        omega
      · have hp : some (0, 4294967295) = some p := hp
        cases hp
        show ((0 : Nat) : Int) ≤ 0 + 2147483648 ∧ 0 + 2147483648 ≤ ((4294967295 : Nat) : Int)
        omega
      · have hp : some (0, 4294967295) = some p := hp
        cases hp
        show ((0 : Nat) : Int) ≤ x0 0 + 2147483648 ∧ x0 0 + 2147483648 ≤ ((4294967295 : Nat) : Int)
        have hx := hx0 0
        omega
    · show (E = E) ∧ (xE E 35 2 = xE E 35 2 ∧ xE E 35 3 = xE E 35 3)
      refine ⟨?_, ⟨rfl, rfl⟩⟩
      rfl
  · intro x0 s Wg hRu hrx hT0 hΦ i v H hT hrv hInv hKc hFr0 hIH x hx ρ2 v2 N2 H2 locs lsB stA hAt hB hv hr2 hXs hag hfr hFr hT2
    rcases i with ⟨i, hi⟩
    have hi2 : i = 0 ∨ i = 1 ∨ i = 2 ∨ i = 3 ∨ i = 4 ∨ i = 5 ∨ i = 6 := by omega
    rcases hi2 with rfl | rfl | rfl | rfl | rfl | rfl | rfl
    · have hx : x ∈ [zxfrz0_ax0] := hx
      have hag : ∀ k, k < 3 → v2 k = v k := hag
      have hfr : xFr [] _ _ := hfr
      have ex := List.mem_singleton.mp hx
      subst ex
      obtain ⟨hF, hBd, hM⟩ := hXs
      have e35_4 : xE (zyEl zymc B H2) 35 4 = xE (zyEl zymc B H) 35 4 := xFr_E hfr rfl
      have q35_4 : xE (zyEl zymc B H) 35 4 = xE (zyEl zymc B s.heap) 35 4 := xFr_E hFr0 rfl
      have e35_5 : xE (zyEl zymc B H2) 35 5 = xE (zyEl zymc B H) 35 5 := xFr_E hfr rfl
      have e35_6 : xE (zyEl zymc B H2) 35 6 = xE (zyEl zymc B H) 35 6 := xFr_E hfr rfl
      have e35_7 : xE (zyEl zymc B H2) 35 7 = xE (zyEl zymc B H) 35 7 := xFr_E hfr rfl
      have e35_8 : xE (zyEl zymc B H2) 35 8 = xE (zyEl zymc B H) 35 8 := xFr_E hfr rfl
      have e35_2 : xE (zyEl zymc B H2) 35 2 = xE (zyEl zymc B H) 35 2 := xFr_E hfr rfl
      have e35_3 : xE (zyEl zymc B H2) 35 3 = xE (zyEl zymc B H) 35 3 := xFr_E hfr rfl
      have e36 : ∀ i, xE (zyEl zymc B H2) 36 i = xE (zyEl zymc B H) 36 i := fun i => xFr_E hfr rfl
      have q36 : ∀ i, xE (zyEl zymc B H) 36 i = xE (zyEl zymc B s.heap) 36 i := fun i => xFr_E hFr0 rfl
      have e4 : ∀ i, xE (zyEl zymc B H2) 4 i = xE (zyEl zymc B H) 4 i := fun i => xFr_E hfr rfl
      have e5 : ∀ i, xE (zyEl zymc B H2) 5 i = xE (zyEl zymc B H) 5 i := fun i => xFr_E hfr rfl
      have hI : ((zyEl zymc B H) = (zyEl zymc B s.heap)) ∧ (xE (zyEl zymc B H) 35 2 = xE (zyEl zymc B s.heap) 35 2 ∧ xE (zyEl zymc B H) 35 3 = xE (zyEl zymc B s.heap) 35 3) := hInv
      obtain ⟨hI, hSm⟩ := hI
      have q35_5 : xE (zyEl zymc B H) 35 5 = xE (zyEl zymc B s.heap) 35 5 := by rw [hI]
      have q35_6 : xE (zyEl zymc B H) 35 6 = xE (zyEl zymc B s.heap) 35 6 := by rw [hI]
      have q35_7 : xE (zyEl zymc B H) 35 7 = xE (zyEl zymc B s.heap) 35 7 := by rw [hI]
      have q35_8 : xE (zyEl zymc B H) 35 8 = xE (zyEl zymc B s.heap) 35 8 := by rw [hI]
      have q35_2 : xE (zyEl zymc B H) 35 2 = xE (zyEl zymc B s.heap) 35 2 := by rw [hI]
      have q35_3 : xE (zyEl zymc B H) 35 3 = xE (zyEl zymc B s.heap) 35 3 := by rw [hI]
      have q4 : ∀ i, xE (zyEl zymc B H) 4 i = xE (zyEl zymc B s.heap) 4 i := fun i => by rw [hI]
      have q5 : ∀ i, xE (zyEl zymc B H) 5 i = xE (zyEl zymc B s.heap) 5 i := fun i => by rw [hI]
      have tt : xE (zyEl zymc B H2) 36 = xE (zyEl zymc B s.heap) 36 := funext fun i => (e36 i).trans (q36 i)
      have tn : xE (zyEl zymc B H2) 35 4 = xE (zyEl zymc B s.heap) 35 4 := by omega
      have hP := hΦ.1
      have hP2 := hΦ.2
      refine xCa hRu hIH hAt hB hv hFr (hfad B) (ix := 35) (ax := 1168) rfl rfl rfl hmefad ⟨_, rfl, rfl, by decide⟩ ⟨rfl, rfl, rfl⟩ (by decide) [] [] [] rfl ⟨rfl, rfl⟩ (by decide +kernel) xcs_n (by decide +kernel) ?_ (fun H3 r hT3 hf3 hFr3 hr3 hΨ3 => ?_)
      · show xΦad (xfv []) (zyEl zymc B H2)
        unfold xΦad
        omega
      · have hΨ3 : xΨad (xfv []) (zyEl zymc B H2) (zyEl zymc B H3) r := hΨ3
        have d35_4 : xE (zyEl zymc B H3) 35 4 = xE (zyEl zymc B H2) 35 4 := xFr_E hf3 rfl
        have d35_2 : xE (zyEl zymc B H3) 35 2 = xE (zyEl zymc B H2) 35 2 := xFr_E hf3 rfl
        have d35_3 : xE (zyEl zymc B H3) 35 3 = xE (zyEl zymc B H2) 35 3 := xFr_E hf3 rfl
        have d36 : ∀ i, xE (zyEl zymc B H3) 36 i = xE (zyEl zymc B H2) 36 i := fun i => xFr_E hf3 rfl
        have d4 : ∀ i, xE (zyEl zymc B H3) 4 i = xE (zyEl zymc B H2) 4 i := fun i => xFr_E hf3 rfl
        have d5 : ∀ i, xE (zyEl zymc B H3) 5 i = xE (zyEl zymc B H2) 5 i := fun i => xFr_E hf3 rfl
        unfold xΨad at hΨ3
        rw [tt, tn, show xE (zyEl zymc B H2) 35 6 = 0 by omega] at hΨ3
        refine ⟨⟨1, by decide⟩, [0, 0, 0], [0, 0, 0], rfl, ⟨by decide +kernel, ⟨rfl, by decide +kernel⟩, (xcs_c rfl (xcs_c rfl (xcs_c rfl xcs_n))), (xe_0 (xe_0 (xe_0 xe_n))), xkq_n⟩, (by rw [if_neg (by decide)]; exact xst_n), ?_, ?_⟩
        · show (xAD (xE (zyEl zymc B s.heap) 36) (xE (zyEl zymc B s.heap) 35 4) 0 (zyEl zymc B H3) ∧ (∀ k, xE (zyEl zymc B H3) 4 k = xE (zyEl zymc B s.heap) 4 k) ∧ (∀ k, xE (zyEl zymc B H3) 5 k = xE (zyEl zymc B s.heap) 5 k)) ∧ (xE (zyEl zymc B H3) 35 2 = xE (zyEl zymc B s.heap) 35 2 ∧ xE (zyEl zymc B H3) 35 3 = xE (zyEl zymc B s.heap) 35 3)
          refine ⟨?_, ?_⟩
          · skip
            exact ⟨hΨ3, fun k => by rw [d4 k, e4 k, q4 k], fun k => by rw [d5 k, e5 k, q5 k]⟩
          · omega
        · show 19 < 20
          omega
    · have hx : x ∈ [zxfrz0_bx0] := hx
      have hag : ∀ k, k < 3 → v2 k = v k := hag
      have hfr : xFr [] _ _ := hfr
      have ex := List.mem_singleton.mp hx
      subst ex
      obtain ⟨hF, hBd, hM⟩ := hXs
      have e35_4 : xE (zyEl zymc B H2) 35 4 = xE (zyEl zymc B H) 35 4 := xFr_E hfr rfl
      have q35_4 : xE (zyEl zymc B H) 35 4 = xE (zyEl zymc B s.heap) 35 4 := xFr_E hFr0 rfl
      have e35_5 : xE (zyEl zymc B H2) 35 5 = xE (zyEl zymc B H) 35 5 := xFr_E hfr rfl
      have e35_6 : xE (zyEl zymc B H2) 35 6 = xE (zyEl zymc B H) 35 6 := xFr_E hfr rfl
      have e35_7 : xE (zyEl zymc B H2) 35 7 = xE (zyEl zymc B H) 35 7 := xFr_E hfr rfl
      have e35_8 : xE (zyEl zymc B H2) 35 8 = xE (zyEl zymc B H) 35 8 := xFr_E hfr rfl
      have e35_2 : xE (zyEl zymc B H2) 35 2 = xE (zyEl zymc B H) 35 2 := xFr_E hfr rfl
      have e35_3 : xE (zyEl zymc B H2) 35 3 = xE (zyEl zymc B H) 35 3 := xFr_E hfr rfl
      have e36 : ∀ i, xE (zyEl zymc B H2) 36 i = xE (zyEl zymc B H) 36 i := fun i => xFr_E hfr rfl
      have q36 : ∀ i, xE (zyEl zymc B H) 36 i = xE (zyEl zymc B s.heap) 36 i := fun i => xFr_E hFr0 rfl
      have e4 : ∀ i, xE (zyEl zymc B H2) 4 i = xE (zyEl zymc B H) 4 i := fun i => xFr_E hfr rfl
      have e5 : ∀ i, xE (zyEl zymc B H2) 5 i = xE (zyEl zymc B H) 5 i := fun i => xFr_E hfr rfl
      have hI : (xAD (xE (zyEl zymc B s.heap) 36) (xE (zyEl zymc B s.heap) 35 4) 0 (zyEl zymc B H) ∧ (∀ k, xE (zyEl zymc B H) 4 k = xE (zyEl zymc B s.heap) 4 k) ∧ (∀ k, xE (zyEl zymc B H) 5 k = xE (zyEl zymc B s.heap) 5 k)) ∧ (xE (zyEl zymc B H) 35 2 = xE (zyEl zymc B s.heap) 35 2 ∧ xE (zyEl zymc B H) 35 3 = xE (zyEl zymc B s.heap) 35 3) := hInv
      obtain ⟨hI, hSm⟩ := hI
      have tt : xE (zyEl zymc B H2) 36 = xE (zyEl zymc B s.heap) 36 := funext fun i => (e36 i).trans (q36 i)
      have tn : xE (zyEl zymc B H2) 35 4 = xE (zyEl zymc B s.heap) 35 4 := by omega
      obtain ⟨⟨i4, i5, i6, i7⟩, j0, j1⟩ := hI
      refine xCa hRu hIH hAt hB hv hFr (hfwsi B) (ix := 48) (ax := 1152) rfl rfl rfl hmefwsi ⟨_, rfl, rfl, by decide⟩ ⟨rfl, rfl, rfl⟩ (by decide) [] [] [] rfl ⟨rfl, rfl⟩ (by decide +kernel) xcs_n (by decide +kernel) ?_ (fun H3 r hT3 hf3 hFr3 hr3 hΨ3 => ?_)
      · show xΦ0 (xfv []) (zyEl zymc B H2)
        exact trivial
      · have hΨ3 : xΨfwsi (xfv []) (zyEl zymc B H2) (zyEl zymc B H3) r := hΨ3
        have d35_4 : xE (zyEl zymc B H3) 35 4 = xE (zyEl zymc B H2) 35 4 := xFr_E hf3 rfl
        have d35_5 : xE (zyEl zymc B H3) 35 5 = xE (zyEl zymc B H2) 35 5 := xFr_E hf3 rfl
        have d35_6 : xE (zyEl zymc B H3) 35 6 = xE (zyEl zymc B H2) 35 6 := xFr_E hf3 rfl
        have d35_7 : xE (zyEl zymc B H3) 35 7 = xE (zyEl zymc B H2) 35 7 := xFr_E hf3 rfl
        have d35_8 : xE (zyEl zymc B H3) 35 8 = xE (zyEl zymc B H2) 35 8 := xFr_E hf3 rfl
        have d35_2 : xE (zyEl zymc B H3) 35 2 = xE (zyEl zymc B H2) 35 2 := xFr_E hf3 rfl
        have d35_3 : xE (zyEl zymc B H3) 35 3 = xE (zyEl zymc B H2) 35 3 := xFr_E hf3 rfl
        have d36 : ∀ i, xE (zyEl zymc B H3) 36 i = xE (zyEl zymc B H2) 36 i := fun i => xFr_E hf3 rfl
        have d4 : ∀ i, xE (zyEl zymc B H3) 4 i = xE (zyEl zymc B H2) 4 i := fun i => xFr_E hf3 rfl
        have d5 : ∀ i, xE (zyEl zymc B H3) 5 i = xE (zyEl zymc B H2) 5 i := fun i => xFr_E hf3 rfl
        have z35_2 : ((2147483647 : Nat) : Int) ≤ xE (zyEl zymc B H3) 35 2 + 2147483648 ∧ xE (zyEl zymc B H3) 35 2 + 2147483648 ≤ ((2147483654 : Nat) : Int) := xTyF hT3 35 2 2 rfl rfl rfl rfl rfl rfl
        have z35_3 : ((2147483647 : Nat) : Int) ≤ xE (zyEl zymc B H3) 35 3 + 2147483648 ∧ xE (zyEl zymc B H3) 35 3 + 2147483648 ≤ ((2147484548 : Nat) : Int) := xTyF hT3 35 3 3 rfl rfl rfl rfl rfl rfl
        unfold xΨfwsi at hΨ3
        rw [tt, show xE (zyEl zymc B H2) 35 7 = tKd (xE (zyEl zymc B s.heap) 36) (xE (zyEl zymc B s.heap) 35 4) 0 by omega, show xE (zyEl zymc B H2) 35 5 = tFr (xE (zyEl zymc B s.heap) 36) (xE (zyEl zymc B s.heap) 35 4) 0 by omega, show xE (zyEl zymc B H2) 35 6 = tNx (xE (zyEl zymc B s.heap) 36) (xE (zyEl zymc B s.heap) 35 4) 0 by omega] at hΨ3
        have hr01 : r = 0 ∨ r = 1 := by
          rw [hΨ3]
          split <;> omega
        have hEE3 := xFr_n hf3
        refine ⟨⟨2, by decide⟩, [0, 0, 0], [0, 0, 0, r, xE (zyEl zymc B H3) 35 2, xE (zyEl zymc B H3) 35 3], rfl, ⟨by decide +kernel, ⟨rfl, by decide +kernel⟩, (xcs_c rfl (xcs_c rfl (xcs_c rfl xcs_n))), (xe_0 (xe_0 (xe_0 (xe_c (by omega) (by omega) rfl (xe_c (by omega) (by omega) rfl (xe_c (by omega) (by omega) rfl xe_n)))))), (xkq_c hT3 35 2 (q := 2) rfl rfl rfl rfl rfl rfl rfl rfl rfl rfl rfl (xkq_c hT3 35 3 (q := 3) rfl rfl rfl rfl rfl rfl rfl rfl rfl rfl rfl xkq_n))⟩, (by rw [if_pos rfl]; exact ⟨3, [], rfl, by decide, rfl, xst_n⟩), ?_, ?_⟩
        · show (xAD (xE (zyEl zymc B s.heap) 36) (xE (zyEl zymc B s.heap) 35 4) 0 (zyEl zymc B H3) ∧ ((r : Int) = if tW (xE (zyEl zymc B s.heap) 36) (xE (zyEl zymc B s.heap) 35 4) 0 [115, 105, 122, 101] = true then 1 else 0) ∧ (∀ k, xE (zyEl zymc B H3) 4 k = xE (zyEl zymc B s.heap) 4 k) ∧ (∀ k, xE (zyEl zymc B H3) 5 k = xE (zyEl zymc B s.heap) 5 k)) ∧ (xE (zyEl zymc B H3) 35 2 = xE (zyEl zymc B s.heap) 35 2 ∧ xE (zyEl zymc B H3) 35 3 = xE (zyEl zymc B s.heap) 35 3)
          refine ⟨?_, ?_⟩
          · skip
            rw [hEE3]
            exact ⟨⟨by omega, by omega, by omega, fun h => by have := i7 h; omega⟩, hΨ3, fun k => by rw [e4 k, j0 k], fun k => by rw [e5 k, j1 k]⟩
          · omega
        · show 18 < 19
          omega
    · have hx : x ∈ [zxfrz0_cx0] := hx
      have hag : ∀ k, k < 6 → v2 k = v k := hag
      have hfr : xFr [(35, 2, 3)] _ _ := hfr
      have ex := List.mem_singleton.mp hx
      subst ex
      obtain ⟨hF, hBd, hM⟩ := hXs
      have g3 : v2 3 = v 3 := hag 3 (by decide)
      have g4 : v2 4 = v 4 := hag 4 (by decide)
      have g5 : v2 5 = v 5 := hag 5 (by decide)
      have b0 : ((2147483649 : Nat) : Int) ≤ (v2 3) + 2147483648 ∧ (v2 3) + 2147483648 ≤ ((2147483649 : Nat) : Int) := xXb hBd 0 rfl
      have b1 : ((2147483647 : Nat) : Int) ≤ (v2 4) + 2147483648 ∧ (v2 4) + 2147483648 ≤ ((2147483654 : Nat) : Int) := xXb hBd 1 rfl
      have b2 : ((2147483647 : Nat) : Int) ≤ (v2 5) + 2147483648 ∧ (v2 5) + 2147483648 ≤ ((2147484548 : Nat) : Int) := xXb hBd 2 rfl
      have k0 : xE (zyEl zymc B H) 35 2 = v 4 := xKcf hKc 0 rfl rfl
      have k1 : xE (zyEl zymc B H) 35 3 = v 5 := xKcf hKc 1 rfl rfl
      have f0 : ¬ (v2 3) = 0 := xXf hF 0 rfl
      have m0 : xE (zyEl zymc B H2) 35 2 = (v2 4) := xXm hM 0 rfl
      have m1 : xE (zyEl zymc B H2) 35 3 = (v2 5) := xXm hM 1 rfl
      have e35_4 : xE (zyEl zymc B H2) 35 4 = xE (zyEl zymc B H) 35 4 := xFr_E hfr rfl
      have q35_4 : xE (zyEl zymc B H) 35 4 = xE (zyEl zymc B s.heap) 35 4 := xFr_E hFr0 rfl
      have e35_5 : xE (zyEl zymc B H2) 35 5 = xE (zyEl zymc B H) 35 5 := xFr_E hfr rfl
      have e35_6 : xE (zyEl zymc B H2) 35 6 = xE (zyEl zymc B H) 35 6 := xFr_E hfr rfl
      have e35_7 : xE (zyEl zymc B H2) 35 7 = xE (zyEl zymc B H) 35 7 := xFr_E hfr rfl
      have e35_8 : xE (zyEl zymc B H2) 35 8 = xE (zyEl zymc B H) 35 8 := xFr_E hfr rfl
      have e36 : ∀ i, xE (zyEl zymc B H2) 36 i = xE (zyEl zymc B H) 36 i := fun i => xFr_E hfr rfl
      have q36 : ∀ i, xE (zyEl zymc B H) 36 i = xE (zyEl zymc B s.heap) 36 i := fun i => xFr_E hFr0 rfl
      have e4 : ∀ i, xE (zyEl zymc B H2) 4 i = xE (zyEl zymc B H) 4 i := fun i => xFr_E hfr rfl
      have e5 : ∀ i, xE (zyEl zymc B H2) 5 i = xE (zyEl zymc B H) 5 i := fun i => xFr_E hfr rfl
      have hI : (xAD (xE (zyEl zymc B s.heap) 36) (xE (zyEl zymc B s.heap) 35 4) 0 (zyEl zymc B H) ∧ ((v 3) = if tW (xE (zyEl zymc B s.heap) 36) (xE (zyEl zymc B s.heap) 35 4) 0 [115, 105, 122, 101] = true then 1 else 0) ∧ (∀ k, xE (zyEl zymc B H) 4 k = xE (zyEl zymc B s.heap) 4 k) ∧ (∀ k, xE (zyEl zymc B H) 5 k = xE (zyEl zymc B s.heap) 5 k)) ∧ (xE (zyEl zymc B H) 35 2 = xE (zyEl zymc B s.heap) 35 2 ∧ xE (zyEl zymc B H) 35 3 = xE (zyEl zymc B s.heap) 35 3) := hInv
      obtain ⟨hI, hSm⟩ := hI
      have tt : xE (zyEl zymc B H2) 36 = xE (zyEl zymc B s.heap) 36 := funext fun i => (e36 i).trans (q36 i)
      have tn : xE (zyEl zymc B H2) 35 4 = xE (zyEl zymc B s.heap) 35 4 := by omega
      have hP := hΦ.1
      have hP2 := hΦ.2
      obtain ⟨⟨i4, i5, i6, i7⟩, i3, j0, j1⟩ := hI
      have hb := tNx_b (T := xE (zyEl zymc B s.heap) 36) (n := xE (zyEl zymc B s.heap) 35 4) (p := 0) hP2
      have hw : tW (xE (zyEl zymc B s.heap) 36) (xE (zyEl zymc B s.heap) 35 4) 0 [115, 105, 122, 101] = true := by
        by_cases h : tW (xE (zyEl zymc B s.heap) 36) (xE (zyEl zymc B s.heap) 35 4) 0 [115, 105, 122, 101] = true
        · exact h
        · rw [if_neg h] at i3
          omega
      refine xCa hRu hIH hAt hB hv hFr (hftn B) (ix := 60) (ax := 1104) rfl rfl rfl hmeftn ⟨_, rfl, rfl, by decide⟩ ⟨rfl, rfl, rfl⟩ (by decide) [8, 32] [] [1, 4] rfl ⟨rfl, rfl⟩ (by decide +kernel) (xcs_c rfl (xcs_c rfl xcs_n)) (by decide +kernel) ?_ (fun H3 r hT3 hf3 hFr3 hr3 hΨ3 => ?_)
      · show xΦad (xfv [1, 4]) (zyEl zymc B H2)
        unfold xΦad
        omega
      · have hΨ3 : xΨftnS (xfv [1, 4]) (zyEl zymc B H2) (zyEl zymc B H3) r := hΨ3
        obtain ⟨hΨ3, hS3⟩ := hΨ3
        have hΨ3 : xΨtn (xfv [1, 4]) (zyEl zymc B H2) (zyEl zymc B H3) r := hΨ3
        have hS3 : (¬ (r) = 0 → (xE (zyEl zymc B H3) 35 2 = xE (zyEl zymc B H2) 35 2 ∧ xE (zyEl zymc B H3) 35 3 = xE (zyEl zymc B H2) 35 3)) := hS3
        have d35_4 : xE (zyEl zymc B H3) 35 4 = xE (zyEl zymc B H2) 35 4 := xFr_E hf3 rfl
        have d36 : ∀ i, xE (zyEl zymc B H3) 36 i = xE (zyEl zymc B H2) 36 i := fun i => xFr_E hf3 rfl
        have d4 : ∀ i, xE (zyEl zymc B H3) 4 i = xE (zyEl zymc B H2) 4 i := fun i => xFr_E hf3 rfl
        have d5 : ∀ i, xE (zyEl zymc B H3) 5 i = xE (zyEl zymc B H2) 5 i := fun i => xFr_E hf3 rfl
        unfold xΨtn at hΨ3
        rw [tt, tn, show xE (zyEl zymc B H2) 35 6 = tNx (xE (zyEl zymc B s.heap) 36) (xE (zyEl zymc B s.heap) 35 4) 0 by omega] at hΨ3
        have hr01 := xtn_r hΨ3
        refine ⟨⟨3, by decide⟩, [0, 0, 0], [0, 0, 0, r], rfl, ⟨by decide +kernel, ⟨rfl, by decide +kernel⟩, (xcs_c rfl (xcs_c rfl (xcs_c rfl xcs_n))), (xe_0 (xe_0 (xe_0 (xe_c (by omega) (by omega) rfl xe_n)))), xkq_n⟩, (by rw [if_pos rfl]; exact ⟨3, [], rfl, by decide, rfl, xst_n⟩), ?_, ?_⟩
        · show (tW (xE (zyEl zymc B s.heap) 36) (xE (zyEl zymc B s.heap) 35 4) 0 [115, 105, 122, 101] = true ∧ xTN (xE (zyEl zymc B s.heap) 36) (xE (zyEl zymc B s.heap) 35 4) (tNx (xE (zyEl zymc B s.heap) 36) (xE (zyEl zymc B s.heap) 35 4) 0) 1 4 (zyEl zymc B H3) (r : Int) ∧ (∀ k, xE (zyEl zymc B H3) 4 k = xE (zyEl zymc B s.heap) 4 k) ∧ (∀ k, xE (zyEl zymc B H3) 5 k = xE (zyEl zymc B s.heap) 5 k)) ∧ (¬ (r : Int) = 0 → (xE (zyEl zymc B H3) 35 2 = xE (zyEl zymc B s.heap) 35 2 ∧ xE (zyEl zymc B H3) 35 3 = xE (zyEl zymc B s.heap) 35 3))
          refine ⟨?_, ?_⟩
          · skip
            exact ⟨hw, hΨ3, fun k => by rw [d4 k, e4 k, j0 k], fun k => by rw [d5 k, e5 k, j1 k]⟩
          · omega
        · show 17 < 18
          omega
    · have hx : x ∈ [zxfrz0_dx0] := hx
      have hag : ∀ k, k < 4 → v2 k = v k := hag
      have hfr : xFr [] _ _ := hfr
      have ex := List.mem_singleton.mp hx
      subst ex
      obtain ⟨hF, hBd, hM⟩ := hXs
      have r4 := hr2 4
      have g3 : v2 3 = v 3 := hag 3 (by decide)
      have b0 : ((2147483649 : Nat) : Int) ≤ (v2 3) + 2147483648 ∧ (v2 3) + 2147483648 ≤ ((2147483649 : Nat) : Int) := xXb hBd 0 rfl
      have f0 : ¬ (v2 3) = 0 := xXf hF 0 rfl
      have f1 : (0 : Int) ≤ 8 ∧ xE (zyEl zymc B H) 35 8 = (v2 4) := xXf hF 1 rfl
      have e35_4 : xE (zyEl zymc B H2) 35 4 = xE (zyEl zymc B H) 35 4 := xFr_E hfr rfl
      have q35_4 : xE (zyEl zymc B H) 35 4 = xE (zyEl zymc B s.heap) 35 4 := xFr_E hFr0 rfl
      have e35_5 : xE (zyEl zymc B H2) 35 5 = xE (zyEl zymc B H) 35 5 := xFr_E hfr rfl
      have e35_6 : xE (zyEl zymc B H2) 35 6 = xE (zyEl zymc B H) 35 6 := xFr_E hfr rfl
      have e35_7 : xE (zyEl zymc B H2) 35 7 = xE (zyEl zymc B H) 35 7 := xFr_E hfr rfl
      have e35_8 : xE (zyEl zymc B H2) 35 8 = xE (zyEl zymc B H) 35 8 := xFr_E hfr rfl
      have e35_2 : xE (zyEl zymc B H2) 35 2 = xE (zyEl zymc B H) 35 2 := xFr_E hfr rfl
      have e35_3 : xE (zyEl zymc B H2) 35 3 = xE (zyEl zymc B H) 35 3 := xFr_E hfr rfl
      have e36 : ∀ i, xE (zyEl zymc B H2) 36 i = xE (zyEl zymc B H) 36 i := fun i => xFr_E hfr rfl
      have q36 : ∀ i, xE (zyEl zymc B H) 36 i = xE (zyEl zymc B s.heap) 36 i := fun i => xFr_E hFr0 rfl
      have e4 : ∀ i, xE (zyEl zymc B H2) 4 i = xE (zyEl zymc B H) 4 i := fun i => xFr_E hfr rfl
      have e5 : ∀ i, xE (zyEl zymc B H2) 5 i = xE (zyEl zymc B H) 5 i := fun i => xFr_E hfr rfl
      have hI : (tW (xE (zyEl zymc B s.heap) 36) (xE (zyEl zymc B s.heap) 35 4) 0 [115, 105, 122, 101] = true ∧ xTN (xE (zyEl zymc B s.heap) 36) (xE (zyEl zymc B s.heap) 35 4) (tNx (xE (zyEl zymc B s.heap) 36) (xE (zyEl zymc B s.heap) 35 4) 0) 1 4 (zyEl zymc B H) (v 3) ∧ (∀ k, xE (zyEl zymc B H) 4 k = xE (zyEl zymc B s.heap) 4 k) ∧ (∀ k, xE (zyEl zymc B H) 5 k = xE (zyEl zymc B s.heap) 5 k)) ∧ (¬ (v 3) = 0 → (xE (zyEl zymc B H) 35 2 = xE (zyEl zymc B s.heap) 35 2 ∧ xE (zyEl zymc B H) 35 3 = xE (zyEl zymc B s.heap) 35 3)) := hInv
      obtain ⟨hI, hSm⟩ := hI
      have hP := hΦ.1
      have hP2 := hΦ.2
      obtain ⟨hw, i1, j0, j1⟩ := hI
      rw [show (v 3) = v2 3 by omega] at i1
      have hb := tNx_b (T := xE (zyEl zymc B s.heap) 36) (n := xE (zyEl zymc B s.heap) 35 4) (p := 0) hP2
      have tt : xE (zyEl zymc B H2) 36 = xE (zyEl zymc B s.heap) 36 := funext fun i => (e36 i).trans (q36 i)
      have tn : xE (zyEl zymc B H2) 35 4 = xE (zyEl zymc B s.heap) 35 4 := by omega
      obtain ⟨c1, c2, c3, c4, c5, c6, c7⟩ := xtn_1 i1 (by omega)
      have hb2 := tNx_b (T := xE (zyEl zymc B s.heap) 36) (n := xE (zyEl zymc B s.heap) 35 4) (p := tNx (xE (zyEl zymc B s.heap) 36) (xE (zyEl zymc B s.heap) 35 4) 0) (by omega)
      refine xCa hRu hIH hAt hB hv hFr (hftn B) (ix := 60) (ax := 1104) rfl rfl rfl hmeftn ⟨_, rfl, rfl, by decide⟩ ⟨rfl, rfl, rfl⟩ (by decide) [8, 40] [] [1, 5] rfl ⟨rfl, rfl⟩ (by decide +kernel) (xcs_c rfl (xcs_c rfl xcs_n)) (by decide +kernel) ?_ (fun H3 r hT3 hf3 hFr3 hr3 hΨ3 => ?_)
      · show xΦad (xfv [1, 5]) (zyEl zymc B H2)
        unfold xΦad
        omega
      · have hΨ3 : xΨftnS (xfv [1, 5]) (zyEl zymc B H2) (zyEl zymc B H3) r := hΨ3
        obtain ⟨hΨ3, hS3⟩ := hΨ3
        have hΨ3 : xΨtn (xfv [1, 5]) (zyEl zymc B H2) (zyEl zymc B H3) r := hΨ3
        have hS3 : (¬ (r) = 0 → (xE (zyEl zymc B H3) 35 2 = xE (zyEl zymc B H2) 35 2 ∧ xE (zyEl zymc B H3) 35 3 = xE (zyEl zymc B H2) 35 3)) := hS3
        have d35_4 : xE (zyEl zymc B H3) 35 4 = xE (zyEl zymc B H2) 35 4 := xFr_E hf3 rfl
        have d36 : ∀ i, xE (zyEl zymc B H3) 36 i = xE (zyEl zymc B H2) 36 i := fun i => xFr_E hf3 rfl
        have d4 : ∀ i, xE (zyEl zymc B H3) 4 i = xE (zyEl zymc B H2) 4 i := fun i => xFr_E hf3 rfl
        have d5 : ∀ i, xE (zyEl zymc B H3) 5 i = xE (zyEl zymc B H2) 5 i := fun i => xFr_E hf3 rfl
        unfold xΨtn at hΨ3
        rw [tt, tn] at hΨ3
        have hr01 := xtn_r hΨ3
        refine ⟨⟨4, by decide⟩, [0, 0, 137438953473], [0, 0, (v2 4), r], rfl, ⟨by decide +kernel, ⟨rfl, by decide +kernel⟩, (xcs_c rfl (xcs_c rfl (xcs_c rfl xcs_n))), (xe_0 (xe_0 (xe_c (by omega) (by omega) rfl (xe_c (by omega) (by omega) rfl xe_n)))), xkq_n⟩, (by rw [if_pos rfl]; exact ⟨3, [], rfl, by decide, rfl, xst_n⟩), ?_, ?_⟩
        · show (∃ p1, p1 ≤ (xE (zyEl zymc B s.heap) 35 4) ∧ (1 ≤ ((v2 4) : Int) ∧ ((v2 4) : Int) ≤ 4) ∧ pSz (xE (zyEl zymc B s.heap) 36) (xE (zyEl zymc B s.heap) 35 4) = pNum (xE (zyEl zymc B s.heap) 36) (xE (zyEl zymc B s.heap) 35 4) p1 1 5 (fun cc p2 => pSem (xE (zyEl zymc B s.heap) 36) (xE (zyEl zymc B s.heap) 35 4) p2 (pClr ((v2 4) : Int) cc)) ∧ xTN (xE (zyEl zymc B s.heap) 36) (xE (zyEl zymc B s.heap) 35 4) p1 1 5 (zyEl zymc B H3) (r : Int) ∧ (∀ k, xE (zyEl zymc B H3) 4 k = xE (zyEl zymc B s.heap) 4 k) ∧ (∀ k, xE (zyEl zymc B H3) 5 k = xE (zyEl zymc B s.heap) 5 k)) ∧ (¬ (r : Int) = 0 → (xE (zyEl zymc B H3) 35 2 = xE (zyEl zymc B s.heap) 35 2 ∧ xE (zyEl zymc B H3) 35 3 = xE (zyEl zymc B s.heap) 35 3))
          refine ⟨?_, ?_⟩
          · skip
            refine ⟨xE (zyEl zymc B H2) 35 6, by omega, by omega, ?_, hΨ3, fun k => by rw [d4 k, e4 k, j0 k], fun k => by rw [d5 k, e5 k, j1 k]⟩
            unfold pSz
            rw [hw, if_pos rfl, c7, show xE (zyEl zymc B H2) 35 6 = xE (zyEl zymc B H) 35 6 by omega, show xE (zyEl zymc B H) 35 8 = (v2 4) by omega]
          · omega
        · show 16 < 17
          omega
    · have hx : x ∈ [zxfrz0_ex0] := hx
      have hag : ∀ k, k < 4 → v2 k = v k := hag
      have hfr : xFr [] _ _ := hfr
      have ex := List.mem_singleton.mp hx
      subst ex
      obtain ⟨hF, hBd, hM⟩ := hXs
      have r4 := hr2 4
      have g2 : v2 2 = v 2 := hag 2 (by decide)
      have g3 : v2 3 = v 3 := hag 3 (by decide)
      have b0 : ((2147483649 : Nat) : Int) ≤ (v2 2) + 2147483648 ∧ (v2 2) + 2147483648 ≤ ((2147483652 : Nat) : Int) := xXb hBd 0 rfl
      have b1 : ((2147483649 : Nat) : Int) ≤ (v2 3) + 2147483648 ∧ (v2 3) + 2147483648 ≤ ((2147483649 : Nat) : Int) := xXb hBd 1 rfl
      have f0 : ¬ (v2 3) = 0 := xXf hF 0 rfl
      have f1 : (0 : Int) ≤ 8 ∧ xE (zyEl zymc B H) 35 8 = (v2 4) := xXf hF 1 rfl
      have e35_4 : xE (zyEl zymc B H2) 35 4 = xE (zyEl zymc B H) 35 4 := xFr_E hfr rfl
      have q35_4 : xE (zyEl zymc B H) 35 4 = xE (zyEl zymc B s.heap) 35 4 := xFr_E hFr0 rfl
      have e35_5 : xE (zyEl zymc B H2) 35 5 = xE (zyEl zymc B H) 35 5 := xFr_E hfr rfl
      have e35_6 : xE (zyEl zymc B H2) 35 6 = xE (zyEl zymc B H) 35 6 := xFr_E hfr rfl
      have e35_7 : xE (zyEl zymc B H2) 35 7 = xE (zyEl zymc B H) 35 7 := xFr_E hfr rfl
      have e35_8 : xE (zyEl zymc B H2) 35 8 = xE (zyEl zymc B H) 35 8 := xFr_E hfr rfl
      have e35_2 : xE (zyEl zymc B H2) 35 2 = xE (zyEl zymc B H) 35 2 := xFr_E hfr rfl
      have e35_3 : xE (zyEl zymc B H2) 35 3 = xE (zyEl zymc B H) 35 3 := xFr_E hfr rfl
      have e36 : ∀ i, xE (zyEl zymc B H2) 36 i = xE (zyEl zymc B H) 36 i := fun i => xFr_E hfr rfl
      have q36 : ∀ i, xE (zyEl zymc B H) 36 i = xE (zyEl zymc B s.heap) 36 i := fun i => xFr_E hFr0 rfl
      have e4 : ∀ i, xE (zyEl zymc B H2) 4 i = xE (zyEl zymc B H) 4 i := fun i => xFr_E hfr rfl
      have e5 : ∀ i, xE (zyEl zymc B H2) 5 i = xE (zyEl zymc B H) 5 i := fun i => xFr_E hfr rfl
      have hI : (∃ p1, p1 ≤ (xE (zyEl zymc B s.heap) 35 4) ∧ (1 ≤ (v 2) ∧ (v 2) ≤ 4) ∧ pSz (xE (zyEl zymc B s.heap) 36) (xE (zyEl zymc B s.heap) 35 4) = pNum (xE (zyEl zymc B s.heap) 36) (xE (zyEl zymc B s.heap) 35 4) p1 1 5 (fun cc p2 => pSem (xE (zyEl zymc B s.heap) 36) (xE (zyEl zymc B s.heap) 35 4) p2 (pClr (v 2) cc)) ∧ xTN (xE (zyEl zymc B s.heap) 36) (xE (zyEl zymc B s.heap) 35 4) p1 1 5 (zyEl zymc B H) (v 3) ∧ (∀ k, xE (zyEl zymc B H) 4 k = xE (zyEl zymc B s.heap) 4 k) ∧ (∀ k, xE (zyEl zymc B H) 5 k = xE (zyEl zymc B s.heap) 5 k)) ∧ (¬ (v 3) = 0 → (xE (zyEl zymc B H) 35 2 = xE (zyEl zymc B s.heap) 35 2 ∧ xE (zyEl zymc B H) 35 3 = xE (zyEl zymc B s.heap) 35 3)) := hInv
      obtain ⟨hI, hSm⟩ := hI
      have hP := hΦ.1
      have hP2 := hΦ.2
      obtain ⟨p1, i0, i1, i2, i3, j0, j1⟩ := hI
      rw [show (v 3) = v2 3 by omega] at i3
      rw [show (v 2) = v2 2 by omega] at i2
      have hb := tNx_b (T := xE (zyEl zymc B s.heap) 36) (n := xE (zyEl zymc B s.heap) 35 4) (p := p1) i0
      obtain ⟨c1, c2, c3, c4, c5, c6, c7⟩ := xtn_1 i3 (by omega)
      refine xCa hRu hIH hAt hB hv hFr (hfcl0 B) (ix := 67) (ax := 497) rfl rfl rfl hmefcl0 ⟨_, rfl, rfl, by decide⟩ ⟨rfl, rfl, rfl⟩ (by decide) [68719476737, 137438953473] [] [(v2 2), (v2 4)] rfl ⟨rfl, rfl⟩ (by decide +kernel) (xcs_c rfl (xcs_c rfl xcs_n)) (by decide +kernel) ?_ (fun H3 r hT3 hf3 hFr3 hr3 hΨ3 => ?_)
      · show xΦcl0 (xfv [(v2 2), (v2 4)]) (zyEl zymc B H2)
        exact ⟨by show 1 ≤ (v2 2); omega, by show (v2 2) ≤ 4; omega, by show 1 ≤ (v2 4); omega, by show (v2 4) ≤ 5; omega⟩
      · have hΨ3 : xΨcl0 (xfv [(v2 2), (v2 4)]) (zyEl zymc B H2) (zyEl zymc B H3) r := hΨ3
        have d35_4 : xE (zyEl zymc B H3) 35 4 = xE (zyEl zymc B H2) 35 4 := xFr_E hf3 rfl
        have d35_5 : xE (zyEl zymc B H3) 35 5 = xE (zyEl zymc B H2) 35 5 := xFr_E hf3 rfl
        have d35_6 : xE (zyEl zymc B H3) 35 6 = xE (zyEl zymc B H2) 35 6 := xFr_E hf3 rfl
        have d35_7 : xE (zyEl zymc B H3) 35 7 = xE (zyEl zymc B H2) 35 7 := xFr_E hf3 rfl
        have d35_8 : xE (zyEl zymc B H3) 35 8 = xE (zyEl zymc B H2) 35 8 := xFr_E hf3 rfl
        have d35_2 : xE (zyEl zymc B H3) 35 2 = xE (zyEl zymc B H2) 35 2 := xFr_E hf3 rfl
        have d35_3 : xE (zyEl zymc B H3) 35 3 = xE (zyEl zymc B H2) 35 3 := xFr_E hf3 rfl
        have d36 : ∀ i, xE (zyEl zymc B H3) 36 i = xE (zyEl zymc B H2) 36 i := fun i => xFr_E hf3 rfl
        obtain ⟨w1, w2, w3⟩ := hΨ3
        have w1 : xAb0 (zyEl zymc B H3) (pClr (v2 2) (v2 4)) := w1
        have w2 : xGeo0 (zyEl zymc B H3) ((v2 2)).toNat ((v2 4)).toNat := w2
        refine ⟨⟨5, by decide⟩, [0, 0, 0], [0, 0, 0], rfl, ⟨by decide +kernel, ⟨rfl, by decide +kernel⟩, (xcs_c rfl (xcs_c rfl (xcs_c rfl xcs_n))), (xe_0 (xe_0 (xe_0 xe_n))), xkq_n⟩, (by rw [if_neg (by decide)]; exact xst_n), ?_, ?_⟩
        · show (∃ rr cc : Int, xE (zyEl zymc B H3) 35 6 ≤ (xE (zyEl zymc B s.heap) 35 4) ∧ pSz (xE (zyEl zymc B s.heap) 36) (xE (zyEl zymc B s.heap) 35 4) = pSem (xE (zyEl zymc B s.heap) 36) (xE (zyEl zymc B s.heap) 35 4) (xE (zyEl zymc B H3) 35 6) (pClr rr cc) ∧ (1 ≤ rr ∧ rr ≤ 4 ∧ 1 ≤ cc ∧ cc ≤ 5) ∧ xAb0 (zyEl zymc B H3) (pClr rr cc) ∧ xGeo0 (zyEl zymc B H3) rr.toNat cc.toNat ∧ xJk0 (zyEl zymc B s.heap) (zyEl zymc B H3)) ∧ (xE (zyEl zymc B H3) 35 2 = xE (zyEl zymc B s.heap) 35 2 ∧ xE (zyEl zymc B H3) 35 3 = xE (zyEl zymc B s.heap) 35 3)
          refine ⟨?_, ?_⟩
          · skip
            refine ⟨(v2 2), (v2 4), by omega, ?_, by omega, w1, w2, fun i i0 i1 => ?_⟩
            · rw [i2, c7, show xE (zyEl zymc B H) 35 6 = xE (zyEl zymc B H3) 35 6 by omega, show xE (zyEl zymc B H) 35 8 = (v2 4) by omega]
            · have w := w3 i i0 i1
              rw [e4 i, j0 i, e5 i, j1 i] at w
              exact w
          · omega
        · show 15 < 16
          omega
    · have hx : x ∈ [zxfrz0_fx0] := hx
      have hag : ∀ k, k < 3 → v2 k = v k := hag
      have hfr : xFr [] _ _ := hfr
      have ex := List.mem_singleton.mp hx
      subst ex
      obtain ⟨hF, hBd, hM⟩ := hXs
      have e35_4 : xE (zyEl zymc B H2) 35 4 = xE (zyEl zymc B H) 35 4 := xFr_E hfr rfl
      have q35_4 : xE (zyEl zymc B H) 35 4 = xE (zyEl zymc B s.heap) 35 4 := xFr_E hFr0 rfl
      have e35_5 : xE (zyEl zymc B H2) 35 5 = xE (zyEl zymc B H) 35 5 := xFr_E hfr rfl
      have e35_6 : xE (zyEl zymc B H2) 35 6 = xE (zyEl zymc B H) 35 6 := xFr_E hfr rfl
      have e35_7 : xE (zyEl zymc B H2) 35 7 = xE (zyEl zymc B H) 35 7 := xFr_E hfr rfl
      have e35_8 : xE (zyEl zymc B H2) 35 8 = xE (zyEl zymc B H) 35 8 := xFr_E hfr rfl
      have e35_2 : xE (zyEl zymc B H2) 35 2 = xE (zyEl zymc B H) 35 2 := xFr_E hfr rfl
      have e35_3 : xE (zyEl zymc B H2) 35 3 = xE (zyEl zymc B H) 35 3 := xFr_E hfr rfl
      have e36 : ∀ i, xE (zyEl zymc B H2) 36 i = xE (zyEl zymc B H) 36 i := fun i => xFr_E hfr rfl
      have q36 : ∀ i, xE (zyEl zymc B H) 36 i = xE (zyEl zymc B s.heap) 36 i := fun i => xFr_E hFr0 rfl
      have e4 : ∀ i, xE (zyEl zymc B H2) 4 i = xE (zyEl zymc B H) 4 i := fun i => xFr_E hfr rfl
      have e5 : ∀ i, xE (zyEl zymc B H2) 5 i = xE (zyEl zymc B H) 5 i := fun i => xFr_E hfr rfl
      have hI : (∃ rr cc : Int, xE (zyEl zymc B H) 35 6 ≤ (xE (zyEl zymc B s.heap) 35 4) ∧ pSz (xE (zyEl zymc B s.heap) 36) (xE (zyEl zymc B s.heap) 35 4) = pSem (xE (zyEl zymc B s.heap) 36) (xE (zyEl zymc B s.heap) 35 4) (xE (zyEl zymc B H) 35 6) (pClr rr cc) ∧ (1 ≤ rr ∧ rr ≤ 4 ∧ 1 ≤ cc ∧ cc ≤ 5) ∧ xAb0 (zyEl zymc B H) (pClr rr cc) ∧ xGeo0 (zyEl zymc B H) rr.toNat cc.toNat ∧ xJk0 (zyEl zymc B s.heap) (zyEl zymc B H)) ∧ (xE (zyEl zymc B H) 35 2 = xE (zyEl zymc B s.heap) 35 2 ∧ xE (zyEl zymc B H) 35 3 = xE (zyEl zymc B s.heap) 35 3) := hInv
      obtain ⟨hI, hSm⟩ := hI
      have tt : xE (zyEl zymc B H2) 36 = xE (zyEl zymc B s.heap) 36 := funext fun i => (e36 i).trans (q36 i)
      have tn : xE (zyEl zymc B H2) 35 4 = xE (zyEl zymc B s.heap) 35 4 := by omega
      obtain ⟨rr, cc, i1, i2, i3, i4, i5, i6⟩ := hI
      have hEE2 := xFr_n hfr
      refine xCa hRu hIH hAt hB hv hFr (hfts B) (ix := 73) (ax := 1088) rfl rfl rfl hmefts ⟨_, rfl, rfl, by decide⟩ ⟨rfl, rfl, rfl⟩ (by decide) [] [] [] rfl ⟨rfl, rfl⟩ (by decide +kernel) xcs_n (by decide +kernel) ?_ (fun H3 r hT3 hf3 hFr3 hr3 hΨ3 => ?_)
      · show xΦad (xfv []) (zyEl zymc B H2)
        unfold xΦad
        omega
      · have hΨ3 : xΨftsS (xfv []) (zyEl zymc B H2) (zyEl zymc B H3) r := hΨ3
        obtain ⟨hΨ3, hS3⟩ := hΨ3
        have hΨ3 : xΨts (xfv []) (zyEl zymc B H2) (zyEl zymc B H3) r := hΨ3
        have hS3 : (¬ (r) = 0 → (xE (zyEl zymc B H3) 35 2 = xE (zyEl zymc B H2) 35 2 ∧ xE (zyEl zymc B H3) 35 3 = xE (zyEl zymc B H2) 35 3)) := hS3
        have d35_4 : xE (zyEl zymc B H3) 35 4 = xE (zyEl zymc B H2) 35 4 := xFr_E hf3 rfl
        have d36 : ∀ i, xE (zyEl zymc B H3) 36 i = xE (zyEl zymc B H2) 36 i := fun i => xFr_E hf3 rfl
        have d4 : ∀ i, xE (zyEl zymc B H3) 4 i = xE (zyEl zymc B H2) 4 i := fun i => xFr_E hf3 rfl
        have d5 : ∀ i, xE (zyEl zymc B H3) 5 i = xE (zyEl zymc B H2) 5 i := fun i => xFr_E hf3 rfl
        unfold xΨts at hΨ3
        rw [tt, tn] at hΨ3
        have hr01 := xts_r hΨ3
        refine ⟨⟨6, by decide⟩, [0, 0, 0], [0, 0, 0, r], rfl, ⟨by decide +kernel, ⟨rfl, by decide +kernel⟩, (xcs_c rfl (xcs_c rfl (xcs_c rfl xcs_n))), (xe_0 (xe_0 (xe_0 (xe_c (by omega) (by omega) rfl xe_n)))), xkq_n⟩, (by rw [if_pos rfl]; exact ⟨3, [], rfl, by decide, rfl, xst_n⟩), ?_, ?_⟩
        · show (∃ rr cc p2 : Int, pSz (xE (zyEl zymc B s.heap) 36) (xE (zyEl zymc B s.heap) 35 4) = pSem (xE (zyEl zymc B s.heap) 36) (xE (zyEl zymc B s.heap) 35 4) p2 (pClr rr cc) ∧ xTS (xE (zyEl zymc B s.heap) 36) (xE (zyEl zymc B s.heap) 35 4) p2 (zyEl zymc B H3) (r : Int) ∧ (1 ≤ rr ∧ rr ≤ 4 ∧ 1 ≤ cc ∧ cc ≤ 5) ∧ xAb0 (zyEl zymc B H3) (pClr rr cc) ∧ xGeo0 (zyEl zymc B H3) rr.toNat cc.toNat ∧ xJk0 (zyEl zymc B s.heap) (zyEl zymc B H3)) ∧ (¬ (r : Int) = 0 → (xE (zyEl zymc B H3) 35 2 = xE (zyEl zymc B s.heap) 35 2 ∧ xE (zyEl zymc B H3) 35 3 = xE (zyEl zymc B s.heap) 35 3))
          refine ⟨?_, ?_⟩
          · skip
            refine ⟨rr, cc, xE (zyEl zymc B H2) 35 6, by rw [i2, hEE2], hΨ3, i3, xAb0_35 i4 (by rw [← hEE2]; exact xFr_mono (by decide) hf3), xGeo0_35 i5 (by rw [← hEE2]; exact xFr_mono (by decide) hf3), fun i i0 i1 => ?_⟩
            have w := i6 i i0 i1
            rw [d4 i, e4 i, d5 i, e5 i]
            exact w
          · omega
        · show 14 < 15
          omega
    · cases hx
  · intro x0 E0 E E2 hrx hT0 hΦ i v hT hrv hInv hKc hFr0 x hx v2 hr2 hXs hag hfr hFr hT2
    rcases i with ⟨i, hi⟩
    have hi2 : i = 0 ∨ i = 1 ∨ i = 2 ∨ i = 3 ∨ i = 4 ∨ i = 5 ∨ i = 6 := by omega
    rcases hi2 with rfl | rfl | rfl | rfl | rfl | rfl | rfl
    · cases hx
    · cases hx
    · have hx : x ∈ [zxfrz0_cr0, zxfrz0_cr1, zxfrz0_cr2] := hx
      have hag : ∀ k, k < 6 → v2 k = v k := hag
      have hfr : xFr [(35, 2, 3)] _ _ := hfr
      rcases List.mem_cons.mp hx with ex | hx
      · subst ex
        obtain ⟨hF, hBd, hM⟩ := hXs
        have g3 : v2 3 = v 3 := hag 3 (by decide)
        have g4 : v2 4 = v 4 := hag 4 (by decide)
        have g5 : v2 5 = v 5 := hag 5 (by decide)
        have b0 : ((2147483648 : Nat) : Int) ≤ (v2 3) + 2147483648 ∧ (v2 3) + 2147483648 ≤ ((2147483648 : Nat) : Int) := xXb hBd 0 rfl
        have b1 : ((2147483650 : Nat) : Int) ≤ (v2 6) + 2147483648 ∧ (v2 6) + 2147483648 ≤ ((2147483653 : Nat) : Int) := xXb hBd 1 rfl
        have b2 : ((2147483648 : Nat) : Int) ≤ (v2 7) + 2147483648 ∧ (v2 7) + 2147483648 ≤ ((2147484548 : Nat) : Int) := xXb hBd 2 rfl
        have k0 : xE E 35 2 = v 4 := xKcf hKc 0 rfl rfl
        have k1 : xE E 35 3 = v 5 := xKcf hKc 1 rfl rfl
        have f0 : (v2 3) = 0 := xXf hF 0 rfl
        have f1 : (0 : Int) ≤ 7 ∧ xE E 35 7 = (v2 6) := xXf hF 1 rfl
        have f2 : ¬ (v2 6) = 1 := xXf hF 2 rfl
        have f3 : (0 : Int) ≤ 5 ∧ xE E 35 5 = (v2 7) := xXf hF 3 rfl
        have m0 : xE E2 35 2 = 2 := xXm hM 0 rfl
        have m1 : xE E2 35 3 = (v2 7) := xXm hM 1 rfl
        have e35_4 : xE E2 35 4 = xE E 35 4 := xFr_E hfr rfl
        have q35_4 : xE E 35 4 = xE E0 35 4 := xFr_E hFr0 rfl
        have e35_5 : xE E2 35 5 = xE E 35 5 := xFr_E hfr rfl
        have e35_6 : xE E2 35 6 = xE E 35 6 := xFr_E hfr rfl
        have e35_7 : xE E2 35 7 = xE E 35 7 := xFr_E hfr rfl
        have e35_8 : xE E2 35 8 = xE E 35 8 := xFr_E hfr rfl
        have e36 : ∀ i, xE E2 36 i = xE E 36 i := fun i => xFr_E hfr rfl
        have q36 : ∀ i, xE E 36 i = xE E0 36 i := fun i => xFr_E hFr0 rfl
        have e4 : ∀ i, xE E2 4 i = xE E 4 i := fun i => xFr_E hfr rfl
        have e5 : ∀ i, xE E2 5 i = xE E 5 i := fun i => xFr_E hfr rfl
        have hI : (xAD (xE E0 36) (xE E0 35 4) 0 E ∧ ((v 3) = if tW (xE E0 36) (xE E0 35 4) 0 [115, 105, 122, 101] = true then 1 else 0) ∧ (∀ k, xE E 4 k = xE E0 4 k) ∧ (∀ k, xE E 5 k = xE E0 5 k)) ∧ (xE E 35 2 = xE E0 35 2 ∧ xE E 35 3 = xE E0 35 3) := hInv
        obtain ⟨hI, hSm⟩ := hI
        show xΨfrz0S x0 E0 E2 0
        refine ⟨?_, ?_⟩
        · show xΨfrz0 x0 E0 E2 0
          have hP := hΦ.1
          have hP2 := hΦ.2
          obtain ⟨⟨i4, i5, i6, i7⟩, i3, j0, j1⟩ := hI
          have hb := tNx_b (T := xE E0 36) (n := xE E0 35 4) (p := 0) hP2
          have hw : tW (xE E0 36) (xE E0 35 4) 0 [115, 105, 122, 101] = false := by
            rw [Bool.eq_false_iff]
            intro h
            rw [if_pos h] at i3
            omega
          have hm : pMis (xE E0 36) (xE E0 35 4) 0 = 2 := by unfold pMis; rw [if_neg (by omega)]
          have e : pSz (xE E0 36) (xE E0 35 4) = Except.error (pMis (xE E0 36) (xE E0 35 4) 0, tFr (xE E0 36) (xE E0 35 4) 0) := by unfold pSz; rw [hw, if_neg (by decide)]
          refine ⟨?_, fun i i0 i1 => Or.inl ⟨by rw [e4 i, j0 i], by rw [e5 i, j1 i]⟩, fun p S h => by rw [show _ = _ from e] at h; cases h⟩
          rw [show _ = _ from e]
          exact xOut0_f (by omega) (by omega) (by omega)
        · show (¬ (0) = 0 → (xE E2 35 2 = xE E0 35 2 ∧ xE E2 35 3 = xE E0 35 3))
          omega
      · skip
        rcases List.mem_cons.mp hx with ex | hx
        · subst ex
          obtain ⟨hF, hBd, hM⟩ := hXs
          have g3 : v2 3 = v 3 := hag 3 (by decide)
          have g4 : v2 4 = v 4 := hag 4 (by decide)
          have g5 : v2 5 = v 5 := hag 5 (by decide)
          have b0 : ((2147483648 : Nat) : Int) ≤ (v2 3) + 2147483648 ∧ (v2 3) + 2147483648 ≤ ((2147483648 : Nat) : Int) := xXb hBd 0 rfl
          have b1 : ((2147483648 : Nat) : Int) ≤ (v2 6) + 2147483648 ∧ (v2 6) + 2147483648 ≤ ((2147483648 : Nat) : Int) := xXb hBd 1 rfl
          have b2 : ((2147483648 : Nat) : Int) ≤ (v2 7) + 2147483648 ∧ (v2 7) + 2147483648 ≤ ((2147484548 : Nat) : Int) := xXb hBd 2 rfl
          have k0 : xE E 35 2 = v 4 := xKcf hKc 0 rfl rfl
          have k1 : xE E 35 3 = v 5 := xKcf hKc 1 rfl rfl
          have f0 : (v2 3) = 0 := xXf hF 0 rfl
          have f1 : (0 : Int) ≤ 7 ∧ xE E 35 7 = (v2 6) := xXf hF 1 rfl
          have f2 : ¬ (v2 6) = 1 := xXf hF 2 rfl
          have f3 : (0 : Int) ≤ 5 ∧ xE E 35 5 = (v2 7) := xXf hF 3 rfl
          have m0 : xE E2 35 2 = 2 := xXm hM 0 rfl
          have m1 : xE E2 35 3 = (v2 7) := xXm hM 1 rfl
          have e35_4 : xE E2 35 4 = xE E 35 4 := xFr_E hfr rfl
          have q35_4 : xE E 35 4 = xE E0 35 4 := xFr_E hFr0 rfl
          have e35_5 : xE E2 35 5 = xE E 35 5 := xFr_E hfr rfl
          have e35_6 : xE E2 35 6 = xE E 35 6 := xFr_E hfr rfl
          have e35_7 : xE E2 35 7 = xE E 35 7 := xFr_E hfr rfl
          have e35_8 : xE E2 35 8 = xE E 35 8 := xFr_E hfr rfl
          have e36 : ∀ i, xE E2 36 i = xE E 36 i := fun i => xFr_E hfr rfl
          have q36 : ∀ i, xE E 36 i = xE E0 36 i := fun i => xFr_E hFr0 rfl
          have e4 : ∀ i, xE E2 4 i = xE E 4 i := fun i => xFr_E hfr rfl
          have e5 : ∀ i, xE E2 5 i = xE E 5 i := fun i => xFr_E hfr rfl
          have hI : (xAD (xE E0 36) (xE E0 35 4) 0 E ∧ ((v 3) = if tW (xE E0 36) (xE E0 35 4) 0 [115, 105, 122, 101] = true then 1 else 0) ∧ (∀ k, xE E 4 k = xE E0 4 k) ∧ (∀ k, xE E 5 k = xE E0 5 k)) ∧ (xE E 35 2 = xE E0 35 2 ∧ xE E 35 3 = xE E0 35 3) := hInv
          obtain ⟨hI, hSm⟩ := hI
          show xΨfrz0S x0 E0 E2 0
          refine ⟨?_, ?_⟩
          · show xΨfrz0 x0 E0 E2 0
            have hP := hΦ.1
            have hP2 := hΦ.2
            obtain ⟨⟨i4, i5, i6, i7⟩, i3, j0, j1⟩ := hI
            have hb := tNx_b (T := xE E0 36) (n := xE E0 35 4) (p := 0) hP2
            have hw : tW (xE E0 36) (xE E0 35 4) 0 [115, 105, 122, 101] = false := by
              rw [Bool.eq_false_iff]
              intro h
              rw [if_pos h] at i3
              omega
            have hm : pMis (xE E0 36) (xE E0 35 4) 0 = 2 := by unfold pMis; rw [if_neg (by omega)]
            have e : pSz (xE E0 36) (xE E0 35 4) = Except.error (pMis (xE E0 36) (xE E0 35 4) 0, tFr (xE E0 36) (xE E0 35 4) 0) := by unfold pSz; rw [hw, if_neg (by decide)]
            refine ⟨?_, fun i i0 i1 => Or.inl ⟨by rw [e4 i, j0 i], by rw [e5 i, j1 i]⟩, fun p S h => by rw [show _ = _ from e] at h; cases h⟩
            rw [show _ = _ from e]
            exact xOut0_f (by omega) (by omega) (by omega)
          · show (¬ (0) = 0 → (xE E2 35 2 = xE E0 35 2 ∧ xE E2 35 3 = xE E0 35 3))
            omega
        · skip
          have ex := List.mem_singleton.mp hx
          subst ex
          obtain ⟨hF, hBd, hM⟩ := hXs
          have g3 : v2 3 = v 3 := hag 3 (by decide)
          have g4 : v2 4 = v 4 := hag 4 (by decide)
          have g5 : v2 5 = v 5 := hag 5 (by decide)
          have b0 : ((2147483648 : Nat) : Int) ≤ (v2 3) + 2147483648 ∧ (v2 3) + 2147483648 ≤ ((2147483648 : Nat) : Int) := xXb hBd 0 rfl
          have b1 : ((2147483649 : Nat) : Int) ≤ (v2 6) + 2147483648 ∧ (v2 6) + 2147483648 ≤ ((2147483649 : Nat) : Int) := xXb hBd 1 rfl
          have b2 : ((2147483648 : Nat) : Int) ≤ (v2 7) + 2147483648 ∧ (v2 7) + 2147483648 ≤ ((2147484548 : Nat) : Int) := xXb hBd 2 rfl
          have k0 : xE E 35 2 = v 4 := xKcf hKc 0 rfl rfl
          have k1 : xE E 35 3 = v 5 := xKcf hKc 1 rfl rfl
          have f0 : (v2 3) = 0 := xXf hF 0 rfl
          have f1 : (0 : Int) ≤ 7 ∧ xE E 35 7 = (v2 6) := xXf hF 1 rfl
          have f2 : (v2 6) = 1 := xXf hF 2 rfl
          have f3 : (0 : Int) ≤ 5 ∧ xE E 35 5 = (v2 7) := xXf hF 3 rfl
          have m0 : xE E2 35 2 = 1 := xXm hM 0 rfl
          have m1 : xE E2 35 3 = (v2 7) := xXm hM 1 rfl
          have e35_4 : xE E2 35 4 = xE E 35 4 := xFr_E hfr rfl
          have q35_4 : xE E 35 4 = xE E0 35 4 := xFr_E hFr0 rfl
          have e35_5 : xE E2 35 5 = xE E 35 5 := xFr_E hfr rfl
          have e35_6 : xE E2 35 6 = xE E 35 6 := xFr_E hfr rfl
          have e35_7 : xE E2 35 7 = xE E 35 7 := xFr_E hfr rfl
          have e35_8 : xE E2 35 8 = xE E 35 8 := xFr_E hfr rfl
          have e36 : ∀ i, xE E2 36 i = xE E 36 i := fun i => xFr_E hfr rfl
          have q36 : ∀ i, xE E 36 i = xE E0 36 i := fun i => xFr_E hFr0 rfl
          have e4 : ∀ i, xE E2 4 i = xE E 4 i := fun i => xFr_E hfr rfl
          have e5 : ∀ i, xE E2 5 i = xE E 5 i := fun i => xFr_E hfr rfl
          have hI : (xAD (xE E0 36) (xE E0 35 4) 0 E ∧ ((v 3) = if tW (xE E0 36) (xE E0 35 4) 0 [115, 105, 122, 101] = true then 1 else 0) ∧ (∀ k, xE E 4 k = xE E0 4 k) ∧ (∀ k, xE E 5 k = xE E0 5 k)) ∧ (xE E 35 2 = xE E0 35 2 ∧ xE E 35 3 = xE E0 35 3) := hInv
          obtain ⟨hI, hSm⟩ := hI
          show xΨfrz0S x0 E0 E2 0
          refine ⟨?_, ?_⟩
          · show xΨfrz0 x0 E0 E2 0
            have hP := hΦ.1
            have hP2 := hΦ.2
            obtain ⟨⟨i4, i5, i6, i7⟩, i3, j0, j1⟩ := hI
            have hb := tNx_b (T := xE E0 36) (n := xE E0 35 4) (p := 0) hP2
            have hw : tW (xE E0 36) (xE E0 35 4) 0 [115, 105, 122, 101] = false := by
              rw [Bool.eq_false_iff]
              intro h
              rw [if_pos h] at i3
              omega
            have hm : pMis (xE E0 36) (xE E0 35 4) 0 = 1 := by unfold pMis; rw [if_pos (by omega)]
            have e : pSz (xE E0 36) (xE E0 35 4) = Except.error (pMis (xE E0 36) (xE E0 35 4) 0, tFr (xE E0 36) (xE E0 35 4) 0) := by unfold pSz; rw [hw, if_neg (by decide)]
            refine ⟨?_, fun i i0 i1 => Or.inl ⟨by rw [e4 i, j0 i], by rw [e5 i, j1 i]⟩, fun p S h => by rw [show _ = _ from e] at h; cases h⟩
            rw [show _ = _ from e]
            exact xOut0_f (by omega) (by omega) (by omega)
          · show (¬ (0) = 0 → (xE E2 35 2 = xE E0 35 2 ∧ xE E2 35 3 = xE E0 35 3))
            omega
    · have hx : x ∈ [zxfrz0_dr0] := hx
      have hag : ∀ k, k < 4 → v2 k = v k := hag
      have hfr : xFr [] _ _ := hfr
      have ex := List.mem_singleton.mp hx
      subst ex
      obtain ⟨hF, hBd, hM⟩ := hXs
      have g3 : v2 3 = v 3 := hag 3 (by decide)
      have b0 : ((2147483648 : Nat) : Int) ≤ (v2 3) + 2147483648 ∧ (v2 3) + 2147483648 ≤ ((2147483648 : Nat) : Int) := xXb hBd 0 rfl
      have f0 : (v2 3) = 0 := xXf hF 0 rfl
      have e35_4 : xE E2 35 4 = xE E 35 4 := xFr_E hfr rfl
      have q35_4 : xE E 35 4 = xE E0 35 4 := xFr_E hFr0 rfl
      have e35_5 : xE E2 35 5 = xE E 35 5 := xFr_E hfr rfl
      have e35_6 : xE E2 35 6 = xE E 35 6 := xFr_E hfr rfl
      have e35_7 : xE E2 35 7 = xE E 35 7 := xFr_E hfr rfl
      have e35_8 : xE E2 35 8 = xE E 35 8 := xFr_E hfr rfl
      have e35_2 : xE E2 35 2 = xE E 35 2 := xFr_E hfr rfl
      have e35_3 : xE E2 35 3 = xE E 35 3 := xFr_E hfr rfl
      have e36 : ∀ i, xE E2 36 i = xE E 36 i := fun i => xFr_E hfr rfl
      have q36 : ∀ i, xE E 36 i = xE E0 36 i := fun i => xFr_E hFr0 rfl
      have e4 : ∀ i, xE E2 4 i = xE E 4 i := fun i => xFr_E hfr rfl
      have e5 : ∀ i, xE E2 5 i = xE E 5 i := fun i => xFr_E hfr rfl
      have hI : (tW (xE E0 36) (xE E0 35 4) 0 [115, 105, 122, 101] = true ∧ xTN (xE E0 36) (xE E0 35 4) (tNx (xE E0 36) (xE E0 35 4) 0) 1 4 E (v 3) ∧ (∀ k, xE E 4 k = xE E0 4 k) ∧ (∀ k, xE E 5 k = xE E0 5 k)) ∧ (¬ (v 3) = 0 → (xE E 35 2 = xE E0 35 2 ∧ xE E 35 3 = xE E0 35 3)) := hInv
      obtain ⟨hI, hSm⟩ := hI
      show xΨfrz0S x0 E0 E2 0
      refine ⟨?_, ?_⟩
      · show xΨfrz0 x0 E0 E2 0
        have hP := hΦ.1
        have hP2 := hΦ.2
        obtain ⟨hw, i1, j0, j1⟩ := hI
        rw [show (v 3) = v2 3 by omega] at i1
        have hb := tNx_b (T := xE E0 36) (n := xE E0 35 4) (p := 0) hP2
        have hz : (v2 3) = 0 := by omega
        have e : pSz (xE E0 36) (xE E0 35 4) = Except.error (xE E 35 2, xE E 35 3) := by unfold pSz; rw [hw, if_pos rfl]; exact xtn_0 i1 hz _
        refine ⟨?_, fun i i0 i1 => Or.inl ⟨by rw [e4 i, j0 i], by rw [e5 i, j1 i]⟩, fun p S h => by rw [show _ = _ from e] at h; cases h⟩
        rw [show _ = _ from e]
        exact xOut0_f (by omega) (by omega) (by omega)
      · show (¬ (0) = 0 → (xE E2 35 2 = xE E0 35 2 ∧ xE E2 35 3 = xE E0 35 3))
        omega
    · have hx : x ∈ [zxfrz0_er0] := hx
      have hag : ∀ k, k < 4 → v2 k = v k := hag
      have hfr : xFr [] _ _ := hfr
      have ex := List.mem_singleton.mp hx
      subst ex
      obtain ⟨hF, hBd, hM⟩ := hXs
      have g2 : v2 2 = v 2 := hag 2 (by decide)
      have g3 : v2 3 = v 3 := hag 3 (by decide)
      have b0 : ((2147483648 : Nat) : Int) ≤ (v2 3) + 2147483648 ∧ (v2 3) + 2147483648 ≤ ((2147483648 : Nat) : Int) := xXb hBd 0 rfl
      have f0 : (v2 3) = 0 := xXf hF 0 rfl
      have e35_4 : xE E2 35 4 = xE E 35 4 := xFr_E hfr rfl
      have q35_4 : xE E 35 4 = xE E0 35 4 := xFr_E hFr0 rfl
      have e35_5 : xE E2 35 5 = xE E 35 5 := xFr_E hfr rfl
      have e35_6 : xE E2 35 6 = xE E 35 6 := xFr_E hfr rfl
      have e35_7 : xE E2 35 7 = xE E 35 7 := xFr_E hfr rfl
      have e35_8 : xE E2 35 8 = xE E 35 8 := xFr_E hfr rfl
      have e35_2 : xE E2 35 2 = xE E 35 2 := xFr_E hfr rfl
      have e35_3 : xE E2 35 3 = xE E 35 3 := xFr_E hfr rfl
      have e36 : ∀ i, xE E2 36 i = xE E 36 i := fun i => xFr_E hfr rfl
      have q36 : ∀ i, xE E 36 i = xE E0 36 i := fun i => xFr_E hFr0 rfl
      have e4 : ∀ i, xE E2 4 i = xE E 4 i := fun i => xFr_E hfr rfl
      have e5 : ∀ i, xE E2 5 i = xE E 5 i := fun i => xFr_E hfr rfl
      have hI : (∃ p1, p1 ≤ (xE E0 35 4) ∧ (1 ≤ (v 2) ∧ (v 2) ≤ 4) ∧ pSz (xE E0 36) (xE E0 35 4) = pNum (xE E0 36) (xE E0 35 4) p1 1 5 (fun cc p2 => pSem (xE E0 36) (xE E0 35 4) p2 (pClr (v 2) cc)) ∧ xTN (xE E0 36) (xE E0 35 4) p1 1 5 E (v 3) ∧ (∀ k, xE E 4 k = xE E0 4 k) ∧ (∀ k, xE E 5 k = xE E0 5 k)) ∧ (¬ (v 3) = 0 → (xE E 35 2 = xE E0 35 2 ∧ xE E 35 3 = xE E0 35 3)) := hInv
      obtain ⟨hI, hSm⟩ := hI
      show xΨfrz0S x0 E0 E2 0
      refine ⟨?_, ?_⟩
      · show xΨfrz0 x0 E0 E2 0
        have hP := hΦ.1
        have hP2 := hΦ.2
        obtain ⟨p1, i0, i1, i2, i3, j0, j1⟩ := hI
        rw [show (v 3) = v2 3 by omega] at i3
        have hb := tNx_b (T := xE E0 36) (n := xE E0 35 4) (p := p1) i0
        have hz : (v2 3) = 0 := by omega
        have e : pSz (xE E0 36) (xE E0 35 4) = Except.error (xE E 35 2, xE E 35 3) := i2.trans (xtn_0 i3 hz _)
        refine ⟨?_, fun i i0 i1 => Or.inl ⟨by rw [e4 i, j0 i], by rw [e5 i, j1 i]⟩, fun p S h => by rw [show _ = _ from e] at h; cases h⟩
        rw [show _ = _ from e]
        exact xOut0_f (by omega) (by omega) (by omega)
      · show (¬ (0) = 0 → (xE E2 35 2 = xE E0 35 2 ∧ xE E2 35 3 = xE E0 35 3))
        omega
    · cases hx
    · have hx : x ∈ [zxfrz0_gr0] := hx
      have hag : ∀ k, k < 4 → v2 k = v k := hag
      have hfr : xFr [] _ _ := hfr
      have ex := List.mem_singleton.mp hx
      subst ex
      obtain ⟨hF, hBd, hM⟩ := hXs
      have g3 : v2 3 = v 3 := hag 3 (by decide)
      have b0 : ((2147483648 : Nat) : Int) ≤ (v2 3) + 2147483648 ∧ (v2 3) + 2147483648 ≤ ((2147483649 : Nat) : Int) := xXb hBd 0 rfl
      have e35_4 : xE E2 35 4 = xE E 35 4 := xFr_E hfr rfl
      have q35_4 : xE E 35 4 = xE E0 35 4 := xFr_E hFr0 rfl
      have e35_5 : xE E2 35 5 = xE E 35 5 := xFr_E hfr rfl
      have e35_6 : xE E2 35 6 = xE E 35 6 := xFr_E hfr rfl
      have e35_7 : xE E2 35 7 = xE E 35 7 := xFr_E hfr rfl
      have e35_8 : xE E2 35 8 = xE E 35 8 := xFr_E hfr rfl
      have e35_2 : xE E2 35 2 = xE E 35 2 := xFr_E hfr rfl
      have e35_3 : xE E2 35 3 = xE E 35 3 := xFr_E hfr rfl
      have e36 : ∀ i, xE E2 36 i = xE E 36 i := fun i => xFr_E hfr rfl
      have q36 : ∀ i, xE E 36 i = xE E0 36 i := fun i => xFr_E hFr0 rfl
      have e4 : ∀ i, xE E2 4 i = xE E 4 i := fun i => xFr_E hfr rfl
      have e5 : ∀ i, xE E2 5 i = xE E 5 i := fun i => xFr_E hfr rfl
      have hI : (∃ rr cc p2 : Int, pSz (xE E0 36) (xE E0 35 4) = pSem (xE E0 36) (xE E0 35 4) p2 (pClr rr cc) ∧ xTS (xE E0 36) (xE E0 35 4) p2 E (v 3) ∧ (1 ≤ rr ∧ rr ≤ 4 ∧ 1 ≤ cc ∧ cc ≤ 5) ∧ xAb0 E (pClr rr cc) ∧ xGeo0 E rr.toNat cc.toNat ∧ xJk0 E0 E) ∧ (¬ (v 3) = 0 → (xE E 35 2 = xE E0 35 2 ∧ xE E 35 3 = xE E0 35 3)) := hInv
      obtain ⟨hI, hSm⟩ := hI
      show xΨfrz0S x0 E0 E2 (v2 3)
      refine ⟨?_, ?_⟩
      · show xΨfrz0 x0 E0 E2 (v2 3)
        obtain ⟨rr, cc, p2, i1, i2, i3, i4, i5, i6⟩ := hI
        have hE2 := xFr_n hfr
        subst hE2
        rw [show (v 3) = v2 3 by omega] at i2
        by_cases hz : v2 3 = 0
        · have e := i1.trans (xts_0 i2 hz _)
          refine ⟨?_, i6, fun p S h => by rw [show _ = _ from e] at h; cases h⟩
          rw [show _ = _ from e]
          exact xOut0_f hz rfl rfl
        · obtain ⟨c1, c2, c3⟩ := xts_1 i2 hz (pClr rr cc)
          have e := i1.trans c3
          refine ⟨?_, i6, fun p S h => ?_⟩
          · rw [show _ = _ from e]
            exact xOut0_k c1 rfl i4
          · rw [show _ = _ from e] at h
            cases h
            exact i5
      · show (¬ ((v2 3)) = 0 → (xE E2 35 2 = xE E0 35 2 ∧ xE E2 35 3 = xE E0 35 3))
        omega
end
section
/-! THE CLASS reads: size, a line (printed by m11.py) -/
noncomputable def zxfrl0_zx0 : zyXp := (3, [283, 11], [800011, 283], [], [], [])
noncomputable def zpfrl0_z : zyPh := (0, [283, 11], [(0, 4294967295), (0, 4294967295)], [], [])
noncomputable def zxfrl0_w0x0 : zyXp := (11, [283, 11], [11, 283], [(23, 0, 68719476737, 0)], [(68719476737, 2147483649, 2147483649)], [])
noncomputable def zxfrl0_w0x1 : zyXp := (18, [283, 11], [800019, 283], [(22, 0, 68719476737, 0)], [(68719476737, 2147483648, 2147483648)], [])
noncomputable def zpfrl0_w0 : zyPh := (6, [283, 11], [(0, 4294967295), (0, 4294967295), (2147483648, 2147483649)], [], [68719476737])
noncomputable def zxfrl0_r0r0 : zyXp := (0, [], [68719476737], [], [(68719476737, 2147483648, 2147483649)], [])
noncomputable def zpfrl0_r0 : zyPh := (14, [283, 11], [(0, 4294967295), (0, 4294967295), (2147483648, 2147483649)], [], [68719476737])
noncomputable def zxfrl0_w1x0 : zyXp := (26, [283, 11], [11, 283], [(23, 0, 68719476737, 0)], [(68719476737, 2147483649, 2147483649)], [])
noncomputable def zxfrl0_w1x1 : zyXp := (33, [283, 11], [800027, 283], [(22, 0, 68719476737, 0)], [(68719476737, 2147483648, 2147483648)], [])
noncomputable def zpfrl0_w1 : zyPh := (21, [283, 11], [(0, 4294967295), (0, 4294967295), (2147483648, 2147483649)], [], [68719476737])
noncomputable def zxfrl0_r1r0 : zyXp := (0, [], [68719476737], [], [(68719476737, 2147483648, 2147483649)], [])
noncomputable def zpfrl0_r1 : zyPh := (29, [283, 11], [(0, 4294967295), (0, 4294967295), (2147483648, 2147483649)], [], [68719476737])
noncomputable def zxfrl0_w2x0 : zyXp := (41, [283, 11], [11, 283], [(23, 0, 68719476737, 0)], [(68719476737, 2147483649, 2147483649)], [])
noncomputable def zxfrl0_w2x1 : zyXp := (48, [283, 11], [800051, 283], [(22, 0, 68719476737, 0)], [(68719476737, 2147483648, 2147483648)], [])
noncomputable def zpfrl0_w2 : zyPh := (36, [283, 11], [(0, 4294967295), (0, 4294967295), (2147483648, 2147483649)], [], [68719476737])
noncomputable def zxfrl0_r2r0 : zyXp := (0, [], [68719476737], [], [(68719476737, 2147483648, 2147483649)], [])
noncomputable def zpfrl0_r2 : zyPh := (44, [283, 11], [(0, 4294967295), (0, 4294967295), (2147483648, 2147483649)], [], [68719476737])
noncomputable def zxfrl0_w3x0 : zyXp := (56, [283, 11], [11, 283], [(23, 0, 68719476737, 0)], [(68719476737, 2147483649, 2147483649)], [])
noncomputable def zxfrl0_w3x1 : zyXp := (63, [283, 11], [800059, 283], [(22, 0, 68719476737, 0)], [(68719476737, 2147483648, 2147483648)], [])
noncomputable def zpfrl0_w3 : zyPh := (51, [283, 11], [(0, 4294967295), (0, 4294967295), (2147483648, 2147483649)], [], [68719476737])
noncomputable def zxfrl0_r3r0 : zyXp := (0, [], [68719476737], [], [(68719476737, 2147483648, 2147483649)], [])
noncomputable def zpfrl0_r3 : zyPh := (59, [283, 11], [(0, 4294967295), (0, 4294967295), (2147483648, 2147483649)], [], [68719476737])
noncomputable def zxfrl0_w4x0 : zyXp := (71, [283, 11], [11, 283], [(23, 0, 68719476737, 0)], [(68719476737, 2147483649, 2147483649)], [])
noncomputable def zxfrl0_w4x1 : zyXp := (78, [283, 11], [800067, 283], [(22, 0, 68719476737, 0)], [(68719476737, 2147483648, 2147483648)], [])
noncomputable def zpfrl0_w4 : zyPh := (66, [283, 11], [(0, 4294967295), (0, 4294967295), (2147483648, 2147483649)], [], [68719476737])
noncomputable def zxfrl0_r4r0 : zyXp := (0, [], [68719476737], [], [(68719476737, 2147483648, 2147483649)], [])
noncomputable def zpfrl0_r4 : zyPh := (74, [283, 11], [(0, 4294967295), (0, 4294967295), (2147483648, 2147483649)], [], [68719476737])
noncomputable def zxfrl0_w5x0 : zyXp := (86, [283, 11], [11, 283], [(23, 0, 68719476737, 0)], [(68719476737, 2147483649, 2147483649), (103079215105, 2147483647, 2147483654), (137438953473, 2147483647, 2147484548)], [(573442, 103079215105), (573443, 137438953473)])
noncomputable def zxfrl0_w5r0 : zyXp := (0, [], [0], [(22, 0, 68719476737, 0), (24, 171798691841, 35, 56), (23, 0, 171798691841, 8), (24, 206158430209, 35, 40)], [(68719476737, 2147483648, 2147483648), (171798691841, 2147483650, 2147483653), (206158430209, 2147483648, 2147484548)], [(573442, 16), (573443, 206158430209)])
noncomputable def zxfrl0_w5r1 : zyXp := (0, [], [0], [(22, 0, 68719476737, 0), (24, 171798691841, 35, 56), (23, 0, 171798691841, 8), (24, 206158430209, 35, 40)], [(68719476737, 2147483648, 2147483648), (171798691841, 2147483648, 2147483648), (206158430209, 2147483648, 2147484548)], [(573442, 16), (573443, 206158430209)])
noncomputable def zxfrl0_w5r2 : zyXp := (0, [], [0], [(22, 0, 68719476737, 0), (24, 171798691841, 35, 56), (22, 0, 171798691841, 8), (24, 206158430209, 35, 40)], [(68719476737, 2147483648, 2147483648), (171798691841, 2147483649, 2147483649), (206158430209, 2147483648, 2147484548)], [(573442, 8), (573443, 206158430209)])
noncomputable def zpfrl0_w5 : zyPh := (81, [283, 11], [(0, 4294967295), (0, 4294967295), (2147483648, 2147483649), (2147483647, 2147483654), (2147483647, 2147484548)], [(573442, 103079215105), (573443, 137438953473)], [68719476737])
noncomputable def zxfrl0_r5r0 : zyXp := (0, [], [68719476737], [], [(68719476737, 2147483648, 2147483649)], [])
noncomputable def zpfrl0_r5 : zyPh := (89, [283, 11], [(0, 4294967295), (0, 4294967295), (2147483648, 2147483649)], [], [68719476737])
noncomputable def zpfrl0 (i : Nat) : zyPh := zif (Nat.beq i 0) (zpfrl0_z) (zif (Nat.beq i 1) (zpfrl0_w0) (zif (Nat.beq i 2) (zpfrl0_r0) (zif (Nat.beq i 3) (zpfrl0_w1) (zif (Nat.beq i 4) (zpfrl0_r1) (zif (Nat.beq i 5) (zpfrl0_w2) (zif (Nat.beq i 6) (zpfrl0_r2) (zif (Nat.beq i 7) (zpfrl0_w3) (zif (Nat.beq i 8) (zpfrl0_r3) (zif (Nat.beq i 9) (zpfrl0_w4) (zif (Nat.beq i 10) (zpfrl0_r4) (zif (Nat.beq i 11) (zpfrl0_w5) (zpfrl0_r5))))))))))))
noncomputable def zXfrl0 (i : Nat) : List zyXp := zif (Nat.beq i 0) ([zxfrl0_zx0]) (zif (Nat.beq i 1) ([zxfrl0_w0x0, zxfrl0_w0x1]) (zif (Nat.beq i 2) ([]) (zif (Nat.beq i 3) ([zxfrl0_w1x0, zxfrl0_w1x1]) (zif (Nat.beq i 4) ([]) (zif (Nat.beq i 5) ([zxfrl0_w2x0, zxfrl0_w2x1]) (zif (Nat.beq i 6) ([]) (zif (Nat.beq i 7) ([zxfrl0_w3x0, zxfrl0_w3x1]) (zif (Nat.beq i 8) ([]) (zif (Nat.beq i 9) ([zxfrl0_w4x0, zxfrl0_w4x1]) (zif (Nat.beq i 10) ([]) (zif (Nat.beq i 11) ([zxfrl0_w5x0]) ([]))))))))))))
noncomputable def zRfrl0 (i : Nat) : List zyXp := zif (Nat.beq i 0) ([]) (zif (Nat.beq i 1) ([]) (zif (Nat.beq i 2) ([zxfrl0_r0r0]) (zif (Nat.beq i 3) ([]) (zif (Nat.beq i 4) ([zxfrl0_r1r0]) (zif (Nat.beq i 5) ([]) (zif (Nat.beq i 6) ([zxfrl0_r2r0]) (zif (Nat.beq i 7) ([]) (zif (Nat.beq i 8) ([zxfrl0_r3r0]) (zif (Nat.beq i 9) ([]) (zif (Nat.beq i 10) ([zxfrl0_r4r0]) (zif (Nat.beq i 11) ([zxfrl0_w5r0, zxfrl0_w5r1, zxfrl0_w5r2]) ([zxfrl0_r5r0]))))))))))))
noncomputable def zFfrl0 (i : Nat) : zyR := zif (Nat.beq i 0) ([]) (zif (Nat.beq i 1) ([]) (zif (Nat.beq i 2) ([]) (zif (Nat.beq i 3) ([]) (zif (Nat.beq i 4) ([]) (zif (Nat.beq i 5) ([]) (zif (Nat.beq i 6) ([]) (zif (Nat.beq i 7) ([]) (zif (Nat.beq i 8) ([]) (zif (Nat.beq i 9) ([]) (zif (Nat.beq i 10) ([]) (zif (Nat.beq i 11) ([(35, 2, 3)]) ([]))))))))))))
noncomputable def zSfrl0 (i : Nat) : Nat := zif (Nat.beq i 0) (0) (zif (Nat.beq i 1) (0) (zif (Nat.beq i 2) (0) (zif (Nat.beq i 3) (0) (zif (Nat.beq i 4) (0) (zif (Nat.beq i 5) (0) (zif (Nat.beq i 6) (0) (zif (Nat.beq i 7) (0) (zif (Nat.beq i 8) (0) (zif (Nat.beq i 9) (0) (zif (Nat.beq i 10) (0) (zif (Nat.beq i 11) (0) (0))))))))))))
theorem xOut0_r {R : pR} {E2 : zyEm} {r : Int} (h : xOut0 R E2 r) : r = 0 ∨ r = 1 := by
  unfold xOut0 at h
  split at h
  · exact Or.inr h.1
  · exact Or.inl h.1
def xΦrl0 (_ : Nat → Int) (E : zyEm) : Prop := xE E 35 6 ≤ xE E 35 4 ∧ (∃ S, xAb0 E S) ∧ ∃ p, p ≤ xE E 35 4 ∧ xAD (xE E 36) (xE E 35 4) p E
def xΨfrl0 (_ : Nat → Int) (E E2 : zyEm) (r : Int) : Prop := ∀ p S, p ≤ xE E 35 4 → xAD (xE E 36) (xE E 35 4) p E → xAb0 E S → xOut0 (pLine (xE E 36) (xE E 35 4) p S) E2 r
def xΨfrl0S (x : Nat → Int) (E E2 : zyEm) (r : Int) : Prop := xΨfrl0 x E E2 r ∧ (¬ r = 0 → (xE E2 35 2 = xE E 35 2 ∧ xE E2 35 3 = xE E 35 3))
noncomputable def fpfrl0 : zyR := [(35, 2, 3), (35, 5, 8), (1, 5, 5), (1, 8, 8), (16, 1, 1), (17, 0, 59), (10, 0, 30), (11, 0, 30), (12, 0, 30), (13, 0, 30), (14, 0, 7), (15, 0, 7)]
theorem zyfrl0_run : zyrS zymc zxi61 (61, 0, 0, 2, 0) 9 zpfrl0 (fun _ _ => []) zFfrl0 zSfrl0 zXfrl0 zRfrl0 13 = true := by decide +kernel
theorem zyfrl0_ck : zyAll (fun i => xsubR (zFfrl0 i) fpfrl0 && ((zXfrl0 i).all xckX && (zRfrl0 i).all (fun x => xckX x && xrtB true x))) 13 = true := by decide +kernel
def xIfrl0 (i : Nat) (x0 : Nat → Int) (E0 : zyEm) (v : Nat → Int) (E : zyEm) : Prop := if i = 0 then ((E = E0) ∧ (xE E 35 2 = xE E0 35 2 ∧ xE E 35 3 = xE E0 35 3)) else if i = 1 then ((E = E0 ∧ (v 2) = if sW (xE E0 36) (xE E0 35 7) (xE E0 35 5) (xE E0 35 6) [115, 119, 105, 116, 99, 104] = true then 1 else 0) ∧ (xE E 35 2 = xE E0 35 2 ∧ xE E 35 3 = xE E0 35 3)) else if i = 2 then ((E0 = E0 ∧ ∀ p S, p ≤ xE E0 35 4 → xAD (xE E0 36) (xE E0 35 4) p E0 → xAb0 E0 S → xOut0 (pLine (xE E0 36) (xE E0 35 4) p S) E (v 2)) ∧ (¬ (v 2) = 0 → (xE E 35 2 = xE E0 35 2 ∧ xE E 35 3 = xE E0 35 3))) else if i = 3 then ((E = E0 ∧ sW (xE E0 36) (xE E0 35 7) (xE E0 35 5) (xE E0 35 6) [115, 119, 105, 116, 99, 104] = false ∧ (v 2) = if sW (xE E0 36) (xE E0 35 7) (xE E0 35 5) (xE E0 35 6) [98, 111, 98, 98, 105, 110] = true then 1 else 0) ∧ (xE E 35 2 = xE E0 35 2 ∧ xE E 35 3 = xE E0 35 3)) else if i = 4 then ((E0 = E0 ∧ ∀ p S, p ≤ xE E0 35 4 → xAD (xE E0 36) (xE E0 35 4) p E0 → xAb0 E0 S → xOut0 (pLine (xE E0 36) (xE E0 35 4) p S) E (v 2)) ∧ (¬ (v 2) = 0 → (xE E 35 2 = xE E0 35 2 ∧ xE E 35 3 = xE E0 35 3))) else if i = 5 then ((E = E0 ∧ sW (xE E0 36) (xE E0 35 7) (xE E0 35 5) (xE E0 35 6) [115, 119, 105, 116, 99, 104] = false ∧ sW (xE E0 36) (xE E0 35 7) (xE E0 35 5) (xE E0 35 6) [98, 111, 98, 98, 105, 110] = false ∧ (v 2) = if sW (xE E0 36) (xE E0 35 7) (xE E0 35 5) (xE E0 35 6) [115, 116, 117, 99, 107] = true then 1 else 0) ∧ (xE E 35 2 = xE E0 35 2 ∧ xE E 35 3 = xE E0 35 3)) else if i = 6 then ((E0 = E0 ∧ ∀ p S, p ≤ xE E0 35 4 → xAD (xE E0 36) (xE E0 35 4) p E0 → xAb0 E0 S → xOut0 (pLine (xE E0 36) (xE E0 35 4) p S) E (v 2)) ∧ (¬ (v 2) = 0 → (xE E 35 2 = xE E0 35 2 ∧ xE E 35 3 = xE E0 35 3))) else if i = 7 then ((E = E0 ∧ sW (xE E0 36) (xE E0 35 7) (xE E0 35 5) (xE E0 35 6) [115, 119, 105, 116, 99, 104] = false ∧ sW (xE E0 36) (xE E0 35 7) (xE E0 35 5) (xE E0 35 6) [98, 111, 98, 98, 105, 110] = false ∧ sW (xE E0 36) (xE E0 35 7) (xE E0 35 5) (xE E0 35 6) [115, 116, 117, 99, 107] = false ∧ (v 2) = if sW (xE E0 36) (xE E0 35 7) (xE E0 35 5) (xE E0 35 6) [102, 114, 101, 101] = true then 1 else 0) ∧ (xE E 35 2 = xE E0 35 2 ∧ xE E 35 3 = xE E0 35 3)) else if i = 8 then ((E0 = E0 ∧ ∀ p S, p ≤ xE E0 35 4 → xAD (xE E0 36) (xE E0 35 4) p E0 → xAb0 E0 S → xOut0 (pLine (xE E0 36) (xE E0 35 4) p S) E (v 2)) ∧ (¬ (v 2) = 0 → (xE E 35 2 = xE E0 35 2 ∧ xE E 35 3 = xE E0 35 3))) else if i = 9 then ((E = E0 ∧ sW (xE E0 36) (xE E0 35 7) (xE E0 35 5) (xE E0 35 6) [115, 119, 105, 116, 99, 104] = false ∧ sW (xE E0 36) (xE E0 35 7) (xE E0 35 5) (xE E0 35 6) [98, 111, 98, 98, 105, 110] = false ∧ sW (xE E0 36) (xE E0 35 7) (xE E0 35 5) (xE E0 35 6) [115, 116, 117, 99, 107] = false ∧ sW (xE E0 36) (xE E0 35 7) (xE E0 35 5) (xE E0 35 6) [102, 114, 101, 101] = false ∧ (v 2) = if sW (xE E0 36) (xE E0 35 7) (xE E0 35 5) (xE E0 35 6) [112, 108, 97, 99, 101] = true then 1 else 0) ∧ (xE E 35 2 = xE E0 35 2 ∧ xE E 35 3 = xE E0 35 3)) else if i = 10 then ((E0 = E0 ∧ ∀ p S, p ≤ xE E0 35 4 → xAD (xE E0 36) (xE E0 35 4) p E0 → xAb0 E0 S → xOut0 (pLine (xE E0 36) (xE E0 35 4) p S) E (v 2)) ∧ (¬ (v 2) = 0 → (xE E 35 2 = xE E0 35 2 ∧ xE E 35 3 = xE E0 35 3))) else if i = 11 then ((E = E0 ∧ sW (xE E0 36) (xE E0 35 7) (xE E0 35 5) (xE E0 35 6) [115, 119, 105, 116, 99, 104] = false ∧ sW (xE E0 36) (xE E0 35 7) (xE E0 35 5) (xE E0 35 6) [98, 111, 98, 98, 105, 110] = false ∧ sW (xE E0 36) (xE E0 35 7) (xE E0 35 5) (xE E0 35 6) [115, 116, 117, 99, 107] = false ∧ sW (xE E0 36) (xE E0 35 7) (xE E0 35 5) (xE E0 35 6) [102, 114, 101, 101] = false ∧ sW (xE E0 36) (xE E0 35 7) (xE E0 35 5) (xE E0 35 6) [112, 108, 97, 99, 101] = false ∧ (v 2) = if sW (xE E0 36) (xE E0 35 7) (xE E0 35 5) (xE E0 35 6) [119, 111, 114, 100] = true then 1 else 0) ∧ (xE E 35 2 = xE E0 35 2 ∧ xE E 35 3 = xE E0 35 3)) else ((E0 = E0 ∧ ∀ p S, p ≤ xE E0 35 4 → xAD (xE E0 36) (xE E0 35 4) p E0 → xAb0 E0 S → xOut0 (pLine (xE E0 36) (xE E0 35 4) p S) E (v 2)) ∧ (¬ (v 2) = 0 → (xE E 35 2 = xE E0 35 2 ∧ xE E 35 3 = xE E0 35 3)))
def xMfrl0 (i : Nat) (x0 : Nat → Int) (E0 : zyEm) (v : Nat → Int) (E : zyEm) : Nat := if i = 0 then (100) else if i = 1 then (50) else if i = 2 then (1) else if i = 3 then (49) else if i = 4 then (1) else if i = 5 then (48) else if i = 6 then (1) else if i = 7 then (47) else if i = 8 then (1) else if i = 9 then (46) else if i = 10 then (1) else if i = 11 then (45) else (1)
theorem xRl0 {l : Launch} {en : zEn} {me : zMe} (hen : zG zxMeta 61 = some en) (hme : zG zMeth 61 = some me) : xFc l zymc en me 9 [35, 1] 0 fpfrl0 true xΦrl0 xΨfrl0S := by
  have een : zG zxMeta 61 = some (zxi61, 2, 2, 5, 61, 0, 0, 2, 0) := rfl
  obtain ⟨me1, hme1, hOK⟩ := zall hen
  rw [hme] at hme1
  cases hme1
  rw [een] at hen
  cases hen
  have hr := zyfrl0_run
  have hck := fun i hi => zyAll_iff zyfrl0_ck i hi
  simp only [Bool.and_eq_true] at hck
  obtain ⟨mefrs0, hmefrs0, -⟩ := zall (show zG zxMeta 62 = some (zxi62, 2, 5, 5, 62, 0, 0, 2, 0) from rfl)
  have hfrs0 := xRs0 (l := l) (show zG zxMeta 62 = some (zxi62, 2, 5, 5, 62, 0, 0, 2, 0) from rfl) hmefrs0
  obtain ⟨mefrb0, hmefrb0, -⟩ := zall (show zG zxMeta 63 = some (zxi63, 2, 2, 5, 63, 0, 0, 2, 0) from rfl)
  have hfrb0 := xRb0 (l := l) (show zG zxMeta 63 = some (zxi63, 2, 2, 5, 63, 0, 0, 2, 0) from rfl) hmefrb0
  obtain ⟨mefrk0, hmefrk0, -⟩ := zall (show zG zxMeta 64 = some (zxi64, 2, 3, 5, 64, 0, 0, 2, 0) from rfl)
  have hfrk0 := xRk0 (l := l) (show zG zxMeta 64 = some (zxi64, 2, 3, 5, 64, 0, 0, 2, 0) from rfl) hmefrk0
  obtain ⟨mefrf0, hmefrf0, -⟩ := zall (show zG zxMeta 65 = some (zxi65, 2, 2, 5, 65, 0, 0, 2, 0) from rfl)
  have hfrf0 := xRf0 (l := l) (show zG zxMeta 65 = some (zxi65, 2, 2, 5, 65, 0, 0, 2, 0) from rfl) hmefrf0
  obtain ⟨mefrp0, hmefrp0, -⟩ := zall (show zG zxMeta 66 = some (zxi66, 2, 3, 5, 66, 0, 0, 2, 0) from rfl)
  have hfrp0 := xRp0 (l := l) (show zG zxMeta 66 = some (zxi66, 2, 3, 5, 66, 0, 0, 2, 0) from rfl) hmefrp0
  obtain ⟨mefrw0, hmefrw0, -⟩ := zall (show zG zxMeta 67 = some (zxi67, 2, 4, 5, 67, 0, 0, 2, 0) from rfl)
  have hfrw0 := xRw0 (l := l) (show zG zxMeta 67 = some (zxi67, 2, 4, 5, 67, 0, 0, 2, 0) from rfl) hmefrw0
  obtain ⟨mefwsw, hmefwsw, -⟩ := zall (show zG zxMeta 72 = some (zxi72, 2, 3, 5, 72, 0, 0, 2, 0) from rfl)
  have hfwsw := xWswitch (l := l) (show zG zxMeta 72 = some (zxi72, 2, 3, 5, 72, 0, 0, 2, 0) from rfl) hmefwsw
  obtain ⟨mefwbo, hmefwbo, -⟩ := zall (show zG zxMeta 72 = some (zxi72, 2, 3, 5, 72, 0, 0, 2, 0) from rfl)
  have hfwbo := xWbobbin (l := l) (show zG zxMeta 72 = some (zxi72, 2, 3, 5, 72, 0, 0, 2, 0) from rfl) hmefwbo
  obtain ⟨mefwst, hmefwst, -⟩ := zall (show zG zxMeta 72 = some (zxi72, 2, 3, 5, 72, 0, 0, 2, 0) from rfl)
  have hfwst := xWstuck (l := l) (show zG zxMeta 72 = some (zxi72, 2, 3, 5, 72, 0, 0, 2, 0) from rfl) hmefwst
  obtain ⟨mefwfr, hmefwfr, -⟩ := zall (show zG zxMeta 72 = some (zxi72, 2, 3, 5, 72, 0, 0, 2, 0) from rfl)
  have hfwfr := xWfree (l := l) (show zG zxMeta 72 = some (zxi72, 2, 3, 5, 72, 0, 0, 2, 0) from rfl) hmefwfr
  obtain ⟨mefwpl, hmefwpl, -⟩ := zall (show zG zxMeta 72 = some (zxi72, 2, 3, 5, 72, 0, 0, 2, 0) from rfl)
  have hfwpl := xWplace (l := l) (show zG zxMeta 72 = some (zxi72, 2, 3, 5, 72, 0, 0, 2, 0) from rfl) hmefwpl
  obtain ⟨mefwwo, hmefwwo, -⟩ := zall (show zG zxMeta 72 = some (zxi72, 2, 3, 5, 72, 0, 0, 2, 0) from rfl)
  have hfwwo := xWword (l := l) (show zG zxMeta 72 = some (zxi72, 2, 3, 5, 72, 0, 0, 2, 0) from rfl) hmefwwo
  intro B
  refine xcut (mi := zymc) (B := B) hOK rfl rfl (ι := Fin 13) (fun i => zpfrl0 i.val) (fun _ _ => []) (fun i => zFfrl0 i.val) (fun i => zSfrl0 i.val) (fun i => zXfrl0 i.val) (fun i => zRfrl0 i.val) (fun i y2 ct en2 me2 h => by cases h) 200000 (fun i => zyAll_iff hr i.val i.isLt) (fun i => (hck i.val i.isLt).1) (fun i => (hck i.val i.isLt).2.1) (fun i => (hck i.val i.isLt).2.2) ⟨0, by decide⟩ ⟨rfl, rfl, rfl, rfl⟩ ⟨by decide, by decide⟩ (fun i x0 E0 v E => xIfrl0 i.val x0 E0 v E) (fun i x0 E0 v E => xMfrl0 i.val x0 E0 v E) ?_ ?_ ?_
  · intro x0 E hx0 hT hΦ
    have hΦ : xΦrl0 x0 E := hΦ
    refine ⟨fun k p hp => ?_, ?_⟩
    · have hk : k < 2 := (List.getElem?_eq_some_iff.mp hp).1
      have hk : k = 0 ∨ k = 1 := by omega
      rcases hk with rfl | rfl
      · have hp : some (0, 4294967295) = some p := hp
        cases hp
        show ((0 : Nat) : Int) ≤ 0 + 2147483648 ∧ 0 + 2147483648 ≤ ((4294967295 : Nat) : Int)
        omega
      · have hp : some (0, 4294967295) = some p := hp
        cases hp
        show ((0 : Nat) : Int) ≤ 0 + 2147483648 ∧ 0 + 2147483648 ≤ ((4294967295 : Nat) : Int)
        omega
    · show (E = E) ∧ (xE E 35 2 = xE E 35 2 ∧ xE E 35 3 = xE E 35 3)
      refine ⟨?_, ⟨rfl, rfl⟩⟩
      rfl
  · intro x0 s Wg hRu hrx hT0 hΦ i v H hT hrv hInv hKc hFr0 hIH x hx ρ2 v2 N2 H2 locs lsB stA hAt hB hv hr2 hXs hag hfr hFr hT2
    rcases i with ⟨i, hi⟩
    have hi2 : i = 0 ∨ i = 1 ∨ i = 2 ∨ i = 3 ∨ i = 4 ∨ i = 5 ∨ i = 6 ∨ i = 7 ∨ i = 8 ∨ i = 9 ∨ i = 10 ∨ i = 11 ∨ i = 12 := by omega
    rcases hi2 with rfl | rfl | rfl | rfl | rfl | rfl | rfl | rfl | rfl | rfl | rfl | rfl | rfl
    · have hx : x ∈ [zxfrl0_zx0] := hx
      have hag : ∀ k, k < 2 → v2 k = v k := hag
      have hfr : xFr [] _ _ := hfr
      have ex := List.mem_singleton.mp hx
      subst ex
      obtain ⟨hF, hBd, hM⟩ := hXs
      have e35_4 : xE (zyEl zymc B H2) 35 4 = xE (zyEl zymc B H) 35 4 := xFr_E hfr rfl
      have q35_4 : xE (zyEl zymc B H) 35 4 = xE (zyEl zymc B s.heap) 35 4 := xFr_E hFr0 rfl
      have e35_5 : xE (zyEl zymc B H2) 35 5 = xE (zyEl zymc B H) 35 5 := xFr_E hfr rfl
      have e35_6 : xE (zyEl zymc B H2) 35 6 = xE (zyEl zymc B H) 35 6 := xFr_E hfr rfl
      have e35_7 : xE (zyEl zymc B H2) 35 7 = xE (zyEl zymc B H) 35 7 := xFr_E hfr rfl
      have e35_8 : xE (zyEl zymc B H2) 35 8 = xE (zyEl zymc B H) 35 8 := xFr_E hfr rfl
      have e35_2 : xE (zyEl zymc B H2) 35 2 = xE (zyEl zymc B H) 35 2 := xFr_E hfr rfl
      have e35_3 : xE (zyEl zymc B H2) 35 3 = xE (zyEl zymc B H) 35 3 := xFr_E hfr rfl
      have e36 : ∀ i, xE (zyEl zymc B H2) 36 i = xE (zyEl zymc B H) 36 i := fun i => xFr_E hfr rfl
      have q36 : ∀ i, xE (zyEl zymc B H) 36 i = xE (zyEl zymc B s.heap) 36 i := fun i => xFr_E hFr0 rfl
      have hI : ((zyEl zymc B H) = (zyEl zymc B s.heap)) ∧ (xE (zyEl zymc B H) 35 2 = xE (zyEl zymc B s.heap) 35 2 ∧ xE (zyEl zymc B H) 35 3 = xE (zyEl zymc B s.heap) 35 3) := hInv
      obtain ⟨hI, hSm⟩ := hI
      have q35_5 : xE (zyEl zymc B H) 35 5 = xE (zyEl zymc B s.heap) 35 5 := by rw [hI]
      have q35_6 : xE (zyEl zymc B H) 35 6 = xE (zyEl zymc B s.heap) 35 6 := by rw [hI]
      have q35_7 : xE (zyEl zymc B H) 35 7 = xE (zyEl zymc B s.heap) 35 7 := by rw [hI]
      have q35_8 : xE (zyEl zymc B H) 35 8 = xE (zyEl zymc B s.heap) 35 8 := by rw [hI]
      have q35_2 : xE (zyEl zymc B H) 35 2 = xE (zyEl zymc B s.heap) 35 2 := by rw [hI]
      have q35_3 : xE (zyEl zymc B H) 35 3 = xE (zyEl zymc B s.heap) 35 3 := by rw [hI]
      have hE20 := (xFr_n hfr).trans hI
      refine xCa hRu hIH hAt hB hv hFr (hfwsw B) (ix := 48) (ax := 1152) rfl rfl rfl hmefwsw ⟨_, rfl, rfl, by decide⟩ ⟨rfl, rfl, rfl⟩ (by decide) [] [] [] rfl ⟨rfl, rfl⟩ (by decide +kernel) xcs_n (by decide +kernel) ?_ (fun H3 r hT3 hf3 hFr3 hr3 hΨ3 => ?_)
      · show xΦ0 (xfv []) (zyEl zymc B H2)
        exact trivial
      · have hΨ3 : xΨfwsw (xfv []) (zyEl zymc B H2) (zyEl zymc B H3) r := hΨ3
        have d35_4 : xE (zyEl zymc B H3) 35 4 = xE (zyEl zymc B H2) 35 4 := xFr_E hf3 rfl
        have d35_5 : xE (zyEl zymc B H3) 35 5 = xE (zyEl zymc B H2) 35 5 := xFr_E hf3 rfl
        have d35_6 : xE (zyEl zymc B H3) 35 6 = xE (zyEl zymc B H2) 35 6 := xFr_E hf3 rfl
        have d35_7 : xE (zyEl zymc B H3) 35 7 = xE (zyEl zymc B H2) 35 7 := xFr_E hf3 rfl
        have d35_8 : xE (zyEl zymc B H3) 35 8 = xE (zyEl zymc B H2) 35 8 := xFr_E hf3 rfl
        have d35_2 : xE (zyEl zymc B H3) 35 2 = xE (zyEl zymc B H2) 35 2 := xFr_E hf3 rfl
        have d35_3 : xE (zyEl zymc B H3) 35 3 = xE (zyEl zymc B H2) 35 3 := xFr_E hf3 rfl
        have d36 : ∀ i, xE (zyEl zymc B H3) 36 i = xE (zyEl zymc B H2) 36 i := fun i => xFr_E hf3 rfl
        unfold xΨfwsw at hΨ3
        have hr01 : r = 0 ∨ r = 1 := by
          rw [hΨ3]
          split <;> omega
        have hEE3 : (zyEl zymc B H3) = (zyEl zymc B s.heap) := (xFr_n hf3).trans hE20
        rw [hE20] at hΨ3
        refine ⟨⟨1, by decide⟩, [0, 0], [0, 0, r], rfl, ⟨by decide +kernel, ⟨rfl, by decide +kernel⟩, (xcs_c rfl (xcs_c rfl xcs_n)), (xe_0 (xe_0 (xe_c (by omega) (by omega) rfl xe_n))), xkq_n⟩, (by rw [if_pos rfl]; exact ⟨2, [], rfl, by decide, rfl, xst_n⟩), ?_, ?_⟩
        · show ((zyEl zymc B H3) = (zyEl zymc B s.heap) ∧ (r : Int) = if sW (xE (zyEl zymc B s.heap) 36) (xE (zyEl zymc B s.heap) 35 7) (xE (zyEl zymc B s.heap) 35 5) (xE (zyEl zymc B s.heap) 35 6) [115, 119, 105, 116, 99, 104] = true then 1 else 0) ∧ (xE (zyEl zymc B H3) 35 2 = xE (zyEl zymc B s.heap) 35 2 ∧ xE (zyEl zymc B H3) 35 3 = xE (zyEl zymc B s.heap) 35 3)
          refine ⟨?_, ?_⟩
          · skip
            exact ⟨hEE3, hΨ3⟩
          · omega
        · show 50 < 100
          omega
    · have hx : x ∈ [zxfrl0_w0x0, zxfrl0_w0x1] := hx
      have hag : ∀ k, k < 3 → v2 k = v k := hag
      have hfr : xFr [] _ _ := hfr
      rcases List.mem_cons.mp hx with ex | hx
      · subst ex
        obtain ⟨hF, hBd, hM⟩ := hXs
        have g2 : v2 2 = v 2 := hag 2 (by decide)
        have b0 : ((2147483649 : Nat) : Int) ≤ (v2 2) + 2147483648 ∧ (v2 2) + 2147483648 ≤ ((2147483649 : Nat) : Int) := xXb hBd 0 rfl
        have f0 : ¬ (v2 2) = 0 := xXf hF 0 rfl
        have e35_4 : xE (zyEl zymc B H2) 35 4 = xE (zyEl zymc B H) 35 4 := xFr_E hfr rfl
        have q35_4 : xE (zyEl zymc B H) 35 4 = xE (zyEl zymc B s.heap) 35 4 := xFr_E hFr0 rfl
        have e35_5 : xE (zyEl zymc B H2) 35 5 = xE (zyEl zymc B H) 35 5 := xFr_E hfr rfl
        have e35_6 : xE (zyEl zymc B H2) 35 6 = xE (zyEl zymc B H) 35 6 := xFr_E hfr rfl
        have e35_7 : xE (zyEl zymc B H2) 35 7 = xE (zyEl zymc B H) 35 7 := xFr_E hfr rfl
        have e35_8 : xE (zyEl zymc B H2) 35 8 = xE (zyEl zymc B H) 35 8 := xFr_E hfr rfl
        have e35_2 : xE (zyEl zymc B H2) 35 2 = xE (zyEl zymc B H) 35 2 := xFr_E hfr rfl
        have e35_3 : xE (zyEl zymc B H2) 35 3 = xE (zyEl zymc B H) 35 3 := xFr_E hfr rfl
        have e36 : ∀ i, xE (zyEl zymc B H2) 36 i = xE (zyEl zymc B H) 36 i := fun i => xFr_E hfr rfl
        have q36 : ∀ i, xE (zyEl zymc B H) 36 i = xE (zyEl zymc B s.heap) 36 i := fun i => xFr_E hFr0 rfl
        have hI : ((zyEl zymc B H) = (zyEl zymc B s.heap) ∧ (v 2) = if sW (xE (zyEl zymc B s.heap) 36) (xE (zyEl zymc B s.heap) 35 7) (xE (zyEl zymc B s.heap) 35 5) (xE (zyEl zymc B s.heap) 35 6) [115, 119, 105, 116, 99, 104] = true then 1 else 0) ∧ (xE (zyEl zymc B H) 35 2 = xE (zyEl zymc B s.heap) 35 2 ∧ xE (zyEl zymc B H) 35 3 = xE (zyEl zymc B s.heap) 35 3) := hInv
        obtain ⟨hI, hSm⟩ := hI
        have q35_5 : xE (zyEl zymc B H) 35 5 = xE (zyEl zymc B s.heap) 35 5 := by rw [hI.1]
        have q35_6 : xE (zyEl zymc B H) 35 6 = xE (zyEl zymc B s.heap) 35 6 := by rw [hI.1]
        have q35_7 : xE (zyEl zymc B H) 35 7 = xE (zyEl zymc B s.heap) 35 7 := by rw [hI.1]
        have q35_8 : xE (zyEl zymc B H) 35 8 = xE (zyEl zymc B s.heap) 35 8 := by rw [hI.1]
        have q35_2 : xE (zyEl zymc B H) 35 2 = xE (zyEl zymc B s.heap) 35 2 := by rw [hI.1]
        have q35_3 : xE (zyEl zymc B H) 35 3 = xE (zyEl zymc B s.heap) 35 3 := by rw [hI.1]
        obtain ⟨hE, i3⟩ := hI
        obtain ⟨S0, hS0⟩ := hΦ.2.1
        obtain ⟨pp, hpp, hA0⟩ := hΦ.2.2
        have y0 : sW (xE (zyEl zymc B s.heap) 36) (xE (zyEl zymc B s.heap) 35 7) (xE (zyEl zymc B s.heap) 35 5) (xE (zyEl zymc B s.heap) 35 6) [115, 119, 105, 116, 99, 104] = true := by
          by_cases h : sW (xE (zyEl zymc B s.heap) 36) (xE (zyEl zymc B s.heap) 35 7) (xE (zyEl zymc B s.heap) 35 5) (xE (zyEl zymc B s.heap) 35 6) [115, 119, 105, 116, 99, 104] = true
          · exact h
          · rw [if_neg h] at i3
            omega
        have hE20 := (xFr_n hfr).trans hE
        refine xCa hRu hIH hAt hB hv hFr (hfrs0 B) (ix := 79) (ax := 992) rfl rfl rfl hmefrs0 ⟨_, rfl, rfl, by decide⟩ ⟨rfl, rfl, rfl⟩ (by decide) [] [] [] rfl ⟨rfl, rfl⟩ (by decide +kernel) xcs_n (by decide +kernel) ?_ (fun H3 r hT3 hf3 hFr3 hr3 hΨ3 => ?_)
        · show xΦrd0 (xfv []) (zyEl zymc B H2)
          rw [hE20]
          exact ⟨hΦ.1, S0, hS0⟩
        · have hΨ3 : xΨfrs0S (xfv []) (zyEl zymc B H2) (zyEl zymc B H3) r := hΨ3
          obtain ⟨hΨ3, hS3⟩ := hΨ3
          have hΨ3 : xΨfrs0 (xfv []) (zyEl zymc B H2) (zyEl zymc B H3) r := hΨ3
          have hS3 : (¬ (r) = 0 → (xE (zyEl zymc B H3) 35 2 = xE (zyEl zymc B H2) 35 2 ∧ xE (zyEl zymc B H3) 35 3 = xE (zyEl zymc B H2) 35 3)) := hS3
          have d35_4 : xE (zyEl zymc B H3) 35 4 = xE (zyEl zymc B H2) 35 4 := xFr_E hf3 rfl
          have d36 : ∀ i, xE (zyEl zymc B H3) 36 i = xE (zyEl zymc B H2) 36 i := fun i => xFr_E hf3 rfl
          unfold xΨfrs0 at hΨ3
          rw [hE20] at hΨ3
          have hr01 : r = 0 ∨ r = 1 := xOut0_r (hΨ3 S0 hS0)
          refine ⟨⟨2, by decide⟩, [0, 0], [0, 0, r], rfl, ⟨by decide +kernel, ⟨rfl, by decide +kernel⟩, (xcs_c rfl (xcs_c rfl xcs_n)), (xe_0 (xe_0 (xe_c (by omega) (by omega) rfl xe_n))), xkq_n⟩, (by rw [if_pos rfl]; exact ⟨2, [], rfl, by decide, rfl, xst_n⟩), ?_, ?_⟩
          · show ((zyEl zymc B s.heap) = (zyEl zymc B s.heap) ∧ ∀ p S, p ≤ xE (zyEl zymc B s.heap) 35 4 → xAD (xE (zyEl zymc B s.heap) 36) (xE (zyEl zymc B s.heap) 35 4) p (zyEl zymc B s.heap) → xAb0 (zyEl zymc B s.heap) S → xOut0 (pLine (xE (zyEl zymc B s.heap) 36) (xE (zyEl zymc B s.heap) 35 4) p S) (zyEl zymc B H3) (r : Int)) ∧ (¬ (r : Int) = 0 → (xE (zyEl zymc B H3) 35 2 = xE (zyEl zymc B s.heap) 35 2 ∧ xE (zyEl zymc B H3) 35 3 = xE (zyEl zymc B s.heap) 35 3))
            refine ⟨?_, ?_⟩
            · skip
              refine ⟨rfl, fun p S hp ⟨a1, a2, a3, a4⟩ hS => ?_⟩
              have w := hΨ3 S hS
              rw [a1] at w
              rw [a1, a2, a3] at y0
              unfold pLine pBody tW
              rw [y0, if_pos rfl]
              exact w
            · omega
          · show 1 < 50
            omega
      · skip
        have ex := List.mem_singleton.mp hx
        subst ex
        obtain ⟨hF, hBd, hM⟩ := hXs
        have g2 : v2 2 = v 2 := hag 2 (by decide)
        have b0 : ((2147483648 : Nat) : Int) ≤ (v2 2) + 2147483648 ∧ (v2 2) + 2147483648 ≤ ((2147483648 : Nat) : Int) := xXb hBd 0 rfl
        have f0 : (v2 2) = 0 := xXf hF 0 rfl
        have e35_4 : xE (zyEl zymc B H2) 35 4 = xE (zyEl zymc B H) 35 4 := xFr_E hfr rfl
        have q35_4 : xE (zyEl zymc B H) 35 4 = xE (zyEl zymc B s.heap) 35 4 := xFr_E hFr0 rfl
        have e35_5 : xE (zyEl zymc B H2) 35 5 = xE (zyEl zymc B H) 35 5 := xFr_E hfr rfl
        have e35_6 : xE (zyEl zymc B H2) 35 6 = xE (zyEl zymc B H) 35 6 := xFr_E hfr rfl
        have e35_7 : xE (zyEl zymc B H2) 35 7 = xE (zyEl zymc B H) 35 7 := xFr_E hfr rfl
        have e35_8 : xE (zyEl zymc B H2) 35 8 = xE (zyEl zymc B H) 35 8 := xFr_E hfr rfl
        have e35_2 : xE (zyEl zymc B H2) 35 2 = xE (zyEl zymc B H) 35 2 := xFr_E hfr rfl
        have e35_3 : xE (zyEl zymc B H2) 35 3 = xE (zyEl zymc B H) 35 3 := xFr_E hfr rfl
        have e36 : ∀ i, xE (zyEl zymc B H2) 36 i = xE (zyEl zymc B H) 36 i := fun i => xFr_E hfr rfl
        have q36 : ∀ i, xE (zyEl zymc B H) 36 i = xE (zyEl zymc B s.heap) 36 i := fun i => xFr_E hFr0 rfl
        have hI : ((zyEl zymc B H) = (zyEl zymc B s.heap) ∧ (v 2) = if sW (xE (zyEl zymc B s.heap) 36) (xE (zyEl zymc B s.heap) 35 7) (xE (zyEl zymc B s.heap) 35 5) (xE (zyEl zymc B s.heap) 35 6) [115, 119, 105, 116, 99, 104] = true then 1 else 0) ∧ (xE (zyEl zymc B H) 35 2 = xE (zyEl zymc B s.heap) 35 2 ∧ xE (zyEl zymc B H) 35 3 = xE (zyEl zymc B s.heap) 35 3) := hInv
        obtain ⟨hI, hSm⟩ := hI
        have q35_5 : xE (zyEl zymc B H) 35 5 = xE (zyEl zymc B s.heap) 35 5 := by rw [hI.1]
        have q35_6 : xE (zyEl zymc B H) 35 6 = xE (zyEl zymc B s.heap) 35 6 := by rw [hI.1]
        have q35_7 : xE (zyEl zymc B H) 35 7 = xE (zyEl zymc B s.heap) 35 7 := by rw [hI.1]
        have q35_8 : xE (zyEl zymc B H) 35 8 = xE (zyEl zymc B s.heap) 35 8 := by rw [hI.1]
        have q35_2 : xE (zyEl zymc B H) 35 2 = xE (zyEl zymc B s.heap) 35 2 := by rw [hI.1]
        have q35_3 : xE (zyEl zymc B H) 35 3 = xE (zyEl zymc B s.heap) 35 3 := by rw [hI.1]
        obtain ⟨hE, i3⟩ := hI
        obtain ⟨S0, hS0⟩ := hΦ.2.1
        obtain ⟨pp, hpp, hA0⟩ := hΦ.2.2
        have n0 : sW (xE (zyEl zymc B s.heap) 36) (xE (zyEl zymc B s.heap) 35 7) (xE (zyEl zymc B s.heap) 35 5) (xE (zyEl zymc B s.heap) 35 6) [115, 119, 105, 116, 99, 104] = false := by
          rw [Bool.eq_false_iff]
          intro h
          rw [if_pos h] at i3
          omega
        have hE20 := (xFr_n hfr).trans hE
        refine xCa hRu hIH hAt hB hv hFr (hfwbo B) (ix := 48) (ax := 1152) rfl rfl rfl hmefwbo ⟨_, rfl, rfl, by decide⟩ ⟨rfl, rfl, rfl⟩ (by decide) [] [] [] rfl ⟨rfl, rfl⟩ (by decide +kernel) xcs_n (by decide +kernel) ?_ (fun H3 r hT3 hf3 hFr3 hr3 hΨ3 => ?_)
        · show xΦ0 (xfv []) (zyEl zymc B H2)
          exact trivial
        · have hΨ3 : xΨfwbo (xfv []) (zyEl zymc B H2) (zyEl zymc B H3) r := hΨ3
          have d35_4 : xE (zyEl zymc B H3) 35 4 = xE (zyEl zymc B H2) 35 4 := xFr_E hf3 rfl
          have d35_5 : xE (zyEl zymc B H3) 35 5 = xE (zyEl zymc B H2) 35 5 := xFr_E hf3 rfl
          have d35_6 : xE (zyEl zymc B H3) 35 6 = xE (zyEl zymc B H2) 35 6 := xFr_E hf3 rfl
          have d35_7 : xE (zyEl zymc B H3) 35 7 = xE (zyEl zymc B H2) 35 7 := xFr_E hf3 rfl
          have d35_8 : xE (zyEl zymc B H3) 35 8 = xE (zyEl zymc B H2) 35 8 := xFr_E hf3 rfl
          have d35_2 : xE (zyEl zymc B H3) 35 2 = xE (zyEl zymc B H2) 35 2 := xFr_E hf3 rfl
          have d35_3 : xE (zyEl zymc B H3) 35 3 = xE (zyEl zymc B H2) 35 3 := xFr_E hf3 rfl
          have d36 : ∀ i, xE (zyEl zymc B H3) 36 i = xE (zyEl zymc B H2) 36 i := fun i => xFr_E hf3 rfl
          unfold xΨfwbo at hΨ3
          have hr01 : r = 0 ∨ r = 1 := by
            rw [hΨ3]
            split <;> omega
          have hEE3 : (zyEl zymc B H3) = (zyEl zymc B s.heap) := (xFr_n hf3).trans hE20
          rw [hE20] at hΨ3
          refine ⟨⟨3, by decide⟩, [0, 0], [0, 0, r], rfl, ⟨by decide +kernel, ⟨rfl, by decide +kernel⟩, (xcs_c rfl (xcs_c rfl xcs_n)), (xe_0 (xe_0 (xe_c (by omega) (by omega) rfl xe_n))), xkq_n⟩, (by rw [if_pos rfl]; exact ⟨2, [], rfl, by decide, rfl, xst_n⟩), ?_, ?_⟩
          · show ((zyEl zymc B H3) = (zyEl zymc B s.heap) ∧ sW (xE (zyEl zymc B s.heap) 36) (xE (zyEl zymc B s.heap) 35 7) (xE (zyEl zymc B s.heap) 35 5) (xE (zyEl zymc B s.heap) 35 6) [115, 119, 105, 116, 99, 104] = false ∧ (r : Int) = if sW (xE (zyEl zymc B s.heap) 36) (xE (zyEl zymc B s.heap) 35 7) (xE (zyEl zymc B s.heap) 35 5) (xE (zyEl zymc B s.heap) 35 6) [98, 111, 98, 98, 105, 110] = true then 1 else 0) ∧ (xE (zyEl zymc B H3) 35 2 = xE (zyEl zymc B s.heap) 35 2 ∧ xE (zyEl zymc B H3) 35 3 = xE (zyEl zymc B s.heap) 35 3)
            refine ⟨?_, ?_⟩
            · skip
              exact ⟨hEE3, n0, hΨ3⟩
            · omega
          · show 49 < 50
            omega
    · cases hx
    · have hx : x ∈ [zxfrl0_w1x0, zxfrl0_w1x1] := hx
      have hag : ∀ k, k < 3 → v2 k = v k := hag
      have hfr : xFr [] _ _ := hfr
      rcases List.mem_cons.mp hx with ex | hx
      · subst ex
        obtain ⟨hF, hBd, hM⟩ := hXs
        have g2 : v2 2 = v 2 := hag 2 (by decide)
        have b0 : ((2147483649 : Nat) : Int) ≤ (v2 2) + 2147483648 ∧ (v2 2) + 2147483648 ≤ ((2147483649 : Nat) : Int) := xXb hBd 0 rfl
        have f0 : ¬ (v2 2) = 0 := xXf hF 0 rfl
        have e35_4 : xE (zyEl zymc B H2) 35 4 = xE (zyEl zymc B H) 35 4 := xFr_E hfr rfl
        have q35_4 : xE (zyEl zymc B H) 35 4 = xE (zyEl zymc B s.heap) 35 4 := xFr_E hFr0 rfl
        have e35_5 : xE (zyEl zymc B H2) 35 5 = xE (zyEl zymc B H) 35 5 := xFr_E hfr rfl
        have e35_6 : xE (zyEl zymc B H2) 35 6 = xE (zyEl zymc B H) 35 6 := xFr_E hfr rfl
        have e35_7 : xE (zyEl zymc B H2) 35 7 = xE (zyEl zymc B H) 35 7 := xFr_E hfr rfl
        have e35_8 : xE (zyEl zymc B H2) 35 8 = xE (zyEl zymc B H) 35 8 := xFr_E hfr rfl
        have e35_2 : xE (zyEl zymc B H2) 35 2 = xE (zyEl zymc B H) 35 2 := xFr_E hfr rfl
        have e35_3 : xE (zyEl zymc B H2) 35 3 = xE (zyEl zymc B H) 35 3 := xFr_E hfr rfl
        have e36 : ∀ i, xE (zyEl zymc B H2) 36 i = xE (zyEl zymc B H) 36 i := fun i => xFr_E hfr rfl
        have q36 : ∀ i, xE (zyEl zymc B H) 36 i = xE (zyEl zymc B s.heap) 36 i := fun i => xFr_E hFr0 rfl
        have hI : ((zyEl zymc B H) = (zyEl zymc B s.heap) ∧ sW (xE (zyEl zymc B s.heap) 36) (xE (zyEl zymc B s.heap) 35 7) (xE (zyEl zymc B s.heap) 35 5) (xE (zyEl zymc B s.heap) 35 6) [115, 119, 105, 116, 99, 104] = false ∧ (v 2) = if sW (xE (zyEl zymc B s.heap) 36) (xE (zyEl zymc B s.heap) 35 7) (xE (zyEl zymc B s.heap) 35 5) (xE (zyEl zymc B s.heap) 35 6) [98, 111, 98, 98, 105, 110] = true then 1 else 0) ∧ (xE (zyEl zymc B H) 35 2 = xE (zyEl zymc B s.heap) 35 2 ∧ xE (zyEl zymc B H) 35 3 = xE (zyEl zymc B s.heap) 35 3) := hInv
        obtain ⟨hI, hSm⟩ := hI
        have q35_5 : xE (zyEl zymc B H) 35 5 = xE (zyEl zymc B s.heap) 35 5 := by rw [hI.1]
        have q35_6 : xE (zyEl zymc B H) 35 6 = xE (zyEl zymc B s.heap) 35 6 := by rw [hI.1]
        have q35_7 : xE (zyEl zymc B H) 35 7 = xE (zyEl zymc B s.heap) 35 7 := by rw [hI.1]
        have q35_8 : xE (zyEl zymc B H) 35 8 = xE (zyEl zymc B s.heap) 35 8 := by rw [hI.1]
        have q35_2 : xE (zyEl zymc B H) 35 2 = xE (zyEl zymc B s.heap) 35 2 := by rw [hI.1]
        have q35_3 : xE (zyEl zymc B H) 35 3 = xE (zyEl zymc B s.heap) 35 3 := by rw [hI.1]
        obtain ⟨hE, n0, i3⟩ := hI
        obtain ⟨S0, hS0⟩ := hΦ.2.1
        obtain ⟨pp, hpp, hA0⟩ := hΦ.2.2
        have y1 : sW (xE (zyEl zymc B s.heap) 36) (xE (zyEl zymc B s.heap) 35 7) (xE (zyEl zymc B s.heap) 35 5) (xE (zyEl zymc B s.heap) 35 6) [98, 111, 98, 98, 105, 110] = true := by
          by_cases h : sW (xE (zyEl zymc B s.heap) 36) (xE (zyEl zymc B s.heap) 35 7) (xE (zyEl zymc B s.heap) 35 5) (xE (zyEl zymc B s.heap) 35 6) [98, 111, 98, 98, 105, 110] = true
          · exact h
          · rw [if_neg h] at i3
            omega
        have hE20 := (xFr_n hfr).trans hE
        refine xCa hRu hIH hAt hB hv hFr (hfrb0 B) (ix := 84) (ax := 1008) rfl rfl rfl hmefrb0 ⟨_, rfl, rfl, by decide⟩ ⟨rfl, rfl, rfl⟩ (by decide) [] [] [] rfl ⟨rfl, rfl⟩ (by decide +kernel) xcs_n (by decide +kernel) ?_ (fun H3 r hT3 hf3 hFr3 hr3 hΨ3 => ?_)
        · show xΦrd0 (xfv []) (zyEl zymc B H2)
          rw [hE20]
          exact ⟨hΦ.1, S0, hS0⟩
        · have hΨ3 : xΨfrb0S (xfv []) (zyEl zymc B H2) (zyEl zymc B H3) r := hΨ3
          obtain ⟨hΨ3, hS3⟩ := hΨ3
          have hΨ3 : xΨfrb0 (xfv []) (zyEl zymc B H2) (zyEl zymc B H3) r := hΨ3
          have hS3 : (¬ (r) = 0 → (xE (zyEl zymc B H3) 35 2 = xE (zyEl zymc B H2) 35 2 ∧ xE (zyEl zymc B H3) 35 3 = xE (zyEl zymc B H2) 35 3)) := hS3
          have d35_4 : xE (zyEl zymc B H3) 35 4 = xE (zyEl zymc B H2) 35 4 := xFr_E hf3 rfl
          have d36 : ∀ i, xE (zyEl zymc B H3) 36 i = xE (zyEl zymc B H2) 36 i := fun i => xFr_E hf3 rfl
          unfold xΨfrb0 at hΨ3
          rw [hE20] at hΨ3
          have hr01 : r = 0 ∨ r = 1 := xOut0_r (hΨ3 S0 pp hS0 hA0.2.1.symm)
          refine ⟨⟨4, by decide⟩, [0, 0], [0, 0, r], rfl, ⟨by decide +kernel, ⟨rfl, by decide +kernel⟩, (xcs_c rfl (xcs_c rfl xcs_n)), (xe_0 (xe_0 (xe_c (by omega) (by omega) rfl xe_n))), xkq_n⟩, (by rw [if_pos rfl]; exact ⟨2, [], rfl, by decide, rfl, xst_n⟩), ?_, ?_⟩
          · show ((zyEl zymc B s.heap) = (zyEl zymc B s.heap) ∧ ∀ p S, p ≤ xE (zyEl zymc B s.heap) 35 4 → xAD (xE (zyEl zymc B s.heap) 36) (xE (zyEl zymc B s.heap) 35 4) p (zyEl zymc B s.heap) → xAb0 (zyEl zymc B s.heap) S → xOut0 (pLine (xE (zyEl zymc B s.heap) 36) (xE (zyEl zymc B s.heap) 35 4) p S) (zyEl zymc B H3) (r : Int)) ∧ (¬ (r : Int) = 0 → (xE (zyEl zymc B H3) 35 2 = xE (zyEl zymc B s.heap) 35 2 ∧ xE (zyEl zymc B H3) 35 3 = xE (zyEl zymc B s.heap) 35 3))
            refine ⟨?_, ?_⟩
            · skip
              refine ⟨rfl, fun p S hp ⟨a1, a2, a3, a4⟩ hS => ?_⟩
              have w := hΨ3 S p hS a2.symm
              rw [a1] at w
              rw [a1, a2, a3] at n0 y1
              unfold pLine pBody tW
              rw [n0, if_neg (by decide), y1, if_pos rfl]
              exact w
            · omega
          · show 1 < 49
            omega
      · skip
        have ex := List.mem_singleton.mp hx
        subst ex
        obtain ⟨hF, hBd, hM⟩ := hXs
        have g2 : v2 2 = v 2 := hag 2 (by decide)
        have b0 : ((2147483648 : Nat) : Int) ≤ (v2 2) + 2147483648 ∧ (v2 2) + 2147483648 ≤ ((2147483648 : Nat) : Int) := xXb hBd 0 rfl
        have f0 : (v2 2) = 0 := xXf hF 0 rfl
        have e35_4 : xE (zyEl zymc B H2) 35 4 = xE (zyEl zymc B H) 35 4 := xFr_E hfr rfl
        have q35_4 : xE (zyEl zymc B H) 35 4 = xE (zyEl zymc B s.heap) 35 4 := xFr_E hFr0 rfl
        have e35_5 : xE (zyEl zymc B H2) 35 5 = xE (zyEl zymc B H) 35 5 := xFr_E hfr rfl
        have e35_6 : xE (zyEl zymc B H2) 35 6 = xE (zyEl zymc B H) 35 6 := xFr_E hfr rfl
        have e35_7 : xE (zyEl zymc B H2) 35 7 = xE (zyEl zymc B H) 35 7 := xFr_E hfr rfl
        have e35_8 : xE (zyEl zymc B H2) 35 8 = xE (zyEl zymc B H) 35 8 := xFr_E hfr rfl
        have e35_2 : xE (zyEl zymc B H2) 35 2 = xE (zyEl zymc B H) 35 2 := xFr_E hfr rfl
        have e35_3 : xE (zyEl zymc B H2) 35 3 = xE (zyEl zymc B H) 35 3 := xFr_E hfr rfl
        have e36 : ∀ i, xE (zyEl zymc B H2) 36 i = xE (zyEl zymc B H) 36 i := fun i => xFr_E hfr rfl
        have q36 : ∀ i, xE (zyEl zymc B H) 36 i = xE (zyEl zymc B s.heap) 36 i := fun i => xFr_E hFr0 rfl
        have hI : ((zyEl zymc B H) = (zyEl zymc B s.heap) ∧ sW (xE (zyEl zymc B s.heap) 36) (xE (zyEl zymc B s.heap) 35 7) (xE (zyEl zymc B s.heap) 35 5) (xE (zyEl zymc B s.heap) 35 6) [115, 119, 105, 116, 99, 104] = false ∧ (v 2) = if sW (xE (zyEl zymc B s.heap) 36) (xE (zyEl zymc B s.heap) 35 7) (xE (zyEl zymc B s.heap) 35 5) (xE (zyEl zymc B s.heap) 35 6) [98, 111, 98, 98, 105, 110] = true then 1 else 0) ∧ (xE (zyEl zymc B H) 35 2 = xE (zyEl zymc B s.heap) 35 2 ∧ xE (zyEl zymc B H) 35 3 = xE (zyEl zymc B s.heap) 35 3) := hInv
        obtain ⟨hI, hSm⟩ := hI
        have q35_5 : xE (zyEl zymc B H) 35 5 = xE (zyEl zymc B s.heap) 35 5 := by rw [hI.1]
        have q35_6 : xE (zyEl zymc B H) 35 6 = xE (zyEl zymc B s.heap) 35 6 := by rw [hI.1]
        have q35_7 : xE (zyEl zymc B H) 35 7 = xE (zyEl zymc B s.heap) 35 7 := by rw [hI.1]
        have q35_8 : xE (zyEl zymc B H) 35 8 = xE (zyEl zymc B s.heap) 35 8 := by rw [hI.1]
        have q35_2 : xE (zyEl zymc B H) 35 2 = xE (zyEl zymc B s.heap) 35 2 := by rw [hI.1]
        have q35_3 : xE (zyEl zymc B H) 35 3 = xE (zyEl zymc B s.heap) 35 3 := by rw [hI.1]
        obtain ⟨hE, n0, i3⟩ := hI
        obtain ⟨S0, hS0⟩ := hΦ.2.1
        obtain ⟨pp, hpp, hA0⟩ := hΦ.2.2
        have n1 : sW (xE (zyEl zymc B s.heap) 36) (xE (zyEl zymc B s.heap) 35 7) (xE (zyEl zymc B s.heap) 35 5) (xE (zyEl zymc B s.heap) 35 6) [98, 111, 98, 98, 105, 110] = false := by
          rw [Bool.eq_false_iff]
          intro h
          rw [if_pos h] at i3
          omega
        have hE20 := (xFr_n hfr).trans hE
        refine xCa hRu hIH hAt hB hv hFr (hfwst B) (ix := 48) (ax := 1152) rfl rfl rfl hmefwst ⟨_, rfl, rfl, by decide⟩ ⟨rfl, rfl, rfl⟩ (by decide) [] [] [] rfl ⟨rfl, rfl⟩ (by decide +kernel) xcs_n (by decide +kernel) ?_ (fun H3 r hT3 hf3 hFr3 hr3 hΨ3 => ?_)
        · show xΦ0 (xfv []) (zyEl zymc B H2)
          exact trivial
        · have hΨ3 : xΨfwst (xfv []) (zyEl zymc B H2) (zyEl zymc B H3) r := hΨ3
          have d35_4 : xE (zyEl zymc B H3) 35 4 = xE (zyEl zymc B H2) 35 4 := xFr_E hf3 rfl
          have d35_5 : xE (zyEl zymc B H3) 35 5 = xE (zyEl zymc B H2) 35 5 := xFr_E hf3 rfl
          have d35_6 : xE (zyEl zymc B H3) 35 6 = xE (zyEl zymc B H2) 35 6 := xFr_E hf3 rfl
          have d35_7 : xE (zyEl zymc B H3) 35 7 = xE (zyEl zymc B H2) 35 7 := xFr_E hf3 rfl
          have d35_8 : xE (zyEl zymc B H3) 35 8 = xE (zyEl zymc B H2) 35 8 := xFr_E hf3 rfl
          have d35_2 : xE (zyEl zymc B H3) 35 2 = xE (zyEl zymc B H2) 35 2 := xFr_E hf3 rfl
          have d35_3 : xE (zyEl zymc B H3) 35 3 = xE (zyEl zymc B H2) 35 3 := xFr_E hf3 rfl
          have d36 : ∀ i, xE (zyEl zymc B H3) 36 i = xE (zyEl zymc B H2) 36 i := fun i => xFr_E hf3 rfl
          unfold xΨfwst at hΨ3
          have hr01 : r = 0 ∨ r = 1 := by
            rw [hΨ3]
            split <;> omega
          have hEE3 : (zyEl zymc B H3) = (zyEl zymc B s.heap) := (xFr_n hf3).trans hE20
          rw [hE20] at hΨ3
          refine ⟨⟨5, by decide⟩, [0, 0], [0, 0, r], rfl, ⟨by decide +kernel, ⟨rfl, by decide +kernel⟩, (xcs_c rfl (xcs_c rfl xcs_n)), (xe_0 (xe_0 (xe_c (by omega) (by omega) rfl xe_n))), xkq_n⟩, (by rw [if_pos rfl]; exact ⟨2, [], rfl, by decide, rfl, xst_n⟩), ?_, ?_⟩
          · show ((zyEl zymc B H3) = (zyEl zymc B s.heap) ∧ sW (xE (zyEl zymc B s.heap) 36) (xE (zyEl zymc B s.heap) 35 7) (xE (zyEl zymc B s.heap) 35 5) (xE (zyEl zymc B s.heap) 35 6) [115, 119, 105, 116, 99, 104] = false ∧ sW (xE (zyEl zymc B s.heap) 36) (xE (zyEl zymc B s.heap) 35 7) (xE (zyEl zymc B s.heap) 35 5) (xE (zyEl zymc B s.heap) 35 6) [98, 111, 98, 98, 105, 110] = false ∧ (r : Int) = if sW (xE (zyEl zymc B s.heap) 36) (xE (zyEl zymc B s.heap) 35 7) (xE (zyEl zymc B s.heap) 35 5) (xE (zyEl zymc B s.heap) 35 6) [115, 116, 117, 99, 107] = true then 1 else 0) ∧ (xE (zyEl zymc B H3) 35 2 = xE (zyEl zymc B s.heap) 35 2 ∧ xE (zyEl zymc B H3) 35 3 = xE (zyEl zymc B s.heap) 35 3)
            refine ⟨?_, ?_⟩
            · skip
              exact ⟨hEE3, n0, n1, hΨ3⟩
            · omega
          · show 48 < 49
            omega
    · cases hx
    · have hx : x ∈ [zxfrl0_w2x0, zxfrl0_w2x1] := hx
      have hag : ∀ k, k < 3 → v2 k = v k := hag
      have hfr : xFr [] _ _ := hfr
      rcases List.mem_cons.mp hx with ex | hx
      · subst ex
        obtain ⟨hF, hBd, hM⟩ := hXs
        have g2 : v2 2 = v 2 := hag 2 (by decide)
        have b0 : ((2147483649 : Nat) : Int) ≤ (v2 2) + 2147483648 ∧ (v2 2) + 2147483648 ≤ ((2147483649 : Nat) : Int) := xXb hBd 0 rfl
        have f0 : ¬ (v2 2) = 0 := xXf hF 0 rfl
        have e35_4 : xE (zyEl zymc B H2) 35 4 = xE (zyEl zymc B H) 35 4 := xFr_E hfr rfl
        have q35_4 : xE (zyEl zymc B H) 35 4 = xE (zyEl zymc B s.heap) 35 4 := xFr_E hFr0 rfl
        have e35_5 : xE (zyEl zymc B H2) 35 5 = xE (zyEl zymc B H) 35 5 := xFr_E hfr rfl
        have e35_6 : xE (zyEl zymc B H2) 35 6 = xE (zyEl zymc B H) 35 6 := xFr_E hfr rfl
        have e35_7 : xE (zyEl zymc B H2) 35 7 = xE (zyEl zymc B H) 35 7 := xFr_E hfr rfl
        have e35_8 : xE (zyEl zymc B H2) 35 8 = xE (zyEl zymc B H) 35 8 := xFr_E hfr rfl
        have e35_2 : xE (zyEl zymc B H2) 35 2 = xE (zyEl zymc B H) 35 2 := xFr_E hfr rfl
        have e35_3 : xE (zyEl zymc B H2) 35 3 = xE (zyEl zymc B H) 35 3 := xFr_E hfr rfl
        have e36 : ∀ i, xE (zyEl zymc B H2) 36 i = xE (zyEl zymc B H) 36 i := fun i => xFr_E hfr rfl
        have q36 : ∀ i, xE (zyEl zymc B H) 36 i = xE (zyEl zymc B s.heap) 36 i := fun i => xFr_E hFr0 rfl
        have hI : ((zyEl zymc B H) = (zyEl zymc B s.heap) ∧ sW (xE (zyEl zymc B s.heap) 36) (xE (zyEl zymc B s.heap) 35 7) (xE (zyEl zymc B s.heap) 35 5) (xE (zyEl zymc B s.heap) 35 6) [115, 119, 105, 116, 99, 104] = false ∧ sW (xE (zyEl zymc B s.heap) 36) (xE (zyEl zymc B s.heap) 35 7) (xE (zyEl zymc B s.heap) 35 5) (xE (zyEl zymc B s.heap) 35 6) [98, 111, 98, 98, 105, 110] = false ∧ (v 2) = if sW (xE (zyEl zymc B s.heap) 36) (xE (zyEl zymc B s.heap) 35 7) (xE (zyEl zymc B s.heap) 35 5) (xE (zyEl zymc B s.heap) 35 6) [115, 116, 117, 99, 107] = true then 1 else 0) ∧ (xE (zyEl zymc B H) 35 2 = xE (zyEl zymc B s.heap) 35 2 ∧ xE (zyEl zymc B H) 35 3 = xE (zyEl zymc B s.heap) 35 3) := hInv
        obtain ⟨hI, hSm⟩ := hI
        have q35_5 : xE (zyEl zymc B H) 35 5 = xE (zyEl zymc B s.heap) 35 5 := by rw [hI.1]
        have q35_6 : xE (zyEl zymc B H) 35 6 = xE (zyEl zymc B s.heap) 35 6 := by rw [hI.1]
        have q35_7 : xE (zyEl zymc B H) 35 7 = xE (zyEl zymc B s.heap) 35 7 := by rw [hI.1]
        have q35_8 : xE (zyEl zymc B H) 35 8 = xE (zyEl zymc B s.heap) 35 8 := by rw [hI.1]
        have q35_2 : xE (zyEl zymc B H) 35 2 = xE (zyEl zymc B s.heap) 35 2 := by rw [hI.1]
        have q35_3 : xE (zyEl zymc B H) 35 3 = xE (zyEl zymc B s.heap) 35 3 := by rw [hI.1]
        obtain ⟨hE, n0, n1, i3⟩ := hI
        obtain ⟨S0, hS0⟩ := hΦ.2.1
        obtain ⟨pp, hpp, hA0⟩ := hΦ.2.2
        have y2 : sW (xE (zyEl zymc B s.heap) 36) (xE (zyEl zymc B s.heap) 35 7) (xE (zyEl zymc B s.heap) 35 5) (xE (zyEl zymc B s.heap) 35 6) [115, 116, 117, 99, 107] = true := by
          by_cases h : sW (xE (zyEl zymc B s.heap) 36) (xE (zyEl zymc B s.heap) 35 7) (xE (zyEl zymc B s.heap) 35 5) (xE (zyEl zymc B s.heap) 35 6) [115, 116, 117, 99, 107] = true
          · exact h
          · rw [if_neg h] at i3
            omega
        have hE20 := (xFr_n hfr).trans hE
        refine xCa hRu hIH hAt hB hv hFr (hfrk0 B) (ix := 89) (ax := 1024) rfl rfl rfl hmefrk0 ⟨_, rfl, rfl, by decide⟩ ⟨rfl, rfl, rfl⟩ (by decide) [] [] [] rfl ⟨rfl, rfl⟩ (by decide +kernel) xcs_n (by decide +kernel) ?_ (fun H3 r hT3 hf3 hFr3 hr3 hΨ3 => ?_)
        · show xΦrd0 (xfv []) (zyEl zymc B H2)
          rw [hE20]
          exact ⟨hΦ.1, S0, hS0⟩
        · have hΨ3 : xΨfrk0S (xfv []) (zyEl zymc B H2) (zyEl zymc B H3) r := hΨ3
          obtain ⟨hΨ3, hS3⟩ := hΨ3
          have hΨ3 : xΨfrk0 (xfv []) (zyEl zymc B H2) (zyEl zymc B H3) r := hΨ3
          have hS3 : (¬ (r) = 0 → (xE (zyEl zymc B H3) 35 2 = xE (zyEl zymc B H2) 35 2 ∧ xE (zyEl zymc B H3) 35 3 = xE (zyEl zymc B H2) 35 3)) := hS3
          have d35_4 : xE (zyEl zymc B H3) 35 4 = xE (zyEl zymc B H2) 35 4 := xFr_E hf3 rfl
          have d36 : ∀ i, xE (zyEl zymc B H3) 36 i = xE (zyEl zymc B H2) 36 i := fun i => xFr_E hf3 rfl
          unfold xΨfrk0 at hΨ3
          rw [hE20] at hΨ3
          have hr01 : r = 0 ∨ r = 1 := xOut0_r (hΨ3 S0 hS0)
          refine ⟨⟨6, by decide⟩, [0, 0], [0, 0, r], rfl, ⟨by decide +kernel, ⟨rfl, by decide +kernel⟩, (xcs_c rfl (xcs_c rfl xcs_n)), (xe_0 (xe_0 (xe_c (by omega) (by omega) rfl xe_n))), xkq_n⟩, (by rw [if_pos rfl]; exact ⟨2, [], rfl, by decide, rfl, xst_n⟩), ?_, ?_⟩
          · show ((zyEl zymc B s.heap) = (zyEl zymc B s.heap) ∧ ∀ p S, p ≤ xE (zyEl zymc B s.heap) 35 4 → xAD (xE (zyEl zymc B s.heap) 36) (xE (zyEl zymc B s.heap) 35 4) p (zyEl zymc B s.heap) → xAb0 (zyEl zymc B s.heap) S → xOut0 (pLine (xE (zyEl zymc B s.heap) 36) (xE (zyEl zymc B s.heap) 35 4) p S) (zyEl zymc B H3) (r : Int)) ∧ (¬ (r : Int) = 0 → (xE (zyEl zymc B H3) 35 2 = xE (zyEl zymc B s.heap) 35 2 ∧ xE (zyEl zymc B H3) 35 3 = xE (zyEl zymc B s.heap) 35 3))
            refine ⟨?_, ?_⟩
            · skip
              refine ⟨rfl, fun p S hp ⟨a1, a2, a3, a4⟩ hS => ?_⟩
              have w := hΨ3 S hS
              rw [a1] at w
              rw [a1, a2, a3] at n0 n1 y2
              unfold pLine pBody tW
              rw [n0, if_neg (by decide), n1, if_neg (by decide), y2, if_pos rfl]
              exact w
            · omega
          · show 1 < 48
            omega
      · skip
        have ex := List.mem_singleton.mp hx
        subst ex
        obtain ⟨hF, hBd, hM⟩ := hXs
        have g2 : v2 2 = v 2 := hag 2 (by decide)
        have b0 : ((2147483648 : Nat) : Int) ≤ (v2 2) + 2147483648 ∧ (v2 2) + 2147483648 ≤ ((2147483648 : Nat) : Int) := xXb hBd 0 rfl
        have f0 : (v2 2) = 0 := xXf hF 0 rfl
        have e35_4 : xE (zyEl zymc B H2) 35 4 = xE (zyEl zymc B H) 35 4 := xFr_E hfr rfl
        have q35_4 : xE (zyEl zymc B H) 35 4 = xE (zyEl zymc B s.heap) 35 4 := xFr_E hFr0 rfl
        have e35_5 : xE (zyEl zymc B H2) 35 5 = xE (zyEl zymc B H) 35 5 := xFr_E hfr rfl
        have e35_6 : xE (zyEl zymc B H2) 35 6 = xE (zyEl zymc B H) 35 6 := xFr_E hfr rfl
        have e35_7 : xE (zyEl zymc B H2) 35 7 = xE (zyEl zymc B H) 35 7 := xFr_E hfr rfl
        have e35_8 : xE (zyEl zymc B H2) 35 8 = xE (zyEl zymc B H) 35 8 := xFr_E hfr rfl
        have e35_2 : xE (zyEl zymc B H2) 35 2 = xE (zyEl zymc B H) 35 2 := xFr_E hfr rfl
        have e35_3 : xE (zyEl zymc B H2) 35 3 = xE (zyEl zymc B H) 35 3 := xFr_E hfr rfl
        have e36 : ∀ i, xE (zyEl zymc B H2) 36 i = xE (zyEl zymc B H) 36 i := fun i => xFr_E hfr rfl
        have q36 : ∀ i, xE (zyEl zymc B H) 36 i = xE (zyEl zymc B s.heap) 36 i := fun i => xFr_E hFr0 rfl
        have hI : ((zyEl zymc B H) = (zyEl zymc B s.heap) ∧ sW (xE (zyEl zymc B s.heap) 36) (xE (zyEl zymc B s.heap) 35 7) (xE (zyEl zymc B s.heap) 35 5) (xE (zyEl zymc B s.heap) 35 6) [115, 119, 105, 116, 99, 104] = false ∧ sW (xE (zyEl zymc B s.heap) 36) (xE (zyEl zymc B s.heap) 35 7) (xE (zyEl zymc B s.heap) 35 5) (xE (zyEl zymc B s.heap) 35 6) [98, 111, 98, 98, 105, 110] = false ∧ (v 2) = if sW (xE (zyEl zymc B s.heap) 36) (xE (zyEl zymc B s.heap) 35 7) (xE (zyEl zymc B s.heap) 35 5) (xE (zyEl zymc B s.heap) 35 6) [115, 116, 117, 99, 107] = true then 1 else 0) ∧ (xE (zyEl zymc B H) 35 2 = xE (zyEl zymc B s.heap) 35 2 ∧ xE (zyEl zymc B H) 35 3 = xE (zyEl zymc B s.heap) 35 3) := hInv
        obtain ⟨hI, hSm⟩ := hI
        have q35_5 : xE (zyEl zymc B H) 35 5 = xE (zyEl zymc B s.heap) 35 5 := by rw [hI.1]
        have q35_6 : xE (zyEl zymc B H) 35 6 = xE (zyEl zymc B s.heap) 35 6 := by rw [hI.1]
        have q35_7 : xE (zyEl zymc B H) 35 7 = xE (zyEl zymc B s.heap) 35 7 := by rw [hI.1]
        have q35_8 : xE (zyEl zymc B H) 35 8 = xE (zyEl zymc B s.heap) 35 8 := by rw [hI.1]
        have q35_2 : xE (zyEl zymc B H) 35 2 = xE (zyEl zymc B s.heap) 35 2 := by rw [hI.1]
        have q35_3 : xE (zyEl zymc B H) 35 3 = xE (zyEl zymc B s.heap) 35 3 := by rw [hI.1]
        obtain ⟨hE, n0, n1, i3⟩ := hI
        obtain ⟨S0, hS0⟩ := hΦ.2.1
        obtain ⟨pp, hpp, hA0⟩ := hΦ.2.2
        have n2 : sW (xE (zyEl zymc B s.heap) 36) (xE (zyEl zymc B s.heap) 35 7) (xE (zyEl zymc B s.heap) 35 5) (xE (zyEl zymc B s.heap) 35 6) [115, 116, 117, 99, 107] = false := by
          rw [Bool.eq_false_iff]
          intro h
          rw [if_pos h] at i3
          omega
        have hE20 := (xFr_n hfr).trans hE
        refine xCa hRu hIH hAt hB hv hFr (hfwfr B) (ix := 48) (ax := 1152) rfl rfl rfl hmefwfr ⟨_, rfl, rfl, by decide⟩ ⟨rfl, rfl, rfl⟩ (by decide) [] [] [] rfl ⟨rfl, rfl⟩ (by decide +kernel) xcs_n (by decide +kernel) ?_ (fun H3 r hT3 hf3 hFr3 hr3 hΨ3 => ?_)
        · show xΦ0 (xfv []) (zyEl zymc B H2)
          exact trivial
        · have hΨ3 : xΨfwfr (xfv []) (zyEl zymc B H2) (zyEl zymc B H3) r := hΨ3
          have d35_4 : xE (zyEl zymc B H3) 35 4 = xE (zyEl zymc B H2) 35 4 := xFr_E hf3 rfl
          have d35_5 : xE (zyEl zymc B H3) 35 5 = xE (zyEl zymc B H2) 35 5 := xFr_E hf3 rfl
          have d35_6 : xE (zyEl zymc B H3) 35 6 = xE (zyEl zymc B H2) 35 6 := xFr_E hf3 rfl
          have d35_7 : xE (zyEl zymc B H3) 35 7 = xE (zyEl zymc B H2) 35 7 := xFr_E hf3 rfl
          have d35_8 : xE (zyEl zymc B H3) 35 8 = xE (zyEl zymc B H2) 35 8 := xFr_E hf3 rfl
          have d35_2 : xE (zyEl zymc B H3) 35 2 = xE (zyEl zymc B H2) 35 2 := xFr_E hf3 rfl
          have d35_3 : xE (zyEl zymc B H3) 35 3 = xE (zyEl zymc B H2) 35 3 := xFr_E hf3 rfl
          have d36 : ∀ i, xE (zyEl zymc B H3) 36 i = xE (zyEl zymc B H2) 36 i := fun i => xFr_E hf3 rfl
          unfold xΨfwfr at hΨ3
          have hr01 : r = 0 ∨ r = 1 := by
            rw [hΨ3]
            split <;> omega
          have hEE3 : (zyEl zymc B H3) = (zyEl zymc B s.heap) := (xFr_n hf3).trans hE20
          rw [hE20] at hΨ3
          refine ⟨⟨7, by decide⟩, [0, 0], [0, 0, r], rfl, ⟨by decide +kernel, ⟨rfl, by decide +kernel⟩, (xcs_c rfl (xcs_c rfl xcs_n)), (xe_0 (xe_0 (xe_c (by omega) (by omega) rfl xe_n))), xkq_n⟩, (by rw [if_pos rfl]; exact ⟨2, [], rfl, by decide, rfl, xst_n⟩), ?_, ?_⟩
          · show ((zyEl zymc B H3) = (zyEl zymc B s.heap) ∧ sW (xE (zyEl zymc B s.heap) 36) (xE (zyEl zymc B s.heap) 35 7) (xE (zyEl zymc B s.heap) 35 5) (xE (zyEl zymc B s.heap) 35 6) [115, 119, 105, 116, 99, 104] = false ∧ sW (xE (zyEl zymc B s.heap) 36) (xE (zyEl zymc B s.heap) 35 7) (xE (zyEl zymc B s.heap) 35 5) (xE (zyEl zymc B s.heap) 35 6) [98, 111, 98, 98, 105, 110] = false ∧ sW (xE (zyEl zymc B s.heap) 36) (xE (zyEl zymc B s.heap) 35 7) (xE (zyEl zymc B s.heap) 35 5) (xE (zyEl zymc B s.heap) 35 6) [115, 116, 117, 99, 107] = false ∧ (r : Int) = if sW (xE (zyEl zymc B s.heap) 36) (xE (zyEl zymc B s.heap) 35 7) (xE (zyEl zymc B s.heap) 35 5) (xE (zyEl zymc B s.heap) 35 6) [102, 114, 101, 101] = true then 1 else 0) ∧ (xE (zyEl zymc B H3) 35 2 = xE (zyEl zymc B s.heap) 35 2 ∧ xE (zyEl zymc B H3) 35 3 = xE (zyEl zymc B s.heap) 35 3)
            refine ⟨?_, ?_⟩
            · skip
              exact ⟨hEE3, n0, n1, n2, hΨ3⟩
            · omega
          · show 47 < 48
            omega
    · cases hx
    · have hx : x ∈ [zxfrl0_w3x0, zxfrl0_w3x1] := hx
      have hag : ∀ k, k < 3 → v2 k = v k := hag
      have hfr : xFr [] _ _ := hfr
      rcases List.mem_cons.mp hx with ex | hx
      · subst ex
        obtain ⟨hF, hBd, hM⟩ := hXs
        have g2 : v2 2 = v 2 := hag 2 (by decide)
        have b0 : ((2147483649 : Nat) : Int) ≤ (v2 2) + 2147483648 ∧ (v2 2) + 2147483648 ≤ ((2147483649 : Nat) : Int) := xXb hBd 0 rfl
        have f0 : ¬ (v2 2) = 0 := xXf hF 0 rfl
        have e35_4 : xE (zyEl zymc B H2) 35 4 = xE (zyEl zymc B H) 35 4 := xFr_E hfr rfl
        have q35_4 : xE (zyEl zymc B H) 35 4 = xE (zyEl zymc B s.heap) 35 4 := xFr_E hFr0 rfl
        have e35_5 : xE (zyEl zymc B H2) 35 5 = xE (zyEl zymc B H) 35 5 := xFr_E hfr rfl
        have e35_6 : xE (zyEl zymc B H2) 35 6 = xE (zyEl zymc B H) 35 6 := xFr_E hfr rfl
        have e35_7 : xE (zyEl zymc B H2) 35 7 = xE (zyEl zymc B H) 35 7 := xFr_E hfr rfl
        have e35_8 : xE (zyEl zymc B H2) 35 8 = xE (zyEl zymc B H) 35 8 := xFr_E hfr rfl
        have e35_2 : xE (zyEl zymc B H2) 35 2 = xE (zyEl zymc B H) 35 2 := xFr_E hfr rfl
        have e35_3 : xE (zyEl zymc B H2) 35 3 = xE (zyEl zymc B H) 35 3 := xFr_E hfr rfl
        have e36 : ∀ i, xE (zyEl zymc B H2) 36 i = xE (zyEl zymc B H) 36 i := fun i => xFr_E hfr rfl
        have q36 : ∀ i, xE (zyEl zymc B H) 36 i = xE (zyEl zymc B s.heap) 36 i := fun i => xFr_E hFr0 rfl
        have hI : ((zyEl zymc B H) = (zyEl zymc B s.heap) ∧ sW (xE (zyEl zymc B s.heap) 36) (xE (zyEl zymc B s.heap) 35 7) (xE (zyEl zymc B s.heap) 35 5) (xE (zyEl zymc B s.heap) 35 6) [115, 119, 105, 116, 99, 104] = false ∧ sW (xE (zyEl zymc B s.heap) 36) (xE (zyEl zymc B s.heap) 35 7) (xE (zyEl zymc B s.heap) 35 5) (xE (zyEl zymc B s.heap) 35 6) [98, 111, 98, 98, 105, 110] = false ∧ sW (xE (zyEl zymc B s.heap) 36) (xE (zyEl zymc B s.heap) 35 7) (xE (zyEl zymc B s.heap) 35 5) (xE (zyEl zymc B s.heap) 35 6) [115, 116, 117, 99, 107] = false ∧ (v 2) = if sW (xE (zyEl zymc B s.heap) 36) (xE (zyEl zymc B s.heap) 35 7) (xE (zyEl zymc B s.heap) 35 5) (xE (zyEl zymc B s.heap) 35 6) [102, 114, 101, 101] = true then 1 else 0) ∧ (xE (zyEl zymc B H) 35 2 = xE (zyEl zymc B s.heap) 35 2 ∧ xE (zyEl zymc B H) 35 3 = xE (zyEl zymc B s.heap) 35 3) := hInv
        obtain ⟨hI, hSm⟩ := hI
        have q35_5 : xE (zyEl zymc B H) 35 5 = xE (zyEl zymc B s.heap) 35 5 := by rw [hI.1]
        have q35_6 : xE (zyEl zymc B H) 35 6 = xE (zyEl zymc B s.heap) 35 6 := by rw [hI.1]
        have q35_7 : xE (zyEl zymc B H) 35 7 = xE (zyEl zymc B s.heap) 35 7 := by rw [hI.1]
        have q35_8 : xE (zyEl zymc B H) 35 8 = xE (zyEl zymc B s.heap) 35 8 := by rw [hI.1]
        have q35_2 : xE (zyEl zymc B H) 35 2 = xE (zyEl zymc B s.heap) 35 2 := by rw [hI.1]
        have q35_3 : xE (zyEl zymc B H) 35 3 = xE (zyEl zymc B s.heap) 35 3 := by rw [hI.1]
        obtain ⟨hE, n0, n1, n2, i3⟩ := hI
        obtain ⟨S0, hS0⟩ := hΦ.2.1
        obtain ⟨pp, hpp, hA0⟩ := hΦ.2.2
        have y3 : sW (xE (zyEl zymc B s.heap) 36) (xE (zyEl zymc B s.heap) 35 7) (xE (zyEl zymc B s.heap) 35 5) (xE (zyEl zymc B s.heap) 35 6) [102, 114, 101, 101] = true := by
          by_cases h : sW (xE (zyEl zymc B s.heap) 36) (xE (zyEl zymc B s.heap) 35 7) (xE (zyEl zymc B s.heap) 35 5) (xE (zyEl zymc B s.heap) 35 6) [102, 114, 101, 101] = true
          · exact h
          · rw [if_neg h] at i3
            omega
        have hE20 := (xFr_n hfr).trans hE
        refine xCa hRu hIH hAt hB hv hFr (hfrf0 B) (ix := 94) (ax := 1040) rfl rfl rfl hmefrf0 ⟨_, rfl, rfl, by decide⟩ ⟨rfl, rfl, rfl⟩ (by decide) [] [] [] rfl ⟨rfl, rfl⟩ (by decide +kernel) xcs_n (by decide +kernel) ?_ (fun H3 r hT3 hf3 hFr3 hr3 hΨ3 => ?_)
        · show xΦrd0 (xfv []) (zyEl zymc B H2)
          rw [hE20]
          exact ⟨hΦ.1, S0, hS0⟩
        · have hΨ3 : xΨfrf0S (xfv []) (zyEl zymc B H2) (zyEl zymc B H3) r := hΨ3
          obtain ⟨hΨ3, hS3⟩ := hΨ3
          have hΨ3 : xΨfrf0 (xfv []) (zyEl zymc B H2) (zyEl zymc B H3) r := hΨ3
          have hS3 : (¬ (r) = 0 → (xE (zyEl zymc B H3) 35 2 = xE (zyEl zymc B H2) 35 2 ∧ xE (zyEl zymc B H3) 35 3 = xE (zyEl zymc B H2) 35 3)) := hS3
          have d35_4 : xE (zyEl zymc B H3) 35 4 = xE (zyEl zymc B H2) 35 4 := xFr_E hf3 rfl
          have d36 : ∀ i, xE (zyEl zymc B H3) 36 i = xE (zyEl zymc B H2) 36 i := fun i => xFr_E hf3 rfl
          unfold xΨfrf0 at hΨ3
          rw [hE20] at hΨ3
          have hr01 : r = 0 ∨ r = 1 := xOut0_r (hΨ3 S0 pp hS0 hA0.2.1.symm)
          refine ⟨⟨8, by decide⟩, [0, 0], [0, 0, r], rfl, ⟨by decide +kernel, ⟨rfl, by decide +kernel⟩, (xcs_c rfl (xcs_c rfl xcs_n)), (xe_0 (xe_0 (xe_c (by omega) (by omega) rfl xe_n))), xkq_n⟩, (by rw [if_pos rfl]; exact ⟨2, [], rfl, by decide, rfl, xst_n⟩), ?_, ?_⟩
          · show ((zyEl zymc B s.heap) = (zyEl zymc B s.heap) ∧ ∀ p S, p ≤ xE (zyEl zymc B s.heap) 35 4 → xAD (xE (zyEl zymc B s.heap) 36) (xE (zyEl zymc B s.heap) 35 4) p (zyEl zymc B s.heap) → xAb0 (zyEl zymc B s.heap) S → xOut0 (pLine (xE (zyEl zymc B s.heap) 36) (xE (zyEl zymc B s.heap) 35 4) p S) (zyEl zymc B H3) (r : Int)) ∧ (¬ (r : Int) = 0 → (xE (zyEl zymc B H3) 35 2 = xE (zyEl zymc B s.heap) 35 2 ∧ xE (zyEl zymc B H3) 35 3 = xE (zyEl zymc B s.heap) 35 3))
            refine ⟨?_, ?_⟩
            · skip
              refine ⟨rfl, fun p S hp ⟨a1, a2, a3, a4⟩ hS => ?_⟩
              have w := hΨ3 S p hS a2.symm
              rw [a1] at w
              rw [a1, a2, a3] at n0 n1 n2 y3
              unfold pLine pBody tW
              rw [n0, if_neg (by decide), n1, if_neg (by decide), n2, if_neg (by decide), y3, if_pos rfl]
              exact w
            · omega
          · show 1 < 47
            omega
      · skip
        have ex := List.mem_singleton.mp hx
        subst ex
        obtain ⟨hF, hBd, hM⟩ := hXs
        have g2 : v2 2 = v 2 := hag 2 (by decide)
        have b0 : ((2147483648 : Nat) : Int) ≤ (v2 2) + 2147483648 ∧ (v2 2) + 2147483648 ≤ ((2147483648 : Nat) : Int) := xXb hBd 0 rfl
        have f0 : (v2 2) = 0 := xXf hF 0 rfl
        have e35_4 : xE (zyEl zymc B H2) 35 4 = xE (zyEl zymc B H) 35 4 := xFr_E hfr rfl
        have q35_4 : xE (zyEl zymc B H) 35 4 = xE (zyEl zymc B s.heap) 35 4 := xFr_E hFr0 rfl
        have e35_5 : xE (zyEl zymc B H2) 35 5 = xE (zyEl zymc B H) 35 5 := xFr_E hfr rfl
        have e35_6 : xE (zyEl zymc B H2) 35 6 = xE (zyEl zymc B H) 35 6 := xFr_E hfr rfl
        have e35_7 : xE (zyEl zymc B H2) 35 7 = xE (zyEl zymc B H) 35 7 := xFr_E hfr rfl
        have e35_8 : xE (zyEl zymc B H2) 35 8 = xE (zyEl zymc B H) 35 8 := xFr_E hfr rfl
        have e35_2 : xE (zyEl zymc B H2) 35 2 = xE (zyEl zymc B H) 35 2 := xFr_E hfr rfl
        have e35_3 : xE (zyEl zymc B H2) 35 3 = xE (zyEl zymc B H) 35 3 := xFr_E hfr rfl
        have e36 : ∀ i, xE (zyEl zymc B H2) 36 i = xE (zyEl zymc B H) 36 i := fun i => xFr_E hfr rfl
        have q36 : ∀ i, xE (zyEl zymc B H) 36 i = xE (zyEl zymc B s.heap) 36 i := fun i => xFr_E hFr0 rfl
        have hI : ((zyEl zymc B H) = (zyEl zymc B s.heap) ∧ sW (xE (zyEl zymc B s.heap) 36) (xE (zyEl zymc B s.heap) 35 7) (xE (zyEl zymc B s.heap) 35 5) (xE (zyEl zymc B s.heap) 35 6) [115, 119, 105, 116, 99, 104] = false ∧ sW (xE (zyEl zymc B s.heap) 36) (xE (zyEl zymc B s.heap) 35 7) (xE (zyEl zymc B s.heap) 35 5) (xE (zyEl zymc B s.heap) 35 6) [98, 111, 98, 98, 105, 110] = false ∧ sW (xE (zyEl zymc B s.heap) 36) (xE (zyEl zymc B s.heap) 35 7) (xE (zyEl zymc B s.heap) 35 5) (xE (zyEl zymc B s.heap) 35 6) [115, 116, 117, 99, 107] = false ∧ (v 2) = if sW (xE (zyEl zymc B s.heap) 36) (xE (zyEl zymc B s.heap) 35 7) (xE (zyEl zymc B s.heap) 35 5) (xE (zyEl zymc B s.heap) 35 6) [102, 114, 101, 101] = true then 1 else 0) ∧ (xE (zyEl zymc B H) 35 2 = xE (zyEl zymc B s.heap) 35 2 ∧ xE (zyEl zymc B H) 35 3 = xE (zyEl zymc B s.heap) 35 3) := hInv
        obtain ⟨hI, hSm⟩ := hI
        have q35_5 : xE (zyEl zymc B H) 35 5 = xE (zyEl zymc B s.heap) 35 5 := by rw [hI.1]
        have q35_6 : xE (zyEl zymc B H) 35 6 = xE (zyEl zymc B s.heap) 35 6 := by rw [hI.1]
        have q35_7 : xE (zyEl zymc B H) 35 7 = xE (zyEl zymc B s.heap) 35 7 := by rw [hI.1]
        have q35_8 : xE (zyEl zymc B H) 35 8 = xE (zyEl zymc B s.heap) 35 8 := by rw [hI.1]
        have q35_2 : xE (zyEl zymc B H) 35 2 = xE (zyEl zymc B s.heap) 35 2 := by rw [hI.1]
        have q35_3 : xE (zyEl zymc B H) 35 3 = xE (zyEl zymc B s.heap) 35 3 := by rw [hI.1]
        obtain ⟨hE, n0, n1, n2, i3⟩ := hI
        obtain ⟨S0, hS0⟩ := hΦ.2.1
        obtain ⟨pp, hpp, hA0⟩ := hΦ.2.2
        have n3 : sW (xE (zyEl zymc B s.heap) 36) (xE (zyEl zymc B s.heap) 35 7) (xE (zyEl zymc B s.heap) 35 5) (xE (zyEl zymc B s.heap) 35 6) [102, 114, 101, 101] = false := by
          rw [Bool.eq_false_iff]
          intro h
          rw [if_pos h] at i3
          omega
        have hE20 := (xFr_n hfr).trans hE
        refine xCa hRu hIH hAt hB hv hFr (hfwpl B) (ix := 48) (ax := 1152) rfl rfl rfl hmefwpl ⟨_, rfl, rfl, by decide⟩ ⟨rfl, rfl, rfl⟩ (by decide) [] [] [] rfl ⟨rfl, rfl⟩ (by decide +kernel) xcs_n (by decide +kernel) ?_ (fun H3 r hT3 hf3 hFr3 hr3 hΨ3 => ?_)
        · show xΦ0 (xfv []) (zyEl zymc B H2)
          exact trivial
        · have hΨ3 : xΨfwpl (xfv []) (zyEl zymc B H2) (zyEl zymc B H3) r := hΨ3
          have d35_4 : xE (zyEl zymc B H3) 35 4 = xE (zyEl zymc B H2) 35 4 := xFr_E hf3 rfl
          have d35_5 : xE (zyEl zymc B H3) 35 5 = xE (zyEl zymc B H2) 35 5 := xFr_E hf3 rfl
          have d35_6 : xE (zyEl zymc B H3) 35 6 = xE (zyEl zymc B H2) 35 6 := xFr_E hf3 rfl
          have d35_7 : xE (zyEl zymc B H3) 35 7 = xE (zyEl zymc B H2) 35 7 := xFr_E hf3 rfl
          have d35_8 : xE (zyEl zymc B H3) 35 8 = xE (zyEl zymc B H2) 35 8 := xFr_E hf3 rfl
          have d35_2 : xE (zyEl zymc B H3) 35 2 = xE (zyEl zymc B H2) 35 2 := xFr_E hf3 rfl
          have d35_3 : xE (zyEl zymc B H3) 35 3 = xE (zyEl zymc B H2) 35 3 := xFr_E hf3 rfl
          have d36 : ∀ i, xE (zyEl zymc B H3) 36 i = xE (zyEl zymc B H2) 36 i := fun i => xFr_E hf3 rfl
          unfold xΨfwpl at hΨ3
          have hr01 : r = 0 ∨ r = 1 := by
            rw [hΨ3]
            split <;> omega
          have hEE3 : (zyEl zymc B H3) = (zyEl zymc B s.heap) := (xFr_n hf3).trans hE20
          rw [hE20] at hΨ3
          refine ⟨⟨9, by decide⟩, [0, 0], [0, 0, r], rfl, ⟨by decide +kernel, ⟨rfl, by decide +kernel⟩, (xcs_c rfl (xcs_c rfl xcs_n)), (xe_0 (xe_0 (xe_c (by omega) (by omega) rfl xe_n))), xkq_n⟩, (by rw [if_pos rfl]; exact ⟨2, [], rfl, by decide, rfl, xst_n⟩), ?_, ?_⟩
          · show ((zyEl zymc B H3) = (zyEl zymc B s.heap) ∧ sW (xE (zyEl zymc B s.heap) 36) (xE (zyEl zymc B s.heap) 35 7) (xE (zyEl zymc B s.heap) 35 5) (xE (zyEl zymc B s.heap) 35 6) [115, 119, 105, 116, 99, 104] = false ∧ sW (xE (zyEl zymc B s.heap) 36) (xE (zyEl zymc B s.heap) 35 7) (xE (zyEl zymc B s.heap) 35 5) (xE (zyEl zymc B s.heap) 35 6) [98, 111, 98, 98, 105, 110] = false ∧ sW (xE (zyEl zymc B s.heap) 36) (xE (zyEl zymc B s.heap) 35 7) (xE (zyEl zymc B s.heap) 35 5) (xE (zyEl zymc B s.heap) 35 6) [115, 116, 117, 99, 107] = false ∧ sW (xE (zyEl zymc B s.heap) 36) (xE (zyEl zymc B s.heap) 35 7) (xE (zyEl zymc B s.heap) 35 5) (xE (zyEl zymc B s.heap) 35 6) [102, 114, 101, 101] = false ∧ (r : Int) = if sW (xE (zyEl zymc B s.heap) 36) (xE (zyEl zymc B s.heap) 35 7) (xE (zyEl zymc B s.heap) 35 5) (xE (zyEl zymc B s.heap) 35 6) [112, 108, 97, 99, 101] = true then 1 else 0) ∧ (xE (zyEl zymc B H3) 35 2 = xE (zyEl zymc B s.heap) 35 2 ∧ xE (zyEl zymc B H3) 35 3 = xE (zyEl zymc B s.heap) 35 3)
            refine ⟨?_, ?_⟩
            · skip
              exact ⟨hEE3, n0, n1, n2, n3, hΨ3⟩
            · omega
          · show 46 < 47
            omega
    · cases hx
    · have hx : x ∈ [zxfrl0_w4x0, zxfrl0_w4x1] := hx
      have hag : ∀ k, k < 3 → v2 k = v k := hag
      have hfr : xFr [] _ _ := hfr
      rcases List.mem_cons.mp hx with ex | hx
      · subst ex
        obtain ⟨hF, hBd, hM⟩ := hXs
        have g2 : v2 2 = v 2 := hag 2 (by decide)
        have b0 : ((2147483649 : Nat) : Int) ≤ (v2 2) + 2147483648 ∧ (v2 2) + 2147483648 ≤ ((2147483649 : Nat) : Int) := xXb hBd 0 rfl
        have f0 : ¬ (v2 2) = 0 := xXf hF 0 rfl
        have e35_4 : xE (zyEl zymc B H2) 35 4 = xE (zyEl zymc B H) 35 4 := xFr_E hfr rfl
        have q35_4 : xE (zyEl zymc B H) 35 4 = xE (zyEl zymc B s.heap) 35 4 := xFr_E hFr0 rfl
        have e35_5 : xE (zyEl zymc B H2) 35 5 = xE (zyEl zymc B H) 35 5 := xFr_E hfr rfl
        have e35_6 : xE (zyEl zymc B H2) 35 6 = xE (zyEl zymc B H) 35 6 := xFr_E hfr rfl
        have e35_7 : xE (zyEl zymc B H2) 35 7 = xE (zyEl zymc B H) 35 7 := xFr_E hfr rfl
        have e35_8 : xE (zyEl zymc B H2) 35 8 = xE (zyEl zymc B H) 35 8 := xFr_E hfr rfl
        have e35_2 : xE (zyEl zymc B H2) 35 2 = xE (zyEl zymc B H) 35 2 := xFr_E hfr rfl
        have e35_3 : xE (zyEl zymc B H2) 35 3 = xE (zyEl zymc B H) 35 3 := xFr_E hfr rfl
        have e36 : ∀ i, xE (zyEl zymc B H2) 36 i = xE (zyEl zymc B H) 36 i := fun i => xFr_E hfr rfl
        have q36 : ∀ i, xE (zyEl zymc B H) 36 i = xE (zyEl zymc B s.heap) 36 i := fun i => xFr_E hFr0 rfl
        have hI : ((zyEl zymc B H) = (zyEl zymc B s.heap) ∧ sW (xE (zyEl zymc B s.heap) 36) (xE (zyEl zymc B s.heap) 35 7) (xE (zyEl zymc B s.heap) 35 5) (xE (zyEl zymc B s.heap) 35 6) [115, 119, 105, 116, 99, 104] = false ∧ sW (xE (zyEl zymc B s.heap) 36) (xE (zyEl zymc B s.heap) 35 7) (xE (zyEl zymc B s.heap) 35 5) (xE (zyEl zymc B s.heap) 35 6) [98, 111, 98, 98, 105, 110] = false ∧ sW (xE (zyEl zymc B s.heap) 36) (xE (zyEl zymc B s.heap) 35 7) (xE (zyEl zymc B s.heap) 35 5) (xE (zyEl zymc B s.heap) 35 6) [115, 116, 117, 99, 107] = false ∧ sW (xE (zyEl zymc B s.heap) 36) (xE (zyEl zymc B s.heap) 35 7) (xE (zyEl zymc B s.heap) 35 5) (xE (zyEl zymc B s.heap) 35 6) [102, 114, 101, 101] = false ∧ (v 2) = if sW (xE (zyEl zymc B s.heap) 36) (xE (zyEl zymc B s.heap) 35 7) (xE (zyEl zymc B s.heap) 35 5) (xE (zyEl zymc B s.heap) 35 6) [112, 108, 97, 99, 101] = true then 1 else 0) ∧ (xE (zyEl zymc B H) 35 2 = xE (zyEl zymc B s.heap) 35 2 ∧ xE (zyEl zymc B H) 35 3 = xE (zyEl zymc B s.heap) 35 3) := hInv
        obtain ⟨hI, hSm⟩ := hI
        have q35_5 : xE (zyEl zymc B H) 35 5 = xE (zyEl zymc B s.heap) 35 5 := by rw [hI.1]
        have q35_6 : xE (zyEl zymc B H) 35 6 = xE (zyEl zymc B s.heap) 35 6 := by rw [hI.1]
        have q35_7 : xE (zyEl zymc B H) 35 7 = xE (zyEl zymc B s.heap) 35 7 := by rw [hI.1]
        have q35_8 : xE (zyEl zymc B H) 35 8 = xE (zyEl zymc B s.heap) 35 8 := by rw [hI.1]
        have q35_2 : xE (zyEl zymc B H) 35 2 = xE (zyEl zymc B s.heap) 35 2 := by rw [hI.1]
        have q35_3 : xE (zyEl zymc B H) 35 3 = xE (zyEl zymc B s.heap) 35 3 := by rw [hI.1]
        obtain ⟨hE, n0, n1, n2, n3, i3⟩ := hI
        obtain ⟨S0, hS0⟩ := hΦ.2.1
        obtain ⟨pp, hpp, hA0⟩ := hΦ.2.2
        have y4 : sW (xE (zyEl zymc B s.heap) 36) (xE (zyEl zymc B s.heap) 35 7) (xE (zyEl zymc B s.heap) 35 5) (xE (zyEl zymc B s.heap) 35 6) [112, 108, 97, 99, 101] = true := by
          by_cases h : sW (xE (zyEl zymc B s.heap) 36) (xE (zyEl zymc B s.heap) 35 7) (xE (zyEl zymc B s.heap) 35 5) (xE (zyEl zymc B s.heap) 35 6) [112, 108, 97, 99, 101] = true
          · exact h
          · rw [if_neg h] at i3
            omega
        have hE20 := (xFr_n hfr).trans hE
        refine xCa hRu hIH hAt hB hv hFr (hfrp0 B) (ix := 98) (ax := 1056) rfl rfl rfl hmefrp0 ⟨_, rfl, rfl, by decide⟩ ⟨rfl, rfl, rfl⟩ (by decide) [] [] [] rfl ⟨rfl, rfl⟩ (by decide +kernel) xcs_n (by decide +kernel) ?_ (fun H3 r hT3 hf3 hFr3 hr3 hΨ3 => ?_)
        · show xΦrd0 (xfv []) (zyEl zymc B H2)
          rw [hE20]
          exact ⟨hΦ.1, S0, hS0⟩
        · have hΨ3 : xΨfrp0S (xfv []) (zyEl zymc B H2) (zyEl zymc B H3) r := hΨ3
          obtain ⟨hΨ3, hS3⟩ := hΨ3
          have hΨ3 : xΨfrp0 (xfv []) (zyEl zymc B H2) (zyEl zymc B H3) r := hΨ3
          have hS3 : (¬ (r) = 0 → (xE (zyEl zymc B H3) 35 2 = xE (zyEl zymc B H2) 35 2 ∧ xE (zyEl zymc B H3) 35 3 = xE (zyEl zymc B H2) 35 3)) := hS3
          have d35_4 : xE (zyEl zymc B H3) 35 4 = xE (zyEl zymc B H2) 35 4 := xFr_E hf3 rfl
          have d36 : ∀ i, xE (zyEl zymc B H3) 36 i = xE (zyEl zymc B H2) 36 i := fun i => xFr_E hf3 rfl
          unfold xΨfrp0 at hΨ3
          rw [hE20] at hΨ3
          have hr01 : r = 0 ∨ r = 1 := xOut0_r (hΨ3 S0 hS0)
          refine ⟨⟨10, by decide⟩, [0, 0], [0, 0, r], rfl, ⟨by decide +kernel, ⟨rfl, by decide +kernel⟩, (xcs_c rfl (xcs_c rfl xcs_n)), (xe_0 (xe_0 (xe_c (by omega) (by omega) rfl xe_n))), xkq_n⟩, (by rw [if_pos rfl]; exact ⟨2, [], rfl, by decide, rfl, xst_n⟩), ?_, ?_⟩
          · show ((zyEl zymc B s.heap) = (zyEl zymc B s.heap) ∧ ∀ p S, p ≤ xE (zyEl zymc B s.heap) 35 4 → xAD (xE (zyEl zymc B s.heap) 36) (xE (zyEl zymc B s.heap) 35 4) p (zyEl zymc B s.heap) → xAb0 (zyEl zymc B s.heap) S → xOut0 (pLine (xE (zyEl zymc B s.heap) 36) (xE (zyEl zymc B s.heap) 35 4) p S) (zyEl zymc B H3) (r : Int)) ∧ (¬ (r : Int) = 0 → (xE (zyEl zymc B H3) 35 2 = xE (zyEl zymc B s.heap) 35 2 ∧ xE (zyEl zymc B H3) 35 3 = xE (zyEl zymc B s.heap) 35 3))
            refine ⟨?_, ?_⟩
            · skip
              refine ⟨rfl, fun p S hp ⟨a1, a2, a3, a4⟩ hS => ?_⟩
              have w := hΨ3 S hS
              rw [a1] at w
              rw [a1, a2, a3] at n0 n1 n2 n3 y4
              unfold pLine pBody tW
              rw [n0, if_neg (by decide), n1, if_neg (by decide), n2, if_neg (by decide), n3, if_neg (by decide), y4, if_pos rfl]
              exact w
            · omega
          · show 1 < 46
            omega
      · skip
        have ex := List.mem_singleton.mp hx
        subst ex
        obtain ⟨hF, hBd, hM⟩ := hXs
        have g2 : v2 2 = v 2 := hag 2 (by decide)
        have b0 : ((2147483648 : Nat) : Int) ≤ (v2 2) + 2147483648 ∧ (v2 2) + 2147483648 ≤ ((2147483648 : Nat) : Int) := xXb hBd 0 rfl
        have f0 : (v2 2) = 0 := xXf hF 0 rfl
        have e35_4 : xE (zyEl zymc B H2) 35 4 = xE (zyEl zymc B H) 35 4 := xFr_E hfr rfl
        have q35_4 : xE (zyEl zymc B H) 35 4 = xE (zyEl zymc B s.heap) 35 4 := xFr_E hFr0 rfl
        have e35_5 : xE (zyEl zymc B H2) 35 5 = xE (zyEl zymc B H) 35 5 := xFr_E hfr rfl
        have e35_6 : xE (zyEl zymc B H2) 35 6 = xE (zyEl zymc B H) 35 6 := xFr_E hfr rfl
        have e35_7 : xE (zyEl zymc B H2) 35 7 = xE (zyEl zymc B H) 35 7 := xFr_E hfr rfl
        have e35_8 : xE (zyEl zymc B H2) 35 8 = xE (zyEl zymc B H) 35 8 := xFr_E hfr rfl
        have e35_2 : xE (zyEl zymc B H2) 35 2 = xE (zyEl zymc B H) 35 2 := xFr_E hfr rfl
        have e35_3 : xE (zyEl zymc B H2) 35 3 = xE (zyEl zymc B H) 35 3 := xFr_E hfr rfl
        have e36 : ∀ i, xE (zyEl zymc B H2) 36 i = xE (zyEl zymc B H) 36 i := fun i => xFr_E hfr rfl
        have q36 : ∀ i, xE (zyEl zymc B H) 36 i = xE (zyEl zymc B s.heap) 36 i := fun i => xFr_E hFr0 rfl
        have hI : ((zyEl zymc B H) = (zyEl zymc B s.heap) ∧ sW (xE (zyEl zymc B s.heap) 36) (xE (zyEl zymc B s.heap) 35 7) (xE (zyEl zymc B s.heap) 35 5) (xE (zyEl zymc B s.heap) 35 6) [115, 119, 105, 116, 99, 104] = false ∧ sW (xE (zyEl zymc B s.heap) 36) (xE (zyEl zymc B s.heap) 35 7) (xE (zyEl zymc B s.heap) 35 5) (xE (zyEl zymc B s.heap) 35 6) [98, 111, 98, 98, 105, 110] = false ∧ sW (xE (zyEl zymc B s.heap) 36) (xE (zyEl zymc B s.heap) 35 7) (xE (zyEl zymc B s.heap) 35 5) (xE (zyEl zymc B s.heap) 35 6) [115, 116, 117, 99, 107] = false ∧ sW (xE (zyEl zymc B s.heap) 36) (xE (zyEl zymc B s.heap) 35 7) (xE (zyEl zymc B s.heap) 35 5) (xE (zyEl zymc B s.heap) 35 6) [102, 114, 101, 101] = false ∧ (v 2) = if sW (xE (zyEl zymc B s.heap) 36) (xE (zyEl zymc B s.heap) 35 7) (xE (zyEl zymc B s.heap) 35 5) (xE (zyEl zymc B s.heap) 35 6) [112, 108, 97, 99, 101] = true then 1 else 0) ∧ (xE (zyEl zymc B H) 35 2 = xE (zyEl zymc B s.heap) 35 2 ∧ xE (zyEl zymc B H) 35 3 = xE (zyEl zymc B s.heap) 35 3) := hInv
        obtain ⟨hI, hSm⟩ := hI
        have q35_5 : xE (zyEl zymc B H) 35 5 = xE (zyEl zymc B s.heap) 35 5 := by rw [hI.1]
        have q35_6 : xE (zyEl zymc B H) 35 6 = xE (zyEl zymc B s.heap) 35 6 := by rw [hI.1]
        have q35_7 : xE (zyEl zymc B H) 35 7 = xE (zyEl zymc B s.heap) 35 7 := by rw [hI.1]
        have q35_8 : xE (zyEl zymc B H) 35 8 = xE (zyEl zymc B s.heap) 35 8 := by rw [hI.1]
        have q35_2 : xE (zyEl zymc B H) 35 2 = xE (zyEl zymc B s.heap) 35 2 := by rw [hI.1]
        have q35_3 : xE (zyEl zymc B H) 35 3 = xE (zyEl zymc B s.heap) 35 3 := by rw [hI.1]
        obtain ⟨hE, n0, n1, n2, n3, i3⟩ := hI
        obtain ⟨S0, hS0⟩ := hΦ.2.1
        obtain ⟨pp, hpp, hA0⟩ := hΦ.2.2
        have n4 : sW (xE (zyEl zymc B s.heap) 36) (xE (zyEl zymc B s.heap) 35 7) (xE (zyEl zymc B s.heap) 35 5) (xE (zyEl zymc B s.heap) 35 6) [112, 108, 97, 99, 101] = false := by
          rw [Bool.eq_false_iff]
          intro h
          rw [if_pos h] at i3
          omega
        have hE20 := (xFr_n hfr).trans hE
        refine xCa hRu hIH hAt hB hv hFr (hfwwo B) (ix := 48) (ax := 1152) rfl rfl rfl hmefwwo ⟨_, rfl, rfl, by decide⟩ ⟨rfl, rfl, rfl⟩ (by decide) [] [] [] rfl ⟨rfl, rfl⟩ (by decide +kernel) xcs_n (by decide +kernel) ?_ (fun H3 r hT3 hf3 hFr3 hr3 hΨ3 => ?_)
        · show xΦ0 (xfv []) (zyEl zymc B H2)
          exact trivial
        · have hΨ3 : xΨfwwo (xfv []) (zyEl zymc B H2) (zyEl zymc B H3) r := hΨ3
          have d35_4 : xE (zyEl zymc B H3) 35 4 = xE (zyEl zymc B H2) 35 4 := xFr_E hf3 rfl
          have d35_5 : xE (zyEl zymc B H3) 35 5 = xE (zyEl zymc B H2) 35 5 := xFr_E hf3 rfl
          have d35_6 : xE (zyEl zymc B H3) 35 6 = xE (zyEl zymc B H2) 35 6 := xFr_E hf3 rfl
          have d35_7 : xE (zyEl zymc B H3) 35 7 = xE (zyEl zymc B H2) 35 7 := xFr_E hf3 rfl
          have d35_8 : xE (zyEl zymc B H3) 35 8 = xE (zyEl zymc B H2) 35 8 := xFr_E hf3 rfl
          have d35_2 : xE (zyEl zymc B H3) 35 2 = xE (zyEl zymc B H2) 35 2 := xFr_E hf3 rfl
          have d35_3 : xE (zyEl zymc B H3) 35 3 = xE (zyEl zymc B H2) 35 3 := xFr_E hf3 rfl
          have d36 : ∀ i, xE (zyEl zymc B H3) 36 i = xE (zyEl zymc B H2) 36 i := fun i => xFr_E hf3 rfl
          have z35_2 : ((2147483647 : Nat) : Int) ≤ xE (zyEl zymc B H3) 35 2 + 2147483648 ∧ xE (zyEl zymc B H3) 35 2 + 2147483648 ≤ ((2147483654 : Nat) : Int) := xTyF hT3 35 2 2 rfl rfl rfl rfl rfl rfl
          have z35_3 : ((2147483647 : Nat) : Int) ≤ xE (zyEl zymc B H3) 35 3 + 2147483648 ∧ xE (zyEl zymc B H3) 35 3 + 2147483648 ≤ ((2147484548 : Nat) : Int) := xTyF hT3 35 3 3 rfl rfl rfl rfl rfl rfl
          unfold xΨfwwo at hΨ3
          have hr01 : r = 0 ∨ r = 1 := by
            rw [hΨ3]
            split <;> omega
          have hEE3 : (zyEl zymc B H3) = (zyEl zymc B s.heap) := (xFr_n hf3).trans hE20
          rw [hE20] at hΨ3
          refine ⟨⟨11, by decide⟩, [0, 0], [0, 0, r, xE (zyEl zymc B H3) 35 2, xE (zyEl zymc B H3) 35 3], rfl, ⟨by decide +kernel, ⟨rfl, by decide +kernel⟩, (xcs_c rfl (xcs_c rfl xcs_n)), (xe_0 (xe_0 (xe_c (by omega) (by omega) rfl (xe_c (by omega) (by omega) rfl (xe_c (by omega) (by omega) rfl xe_n))))), (xkq_c hT3 35 2 (q := 2) rfl rfl rfl rfl rfl rfl rfl rfl rfl rfl rfl (xkq_c hT3 35 3 (q := 3) rfl rfl rfl rfl rfl rfl rfl rfl rfl rfl rfl xkq_n))⟩, (by rw [if_pos rfl]; exact ⟨2, [], rfl, by decide, rfl, xst_n⟩), ?_, ?_⟩
          · show ((zyEl zymc B H3) = (zyEl zymc B s.heap) ∧ sW (xE (zyEl zymc B s.heap) 36) (xE (zyEl zymc B s.heap) 35 7) (xE (zyEl zymc B s.heap) 35 5) (xE (zyEl zymc B s.heap) 35 6) [115, 119, 105, 116, 99, 104] = false ∧ sW (xE (zyEl zymc B s.heap) 36) (xE (zyEl zymc B s.heap) 35 7) (xE (zyEl zymc B s.heap) 35 5) (xE (zyEl zymc B s.heap) 35 6) [98, 111, 98, 98, 105, 110] = false ∧ sW (xE (zyEl zymc B s.heap) 36) (xE (zyEl zymc B s.heap) 35 7) (xE (zyEl zymc B s.heap) 35 5) (xE (zyEl zymc B s.heap) 35 6) [115, 116, 117, 99, 107] = false ∧ sW (xE (zyEl zymc B s.heap) 36) (xE (zyEl zymc B s.heap) 35 7) (xE (zyEl zymc B s.heap) 35 5) (xE (zyEl zymc B s.heap) 35 6) [102, 114, 101, 101] = false ∧ sW (xE (zyEl zymc B s.heap) 36) (xE (zyEl zymc B s.heap) 35 7) (xE (zyEl zymc B s.heap) 35 5) (xE (zyEl zymc B s.heap) 35 6) [112, 108, 97, 99, 101] = false ∧ (r : Int) = if sW (xE (zyEl zymc B s.heap) 36) (xE (zyEl zymc B s.heap) 35 7) (xE (zyEl zymc B s.heap) 35 5) (xE (zyEl zymc B s.heap) 35 6) [119, 111, 114, 100] = true then 1 else 0) ∧ (xE (zyEl zymc B H3) 35 2 = xE (zyEl zymc B s.heap) 35 2 ∧ xE (zyEl zymc B H3) 35 3 = xE (zyEl zymc B s.heap) 35 3)
            refine ⟨?_, ?_⟩
            · skip
              exact ⟨hEE3, n0, n1, n2, n3, n4, hΨ3⟩
            · omega
          · show 45 < 46
            omega
    · cases hx
    · have hx : x ∈ [zxfrl0_w5x0] := hx
      have hag : ∀ k, k < 5 → v2 k = v k := hag
      have hfr : xFr [(35, 2, 3)] _ _ := hfr
      have ex := List.mem_singleton.mp hx
      subst ex
      obtain ⟨hF, hBd, hM⟩ := hXs
      have g2 : v2 2 = v 2 := hag 2 (by decide)
      have g3 : v2 3 = v 3 := hag 3 (by decide)
      have g4 : v2 4 = v 4 := hag 4 (by decide)
      have b0 : ((2147483649 : Nat) : Int) ≤ (v2 2) + 2147483648 ∧ (v2 2) + 2147483648 ≤ ((2147483649 : Nat) : Int) := xXb hBd 0 rfl
      have b1 : ((2147483647 : Nat) : Int) ≤ (v2 3) + 2147483648 ∧ (v2 3) + 2147483648 ≤ ((2147483654 : Nat) : Int) := xXb hBd 1 rfl
      have b2 : ((2147483647 : Nat) : Int) ≤ (v2 4) + 2147483648 ∧ (v2 4) + 2147483648 ≤ ((2147484548 : Nat) : Int) := xXb hBd 2 rfl
      have k0 : xE (zyEl zymc B H) 35 2 = v 3 := xKcf hKc 0 rfl rfl
      have k1 : xE (zyEl zymc B H) 35 3 = v 4 := xKcf hKc 1 rfl rfl
      have f0 : ¬ (v2 2) = 0 := xXf hF 0 rfl
      have m0 : xE (zyEl zymc B H2) 35 2 = (v2 3) := xXm hM 0 rfl
      have m1 : xE (zyEl zymc B H2) 35 3 = (v2 4) := xXm hM 1 rfl
      have e35_4 : xE (zyEl zymc B H2) 35 4 = xE (zyEl zymc B H) 35 4 := xFr_E hfr rfl
      have q35_4 : xE (zyEl zymc B H) 35 4 = xE (zyEl zymc B s.heap) 35 4 := xFr_E hFr0 rfl
      have e35_5 : xE (zyEl zymc B H2) 35 5 = xE (zyEl zymc B H) 35 5 := xFr_E hfr rfl
      have e35_6 : xE (zyEl zymc B H2) 35 6 = xE (zyEl zymc B H) 35 6 := xFr_E hfr rfl
      have e35_7 : xE (zyEl zymc B H2) 35 7 = xE (zyEl zymc B H) 35 7 := xFr_E hfr rfl
      have e35_8 : xE (zyEl zymc B H2) 35 8 = xE (zyEl zymc B H) 35 8 := xFr_E hfr rfl
      have e36 : ∀ i, xE (zyEl zymc B H2) 36 i = xE (zyEl zymc B H) 36 i := fun i => xFr_E hfr rfl
      have q36 : ∀ i, xE (zyEl zymc B H) 36 i = xE (zyEl zymc B s.heap) 36 i := fun i => xFr_E hFr0 rfl
      have hI : ((zyEl zymc B H) = (zyEl zymc B s.heap) ∧ sW (xE (zyEl zymc B s.heap) 36) (xE (zyEl zymc B s.heap) 35 7) (xE (zyEl zymc B s.heap) 35 5) (xE (zyEl zymc B s.heap) 35 6) [115, 119, 105, 116, 99, 104] = false ∧ sW (xE (zyEl zymc B s.heap) 36) (xE (zyEl zymc B s.heap) 35 7) (xE (zyEl zymc B s.heap) 35 5) (xE (zyEl zymc B s.heap) 35 6) [98, 111, 98, 98, 105, 110] = false ∧ sW (xE (zyEl zymc B s.heap) 36) (xE (zyEl zymc B s.heap) 35 7) (xE (zyEl zymc B s.heap) 35 5) (xE (zyEl zymc B s.heap) 35 6) [115, 116, 117, 99, 107] = false ∧ sW (xE (zyEl zymc B s.heap) 36) (xE (zyEl zymc B s.heap) 35 7) (xE (zyEl zymc B s.heap) 35 5) (xE (zyEl zymc B s.heap) 35 6) [102, 114, 101, 101] = false ∧ sW (xE (zyEl zymc B s.heap) 36) (xE (zyEl zymc B s.heap) 35 7) (xE (zyEl zymc B s.heap) 35 5) (xE (zyEl zymc B s.heap) 35 6) [112, 108, 97, 99, 101] = false ∧ (v 2) = if sW (xE (zyEl zymc B s.heap) 36) (xE (zyEl zymc B s.heap) 35 7) (xE (zyEl zymc B s.heap) 35 5) (xE (zyEl zymc B s.heap) 35 6) [119, 111, 114, 100] = true then 1 else 0) ∧ (xE (zyEl zymc B H) 35 2 = xE (zyEl zymc B s.heap) 35 2 ∧ xE (zyEl zymc B H) 35 3 = xE (zyEl zymc B s.heap) 35 3) := hInv
      obtain ⟨hI, hSm⟩ := hI
      have q35_5 : xE (zyEl zymc B H) 35 5 = xE (zyEl zymc B s.heap) 35 5 := by rw [hI.1]
      have q35_6 : xE (zyEl zymc B H) 35 6 = xE (zyEl zymc B s.heap) 35 6 := by rw [hI.1]
      have q35_7 : xE (zyEl zymc B H) 35 7 = xE (zyEl zymc B s.heap) 35 7 := by rw [hI.1]
      have q35_8 : xE (zyEl zymc B H) 35 8 = xE (zyEl zymc B s.heap) 35 8 := by rw [hI.1]
      have q35_2 : xE (zyEl zymc B H) 35 2 = xE (zyEl zymc B s.heap) 35 2 := by rw [hI.1]
      have q35_3 : xE (zyEl zymc B H) 35 3 = xE (zyEl zymc B s.heap) 35 3 := by rw [hI.1]
      obtain ⟨hE, n0, n1, n2, n3, n4, i3⟩ := hI
      obtain ⟨S0, hS0⟩ := hΦ.2.1
      obtain ⟨pp, hpp, hA0⟩ := hΦ.2.2
      have y5 : sW (xE (zyEl zymc B s.heap) 36) (xE (zyEl zymc B s.heap) 35 7) (xE (zyEl zymc B s.heap) 35 5) (xE (zyEl zymc B s.heap) 35 6) [119, 111, 114, 100] = true := by
        by_cases h : sW (xE (zyEl zymc B s.heap) 36) (xE (zyEl zymc B s.heap) 35 7) (xE (zyEl zymc B s.heap) 35 5) (xE (zyEl zymc B s.heap) 35 6) [119, 111, 114, 100] = true
        · exact h
        · rw [if_neg h] at i3
          omega
      have hE20 : xFr [(35, 2, 3)] (zyEl zymc B s.heap) (zyEl zymc B H2) := by rw [← hE]; exact hfr
      have tt : xE (zyEl zymc B H2) 36 = xE (zyEl zymc B s.heap) 36 := funext fun i => xFr_E hE20 rfl
      have tn : xE (zyEl zymc B H2) 35 4 = xE (zyEl zymc B s.heap) 35 4 := xFr_E hE20 rfl
      have t6 : xE (zyEl zymc B H2) 35 6 = xE (zyEl zymc B s.heap) 35 6 := xFr_E hE20 rfl
      have hab : ∀ S, xAb0 (zyEl zymc B s.heap) S → xAb0 (zyEl zymc B H2) S := fun S hS => xAb0_35 hS (xFr_mono (by decide) hE20)
      refine xCa hRu hIH hAt hB hv hFr (hfrw0 B) (ix := 103) (ax := 1072) rfl rfl rfl hmefrw0 ⟨_, rfl, rfl, by decide⟩ ⟨rfl, rfl, rfl⟩ (by decide) [] [] [] rfl ⟨rfl, rfl⟩ (by decide +kernel) xcs_n (by decide +kernel) ?_ (fun H3 r hT3 hf3 hFr3 hr3 hΨ3 => ?_)
      · show xΦrd0 (xfv []) (zyEl zymc B H2)
        exact ⟨by rw [t6, tn]; exact hΦ.1, S0, hab S0 hS0⟩
      · have hΨ3 : xΨfrw0S (xfv []) (zyEl zymc B H2) (zyEl zymc B H3) r := hΨ3
        obtain ⟨hΨ3, hS3⟩ := hΨ3
        have hΨ3 : xΨfrw0 (xfv []) (zyEl zymc B H2) (zyEl zymc B H3) r := hΨ3
        have hS3 : (¬ (r) = 0 → (xE (zyEl zymc B H3) 35 2 = xE (zyEl zymc B H2) 35 2 ∧ xE (zyEl zymc B H3) 35 3 = xE (zyEl zymc B H2) 35 3)) := hS3
        have d35_4 : xE (zyEl zymc B H3) 35 4 = xE (zyEl zymc B H2) 35 4 := xFr_E hf3 rfl
        have d36 : ∀ i, xE (zyEl zymc B H3) 36 i = xE (zyEl zymc B H2) 36 i := fun i => xFr_E hf3 rfl
        unfold xΨfrw0 at hΨ3
        rw [tt, tn, t6] at hΨ3
        have hr01 : r = 0 ∨ r = 1 := xOut0_r (hΨ3 S0 (hab S0 hS0))
        refine ⟨⟨12, by decide⟩, [0, 0], [0, 0, r], rfl, ⟨by decide +kernel, ⟨rfl, by decide +kernel⟩, (xcs_c rfl (xcs_c rfl xcs_n)), (xe_0 (xe_0 (xe_c (by omega) (by omega) rfl xe_n))), xkq_n⟩, (by rw [if_pos rfl]; exact ⟨2, [], rfl, by decide, rfl, xst_n⟩), ?_, ?_⟩
        · show ((zyEl zymc B s.heap) = (zyEl zymc B s.heap) ∧ ∀ p S, p ≤ xE (zyEl zymc B s.heap) 35 4 → xAD (xE (zyEl zymc B s.heap) 36) (xE (zyEl zymc B s.heap) 35 4) p (zyEl zymc B s.heap) → xAb0 (zyEl zymc B s.heap) S → xOut0 (pLine (xE (zyEl zymc B s.heap) 36) (xE (zyEl zymc B s.heap) 35 4) p S) (zyEl zymc B H3) (r : Int)) ∧ (¬ (r : Int) = 0 → (xE (zyEl zymc B H3) 35 2 = xE (zyEl zymc B s.heap) 35 2 ∧ xE (zyEl zymc B H3) 35 3 = xE (zyEl zymc B s.heap) 35 3))
          refine ⟨?_, ?_⟩
          · skip
            refine ⟨rfl, fun p S hp ⟨a1, a2, a3, a4⟩ hS => ?_⟩
            have w := hΨ3 S (hab S hS)
            rw [a1] at w
            rw [a1, a2, a3] at n0 n1 n2 n3 n4 y5
            unfold pLine pBody tW
            rw [n0, if_neg (by decide), n1, if_neg (by decide), n2, if_neg (by decide), n3, if_neg (by decide), n4, if_neg (by decide), y5, if_pos rfl]
            exact w
          · omega
        · show 1 < 45
          omega
    · cases hx
  · intro x0 E0 E E2 hrx hT0 hΦ i v hT hrv hInv hKc hFr0 x hx v2 hr2 hXs hag hfr hFr hT2
    rcases i with ⟨i, hi⟩
    have hi2 : i = 0 ∨ i = 1 ∨ i = 2 ∨ i = 3 ∨ i = 4 ∨ i = 5 ∨ i = 6 ∨ i = 7 ∨ i = 8 ∨ i = 9 ∨ i = 10 ∨ i = 11 ∨ i = 12 := by omega
    rcases hi2 with rfl | rfl | rfl | rfl | rfl | rfl | rfl | rfl | rfl | rfl | rfl | rfl | rfl
    · cases hx
    · cases hx
    · have hx : x ∈ [zxfrl0_r0r0] := hx
      have hag : ∀ k, k < 3 → v2 k = v k := hag
      have hfr : xFr [] _ _ := hfr
      have ex := List.mem_singleton.mp hx
      subst ex
      obtain ⟨hF, hBd, hM⟩ := hXs
      have g2 : v2 2 = v 2 := hag 2 (by decide)
      have b0 : ((2147483648 : Nat) : Int) ≤ (v2 2) + 2147483648 ∧ (v2 2) + 2147483648 ≤ ((2147483649 : Nat) : Int) := xXb hBd 0 rfl
      have e35_4 : xE E2 35 4 = xE E 35 4 := xFr_E hfr rfl
      have q35_4 : xE E 35 4 = xE E0 35 4 := xFr_E hFr0 rfl
      have e35_5 : xE E2 35 5 = xE E 35 5 := xFr_E hfr rfl
      have e35_6 : xE E2 35 6 = xE E 35 6 := xFr_E hfr rfl
      have e35_7 : xE E2 35 7 = xE E 35 7 := xFr_E hfr rfl
      have e35_8 : xE E2 35 8 = xE E 35 8 := xFr_E hfr rfl
      have e35_2 : xE E2 35 2 = xE E 35 2 := xFr_E hfr rfl
      have e35_3 : xE E2 35 3 = xE E 35 3 := xFr_E hfr rfl
      have e36 : ∀ i, xE E2 36 i = xE E 36 i := fun i => xFr_E hfr rfl
      have q36 : ∀ i, xE E 36 i = xE E0 36 i := fun i => xFr_E hFr0 rfl
      have hI : (E0 = E0 ∧ ∀ p S, p ≤ xE E0 35 4 → xAD (xE E0 36) (xE E0 35 4) p E0 → xAb0 E0 S → xOut0 (pLine (xE E0 36) (xE E0 35 4) p S) E (v 2)) ∧ (¬ (v 2) = 0 → (xE E 35 2 = xE E0 35 2 ∧ xE E 35 3 = xE E0 35 3)) := hInv
      obtain ⟨hI, hSm⟩ := hI
      show xΨfrl0S x0 E0 E2 (v2 2)
      refine ⟨?_, ?_⟩
      · show xΨfrl0 x0 E0 E2 (v2 2)
        have hE2 := xFr_n hfr
        subst hE2
        intro p S hp hA hS
        have w := hI.2 p S hp hA hS
        rw [show (v 2) = v2 2 by omega] at w
        exact w
      · show (¬ ((v2 2)) = 0 → (xE E2 35 2 = xE E0 35 2 ∧ xE E2 35 3 = xE E0 35 3))
        omega
    · cases hx
    · have hx : x ∈ [zxfrl0_r1r0] := hx
      have hag : ∀ k, k < 3 → v2 k = v k := hag
      have hfr : xFr [] _ _ := hfr
      have ex := List.mem_singleton.mp hx
      subst ex
      obtain ⟨hF, hBd, hM⟩ := hXs
      have g2 : v2 2 = v 2 := hag 2 (by decide)
      have b0 : ((2147483648 : Nat) : Int) ≤ (v2 2) + 2147483648 ∧ (v2 2) + 2147483648 ≤ ((2147483649 : Nat) : Int) := xXb hBd 0 rfl
      have e35_4 : xE E2 35 4 = xE E 35 4 := xFr_E hfr rfl
      have q35_4 : xE E 35 4 = xE E0 35 4 := xFr_E hFr0 rfl
      have e35_5 : xE E2 35 5 = xE E 35 5 := xFr_E hfr rfl
      have e35_6 : xE E2 35 6 = xE E 35 6 := xFr_E hfr rfl
      have e35_7 : xE E2 35 7 = xE E 35 7 := xFr_E hfr rfl
      have e35_8 : xE E2 35 8 = xE E 35 8 := xFr_E hfr rfl
      have e35_2 : xE E2 35 2 = xE E 35 2 := xFr_E hfr rfl
      have e35_3 : xE E2 35 3 = xE E 35 3 := xFr_E hfr rfl
      have e36 : ∀ i, xE E2 36 i = xE E 36 i := fun i => xFr_E hfr rfl
      have q36 : ∀ i, xE E 36 i = xE E0 36 i := fun i => xFr_E hFr0 rfl
      have hI : (E0 = E0 ∧ ∀ p S, p ≤ xE E0 35 4 → xAD (xE E0 36) (xE E0 35 4) p E0 → xAb0 E0 S → xOut0 (pLine (xE E0 36) (xE E0 35 4) p S) E (v 2)) ∧ (¬ (v 2) = 0 → (xE E 35 2 = xE E0 35 2 ∧ xE E 35 3 = xE E0 35 3)) := hInv
      obtain ⟨hI, hSm⟩ := hI
      show xΨfrl0S x0 E0 E2 (v2 2)
      refine ⟨?_, ?_⟩
      · show xΨfrl0 x0 E0 E2 (v2 2)
        have hE2 := xFr_n hfr
        subst hE2
        intro p S hp hA hS
        have w := hI.2 p S hp hA hS
        rw [show (v 2) = v2 2 by omega] at w
        exact w
      · show (¬ ((v2 2)) = 0 → (xE E2 35 2 = xE E0 35 2 ∧ xE E2 35 3 = xE E0 35 3))
        omega
    · cases hx
    · have hx : x ∈ [zxfrl0_r2r0] := hx
      have hag : ∀ k, k < 3 → v2 k = v k := hag
      have hfr : xFr [] _ _ := hfr
      have ex := List.mem_singleton.mp hx
      subst ex
      obtain ⟨hF, hBd, hM⟩ := hXs
      have g2 : v2 2 = v 2 := hag 2 (by decide)
      have b0 : ((2147483648 : Nat) : Int) ≤ (v2 2) + 2147483648 ∧ (v2 2) + 2147483648 ≤ ((2147483649 : Nat) : Int) := xXb hBd 0 rfl
      have e35_4 : xE E2 35 4 = xE E 35 4 := xFr_E hfr rfl
      have q35_4 : xE E 35 4 = xE E0 35 4 := xFr_E hFr0 rfl
      have e35_5 : xE E2 35 5 = xE E 35 5 := xFr_E hfr rfl
      have e35_6 : xE E2 35 6 = xE E 35 6 := xFr_E hfr rfl
      have e35_7 : xE E2 35 7 = xE E 35 7 := xFr_E hfr rfl
      have e35_8 : xE E2 35 8 = xE E 35 8 := xFr_E hfr rfl
      have e35_2 : xE E2 35 2 = xE E 35 2 := xFr_E hfr rfl
      have e35_3 : xE E2 35 3 = xE E 35 3 := xFr_E hfr rfl
      have e36 : ∀ i, xE E2 36 i = xE E 36 i := fun i => xFr_E hfr rfl
      have q36 : ∀ i, xE E 36 i = xE E0 36 i := fun i => xFr_E hFr0 rfl
      have hI : (E0 = E0 ∧ ∀ p S, p ≤ xE E0 35 4 → xAD (xE E0 36) (xE E0 35 4) p E0 → xAb0 E0 S → xOut0 (pLine (xE E0 36) (xE E0 35 4) p S) E (v 2)) ∧ (¬ (v 2) = 0 → (xE E 35 2 = xE E0 35 2 ∧ xE E 35 3 = xE E0 35 3)) := hInv
      obtain ⟨hI, hSm⟩ := hI
      show xΨfrl0S x0 E0 E2 (v2 2)
      refine ⟨?_, ?_⟩
      · show xΨfrl0 x0 E0 E2 (v2 2)
        have hE2 := xFr_n hfr
        subst hE2
        intro p S hp hA hS
        have w := hI.2 p S hp hA hS
        rw [show (v 2) = v2 2 by omega] at w
        exact w
      · show (¬ ((v2 2)) = 0 → (xE E2 35 2 = xE E0 35 2 ∧ xE E2 35 3 = xE E0 35 3))
        omega
    · cases hx
    · have hx : x ∈ [zxfrl0_r3r0] := hx
      have hag : ∀ k, k < 3 → v2 k = v k := hag
      have hfr : xFr [] _ _ := hfr
      have ex := List.mem_singleton.mp hx
      subst ex
      obtain ⟨hF, hBd, hM⟩ := hXs
      have g2 : v2 2 = v 2 := hag 2 (by decide)
      have b0 : ((2147483648 : Nat) : Int) ≤ (v2 2) + 2147483648 ∧ (v2 2) + 2147483648 ≤ ((2147483649 : Nat) : Int) := xXb hBd 0 rfl
      have e35_4 : xE E2 35 4 = xE E 35 4 := xFr_E hfr rfl
      have q35_4 : xE E 35 4 = xE E0 35 4 := xFr_E hFr0 rfl
      have e35_5 : xE E2 35 5 = xE E 35 5 := xFr_E hfr rfl
      have e35_6 : xE E2 35 6 = xE E 35 6 := xFr_E hfr rfl
      have e35_7 : xE E2 35 7 = xE E 35 7 := xFr_E hfr rfl
      have e35_8 : xE E2 35 8 = xE E 35 8 := xFr_E hfr rfl
      have e35_2 : xE E2 35 2 = xE E 35 2 := xFr_E hfr rfl
      have e35_3 : xE E2 35 3 = xE E 35 3 := xFr_E hfr rfl
      have e36 : ∀ i, xE E2 36 i = xE E 36 i := fun i => xFr_E hfr rfl
      have q36 : ∀ i, xE E 36 i = xE E0 36 i := fun i => xFr_E hFr0 rfl
      have hI : (E0 = E0 ∧ ∀ p S, p ≤ xE E0 35 4 → xAD (xE E0 36) (xE E0 35 4) p E0 → xAb0 E0 S → xOut0 (pLine (xE E0 36) (xE E0 35 4) p S) E (v 2)) ∧ (¬ (v 2) = 0 → (xE E 35 2 = xE E0 35 2 ∧ xE E 35 3 = xE E0 35 3)) := hInv
      obtain ⟨hI, hSm⟩ := hI
      show xΨfrl0S x0 E0 E2 (v2 2)
      refine ⟨?_, ?_⟩
      · show xΨfrl0 x0 E0 E2 (v2 2)
        have hE2 := xFr_n hfr
        subst hE2
        intro p S hp hA hS
        have w := hI.2 p S hp hA hS
        rw [show (v 2) = v2 2 by omega] at w
        exact w
      · show (¬ ((v2 2)) = 0 → (xE E2 35 2 = xE E0 35 2 ∧ xE E2 35 3 = xE E0 35 3))
        omega
    · cases hx
    · have hx : x ∈ [zxfrl0_r4r0] := hx
      have hag : ∀ k, k < 3 → v2 k = v k := hag
      have hfr : xFr [] _ _ := hfr
      have ex := List.mem_singleton.mp hx
      subst ex
      obtain ⟨hF, hBd, hM⟩ := hXs
      have g2 : v2 2 = v 2 := hag 2 (by decide)
      have b0 : ((2147483648 : Nat) : Int) ≤ (v2 2) + 2147483648 ∧ (v2 2) + 2147483648 ≤ ((2147483649 : Nat) : Int) := xXb hBd 0 rfl
      have e35_4 : xE E2 35 4 = xE E 35 4 := xFr_E hfr rfl
      have q35_4 : xE E 35 4 = xE E0 35 4 := xFr_E hFr0 rfl
      have e35_5 : xE E2 35 5 = xE E 35 5 := xFr_E hfr rfl
      have e35_6 : xE E2 35 6 = xE E 35 6 := xFr_E hfr rfl
      have e35_7 : xE E2 35 7 = xE E 35 7 := xFr_E hfr rfl
      have e35_8 : xE E2 35 8 = xE E 35 8 := xFr_E hfr rfl
      have e35_2 : xE E2 35 2 = xE E 35 2 := xFr_E hfr rfl
      have e35_3 : xE E2 35 3 = xE E 35 3 := xFr_E hfr rfl
      have e36 : ∀ i, xE E2 36 i = xE E 36 i := fun i => xFr_E hfr rfl
      have q36 : ∀ i, xE E 36 i = xE E0 36 i := fun i => xFr_E hFr0 rfl
      have hI : (E0 = E0 ∧ ∀ p S, p ≤ xE E0 35 4 → xAD (xE E0 36) (xE E0 35 4) p E0 → xAb0 E0 S → xOut0 (pLine (xE E0 36) (xE E0 35 4) p S) E (v 2)) ∧ (¬ (v 2) = 0 → (xE E 35 2 = xE E0 35 2 ∧ xE E 35 3 = xE E0 35 3)) := hInv
      obtain ⟨hI, hSm⟩ := hI
      show xΨfrl0S x0 E0 E2 (v2 2)
      refine ⟨?_, ?_⟩
      · show xΨfrl0 x0 E0 E2 (v2 2)
        have hE2 := xFr_n hfr
        subst hE2
        intro p S hp hA hS
        have w := hI.2 p S hp hA hS
        rw [show (v 2) = v2 2 by omega] at w
        exact w
      · show (¬ ((v2 2)) = 0 → (xE E2 35 2 = xE E0 35 2 ∧ xE E2 35 3 = xE E0 35 3))
        omega
    · have hx : x ∈ [zxfrl0_w5r0, zxfrl0_w5r1, zxfrl0_w5r2] := hx
      have hag : ∀ k, k < 5 → v2 k = v k := hag
      have hfr : xFr [(35, 2, 3)] _ _ := hfr
      rcases List.mem_cons.mp hx with ex | hx
      · subst ex
        obtain ⟨hF, hBd, hM⟩ := hXs
        have g2 : v2 2 = v 2 := hag 2 (by decide)
        have g3 : v2 3 = v 3 := hag 3 (by decide)
        have g4 : v2 4 = v 4 := hag 4 (by decide)
        have b0 : ((2147483648 : Nat) : Int) ≤ (v2 2) + 2147483648 ∧ (v2 2) + 2147483648 ≤ ((2147483648 : Nat) : Int) := xXb hBd 0 rfl
        have b1 : ((2147483650 : Nat) : Int) ≤ (v2 5) + 2147483648 ∧ (v2 5) + 2147483648 ≤ ((2147483653 : Nat) : Int) := xXb hBd 1 rfl
        have b2 : ((2147483648 : Nat) : Int) ≤ (v2 6) + 2147483648 ∧ (v2 6) + 2147483648 ≤ ((2147484548 : Nat) : Int) := xXb hBd 2 rfl
        have k0 : xE E 35 2 = v 3 := xKcf hKc 0 rfl rfl
        have k1 : xE E 35 3 = v 4 := xKcf hKc 1 rfl rfl
        have f0 : (v2 2) = 0 := xXf hF 0 rfl
        have f1 : (0 : Int) ≤ 7 ∧ xE E 35 7 = (v2 5) := xXf hF 1 rfl
        have f2 : ¬ (v2 5) = 1 := xXf hF 2 rfl
        have f3 : (0 : Int) ≤ 5 ∧ xE E 35 5 = (v2 6) := xXf hF 3 rfl
        have m0 : xE E2 35 2 = 2 := xXm hM 0 rfl
        have m1 : xE E2 35 3 = (v2 6) := xXm hM 1 rfl
        have e35_4 : xE E2 35 4 = xE E 35 4 := xFr_E hfr rfl
        have q35_4 : xE E 35 4 = xE E0 35 4 := xFr_E hFr0 rfl
        have e35_5 : xE E2 35 5 = xE E 35 5 := xFr_E hfr rfl
        have e35_6 : xE E2 35 6 = xE E 35 6 := xFr_E hfr rfl
        have e35_7 : xE E2 35 7 = xE E 35 7 := xFr_E hfr rfl
        have e35_8 : xE E2 35 8 = xE E 35 8 := xFr_E hfr rfl
        have e36 : ∀ i, xE E2 36 i = xE E 36 i := fun i => xFr_E hfr rfl
        have q36 : ∀ i, xE E 36 i = xE E0 36 i := fun i => xFr_E hFr0 rfl
        have hI : (E = E0 ∧ sW (xE E0 36) (xE E0 35 7) (xE E0 35 5) (xE E0 35 6) [115, 119, 105, 116, 99, 104] = false ∧ sW (xE E0 36) (xE E0 35 7) (xE E0 35 5) (xE E0 35 6) [98, 111, 98, 98, 105, 110] = false ∧ sW (xE E0 36) (xE E0 35 7) (xE E0 35 5) (xE E0 35 6) [115, 116, 117, 99, 107] = false ∧ sW (xE E0 36) (xE E0 35 7) (xE E0 35 5) (xE E0 35 6) [102, 114, 101, 101] = false ∧ sW (xE E0 36) (xE E0 35 7) (xE E0 35 5) (xE E0 35 6) [112, 108, 97, 99, 101] = false ∧ (v 2) = if sW (xE E0 36) (xE E0 35 7) (xE E0 35 5) (xE E0 35 6) [119, 111, 114, 100] = true then 1 else 0) ∧ (xE E 35 2 = xE E0 35 2 ∧ xE E 35 3 = xE E0 35 3) := hInv
        obtain ⟨hI, hSm⟩ := hI
        have q35_5 : xE E 35 5 = xE E0 35 5 := by rw [hI.1]
        have q35_6 : xE E 35 6 = xE E0 35 6 := by rw [hI.1]
        have q35_7 : xE E 35 7 = xE E0 35 7 := by rw [hI.1]
        have q35_8 : xE E 35 8 = xE E0 35 8 := by rw [hI.1]
        have q35_2 : xE E 35 2 = xE E0 35 2 := by rw [hI.1]
        have q35_3 : xE E 35 3 = xE E0 35 3 := by rw [hI.1]
        show xΨfrl0S x0 E0 E2 0
        refine ⟨?_, ?_⟩
        · show xΨfrl0 x0 E0 E2 0
          obtain ⟨hE, n0, n1, n2, n3, n4, i3⟩ := hI
          obtain ⟨S0, hS0⟩ := hΦ.2.1
          obtain ⟨pp, hpp, hA0⟩ := hΦ.2.2
          have n5 : sW (xE E0 36) (xE E0 35 7) (xE E0 35 5) (xE E0 35 6) [119, 111, 114, 100] = false := by
            rw [Bool.eq_false_iff]
            intro h
            rw [if_pos h] at i3
            omega
          subst hE
          intro p S hp ⟨a1, a2, a3, a4⟩ hS
          have hm : pMis (xE E 36) (xE E 35 4) p = 2 := by unfold pMis; rw [if_neg (by omega)]
          rw [a1, a2, a3] at n0 n1 n2 n3 n4 n5
          unfold pLine pBody tW
          rw [n0, if_neg (by decide), n1, if_neg (by decide), n2, if_neg (by decide), n3, if_neg (by decide), n4, if_neg (by decide), n5, if_neg (by decide), hm]
          exact xOut0_e rfl (by omega) (by omega)
        · show (¬ (0) = 0 → (xE E2 35 2 = xE E0 35 2 ∧ xE E2 35 3 = xE E0 35 3))
          omega
      · skip
        rcases List.mem_cons.mp hx with ex | hx
        · subst ex
          obtain ⟨hF, hBd, hM⟩ := hXs
          have g2 : v2 2 = v 2 := hag 2 (by decide)
          have g3 : v2 3 = v 3 := hag 3 (by decide)
          have g4 : v2 4 = v 4 := hag 4 (by decide)
          have b0 : ((2147483648 : Nat) : Int) ≤ (v2 2) + 2147483648 ∧ (v2 2) + 2147483648 ≤ ((2147483648 : Nat) : Int) := xXb hBd 0 rfl
          have b1 : ((2147483648 : Nat) : Int) ≤ (v2 5) + 2147483648 ∧ (v2 5) + 2147483648 ≤ ((2147483648 : Nat) : Int) := xXb hBd 1 rfl
          have b2 : ((2147483648 : Nat) : Int) ≤ (v2 6) + 2147483648 ∧ (v2 6) + 2147483648 ≤ ((2147484548 : Nat) : Int) := xXb hBd 2 rfl
          have k0 : xE E 35 2 = v 3 := xKcf hKc 0 rfl rfl
          have k1 : xE E 35 3 = v 4 := xKcf hKc 1 rfl rfl
          have f0 : (v2 2) = 0 := xXf hF 0 rfl
          have f1 : (0 : Int) ≤ 7 ∧ xE E 35 7 = (v2 5) := xXf hF 1 rfl
          have f2 : ¬ (v2 5) = 1 := xXf hF 2 rfl
          have f3 : (0 : Int) ≤ 5 ∧ xE E 35 5 = (v2 6) := xXf hF 3 rfl
          have m0 : xE E2 35 2 = 2 := xXm hM 0 rfl
          have m1 : xE E2 35 3 = (v2 6) := xXm hM 1 rfl
          have e35_4 : xE E2 35 4 = xE E 35 4 := xFr_E hfr rfl
          have q35_4 : xE E 35 4 = xE E0 35 4 := xFr_E hFr0 rfl
          have e35_5 : xE E2 35 5 = xE E 35 5 := xFr_E hfr rfl
          have e35_6 : xE E2 35 6 = xE E 35 6 := xFr_E hfr rfl
          have e35_7 : xE E2 35 7 = xE E 35 7 := xFr_E hfr rfl
          have e35_8 : xE E2 35 8 = xE E 35 8 := xFr_E hfr rfl
          have e36 : ∀ i, xE E2 36 i = xE E 36 i := fun i => xFr_E hfr rfl
          have q36 : ∀ i, xE E 36 i = xE E0 36 i := fun i => xFr_E hFr0 rfl
          have hI : (E = E0 ∧ sW (xE E0 36) (xE E0 35 7) (xE E0 35 5) (xE E0 35 6) [115, 119, 105, 116, 99, 104] = false ∧ sW (xE E0 36) (xE E0 35 7) (xE E0 35 5) (xE E0 35 6) [98, 111, 98, 98, 105, 110] = false ∧ sW (xE E0 36) (xE E0 35 7) (xE E0 35 5) (xE E0 35 6) [115, 116, 117, 99, 107] = false ∧ sW (xE E0 36) (xE E0 35 7) (xE E0 35 5) (xE E0 35 6) [102, 114, 101, 101] = false ∧ sW (xE E0 36) (xE E0 35 7) (xE E0 35 5) (xE E0 35 6) [112, 108, 97, 99, 101] = false ∧ (v 2) = if sW (xE E0 36) (xE E0 35 7) (xE E0 35 5) (xE E0 35 6) [119, 111, 114, 100] = true then 1 else 0) ∧ (xE E 35 2 = xE E0 35 2 ∧ xE E 35 3 = xE E0 35 3) := hInv
          obtain ⟨hI, hSm⟩ := hI
          have q35_5 : xE E 35 5 = xE E0 35 5 := by rw [hI.1]
          have q35_6 : xE E 35 6 = xE E0 35 6 := by rw [hI.1]
          have q35_7 : xE E 35 7 = xE E0 35 7 := by rw [hI.1]
          have q35_8 : xE E 35 8 = xE E0 35 8 := by rw [hI.1]
          have q35_2 : xE E 35 2 = xE E0 35 2 := by rw [hI.1]
          have q35_3 : xE E 35 3 = xE E0 35 3 := by rw [hI.1]
          show xΨfrl0S x0 E0 E2 0
          refine ⟨?_, ?_⟩
          · show xΨfrl0 x0 E0 E2 0
            obtain ⟨hE, n0, n1, n2, n3, n4, i3⟩ := hI
            obtain ⟨S0, hS0⟩ := hΦ.2.1
            obtain ⟨pp, hpp, hA0⟩ := hΦ.2.2
            have n5 : sW (xE E0 36) (xE E0 35 7) (xE E0 35 5) (xE E0 35 6) [119, 111, 114, 100] = false := by
              rw [Bool.eq_false_iff]
              intro h
              rw [if_pos h] at i3
              omega
            subst hE
            intro p S hp ⟨a1, a2, a3, a4⟩ hS
            have hm : pMis (xE E 36) (xE E 35 4) p = 2 := by unfold pMis; rw [if_neg (by omega)]
            rw [a1, a2, a3] at n0 n1 n2 n3 n4 n5
            unfold pLine pBody tW
            rw [n0, if_neg (by decide), n1, if_neg (by decide), n2, if_neg (by decide), n3, if_neg (by decide), n4, if_neg (by decide), n5, if_neg (by decide), hm]
            exact xOut0_e rfl (by omega) (by omega)
          · show (¬ (0) = 0 → (xE E2 35 2 = xE E0 35 2 ∧ xE E2 35 3 = xE E0 35 3))
            omega
        · skip
          have ex := List.mem_singleton.mp hx
          subst ex
          obtain ⟨hF, hBd, hM⟩ := hXs
          have g2 : v2 2 = v 2 := hag 2 (by decide)
          have g3 : v2 3 = v 3 := hag 3 (by decide)
          have g4 : v2 4 = v 4 := hag 4 (by decide)
          have b0 : ((2147483648 : Nat) : Int) ≤ (v2 2) + 2147483648 ∧ (v2 2) + 2147483648 ≤ ((2147483648 : Nat) : Int) := xXb hBd 0 rfl
          have b1 : ((2147483649 : Nat) : Int) ≤ (v2 5) + 2147483648 ∧ (v2 5) + 2147483648 ≤ ((2147483649 : Nat) : Int) := xXb hBd 1 rfl
          have b2 : ((2147483648 : Nat) : Int) ≤ (v2 6) + 2147483648 ∧ (v2 6) + 2147483648 ≤ ((2147484548 : Nat) : Int) := xXb hBd 2 rfl
          have k0 : xE E 35 2 = v 3 := xKcf hKc 0 rfl rfl
          have k1 : xE E 35 3 = v 4 := xKcf hKc 1 rfl rfl
          have f0 : (v2 2) = 0 := xXf hF 0 rfl
          have f1 : (0 : Int) ≤ 7 ∧ xE E 35 7 = (v2 5) := xXf hF 1 rfl
          have f2 : (v2 5) = 1 := xXf hF 2 rfl
          have f3 : (0 : Int) ≤ 5 ∧ xE E 35 5 = (v2 6) := xXf hF 3 rfl
          have m0 : xE E2 35 2 = 1 := xXm hM 0 rfl
          have m1 : xE E2 35 3 = (v2 6) := xXm hM 1 rfl
          have e35_4 : xE E2 35 4 = xE E 35 4 := xFr_E hfr rfl
          have q35_4 : xE E 35 4 = xE E0 35 4 := xFr_E hFr0 rfl
          have e35_5 : xE E2 35 5 = xE E 35 5 := xFr_E hfr rfl
          have e35_6 : xE E2 35 6 = xE E 35 6 := xFr_E hfr rfl
          have e35_7 : xE E2 35 7 = xE E 35 7 := xFr_E hfr rfl
          have e35_8 : xE E2 35 8 = xE E 35 8 := xFr_E hfr rfl
          have e36 : ∀ i, xE E2 36 i = xE E 36 i := fun i => xFr_E hfr rfl
          have q36 : ∀ i, xE E 36 i = xE E0 36 i := fun i => xFr_E hFr0 rfl
          have hI : (E = E0 ∧ sW (xE E0 36) (xE E0 35 7) (xE E0 35 5) (xE E0 35 6) [115, 119, 105, 116, 99, 104] = false ∧ sW (xE E0 36) (xE E0 35 7) (xE E0 35 5) (xE E0 35 6) [98, 111, 98, 98, 105, 110] = false ∧ sW (xE E0 36) (xE E0 35 7) (xE E0 35 5) (xE E0 35 6) [115, 116, 117, 99, 107] = false ∧ sW (xE E0 36) (xE E0 35 7) (xE E0 35 5) (xE E0 35 6) [102, 114, 101, 101] = false ∧ sW (xE E0 36) (xE E0 35 7) (xE E0 35 5) (xE E0 35 6) [112, 108, 97, 99, 101] = false ∧ (v 2) = if sW (xE E0 36) (xE E0 35 7) (xE E0 35 5) (xE E0 35 6) [119, 111, 114, 100] = true then 1 else 0) ∧ (xE E 35 2 = xE E0 35 2 ∧ xE E 35 3 = xE E0 35 3) := hInv
          obtain ⟨hI, hSm⟩ := hI
          have q35_5 : xE E 35 5 = xE E0 35 5 := by rw [hI.1]
          have q35_6 : xE E 35 6 = xE E0 35 6 := by rw [hI.1]
          have q35_7 : xE E 35 7 = xE E0 35 7 := by rw [hI.1]
          have q35_8 : xE E 35 8 = xE E0 35 8 := by rw [hI.1]
          have q35_2 : xE E 35 2 = xE E0 35 2 := by rw [hI.1]
          have q35_3 : xE E 35 3 = xE E0 35 3 := by rw [hI.1]
          show xΨfrl0S x0 E0 E2 0
          refine ⟨?_, ?_⟩
          · show xΨfrl0 x0 E0 E2 0
            obtain ⟨hE, n0, n1, n2, n3, n4, i3⟩ := hI
            obtain ⟨S0, hS0⟩ := hΦ.2.1
            obtain ⟨pp, hpp, hA0⟩ := hΦ.2.2
            have n5 : sW (xE E0 36) (xE E0 35 7) (xE E0 35 5) (xE E0 35 6) [119, 111, 114, 100] = false := by
              rw [Bool.eq_false_iff]
              intro h
              rw [if_pos h] at i3
              omega
            subst hE
            intro p S hp ⟨a1, a2, a3, a4⟩ hS
            have hm : pMis (xE E 36) (xE E 35 4) p = 1 := by unfold pMis; rw [if_pos (by omega)]
            rw [a1, a2, a3] at n0 n1 n2 n3 n4 n5
            unfold pLine pBody tW
            rw [n0, if_neg (by decide), n1, if_neg (by decide), n2, if_neg (by decide), n3, if_neg (by decide), n4, if_neg (by decide), n5, if_neg (by decide), hm]
            exact xOut0_e rfl (by omega) (by omega)
          · show (¬ (0) = 0 → (xE E2 35 2 = xE E0 35 2 ∧ xE E2 35 3 = xE E0 35 3))
            omega
    · have hx : x ∈ [zxfrl0_r5r0] := hx
      have hag : ∀ k, k < 3 → v2 k = v k := hag
      have hfr : xFr [] _ _ := hfr
      have ex := List.mem_singleton.mp hx
      subst ex
      obtain ⟨hF, hBd, hM⟩ := hXs
      have g2 : v2 2 = v 2 := hag 2 (by decide)
      have b0 : ((2147483648 : Nat) : Int) ≤ (v2 2) + 2147483648 ∧ (v2 2) + 2147483648 ≤ ((2147483649 : Nat) : Int) := xXb hBd 0 rfl
      have e35_4 : xE E2 35 4 = xE E 35 4 := xFr_E hfr rfl
      have q35_4 : xE E 35 4 = xE E0 35 4 := xFr_E hFr0 rfl
      have e35_5 : xE E2 35 5 = xE E 35 5 := xFr_E hfr rfl
      have e35_6 : xE E2 35 6 = xE E 35 6 := xFr_E hfr rfl
      have e35_7 : xE E2 35 7 = xE E 35 7 := xFr_E hfr rfl
      have e35_8 : xE E2 35 8 = xE E 35 8 := xFr_E hfr rfl
      have e35_2 : xE E2 35 2 = xE E 35 2 := xFr_E hfr rfl
      have e35_3 : xE E2 35 3 = xE E 35 3 := xFr_E hfr rfl
      have e36 : ∀ i, xE E2 36 i = xE E 36 i := fun i => xFr_E hfr rfl
      have q36 : ∀ i, xE E 36 i = xE E0 36 i := fun i => xFr_E hFr0 rfl
      have hI : (E0 = E0 ∧ ∀ p S, p ≤ xE E0 35 4 → xAD (xE E0 36) (xE E0 35 4) p E0 → xAb0 E0 S → xOut0 (pLine (xE E0 36) (xE E0 35 4) p S) E (v 2)) ∧ (¬ (v 2) = 0 → (xE E 35 2 = xE E0 35 2 ∧ xE E 35 3 = xE E0 35 3)) := hInv
      obtain ⟨hI, hSm⟩ := hI
      show xΨfrl0S x0 E0 E2 (v2 2)
      refine ⟨?_, ?_⟩
      · show xΨfrl0 x0 E0 E2 (v2 2)
        have hE2 := xFr_n hfr
        subst hE2
        intro p S hp hA hS
        have w := hI.2 p S hp hA hS
        rw [show (v 2) = v2 2 by omega] at w
        exact w
      · show (¬ ((v2 2)) = 0 → (xE E2 35 2 = xE E0 35 2 ∧ xE E2 35 3 = xE E0 35 3))
        omega
end
