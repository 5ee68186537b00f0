section
/-! THE CLASS reads: size (printed by m11.py) -/
noncomputable def zxfrz0_ax0 : zyXp := (1, [283, 11, 13], [283], [], [], [])
noncomputable def zpfrz0_a : zyPh := (0, [283, 11, 13], [(0, 4294967295), (0, 4294967295), (0, 4294967295)], [], [])
noncomputable def zxfrz0_bx0 : zyXp := (7, [283, 11, 13], [800003, 283], [], [], [])
noncomputable def zpfrz0_b : zyPh := (4, [283, 11, 13], [(0, 4294967295), (0, 4294967295), (0, 4294967295)], [], [])
noncomputable def zxfrz0_cx0 : zyXp := (25, [283, 11, 13], [32, 8, 283], [(23, 0, 103079215105, 0)], [(103079215105, 2147483649, 2147483649)], [])
noncomputable def zxfrz0_cr0 : zyXp := (0, [], [0], [(22, 0, 103079215105, 0), (24, 137438953473, 35, 56), (23, 0, 137438953473, 8), (24, 171798691841, 35, 40)], [(103079215105, 2147483648, 2147483648), (137438953473, 2147483650, 2147483653), (171798691841, 2147483648, 2147484548)], [(573442, 16), (573443, 171798691841)])
noncomputable def zxfrz0_cr1 : zyXp := (0, [], [0], [(22, 0, 103079215105, 0), (24, 137438953473, 35, 56), (23, 0, 137438953473, 8), (24, 171798691841, 35, 40)], [(103079215105, 2147483648, 2147483648), (137438953473, 2147483648, 2147483648), (171798691841, 2147483648, 2147484548)], [(573442, 16), (573443, 171798691841)])
noncomputable def zxfrz0_cr2 : zyXp := (0, [], [0], [(22, 0, 103079215105, 0), (24, 137438953473, 35, 56), (22, 0, 137438953473, 8), (24, 171798691841, 35, 40)], [(103079215105, 2147483648, 2147483648), (137438953473, 2147483649, 2147483649), (171798691841, 2147483648, 2147484548)], [(573442, 8), (573443, 171798691841)])
noncomputable def zpfrz0_c : zyPh := (10, [283, 11, 13], [(0, 4294967295), (0, 4294967295), (0, 4294967295), (2147483648, 2147483649)], [], [103079215105])
noncomputable def zxfrz0_dx0 : zyXp := (41, [283, 11, 137438953473], [40, 8, 283], [(23, 0, 103079215105, 0), (24, 137438953473, 35, 64)], [(103079215105, 2147483649, 2147483649)], [])
noncomputable def zxfrz0_dr0 : zyXp := (0, [], [0], [(22, 0, 103079215105, 0)], [(103079215105, 2147483648, 2147483648)], [])
noncomputable def zpfrz0_d : zyPh := (28, [283, 11, 13], [(0, 4294967295), (0, 4294967295), (0, 4294967295), (2147483648, 2147483649)], [], [103079215105])
noncomputable def zxfrz0_ex0 : zyXp := (55, [283, 11, 13], [137438953473, 68719476737, 11], [(23, 0, 103079215105, 0), (24, 137438953473, 35, 64)], [(68719476737, 2147483649, 2147483652), (103079215105, 2147483649, 2147483649)], [])
noncomputable def zxfrz0_er0 : zyXp := (0, [], [0], [(22, 0, 103079215105, 0)], [(103079215105, 2147483648, 2147483648)], [])
noncomputable def zpfrz0_e : zyPh := (44, [283, 11, 68719476737], [(0, 4294967295), (0, 4294967295), (2147483649, 2147483652), (2147483648, 2147483649)], [], [103079215105])
noncomputable def zxfrz0_fx0 : zyXp := (59, [283, 11, 13], [283], [], [], [])
noncomputable def zpfrz0_f : zyPh := (58, [283, 11, 13], [(0, 4294967295), (0, 4294967295), (0, 4294967295)], [], [])
noncomputable def zxfrz0_gr0 : zyXp := (0, [], [103079215105], [], [(103079215105, 2147483648, 2147483649)], [])
noncomputable def zpfrz0_g : zyPh := (62, [283, 11, 13], [(0, 4294967295), (0, 4294967295), (0, 4294967295), (2147483648, 2147483649)], [], [103079215105])
noncomputable def zpfrz0 (i : Nat) : zyPh := zif (Nat.beq i 0) (zpfrz0_a) (zif (Nat.beq i 1) (zpfrz0_b) (zif (Nat.beq i 2) (zpfrz0_c) (zif (Nat.beq i 3) (zpfrz0_d) (zif (Nat.beq i 4) (zpfrz0_e) (zif (Nat.beq i 5) (zpfrz0_f) (zpfrz0_g))))))
noncomputable def zXfrz0 (i : Nat) : List zyXp := zif (Nat.beq i 0) ([zxfrz0_ax0]) (zif (Nat.beq i 1) ([zxfrz0_bx0]) (zif (Nat.beq i 2) ([zxfrz0_cx0]) (zif (Nat.beq i 3) ([zxfrz0_dx0]) (zif (Nat.beq i 4) ([zxfrz0_ex0]) (zif (Nat.beq i 5) ([zxfrz0_fx0]) ([]))))))
noncomputable def zRfrz0 (i : Nat) : List zyXp := zif (Nat.beq i 0) ([]) (zif (Nat.beq i 1) ([]) (zif (Nat.beq i 2) ([zxfrz0_cr0, zxfrz0_cr1, zxfrz0_cr2]) (zif (Nat.beq i 3) ([zxfrz0_dr0]) (zif (Nat.beq i 4) ([zxfrz0_er0]) (zif (Nat.beq i 5) ([]) ([zxfrz0_gr0]))))))
noncomputable def zFfrz0 (i : Nat) : zyR := zif (Nat.beq i 0) ([]) (zif (Nat.beq i 1) ([]) (zif (Nat.beq i 2) ([(35, 2, 3)]) (zif (Nat.beq i 3) ([]) (zif (Nat.beq i 4) ([]) (zif (Nat.beq i 5) ([]) ([]))))))
noncomputable def zSfrz0 (i : Nat) : Nat := zif (Nat.beq i 0) (0) (zif (Nat.beq i 1) (0) (zif (Nat.beq i 2) (0) (zif (Nat.beq i 3) (0) (zif (Nat.beq i 4) (0) (zif (Nat.beq i 5) (0) (0))))))
theorem xGeo0_35 {E E2 : zyEm} {r c : Nat} (h : xGeo0 E r c) (hf : xFr [(35, 0, 8)] E E2) : xGeo0 E2 r c := by
  refine ⟨fun s hs => ?_, fun g hg => ?_⟩
  · rw [(show xE E2 3 s = xE E 3 s from xFr_E hf rfl), (show xE E2 4 s = xE E 4 s from xFr_E hf rfl), (show xE E2 5 s = xE E 5 s from xFr_E hf rfl), (show xE E2 6 s = xE E 6 s from xFr_E hf rfl), (show xE E2 7 s = xE E 7 s from xFr_E hf rfl)]
    exact h.1 s hs
  · rw [(show xE E2 8 g = xE E 8 g from xFr_E hf rfl), (show xE E2 9 g = xE E 9 g from xFr_E hf rfl)]
    exact h.2 g hg
def xΦrz0 (_ : Nat → Int) (E : zyEm) : Prop := xE E 35 6 = 0 ∧ 0 ≤ xE E 35 4
def xΨfrz0 (_ : Nat → Int) (E E2 : zyEm) (r : Int) : Prop := xOut0 (pSz (xE E 36) (xE E 35 4)) E2 r ∧ xJk0 E E2 ∧ ∀ p S, pSz (xE E 36) (xE E 35 4) = .ok (p, S) → xGeo0 E2 (S 0).toNat (S 1).toNat
noncomputable def fpfrz0 : zyR := [(35, 2, 3), (35, 5, 8), (1, 5, 5), (1, 8, 8), (2, 0, 3), (3, 0, 79), (4, 0, 79), (5, 0, 79), (6, 0, 79), (7, 0, 79), (8, 0, 30), (9, 0, 30), (10, 0, 30), (11, 0, 30), (12, 0, 30), (13, 0, 30), (16, 1, 1)]
theorem zyfrz0_run : zyrS zymc zxi60 (60, 0, 0, 2, 0) 8 zpfrz0 (fun _ _ => []) zFfrz0 zSfrz0 zXfrz0 zRfrz0 7 = true := by decide +kernel
theorem zyfrz0_ck : zyAll (fun i => xsubR (zFfrz0 i) fpfrz0 && ((zXfrz0 i).all xckX && (zRfrz0 i).all (fun x => xckX x && xrtB true x))) 7 = true := by decide +kernel
def xIfrz0 (i : Nat) (x0 : Nat → Int) (E0 : zyEm) (v : Nat → Int) (E : zyEm) : Prop := if i = 0 then (E = E0) else if i = 1 then (xAD (xE E0 36) (xE E0 35 4) 0 E ∧ (∀ k, xE E 4 k = xE E0 4 k) ∧ (∀ k, xE E 5 k = xE E0 5 k)) else if i = 2 then (xAD (xE E0 36) (xE E0 35 4) 0 E ∧ ((v 3) = if tW (xE E0 36) (xE E0 35 4) 0 [115, 105, 122, 101] = true then 1 else 0) ∧ (∀ k, xE E 4 k = xE E0 4 k) ∧ (∀ k, xE E 5 k = xE E0 5 k)) else if i = 3 then (tW (xE E0 36) (xE E0 35 4) 0 [115, 105, 122, 101] = true ∧ xTN (xE E0 36) (xE E0 35 4) (tNx (xE E0 36) (xE E0 35 4) 0) 1 4 E (v 3) ∧ (∀ k, xE E 4 k = xE E0 4 k) ∧ (∀ k, xE E 5 k = xE E0 5 k)) else if i = 4 then (∃ p1, p1 ≤ (xE E0 35 4) ∧ (1 ≤ (v 2) ∧ (v 2) ≤ 4) ∧ pSz (xE E0 36) (xE E0 35 4) = pNum (xE E0 36) (xE E0 35 4) p1 1 5 (fun cc p2 => pSem (xE E0 36) (xE E0 35 4) p2 (pClr (v 2) cc)) ∧ xTN (xE E0 36) (xE E0 35 4) p1 1 5 E (v 3) ∧ (∀ k, xE E 4 k = xE E0 4 k) ∧ (∀ k, xE E 5 k = xE E0 5 k)) else if i = 5 then (∃ rr cc : Int, xE E 35 6 ≤ (xE E0 35 4) ∧ pSz (xE E0 36) (xE E0 35 4) = pSem (xE E0 36) (xE E0 35 4) (xE E 35 6) (pClr rr cc) ∧ (1 ≤ rr ∧ rr ≤ 4 ∧ 1 ≤ cc ∧ cc ≤ 5) ∧ xAb0 E (pClr rr cc) ∧ xGeo0 E rr.toNat cc.toNat ∧ xJk0 E0 E) else (∃ rr cc p2 : Int, pSz (xE E0 36) (xE E0 35 4) = pSem (xE E0 36) (xE E0 35 4) p2 (pClr rr cc) ∧ xTS (xE E0 36) (xE E0 35 4) p2 E (v 3) ∧ (1 ≤ rr ∧ rr ≤ 4 ∧ 1 ≤ cc ∧ cc ≤ 5) ∧ xAb0 E (pClr rr cc) ∧ xGeo0 E rr.toNat cc.toNat ∧ xJk0 E0 E)
def xMfrz0 (i : Nat) (x0 : Nat → Int) (E0 : zyEm) (v : Nat → Int) (E : zyEm) : Nat := if i = 0 then (20) else if i = 1 then (19) else if i = 2 then (18) else if i = 3 then (17) else if i = 4 then (16) else if i = 5 then (15) else (14)
theorem xRz0 {l : Launch} {en : zEn} {me : zMe} (hen : zG zxMeta 60 = some en) (hme : zG zMeth 60 = some me) : xFc l zymc en me 8 [35, 1] 0 fpfrz0 true xΦrz0 xΨfrz0 := by
  have een : zG zxMeta 60 = some (zxi60, 2, 3, 5, 60, 0, 0, 2, 0) := rfl
  obtain ⟨me1, hme1, hOK⟩ := zall hen
  rw [hme] at hme1
  cases hme1
  rw [een] at hen
  cases hen
  have hr := zyfrz0_run
  have hck := fun i hi => zyAll_iff zyfrz0_ck i hi
  simp only [Bool.and_eq_true] at hck
  obtain ⟨mefad, hmefad, -⟩ := zall (show zG zxMeta 73 = some (zxi73, 1, 1, 5, 73, 0, 0, 0, 0) from rfl)
  have hfad := xAd (l := l) (show zG zxMeta 73 = some (zxi73, 1, 1, 5, 73, 0, 0, 0, 0) from rfl) hmefad
  obtain ⟨meftn, hmeftn, -⟩ := zall (show zG zxMeta 69 = some (zxi69, 3, 3, 5, 69, 0, 0, 2, 0) from rfl)
  have hftn := xTn (l := l) (show zG zxMeta 69 = some (zxi69, 3, 3, 5, 69, 0, 0, 2, 0) from rfl) hmeftn
  obtain ⟨mefts, hmefts, -⟩ := zall (show zG zxMeta 68 = some (zxi68, 1, 1, 5, 68, 0, 0, 2, 0) from rfl)
  have hfts := xTs (l := l) (show zG zxMeta 68 = some (zxi68, 1, 1, 5, 68, 0, 0, 2, 0) from rfl) hmefts
  obtain ⟨mefwsi, hmefwsi, -⟩ := zall (show zG zxMeta 72 = some (zxi72, 2, 3, 5, 72, 0, 0, 2, 0) from rfl)
  have hfwsi := xWsize (l := l) (show zG zxMeta 72 = some (zxi72, 2, 3, 5, 72, 0, 0, 2, 0) from rfl) hmefwsi
  obtain ⟨mefcl0, hmefcl0, -⟩ := zall (show zG zxMeta 31 = some (zxi31, 3, 4, 3, 31, 0, 0, 0, 0) from rfl)
  have hfcl0 := xCl0 (l := l) (show zG zxMeta 31 = some (zxi31, 3, 4, 3, 31, 0, 0, 0, 0) from rfl) hmefcl0
  intro B
  refine xcut (mi := zymc) (B := B) hOK rfl rfl (ι := Fin 7) (fun i => zpfrz0 i.val) (fun _ _ => []) (fun i => zFfrz0 i.val) (fun i => zSfrz0 i.val) (fun i => zXfrz0 i.val) (fun i => zRfrz0 i.val) (fun i y2 ct en2 me2 h => by cases h) 200000 (fun i => zyAll_iff hr i.val i.isLt) (fun i => (hck i.val i.isLt).1) (fun i => (hck i.val i.isLt).2.1) (fun i => (hck i.val i.isLt).2.2) ⟨0, by decide⟩ ⟨rfl, rfl, rfl, rfl⟩ ⟨by decide, by decide⟩ (fun i x0 E0 v E => xIfrz0 i.val x0 E0 v E) (fun i x0 E0 v E => xMfrz0 i.val x0 E0 v E) ?_ ?_ ?_
  · intro x0 E hx0 hT hΦ
    have hΦ : xΦrz0 x0 E := hΦ
    refine ⟨fun k p hp => ?_, ?_⟩
    · have hk : k < 3 := (List.getElem?_eq_some_iff.mp hp).1
      have hk : k = 0 ∨ k = 1 ∨ k = 2 := by omega
      rcases hk with rfl | rfl | rfl
      · have hp : some (0, 4294967295) = some p := hp
        cases hp
        show ((0 : Nat) : Int) ≤ 0 + 2147483648 ∧ 0 + 2147483648 ≤ ((4294967295 : Nat) : Int)
        omega
      · have hp : some (0, 4294967295) = some p := hp
        cases hp
        show ((0 : Nat) : Int) ≤ 0 + 2147483648 ∧ 0 + 2147483648 ≤ ((4294967295 : Nat) : Int)
        omega
      · have hp : some (0, 4294967295) = some p := hp
        cases hp
        show ((0 : Nat) : Int) ≤ x0 0 + 2147483648 ∧ x0 0 + 2147483648 ≤ ((4294967295 : Nat) : Int)
        have hx := hx0 0
        omega
    · show E = E
      rfl
  · intro x0 s Wg hRu hrx hT0 hΦ i v H hT hrv hInv hKc hFr0 hIH x hx ρ2 v2 N2 H2 locs lsB stA hAt hB hv hr2 hXs hag hfr hFr hT2
    rcases i with ⟨i, hi⟩
    have hi2 : i = 0 ∨ i = 1 ∨ i = 2 ∨ i = 3 ∨ i = 4 ∨ i = 5 ∨ i = 6 := by omega
    rcases hi2 with rfl | rfl | rfl | rfl | rfl | rfl | rfl
    · have hx : x ∈ [zxfrz0_ax0] := hx
      have hag : ∀ k, k < 3 → v2 k = v k := hag
      have hfr : xFr [] _ _ := hfr
      have ex := List.mem_singleton.mp hx
      subst ex
      obtain ⟨hF, hBd, hM⟩ := hXs
      have e35_4 : xE (zyEl zymc B H2) 35 4 = xE (zyEl zymc B H) 35 4 := xFr_E hfr rfl
      have q35_4 : xE (zyEl zymc B H) 35 4 = xE (zyEl zymc B s.heap) 35 4 := xFr_E hFr0 rfl
      have e35_5 : xE (zyEl zymc B H2) 35 5 = xE (zyEl zymc B H) 35 5 := xFr_E hfr rfl
      have e35_6 : xE (zyEl zymc B H2) 35 6 = xE (zyEl zymc B H) 35 6 := xFr_E hfr rfl
      have e35_7 : xE (zyEl zymc B H2) 35 7 = xE (zyEl zymc B H) 35 7 := xFr_E hfr rfl
      have e35_8 : xE (zyEl zymc B H2) 35 8 = xE (zyEl zymc B H) 35 8 := xFr_E hfr rfl
      have e35_2 : xE (zyEl zymc B H2) 35 2 = xE (zyEl zymc B H) 35 2 := xFr_E hfr rfl
      have e35_3 : xE (zyEl zymc B H2) 35 3 = xE (zyEl zymc B H) 35 3 := xFr_E hfr rfl
      have e36 : ∀ i, xE (zyEl zymc B H2) 36 i = xE (zyEl zymc B H) 36 i := fun i => xFr_E hfr rfl
      have q36 : ∀ i, xE (zyEl zymc B H) 36 i = xE (zyEl zymc B s.heap) 36 i := fun i => xFr_E hFr0 rfl
      have e4 : ∀ i, xE (zyEl zymc B H2) 4 i = xE (zyEl zymc B H) 4 i := fun i => xFr_E hfr rfl
      have e5 : ∀ i, xE (zyEl zymc B H2) 5 i = xE (zyEl zymc B H) 5 i := fun i => xFr_E hfr rfl
      have hI : (zyEl zymc B H) = (zyEl zymc B s.heap) := hInv
      have q35_5 : xE (zyEl zymc B H) 35 5 = xE (zyEl zymc B s.heap) 35 5 := by rw [hI]
      have q35_6 : xE (zyEl zymc B H) 35 6 = xE (zyEl zymc B s.heap) 35 6 := by rw [hI]
      have q35_7 : xE (zyEl zymc B H) 35 7 = xE (zyEl zymc B s.heap) 35 7 := by rw [hI]
      have q35_8 : xE (zyEl zymc B H) 35 8 = xE (zyEl zymc B s.heap) 35 8 := by rw [hI]
      have q35_2 : xE (zyEl zymc B H) 35 2 = xE (zyEl zymc B s.heap) 35 2 := by rw [hI]
      have q35_3 : xE (zyEl zymc B H) 35 3 = xE (zyEl zymc B s.heap) 35 3 := by rw [hI]
      have q4 : ∀ i, xE (zyEl zymc B H) 4 i = xE (zyEl zymc B s.heap) 4 i := fun i => by rw [hI]
      have q5 : ∀ i, xE (zyEl zymc B H) 5 i = xE (zyEl zymc B s.heap) 5 i := fun i => by rw [hI]
      have tt : xE (zyEl zymc B H2) 36 = xE (zyEl zymc B s.heap) 36 := funext fun i => (e36 i).trans (q36 i)
      have tn : xE (zyEl zymc B H2) 35 4 = xE (zyEl zymc B s.heap) 35 4 := by omega
      have hP := hΦ.1
      have hP2 := hΦ.2
      refine xCa hRu hIH hAt hB hv hFr (hfad B) (ix := 35) (ax := 1168) rfl rfl rfl hmefad ⟨_, rfl, rfl, by decide⟩ ⟨rfl, rfl, rfl⟩ (by decide) [] [] [] rfl ⟨rfl, rfl⟩ (by decide +kernel) xcs_n (by decide +kernel) ?_ (fun H3 r hT3 hf3 hFr3 hr3 hΨ3 => ?_)
      · show xΦad (xfv []) (zyEl zymc B H2)
        unfold xΦad
        omega
      · have hΨ3 : xΨad (xfv []) (zyEl zymc B H2) (zyEl zymc B H3) r := hΨ3
        have d35_4 : xE (zyEl zymc B H3) 35 4 = xE (zyEl zymc B H2) 35 4 := xFr_E hf3 rfl
        have d35_2 : xE (zyEl zymc B H3) 35 2 = xE (zyEl zymc B H2) 35 2 := xFr_E hf3 rfl
        have d35_3 : xE (zyEl zymc B H3) 35 3 = xE (zyEl zymc B H2) 35 3 := xFr_E hf3 rfl
        have d36 : ∀ i, xE (zyEl zymc B H3) 36 i = xE (zyEl zymc B H2) 36 i := fun i => xFr_E hf3 rfl
        have d4 : ∀ i, xE (zyEl zymc B H3) 4 i = xE (zyEl zymc B H2) 4 i := fun i => xFr_E hf3 rfl
        have d5 : ∀ i, xE (zyEl zymc B H3) 5 i = xE (zyEl zymc B H2) 5 i := fun i => xFr_E hf3 rfl
        unfold xΨad at hΨ3
        rw [tt, tn, show xE (zyEl zymc B H2) 35 6 = 0 by omega] at hΨ3
        refine ⟨⟨1, by decide⟩, [0, 0, 0], [0, 0, 0], rfl, ⟨by decide +kernel, ⟨rfl, by decide +kernel⟩, (xcs_c rfl (xcs_c rfl (xcs_c rfl xcs_n))), (xe_0 (xe_0 (xe_0 xe_n))), xkq_n⟩, (by rw [if_neg (by decide)]; exact xst_n), ?_, ?_⟩
        · show xAD (xE (zyEl zymc B s.heap) 36) (xE (zyEl zymc B s.heap) 35 4) 0 (zyEl zymc B H3) ∧ (∀ k, xE (zyEl zymc B H3) 4 k = xE (zyEl zymc B s.heap) 4 k) ∧ (∀ k, xE (zyEl zymc B H3) 5 k = xE (zyEl zymc B s.heap) 5 k)
          exact ⟨hΨ3, fun k => by rw [d4 k, e4 k, q4 k], fun k => by rw [d5 k, e5 k, q5 k]⟩
        · show 19 < 20
          omega
    · have hx : x ∈ [zxfrz0_bx0] := hx
      have hag : ∀ k, k < 3 → v2 k = v k := hag
      have hfr : xFr [] _ _ := hfr
      have ex := List.mem_singleton.mp hx
      subst ex
      obtain ⟨hF, hBd, hM⟩ := hXs
      have e35_4 : xE (zyEl zymc B H2) 35 4 = xE (zyEl zymc B H) 35 4 := xFr_E hfr rfl
      have q35_4 : xE (zyEl zymc B H) 35 4 = xE (zyEl zymc B s.heap) 35 4 := xFr_E hFr0 rfl
      have e35_5 : xE (zyEl zymc B H2) 35 5 = xE (zyEl zymc B H) 35 5 := xFr_E hfr rfl
      have e35_6 : xE (zyEl zymc B H2) 35 6 = xE (zyEl zymc B H) 35 6 := xFr_E hfr rfl
      have e35_7 : xE (zyEl zymc B H2) 35 7 = xE (zyEl zymc B H) 35 7 := xFr_E hfr rfl
      have e35_8 : xE (zyEl zymc B H2) 35 8 = xE (zyEl zymc B H) 35 8 := xFr_E hfr rfl
      have e35_2 : xE (zyEl zymc B H2) 35 2 = xE (zyEl zymc B H) 35 2 := xFr_E hfr rfl
      have e35_3 : xE (zyEl zymc B H2) 35 3 = xE (zyEl zymc B H) 35 3 := xFr_E hfr rfl
      have e36 : ∀ i, xE (zyEl zymc B H2) 36 i = xE (zyEl zymc B H) 36 i := fun i => xFr_E hfr rfl
      have q36 : ∀ i, xE (zyEl zymc B H) 36 i = xE (zyEl zymc B s.heap) 36 i := fun i => xFr_E hFr0 rfl
      have e4 : ∀ i, xE (zyEl zymc B H2) 4 i = xE (zyEl zymc B H) 4 i := fun i => xFr_E hfr rfl
      have e5 : ∀ i, xE (zyEl zymc B H2) 5 i = xE (zyEl zymc B H) 5 i := fun i => xFr_E hfr rfl
      have hI : xAD (xE (zyEl zymc B s.heap) 36) (xE (zyEl zymc B s.heap) 35 4) 0 (zyEl zymc B H) ∧ (∀ k, xE (zyEl zymc B H) 4 k = xE (zyEl zymc B s.heap) 4 k) ∧ (∀ k, xE (zyEl zymc B H) 5 k = xE (zyEl zymc B s.heap) 5 k) := hInv
      have tt : xE (zyEl zymc B H2) 36 = xE (zyEl zymc B s.heap) 36 := funext fun i => (e36 i).trans (q36 i)
      have tn : xE (zyEl zymc B H2) 35 4 = xE (zyEl zymc B s.heap) 35 4 := by omega
      obtain ⟨⟨i4, i5, i6, i7⟩, j0, j1⟩ := hI
      refine xCa hRu hIH hAt hB hv hFr (hfwsi B) (ix := 48) (ax := 1152) rfl rfl rfl hmefwsi ⟨_, rfl, rfl, by decide⟩ ⟨rfl, rfl, rfl⟩ (by decide) [] [] [] rfl ⟨rfl, rfl⟩ (by decide +kernel) xcs_n (by decide +kernel) ?_ (fun H3 r hT3 hf3 hFr3 hr3 hΨ3 => ?_)
      · show xΦ0 (xfv []) (zyEl zymc B H2)
        exact trivial
      · have hΨ3 : xΨfwsi (xfv []) (zyEl zymc B H2) (zyEl zymc B H3) r := hΨ3
        have d35_4 : xE (zyEl zymc B H3) 35 4 = xE (zyEl zymc B H2) 35 4 := xFr_E hf3 rfl
        have d35_5 : xE (zyEl zymc B H3) 35 5 = xE (zyEl zymc B H2) 35 5 := xFr_E hf3 rfl
        have d35_6 : xE (zyEl zymc B H3) 35 6 = xE (zyEl zymc B H2) 35 6 := xFr_E hf3 rfl
        have d35_7 : xE (zyEl zymc B H3) 35 7 = xE (zyEl zymc B H2) 35 7 := xFr_E hf3 rfl
        have d35_8 : xE (zyEl zymc B H3) 35 8 = xE (zyEl zymc B H2) 35 8 := xFr_E hf3 rfl
        have d35_2 : xE (zyEl zymc B H3) 35 2 = xE (zyEl zymc B H2) 35 2 := xFr_E hf3 rfl
        have d35_3 : xE (zyEl zymc B H3) 35 3 = xE (zyEl zymc B H2) 35 3 := xFr_E hf3 rfl
        have d36 : ∀ i, xE (zyEl zymc B H3) 36 i = xE (zyEl zymc B H2) 36 i := fun i => xFr_E hf3 rfl
        have d4 : ∀ i, xE (zyEl zymc B H3) 4 i = xE (zyEl zymc B H2) 4 i := fun i => xFr_E hf3 rfl
        have d5 : ∀ i, xE (zyEl zymc B H3) 5 i = xE (zyEl zymc B H2) 5 i := fun i => xFr_E hf3 rfl
        unfold xΨfwsi at hΨ3
        rw [tt, show xE (zyEl zymc B H2) 35 7 = tKd (xE (zyEl zymc B s.heap) 36) (xE (zyEl zymc B s.heap) 35 4) 0 by omega, show xE (zyEl zymc B H2) 35 5 = tFr (xE (zyEl zymc B s.heap) 36) (xE (zyEl zymc B s.heap) 35 4) 0 by omega, show xE (zyEl zymc B H2) 35 6 = tNx (xE (zyEl zymc B s.heap) 36) (xE (zyEl zymc B s.heap) 35 4) 0 by omega] at hΨ3
        have hr01 : r = 0 ∨ r = 1 := by
          rw [hΨ3]
          split <;> omega
        have hEE3 := xFr_n hf3
        refine ⟨⟨2, by decide⟩, [0, 0, 0], [0, 0, 0, r], rfl, ⟨by decide +kernel, ⟨rfl, by decide +kernel⟩, (xcs_c rfl (xcs_c rfl (xcs_c rfl xcs_n))), (xe_0 (xe_0 (xe_0 (xe_c (by omega) (by omega) rfl xe_n)))), xkq_n⟩, (by rw [if_pos rfl]; exact ⟨3, [], rfl, by decide, rfl, xst_n⟩), ?_, ?_⟩
        · show xAD (xE (zyEl zymc B s.heap) 36) (xE (zyEl zymc B s.heap) 35 4) 0 (zyEl zymc B H3) ∧ ((r : Int) = if tW (xE (zyEl zymc B s.heap) 36) (xE (zyEl zymc B s.heap) 35 4) 0 [115, 105, 122, 101] = true then 1 else 0) ∧ (∀ k, xE (zyEl zymc B H3) 4 k = xE (zyEl zymc B s.heap) 4 k) ∧ (∀ k, xE (zyEl zymc B H3) 5 k = xE (zyEl zymc B s.heap) 5 k)
          rw [hEE3]
          exact ⟨⟨by omega, by omega, by omega, fun h => by have := i7 h; omega⟩, hΨ3, fun k => by rw [e4 k, j0 k], fun k => by rw [e5 k, j1 k]⟩
        · show 18 < 19
          omega
    · have hx : x ∈ [zxfrz0_cx0] := hx
      have hag : ∀ k, k < 4 → v2 k = v k := hag
      have hfr : xFr [(35, 2, 3)] _ _ := hfr
      have ex := List.mem_singleton.mp hx
      subst ex
      obtain ⟨hF, hBd, hM⟩ := hXs
      have g3 : v2 3 = v 3 := hag 3 (by decide)
      have b0 : ((2147483649 : Nat) : Int) ≤ (v2 3) + 2147483648 ∧ (v2 3) + 2147483648 ≤ ((2147483649 : Nat) : Int) := xXb hBd 0 rfl
      have f0 : ¬ (v2 3) = 0 := xXf hF 0 rfl
      have e35_4 : xE (zyEl zymc B H2) 35 4 = xE (zyEl zymc B H) 35 4 := xFr_E hfr rfl
      have q35_4 : xE (zyEl zymc B H) 35 4 = xE (zyEl zymc B s.heap) 35 4 := xFr_E hFr0 rfl
      have e35_5 : xE (zyEl zymc B H2) 35 5 = xE (zyEl zymc B H) 35 5 := xFr_E hfr rfl
      have e35_6 : xE (zyEl zymc B H2) 35 6 = xE (zyEl zymc B H) 35 6 := xFr_E hfr rfl
      have e35_7 : xE (zyEl zymc B H2) 35 7 = xE (zyEl zymc B H) 35 7 := xFr_E hfr rfl
      have e35_8 : xE (zyEl zymc B H2) 35 8 = xE (zyEl zymc B H) 35 8 := xFr_E hfr rfl
      have e36 : ∀ i, xE (zyEl zymc B H2) 36 i = xE (zyEl zymc B H) 36 i := fun i => xFr_E hfr rfl
      have q36 : ∀ i, xE (zyEl zymc B H) 36 i = xE (zyEl zymc B s.heap) 36 i := fun i => xFr_E hFr0 rfl
      have e4 : ∀ i, xE (zyEl zymc B H2) 4 i = xE (zyEl zymc B H) 4 i := fun i => xFr_E hfr rfl
      have e5 : ∀ i, xE (zyEl zymc B H2) 5 i = xE (zyEl zymc B H) 5 i := fun i => xFr_E hfr rfl
      have hI : xAD (xE (zyEl zymc B s.heap) 36) (xE (zyEl zymc B s.heap) 35 4) 0 (zyEl zymc B H) ∧ ((v 3) = if tW (xE (zyEl zymc B s.heap) 36) (xE (zyEl zymc B s.heap) 35 4) 0 [115, 105, 122, 101] = true then 1 else 0) ∧ (∀ k, xE (zyEl zymc B H) 4 k = xE (zyEl zymc B s.heap) 4 k) ∧ (∀ k, xE (zyEl zymc B H) 5 k = xE (zyEl zymc B s.heap) 5 k) := hInv
      have tt : xE (zyEl zymc B H2) 36 = xE (zyEl zymc B s.heap) 36 := funext fun i => (e36 i).trans (q36 i)
      have tn : xE (zyEl zymc B H2) 35 4 = xE (zyEl zymc B s.heap) 35 4 := by omega
      have hP := hΦ.1
      have hP2 := hΦ.2
      obtain ⟨⟨i4, i5, i6, i7⟩, i3, j0, j1⟩ := hI
      have hb := tNx_b (T := xE (zyEl zymc B s.heap) 36) (n := xE (zyEl zymc B s.heap) 35 4) (p := 0) hP2
      have hw : tW (xE (zyEl zymc B s.heap) 36) (xE (zyEl zymc B s.heap) 35 4) 0 [115, 105, 122, 101] = true := by
        by_cases h : tW (xE (zyEl zymc B s.heap) 36) (xE (zyEl zymc B s.heap) 35 4) 0 [115, 105, 122, 101] = true
        · exact h
        · rw [if_neg h] at i3
          omega
      refine xCa hRu hIH hAt hB hv hFr (hftn B) (ix := 60) (ax := 1104) rfl rfl rfl hmeftn ⟨_, rfl, rfl, by decide⟩ ⟨rfl, rfl, rfl⟩ (by decide) [8, 32] [] [1, 4] rfl ⟨rfl, rfl⟩ (by decide +kernel) (xcs_c rfl (xcs_c rfl xcs_n)) (by decide +kernel) ?_ (fun H3 r hT3 hf3 hFr3 hr3 hΨ3 => ?_)
      · show xΦad (xfv [1, 4]) (zyEl zymc B H2)
        unfold xΦad
        omega
      · have hΨ3 : xΨtn (xfv [1, 4]) (zyEl zymc B H2) (zyEl zymc B H3) r := hΨ3
        have d35_4 : xE (zyEl zymc B H3) 35 4 = xE (zyEl zymc B H2) 35 4 := xFr_E hf3 rfl
        have d36 : ∀ i, xE (zyEl zymc B H3) 36 i = xE (zyEl zymc B H2) 36 i := fun i => xFr_E hf3 rfl
        have d4 : ∀ i, xE (zyEl zymc B H3) 4 i = xE (zyEl zymc B H2) 4 i := fun i => xFr_E hf3 rfl
        have d5 : ∀ i, xE (zyEl zymc B H3) 5 i = xE (zyEl zymc B H2) 5 i := fun i => xFr_E hf3 rfl
        unfold xΨtn at hΨ3
        rw [tt, tn, show xE (zyEl zymc B H2) 35 6 = tNx (xE (zyEl zymc B s.heap) 36) (xE (zyEl zymc B s.heap) 35 4) 0 by omega] at hΨ3
        have hr01 := xtn_r hΨ3
        refine ⟨⟨3, by decide⟩, [0, 0, 0], [0, 0, 0, r], rfl, ⟨by decide +kernel, ⟨rfl, by decide +kernel⟩, (xcs_c rfl (xcs_c rfl (xcs_c rfl xcs_n))), (xe_0 (xe_0 (xe_0 (xe_c (by omega) (by omega) rfl xe_n)))), xkq_n⟩, (by rw [if_pos rfl]; exact ⟨3, [], rfl, by decide, rfl, xst_n⟩), ?_, ?_⟩
        · show tW (xE (zyEl zymc B s.heap) 36) (xE (zyEl zymc B s.heap) 35 4) 0 [115, 105, 122, 101] = true ∧ xTN (xE (zyEl zymc B s.heap) 36) (xE (zyEl zymc B s.heap) 35 4) (tNx (xE (zyEl zymc B s.heap) 36) (xE (zyEl zymc B s.heap) 35 4) 0) 1 4 (zyEl zymc B H3) (r : Int) ∧ (∀ k, xE (zyEl zymc B H3) 4 k = xE (zyEl zymc B s.heap) 4 k) ∧ (∀ k, xE (zyEl zymc B H3) 5 k = xE (zyEl zymc B s.heap) 5 k)
          exact ⟨hw, hΨ3, fun k => by rw [d4 k, e4 k, j0 k], fun k => by rw [d5 k, e5 k, j1 k]⟩
        · show 17 < 18
          omega
    · have hx : x ∈ [zxfrz0_dx0] := hx
      have hag : ∀ k, k < 4 → v2 k = v k := hag
      have hfr : xFr [] _ _ := hfr
      have ex := List.mem_singleton.mp hx
      subst ex
      obtain ⟨hF, hBd, hM⟩ := hXs
      have r4 := hr2 4
      have g3 : v2 3 = v 3 := hag 3 (by decide)
      have b0 : ((2147483649 : Nat) : Int) ≤ (v2 3) + 2147483648 ∧ (v2 3) + 2147483648 ≤ ((2147483649 : Nat) : Int) := xXb hBd 0 rfl
      have f0 : ¬ (v2 3) = 0 := xXf hF 0 rfl
      have f1 : (0 : Int) ≤ 8 ∧ xE (zyEl zymc B H) 35 8 = (v2 4) := xXf hF 1 rfl
      have e35_4 : xE (zyEl zymc B H2) 35 4 = xE (zyEl zymc B H) 35 4 := xFr_E hfr rfl
      have q35_4 : xE (zyEl zymc B H) 35 4 = xE (zyEl zymc B s.heap) 35 4 := xFr_E hFr0 rfl
      have e35_5 : xE (zyEl zymc B H2) 35 5 = xE (zyEl zymc B H) 35 5 := xFr_E hfr rfl
      have e35_6 : xE (zyEl zymc B H2) 35 6 = xE (zyEl zymc B H) 35 6 := xFr_E hfr rfl
      have e35_7 : xE (zyEl zymc B H2) 35 7 = xE (zyEl zymc B H) 35 7 := xFr_E hfr rfl
      have e35_8 : xE (zyEl zymc B H2) 35 8 = xE (zyEl zymc B H) 35 8 := xFr_E hfr rfl
      have e35_2 : xE (zyEl zymc B H2) 35 2 = xE (zyEl zymc B H) 35 2 := xFr_E hfr rfl
      have e35_3 : xE (zyEl zymc B H2) 35 3 = xE (zyEl zymc B H) 35 3 := xFr_E hfr rfl
      have e36 : ∀ i, xE (zyEl zymc B H2) 36 i = xE (zyEl zymc B H) 36 i := fun i => xFr_E hfr rfl
      have q36 : ∀ i, xE (zyEl zymc B H) 36 i = xE (zyEl zymc B s.heap) 36 i := fun i => xFr_E hFr0 rfl
      have e4 : ∀ i, xE (zyEl zymc B H2) 4 i = xE (zyEl zymc B H) 4 i := fun i => xFr_E hfr rfl
      have e5 : ∀ i, xE (zyEl zymc B H2) 5 i = xE (zyEl zymc B H) 5 i := fun i => xFr_E hfr rfl
      have hI : tW (xE (zyEl zymc B s.heap) 36) (xE (zyEl zymc B s.heap) 35 4) 0 [115, 105, 122, 101] = true ∧ xTN (xE (zyEl zymc B s.heap) 36) (xE (zyEl zymc B s.heap) 35 4) (tNx (xE (zyEl zymc B s.heap) 36) (xE (zyEl zymc B s.heap) 35 4) 0) 1 4 (zyEl zymc B H) (v 3) ∧ (∀ k, xE (zyEl zymc B H) 4 k = xE (zyEl zymc B s.heap) 4 k) ∧ (∀ k, xE (zyEl zymc B H) 5 k = xE (zyEl zymc B s.heap) 5 k) := hInv
      have hP := hΦ.1
      have hP2 := hΦ.2
      obtain ⟨hw, i1, j0, j1⟩ := hI
      rw [show (v 3) = v2 3 by omega] at i1
      have hb := tNx_b (T := xE (zyEl zymc B s.heap) 36) (n := xE (zyEl zymc B s.heap) 35 4) (p := 0) hP2
      have tt : xE (zyEl zymc B H2) 36 = xE (zyEl zymc B s.heap) 36 := funext fun i => (e36 i).trans (q36 i)
      have tn : xE (zyEl zymc B H2) 35 4 = xE (zyEl zymc B s.heap) 35 4 := by omega
      obtain ⟨c1, c2, c3, c4, c5, c6, c7⟩ := xtn_1 i1 (by omega)
      have hb2 := tNx_b (T := xE (zyEl zymc B s.heap) 36) (n := xE (zyEl zymc B s.heap) 35 4) (p := tNx (xE (zyEl zymc B s.heap) 36) (xE (zyEl zymc B s.heap) 35 4) 0) (by omega)
      refine xCa hRu hIH hAt hB hv hFr (hftn B) (ix := 60) (ax := 1104) rfl rfl rfl hmeftn ⟨_, rfl, rfl, by decide⟩ ⟨rfl, rfl, rfl⟩ (by decide) [8, 40] [] [1, 5] rfl ⟨rfl, rfl⟩ (by decide +kernel) (xcs_c rfl (xcs_c rfl xcs_n)) (by decide +kernel) ?_ (fun H3 r hT3 hf3 hFr3 hr3 hΨ3 => ?_)
      · show xΦad (xfv [1, 5]) (zyEl zymc B H2)
        unfold xΦad
        omega
      · have hΨ3 : xΨtn (xfv [1, 5]) (zyEl zymc B H2) (zyEl zymc B H3) r := hΨ3
        have d35_4 : xE (zyEl zymc B H3) 35 4 = xE (zyEl zymc B H2) 35 4 := xFr_E hf3 rfl
        have d36 : ∀ i, xE (zyEl zymc B H3) 36 i = xE (zyEl zymc B H2) 36 i := fun i => xFr_E hf3 rfl
        have d4 : ∀ i, xE (zyEl zymc B H3) 4 i = xE (zyEl zymc B H2) 4 i := fun i => xFr_E hf3 rfl
        have d5 : ∀ i, xE (zyEl zymc B H3) 5 i = xE (zyEl zymc B H2) 5 i := fun i => xFr_E hf3 rfl
        unfold xΨtn at hΨ3
        rw [tt, tn] at hΨ3
        have hr01 := xtn_r hΨ3
        refine ⟨⟨4, by decide⟩, [0, 0, 137438953473], [0, 0, (v2 4), r], rfl, ⟨by decide +kernel, ⟨rfl, by decide +kernel⟩, (xcs_c rfl (xcs_c rfl (xcs_c rfl xcs_n))), (xe_0 (xe_0 (xe_c (by omega) (by omega) rfl (xe_c (by omega) (by omega) rfl xe_n)))), xkq_n⟩, (by rw [if_pos rfl]; exact ⟨3, [], rfl, by decide, rfl, xst_n⟩), ?_, ?_⟩
        · show ∃ p1, p1 ≤ (xE (zyEl zymc B s.heap) 35 4) ∧ (1 ≤ ((v2 4) : Int) ∧ ((v2 4) : Int) ≤ 4) ∧ pSz (xE (zyEl zymc B s.heap) 36) (xE (zyEl zymc B s.heap) 35 4) = pNum (xE (zyEl zymc B s.heap) 36) (xE (zyEl zymc B s.heap) 35 4) p1 1 5 (fun cc p2 => pSem (xE (zyEl zymc B s.heap) 36) (xE (zyEl zymc B s.heap) 35 4) p2 (pClr ((v2 4) : Int) cc)) ∧ xTN (xE (zyEl zymc B s.heap) 36) (xE (zyEl zymc B s.heap) 35 4) p1 1 5 (zyEl zymc B H3) (r : Int) ∧ (∀ k, xE (zyEl zymc B H3) 4 k = xE (zyEl zymc B s.heap) 4 k) ∧ (∀ k, xE (zyEl zymc B H3) 5 k = xE (zyEl zymc B s.heap) 5 k)
          refine ⟨xE (zyEl zymc B H2) 35 6, by omega, by omega, ?_, hΨ3, fun k => by rw [d4 k, e4 k, j0 k], fun k => by rw [d5 k, e5 k, j1 k]⟩
          unfold pSz
          rw [hw, if_pos rfl, c7, show xE (zyEl zymc B H2) 35 6 = xE (zyEl zymc B H) 35 6 by omega, show xE (zyEl zymc B H) 35 8 = (v2 4) by omega]
        · show 16 < 17
          omega
    · have hx : x ∈ [zxfrz0_ex0] := hx
      have hag : ∀ k, k < 4 → v2 k = v k := hag
      have hfr : xFr [] _ _ := hfr
      have ex := List.mem_singleton.mp hx
      subst ex
      obtain ⟨hF, hBd, hM⟩ := hXs
      have r4 := hr2 4
      have g2 : v2 2 = v 2 := hag 2 (by decide)
      have g3 : v2 3 = v 3 := hag 3 (by decide)
      have b0 : ((2147483649 : Nat) : Int) ≤ (v2 2) + 2147483648 ∧ (v2 2) + 2147483648 ≤ ((2147483652 : Nat) : Int) := xXb hBd 0 rfl
      have b1 : ((2147483649 : Nat) : Int) ≤ (v2 3) + 2147483648 ∧ (v2 3) + 2147483648 ≤ ((2147483649 : Nat) : Int) := xXb hBd 1 rfl
      have f0 : ¬ (v2 3) = 0 := xXf hF 0 rfl
      have f1 : (0 : Int) ≤ 8 ∧ xE (zyEl zymc B H) 35 8 = (v2 4) := xXf hF 1 rfl
      have e35_4 : xE (zyEl zymc B H2) 35 4 = xE (zyEl zymc B H) 35 4 := xFr_E hfr rfl
      have q35_4 : xE (zyEl zymc B H) 35 4 = xE (zyEl zymc B s.heap) 35 4 := xFr_E hFr0 rfl
      have e35_5 : xE (zyEl zymc B H2) 35 5 = xE (zyEl zymc B H) 35 5 := xFr_E hfr rfl
      have e35_6 : xE (zyEl zymc B H2) 35 6 = xE (zyEl zymc B H) 35 6 := xFr_E hfr rfl
      have e35_7 : xE (zyEl zymc B H2) 35 7 = xE (zyEl zymc B H) 35 7 := xFr_E hfr rfl
      have e35_8 : xE (zyEl zymc B H2) 35 8 = xE (zyEl zymc B H) 35 8 := xFr_E hfr rfl
      have e35_2 : xE (zyEl zymc B H2) 35 2 = xE (zyEl zymc B H) 35 2 := xFr_E hfr rfl
      have e35_3 : xE (zyEl zymc B H2) 35 3 = xE (zyEl zymc B H) 35 3 := xFr_E hfr rfl
      have e36 : ∀ i, xE (zyEl zymc B H2) 36 i = xE (zyEl zymc B H) 36 i := fun i => xFr_E hfr rfl
      have q36 : ∀ i, xE (zyEl zymc B H) 36 i = xE (zyEl zymc B s.heap) 36 i := fun i => xFr_E hFr0 rfl
      have e4 : ∀ i, xE (zyEl zymc B H2) 4 i = xE (zyEl zymc B H) 4 i := fun i => xFr_E hfr rfl
      have e5 : ∀ i, xE (zyEl zymc B H2) 5 i = xE (zyEl zymc B H) 5 i := fun i => xFr_E hfr rfl
      have hI : ∃ p1, p1 ≤ (xE (zyEl zymc B s.heap) 35 4) ∧ (1 ≤ (v 2) ∧ (v 2) ≤ 4) ∧ pSz (xE (zyEl zymc B s.heap) 36) (xE (zyEl zymc B s.heap) 35 4) = pNum (xE (zyEl zymc B s.heap) 36) (xE (zyEl zymc B s.heap) 35 4) p1 1 5 (fun cc p2 => pSem (xE (zyEl zymc B s.heap) 36) (xE (zyEl zymc B s.heap) 35 4) p2 (pClr (v 2) cc)) ∧ xTN (xE (zyEl zymc B s.heap) 36) (xE (zyEl zymc B s.heap) 35 4) p1 1 5 (zyEl zymc B H) (v 3) ∧ (∀ k, xE (zyEl zymc B H) 4 k = xE (zyEl zymc B s.heap) 4 k) ∧ (∀ k, xE (zyEl zymc B H) 5 k = xE (zyEl zymc B s.heap) 5 k) := hInv
      have hP := hΦ.1
      have hP2 := hΦ.2
      obtain ⟨p1, i0, i1, i2, i3, j0, j1⟩ := hI
      rw [show (v 3) = v2 3 by omega] at i3
      rw [show (v 2) = v2 2 by omega] at i2
      have hb := tNx_b (T := xE (zyEl zymc B s.heap) 36) (n := xE (zyEl zymc B s.heap) 35 4) (p := p1) i0
      obtain ⟨c1, c2, c3, c4, c5, c6, c7⟩ := xtn_1 i3 (by omega)
      refine xCa hRu hIH hAt hB hv hFr (hfcl0 B) (ix := 67) (ax := 497) rfl rfl rfl hmefcl0 ⟨_, rfl, rfl, by decide⟩ ⟨rfl, rfl, rfl⟩ (by decide) [68719476737, 137438953473] [] [(v2 2), (v2 4)] rfl ⟨rfl, rfl⟩ (by decide +kernel) (xcs_c rfl (xcs_c rfl xcs_n)) (by decide +kernel) ?_ (fun H3 r hT3 hf3 hFr3 hr3 hΨ3 => ?_)
      · show xΦcl0 (xfv [(v2 2), (v2 4)]) (zyEl zymc B H2)
        exact ⟨by show 1 ≤ (v2 2); omega, by show (v2 2) ≤ 4; omega, by show 1 ≤ (v2 4); omega, by show (v2 4) ≤ 5; omega⟩
      · have hΨ3 : xΨcl0 (xfv [(v2 2), (v2 4)]) (zyEl zymc B H2) (zyEl zymc B H3) r := hΨ3
        have d35_4 : xE (zyEl zymc B H3) 35 4 = xE (zyEl zymc B H2) 35 4 := xFr_E hf3 rfl
        have d35_5 : xE (zyEl zymc B H3) 35 5 = xE (zyEl zymc B H2) 35 5 := xFr_E hf3 rfl
        have d35_6 : xE (zyEl zymc B H3) 35 6 = xE (zyEl zymc B H2) 35 6 := xFr_E hf3 rfl
        have d35_7 : xE (zyEl zymc B H3) 35 7 = xE (zyEl zymc B H2) 35 7 := xFr_E hf3 rfl
        have d35_8 : xE (zyEl zymc B H3) 35 8 = xE (zyEl zymc B H2) 35 8 := xFr_E hf3 rfl
        have d35_2 : xE (zyEl zymc B H3) 35 2 = xE (zyEl zymc B H2) 35 2 := xFr_E hf3 rfl
        have d35_3 : xE (zyEl zymc B H3) 35 3 = xE (zyEl zymc B H2) 35 3 := xFr_E hf3 rfl
        have d36 : ∀ i, xE (zyEl zymc B H3) 36 i = xE (zyEl zymc B H2) 36 i := fun i => xFr_E hf3 rfl
        obtain ⟨w1, w2, w3⟩ := hΨ3
        have w1 : xAb0 (zyEl zymc B H3) (pClr (v2 2) (v2 4)) := w1
        have w2 : xGeo0 (zyEl zymc B H3) ((v2 2)).toNat ((v2 4)).toNat := w2
        refine ⟨⟨5, by decide⟩, [0, 0, 0], [0, 0, 0], rfl, ⟨by decide +kernel, ⟨rfl, by decide +kernel⟩, (xcs_c rfl (xcs_c rfl (xcs_c rfl xcs_n))), (xe_0 (xe_0 (xe_0 xe_n))), xkq_n⟩, (by rw [if_neg (by decide)]; exact xst_n), ?_, ?_⟩
        · show ∃ rr cc : Int, xE (zyEl zymc B H3) 35 6 ≤ (xE (zyEl zymc B s.heap) 35 4) ∧ pSz (xE (zyEl zymc B s.heap) 36) (xE (zyEl zymc B s.heap) 35 4) = pSem (xE (zyEl zymc B s.heap) 36) (xE (zyEl zymc B s.heap) 35 4) (xE (zyEl zymc B H3) 35 6) (pClr rr cc) ∧ (1 ≤ rr ∧ rr ≤ 4 ∧ 1 ≤ cc ∧ cc ≤ 5) ∧ xAb0 (zyEl zymc B H3) (pClr rr cc) ∧ xGeo0 (zyEl zymc B H3) rr.toNat cc.toNat ∧ xJk0 (zyEl zymc B s.heap) (zyEl zymc B H3)
          refine ⟨(v2 2), (v2 4), by omega, ?_, by omega, w1, w2, fun i i0 i1 => ?_⟩
          · rw [i2, c7, show xE (zyEl zymc B H) 35 6 = xE (zyEl zymc B H3) 35 6 by omega, show xE (zyEl zymc B H) 35 8 = (v2 4) by omega]
          · have w := w3 i i0 i1
            rw [e4 i, j0 i, e5 i, j1 i] at w
            exact w
        · show 15 < 16
          omega
    · have hx : x ∈ [zxfrz0_fx0] := hx
      have hag : ∀ k, k < 3 → v2 k = v k := hag
      have hfr : xFr [] _ _ := hfr
      have ex := List.mem_singleton.mp hx
      subst ex
      obtain ⟨hF, hBd, hM⟩ := hXs
      have e35_4 : xE (zyEl zymc B H2) 35 4 = xE (zyEl zymc B H) 35 4 := xFr_E hfr rfl
      have q35_4 : xE (zyEl zymc B H) 35 4 = xE (zyEl zymc B s.heap) 35 4 := xFr_E hFr0 rfl
      have e35_5 : xE (zyEl zymc B H2) 35 5 = xE (zyEl zymc B H) 35 5 := xFr_E hfr rfl
      have e35_6 : xE (zyEl zymc B H2) 35 6 = xE (zyEl zymc B H) 35 6 := xFr_E hfr rfl
      have e35_7 : xE (zyEl zymc B H2) 35 7 = xE (zyEl zymc B H) 35 7 := xFr_E hfr rfl
      have e35_8 : xE (zyEl zymc B H2) 35 8 = xE (zyEl zymc B H) 35 8 := xFr_E hfr rfl
      have e35_2 : xE (zyEl zymc B H2) 35 2 = xE (zyEl zymc B H) 35 2 := xFr_E hfr rfl
      have e35_3 : xE (zyEl zymc B H2) 35 3 = xE (zyEl zymc B H) 35 3 := xFr_E hfr rfl
      have e36 : ∀ i, xE (zyEl zymc B H2) 36 i = xE (zyEl zymc B H) 36 i := fun i => xFr_E hfr rfl
      have q36 : ∀ i, xE (zyEl zymc B H) 36 i = xE (zyEl zymc B s.heap) 36 i := fun i => xFr_E hFr0 rfl
      have e4 : ∀ i, xE (zyEl zymc B H2) 4 i = xE (zyEl zymc B H) 4 i := fun i => xFr_E hfr rfl
      have e5 : ∀ i, xE (zyEl zymc B H2) 5 i = xE (zyEl zymc B H) 5 i := fun i => xFr_E hfr rfl
      have hI : ∃ rr cc : Int, xE (zyEl zymc B H) 35 6 ≤ (xE (zyEl zymc B s.heap) 35 4) ∧ pSz (xE (zyEl zymc B s.heap) 36) (xE (zyEl zymc B s.heap) 35 4) = pSem (xE (zyEl zymc B s.heap) 36) (xE (zyEl zymc B s.heap) 35 4) (xE (zyEl zymc B H) 35 6) (pClr rr cc) ∧ (1 ≤ rr ∧ rr ≤ 4 ∧ 1 ≤ cc ∧ cc ≤ 5) ∧ xAb0 (zyEl zymc B H) (pClr rr cc) ∧ xGeo0 (zyEl zymc B H) rr.toNat cc.toNat ∧ xJk0 (zyEl zymc B s.heap) (zyEl zymc B H) := hInv
      have tt : xE (zyEl zymc B H2) 36 = xE (zyEl zymc B s.heap) 36 := funext fun i => (e36 i).trans (q36 i)
      have tn : xE (zyEl zymc B H2) 35 4 = xE (zyEl zymc B s.heap) 35 4 := by omega
      obtain ⟨rr, cc, i1, i2, i3, i4, i5, i6⟩ := hI
      have hEE2 := xFr_n hfr
      refine xCa hRu hIH hAt hB hv hFr (hfts B) (ix := 73) (ax := 1088) rfl rfl rfl hmefts ⟨_, rfl, rfl, by decide⟩ ⟨rfl, rfl, rfl⟩ (by decide) [] [] [] rfl ⟨rfl, rfl⟩ (by decide +kernel) xcs_n (by decide +kernel) ?_ (fun H3 r hT3 hf3 hFr3 hr3 hΨ3 => ?_)
      · show xΦad (xfv []) (zyEl zymc B H2)
        unfold xΦad
        omega
      · have hΨ3 : xΨts (xfv []) (zyEl zymc B H2) (zyEl zymc B H3) r := hΨ3
        have d35_4 : xE (zyEl zymc B H3) 35 4 = xE (zyEl zymc B H2) 35 4 := xFr_E hf3 rfl
        have d36 : ∀ i, xE (zyEl zymc B H3) 36 i = xE (zyEl zymc B H2) 36 i := fun i => xFr_E hf3 rfl
        have d4 : ∀ i, xE (zyEl zymc B H3) 4 i = xE (zyEl zymc B H2) 4 i := fun i => xFr_E hf3 rfl
        have d5 : ∀ i, xE (zyEl zymc B H3) 5 i = xE (zyEl zymc B H2) 5 i := fun i => xFr_E hf3 rfl
        unfold xΨts at hΨ3
        rw [tt, tn] at hΨ3
        have hr01 := xts_r hΨ3
        refine ⟨⟨6, by decide⟩, [0, 0, 0], [0, 0, 0, r], rfl, ⟨by decide +kernel, ⟨rfl, by decide +kernel⟩, (xcs_c rfl (xcs_c rfl (xcs_c rfl xcs_n))), (xe_0 (xe_0 (xe_0 (xe_c (by omega) (by omega) rfl xe_n)))), xkq_n⟩, (by rw [if_pos rfl]; exact ⟨3, [], rfl, by decide, rfl, xst_n⟩), ?_, ?_⟩
        · show ∃ rr cc p2 : Int, pSz (xE (zyEl zymc B s.heap) 36) (xE (zyEl zymc B s.heap) 35 4) = pSem (xE (zyEl zymc B s.heap) 36) (xE (zyEl zymc B s.heap) 35 4) p2 (pClr rr cc) ∧ xTS (xE (zyEl zymc B s.heap) 36) (xE (zyEl zymc B s.heap) 35 4) p2 (zyEl zymc B H3) (r : Int) ∧ (1 ≤ rr ∧ rr ≤ 4 ∧ 1 ≤ cc ∧ cc ≤ 5) ∧ xAb0 (zyEl zymc B H3) (pClr rr cc) ∧ xGeo0 (zyEl zymc B H3) rr.toNat cc.toNat ∧ xJk0 (zyEl zymc B s.heap) (zyEl zymc B H3)
          refine ⟨rr, cc, xE (zyEl zymc B H2) 35 6, by rw [i2, hEE2], hΨ3, i3, xAb0_35 i4 (by rw [← hEE2]; exact xFr_mono (by decide) hf3), xGeo0_35 i5 (by rw [← hEE2]; exact xFr_mono (by decide) hf3), fun i i0 i1 => ?_⟩
          have w := i6 i i0 i1
          rw [d4 i, e4 i, d5 i, e5 i]
          exact w
        · show 14 < 15
          omega
    · cases hx
  · intro x0 E0 E E2 hrx hT0 hΦ i v hT hrv hInv hKc hFr0 x hx v2 hr2 hXs hag hfr hFr hT2
    rcases i with ⟨i, hi⟩
    have hi2 : i = 0 ∨ i = 1 ∨ i = 2 ∨ i = 3 ∨ i = 4 ∨ i = 5 ∨ i = 6 := by omega
    rcases hi2 with rfl | rfl | rfl | rfl | rfl | rfl | rfl
    · cases hx
    · cases hx
    · have hx : x ∈ [zxfrz0_cr0, zxfrz0_cr1, zxfrz0_cr2] := hx
      have hag : ∀ k, k < 4 → v2 k = v k := hag
      have hfr : xFr [(35, 2, 3)] _ _ := hfr
      rcases List.mem_cons.mp hx with ex | hx
      · subst ex
        obtain ⟨hF, hBd, hM⟩ := hXs
        have g3 : v2 3 = v 3 := hag 3 (by decide)
        have b0 : ((2147483648 : Nat) : Int) ≤ (v2 3) + 2147483648 ∧ (v2 3) + 2147483648 ≤ ((2147483648 : Nat) : Int) := xXb hBd 0 rfl
        have b1 : ((2147483650 : Nat) : Int) ≤ (v2 4) + 2147483648 ∧ (v2 4) + 2147483648 ≤ ((2147483653 : Nat) : Int) := xXb hBd 1 rfl
        have b2 : ((2147483648 : Nat) : Int) ≤ (v2 5) + 2147483648 ∧ (v2 5) + 2147483648 ≤ ((2147484548 : Nat) : Int) := xXb hBd 2 rfl
        have f0 : (v2 3) = 0 := xXf hF 0 rfl
        have f1 : (0 : Int) ≤ 7 ∧ xE E 35 7 = (v2 4) := xXf hF 1 rfl
        have f2 : ¬ (v2 4) = 1 := xXf hF 2 rfl
        have f3 : (0 : Int) ≤ 5 ∧ xE E 35 5 = (v2 5) := xXf hF 3 rfl
        have m0 : xE E2 35 2 = 2 := xXm hM 0 rfl
        have m1 : xE E2 35 3 = (v2 5) := xXm hM 1 rfl
        have e35_4 : xE E2 35 4 = xE E 35 4 := xFr_E hfr rfl
        have q35_4 : xE E 35 4 = xE E0 35 4 := xFr_E hFr0 rfl
        have e35_5 : xE E2 35 5 = xE E 35 5 := xFr_E hfr rfl
        have e35_6 : xE E2 35 6 = xE E 35 6 := xFr_E hfr rfl
        have e35_7 : xE E2 35 7 = xE E 35 7 := xFr_E hfr rfl
        have e35_8 : xE E2 35 8 = xE E 35 8 := xFr_E hfr rfl
        have e36 : ∀ i, xE E2 36 i = xE E 36 i := fun i => xFr_E hfr rfl
        have q36 : ∀ i, xE E 36 i = xE E0 36 i := fun i => xFr_E hFr0 rfl
        have e4 : ∀ i, xE E2 4 i = xE E 4 i := fun i => xFr_E hfr rfl
        have e5 : ∀ i, xE E2 5 i = xE E 5 i := fun i => xFr_E hfr rfl
        have hI : xAD (xE E0 36) (xE E0 35 4) 0 E ∧ ((v 3) = if tW (xE E0 36) (xE E0 35 4) 0 [115, 105, 122, 101] = true then 1 else 0) ∧ (∀ k, xE E 4 k = xE E0 4 k) ∧ (∀ k, xE E 5 k = xE E0 5 k) := hInv
        show xΨfrz0 x0 E0 E2 0
        have hP := hΦ.1
        have hP2 := hΦ.2
        obtain ⟨⟨i4, i5, i6, i7⟩, i3, j0, j1⟩ := hI
        have hb := tNx_b (T := xE E0 36) (n := xE E0 35 4) (p := 0) hP2
        have hw : tW (xE E0 36) (xE E0 35 4) 0 [115, 105, 122, 101] = false := by
          rw [Bool.eq_false_iff]
          intro h
          rw [if_pos h] at i3
          omega
        have hm : pMis (xE E0 36) (xE E0 35 4) 0 = 2 := by unfold pMis; rw [if_neg (by omega)]
        have e : pSz (xE E0 36) (xE E0 35 4) = Except.error (pMis (xE E0 36) (xE E0 35 4) 0, tFr (xE E0 36) (xE E0 35 4) 0) := by unfold pSz; rw [hw, if_neg (by decide)]
        refine ⟨?_, fun i i0 i1 => Or.inl ⟨by rw [e4 i, j0 i], by rw [e5 i, j1 i]⟩, fun p S h => by rw [show _ = _ from e] at h; cases h⟩
        rw [show _ = _ from e]
        exact xOut0_f (by omega) (by omega) (by omega)
      · skip
        rcases List.mem_cons.mp hx with ex | hx
        · subst ex
          obtain ⟨hF, hBd, hM⟩ := hXs
          have g3 : v2 3 = v 3 := hag 3 (by decide)
          have b0 : ((2147483648 : Nat) : Int) ≤ (v2 3) + 2147483648 ∧ (v2 3) + 2147483648 ≤ ((2147483648 : Nat) : Int) := xXb hBd 0 rfl
          have b1 : ((2147483648 : Nat) : Int) ≤ (v2 4) + 2147483648 ∧ (v2 4) + 2147483648 ≤ ((2147483648 : Nat) : Int) := xXb hBd 1 rfl
          have b2 : ((2147483648 : Nat) : Int) ≤ (v2 5) + 2147483648 ∧ (v2 5) + 2147483648 ≤ ((2147484548 : Nat) : Int) := xXb hBd 2 rfl
          have f0 : (v2 3) = 0 := xXf hF 0 rfl
          have f1 : (0 : Int) ≤ 7 ∧ xE E 35 7 = (v2 4) := xXf hF 1 rfl
          have f2 : ¬ (v2 4) = 1 := xXf hF 2 rfl
          have f3 : (0 : Int) ≤ 5 ∧ xE E 35 5 = (v2 5) := xXf hF 3 rfl
          have m0 : xE E2 35 2 = 2 := xXm hM 0 rfl
          have m1 : xE E2 35 3 = (v2 5) := xXm hM 1 rfl
          have e35_4 : xE E2 35 4 = xE E 35 4 := xFr_E hfr rfl
          have q35_4 : xE E 35 4 = xE E0 35 4 := xFr_E hFr0 rfl
          have e35_5 : xE E2 35 5 = xE E 35 5 := xFr_E hfr rfl
          have e35_6 : xE E2 35 6 = xE E 35 6 := xFr_E hfr rfl
          have e35_7 : xE E2 35 7 = xE E 35 7 := xFr_E hfr rfl
          have e35_8 : xE E2 35 8 = xE E 35 8 := xFr_E hfr rfl
          have e36 : ∀ i, xE E2 36 i = xE E 36 i := fun i => xFr_E hfr rfl
          have q36 : ∀ i, xE E 36 i = xE E0 36 i := fun i => xFr_E hFr0 rfl
          have e4 : ∀ i, xE E2 4 i = xE E 4 i := fun i => xFr_E hfr rfl
          have e5 : ∀ i, xE E2 5 i = xE E 5 i := fun i => xFr_E hfr rfl
          have hI : xAD (xE E0 36) (xE E0 35 4) 0 E ∧ ((v 3) = if tW (xE E0 36) (xE E0 35 4) 0 [115, 105, 122, 101] = true then 1 else 0) ∧ (∀ k, xE E 4 k = xE E0 4 k) ∧ (∀ k, xE E 5 k = xE E0 5 k) := hInv
          show xΨfrz0 x0 E0 E2 0
          have hP := hΦ.1
          have hP2 := hΦ.2
          obtain ⟨⟨i4, i5, i6, i7⟩, i3, j0, j1⟩ := hI
          have hb := tNx_b (T := xE E0 36) (n := xE E0 35 4) (p := 0) hP2
          have hw : tW (xE E0 36) (xE E0 35 4) 0 [115, 105, 122, 101] = false := by
            rw [Bool.eq_false_iff]
            intro h
            rw [if_pos h] at i3
            omega
          have hm : pMis (xE E0 36) (xE E0 35 4) 0 = 2 := by unfold pMis; rw [if_neg (by omega)]
          have e : pSz (xE E0 36) (xE E0 35 4) = Except.error (pMis (xE E0 36) (xE E0 35 4) 0, tFr (xE E0 36) (xE E0 35 4) 0) := by unfold pSz; rw [hw, if_neg (by decide)]
          refine ⟨?_, fun i i0 i1 => Or.inl ⟨by rw [e4 i, j0 i], by rw [e5 i, j1 i]⟩, fun p S h => by rw [show _ = _ from e] at h; cases h⟩
          rw [show _ = _ from e]
          exact xOut0_f (by omega) (by omega) (by omega)
        · skip
          have ex := List.mem_singleton.mp hx
          subst ex
          obtain ⟨hF, hBd, hM⟩ := hXs
          have g3 : v2 3 = v 3 := hag 3 (by decide)
          have b0 : ((2147483648 : Nat) : Int) ≤ (v2 3) + 2147483648 ∧ (v2 3) + 2147483648 ≤ ((2147483648 : Nat) : Int) := xXb hBd 0 rfl
          have b1 : ((2147483649 : Nat) : Int) ≤ (v2 4) + 2147483648 ∧ (v2 4) + 2147483648 ≤ ((2147483649 : Nat) : Int) := xXb hBd 1 rfl
          have b2 : ((2147483648 : Nat) : Int) ≤ (v2 5) + 2147483648 ∧ (v2 5) + 2147483648 ≤ ((2147484548 : Nat) : Int) := xXb hBd 2 rfl
          have f0 : (v2 3) = 0 := xXf hF 0 rfl
          have f1 : (0 : Int) ≤ 7 ∧ xE E 35 7 = (v2 4) := xXf hF 1 rfl
          have f2 : (v2 4) = 1 := xXf hF 2 rfl
          have f3 : (0 : Int) ≤ 5 ∧ xE E 35 5 = (v2 5) := xXf hF 3 rfl
          have m0 : xE E2 35 2 = 1 := xXm hM 0 rfl
          have m1 : xE E2 35 3 = (v2 5) := xXm hM 1 rfl
          have e35_4 : xE E2 35 4 = xE E 35 4 := xFr_E hfr rfl
          have q35_4 : xE E 35 4 = xE E0 35 4 := xFr_E hFr0 rfl
          have e35_5 : xE E2 35 5 = xE E 35 5 := xFr_E hfr rfl
          have e35_6 : xE E2 35 6 = xE E 35 6 := xFr_E hfr rfl
          have e35_7 : xE E2 35 7 = xE E 35 7 := xFr_E hfr rfl
          have e35_8 : xE E2 35 8 = xE E 35 8 := xFr_E hfr rfl
          have e36 : ∀ i, xE E2 36 i = xE E 36 i := fun i => xFr_E hfr rfl
          have q36 : ∀ i, xE E 36 i = xE E0 36 i := fun i => xFr_E hFr0 rfl
          have e4 : ∀ i, xE E2 4 i = xE E 4 i := fun i => xFr_E hfr rfl
          have e5 : ∀ i, xE E2 5 i = xE E 5 i := fun i => xFr_E hfr rfl
          have hI : xAD (xE E0 36) (xE E0 35 4) 0 E ∧ ((v 3) = if tW (xE E0 36) (xE E0 35 4) 0 [115, 105, 122, 101] = true then 1 else 0) ∧ (∀ k, xE E 4 k = xE E0 4 k) ∧ (∀ k, xE E 5 k = xE E0 5 k) := hInv
          show xΨfrz0 x0 E0 E2 0
          have hP := hΦ.1
          have hP2 := hΦ.2
          obtain ⟨⟨i4, i5, i6, i7⟩, i3, j0, j1⟩ := hI
          have hb := tNx_b (T := xE E0 36) (n := xE E0 35 4) (p := 0) hP2
          have hw : tW (xE E0 36) (xE E0 35 4) 0 [115, 105, 122, 101] = false := by
            rw [Bool.eq_false_iff]
            intro h
            rw [if_pos h] at i3
            omega
          have hm : pMis (xE E0 36) (xE E0 35 4) 0 = 1 := by unfold pMis; rw [if_pos (by omega)]
          have e : pSz (xE E0 36) (xE E0 35 4) = Except.error (pMis (xE E0 36) (xE E0 35 4) 0, tFr (xE E0 36) (xE E0 35 4) 0) := by unfold pSz; rw [hw, if_neg (by decide)]
          refine ⟨?_, fun i i0 i1 => Or.inl ⟨by rw [e4 i, j0 i], by rw [e5 i, j1 i]⟩, fun p S h => by rw [show _ = _ from e] at h; cases h⟩
          rw [show _ = _ from e]
          exact xOut0_f (by omega) (by omega) (by omega)
    · have hx : x ∈ [zxfrz0_dr0] := hx
      have hag : ∀ k, k < 4 → v2 k = v k := hag
      have hfr : xFr [] _ _ := hfr
      have ex := List.mem_singleton.mp hx
      subst ex
      obtain ⟨hF, hBd, hM⟩ := hXs
      have g3 : v2 3 = v 3 := hag 3 (by decide)
      have b0 : ((2147483648 : Nat) : Int) ≤ (v2 3) + 2147483648 ∧ (v2 3) + 2147483648 ≤ ((2147483648 : Nat) : Int) := xXb hBd 0 rfl
      have f0 : (v2 3) = 0 := xXf hF 0 rfl
      have e35_4 : xE E2 35 4 = xE E 35 4 := xFr_E hfr rfl
      have q35_4 : xE E 35 4 = xE E0 35 4 := xFr_E hFr0 rfl
      have e35_5 : xE E2 35 5 = xE E 35 5 := xFr_E hfr rfl
      have e35_6 : xE E2 35 6 = xE E 35 6 := xFr_E hfr rfl
      have e35_7 : xE E2 35 7 = xE E 35 7 := xFr_E hfr rfl
      have e35_8 : xE E2 35 8 = xE E 35 8 := xFr_E hfr rfl
      have e35_2 : xE E2 35 2 = xE E 35 2 := xFr_E hfr rfl
      have e35_3 : xE E2 35 3 = xE E 35 3 := xFr_E hfr rfl
      have e36 : ∀ i, xE E2 36 i = xE E 36 i := fun i => xFr_E hfr rfl
      have q36 : ∀ i, xE E 36 i = xE E0 36 i := fun i => xFr_E hFr0 rfl
      have e4 : ∀ i, xE E2 4 i = xE E 4 i := fun i => xFr_E hfr rfl
      have e5 : ∀ i, xE E2 5 i = xE E 5 i := fun i => xFr_E hfr rfl
      have hI : tW (xE E0 36) (xE E0 35 4) 0 [115, 105, 122, 101] = true ∧ xTN (xE E0 36) (xE E0 35 4) (tNx (xE E0 36) (xE E0 35 4) 0) 1 4 E (v 3) ∧ (∀ k, xE E 4 k = xE E0 4 k) ∧ (∀ k, xE E 5 k = xE E0 5 k) := hInv
      show xΨfrz0 x0 E0 E2 0
      have hP := hΦ.1
      have hP2 := hΦ.2
      obtain ⟨hw, i1, j0, j1⟩ := hI
      rw [show (v 3) = v2 3 by omega] at i1
      have hb := tNx_b (T := xE E0 36) (n := xE E0 35 4) (p := 0) hP2
      have hz : (v2 3) = 0 := by omega
      have e : pSz (xE E0 36) (xE E0 35 4) = Except.error (xE E 35 2, xE E 35 3) := by unfold pSz; rw [hw, if_pos rfl]; exact xtn_0 i1 hz _
      refine ⟨?_, fun i i0 i1 => Or.inl ⟨by rw [e4 i, j0 i], by rw [e5 i, j1 i]⟩, fun p S h => by rw [show _ = _ from e] at h; cases h⟩
      rw [show _ = _ from e]
      exact xOut0_f (by omega) (by omega) (by omega)
    · have hx : x ∈ [zxfrz0_er0] := hx
      have hag : ∀ k, k < 4 → v2 k = v k := hag
      have hfr : xFr [] _ _ := hfr
      have ex := List.mem_singleton.mp hx
      subst ex
      obtain ⟨hF, hBd, hM⟩ := hXs
      have g2 : v2 2 = v 2 := hag 2 (by decide)
      have g3 : v2 3 = v 3 := hag 3 (by decide)
      have b0 : ((2147483648 : Nat) : Int) ≤ (v2 3) + 2147483648 ∧ (v2 3) + 2147483648 ≤ ((2147483648 : Nat) : Int) := xXb hBd 0 rfl
      have f0 : (v2 3) = 0 := xXf hF 0 rfl
      have e35_4 : xE E2 35 4 = xE E 35 4 := xFr_E hfr rfl
      have q35_4 : xE E 35 4 = xE E0 35 4 := xFr_E hFr0 rfl
      have e35_5 : xE E2 35 5 = xE E 35 5 := xFr_E hfr rfl
      have e35_6 : xE E2 35 6 = xE E 35 6 := xFr_E hfr rfl
      have e35_7 : xE E2 35 7 = xE E 35 7 := xFr_E hfr rfl
      have e35_8 : xE E2 35 8 = xE E 35 8 := xFr_E hfr rfl
      have e35_2 : xE E2 35 2 = xE E 35 2 := xFr_E hfr rfl
      have e35_3 : xE E2 35 3 = xE E 35 3 := xFr_E hfr rfl
      have e36 : ∀ i, xE E2 36 i = xE E 36 i := fun i => xFr_E hfr rfl
      have q36 : ∀ i, xE E 36 i = xE E0 36 i := fun i => xFr_E hFr0 rfl
      have e4 : ∀ i, xE E2 4 i = xE E 4 i := fun i => xFr_E hfr rfl
      have e5 : ∀ i, xE E2 5 i = xE E 5 i := fun i => xFr_E hfr rfl
      have hI : ∃ p1, p1 ≤ (xE E0 35 4) ∧ (1 ≤ (v 2) ∧ (v 2) ≤ 4) ∧ pSz (xE E0 36) (xE E0 35 4) = pNum (xE E0 36) (xE E0 35 4) p1 1 5 (fun cc p2 => pSem (xE E0 36) (xE E0 35 4) p2 (pClr (v 2) cc)) ∧ xTN (xE E0 36) (xE E0 35 4) p1 1 5 E (v 3) ∧ (∀ k, xE E 4 k = xE E0 4 k) ∧ (∀ k, xE E 5 k = xE E0 5 k) := hInv
      show xΨfrz0 x0 E0 E2 0
      have hP := hΦ.1
      have hP2 := hΦ.2
      obtain ⟨p1, i0, i1, i2, i3, j0, j1⟩ := hI
      rw [show (v 3) = v2 3 by omega] at i3
      have hb := tNx_b (T := xE E0 36) (n := xE E0 35 4) (p := p1) i0
      have hz : (v2 3) = 0 := by omega
      have e : pSz (xE E0 36) (xE E0 35 4) = Except.error (xE E 35 2, xE E 35 3) := i2.trans (xtn_0 i3 hz _)
      refine ⟨?_, fun i i0 i1 => Or.inl ⟨by rw [e4 i, j0 i], by rw [e5 i, j1 i]⟩, fun p S h => by rw [show _ = _ from e] at h; cases h⟩
      rw [show _ = _ from e]
      exact xOut0_f (by omega) (by omega) (by omega)
    · cases hx
    · have hx : x ∈ [zxfrz0_gr0] := hx
      have hag : ∀ k, k < 4 → v2 k = v k := hag
      have hfr : xFr [] _ _ := hfr
      have ex := List.mem_singleton.mp hx
      subst ex
      obtain ⟨hF, hBd, hM⟩ := hXs
      have g3 : v2 3 = v 3 := hag 3 (by decide)
      have b0 : ((2147483648 : Nat) : Int) ≤ (v2 3) + 2147483648 ∧ (v2 3) + 2147483648 ≤ ((2147483649 : Nat) : Int) := xXb hBd 0 rfl
      have e35_4 : xE E2 35 4 = xE E 35 4 := xFr_E hfr rfl
      have q35_4 : xE E 35 4 = xE E0 35 4 := xFr_E hFr0 rfl
      have e35_5 : xE E2 35 5 = xE E 35 5 := xFr_E hfr rfl
      have e35_6 : xE E2 35 6 = xE E 35 6 := xFr_E hfr rfl
      have e35_7 : xE E2 35 7 = xE E 35 7 := xFr_E hfr rfl
      have e35_8 : xE E2 35 8 = xE E 35 8 := xFr_E hfr rfl
      have e35_2 : xE E2 35 2 = xE E 35 2 := xFr_E hfr rfl
      have e35_3 : xE E2 35 3 = xE E 35 3 := xFr_E hfr rfl
      have e36 : ∀ i, xE E2 36 i = xE E 36 i := fun i => xFr_E hfr rfl
      have q36 : ∀ i, xE E 36 i = xE E0 36 i := fun i => xFr_E hFr0 rfl
      have e4 : ∀ i, xE E2 4 i = xE E 4 i := fun i => xFr_E hfr rfl
      have e5 : ∀ i, xE E2 5 i = xE E 5 i := fun i => xFr_E hfr rfl
      have hI : ∃ rr cc p2 : Int, pSz (xE E0 36) (xE E0 35 4) = pSem (xE E0 36) (xE E0 35 4) p2 (pClr rr cc) ∧ xTS (xE E0 36) (xE E0 35 4) p2 E (v 3) ∧ (1 ≤ rr ∧ rr ≤ 4 ∧ 1 ≤ cc ∧ cc ≤ 5) ∧ xAb0 E (pClr rr cc) ∧ xGeo0 E rr.toNat cc.toNat ∧ xJk0 E0 E := hInv
      show xΨfrz0 x0 E0 E2 (v2 3)
      obtain ⟨rr, cc, p2, i1, i2, i3, i4, i5, i6⟩ := hI
      have hE2 := xFr_n hfr
      subst hE2
      rw [show (v 3) = v2 3 by omega] at i2
      by_cases hz : v2 3 = 0
      · have e := i1.trans (xts_0 i2 hz _)
        refine ⟨?_, i6, fun p S h => by rw [show _ = _ from e] at h; cases h⟩
        rw [show _ = _ from e]
        exact xOut0_f hz rfl rfl
      · obtain ⟨c1, c2, c3⟩ := xts_1 i2 hz (pClr rr cc)
        have e := i1.trans c3
        refine ⟨?_, i6, fun p S h => ?_⟩
        · rw [show _ = _ from e]
          exact xOut0_k c1 rfl i4
        · rw [show _ = _ from e] at h
          cases h
          exact i5
end
section
/-! THE CLASS reads: size, a line (printed by m11.py) -/
noncomputable def zxfrl0_zx0 : zyXp := (3, [283, 11], [800011, 283], [], [], [])
noncomputable def zpfrl0_z : zyPh := (0, [283, 11], [(0, 4294967295), (0, 4294967295)], [], [])
noncomputable def zxfrl0_w0x0 : zyXp := (11, [283, 11], [11, 283], [(23, 0, 68719476737, 0)], [(68719476737, 2147483649, 2147483649)], [])
noncomputable def zxfrl0_w0x1 : zyXp := (18, [283, 11], [800019, 283], [(22, 0, 68719476737, 0)], [(68719476737, 2147483648, 2147483648)], [])
noncomputable def zpfrl0_w0 : zyPh := (6, [283, 11], [(0, 4294967295), (0, 4294967295), (2147483648, 2147483649)], [], [68719476737])
noncomputable def zxfrl0_r0r0 : zyXp := (0, [], [68719476737], [], [(68719476737, 2147483648, 2147483649)], [])
noncomputable def zpfrl0_r0 : zyPh := (14, [283, 11], [(0, 4294967295), (0, 4294967295), (2147483648, 2147483649)], [], [68719476737])
noncomputable def zxfrl0_w1x0 : zyXp := (26, [283, 11], [11, 283], [(23, 0, 68719476737, 0)], [(68719476737, 2147483649, 2147483649)], [])
noncomputable def zxfrl0_w1x1 : zyXp := (33, [283, 11], [800027, 283], [(22, 0, 68719476737, 0)], [(68719476737, 2147483648, 2147483648)], [])
noncomputable def zpfrl0_w1 : zyPh := (21, [283, 11], [(0, 4294967295), (0, 4294967295), (2147483648, 2147483649)], [], [68719476737])
noncomputable def zxfrl0_r1r0 : zyXp := (0, [], [68719476737], [], [(68719476737, 2147483648, 2147483649)], [])
noncomputable def zpfrl0_r1 : zyPh := (29, [283, 11], [(0, 4294967295), (0, 4294967295), (2147483648, 2147483649)], [], [68719476737])
noncomputable def zxfrl0_w2x0 : zyXp := (41, [283, 11], [11, 283], [(23, 0, 68719476737, 0)], [(68719476737, 2147483649, 2147483649)], [])
noncomputable def zxfrl0_w2x1 : zyXp := (48, [283, 11], [800051, 283], [(22, 0, 68719476737, 0)], [(68719476737, 2147483648, 2147483648)], [])
noncomputable def zpfrl0_w2 : zyPh := (36, [283, 11], [(0, 4294967295), (0, 4294967295), (2147483648, 2147483649)], [], [68719476737])
noncomputable def zxfrl0_r2r0 : zyXp := (0, [], [68719476737], [], [(68719476737, 2147483648, 2147483649)], [])
noncomputable def zpfrl0_r2 : zyPh := (44, [283, 11], [(0, 4294967295), (0, 4294967295), (2147483648, 2147483649)], [], [68719476737])
noncomputable def zxfrl0_w3x0 : zyXp := (56, [283, 11], [11, 283], [(23, 0, 68719476737, 0)], [(68719476737, 2147483649, 2147483649)], [])
noncomputable def zxfrl0_w3x1 : zyXp := (63, [283, 11], [800059, 283], [(22, 0, 68719476737, 0)], [(68719476737, 2147483648, 2147483648)], [])
noncomputable def zpfrl0_w3 : zyPh := (51, [283, 11], [(0, 4294967295), (0, 4294967295), (2147483648, 2147483649)], [], [68719476737])
noncomputable def zxfrl0_r3r0 : zyXp := (0, [], [68719476737], [], [(68719476737, 2147483648, 2147483649)], [])
noncomputable def zpfrl0_r3 : zyPh := (59, [283, 11], [(0, 4294967295), (0, 4294967295), (2147483648, 2147483649)], [], [68719476737])
noncomputable def zxfrl0_w4x0 : zyXp := (71, [283, 11], [11, 283], [(23, 0, 68719476737, 0)], [(68719476737, 2147483649, 2147483649)], [])
noncomputable def zxfrl0_w4x1 : zyXp := (78, [283, 11], [800067, 283], [(22, 0, 68719476737, 0)], [(68719476737, 2147483648, 2147483648)], [])
noncomputable def zpfrl0_w4 : zyPh := (66, [283, 11], [(0, 4294967295), (0, 4294967295), (2147483648, 2147483649)], [], [68719476737])
noncomputable def zxfrl0_r4r0 : zyXp := (0, [], [68719476737], [], [(68719476737, 2147483648, 2147483649)], [])
noncomputable def zpfrl0_r4 : zyPh := (74, [283, 11], [(0, 4294967295), (0, 4294967295), (2147483648, 2147483649)], [], [68719476737])
noncomputable def zxfrl0_w5x0 : zyXp := (86, [283, 11], [11, 283], [(23, 0, 68719476737, 0)], [(68719476737, 2147483649, 2147483649)], [])
noncomputable def zxfrl0_w5r0 : zyXp := (0, [], [0], [(22, 0, 68719476737, 0), (24, 103079215105, 35, 56), (23, 0, 103079215105, 8), (24, 137438953473, 35, 40)], [(68719476737, 2147483648, 2147483648), (103079215105, 2147483650, 2147483653), (137438953473, 2147483648, 2147484548)], [(573442, 16), (573443, 137438953473)])
noncomputable def zxfrl0_w5r1 : zyXp := (0, [], [0], [(22, 0, 68719476737, 0), (24, 103079215105, 35, 56), (23, 0, 103079215105, 8), (24, 137438953473, 35, 40)], [(68719476737, 2147483648, 2147483648), (103079215105, 2147483648, 2147483648), (137438953473, 2147483648, 2147484548)], [(573442, 16), (573443, 137438953473)])
noncomputable def zxfrl0_w5r2 : zyXp := (0, [], [0], [(22, 0, 68719476737, 0), (24, 103079215105, 35, 56), (22, 0, 103079215105, 8), (24, 137438953473, 35, 40)], [(68719476737, 2147483648, 2147483648), (103079215105, 2147483649, 2147483649), (137438953473, 2147483648, 2147484548)], [(573442, 8), (573443, 137438953473)])
noncomputable def zpfrl0_w5 : zyPh := (81, [283, 11], [(0, 4294967295), (0, 4294967295), (2147483648, 2147483649)], [], [68719476737])
noncomputable def zxfrl0_r5r0 : zyXp := (0, [], [68719476737], [], [(68719476737, 2147483648, 2147483649)], [])
noncomputable def zpfrl0_r5 : zyPh := (89, [283, 11], [(0, 4294967295), (0, 4294967295), (2147483648, 2147483649)], [], [68719476737])
noncomputable def zpfrl0 (i : Nat) : zyPh := zif (Nat.beq i 0) (zpfrl0_z) (zif (Nat.beq i 1) (zpfrl0_w0) (zif (Nat.beq i 2) (zpfrl0_r0) (zif (Nat.beq i 3) (zpfrl0_w1) (zif (Nat.beq i 4) (zpfrl0_r1) (zif (Nat.beq i 5) (zpfrl0_w2) (zif (Nat.beq i 6) (zpfrl0_r2) (zif (Nat.beq i 7) (zpfrl0_w3) (zif (Nat.beq i 8) (zpfrl0_r3) (zif (Nat.beq i 9) (zpfrl0_w4) (zif (Nat.beq i 10) (zpfrl0_r4) (zif (Nat.beq i 11) (zpfrl0_w5) (zpfrl0_r5))))))))))))
noncomputable def zXfrl0 (i : Nat) : List zyXp := zif (Nat.beq i 0) ([zxfrl0_zx0]) (zif (Nat.beq i 1) ([zxfrl0_w0x0, zxfrl0_w0x1]) (zif (Nat.beq i 2) ([]) (zif (Nat.beq i 3) ([zxfrl0_w1x0, zxfrl0_w1x1]) (zif (Nat.beq i 4) ([]) (zif (Nat.beq i 5) ([zxfrl0_w2x0, zxfrl0_w2x1]) (zif (Nat.beq i 6) ([]) (zif (Nat.beq i 7) ([zxfrl0_w3x0, zxfrl0_w3x1]) (zif (Nat.beq i 8) ([]) (zif (Nat.beq i 9) ([zxfrl0_w4x0, zxfrl0_w4x1]) (zif (Nat.beq i 10) ([]) (zif (Nat.beq i 11) ([zxfrl0_w5x0]) ([]))))))))))))
noncomputable def zRfrl0 (i : Nat) : List zyXp := zif (Nat.beq i 0) ([]) (zif (Nat.beq i 1) ([]) (zif (Nat.beq i 2) ([zxfrl0_r0r0]) (zif (Nat.beq i 3) ([]) (zif (Nat.beq i 4) ([zxfrl0_r1r0]) (zif (Nat.beq i 5) ([]) (zif (Nat.beq i 6) ([zxfrl0_r2r0]) (zif (Nat.beq i 7) ([]) (zif (Nat.beq i 8) ([zxfrl0_r3r0]) (zif (Nat.beq i 9) ([]) (zif (Nat.beq i 10) ([zxfrl0_r4r0]) (zif (Nat.beq i 11) ([zxfrl0_w5r0, zxfrl0_w5r1, zxfrl0_w5r2]) ([zxfrl0_r5r0]))))))))))))
noncomputable def zFfrl0 (i : Nat) : zyR := zif (Nat.beq i 0) ([]) (zif (Nat.beq i 1) ([]) (zif (Nat.beq i 2) ([]) (zif (Nat.beq i 3) ([]) (zif (Nat.beq i 4) ([]) (zif (Nat.beq i 5) ([]) (zif (Nat.beq i 6) ([]) (zif (Nat.beq i 7) ([]) (zif (Nat.beq i 8) ([]) (zif (Nat.beq i 9) ([]) (zif (Nat.beq i 10) ([]) (zif (Nat.beq i 11) ([(35, 2, 3)]) ([]))))))))))))
noncomputable def zSfrl0 (i : Nat) : Nat := zif (Nat.beq i 0) (0) (zif (Nat.beq i 1) (0) (zif (Nat.beq i 2) (0) (zif (Nat.beq i 3) (0) (zif (Nat.beq i 4) (0) (zif (Nat.beq i 5) (0) (zif (Nat.beq i 6) (0) (zif (Nat.beq i 7) (0) (zif (Nat.beq i 8) (0) (zif (Nat.beq i 9) (0) (zif (Nat.beq i 10) (0) (zif (Nat.beq i 11) (0) (0))))))))))))
theorem xOut0_r {R : pR} {E2 : zyEm} {r : Int} (h : xOut0 R E2 r) : r = 0 ∨ r = 1 := by
  unfold xOut0 at h
  split at h
  · exact Or.inr h.1
  · exact Or.inl h.1
def xΦrl0 (_ : Nat → Int) (E : zyEm) : Prop := xE E 35 6 ≤ xE E 35 4 ∧ (∃ S, xAb0 E S) ∧ ∃ p, p ≤ xE E 35 4 ∧ xAD (xE E 36) (xE E 35 4) p E
def xΨfrl0 (_ : Nat → Int) (E E2 : zyEm) (r : Int) : Prop := ∀ p S, p ≤ xE E 35 4 → xAD (xE E 36) (xE E 35 4) p E → xAb0 E S → xOut0 (pLine (xE E 36) (xE E 35 4) p S) E2 r
noncomputable def fpfrl0 : zyR := [(35, 2, 3), (35, 5, 8), (1, 5, 5), (1, 8, 8), (16, 1, 1), (17, 0, 59), (10, 0, 30), (11, 0, 30), (12, 0, 30), (13, 0, 30), (14, 0, 7), (15, 0, 7)]
theorem zyfrl0_run : zyrS zymc zxi61 (61, 0, 0, 2, 0) 9 zpfrl0 (fun _ _ => []) zFfrl0 zSfrl0 zXfrl0 zRfrl0 13 = true := by decide +kernel
theorem zyfrl0_ck : zyAll (fun i => xsubR (zFfrl0 i) fpfrl0 && ((zXfrl0 i).all xckX && (zRfrl0 i).all (fun x => xckX x && xrtB true x))) 13 = true := by decide +kernel
def xIfrl0 (i : Nat) (x0 : Nat → Int) (E0 : zyEm) (v : Nat → Int) (E : zyEm) : Prop := if i = 0 then (E = E0) else if i = 1 then (E = E0 ∧ (v 2) = if sW (xE E0 36) (xE E0 35 7) (xE E0 35 5) (xE E0 35 6) [115, 119, 105, 116, 99, 104] = true then 1 else 0) else if i = 2 then (E0 = E0 ∧ ∀ p S, p ≤ xE E0 35 4 → xAD (xE E0 36) (xE E0 35 4) p E0 → xAb0 E0 S → xOut0 (pLine (xE E0 36) (xE E0 35 4) p S) E (v 2)) else if i = 3 then (E = E0 ∧ sW (xE E0 36) (xE E0 35 7) (xE E0 35 5) (xE E0 35 6) [115, 119, 105, 116, 99, 104] = false ∧ (v 2) = if sW (xE E0 36) (xE E0 35 7) (xE E0 35 5) (xE E0 35 6) [98, 111, 98, 98, 105, 110] = true then 1 else 0) else if i = 4 then (E0 = E0 ∧ ∀ p S, p ≤ xE E0 35 4 → xAD (xE E0 36) (xE E0 35 4) p E0 → xAb0 E0 S → xOut0 (pLine (xE E0 36) (xE E0 35 4) p S) E (v 2)) else if i = 5 then (E = E0 ∧ sW (xE E0 36) (xE E0 35 7) (xE E0 35 5) (xE E0 35 6) [115, 119, 105, 116, 99, 104] = false ∧ sW (xE E0 36) (xE E0 35 7) (xE E0 35 5) (xE E0 35 6) [98, 111, 98, 98, 105, 110] = false ∧ (v 2) = if sW (xE E0 36) (xE E0 35 7) (xE E0 35 5) (xE E0 35 6) [115, 116, 117, 99, 107] = true then 1 else 0) else if i = 6 then (E0 = E0 ∧ ∀ p S, p ≤ xE E0 35 4 → xAD (xE E0 36) (xE E0 35 4) p E0 → xAb0 E0 S → xOut0 (pLine (xE E0 36) (xE E0 35 4) p S) E (v 2)) else if i = 7 then (E = E0 ∧ sW (xE E0 36) (xE E0 35 7) (xE E0 35 5) (xE E0 35 6) [115, 119, 105, 116, 99, 104] = false ∧ sW (xE E0 36) (xE E0 35 7) (xE E0 35 5) (xE E0 35 6) [98, 111, 98, 98, 105, 110] = false ∧ sW (xE E0 36) (xE E0 35 7) (xE E0 35 5) (xE E0 35 6) [115, 116, 117, 99, 107] = false ∧ (v 2) = if sW (xE E0 36) (xE E0 35 7) (xE E0 35 5) (xE E0 35 6) [102, 114, 101, 101] = true then 1 else 0) else if i = 8 then (E0 = E0 ∧ ∀ p S, p ≤ xE E0 35 4 → xAD (xE E0 36) (xE E0 35 4) p E0 → xAb0 E0 S → xOut0 (pLine (xE E0 36) (xE E0 35 4) p S) E (v 2)) else if i = 9 then (E = E0 ∧ sW (xE E0 36) (xE E0 35 7) (xE E0 35 5) (xE E0 35 6) [115, 119, 105, 116, 99, 104] = false ∧ sW (xE E0 36) (xE E0 35 7) (xE E0 35 5) (xE E0 35 6) [98, 111, 98, 98, 105, 110] = false ∧ sW (xE E0 36) (xE E0 35 7) (xE E0 35 5) (xE E0 35 6) [115, 116, 117, 99, 107] = false ∧ sW (xE E0 36) (xE E0 35 7) (xE E0 35 5) (xE E0 35 6) [102, 114, 101, 101] = false ∧ (v 2) = if sW (xE E0 36) (xE E0 35 7) (xE E0 35 5) (xE E0 35 6) [112, 108, 97, 99, 101] = true then 1 else 0) else if i = 10 then (E0 = E0 ∧ ∀ p S, p ≤ xE E0 35 4 → xAD (xE E0 36) (xE E0 35 4) p E0 → xAb0 E0 S → xOut0 (pLine (xE E0 36) (xE E0 35 4) p S) E (v 2)) else if i = 11 then (E = E0 ∧ sW (xE E0 36) (xE E0 35 7) (xE E0 35 5) (xE E0 35 6) [115, 119, 105, 116, 99, 104] = false ∧ sW (xE E0 36) (xE E0 35 7) (xE E0 35 5) (xE E0 35 6) [98, 111, 98, 98, 105, 110] = false ∧ sW (xE E0 36) (xE E0 35 7) (xE E0 35 5) (xE E0 35 6) [115, 116, 117, 99, 107] = false ∧ sW (xE E0 36) (xE E0 35 7) (xE E0 35 5) (xE E0 35 6) [102, 114, 101, 101] = false ∧ sW (xE E0 36) (xE E0 35 7) (xE E0 35 5) (xE E0 35 6) [112, 108, 97, 99, 101] = false ∧ (v 2) = if sW (xE E0 36) (xE E0 35 7) (xE E0 35 5) (xE E0 35 6) [119, 111, 114, 100] = true then 1 else 0) else (E0 = E0 ∧ ∀ p S, p ≤ xE E0 35 4 → xAD (xE E0 36) (xE E0 35 4) p E0 → xAb0 E0 S → xOut0 (pLine (xE E0 36) (xE E0 35 4) p S) E (v 2))
def xMfrl0 (i : Nat) (x0 : Nat → Int) (E0 : zyEm) (v : Nat → Int) (E : zyEm) : Nat := if i = 0 then (100) else if i = 1 then (50) else if i = 2 then (1) else if i = 3 then (49) else if i = 4 then (1) else if i = 5 then (48) else if i = 6 then (1) else if i = 7 then (47) else if i = 8 then (1) else if i = 9 then (46) else if i = 10 then (1) else if i = 11 then (45) else (1)
theorem xRl0 {l : Launch} {en : zEn} {me : zMe} (hen : zG zxMeta 61 = some en) (hme : zG zMeth 61 = some me) : xFc l zymc en me 9 [35, 1] 0 fpfrl0 true xΦrl0 xΨfrl0 := by
  have een : zG zxMeta 61 = some (zxi61, 2, 2, 5, 61, 0, 0, 2, 0) := rfl
  obtain ⟨me1, hme1, hOK⟩ := zall hen
  rw [hme] at hme1
  cases hme1
  rw [een] at hen
  cases hen
  have hr := zyfrl0_run
  have hck := fun i hi => zyAll_iff zyfrl0_ck i hi
  simp only [Bool.and_eq_true] at hck
  obtain ⟨mefrs0, hmefrs0, -⟩ := zall (show zG zxMeta 62 = some (zxi62, 2, 5, 5, 62, 0, 0, 2, 0) from rfl)
  have hfrs0 := xRs0 (l := l) (show zG zxMeta 62 = some (zxi62, 2, 5, 5, 62, 0, 0, 2, 0) from rfl) hmefrs0
  obtain ⟨mefrb0, hmefrb0, -⟩ := zall (show zG zxMeta 63 = some (zxi63, 2, 2, 5, 63, 0, 0, 2, 0) from rfl)
  have hfrb0 := xRb0 (l := l) (show zG zxMeta 63 = some (zxi63, 2, 2, 5, 63, 0, 0, 2, 0) from rfl) hmefrb0
  obtain ⟨mefrk0, hmefrk0, -⟩ := zall (show zG zxMeta 64 = some (zxi64, 2, 3, 5, 64, 0, 0, 2, 0) from rfl)
  have hfrk0 := xRk0 (l := l) (show zG zxMeta 64 = some (zxi64, 2, 3, 5, 64, 0, 0, 2, 0) from rfl) hmefrk0
  obtain ⟨mefrf0, hmefrf0, -⟩ := zall (show zG zxMeta 65 = some (zxi65, 2, 2, 5, 65, 0, 0, 2, 0) from rfl)
  have hfrf0 := xRf0 (l := l) (show zG zxMeta 65 = some (zxi65, 2, 2, 5, 65, 0, 0, 2, 0) from rfl) hmefrf0
  obtain ⟨mefrp0, hmefrp0, -⟩ := zall (show zG zxMeta 66 = some (zxi66, 2, 3, 5, 66, 0, 0, 2, 0) from rfl)
  have hfrp0 := xRp0 (l := l) (show zG zxMeta 66 = some (zxi66, 2, 3, 5, 66, 0, 0, 2, 0) from rfl) hmefrp0
  obtain ⟨mefrw0, hmefrw0, -⟩ := zall (show zG zxMeta 67 = some (zxi67, 2, 4, 5, 67, 0, 0, 2, 0) from rfl)
  have hfrw0 := xRw0 (l := l) (show zG zxMeta 67 = some (zxi67, 2, 4, 5, 67, 0, 0, 2, 0) from rfl) hmefrw0
  obtain ⟨mefwsw, hmefwsw, -⟩ := zall (show zG zxMeta 72 = some (zxi72, 2, 3, 5, 72, 0, 0, 2, 0) from rfl)
  have hfwsw := xWswitch (l := l) (show zG zxMeta 72 = some (zxi72, 2, 3, 5, 72, 0, 0, 2, 0) from rfl) hmefwsw
  obtain ⟨mefwbo, hmefwbo, -⟩ := zall (show zG zxMeta 72 = some (zxi72, 2, 3, 5, 72, 0, 0, 2, 0) from rfl)
  have hfwbo := xWbobbin (l := l) (show zG zxMeta 72 = some (zxi72, 2, 3, 5, 72, 0, 0, 2, 0) from rfl) hmefwbo
  obtain ⟨mefwst, hmefwst, -⟩ := zall (show zG zxMeta 72 = some (zxi72, 2, 3, 5, 72, 0, 0, 2, 0) from rfl)
  have hfwst := xWstuck (l := l) (show zG zxMeta 72 = some (zxi72, 2, 3, 5, 72, 0, 0, 2, 0) from rfl) hmefwst
  obtain ⟨mefwfr, hmefwfr, -⟩ := zall (show zG zxMeta 72 = some (zxi72, 2, 3, 5, 72, 0, 0, 2, 0) from rfl)
  have hfwfr := xWfree (l := l) (show zG zxMeta 72 = some (zxi72, 2, 3, 5, 72, 0, 0, 2, 0) from rfl) hmefwfr
  obtain ⟨mefwpl, hmefwpl, -⟩ := zall (show zG zxMeta 72 = some (zxi72, 2, 3, 5, 72, 0, 0, 2, 0) from rfl)
  have hfwpl := xWplace (l := l) (show zG zxMeta 72 = some (zxi72, 2, 3, 5, 72, 0, 0, 2, 0) from rfl) hmefwpl
  obtain ⟨mefwwo, hmefwwo, -⟩ := zall (show zG zxMeta 72 = some (zxi72, 2, 3, 5, 72, 0, 0, 2, 0) from rfl)
  have hfwwo := xWword (l := l) (show zG zxMeta 72 = some (zxi72, 2, 3, 5, 72, 0, 0, 2, 0) from rfl) hmefwwo
  intro B
  refine xcut (mi := zymc) (B := B) hOK rfl rfl (ι := Fin 13) (fun i => zpfrl0 i.val) (fun _ _ => []) (fun i => zFfrl0 i.val) (fun i => zSfrl0 i.val) (fun i => zXfrl0 i.val) (fun i => zRfrl0 i.val) (fun i y2 ct en2 me2 h => by cases h) 200000 (fun i => zyAll_iff hr i.val i.isLt) (fun i => (hck i.val i.isLt).1) (fun i => (hck i.val i.isLt).2.1) (fun i => (hck i.val i.isLt).2.2) ⟨0, by decide⟩ ⟨rfl, rfl, rfl, rfl⟩ ⟨by decide, by decide⟩ (fun i x0 E0 v E => xIfrl0 i.val x0 E0 v E) (fun i x0 E0 v E => xMfrl0 i.val x0 E0 v E) ?_ ?_ ?_
  · intro x0 E hx0 hT hΦ
    have hΦ : xΦrl0 x0 E := hΦ
    refine ⟨fun k p hp => ?_, ?_⟩
    · have hk : k < 2 := (List.getElem?_eq_some_iff.mp hp).1
      have hk : k = 0 ∨ k = 1 := by omega
      rcases hk with rfl | rfl
      · have hp : some (0, 4294967295) = some p := hp
        cases hp
        show ((0 : Nat) : Int) ≤ 0 + 2147483648 ∧ 0 + 2147483648 ≤ ((4294967295 : Nat) : Int)
        omega
      · have hp : some (0, 4294967295) = some p := hp
        cases hp
        show ((0 : Nat) : Int) ≤ 0 + 2147483648 ∧ 0 + 2147483648 ≤ ((4294967295 : Nat) : Int)
        omega
    · show E = E
      rfl
  · intro x0 s Wg hRu hrx hT0 hΦ i v H hT hrv hInv hKc hFr0 hIH x hx ρ2 v2 N2 H2 locs lsB stA hAt hB hv hr2 hXs hag hfr hFr hT2
    rcases i with ⟨i, hi⟩
    have hi2 : i = 0 ∨ i = 1 ∨ i = 2 ∨ i = 3 ∨ i = 4 ∨ i = 5 ∨ i = 6 ∨ i = 7 ∨ i = 8 ∨ i = 9 ∨ i = 10 ∨ i = 11 ∨ i = 12 := by omega
    rcases hi2 with rfl | rfl | rfl | rfl | rfl | rfl | rfl | rfl | rfl | rfl | rfl | rfl | rfl
    · have hx : x ∈ [zxfrl0_zx0] := hx
      have hag : ∀ k, k < 2 → v2 k = v k := hag
      have hfr : xFr [] _ _ := hfr
      have ex := List.mem_singleton.mp hx
      subst ex
      obtain ⟨hF, hBd, hM⟩ := hXs
      have e35_4 : xE (zyEl zymc B H2) 35 4 = xE (zyEl zymc B H) 35 4 := xFr_E hfr rfl
      have q35_4 : xE (zyEl zymc B H) 35 4 = xE (zyEl zymc B s.heap) 35 4 := xFr_E hFr0 rfl
      have e35_5 : xE (zyEl zymc B H2) 35 5 = xE (zyEl zymc B H) 35 5 := xFr_E hfr rfl
      have e35_6 : xE (zyEl zymc B H2) 35 6 = xE (zyEl zymc B H) 35 6 := xFr_E hfr rfl
      have e35_7 : xE (zyEl zymc B H2) 35 7 = xE (zyEl zymc B H) 35 7 := xFr_E hfr rfl
      have e35_8 : xE (zyEl zymc B H2) 35 8 = xE (zyEl zymc B H) 35 8 := xFr_E hfr rfl
      have e35_2 : xE (zyEl zymc B H2) 35 2 = xE (zyEl zymc B H) 35 2 := xFr_E hfr rfl
      have e35_3 : xE (zyEl zymc B H2) 35 3 = xE (zyEl zymc B H) 35 3 := xFr_E hfr rfl
      have e36 : ∀ i, xE (zyEl zymc B H2) 36 i = xE (zyEl zymc B H) 36 i := fun i => xFr_E hfr rfl
      have q36 : ∀ i, xE (zyEl zymc B H) 36 i = xE (zyEl zymc B s.heap) 36 i := fun i => xFr_E hFr0 rfl
      have hI : (zyEl zymc B H) = (zyEl zymc B s.heap) := hInv
      have q35_5 : xE (zyEl zymc B H) 35 5 = xE (zyEl zymc B s.heap) 35 5 := by rw [hI]
      have q35_6 : xE (zyEl zymc B H) 35 6 = xE (zyEl zymc B s.heap) 35 6 := by rw [hI]
      have q35_7 : xE (zyEl zymc B H) 35 7 = xE (zyEl zymc B s.heap) 35 7 := by rw [hI]
      have q35_8 : xE (zyEl zymc B H) 35 8 = xE (zyEl zymc B s.heap) 35 8 := by rw [hI]
      have q35_2 : xE (zyEl zymc B H) 35 2 = xE (zyEl zymc B s.heap) 35 2 := by rw [hI]
      have q35_3 : xE (zyEl zymc B H) 35 3 = xE (zyEl zymc B s.heap) 35 3 := by rw [hI]
      have hE20 := (xFr_n hfr).trans hI
      refine xCa hRu hIH hAt hB hv hFr (hfwsw B) (ix := 48) (ax := 1152) rfl rfl rfl hmefwsw ⟨_, rfl, rfl, by decide⟩ ⟨rfl, rfl, rfl⟩ (by decide) [] [] [] rfl ⟨rfl, rfl⟩ (by decide +kernel) xcs_n (by decide +kernel) ?_ (fun H3 r hT3 hf3 hFr3 hr3 hΨ3 => ?_)
      · show xΦ0 (xfv []) (zyEl zymc B H2)
        exact trivial
      · have hΨ3 : xΨfwsw (xfv []) (zyEl zymc B H2) (zyEl zymc B H3) r := hΨ3
        have d35_4 : xE (zyEl zymc B H3) 35 4 = xE (zyEl zymc B H2) 35 4 := xFr_E hf3 rfl
        have d35_5 : xE (zyEl zymc B H3) 35 5 = xE (zyEl zymc B H2) 35 5 := xFr_E hf3 rfl
        have d35_6 : xE (zyEl zymc B H3) 35 6 = xE (zyEl zymc B H2) 35 6 := xFr_E hf3 rfl
        have d35_7 : xE (zyEl zymc B H3) 35 7 = xE (zyEl zymc B H2) 35 7 := xFr_E hf3 rfl
        have d35_8 : xE (zyEl zymc B H3) 35 8 = xE (zyEl zymc B H2) 35 8 := xFr_E hf3 rfl
        have d35_2 : xE (zyEl zymc B H3) 35 2 = xE (zyEl zymc B H2) 35 2 := xFr_E hf3 rfl
        have d35_3 : xE (zyEl zymc B H3) 35 3 = xE (zyEl zymc B H2) 35 3 := xFr_E hf3 rfl
        have d36 : ∀ i, xE (zyEl zymc B H3) 36 i = xE (zyEl zymc B H2) 36 i := fun i => xFr_E hf3 rfl
        unfold xΨfwsw at hΨ3
        have hr01 : r = 0 ∨ r = 1 := by
          rw [hΨ3]
          split <;> omega
        have hEE3 : (zyEl zymc B H3) = (zyEl zymc B s.heap) := (xFr_n hf3).trans hE20
        rw [hE20] at hΨ3
        refine ⟨⟨1, by decide⟩, [0, 0], [0, 0, r], rfl, ⟨by decide +kernel, ⟨rfl, by decide +kernel⟩, (xcs_c rfl (xcs_c rfl xcs_n)), (xe_0 (xe_0 (xe_c (by omega) (by omega) rfl xe_n))), xkq_n⟩, (by rw [if_pos rfl]; exact ⟨2, [], rfl, by decide, rfl, xst_n⟩), ?_, ?_⟩
        · show (zyEl zymc B H3) = (zyEl zymc B s.heap) ∧ (r : Int) = if sW (xE (zyEl zymc B s.heap) 36) (xE (zyEl zymc B s.heap) 35 7) (xE (zyEl zymc B s.heap) 35 5) (xE (zyEl zymc B s.heap) 35 6) [115, 119, 105, 116, 99, 104] = true then 1 else 0
          exact ⟨hEE3, hΨ3⟩
        · show 50 < 100
          omega
    · have hx : x ∈ [zxfrl0_w0x0, zxfrl0_w0x1] := hx
      have hag : ∀ k, k < 3 → v2 k = v k := hag
      have hfr : xFr [] _ _ := hfr
      rcases List.mem_cons.mp hx with ex | hx
      · subst ex
        obtain ⟨hF, hBd, hM⟩ := hXs
        have g2 : v2 2 = v 2 := hag 2 (by decide)
        have b0 : ((2147483649 : Nat) : Int) ≤ (v2 2) + 2147483648 ∧ (v2 2) + 2147483648 ≤ ((2147483649 : Nat) : Int) := xXb hBd 0 rfl
        have f0 : ¬ (v2 2) = 0 := xXf hF 0 rfl
        have e35_4 : xE (zyEl zymc B H2) 35 4 = xE (zyEl zymc B H) 35 4 := xFr_E hfr rfl
        have q35_4 : xE (zyEl zymc B H) 35 4 = xE (zyEl zymc B s.heap) 35 4 := xFr_E hFr0 rfl
        have e35_5 : xE (zyEl zymc B H2) 35 5 = xE (zyEl zymc B H) 35 5 := xFr_E hfr rfl
        have e35_6 : xE (zyEl zymc B H2) 35 6 = xE (zyEl zymc B H) 35 6 := xFr_E hfr rfl
        have e35_7 : xE (zyEl zymc B H2) 35 7 = xE (zyEl zymc B H) 35 7 := xFr_E hfr rfl
        have e35_8 : xE (zyEl zymc B H2) 35 8 = xE (zyEl zymc B H) 35 8 := xFr_E hfr rfl
        have e35_2 : xE (zyEl zymc B H2) 35 2 = xE (zyEl zymc B H) 35 2 := xFr_E hfr rfl
        have e35_3 : xE (zyEl zymc B H2) 35 3 = xE (zyEl zymc B H) 35 3 := xFr_E hfr rfl
        have e36 : ∀ i, xE (zyEl zymc B H2) 36 i = xE (zyEl zymc B H) 36 i := fun i => xFr_E hfr rfl
        have q36 : ∀ i, xE (zyEl zymc B H) 36 i = xE (zyEl zymc B s.heap) 36 i := fun i => xFr_E hFr0 rfl
        have hI : (zyEl zymc B H) = (zyEl zymc B s.heap) ∧ (v 2) = if sW (xE (zyEl zymc B s.heap) 36) (xE (zyEl zymc B s.heap) 35 7) (xE (zyEl zymc B s.heap) 35 5) (xE (zyEl zymc B s.heap) 35 6) [115, 119, 105, 116, 99, 104] = true then 1 else 0 := hInv
        have q35_5 : xE (zyEl zymc B H) 35 5 = xE (zyEl zymc B s.heap) 35 5 := by rw [hI.1]
        have q35_6 : xE (zyEl zymc B H) 35 6 = xE (zyEl zymc B s.heap) 35 6 := by rw [hI.1]
        have q35_7 : xE (zyEl zymc B H) 35 7 = xE (zyEl zymc B s.heap) 35 7 := by rw [hI.1]
        have q35_8 : xE (zyEl zymc B H) 35 8 = xE (zyEl zymc B s.heap) 35 8 := by rw [hI.1]
        have q35_2 : xE (zyEl zymc B H) 35 2 = xE (zyEl zymc B s.heap) 35 2 := by rw [hI.1]
        have q35_3 : xE (zyEl zymc B H) 35 3 = xE (zyEl zymc B s.heap) 35 3 := by rw [hI.1]
        obtain ⟨hE, i3⟩ := hI
        obtain ⟨S0, hS0⟩ := hΦ.2.1
        obtain ⟨pp, hpp, hA0⟩ := hΦ.2.2
        have y0 : sW (xE (zyEl zymc B s.heap) 36) (xE (zyEl zymc B s.heap) 35 7) (xE (zyEl zymc B s.heap) 35 5) (xE (zyEl zymc B s.heap) 35 6) [115, 119, 105, 116, 99, 104] = true := by
          by_cases h : sW (xE (zyEl zymc B s.heap) 36) (xE (zyEl zymc B s.heap) 35 7) (xE (zyEl zymc B s.heap) 35 5) (xE (zyEl zymc B s.heap) 35 6) [115, 119, 105, 116, 99, 104] = true
          · exact h
          · rw [if_neg h] at i3
            omega
        have hE20 := (xFr_n hfr).trans hE
        refine xCa hRu hIH hAt hB hv hFr (hfrs0 B) (ix := 79) (ax := 992) rfl rfl rfl hmefrs0 ⟨_, rfl, rfl, by decide⟩ ⟨rfl, rfl, rfl⟩ (by decide) [] [] [] rfl ⟨rfl, rfl⟩ (by decide +kernel) xcs_n (by decide +kernel) ?_ (fun H3 r hT3 hf3 hFr3 hr3 hΨ3 => ?_)
        · show xΦrd0 (xfv []) (zyEl zymc B H2)
          rw [hE20]
          exact ⟨hΦ.1, S0, hS0⟩
        · have hΨ3 : xΨfrs0 (xfv []) (zyEl zymc B H2) (zyEl zymc B H3) r := hΨ3
          have d35_4 : xE (zyEl zymc B H3) 35 4 = xE (zyEl zymc B H2) 35 4 := xFr_E hf3 rfl
          have d36 : ∀ i, xE (zyEl zymc B H3) 36 i = xE (zyEl zymc B H2) 36 i := fun i => xFr_E hf3 rfl
          unfold xΨfrs0 at hΨ3
          rw [hE20] at hΨ3
          have hr01 : r = 0 ∨ r = 1 := xOut0_r (hΨ3 S0 hS0)
          refine ⟨⟨2, by decide⟩, [0, 0], [0, 0, r], rfl, ⟨by decide +kernel, ⟨rfl, by decide +kernel⟩, (xcs_c rfl (xcs_c rfl xcs_n)), (xe_0 (xe_0 (xe_c (by omega) (by omega) rfl xe_n))), xkq_n⟩, (by rw [if_pos rfl]; exact ⟨2, [], rfl, by decide, rfl, xst_n⟩), ?_, ?_⟩
          · show (zyEl zymc B s.heap) = (zyEl zymc B s.heap) ∧ ∀ p S, p ≤ xE (zyEl zymc B s.heap) 35 4 → xAD (xE (zyEl zymc B s.heap) 36) (xE (zyEl zymc B s.heap) 35 4) p (zyEl zymc B s.heap) → xAb0 (zyEl zymc B s.heap) S → xOut0 (pLine (xE (zyEl zymc B s.heap) 36) (xE (zyEl zymc B s.heap) 35 4) p S) (zyEl zymc B H3) (r : Int)
            refine ⟨rfl, fun p S hp ⟨a1, a2, a3, a4⟩ hS => ?_⟩
            have w := hΨ3 S hS
            rw [a1] at w
            rw [a1, a2, a3] at y0
            unfold pLine pBody tW
            rw [y0, if_pos rfl]
            exact w
          · show 1 < 50
            omega
      · skip
        have ex := List.mem_singleton.mp hx
        subst ex
        obtain ⟨hF, hBd, hM⟩ := hXs
        have g2 : v2 2 = v 2 := hag 2 (by decide)
        have b0 : ((2147483648 : Nat) : Int) ≤ (v2 2) + 2147483648 ∧ (v2 2) + 2147483648 ≤ ((2147483648 : Nat) : Int) := xXb hBd 0 rfl
        have f0 : (v2 2) = 0 := xXf hF 0 rfl
        have e35_4 : xE (zyEl zymc B H2) 35 4 = xE (zyEl zymc B H) 35 4 := xFr_E hfr rfl
        have q35_4 : xE (zyEl zymc B H) 35 4 = xE (zyEl zymc B s.heap) 35 4 := xFr_E hFr0 rfl
        have e35_5 : xE (zyEl zymc B H2) 35 5 = xE (zyEl zymc B H) 35 5 := xFr_E hfr rfl
        have e35_6 : xE (zyEl zymc B H2) 35 6 = xE (zyEl zymc B H) 35 6 := xFr_E hfr rfl
        have e35_7 : xE (zyEl zymc B H2) 35 7 = xE (zyEl zymc B H) 35 7 := xFr_E hfr rfl
        have e35_8 : xE (zyEl zymc B H2) 35 8 = xE (zyEl zymc B H) 35 8 := xFr_E hfr rfl
        have e35_2 : xE (zyEl zymc B H2) 35 2 = xE (zyEl zymc B H) 35 2 := xFr_E hfr rfl
        have e35_3 : xE (zyEl zymc B H2) 35 3 = xE (zyEl zymc B H) 35 3 := xFr_E hfr rfl
        have e36 : ∀ i, xE (zyEl zymc B H2) 36 i = xE (zyEl zymc B H) 36 i := fun i => xFr_E hfr rfl
        have q36 : ∀ i, xE (zyEl zymc B H) 36 i = xE (zyEl zymc B s.heap) 36 i := fun i => xFr_E hFr0 rfl
        have hI : (zyEl zymc B H) = (zyEl zymc B s.heap) ∧ (v 2) = if sW (xE (zyEl zymc B s.heap) 36) (xE (zyEl zymc B s.heap) 35 7) (xE (zyEl zymc B s.heap) 35 5) (xE (zyEl zymc B s.heap) 35 6) [115, 119, 105, 116, 99, 104] = true then 1 else 0 := hInv
        have q35_5 : xE (zyEl zymc B H) 35 5 = xE (zyEl zymc B s.heap) 35 5 := by rw [hI.1]
        have q35_6 : xE (zyEl zymc B H) 35 6 = xE (zyEl zymc B s.heap) 35 6 := by rw [hI.1]
        have q35_7 : xE (zyEl zymc B H) 35 7 = xE (zyEl zymc B s.heap) 35 7 := by rw [hI.1]
        have q35_8 : xE (zyEl zymc B H) 35 8 = xE (zyEl zymc B s.heap) 35 8 := by rw [hI.1]
        have q35_2 : xE (zyEl zymc B H) 35 2 = xE (zyEl zymc B s.heap) 35 2 := by rw [hI.1]
        have q35_3 : xE (zyEl zymc B H) 35 3 = xE (zyEl zymc B s.heap) 35 3 := by rw [hI.1]
        obtain ⟨hE, i3⟩ := hI
        obtain ⟨S0, hS0⟩ := hΦ.2.1
        obtain ⟨pp, hpp, hA0⟩ := hΦ.2.2
        have n0 : sW (xE (zyEl zymc B s.heap) 36) (xE (zyEl zymc B s.heap) 35 7) (xE (zyEl zymc B s.heap) 35 5) (xE (zyEl zymc B s.heap) 35 6) [115, 119, 105, 116, 99, 104] = false := by
          rw [Bool.eq_false_iff]
          intro h
          rw [if_pos h] at i3
          omega
        have hE20 := (xFr_n hfr).trans hE
        refine xCa hRu hIH hAt hB hv hFr (hfwbo B) (ix := 48) (ax := 1152) rfl rfl rfl hmefwbo ⟨_, rfl, rfl, by decide⟩ ⟨rfl, rfl, rfl⟩ (by decide) [] [] [] rfl ⟨rfl, rfl⟩ (by decide +kernel) xcs_n (by decide +kernel) ?_ (fun H3 r hT3 hf3 hFr3 hr3 hΨ3 => ?_)
        · show xΦ0 (xfv []) (zyEl zymc B H2)
          exact trivial
        · have hΨ3 : xΨfwbo (xfv []) (zyEl zymc B H2) (zyEl zymc B H3) r := hΨ3
          have d35_4 : xE (zyEl zymc B H3) 35 4 = xE (zyEl zymc B H2) 35 4 := xFr_E hf3 rfl
          have d35_5 : xE (zyEl zymc B H3) 35 5 = xE (zyEl zymc B H2) 35 5 := xFr_E hf3 rfl
          have d35_6 : xE (zyEl zymc B H3) 35 6 = xE (zyEl zymc B H2) 35 6 := xFr_E hf3 rfl
          have d35_7 : xE (zyEl zymc B H3) 35 7 = xE (zyEl zymc B H2) 35 7 := xFr_E hf3 rfl
          have d35_8 : xE (zyEl zymc B H3) 35 8 = xE (zyEl zymc B H2) 35 8 := xFr_E hf3 rfl
          have d35_2 : xE (zyEl zymc B H3) 35 2 = xE (zyEl zymc B H2) 35 2 := xFr_E hf3 rfl
          have d35_3 : xE (zyEl zymc B H3) 35 3 = xE (zyEl zymc B H2) 35 3 := xFr_E hf3 rfl
          have d36 : ∀ i, xE (zyEl zymc B H3) 36 i = xE (zyEl zymc B H2) 36 i := fun i => xFr_E hf3 rfl
          unfold xΨfwbo at hΨ3
          have hr01 : r = 0 ∨ r = 1 := by
            rw [hΨ3]
            split <;> omega
          have hEE3 : (zyEl zymc B H3) = (zyEl zymc B s.heap) := (xFr_n hf3).trans hE20
          rw [hE20] at hΨ3
          refine ⟨⟨3, by decide⟩, [0, 0], [0, 0, r], rfl, ⟨by decide +kernel, ⟨rfl, by decide +kernel⟩, (xcs_c rfl (xcs_c rfl xcs_n)), (xe_0 (xe_0 (xe_c (by omega) (by omega) rfl xe_n))), xkq_n⟩, (by rw [if_pos rfl]; exact ⟨2, [], rfl, by decide, rfl, xst_n⟩), ?_, ?_⟩
          · show (zyEl zymc B H3) = (zyEl zymc B s.heap) ∧ sW (xE (zyEl zymc B s.heap) 36) (xE (zyEl zymc B s.heap) 35 7) (xE (zyEl zymc B s.heap) 35 5) (xE (zyEl zymc B s.heap) 35 6) [115, 119, 105, 116, 99, 104] = false ∧ (r : Int) = if sW (xE (zyEl zymc B s.heap) 36) (xE (zyEl zymc B s.heap) 35 7) (xE (zyEl zymc B s.heap) 35 5) (xE (zyEl zymc B s.heap) 35 6) [98, 111, 98, 98, 105, 110] = true then 1 else 0
            exact ⟨hEE3, n0, hΨ3⟩
          · show 49 < 50
            omega
    · cases hx
    · have hx : x ∈ [zxfrl0_w1x0, zxfrl0_w1x1] := hx
      have hag : ∀ k, k < 3 → v2 k = v k := hag
      have hfr : xFr [] _ _ := hfr
      rcases List.mem_cons.mp hx with ex | hx
      · subst ex
        obtain ⟨hF, hBd, hM⟩ := hXs
        have g2 : v2 2 = v 2 := hag 2 (by decide)
        have b0 : ((2147483649 : Nat) : Int) ≤ (v2 2) + 2147483648 ∧ (v2 2) + 2147483648 ≤ ((2147483649 : Nat) : Int) := xXb hBd 0 rfl
        have f0 : ¬ (v2 2) = 0 := xXf hF 0 rfl
        have e35_4 : xE (zyEl zymc B H2) 35 4 = xE (zyEl zymc B H) 35 4 := xFr_E hfr rfl
        have q35_4 : xE (zyEl zymc B H) 35 4 = xE (zyEl zymc B s.heap) 35 4 := xFr_E hFr0 rfl
        have e35_5 : xE (zyEl zymc B H2) 35 5 = xE (zyEl zymc B H) 35 5 := xFr_E hfr rfl
        have e35_6 : xE (zyEl zymc B H2) 35 6 = xE (zyEl zymc B H) 35 6 := xFr_E hfr rfl
        have e35_7 : xE (zyEl zymc B H2) 35 7 = xE (zyEl zymc B H) 35 7 := xFr_E hfr rfl
        have e35_8 : xE (zyEl zymc B H2) 35 8 = xE (zyEl zymc B H) 35 8 := xFr_E hfr rfl
        have e35_2 : xE (zyEl zymc B H2) 35 2 = xE (zyEl zymc B H) 35 2 := xFr_E hfr rfl
        have e35_3 : xE (zyEl zymc B H2) 35 3 = xE (zyEl zymc B H) 35 3 := xFr_E hfr rfl
        have e36 : ∀ i, xE (zyEl zymc B H2) 36 i = xE (zyEl zymc B H) 36 i := fun i => xFr_E hfr rfl
        have q36 : ∀ i, xE (zyEl zymc B H) 36 i = xE (zyEl zymc B s.heap) 36 i := fun i => xFr_E hFr0 rfl
        have hI : (zyEl zymc B H) = (zyEl zymc B s.heap) ∧ sW (xE (zyEl zymc B s.heap) 36) (xE (zyEl zymc B s.heap) 35 7) (xE (zyEl zymc B s.heap) 35 5) (xE (zyEl zymc B s.heap) 35 6) [115, 119, 105, 116, 99, 104] = false ∧ (v 2) = if sW (xE (zyEl zymc B s.heap) 36) (xE (zyEl zymc B s.heap) 35 7) (xE (zyEl zymc B s.heap) 35 5) (xE (zyEl zymc B s.heap) 35 6) [98, 111, 98, 98, 105, 110] = true then 1 else 0 := hInv
        have q35_5 : xE (zyEl zymc B H) 35 5 = xE (zyEl zymc B s.heap) 35 5 := by rw [hI.1]
        have q35_6 : xE (zyEl zymc B H) 35 6 = xE (zyEl zymc B s.heap) 35 6 := by rw [hI.1]
        have q35_7 : xE (zyEl zymc B H) 35 7 = xE (zyEl zymc B s.heap) 35 7 := by rw [hI.1]
        have q35_8 : xE (zyEl zymc B H) 35 8 = xE (zyEl zymc B s.heap) 35 8 := by rw [hI.1]
        have q35_2 : xE (zyEl zymc B H) 35 2 = xE (zyEl zymc B s.heap) 35 2 := by rw [hI.1]
        have q35_3 : xE (zyEl zymc B H) 35 3 = xE (zyEl zymc B s.heap) 35 3 := by rw [hI.1]
        obtain ⟨hE, n0, i3⟩ := hI
        obtain ⟨S0, hS0⟩ := hΦ.2.1
        obtain ⟨pp, hpp, hA0⟩ := hΦ.2.2
        have y1 : sW (xE (zyEl zymc B s.heap) 36) (xE (zyEl zymc B s.heap) 35 7) (xE (zyEl zymc B s.heap) 35 5) (xE (zyEl zymc B s.heap) 35 6) [98, 111, 98, 98, 105, 110] = true := by
          by_cases h : sW (xE (zyEl zymc B s.heap) 36) (xE (zyEl zymc B s.heap) 35 7) (xE (zyEl zymc B s.heap) 35 5) (xE (zyEl zymc B s.heap) 35 6) [98, 111, 98, 98, 105, 110] = true
          · exact h
          · rw [if_neg h] at i3
            omega
        have hE20 := (xFr_n hfr).trans hE
        refine xCa hRu hIH hAt hB hv hFr (hfrb0 B) (ix := 84) (ax := 1008) rfl rfl rfl hmefrb0 ⟨_, rfl, rfl, by decide⟩ ⟨rfl, rfl, rfl⟩ (by decide) [] [] [] rfl ⟨rfl, rfl⟩ (by decide +kernel) xcs_n (by decide +kernel) ?_ (fun H3 r hT3 hf3 hFr3 hr3 hΨ3 => ?_)
        · show xΦrd0 (xfv []) (zyEl zymc B H2)
          rw [hE20]
          exact ⟨hΦ.1, S0, hS0⟩
        · have hΨ3 : xΨfrb0 (xfv []) (zyEl zymc B H2) (zyEl zymc B H3) r := hΨ3
          have d35_4 : xE (zyEl zymc B H3) 35 4 = xE (zyEl zymc B H2) 35 4 := xFr_E hf3 rfl
          have d36 : ∀ i, xE (zyEl zymc B H3) 36 i = xE (zyEl zymc B H2) 36 i := fun i => xFr_E hf3 rfl
          unfold xΨfrb0 at hΨ3
          rw [hE20] at hΨ3
          have hr01 : r = 0 ∨ r = 1 := xOut0_r (hΨ3 S0 pp hS0 hA0.2.1.symm)
          refine ⟨⟨4, by decide⟩, [0, 0], [0, 0, r], rfl, ⟨by decide +kernel, ⟨rfl, by decide +kernel⟩, (xcs_c rfl (xcs_c rfl xcs_n)), (xe_0 (xe_0 (xe_c (by omega) (by omega) rfl xe_n))), xkq_n⟩, (by rw [if_pos rfl]; exact ⟨2, [], rfl, by decide, rfl, xst_n⟩), ?_, ?_⟩
          · show (zyEl zymc B s.heap) = (zyEl zymc B s.heap) ∧ ∀ p S, p ≤ xE (zyEl zymc B s.heap) 35 4 → xAD (xE (zyEl zymc B s.heap) 36) (xE (zyEl zymc B s.heap) 35 4) p (zyEl zymc B s.heap) → xAb0 (zyEl zymc B s.heap) S → xOut0 (pLine (xE (zyEl zymc B s.heap) 36) (xE (zyEl zymc B s.heap) 35 4) p S) (zyEl zymc B H3) (r : Int)
            refine ⟨rfl, fun p S hp ⟨a1, a2, a3, a4⟩ hS => ?_⟩
            have w := hΨ3 S p hS a2.symm
            rw [a1] at w
            rw [a1, a2, a3] at n0 y1
            unfold pLine pBody tW
            rw [n0, if_neg (by decide), y1, if_pos rfl]
            exact w
          · show 1 < 49
            omega
      · skip
        have ex := List.mem_singleton.mp hx
        subst ex
        obtain ⟨hF, hBd, hM⟩ := hXs
        have g2 : v2 2 = v 2 := hag 2 (by decide)
        have b0 : ((2147483648 : Nat) : Int) ≤ (v2 2) + 2147483648 ∧ (v2 2) + 2147483648 ≤ ((2147483648 : Nat) : Int) := xXb hBd 0 rfl
        have f0 : (v2 2) = 0 := xXf hF 0 rfl
        have e35_4 : xE (zyEl zymc B H2) 35 4 = xE (zyEl zymc B H) 35 4 := xFr_E hfr rfl
        have q35_4 : xE (zyEl zymc B H) 35 4 = xE (zyEl zymc B s.heap) 35 4 := xFr_E hFr0 rfl
        have e35_5 : xE (zyEl zymc B H2) 35 5 = xE (zyEl zymc B H) 35 5 := xFr_E hfr rfl
        have e35_6 : xE (zyEl zymc B H2) 35 6 = xE (zyEl zymc B H) 35 6 := xFr_E hfr rfl
        have e35_7 : xE (zyEl zymc B H2) 35 7 = xE (zyEl zymc B H) 35 7 := xFr_E hfr rfl
        have e35_8 : xE (zyEl zymc B H2) 35 8 = xE (zyEl zymc B H) 35 8 := xFr_E hfr rfl
        have e35_2 : xE (zyEl zymc B H2) 35 2 = xE (zyEl zymc B H) 35 2 := xFr_E hfr rfl
        have e35_3 : xE (zyEl zymc B H2) 35 3 = xE (zyEl zymc B H) 35 3 := xFr_E hfr rfl
        have e36 : ∀ i, xE (zyEl zymc B H2) 36 i = xE (zyEl zymc B H) 36 i := fun i => xFr_E hfr rfl
        have q36 : ∀ i, xE (zyEl zymc B H) 36 i = xE (zyEl zymc B s.heap) 36 i := fun i => xFr_E hFr0 rfl
        have hI : (zyEl zymc B H) = (zyEl zymc B s.heap) ∧ sW (xE (zyEl zymc B s.heap) 36) (xE (zyEl zymc B s.heap) 35 7) (xE (zyEl zymc B s.heap) 35 5) (xE (zyEl zymc B s.heap) 35 6) [115, 119, 105, 116, 99, 104] = false ∧ (v 2) = if sW (xE (zyEl zymc B s.heap) 36) (xE (zyEl zymc B s.heap) 35 7) (xE (zyEl zymc B s.heap) 35 5) (xE (zyEl zymc B s.heap) 35 6) [98, 111, 98, 98, 105, 110] = true then 1 else 0 := hInv
        have q35_5 : xE (zyEl zymc B H) 35 5 = xE (zyEl zymc B s.heap) 35 5 := by rw [hI.1]
        have q35_6 : xE (zyEl zymc B H) 35 6 = xE (zyEl zymc B s.heap) 35 6 := by rw [hI.1]
        have q35_7 : xE (zyEl zymc B H) 35 7 = xE (zyEl zymc B s.heap) 35 7 := by rw [hI.1]
        have q35_8 : xE (zyEl zymc B H) 35 8 = xE (zyEl zymc B s.heap) 35 8 := by rw [hI.1]
        have q35_2 : xE (zyEl zymc B H) 35 2 = xE (zyEl zymc B s.heap) 35 2 := by rw [hI.1]
        have q35_3 : xE (zyEl zymc B H) 35 3 = xE (zyEl zymc B s.heap) 35 3 := by rw [hI.1]
        obtain ⟨hE, n0, i3⟩ := hI
        obtain ⟨S0, hS0⟩ := hΦ.2.1
        obtain ⟨pp, hpp, hA0⟩ := hΦ.2.2
        have n1 : sW (xE (zyEl zymc B s.heap) 36) (xE (zyEl zymc B s.heap) 35 7) (xE (zyEl zymc B s.heap) 35 5) (xE (zyEl zymc B s.heap) 35 6) [98, 111, 98, 98, 105, 110] = false := by
          rw [Bool.eq_false_iff]
          intro h
          rw [if_pos h] at i3
          omega
        have hE20 := (xFr_n hfr).trans hE
        refine xCa hRu hIH hAt hB hv hFr (hfwst B) (ix := 48) (ax := 1152) rfl rfl rfl hmefwst ⟨_, rfl, rfl, by decide⟩ ⟨rfl, rfl, rfl⟩ (by decide) [] [] [] rfl ⟨rfl, rfl⟩ (by decide +kernel) xcs_n (by decide +kernel) ?_ (fun H3 r hT3 hf3 hFr3 hr3 hΨ3 => ?_)
        · show xΦ0 (xfv []) (zyEl zymc B H2)
          exact trivial
        · have hΨ3 : xΨfwst (xfv []) (zyEl zymc B H2) (zyEl zymc B H3) r := hΨ3
          have d35_4 : xE (zyEl zymc B H3) 35 4 = xE (zyEl zymc B H2) 35 4 := xFr_E hf3 rfl
          have d35_5 : xE (zyEl zymc B H3) 35 5 = xE (zyEl zymc B H2) 35 5 := xFr_E hf3 rfl
          have d35_6 : xE (zyEl zymc B H3) 35 6 = xE (zyEl zymc B H2) 35 6 := xFr_E hf3 rfl
          have d35_7 : xE (zyEl zymc B H3) 35 7 = xE (zyEl zymc B H2) 35 7 := xFr_E hf3 rfl
          have d35_8 : xE (zyEl zymc B H3) 35 8 = xE (zyEl zymc B H2) 35 8 := xFr_E hf3 rfl
          have d35_2 : xE (zyEl zymc B H3) 35 2 = xE (zyEl zymc B H2) 35 2 := xFr_E hf3 rfl
          have d35_3 : xE (zyEl zymc B H3) 35 3 = xE (zyEl zymc B H2) 35 3 := xFr_E hf3 rfl
          have d36 : ∀ i, xE (zyEl zymc B H3) 36 i = xE (zyEl zymc B H2) 36 i := fun i => xFr_E hf3 rfl
          unfold xΨfwst at hΨ3
          have hr01 : r = 0 ∨ r = 1 := by
            rw [hΨ3]
            split <;> omega
          have hEE3 : (zyEl zymc B H3) = (zyEl zymc B s.heap) := (xFr_n hf3).trans hE20
          rw [hE20] at hΨ3
          refine ⟨⟨5, by decide⟩, [0, 0], [0, 0, r], rfl, ⟨by decide +kernel, ⟨rfl, by decide +kernel⟩, (xcs_c rfl (xcs_c rfl xcs_n)), (xe_0 (xe_0 (xe_c (by omega) (by omega) rfl xe_n))), xkq_n⟩, (by rw [if_pos rfl]; exact ⟨2, [], rfl, by decide, rfl, xst_n⟩), ?_, ?_⟩
          · show (zyEl zymc B H3) = (zyEl zymc B s.heap) ∧ sW (xE (zyEl zymc B s.heap) 36) (xE (zyEl zymc B s.heap) 35 7) (xE (zyEl zymc B s.heap) 35 5) (xE (zyEl zymc B s.heap) 35 6) [115, 119, 105, 116, 99, 104] = false ∧ sW (xE (zyEl zymc B s.heap) 36) (xE (zyEl zymc B s.heap) 35 7) (xE (zyEl zymc B s.heap) 35 5) (xE (zyEl zymc B s.heap) 35 6) [98, 111, 98, 98, 105, 110] = false ∧ (r : Int) = if sW (xE (zyEl zymc B s.heap) 36) (xE (zyEl zymc B s.heap) 35 7) (xE (zyEl zymc B s.heap) 35 5) (xE (zyEl zymc B s.heap) 35 6) [115, 116, 117, 99, 107] = true then 1 else 0
            exact ⟨hEE3, n0, n1, hΨ3⟩
          · show 48 < 49
            omega
    · cases hx
    · have hx : x ∈ [zxfrl0_w2x0, zxfrl0_w2x1] := hx
      have hag : ∀ k, k < 3 → v2 k = v k := hag
      have hfr : xFr [] _ _ := hfr
      rcases List.mem_cons.mp hx with ex | hx
      · subst ex
        obtain ⟨hF, hBd, hM⟩ := hXs
        have g2 : v2 2 = v 2 := hag 2 (by decide)
        have b0 : ((2147483649 : Nat) : Int) ≤ (v2 2) + 2147483648 ∧ (v2 2) + 2147483648 ≤ ((2147483649 : Nat) : Int) := xXb hBd 0 rfl
        have f0 : ¬ (v2 2) = 0 := xXf hF 0 rfl
        have e35_4 : xE (zyEl zymc B H2) 35 4 = xE (zyEl zymc B H) 35 4 := xFr_E hfr rfl
        have q35_4 : xE (zyEl zymc B H) 35 4 = xE (zyEl zymc B s.heap) 35 4 := xFr_E hFr0 rfl
        have e35_5 : xE (zyEl zymc B H2) 35 5 = xE (zyEl zymc B H) 35 5 := xFr_E hfr rfl
        have e35_6 : xE (zyEl zymc B H2) 35 6 = xE (zyEl zymc B H) 35 6 := xFr_E hfr rfl
        have e35_7 : xE (zyEl zymc B H2) 35 7 = xE (zyEl zymc B H) 35 7 := xFr_E hfr rfl
        have e35_8 : xE (zyEl zymc B H2) 35 8 = xE (zyEl zymc B H) 35 8 := xFr_E hfr rfl
        have e35_2 : xE (zyEl zymc B H2) 35 2 = xE (zyEl zymc B H) 35 2 := xFr_E hfr rfl
        have e35_3 : xE (zyEl zymc B H2) 35 3 = xE (zyEl zymc B H) 35 3 := xFr_E hfr rfl
        have e36 : ∀ i, xE (zyEl zymc B H2) 36 i = xE (zyEl zymc B H) 36 i := fun i => xFr_E hfr rfl
        have q36 : ∀ i, xE (zyEl zymc B H) 36 i = xE (zyEl zymc B s.heap) 36 i := fun i => xFr_E hFr0 rfl
        have hI : (zyEl zymc B H) = (zyEl zymc B s.heap) ∧ sW (xE (zyEl zymc B s.heap) 36) (xE (zyEl zymc B s.heap) 35 7) (xE (zyEl zymc B s.heap) 35 5) (xE (zyEl zymc B s.heap) 35 6) [115, 119, 105, 116, 99, 104] = false ∧ sW (xE (zyEl zymc B s.heap) 36) (xE (zyEl zymc B s.heap) 35 7) (xE (zyEl zymc B s.heap) 35 5) (xE (zyEl zymc B s.heap) 35 6) [98, 111, 98, 98, 105, 110] = false ∧ (v 2) = if sW (xE (zyEl zymc B s.heap) 36) (xE (zyEl zymc B s.heap) 35 7) (xE (zyEl zymc B s.heap) 35 5) (xE (zyEl zymc B s.heap) 35 6) [115, 116, 117, 99, 107] = true then 1 else 0 := hInv
        have q35_5 : xE (zyEl zymc B H) 35 5 = xE (zyEl zymc B s.heap) 35 5 := by rw [hI.1]
        have q35_6 : xE (zyEl zymc B H) 35 6 = xE (zyEl zymc B s.heap) 35 6 := by rw [hI.1]
        have q35_7 : xE (zyEl zymc B H) 35 7 = xE (zyEl zymc B s.heap) 35 7 := by rw [hI.1]
        have q35_8 : xE (zyEl zymc B H) 35 8 = xE (zyEl zymc B s.heap) 35 8 := by rw [hI.1]
        have q35_2 : xE (zyEl zymc B H) 35 2 = xE (zyEl zymc B s.heap) 35 2 := by rw [hI.1]
        have q35_3 : xE (zyEl zymc B H) 35 3 = xE (zyEl zymc B s.heap) 35 3 := by rw [hI.1]
        obtain ⟨hE, n0, n1, i3⟩ := hI
        obtain ⟨S0, hS0⟩ := hΦ.2.1
        obtain ⟨pp, hpp, hA0⟩ := hΦ.2.2
        have y2 : sW (xE (zyEl zymc B s.heap) 36) (xE (zyEl zymc B s.heap) 35 7) (xE (zyEl zymc B s.heap) 35 5) (xE (zyEl zymc B s.heap) 35 6) [115, 116, 117, 99, 107] = true := by
          by_cases h : sW (xE (zyEl zymc B s.heap) 36) (xE (zyEl zymc B s.heap) 35 7) (xE (zyEl zymc B s.heap) 35 5) (xE (zyEl zymc B s.heap) 35 6) [115, 116, 117, 99, 107] = true
          · exact h
          · rw [if_neg h] at i3
            omega
        have hE20 := (xFr_n hfr).trans hE
        refine xCa hRu hIH hAt hB hv hFr (hfrk0 B) (ix := 89) (ax := 1024) rfl rfl rfl hmefrk0 ⟨_, rfl, rfl, by decide⟩ ⟨rfl, rfl, rfl⟩ (by decide) [] [] [] rfl ⟨rfl, rfl⟩ (by decide +kernel) xcs_n (by decide +kernel) ?_ (fun H3 r hT3 hf3 hFr3 hr3 hΨ3 => ?_)
        · show xΦrd0 (xfv []) (zyEl zymc B H2)
          rw [hE20]
          exact ⟨hΦ.1, S0, hS0⟩
        · have hΨ3 : xΨfrk0 (xfv []) (zyEl zymc B H2) (zyEl zymc B H3) r := hΨ3
          have d35_4 : xE (zyEl zymc B H3) 35 4 = xE (zyEl zymc B H2) 35 4 := xFr_E hf3 rfl
          have d36 : ∀ i, xE (zyEl zymc B H3) 36 i = xE (zyEl zymc B H2) 36 i := fun i => xFr_E hf3 rfl
          unfold xΨfrk0 at hΨ3
          rw [hE20] at hΨ3
          have hr01 : r = 0 ∨ r = 1 := xOut0_r (hΨ3 S0 hS0)
          refine ⟨⟨6, by decide⟩, [0, 0], [0, 0, r], rfl, ⟨by decide +kernel, ⟨rfl, by decide +kernel⟩, (xcs_c rfl (xcs_c rfl xcs_n)), (xe_0 (xe_0 (xe_c (by omega) (by omega) rfl xe_n))), xkq_n⟩, (by rw [if_pos rfl]; exact ⟨2, [], rfl, by decide, rfl, xst_n⟩), ?_, ?_⟩
          · show (zyEl zymc B s.heap) = (zyEl zymc B s.heap) ∧ ∀ p S, p ≤ xE (zyEl zymc B s.heap) 35 4 → xAD (xE (zyEl zymc B s.heap) 36) (xE (zyEl zymc B s.heap) 35 4) p (zyEl zymc B s.heap) → xAb0 (zyEl zymc B s.heap) S → xOut0 (pLine (xE (zyEl zymc B s.heap) 36) (xE (zyEl zymc B s.heap) 35 4) p S) (zyEl zymc B H3) (r : Int)
            refine ⟨rfl, fun p S hp ⟨a1, a2, a3, a4⟩ hS => ?_⟩
            have w := hΨ3 S hS
            rw [a1] at w
            rw [a1, a2, a3] at n0 n1 y2
            unfold pLine pBody tW
            rw [n0, if_neg (by decide), n1, if_neg (by decide), y2, if_pos rfl]
            exact w
          · show 1 < 48
            omega
      · skip
        have ex := List.mem_singleton.mp hx
        subst ex
        obtain ⟨hF, hBd, hM⟩ := hXs
        have g2 : v2 2 = v 2 := hag 2 (by decide)
        have b0 : ((2147483648 : Nat) : Int) ≤ (v2 2) + 2147483648 ∧ (v2 2) + 2147483648 ≤ ((2147483648 : Nat) : Int) := xXb hBd 0 rfl
        have f0 : (v2 2) = 0 := xXf hF 0 rfl
        have e35_4 : xE (zyEl zymc B H2) 35 4 = xE (zyEl zymc B H) 35 4 := xFr_E hfr rfl
        have q35_4 : xE (zyEl zymc B H) 35 4 = xE (zyEl zymc B s.heap) 35 4 := xFr_E hFr0 rfl
        have e35_5 : xE (zyEl zymc B H2) 35 5 = xE (zyEl zymc B H) 35 5 := xFr_E hfr rfl
        have e35_6 : xE (zyEl zymc B H2) 35 6 = xE (zyEl zymc B H) 35 6 := xFr_E hfr rfl
        have e35_7 : xE (zyEl zymc B H2) 35 7 = xE (zyEl zymc B H) 35 7 := xFr_E hfr rfl
        have e35_8 : xE (zyEl zymc B H2) 35 8 = xE (zyEl zymc B H) 35 8 := xFr_E hfr rfl
        have e35_2 : xE (zyEl zymc B H2) 35 2 = xE (zyEl zymc B H) 35 2 := xFr_E hfr rfl
        have e35_3 : xE (zyEl zymc B H2) 35 3 = xE (zyEl zymc B H) 35 3 := xFr_E hfr rfl
        have e36 : ∀ i, xE (zyEl zymc B H2) 36 i = xE (zyEl zymc B H) 36 i := fun i => xFr_E hfr rfl
        have q36 : ∀ i, xE (zyEl zymc B H) 36 i = xE (zyEl zymc B s.heap) 36 i := fun i => xFr_E hFr0 rfl
        have hI : (zyEl zymc B H) = (zyEl zymc B s.heap) ∧ sW (xE (zyEl zymc B s.heap) 36) (xE (zyEl zymc B s.heap) 35 7) (xE (zyEl zymc B s.heap) 35 5) (xE (zyEl zymc B s.heap) 35 6) [115, 119, 105, 116, 99, 104] = false ∧ sW (xE (zyEl zymc B s.heap) 36) (xE (zyEl zymc B s.heap) 35 7) (xE (zyEl zymc B s.heap) 35 5) (xE (zyEl zymc B s.heap) 35 6) [98, 111, 98, 98, 105, 110] = false ∧ (v 2) = if sW (xE (zyEl zymc B s.heap) 36) (xE (zyEl zymc B s.heap) 35 7) (xE (zyEl zymc B s.heap) 35 5) (xE (zyEl zymc B s.heap) 35 6) [115, 116, 117, 99, 107] = true then 1 else 0 := hInv
        have q35_5 : xE (zyEl zymc B H) 35 5 = xE (zyEl zymc B s.heap) 35 5 := by rw [hI.1]
        have q35_6 : xE (zyEl zymc B H) 35 6 = xE (zyEl zymc B s.heap) 35 6 := by rw [hI.1]
        have q35_7 : xE (zyEl zymc B H) 35 7 = xE (zyEl zymc B s.heap) 35 7 := by rw [hI.1]
        have q35_8 : xE (zyEl zymc B H) 35 8 = xE (zyEl zymc B s.heap) 35 8 := by rw [hI.1]
        have q35_2 : xE (zyEl zymc B H) 35 2 = xE (zyEl zymc B s.heap) 35 2 := by rw [hI.1]
        have q35_3 : xE (zyEl zymc B H) 35 3 = xE (zyEl zymc B s.heap) 35 3 := by rw [hI.1]
        obtain ⟨hE, n0, n1, i3⟩ := hI
        obtain ⟨S0, hS0⟩ := hΦ.2.1
        obtain ⟨pp, hpp, hA0⟩ := hΦ.2.2
        have n2 : sW (xE (zyEl zymc B s.heap) 36) (xE (zyEl zymc B s.heap) 35 7) (xE (zyEl zymc B s.heap) 35 5) (xE (zyEl zymc B s.heap) 35 6) [115, 116, 117, 99, 107] = false := by
          rw [Bool.eq_false_iff]
          intro h
          rw [if_pos h] at i3
          omega
        have hE20 := (xFr_n hfr).trans hE
        refine xCa hRu hIH hAt hB hv hFr (hfwfr B) (ix := 48) (ax := 1152) rfl rfl rfl hmefwfr ⟨_, rfl, rfl, by decide⟩ ⟨rfl, rfl, rfl⟩ (by decide) [] [] [] rfl ⟨rfl, rfl⟩ (by decide +kernel) xcs_n (by decide +kernel) ?_ (fun H3 r hT3 hf3 hFr3 hr3 hΨ3 => ?_)
        · show xΦ0 (xfv []) (zyEl zymc B H2)
          exact trivial
        · have hΨ3 : xΨfwfr (xfv []) (zyEl zymc B H2) (zyEl zymc B H3) r := hΨ3
          have d35_4 : xE (zyEl zymc B H3) 35 4 = xE (zyEl zymc B H2) 35 4 := xFr_E hf3 rfl
          have d35_5 : xE (zyEl zymc B H3) 35 5 = xE (zyEl zymc B H2) 35 5 := xFr_E hf3 rfl
          have d35_6 : xE (zyEl zymc B H3) 35 6 = xE (zyEl zymc B H2) 35 6 := xFr_E hf3 rfl
          have d35_7 : xE (zyEl zymc B H3) 35 7 = xE (zyEl zymc B H2) 35 7 := xFr_E hf3 rfl
          have d35_8 : xE (zyEl zymc B H3) 35 8 = xE (zyEl zymc B H2) 35 8 := xFr_E hf3 rfl
          have d35_2 : xE (zyEl zymc B H3) 35 2 = xE (zyEl zymc B H2) 35 2 := xFr_E hf3 rfl
          have d35_3 : xE (zyEl zymc B H3) 35 3 = xE (zyEl zymc B H2) 35 3 := xFr_E hf3 rfl
          have d36 : ∀ i, xE (zyEl zymc B H3) 36 i = xE (zyEl zymc B H2) 36 i := fun i => xFr_E hf3 rfl
          unfold xΨfwfr at hΨ3
          have hr01 : r = 0 ∨ r = 1 := by
            rw [hΨ3]
            split <;> omega
          have hEE3 : (zyEl zymc B H3) = (zyEl zymc B s.heap) := (xFr_n hf3).trans hE20
          rw [hE20] at hΨ3
          refine ⟨⟨7, by decide⟩, [0, 0], [0, 0, r], rfl, ⟨by decide +kernel, ⟨rfl, by decide +kernel⟩, (xcs_c rfl (xcs_c rfl xcs_n)), (xe_0 (xe_0 (xe_c (by omega) (by omega) rfl xe_n))), xkq_n⟩, (by rw [if_pos rfl]; exact ⟨2, [], rfl, by decide, rfl, xst_n⟩), ?_, ?_⟩
          · show (zyEl zymc B H3) = (zyEl zymc B s.heap) ∧ sW (xE (zyEl zymc B s.heap) 36) (xE (zyEl zymc B s.heap) 35 7) (xE (zyEl zymc B s.heap) 35 5) (xE (zyEl zymc B s.heap) 35 6) [115, 119, 105, 116, 99, 104] = false ∧ sW (xE (zyEl zymc B s.heap) 36) (xE (zyEl zymc B s.heap) 35 7) (xE (zyEl zymc B s.heap) 35 5) (xE (zyEl zymc B s.heap) 35 6) [98, 111, 98, 98, 105, 110] = false ∧ sW (xE (zyEl zymc B s.heap) 36) (xE (zyEl zymc B s.heap) 35 7) (xE (zyEl zymc B s.heap) 35 5) (xE (zyEl zymc B s.heap) 35 6) [115, 116, 117, 99, 107] = false ∧ (r : Int) = if sW (xE (zyEl zymc B s.heap) 36) (xE (zyEl zymc B s.heap) 35 7) (xE (zyEl zymc B s.heap) 35 5) (xE (zyEl zymc B s.heap) 35 6) [102, 114, 101, 101] = true then 1 else 0
            exact ⟨hEE3, n0, n1, n2, hΨ3⟩
          · show 47 < 48
            omega
    · cases hx
    · have hx : x ∈ [zxfrl0_w3x0, zxfrl0_w3x1] := hx
      have hag : ∀ k, k < 3 → v2 k = v k := hag
      have hfr : xFr [] _ _ := hfr
      rcases List.mem_cons.mp hx with ex | hx
      · subst ex
        obtain ⟨hF, hBd, hM⟩ := hXs
        have g2 : v2 2 = v 2 := hag 2 (by decide)
        have b0 : ((2147483649 : Nat) : Int) ≤ (v2 2) + 2147483648 ∧ (v2 2) + 2147483648 ≤ ((2147483649 : Nat) : Int) := xXb hBd 0 rfl
        have f0 : ¬ (v2 2) = 0 := xXf hF 0 rfl
        have e35_4 : xE (zyEl zymc B H2) 35 4 = xE (zyEl zymc B H) 35 4 := xFr_E hfr rfl
        have q35_4 : xE (zyEl zymc B H) 35 4 = xE (zyEl zymc B s.heap) 35 4 := xFr_E hFr0 rfl
        have e35_5 : xE (zyEl zymc B H2) 35 5 = xE (zyEl zymc B H) 35 5 := xFr_E hfr rfl
        have e35_6 : xE (zyEl zymc B H2) 35 6 = xE (zyEl zymc B H) 35 6 := xFr_E hfr rfl
        have e35_7 : xE (zyEl zymc B H2) 35 7 = xE (zyEl zymc B H) 35 7 := xFr_E hfr rfl
        have e35_8 : xE (zyEl zymc B H2) 35 8 = xE (zyEl zymc B H) 35 8 := xFr_E hfr rfl
        have e35_2 : xE (zyEl zymc B H2) 35 2 = xE (zyEl zymc B H) 35 2 := xFr_E hfr rfl
        have e35_3 : xE (zyEl zymc B H2) 35 3 = xE (zyEl zymc B H) 35 3 := xFr_E hfr rfl
        have e36 : ∀ i, xE (zyEl zymc B H2) 36 i = xE (zyEl zymc B H) 36 i := fun i => xFr_E hfr rfl
        have q36 : ∀ i, xE (zyEl zymc B H) 36 i = xE (zyEl zymc B s.heap) 36 i := fun i => xFr_E hFr0 rfl
        have hI : (zyEl zymc B H) = (zyEl zymc B s.heap) ∧ sW (xE (zyEl zymc B s.heap) 36) (xE (zyEl zymc B s.heap) 35 7) (xE (zyEl zymc B s.heap) 35 5) (xE (zyEl zymc B s.heap) 35 6) [115, 119, 105, 116, 99, 104] = false ∧ sW (xE (zyEl zymc B s.heap) 36) (xE (zyEl zymc B s.heap) 35 7) (xE (zyEl zymc B s.heap) 35 5) (xE (zyEl zymc B s.heap) 35 6) [98, 111, 98, 98, 105, 110] = false ∧ sW (xE (zyEl zymc B s.heap) 36) (xE (zyEl zymc B s.heap) 35 7) (xE (zyEl zymc B s.heap) 35 5) (xE (zyEl zymc B s.heap) 35 6) [115, 116, 117, 99, 107] = false ∧ (v 2) = if sW (xE (zyEl zymc B s.heap) 36) (xE (zyEl zymc B s.heap) 35 7) (xE (zyEl zymc B s.heap) 35 5) (xE (zyEl zymc B s.heap) 35 6) [102, 114, 101, 101] = true then 1 else 0 := hInv
        have q35_5 : xE (zyEl zymc B H) 35 5 = xE (zyEl zymc B s.heap) 35 5 := by rw [hI.1]
        have q35_6 : xE (zyEl zymc B H) 35 6 = xE (zyEl zymc B s.heap) 35 6 := by rw [hI.1]
        have q35_7 : xE (zyEl zymc B H) 35 7 = xE (zyEl zymc B s.heap) 35 7 := by rw [hI.1]
        have q35_8 : xE (zyEl zymc B H) 35 8 = xE (zyEl zymc B s.heap) 35 8 := by rw [hI.1]
        have q35_2 : xE (zyEl zymc B H) 35 2 = xE (zyEl zymc B s.heap) 35 2 := by rw [hI.1]
        have q35_3 : xE (zyEl zymc B H) 35 3 = xE (zyEl zymc B s.heap) 35 3 := by rw [hI.1]
        obtain ⟨hE, n0, n1, n2, i3⟩ := hI
        obtain ⟨S0, hS0⟩ := hΦ.2.1
        obtain ⟨pp, hpp, hA0⟩ := hΦ.2.2
        have y3 : sW (xE (zyEl zymc B s.heap) 36) (xE (zyEl zymc B s.heap) 35 7) (xE (zyEl zymc B s.heap) 35 5) (xE (zyEl zymc B s.heap) 35 6) [102, 114, 101, 101] = true := by
          by_cases h : sW (xE (zyEl zymc B s.heap) 36) (xE (zyEl zymc B s.heap) 35 7) (xE (zyEl zymc B s.heap) 35 5) (xE (zyEl zymc B s.heap) 35 6) [102, 114, 101, 101] = true
          · exact h
          · rw [if_neg h] at i3
            omega
        have hE20 := (xFr_n hfr).trans hE
        refine xCa hRu hIH hAt hB hv hFr (hfrf0 B) (ix := 94) (ax := 1040) rfl rfl rfl hmefrf0 ⟨_, rfl, rfl, by decide⟩ ⟨rfl, rfl, rfl⟩ (by decide) [] [] [] rfl ⟨rfl, rfl⟩ (by decide +kernel) xcs_n (by decide +kernel) ?_ (fun H3 r hT3 hf3 hFr3 hr3 hΨ3 => ?_)
        · show xΦrd0 (xfv []) (zyEl zymc B H2)
          rw [hE20]
          exact ⟨hΦ.1, S0, hS0⟩
        · have hΨ3 : xΨfrf0 (xfv []) (zyEl zymc B H2) (zyEl zymc B H3) r := hΨ3
          have d35_4 : xE (zyEl zymc B H3) 35 4 = xE (zyEl zymc B H2) 35 4 := xFr_E hf3 rfl
          have d36 : ∀ i, xE (zyEl zymc B H3) 36 i = xE (zyEl zymc B H2) 36 i := fun i => xFr_E hf3 rfl
          unfold xΨfrf0 at hΨ3
          rw [hE20] at hΨ3
          have hr01 : r = 0 ∨ r = 1 := xOut0_r (hΨ3 S0 pp hS0 hA0.2.1.symm)
          refine ⟨⟨8, by decide⟩, [0, 0], [0, 0, r], rfl, ⟨by decide +kernel, ⟨rfl, by decide +kernel⟩, (xcs_c rfl (xcs_c rfl xcs_n)), (xe_0 (xe_0 (xe_c (by omega) (by omega) rfl xe_n))), xkq_n⟩, (by rw [if_pos rfl]; exact ⟨2, [], rfl, by decide, rfl, xst_n⟩), ?_, ?_⟩
          · show (zyEl zymc B s.heap) = (zyEl zymc B s.heap) ∧ ∀ p S, p ≤ xE (zyEl zymc B s.heap) 35 4 → xAD (xE (zyEl zymc B s.heap) 36) (xE (zyEl zymc B s.heap) 35 4) p (zyEl zymc B s.heap) → xAb0 (zyEl zymc B s.heap) S → xOut0 (pLine (xE (zyEl zymc B s.heap) 36) (xE (zyEl zymc B s.heap) 35 4) p S) (zyEl zymc B H3) (r : Int)
            refine ⟨rfl, fun p S hp ⟨a1, a2, a3, a4⟩ hS => ?_⟩
            have w := hΨ3 S p hS a2.symm
            rw [a1] at w
            rw [a1, a2, a3] at n0 n1 n2 y3
            unfold pLine pBody tW
            rw [n0, if_neg (by decide), n1, if_neg (by decide), n2, if_neg (by decide), y3, if_pos rfl]
            exact w
          · show 1 < 47
            omega
      · skip
        have ex := List.mem_singleton.mp hx
        subst ex
        obtain ⟨hF, hBd, hM⟩ := hXs
        have g2 : v2 2 = v 2 := hag 2 (by decide)
        have b0 : ((2147483648 : Nat) : Int) ≤ (v2 2) + 2147483648 ∧ (v2 2) + 2147483648 ≤ ((2147483648 : Nat) : Int) := xXb hBd 0 rfl
        have f0 : (v2 2) = 0 := xXf hF 0 rfl
        have e35_4 : xE (zyEl zymc B H2) 35 4 = xE (zyEl zymc B H) 35 4 := xFr_E hfr rfl
        have q35_4 : xE (zyEl zymc B H) 35 4 = xE (zyEl zymc B s.heap) 35 4 := xFr_E hFr0 rfl
        have e35_5 : xE (zyEl zymc B H2) 35 5 = xE (zyEl zymc B H) 35 5 := xFr_E hfr rfl
        have e35_6 : xE (zyEl zymc B H2) 35 6 = xE (zyEl zymc B H) 35 6 := xFr_E hfr rfl
        have e35_7 : xE (zyEl zymc B H2) 35 7 = xE (zyEl zymc B H) 35 7 := xFr_E hfr rfl
        have e35_8 : xE (zyEl zymc B H2) 35 8 = xE (zyEl zymc B H) 35 8 := xFr_E hfr rfl
        have e35_2 : xE (zyEl zymc B H2) 35 2 = xE (zyEl zymc B H) 35 2 := xFr_E hfr rfl
        have e35_3 : xE (zyEl zymc B H2) 35 3 = xE (zyEl zymc B H) 35 3 := xFr_E hfr rfl
        have e36 : ∀ i, xE (zyEl zymc B H2) 36 i = xE (zyEl zymc B H) 36 i := fun i => xFr_E hfr rfl
        have q36 : ∀ i, xE (zyEl zymc B H) 36 i = xE (zyEl zymc B s.heap) 36 i := fun i => xFr_E hFr0 rfl
        have hI : (zyEl zymc B H) = (zyEl zymc B s.heap) ∧ sW (xE (zyEl zymc B s.heap) 36) (xE (zyEl zymc B s.heap) 35 7) (xE (zyEl zymc B s.heap) 35 5) (xE (zyEl zymc B s.heap) 35 6) [115, 119, 105, 116, 99, 104] = false ∧ sW (xE (zyEl zymc B s.heap) 36) (xE (zyEl zymc B s.heap) 35 7) (xE (zyEl zymc B s.heap) 35 5) (xE (zyEl zymc B s.heap) 35 6) [98, 111, 98, 98, 105, 110] = false ∧ sW (xE (zyEl zymc B s.heap) 36) (xE (zyEl zymc B s.heap) 35 7) (xE (zyEl zymc B s.heap) 35 5) (xE (zyEl zymc B s.heap) 35 6) [115, 116, 117, 99, 107] = false ∧ (v 2) = if sW (xE (zyEl zymc B s.heap) 36) (xE (zyEl zymc B s.heap) 35 7) (xE (zyEl zymc B s.heap) 35 5) (xE (zyEl zymc B s.heap) 35 6) [102, 114, 101, 101] = true then 1 else 0 := hInv
        have q35_5 : xE (zyEl zymc B H) 35 5 = xE (zyEl zymc B s.heap) 35 5 := by rw [hI.1]
        have q35_6 : xE (zyEl zymc B H) 35 6 = xE (zyEl zymc B s.heap) 35 6 := by rw [hI.1]
        have q35_7 : xE (zyEl zymc B H) 35 7 = xE (zyEl zymc B s.heap) 35 7 := by rw [hI.1]
        have q35_8 : xE (zyEl zymc B H) 35 8 = xE (zyEl zymc B s.heap) 35 8 := by rw [hI.1]
        have q35_2 : xE (zyEl zymc B H) 35 2 = xE (zyEl zymc B s.heap) 35 2 := by rw [hI.1]
        have q35_3 : xE (zyEl zymc B H) 35 3 = xE (zyEl zymc B s.heap) 35 3 := by rw [hI.1]
        obtain ⟨hE, n0, n1, n2, i3⟩ := hI
        obtain ⟨S0, hS0⟩ := hΦ.2.1
        obtain ⟨pp, hpp, hA0⟩ := hΦ.2.2
        have n3 : sW (xE (zyEl zymc B s.heap) 36) (xE (zyEl zymc B s.heap) 35 7) (xE (zyEl zymc B s.heap) 35 5) (xE (zyEl zymc B s.heap) 35 6) [102, 114, 101, 101] = false := by
          rw [Bool.eq_false_iff]
          intro h
          rw [if_pos h] at i3
          omega
        have hE20 := (xFr_n hfr).trans hE
        refine xCa hRu hIH hAt hB hv hFr (hfwpl B) (ix := 48) (ax := 1152) rfl rfl rfl hmefwpl ⟨_, rfl, rfl, by decide⟩ ⟨rfl, rfl, rfl⟩ (by decide) [] [] [] rfl ⟨rfl, rfl⟩ (by decide +kernel) xcs_n (by decide +kernel) ?_ (fun H3 r hT3 hf3 hFr3 hr3 hΨ3 => ?_)
        · show xΦ0 (xfv []) (zyEl zymc B H2)
          exact trivial
        · have hΨ3 : xΨfwpl (xfv []) (zyEl zymc B H2) (zyEl zymc B H3) r := hΨ3
          have d35_4 : xE (zyEl zymc B H3) 35 4 = xE (zyEl zymc B H2) 35 4 := xFr_E hf3 rfl
          have d35_5 : xE (zyEl zymc B H3) 35 5 = xE (zyEl zymc B H2) 35 5 := xFr_E hf3 rfl
          have d35_6 : xE (zyEl zymc B H3) 35 6 = xE (zyEl zymc B H2) 35 6 := xFr_E hf3 rfl
          have d35_7 : xE (zyEl zymc B H3) 35 7 = xE (zyEl zymc B H2) 35 7 := xFr_E hf3 rfl
          have d35_8 : xE (zyEl zymc B H3) 35 8 = xE (zyEl zymc B H2) 35 8 := xFr_E hf3 rfl
          have d35_2 : xE (zyEl zymc B H3) 35 2 = xE (zyEl zymc B H2) 35 2 := xFr_E hf3 rfl
          have d35_3 : xE (zyEl zymc B H3) 35 3 = xE (zyEl zymc B H2) 35 3 := xFr_E hf3 rfl
          have d36 : ∀ i, xE (zyEl zymc B H3) 36 i = xE (zyEl zymc B H2) 36 i := fun i => xFr_E hf3 rfl
          unfold xΨfwpl at hΨ3
          have hr01 : r = 0 ∨ r = 1 := by
            rw [hΨ3]
            split <;> omega
          have hEE3 : (zyEl zymc B H3) = (zyEl zymc B s.heap) := (xFr_n hf3).trans hE20
          rw [hE20] at hΨ3
          refine ⟨⟨9, by decide⟩, [0, 0], [0, 0, r], rfl, ⟨by decide +kernel, ⟨rfl, by decide +kernel⟩, (xcs_c rfl (xcs_c rfl xcs_n)), (xe_0 (xe_0 (xe_c (by omega) (by omega) rfl xe_n))), xkq_n⟩, (by rw [if_pos rfl]; exact ⟨2, [], rfl, by decide, rfl, xst_n⟩), ?_, ?_⟩
          · show (zyEl zymc B H3) = (zyEl zymc B s.heap) ∧ sW (xE (zyEl zymc B s.heap) 36) (xE (zyEl zymc B s.heap) 35 7) (xE (zyEl zymc B s.heap) 35 5) (xE (zyEl zymc B s.heap) 35 6) [115, 119, 105, 116, 99, 104] = false ∧ sW (xE (zyEl zymc B s.heap) 36) (xE (zyEl zymc B s.heap) 35 7) (xE (zyEl zymc B s.heap) 35 5) (xE (zyEl zymc B s.heap) 35 6) [98, 111, 98, 98, 105, 110] = false ∧ sW (xE (zyEl zymc B s.heap) 36) (xE (zyEl zymc B s.heap) 35 7) (xE (zyEl zymc B s.heap) 35 5) (xE (zyEl zymc B s.heap) 35 6) [115, 116, 117, 99, 107] = false ∧ sW (xE (zyEl zymc B s.heap) 36) (xE (zyEl zymc B s.heap) 35 7) (xE (zyEl zymc B s.heap) 35 5) (xE (zyEl zymc B s.heap) 35 6) [102, 114, 101, 101] = false ∧ (r : Int) = if sW (xE (zyEl zymc B s.heap) 36) (xE (zyEl zymc B s.heap) 35 7) (xE (zyEl zymc B s.heap) 35 5) (xE (zyEl zymc B s.heap) 35 6) [112, 108, 97, 99, 101] = true then 1 else 0
            exact ⟨hEE3, n0, n1, n2, n3, hΨ3⟩
          · show 46 < 47
            omega
    · cases hx
    · have hx : x ∈ [zxfrl0_w4x0, zxfrl0_w4x1] := hx
      have hag : ∀ k, k < 3 → v2 k = v k := hag
      have hfr : xFr [] _ _ := hfr
      rcases List.mem_cons.mp hx with ex | hx
      · subst ex
        obtain ⟨hF, hBd, hM⟩ := hXs
        have g2 : v2 2 = v 2 := hag 2 (by decide)
        have b0 : ((2147483649 : Nat) : Int) ≤ (v2 2) + 2147483648 ∧ (v2 2) + 2147483648 ≤ ((2147483649 : Nat) : Int) := xXb hBd 0 rfl
        have f0 : ¬ (v2 2) = 0 := xXf hF 0 rfl
        have e35_4 : xE (zyEl zymc B H2) 35 4 = xE (zyEl zymc B H) 35 4 := xFr_E hfr rfl
        have q35_4 : xE (zyEl zymc B H) 35 4 = xE (zyEl zymc B s.heap) 35 4 := xFr_E hFr0 rfl
        have e35_5 : xE (zyEl zymc B H2) 35 5 = xE (zyEl zymc B H) 35 5 := xFr_E hfr rfl
        have e35_6 : xE (zyEl zymc B H2) 35 6 = xE (zyEl zymc B H) 35 6 := xFr_E hfr rfl
        have e35_7 : xE (zyEl zymc B H2) 35 7 = xE (zyEl zymc B H) 35 7 := xFr_E hfr rfl
        have e35_8 : xE (zyEl zymc B H2) 35 8 = xE (zyEl zymc B H) 35 8 := xFr_E hfr rfl
        have e35_2 : xE (zyEl zymc B H2) 35 2 = xE (zyEl zymc B H) 35 2 := xFr_E hfr rfl
        have e35_3 : xE (zyEl zymc B H2) 35 3 = xE (zyEl zymc B H) 35 3 := xFr_E hfr rfl
        have e36 : ∀ i, xE (zyEl zymc B H2) 36 i = xE (zyEl zymc B H) 36 i := fun i => xFr_E hfr rfl
        have q36 : ∀ i, xE (zyEl zymc B H) 36 i = xE (zyEl zymc B s.heap) 36 i := fun i => xFr_E hFr0 rfl
        have hI : (zyEl zymc B H) = (zyEl zymc B s.heap) ∧ sW (xE (zyEl zymc B s.heap) 36) (xE (zyEl zymc B s.heap) 35 7) (xE (zyEl zymc B s.heap) 35 5) (xE (zyEl zymc B s.heap) 35 6) [115, 119, 105, 116, 99, 104] = false ∧ sW (xE (zyEl zymc B s.heap) 36) (xE (zyEl zymc B s.heap) 35 7) (xE (zyEl zymc B s.heap) 35 5) (xE (zyEl zymc B s.heap) 35 6) [98, 111, 98, 98, 105, 110] = false ∧ sW (xE (zyEl zymc B s.heap) 36) (xE (zyEl zymc B s.heap) 35 7) (xE (zyEl zymc B s.heap) 35 5) (xE (zyEl zymc B s.heap) 35 6) [115, 116, 117, 99, 107] = false ∧ sW (xE (zyEl zymc B s.heap) 36) (xE (zyEl zymc B s.heap) 35 7) (xE (zyEl zymc B s.heap) 35 5) (xE (zyEl zymc B s.heap) 35 6) [102, 114, 101, 101] = false ∧ (v 2) = if sW (xE (zyEl zymc B s.heap) 36) (xE (zyEl zymc B s.heap) 35 7) (xE (zyEl zymc B s.heap) 35 5) (xE (zyEl zymc B s.heap) 35 6) [112, 108, 97, 99, 101] = true then 1 else 0 := hInv
        have q35_5 : xE (zyEl zymc B H) 35 5 = xE (zyEl zymc B s.heap) 35 5 := by rw [hI.1]
        have q35_6 : xE (zyEl zymc B H) 35 6 = xE (zyEl zymc B s.heap) 35 6 := by rw [hI.1]
        have q35_7 : xE (zyEl zymc B H) 35 7 = xE (zyEl zymc B s.heap) 35 7 := by rw [hI.1]
        have q35_8 : xE (zyEl zymc B H) 35 8 = xE (zyEl zymc B s.heap) 35 8 := by rw [hI.1]
        have q35_2 : xE (zyEl zymc B H) 35 2 = xE (zyEl zymc B s.heap) 35 2 := by rw [hI.1]
        have q35_3 : xE (zyEl zymc B H) 35 3 = xE (zyEl zymc B s.heap) 35 3 := by rw [hI.1]
        obtain ⟨hE, n0, n1, n2, n3, i3⟩ := hI
        obtain ⟨S0, hS0⟩ := hΦ.2.1
        obtain ⟨pp, hpp, hA0⟩ := hΦ.2.2
        have y4 : sW (xE (zyEl zymc B s.heap) 36) (xE (zyEl zymc B s.heap) 35 7) (xE (zyEl zymc B s.heap) 35 5) (xE (zyEl zymc B s.heap) 35 6) [112, 108, 97, 99, 101] = true := by
          by_cases h : sW (xE (zyEl zymc B s.heap) 36) (xE (zyEl zymc B s.heap) 35 7) (xE (zyEl zymc B s.heap) 35 5) (xE (zyEl zymc B s.heap) 35 6) [112, 108, 97, 99, 101] = true
          · exact h
          · rw [if_neg h] at i3
            omega
        have hE20 := (xFr_n hfr).trans hE
        refine xCa hRu hIH hAt hB hv hFr (hfrp0 B) (ix := 98) (ax := 1056) rfl rfl rfl hmefrp0 ⟨_, rfl, rfl, by decide⟩ ⟨rfl, rfl, rfl⟩ (by decide) [] [] [] rfl ⟨rfl, rfl⟩ (by decide +kernel) xcs_n (by decide +kernel) ?_ (fun H3 r hT3 hf3 hFr3 hr3 hΨ3 => ?_)
        · show xΦrd0 (xfv []) (zyEl zymc B H2)
          rw [hE20]
          exact ⟨hΦ.1, S0, hS0⟩
        · have hΨ3 : xΨfrp0 (xfv []) (zyEl zymc B H2) (zyEl zymc B H3) r := hΨ3
          have d35_4 : xE (zyEl zymc B H3) 35 4 = xE (zyEl zymc B H2) 35 4 := xFr_E hf3 rfl
          have d36 : ∀ i, xE (zyEl zymc B H3) 36 i = xE (zyEl zymc B H2) 36 i := fun i => xFr_E hf3 rfl
          unfold xΨfrp0 at hΨ3
          rw [hE20] at hΨ3
          have hr01 : r = 0 ∨ r = 1 := xOut0_r (hΨ3 S0 hS0)
          refine ⟨⟨10, by decide⟩, [0, 0], [0, 0, r], rfl, ⟨by decide +kernel, ⟨rfl, by decide +kernel⟩, (xcs_c rfl (xcs_c rfl xcs_n)), (xe_0 (xe_0 (xe_c (by omega) (by omega) rfl xe_n))), xkq_n⟩, (by rw [if_pos rfl]; exact ⟨2, [], rfl, by decide, rfl, xst_n⟩), ?_, ?_⟩
          · show (zyEl zymc B s.heap) = (zyEl zymc B s.heap) ∧ ∀ p S, p ≤ xE (zyEl zymc B s.heap) 35 4 → xAD (xE (zyEl zymc B s.heap) 36) (xE (zyEl zymc B s.heap) 35 4) p (zyEl zymc B s.heap) → xAb0 (zyEl zymc B s.heap) S → xOut0 (pLine (xE (zyEl zymc B s.heap) 36) (xE (zyEl zymc B s.heap) 35 4) p S) (zyEl zymc B H3) (r : Int)
            refine ⟨rfl, fun p S hp ⟨a1, a2, a3, a4⟩ hS => ?_⟩
            have w := hΨ3 S hS
            rw [a1] at w
            rw [a1, a2, a3] at n0 n1 n2 n3 y4
            unfold pLine pBody tW
            rw [n0, if_neg (by decide), n1, if_neg (by decide), n2, if_neg (by decide), n3, if_neg (by decide), y4, if_pos rfl]
            exact w
          · show 1 < 46
            omega
      · skip
        have ex := List.mem_singleton.mp hx
        subst ex
        obtain ⟨hF, hBd, hM⟩ := hXs
        have g2 : v2 2 = v 2 := hag 2 (by decide)
        have b0 : ((2147483648 : Nat) : Int) ≤ (v2 2) + 2147483648 ∧ (v2 2) + 2147483648 ≤ ((2147483648 : Nat) : Int) := xXb hBd 0 rfl
        have f0 : (v2 2) = 0 := xXf hF 0 rfl
        have e35_4 : xE (zyEl zymc B H2) 35 4 = xE (zyEl zymc B H) 35 4 := xFr_E hfr rfl
        have q35_4 : xE (zyEl zymc B H) 35 4 = xE (zyEl zymc B s.heap) 35 4 := xFr_E hFr0 rfl
        have e35_5 : xE (zyEl zymc B H2) 35 5 = xE (zyEl zymc B H) 35 5 := xFr_E hfr rfl
        have e35_6 : xE (zyEl zymc B H2) 35 6 = xE (zyEl zymc B H) 35 6 := xFr_E hfr rfl
        have e35_7 : xE (zyEl zymc B H2) 35 7 = xE (zyEl zymc B H) 35 7 := xFr_E hfr rfl
        have e35_8 : xE (zyEl zymc B H2) 35 8 = xE (zyEl zymc B H) 35 8 := xFr_E hfr rfl
        have e35_2 : xE (zyEl zymc B H2) 35 2 = xE (zyEl zymc B H) 35 2 := xFr_E hfr rfl
        have e35_3 : xE (zyEl zymc B H2) 35 3 = xE (zyEl zymc B H) 35 3 := xFr_E hfr rfl
        have e36 : ∀ i, xE (zyEl zymc B H2) 36 i = xE (zyEl zymc B H) 36 i := fun i => xFr_E hfr rfl
        have q36 : ∀ i, xE (zyEl zymc B H) 36 i = xE (zyEl zymc B s.heap) 36 i := fun i => xFr_E hFr0 rfl
        have hI : (zyEl zymc B H) = (zyEl zymc B s.heap) ∧ sW (xE (zyEl zymc B s.heap) 36) (xE (zyEl zymc B s.heap) 35 7) (xE (zyEl zymc B s.heap) 35 5) (xE (zyEl zymc B s.heap) 35 6) [115, 119, 105, 116, 99, 104] = false ∧ sW (xE (zyEl zymc B s.heap) 36) (xE (zyEl zymc B s.heap) 35 7) (xE (zyEl zymc B s.heap) 35 5) (xE (zyEl zymc B s.heap) 35 6) [98, 111, 98, 98, 105, 110] = false ∧ sW (xE (zyEl zymc B s.heap) 36) (xE (zyEl zymc B s.heap) 35 7) (xE (zyEl zymc B s.heap) 35 5) (xE (zyEl zymc B s.heap) 35 6) [115, 116, 117, 99, 107] = false ∧ sW (xE (zyEl zymc B s.heap) 36) (xE (zyEl zymc B s.heap) 35 7) (xE (zyEl zymc B s.heap) 35 5) (xE (zyEl zymc B s.heap) 35 6) [102, 114, 101, 101] = false ∧ (v 2) = if sW (xE (zyEl zymc B s.heap) 36) (xE (zyEl zymc B s.heap) 35 7) (xE (zyEl zymc B s.heap) 35 5) (xE (zyEl zymc B s.heap) 35 6) [112, 108, 97, 99, 101] = true then 1 else 0 := hInv
        have q35_5 : xE (zyEl zymc B H) 35 5 = xE (zyEl zymc B s.heap) 35 5 := by rw [hI.1]
        have q35_6 : xE (zyEl zymc B H) 35 6 = xE (zyEl zymc B s.heap) 35 6 := by rw [hI.1]
        have q35_7 : xE (zyEl zymc B H) 35 7 = xE (zyEl zymc B s.heap) 35 7 := by rw [hI.1]
        have q35_8 : xE (zyEl zymc B H) 35 8 = xE (zyEl zymc B s.heap) 35 8 := by rw [hI.1]
        have q35_2 : xE (zyEl zymc B H) 35 2 = xE (zyEl zymc B s.heap) 35 2 := by rw [hI.1]
        have q35_3 : xE (zyEl zymc B H) 35 3 = xE (zyEl zymc B s.heap) 35 3 := by rw [hI.1]
        obtain ⟨hE, n0, n1, n2, n3, i3⟩ := hI
        obtain ⟨S0, hS0⟩ := hΦ.2.1
        obtain ⟨pp, hpp, hA0⟩ := hΦ.2.2
        have n4 : sW (xE (zyEl zymc B s.heap) 36) (xE (zyEl zymc B s.heap) 35 7) (xE (zyEl zymc B s.heap) 35 5) (xE (zyEl zymc B s.heap) 35 6) [112, 108, 97, 99, 101] = false := by
          rw [Bool.eq_false_iff]
          intro h
          rw [if_pos h] at i3
          omega
        have hE20 := (xFr_n hfr).trans hE
        refine xCa hRu hIH hAt hB hv hFr (hfwwo B) (ix := 48) (ax := 1152) rfl rfl rfl hmefwwo ⟨_, rfl, rfl, by decide⟩ ⟨rfl, rfl, rfl⟩ (by decide) [] [] [] rfl ⟨rfl, rfl⟩ (by decide +kernel) xcs_n (by decide +kernel) ?_ (fun H3 r hT3 hf3 hFr3 hr3 hΨ3 => ?_)
        · show xΦ0 (xfv []) (zyEl zymc B H2)
          exact trivial
        · have hΨ3 : xΨfwwo (xfv []) (zyEl zymc B H2) (zyEl zymc B H3) r := hΨ3
          have d35_4 : xE (zyEl zymc B H3) 35 4 = xE (zyEl zymc B H2) 35 4 := xFr_E hf3 rfl
          have d35_5 : xE (zyEl zymc B H3) 35 5 = xE (zyEl zymc B H2) 35 5 := xFr_E hf3 rfl
          have d35_6 : xE (zyEl zymc B H3) 35 6 = xE (zyEl zymc B H2) 35 6 := xFr_E hf3 rfl
          have d35_7 : xE (zyEl zymc B H3) 35 7 = xE (zyEl zymc B H2) 35 7 := xFr_E hf3 rfl
          have d35_8 : xE (zyEl zymc B H3) 35 8 = xE (zyEl zymc B H2) 35 8 := xFr_E hf3 rfl
          have d35_2 : xE (zyEl zymc B H3) 35 2 = xE (zyEl zymc B H2) 35 2 := xFr_E hf3 rfl
          have d35_3 : xE (zyEl zymc B H3) 35 3 = xE (zyEl zymc B H2) 35 3 := xFr_E hf3 rfl
          have d36 : ∀ i, xE (zyEl zymc B H3) 36 i = xE (zyEl zymc B H2) 36 i := fun i => xFr_E hf3 rfl
          unfold xΨfwwo at hΨ3
          have hr01 : r = 0 ∨ r = 1 := by
            rw [hΨ3]
            split <;> omega
          have hEE3 : (zyEl zymc B H3) = (zyEl zymc B s.heap) := (xFr_n hf3).trans hE20
          rw [hE20] at hΨ3
          refine ⟨⟨11, by decide⟩, [0, 0], [0, 0, r], rfl, ⟨by decide +kernel, ⟨rfl, by decide +kernel⟩, (xcs_c rfl (xcs_c rfl xcs_n)), (xe_0 (xe_0 (xe_c (by omega) (by omega) rfl xe_n))), xkq_n⟩, (by rw [if_pos rfl]; exact ⟨2, [], rfl, by decide, rfl, xst_n⟩), ?_, ?_⟩
          · show (zyEl zymc B H3) = (zyEl zymc B s.heap) ∧ sW (xE (zyEl zymc B s.heap) 36) (xE (zyEl zymc B s.heap) 35 7) (xE (zyEl zymc B s.heap) 35 5) (xE (zyEl zymc B s.heap) 35 6) [115, 119, 105, 116, 99, 104] = false ∧ sW (xE (zyEl zymc B s.heap) 36) (xE (zyEl zymc B s.heap) 35 7) (xE (zyEl zymc B s.heap) 35 5) (xE (zyEl zymc B s.heap) 35 6) [98, 111, 98, 98, 105, 110] = false ∧ sW (xE (zyEl zymc B s.heap) 36) (xE (zyEl zymc B s.heap) 35 7) (xE (zyEl zymc B s.heap) 35 5) (xE (zyEl zymc B s.heap) 35 6) [115, 116, 117, 99, 107] = false ∧ sW (xE (zyEl zymc B s.heap) 36) (xE (zyEl zymc B s.heap) 35 7) (xE (zyEl zymc B s.heap) 35 5) (xE (zyEl zymc B s.heap) 35 6) [102, 114, 101, 101] = false ∧ sW (xE (zyEl zymc B s.heap) 36) (xE (zyEl zymc B s.heap) 35 7) (xE (zyEl zymc B s.heap) 35 5) (xE (zyEl zymc B s.heap) 35 6) [112, 108, 97, 99, 101] = false ∧ (r : Int) = if sW (xE (zyEl zymc B s.heap) 36) (xE (zyEl zymc B s.heap) 35 7) (xE (zyEl zymc B s.heap) 35 5) (xE (zyEl zymc B s.heap) 35 6) [119, 111, 114, 100] = true then 1 else 0
            exact ⟨hEE3, n0, n1, n2, n3, n4, hΨ3⟩
          · show 45 < 46
            omega
    · cases hx
    · have hx : x ∈ [zxfrl0_w5x0] := hx
      have hag : ∀ k, k < 3 → v2 k = v k := hag
      have hfr : xFr [(35, 2, 3)] _ _ := hfr
      have ex := List.mem_singleton.mp hx
      subst ex
      obtain ⟨hF, hBd, hM⟩ := hXs
      have g2 : v2 2 = v 2 := hag 2 (by decide)
      have b0 : ((2147483649 : Nat) : Int) ≤ (v2 2) + 2147483648 ∧ (v2 2) + 2147483648 ≤ ((2147483649 : Nat) : Int) := xXb hBd 0 rfl
      have f0 : ¬ (v2 2) = 0 := xXf hF 0 rfl
      have e35_4 : xE (zyEl zymc B H2) 35 4 = xE (zyEl zymc B H) 35 4 := xFr_E hfr rfl
      have q35_4 : xE (zyEl zymc B H) 35 4 = xE (zyEl zymc B s.heap) 35 4 := xFr_E hFr0 rfl
      have e35_5 : xE (zyEl zymc B H2) 35 5 = xE (zyEl zymc B H) 35 5 := xFr_E hfr rfl
      have e35_6 : xE (zyEl zymc B H2) 35 6 = xE (zyEl zymc B H) 35 6 := xFr_E hfr rfl
      have e35_7 : xE (zyEl zymc B H2) 35 7 = xE (zyEl zymc B H) 35 7 := xFr_E hfr rfl
      have e35_8 : xE (zyEl zymc B H2) 35 8 = xE (zyEl zymc B H) 35 8 := xFr_E hfr rfl
      have e36 : ∀ i, xE (zyEl zymc B H2) 36 i = xE (zyEl zymc B H) 36 i := fun i => xFr_E hfr rfl
      have q36 : ∀ i, xE (zyEl zymc B H) 36 i = xE (zyEl zymc B s.heap) 36 i := fun i => xFr_E hFr0 rfl
      have hI : (zyEl zymc B H) = (zyEl zymc B s.heap) ∧ sW (xE (zyEl zymc B s.heap) 36) (xE (zyEl zymc B s.heap) 35 7) (xE (zyEl zymc B s.heap) 35 5) (xE (zyEl zymc B s.heap) 35 6) [115, 119, 105, 116, 99, 104] = false ∧ sW (xE (zyEl zymc B s.heap) 36) (xE (zyEl zymc B s.heap) 35 7) (xE (zyEl zymc B s.heap) 35 5) (xE (zyEl zymc B s.heap) 35 6) [98, 111, 98, 98, 105, 110] = false ∧ sW (xE (zyEl zymc B s.heap) 36) (xE (zyEl zymc B s.heap) 35 7) (xE (zyEl zymc B s.heap) 35 5) (xE (zyEl zymc B s.heap) 35 6) [115, 116, 117, 99, 107] = false ∧ sW (xE (zyEl zymc B s.heap) 36) (xE (zyEl zymc B s.heap) 35 7) (xE (zyEl zymc B s.heap) 35 5) (xE (zyEl zymc B s.heap) 35 6) [102, 114, 101, 101] = false ∧ sW (xE (zyEl zymc B s.heap) 36) (xE (zyEl zymc B s.heap) 35 7) (xE (zyEl zymc B s.heap) 35 5) (xE (zyEl zymc B s.heap) 35 6) [112, 108, 97, 99, 101] = false ∧ (v 2) = if sW (xE (zyEl zymc B s.heap) 36) (xE (zyEl zymc B s.heap) 35 7) (xE (zyEl zymc B s.heap) 35 5) (xE (zyEl zymc B s.heap) 35 6) [119, 111, 114, 100] = true then 1 else 0 := hInv
      have q35_5 : xE (zyEl zymc B H) 35 5 = xE (zyEl zymc B s.heap) 35 5 := by rw [hI.1]
      have q35_6 : xE (zyEl zymc B H) 35 6 = xE (zyEl zymc B s.heap) 35 6 := by rw [hI.1]
      have q35_7 : xE (zyEl zymc B H) 35 7 = xE (zyEl zymc B s.heap) 35 7 := by rw [hI.1]
      have q35_8 : xE (zyEl zymc B H) 35 8 = xE (zyEl zymc B s.heap) 35 8 := by rw [hI.1]
      have q35_2 : xE (zyEl zymc B H) 35 2 = xE (zyEl zymc B s.heap) 35 2 := by rw [hI.1]
      have q35_3 : xE (zyEl zymc B H) 35 3 = xE (zyEl zymc B s.heap) 35 3 := by rw [hI.1]
      obtain ⟨hE, n0, n1, n2, n3, n4, i3⟩ := hI
      obtain ⟨S0, hS0⟩ := hΦ.2.1
      obtain ⟨pp, hpp, hA0⟩ := hΦ.2.2
      have y5 : sW (xE (zyEl zymc B s.heap) 36) (xE (zyEl zymc B s.heap) 35 7) (xE (zyEl zymc B s.heap) 35 5) (xE (zyEl zymc B s.heap) 35 6) [119, 111, 114, 100] = true := by
        by_cases h : sW (xE (zyEl zymc B s.heap) 36) (xE (zyEl zymc B s.heap) 35 7) (xE (zyEl zymc B s.heap) 35 5) (xE (zyEl zymc B s.heap) 35 6) [119, 111, 114, 100] = true
        · exact h
        · rw [if_neg h] at i3
          omega
      have hE20 : xFr [(35, 2, 3)] (zyEl zymc B s.heap) (zyEl zymc B H2) := by rw [← hE]; exact hfr
      have tt : xE (zyEl zymc B H2) 36 = xE (zyEl zymc B s.heap) 36 := funext fun i => xFr_E hE20 rfl
      have tn : xE (zyEl zymc B H2) 35 4 = xE (zyEl zymc B s.heap) 35 4 := xFr_E hE20 rfl
      have t6 : xE (zyEl zymc B H2) 35 6 = xE (zyEl zymc B s.heap) 35 6 := xFr_E hE20 rfl
      have hab : ∀ S, xAb0 (zyEl zymc B s.heap) S → xAb0 (zyEl zymc B H2) S := fun S hS => xAb0_35 hS (xFr_mono (by decide) hE20)
      refine xCa hRu hIH hAt hB hv hFr (hfrw0 B) (ix := 103) (ax := 1072) rfl rfl rfl hmefrw0 ⟨_, rfl, rfl, by decide⟩ ⟨rfl, rfl, rfl⟩ (by decide) [] [] [] rfl ⟨rfl, rfl⟩ (by decide +kernel) xcs_n (by decide +kernel) ?_ (fun H3 r hT3 hf3 hFr3 hr3 hΨ3 => ?_)
      · show xΦrd0 (xfv []) (zyEl zymc B H2)
        exact ⟨by rw [t6, tn]; exact hΦ.1, S0, hab S0 hS0⟩
      · have hΨ3 : xΨfrw0 (xfv []) (zyEl zymc B H2) (zyEl zymc B H3) r := hΨ3
        have d35_4 : xE (zyEl zymc B H3) 35 4 = xE (zyEl zymc B H2) 35 4 := xFr_E hf3 rfl
        have d36 : ∀ i, xE (zyEl zymc B H3) 36 i = xE (zyEl zymc B H2) 36 i := fun i => xFr_E hf3 rfl
        unfold xΨfrw0 at hΨ3
        rw [tt, tn, t6] at hΨ3
        have hr01 : r = 0 ∨ r = 1 := xOut0_r (hΨ3 S0 (hab S0 hS0))
        refine ⟨⟨12, by decide⟩, [0, 0], [0, 0, r], rfl, ⟨by decide +kernel, ⟨rfl, by decide +kernel⟩, (xcs_c rfl (xcs_c rfl xcs_n)), (xe_0 (xe_0 (xe_c (by omega) (by omega) rfl xe_n))), xkq_n⟩, (by rw [if_pos rfl]; exact ⟨2, [], rfl, by decide, rfl, xst_n⟩), ?_, ?_⟩
        · show (zyEl zymc B s.heap) = (zyEl zymc B s.heap) ∧ ∀ p S, p ≤ xE (zyEl zymc B s.heap) 35 4 → xAD (xE (zyEl zymc B s.heap) 36) (xE (zyEl zymc B s.heap) 35 4) p (zyEl zymc B s.heap) → xAb0 (zyEl zymc B s.heap) S → xOut0 (pLine (xE (zyEl zymc B s.heap) 36) (xE (zyEl zymc B s.heap) 35 4) p S) (zyEl zymc B H3) (r : Int)
          refine ⟨rfl, fun p S hp ⟨a1, a2, a3, a4⟩ hS => ?_⟩
          have w := hΨ3 S (hab S hS)
          rw [a1] at w
          rw [a1, a2, a3] at n0 n1 n2 n3 n4 y5
          unfold pLine pBody tW
          rw [n0, if_neg (by decide), n1, if_neg (by decide), n2, if_neg (by decide), n3, if_neg (by decide), n4, if_neg (by decide), y5, if_pos rfl]
          exact w
        · show 1 < 45
          omega
    · cases hx
  · intro x0 E0 E E2 hrx hT0 hΦ i v hT hrv hInv hKc hFr0 x hx v2 hr2 hXs hag hfr hFr hT2
    rcases i with ⟨i, hi⟩
    have hi2 : i = 0 ∨ i = 1 ∨ i = 2 ∨ i = 3 ∨ i = 4 ∨ i = 5 ∨ i = 6 ∨ i = 7 ∨ i = 8 ∨ i = 9 ∨ i = 10 ∨ i = 11 ∨ i = 12 := by omega
    rcases hi2 with rfl | rfl | rfl | rfl | rfl | rfl | rfl | rfl | rfl | rfl | rfl | rfl | rfl
    · cases hx
    · cases hx
    · have hx : x ∈ [zxfrl0_r0r0] := hx
      have hag : ∀ k, k < 3 → v2 k = v k := hag
      have hfr : xFr [] _ _ := hfr
      have ex := List.mem_singleton.mp hx
      subst ex
      obtain ⟨hF, hBd, hM⟩ := hXs
      have g2 : v2 2 = v 2 := hag 2 (by decide)
      have b0 : ((2147483648 : Nat) : Int) ≤ (v2 2) + 2147483648 ∧ (v2 2) + 2147483648 ≤ ((2147483649 : Nat) : Int) := xXb hBd 0 rfl
      have e35_4 : xE E2 35 4 = xE E 35 4 := xFr_E hfr rfl
      have q35_4 : xE E 35 4 = xE E0 35 4 := xFr_E hFr0 rfl
      have e35_5 : xE E2 35 5 = xE E 35 5 := xFr_E hfr rfl
      have e35_6 : xE E2 35 6 = xE E 35 6 := xFr_E hfr rfl
      have e35_7 : xE E2 35 7 = xE E 35 7 := xFr_E hfr rfl
      have e35_8 : xE E2 35 8 = xE E 35 8 := xFr_E hfr rfl
      have e35_2 : xE E2 35 2 = xE E 35 2 := xFr_E hfr rfl
      have e35_3 : xE E2 35 3 = xE E 35 3 := xFr_E hfr rfl
      have e36 : ∀ i, xE E2 36 i = xE E 36 i := fun i => xFr_E hfr rfl
      have q36 : ∀ i, xE E 36 i = xE E0 36 i := fun i => xFr_E hFr0 rfl
      have hI : E0 = E0 ∧ ∀ p S, p ≤ xE E0 35 4 → xAD (xE E0 36) (xE E0 35 4) p E0 → xAb0 E0 S → xOut0 (pLine (xE E0 36) (xE E0 35 4) p S) E (v 2) := hInv
      show xΨfrl0 x0 E0 E2 (v2 2)
      have hE2 := xFr_n hfr
      subst hE2
      intro p S hp hA hS
      have w := hI.2 p S hp hA hS
      rw [show (v 2) = v2 2 by omega] at w
      exact w
    · cases hx
    · have hx : x ∈ [zxfrl0_r1r0] := hx
      have hag : ∀ k, k < 3 → v2 k = v k := hag
      have hfr : xFr [] _ _ := hfr
      have ex := List.mem_singleton.mp hx
      subst ex
      obtain ⟨hF, hBd, hM⟩ := hXs
      have g2 : v2 2 = v 2 := hag 2 (by decide)
      have b0 : ((2147483648 : Nat) : Int) ≤ (v2 2) + 2147483648 ∧ (v2 2) + 2147483648 ≤ ((2147483649 : Nat) : Int) := xXb hBd 0 rfl
      have e35_4 : xE E2 35 4 = xE E 35 4 := xFr_E hfr rfl
      have q35_4 : xE E 35 4 = xE E0 35 4 := xFr_E hFr0 rfl
      have e35_5 : xE E2 35 5 = xE E 35 5 := xFr_E hfr rfl
      have e35_6 : xE E2 35 6 = xE E 35 6 := xFr_E hfr rfl
      have e35_7 : xE E2 35 7 = xE E 35 7 := xFr_E hfr rfl
      have e35_8 : xE E2 35 8 = xE E 35 8 := xFr_E hfr rfl
      have e35_2 : xE E2 35 2 = xE E 35 2 := xFr_E hfr rfl
      have e35_3 : xE E2 35 3 = xE E 35 3 := xFr_E hfr rfl
      have e36 : ∀ i, xE E2 36 i = xE E 36 i := fun i => xFr_E hfr rfl
      have q36 : ∀ i, xE E 36 i = xE E0 36 i := fun i => xFr_E hFr0 rfl
      have hI : E0 = E0 ∧ ∀ p S, p ≤ xE E0 35 4 → xAD (xE E0 36) (xE E0 35 4) p E0 → xAb0 E0 S → xOut0 (pLine (xE E0 36) (xE E0 35 4) p S) E (v 2) := hInv
      show xΨfrl0 x0 E0 E2 (v2 2)
      have hE2 := xFr_n hfr
      subst hE2
      intro p S hp hA hS
      have w := hI.2 p S hp hA hS
      rw [show (v 2) = v2 2 by omega] at w
      exact w
    · cases hx
    · have hx : x ∈ [zxfrl0_r2r0] := hx
      have hag : ∀ k, k < 3 → v2 k = v k := hag
      have hfr : xFr [] _ _ := hfr
      have ex := List.mem_singleton.mp hx
      subst ex
      obtain ⟨hF, hBd, hM⟩ := hXs
      have g2 : v2 2 = v 2 := hag 2 (by decide)
      have b0 : ((2147483648 : Nat) : Int) ≤ (v2 2) + 2147483648 ∧ (v2 2) + 2147483648 ≤ ((2147483649 : Nat) : Int) := xXb hBd 0 rfl
      have e35_4 : xE E2 35 4 = xE E 35 4 := xFr_E hfr rfl
      have q35_4 : xE E 35 4 = xE E0 35 4 := xFr_E hFr0 rfl
      have e35_5 : xE E2 35 5 = xE E 35 5 := xFr_E hfr rfl
      have e35_6 : xE E2 35 6 = xE E 35 6 := xFr_E hfr rfl
      have e35_7 : xE E2 35 7 = xE E 35 7 := xFr_E hfr rfl
      have e35_8 : xE E2 35 8 = xE E 35 8 := xFr_E hfr rfl
      have e35_2 : xE E2 35 2 = xE E 35 2 := xFr_E hfr rfl
      have e35_3 : xE E2 35 3 = xE E 35 3 := xFr_E hfr rfl
      have e36 : ∀ i, xE E2 36 i = xE E 36 i := fun i => xFr_E hfr rfl
      have q36 : ∀ i, xE E 36 i = xE E0 36 i := fun i => xFr_E hFr0 rfl
      have hI : E0 = E0 ∧ ∀ p S, p ≤ xE E0 35 4 → xAD (xE E0 36) (xE E0 35 4) p E0 → xAb0 E0 S → xOut0 (pLine (xE E0 36) (xE E0 35 4) p S) E (v 2) := hInv
      show xΨfrl0 x0 E0 E2 (v2 2)
      have hE2 := xFr_n hfr
      subst hE2
      intro p S hp hA hS
      have w := hI.2 p S hp hA hS
      rw [show (v 2) = v2 2 by omega] at w
      exact w
    · cases hx
    · have hx : x ∈ [zxfrl0_r3r0] := hx
      have hag : ∀ k, k < 3 → v2 k = v k := hag
      have hfr : xFr [] _ _ := hfr
      have ex := List.mem_singleton.mp hx
      subst ex
      obtain ⟨hF, hBd, hM⟩ := hXs
      have g2 : v2 2 = v 2 := hag 2 (by decide)
      have b0 : ((2147483648 : Nat) : Int) ≤ (v2 2) + 2147483648 ∧ (v2 2) + 2147483648 ≤ ((2147483649 : Nat) : Int) := xXb hBd 0 rfl
      have e35_4 : xE E2 35 4 = xE E 35 4 := xFr_E hfr rfl
      have q35_4 : xE E 35 4 = xE E0 35 4 := xFr_E hFr0 rfl
      have e35_5 : xE E2 35 5 = xE E 35 5 := xFr_E hfr rfl
      have e35_6 : xE E2 35 6 = xE E 35 6 := xFr_E hfr rfl
      have e35_7 : xE E2 35 7 = xE E 35 7 := xFr_E hfr rfl
      have e35_8 : xE E2 35 8 = xE E 35 8 := xFr_E hfr rfl
      have e35_2 : xE E2 35 2 = xE E 35 2 := xFr_E hfr rfl
      have e35_3 : xE E2 35 3 = xE E 35 3 := xFr_E hfr rfl
      have e36 : ∀ i, xE E2 36 i = xE E 36 i := fun i => xFr_E hfr rfl
      have q36 : ∀ i, xE E 36 i = xE E0 36 i := fun i => xFr_E hFr0 rfl
      have hI : E0 = E0 ∧ ∀ p S, p ≤ xE E0 35 4 → xAD (xE E0 36) (xE E0 35 4) p E0 → xAb0 E0 S → xOut0 (pLine (xE E0 36) (xE E0 35 4) p S) E (v 2) := hInv
      show xΨfrl0 x0 E0 E2 (v2 2)
      have hE2 := xFr_n hfr
      subst hE2
      intro p S hp hA hS
      have w := hI.2 p S hp hA hS
      rw [show (v 2) = v2 2 by omega] at w
      exact w
    · cases hx
    · have hx : x ∈ [zxfrl0_r4r0] := hx
      have hag : ∀ k, k < 3 → v2 k = v k := hag
      have hfr : xFr [] _ _ := hfr
      have ex := List.mem_singleton.mp hx
      subst ex
      obtain ⟨hF, hBd, hM⟩ := hXs
      have g2 : v2 2 = v 2 := hag 2 (by decide)
      have b0 : ((2147483648 : Nat) : Int) ≤ (v2 2) + 2147483648 ∧ (v2 2) + 2147483648 ≤ ((2147483649 : Nat) : Int) := xXb hBd 0 rfl
      have e35_4 : xE E2 35 4 = xE E 35 4 := xFr_E hfr rfl
      have q35_4 : xE E 35 4 = xE E0 35 4 := xFr_E hFr0 rfl
      have e35_5 : xE E2 35 5 = xE E 35 5 := xFr_E hfr rfl
      have e35_6 : xE E2 35 6 = xE E 35 6 := xFr_E hfr rfl
      have e35_7 : xE E2 35 7 = xE E 35 7 := xFr_E hfr rfl
      have e35_8 : xE E2 35 8 = xE E 35 8 := xFr_E hfr rfl
      have e35_2 : xE E2 35 2 = xE E 35 2 := xFr_E hfr rfl
      have e35_3 : xE E2 35 3 = xE E 35 3 := xFr_E hfr rfl
      have e36 : ∀ i, xE E2 36 i = xE E 36 i := fun i => xFr_E hfr rfl
      have q36 : ∀ i, xE E 36 i = xE E0 36 i := fun i => xFr_E hFr0 rfl
      have hI : E0 = E0 ∧ ∀ p S, p ≤ xE E0 35 4 → xAD (xE E0 36) (xE E0 35 4) p E0 → xAb0 E0 S → xOut0 (pLine (xE E0 36) (xE E0 35 4) p S) E (v 2) := hInv
      show xΨfrl0 x0 E0 E2 (v2 2)
      have hE2 := xFr_n hfr
      subst hE2
      intro p S hp hA hS
      have w := hI.2 p S hp hA hS
      rw [show (v 2) = v2 2 by omega] at w
      exact w
    · have hx : x ∈ [zxfrl0_w5r0, zxfrl0_w5r1, zxfrl0_w5r2] := hx
      have hag : ∀ k, k < 3 → v2 k = v k := hag
      have hfr : xFr [(35, 2, 3)] _ _ := hfr
      rcases List.mem_cons.mp hx with ex | hx
      · subst ex
        obtain ⟨hF, hBd, hM⟩ := hXs
        have g2 : v2 2 = v 2 := hag 2 (by decide)
        have b0 : ((2147483648 : Nat) : Int) ≤ (v2 2) + 2147483648 ∧ (v2 2) + 2147483648 ≤ ((2147483648 : Nat) : Int) := xXb hBd 0 rfl
        have b1 : ((2147483650 : Nat) : Int) ≤ (v2 3) + 2147483648 ∧ (v2 3) + 2147483648 ≤ ((2147483653 : Nat) : Int) := xXb hBd 1 rfl
        have b2 : ((2147483648 : Nat) : Int) ≤ (v2 4) + 2147483648 ∧ (v2 4) + 2147483648 ≤ ((2147484548 : Nat) : Int) := xXb hBd 2 rfl
        have f0 : (v2 2) = 0 := xXf hF 0 rfl
        have f1 : (0 : Int) ≤ 7 ∧ xE E 35 7 = (v2 3) := xXf hF 1 rfl
        have f2 : ¬ (v2 3) = 1 := xXf hF 2 rfl
        have f3 : (0 : Int) ≤ 5 ∧ xE E 35 5 = (v2 4) := xXf hF 3 rfl
        have m0 : xE E2 35 2 = 2 := xXm hM 0 rfl
        have m1 : xE E2 35 3 = (v2 4) := xXm hM 1 rfl
        have e35_4 : xE E2 35 4 = xE E 35 4 := xFr_E hfr rfl
        have q35_4 : xE E 35 4 = xE E0 35 4 := xFr_E hFr0 rfl
        have e35_5 : xE E2 35 5 = xE E 35 5 := xFr_E hfr rfl
        have e35_6 : xE E2 35 6 = xE E 35 6 := xFr_E hfr rfl
        have e35_7 : xE E2 35 7 = xE E 35 7 := xFr_E hfr rfl
        have e35_8 : xE E2 35 8 = xE E 35 8 := xFr_E hfr rfl
        have e36 : ∀ i, xE E2 36 i = xE E 36 i := fun i => xFr_E hfr rfl
        have q36 : ∀ i, xE E 36 i = xE E0 36 i := fun i => xFr_E hFr0 rfl
        have hI : E = E0 ∧ sW (xE E0 36) (xE E0 35 7) (xE E0 35 5) (xE E0 35 6) [115, 119, 105, 116, 99, 104] = false ∧ sW (xE E0 36) (xE E0 35 7) (xE E0 35 5) (xE E0 35 6) [98, 111, 98, 98, 105, 110] = false ∧ sW (xE E0 36) (xE E0 35 7) (xE E0 35 5) (xE E0 35 6) [115, 116, 117, 99, 107] = false ∧ sW (xE E0 36) (xE E0 35 7) (xE E0 35 5) (xE E0 35 6) [102, 114, 101, 101] = false ∧ sW (xE E0 36) (xE E0 35 7) (xE E0 35 5) (xE E0 35 6) [112, 108, 97, 99, 101] = false ∧ (v 2) = if sW (xE E0 36) (xE E0 35 7) (xE E0 35 5) (xE E0 35 6) [119, 111, 114, 100] = true then 1 else 0 := hInv
        have q35_5 : xE E 35 5 = xE E0 35 5 := by rw [hI.1]
        have q35_6 : xE E 35 6 = xE E0 35 6 := by rw [hI.1]
        have q35_7 : xE E 35 7 = xE E0 35 7 := by rw [hI.1]
        have q35_8 : xE E 35 8 = xE E0 35 8 := by rw [hI.1]
        have q35_2 : xE E 35 2 = xE E0 35 2 := by rw [hI.1]
        have q35_3 : xE E 35 3 = xE E0 35 3 := by rw [hI.1]
        show xΨfrl0 x0 E0 E2 0
        obtain ⟨hE, n0, n1, n2, n3, n4, i3⟩ := hI
        obtain ⟨S0, hS0⟩ := hΦ.2.1
        obtain ⟨pp, hpp, hA0⟩ := hΦ.2.2
        have n5 : sW (xE E0 36) (xE E0 35 7) (xE E0 35 5) (xE E0 35 6) [119, 111, 114, 100] = false := by
          rw [Bool.eq_false_iff]
          intro h
          rw [if_pos h] at i3
          omega
        subst hE
        intro p S hp ⟨a1, a2, a3, a4⟩ hS
        have hm : pMis (xE E 36) (xE E 35 4) p = 2 := by unfold pMis; rw [if_neg (by omega)]
        rw [a1, a2, a3] at n0 n1 n2 n3 n4 n5
        unfold pLine pBody tW
        rw [n0, if_neg (by decide), n1, if_neg (by decide), n2, if_neg (by decide), n3, if_neg (by decide), n4, if_neg (by decide), n5, if_neg (by decide), hm]
        exact xOut0_e rfl (by omega) (by omega)
      · skip
        rcases List.mem_cons.mp hx with ex | hx
        · subst ex
          obtain ⟨hF, hBd, hM⟩ := hXs
          have g2 : v2 2 = v 2 := hag 2 (by decide)
          have b0 : ((2147483648 : Nat) : Int) ≤ (v2 2) + 2147483648 ∧ (v2 2) + 2147483648 ≤ ((2147483648 : Nat) : Int) := xXb hBd 0 rfl
          have b1 : ((2147483648 : Nat) : Int) ≤ (v2 3) + 2147483648 ∧ (v2 3) + 2147483648 ≤ ((2147483648 : Nat) : Int) := xXb hBd 1 rfl
          have b2 : ((2147483648 : Nat) : Int) ≤ (v2 4) + 2147483648 ∧ (v2 4) + 2147483648 ≤ ((2147484548 : Nat) : Int) := xXb hBd 2 rfl
          have f0 : (v2 2) = 0 := xXf hF 0 rfl
          have f1 : (0 : Int) ≤ 7 ∧ xE E 35 7 = (v2 3) := xXf hF 1 rfl
          have f2 : ¬ (v2 3) = 1 := xXf hF 2 rfl
          have f3 : (0 : Int) ≤ 5 ∧ xE E 35 5 = (v2 4) := xXf hF 3 rfl
          have m0 : xE E2 35 2 = 2 := xXm hM 0 rfl
          have m1 : xE E2 35 3 = (v2 4) := xXm hM 1 rfl
          have e35_4 : xE E2 35 4 = xE E 35 4 := xFr_E hfr rfl
          have q35_4 : xE E 35 4 = xE E0 35 4 := xFr_E hFr0 rfl
          have e35_5 : xE E2 35 5 = xE E 35 5 := xFr_E hfr rfl
          have e35_6 : xE E2 35 6 = xE E 35 6 := xFr_E hfr rfl
          have e35_7 : xE E2 35 7 = xE E 35 7 := xFr_E hfr rfl
          have e35_8 : xE E2 35 8 = xE E 35 8 := xFr_E hfr rfl
          have e36 : ∀ i, xE E2 36 i = xE E 36 i := fun i => xFr_E hfr rfl
          have q36 : ∀ i, xE E 36 i = xE E0 36 i := fun i => xFr_E hFr0 rfl
          have hI : E = E0 ∧ sW (xE E0 36) (xE E0 35 7) (xE E0 35 5) (xE E0 35 6) [115, 119, 105, 116, 99, 104] = false ∧ sW (xE E0 36) (xE E0 35 7) (xE E0 35 5) (xE E0 35 6) [98, 111, 98, 98, 105, 110] = false ∧ sW (xE E0 36) (xE E0 35 7) (xE E0 35 5) (xE E0 35 6) [115, 116, 117, 99, 107] = false ∧ sW (xE E0 36) (xE E0 35 7) (xE E0 35 5) (xE E0 35 6) [102, 114, 101, 101] = false ∧ sW (xE E0 36) (xE E0 35 7) (xE E0 35 5) (xE E0 35 6) [112, 108, 97, 99, 101] = false ∧ (v 2) = if sW (xE E0 36) (xE E0 35 7) (xE E0 35 5) (xE E0 35 6) [119, 111, 114, 100] = true then 1 else 0 := hInv
          have q35_5 : xE E 35 5 = xE E0 35 5 := by rw [hI.1]
          have q35_6 : xE E 35 6 = xE E0 35 6 := by rw [hI.1]
          have q35_7 : xE E 35 7 = xE E0 35 7 := by rw [hI.1]
          have q35_8 : xE E 35 8 = xE E0 35 8 := by rw [hI.1]
          have q35_2 : xE E 35 2 = xE E0 35 2 := by rw [hI.1]
          have q35_3 : xE E 35 3 = xE E0 35 3 := by rw [hI.1]
          show xΨfrl0 x0 E0 E2 0
          obtain ⟨hE, n0, n1, n2, n3, n4, i3⟩ := hI
          obtain ⟨S0, hS0⟩ := hΦ.2.1
          obtain ⟨pp, hpp, hA0⟩ := hΦ.2.2
          have n5 : sW (xE E0 36) (xE E0 35 7) (xE E0 35 5) (xE E0 35 6) [119, 111, 114, 100] = false := by
            rw [Bool.eq_false_iff]
            intro h
            rw [if_pos h] at i3
            omega
          subst hE
          intro p S hp ⟨a1, a2, a3, a4⟩ hS
          have hm : pMis (xE E 36) (xE E 35 4) p = 2 := by unfold pMis; rw [if_neg (by omega)]
          rw [a1, a2, a3] at n0 n1 n2 n3 n4 n5
          unfold pLine pBody tW
          rw [n0, if_neg (by decide), n1, if_neg (by decide), n2, if_neg (by decide), n3, if_neg (by decide), n4, if_neg (by decide), n5, if_neg (by decide), hm]
          exact xOut0_e rfl (by omega) (by omega)
        · skip
          have ex := List.mem_singleton.mp hx
          subst ex
          obtain ⟨hF, hBd, hM⟩ := hXs
          have g2 : v2 2 = v 2 := hag 2 (by decide)
          have b0 : ((2147483648 : Nat) : Int) ≤ (v2 2) + 2147483648 ∧ (v2 2) + 2147483648 ≤ ((2147483648 : Nat) : Int) := xXb hBd 0 rfl
          have b1 : ((2147483649 : Nat) : Int) ≤ (v2 3) + 2147483648 ∧ (v2 3) + 2147483648 ≤ ((2147483649 : Nat) : Int) := xXb hBd 1 rfl
          have b2 : ((2147483648 : Nat) : Int) ≤ (v2 4) + 2147483648 ∧ (v2 4) + 2147483648 ≤ ((2147484548 : Nat) : Int) := xXb hBd 2 rfl
          have f0 : (v2 2) = 0 := xXf hF 0 rfl
          have f1 : (0 : Int) ≤ 7 ∧ xE E 35 7 = (v2 3) := xXf hF 1 rfl
          have f2 : (v2 3) = 1 := xXf hF 2 rfl
          have f3 : (0 : Int) ≤ 5 ∧ xE E 35 5 = (v2 4) := xXf hF 3 rfl
          have m0 : xE E2 35 2 = 1 := xXm hM 0 rfl
          have m1 : xE E2 35 3 = (v2 4) := xXm hM 1 rfl
          have e35_4 : xE E2 35 4 = xE E 35 4 := xFr_E hfr rfl
          have q35_4 : xE E 35 4 = xE E0 35 4 := xFr_E hFr0 rfl
          have e35_5 : xE E2 35 5 = xE E 35 5 := xFr_E hfr rfl
          have e35_6 : xE E2 35 6 = xE E 35 6 := xFr_E hfr rfl
          have e35_7 : xE E2 35 7 = xE E 35 7 := xFr_E hfr rfl
          have e35_8 : xE E2 35 8 = xE E 35 8 := xFr_E hfr rfl
          have e36 : ∀ i, xE E2 36 i = xE E 36 i := fun i => xFr_E hfr rfl
          have q36 : ∀ i, xE E 36 i = xE E0 36 i := fun i => xFr_E hFr0 rfl
          have hI : E = E0 ∧ sW (xE E0 36) (xE E0 35 7) (xE E0 35 5) (xE E0 35 6) [115, 119, 105, 116, 99, 104] = false ∧ sW (xE E0 36) (xE E0 35 7) (xE E0 35 5) (xE E0 35 6) [98, 111, 98, 98, 105, 110] = false ∧ sW (xE E0 36) (xE E0 35 7) (xE E0 35 5) (xE E0 35 6) [115, 116, 117, 99, 107] = false ∧ sW (xE E0 36) (xE E0 35 7) (xE E0 35 5) (xE E0 35 6) [102, 114, 101, 101] = false ∧ sW (xE E0 36) (xE E0 35 7) (xE E0 35 5) (xE E0 35 6) [112, 108, 97, 99, 101] = false ∧ (v 2) = if sW (xE E0 36) (xE E0 35 7) (xE E0 35 5) (xE E0 35 6) [119, 111, 114, 100] = true then 1 else 0 := hInv
          have q35_5 : xE E 35 5 = xE E0 35 5 := by rw [hI.1]
          have q35_6 : xE E 35 6 = xE E0 35 6 := by rw [hI.1]
          have q35_7 : xE E 35 7 = xE E0 35 7 := by rw [hI.1]
          have q35_8 : xE E 35 8 = xE E0 35 8 := by rw [hI.1]
          have q35_2 : xE E 35 2 = xE E0 35 2 := by rw [hI.1]
          have q35_3 : xE E 35 3 = xE E0 35 3 := by rw [hI.1]
          show xΨfrl0 x0 E0 E2 0
          obtain ⟨hE, n0, n1, n2, n3, n4, i3⟩ := hI
          obtain ⟨S0, hS0⟩ := hΦ.2.1
          obtain ⟨pp, hpp, hA0⟩ := hΦ.2.2
          have n5 : sW (xE E0 36) (xE E0 35 7) (xE E0 35 5) (xE E0 35 6) [119, 111, 114, 100] = false := by
            rw [Bool.eq_false_iff]
            intro h
            rw [if_pos h] at i3
            omega
          subst hE
          intro p S hp ⟨a1, a2, a3, a4⟩ hS
          have hm : pMis (xE E 36) (xE E 35 4) p = 1 := by unfold pMis; rw [if_pos (by omega)]
          rw [a1, a2, a3] at n0 n1 n2 n3 n4 n5
          unfold pLine pBody tW
          rw [n0, if_neg (by decide), n1, if_neg (by decide), n2, if_neg (by decide), n3, if_neg (by decide), n4, if_neg (by decide), n5, if_neg (by decide), hm]
          exact xOut0_e rfl (by omega) (by omega)
    · have hx : x ∈ [zxfrl0_r5r0] := hx
      have hag : ∀ k, k < 3 → v2 k = v k := hag
      have hfr : xFr [] _ _ := hfr
      have ex := List.mem_singleton.mp hx
      subst ex
      obtain ⟨hF, hBd, hM⟩ := hXs
      have g2 : v2 2 = v 2 := hag 2 (by decide)
      have b0 : ((2147483648 : Nat) : Int) ≤ (v2 2) + 2147483648 ∧ (v2 2) + 2147483648 ≤ ((2147483649 : Nat) : Int) := xXb hBd 0 rfl
      have e35_4 : xE E2 35 4 = xE E 35 4 := xFr_E hfr rfl
      have q35_4 : xE E 35 4 = xE E0 35 4 := xFr_E hFr0 rfl
      have e35_5 : xE E2 35 5 = xE E 35 5 := xFr_E hfr rfl
      have e35_6 : xE E2 35 6 = xE E 35 6 := xFr_E hfr rfl
      have e35_7 : xE E2 35 7 = xE E 35 7 := xFr_E hfr rfl
      have e35_8 : xE E2 35 8 = xE E 35 8 := xFr_E hfr rfl
      have e35_2 : xE E2 35 2 = xE E 35 2 := xFr_E hfr rfl
      have e35_3 : xE E2 35 3 = xE E 35 3 := xFr_E hfr rfl
      have e36 : ∀ i, xE E2 36 i = xE E 36 i := fun i => xFr_E hfr rfl
      have q36 : ∀ i, xE E 36 i = xE E0 36 i := fun i => xFr_E hFr0 rfl
      have hI : E0 = E0 ∧ ∀ p S, p ≤ xE E0 35 4 → xAD (xE E0 36) (xE E0 35 4) p E0 → xAb0 E0 S → xOut0 (pLine (xE E0 36) (xE E0 35 4) p S) E (v 2) := hInv
      show xΨfrl0 x0 E0 E2 (v2 2)
      have hE2 := xFr_n hfr
      subst hE2
      intro p S hp hA hS
      have w := hI.2 p S hp hA hS
      rw [show (v 2) = v2 2 by omega] at w
      exact w
end
section
/-! THE CLASS reads: readSwitch, plan at place 18 -/
noncomputable def zxfrs17_ax0 : zyXp := (11, [283, 147, 13, 13, 13], [206158430201, 0, 283], [(24, 171798691841, 19, 24)], [(171798691841, 2147483648, 2147483679), (206158430201, 2147483647, 2147483678)], [])
noncomputable def zpfrs17_a : zyPh := (0, [283, 147, 13, 13, 13], [(0, 4294967295), (0, 4294967295), (0, 4294967295), (0, 4294967295), (0, 4294967295)], [], [])
noncomputable def zxfrs17_bx0 : zyXp := (27, [283, 147, 206158430209, 13, 13], [8, 0, 283], [(23, 0, 171798691841, 0), (24, 206158430209, 35, 64)], [(171798691841, 2147483649, 2147483649)], [])
noncomputable def zxfrs17_br0 : zyXp := (0, [], [0], [(22, 0, 171798691841, 0)], [(171798691841, 2147483648, 2147483648)], [])
noncomputable def zpfrs17_b : zyPh := (14, [283, 147, 13, 13, 13], [(0, 4294967295), (0, 4294967295), (0, 4294967295), (0, 4294967295), (0, 4294967295), (2147483648, 2147483649)], [], [171798691841])
noncomputable def zxfrs17_cx0 : zyXp := (43, [283, 147, 68719476737, 206158430209, 8], [], [(23, 0, 171798691841, 0), (24, 206158430209, 35, 64)], [(68719476737, 2147483648, 2147483678), (171798691841, 2147483649, 2147483649)], [])
noncomputable def zxfrs17_cr0 : zyXp := (0, [], [0], [(22, 0, 171798691841, 0)], [(171798691841, 2147483648, 2147483648)], [])
noncomputable def zpfrs17_c : zyPh := (30, [283, 147, 68719476737, 13, 13], [(0, 4294967295), (0, 4294967295), (2147483648, 2147483678), (0, 4294967295), (0, 4294967295), (2147483648, 2147483649)], [], [171798691841])
noncomputable def zxfrs17_dx0 : zyXp := (50, [283, 147, 68719476737, 103079215105, 137438953473], [283], [(21, 0, 32, 137438953473)], [(68719476737, 2147483648, 2147483678), (103079215105, 2147483648, 2147483679), (137438953473, 2147483649, 2147483652)], [])
noncomputable def zxfrs17_dr0 : zyXp := (0, [], [0], [(20, 0, 32, 137438953473), (24, 171798691841, 35, 40)], [(137438953473, 2147483653, 2147483653), (171798691841, 2147483648, 2147484548)], [(573442, 48), (573443, 171798691841)])
noncomputable def zpfrs17_d : zyPh := (43, [283, 147, 68719476737, 103079215105, 137438953473], [(0, 4294967295), (0, 4294967295), (2147483648, 2147483678), (2147483648, 2147483679), (2147483649, 2147483653)], [], [])
noncomputable def zxfrs17_ex0 : zyXp := (43, [283, 147, 68719476737, 274877906945, 137438953481], [], [(24, 171798691841, 35, 56), (23, 0, 171798691841, 40), (22, 0, 171798691841, 24), (24, 206158430209, 35, 64), (21, 0, 206158430209, 0), (21, 0, 8, 206158430209), (8, 240518168577, 206158430209, 137438953473), (7, 274877906945, 103079215105, 240518168577)], [(68719476737, 2147483648, 2147483678), (103079215105, 2147483648, 2147483679), (137438953473, 2147483649, 2147483652), (171798691841, 2147483651, 2147483651), (206158430209, 2147483648, 2147483649), (240518168577, 2147483648, 2147483664), (274877906945, 2147483648, 2147483679), (137438953481, 2147483650, 2147483653)], [])
noncomputable def zxfrs17_ex1 : zyXp := (67, [283, 147, 68719476737, 103079215105, 137438953473], [103079215105, 68719476737, 219], [(24, 171798691841, 35, 56), (22, 0, 171798691841, 40)], [(68719476737, 2147483648, 2147483678), (103079215105, 2147483648, 2147483679), (137438953473, 2147483649, 2147483652), (171798691841, 2147483653, 2147483653)], [])
noncomputable def zxfrs17_er0 : zyXp := (0, [], [0], [(24, 171798691841, 35, 56), (23, 0, 171798691841, 40), (23, 0, 171798691841, 24), (23, 0, 171798691841, 8), (24, 206158430209, 35, 40)], [(171798691841, 2147483652, 2147483652), (206158430209, 2147483648, 2147484548)], [(573442, 16), (573443, 206158430209)])
noncomputable def zxfrs17_er1 : zyXp := (0, [], [0], [(24, 171798691841, 35, 56), (23, 0, 171798691841, 40), (23, 0, 171798691841, 24), (23, 0, 171798691841, 8), (24, 206158430209, 35, 40)], [(171798691841, 2147483650, 2147483650), (206158430209, 2147483648, 2147484548)], [(573442, 16), (573443, 206158430209)])
noncomputable def zxfrs17_er2 : zyXp := (0, [], [0], [(24, 171798691841, 35, 56), (23, 0, 171798691841, 40), (23, 0, 171798691841, 24), (23, 0, 171798691841, 8), (24, 206158430209, 35, 40)], [(171798691841, 2147483648, 2147483648), (206158430209, 2147483648, 2147484548)], [(573442, 16), (573443, 206158430209)])
noncomputable def zxfrs17_er3 : zyXp := (0, [], [0], [(24, 171798691841, 35, 56), (23, 0, 171798691841, 40), (23, 0, 171798691841, 24), (22, 0, 171798691841, 8), (24, 206158430209, 35, 40)], [(171798691841, 2147483649, 2147483649), (206158430209, 2147483648, 2147484548)], [(573442, 8), (573443, 206158430209)])
noncomputable def zxfrs17_er4 : zyXp := (0, [], [0], [(24, 171798691841, 35, 56), (23, 0, 171798691841, 40), (22, 0, 171798691841, 24), (24, 206158430209, 35, 64), (20, 0, 206158430209, 0), (24, 240518168577, 35, 40)], [(171798691841, 2147483651, 2147483651), (206158430209, 0, 2147483647), (240518168577, 2147483648, 2147484548)], [(573442, 24), (573443, 240518168577)])
noncomputable def zxfrs17_er5 : zyXp := (0, [], [0], [(24, 171798691841, 35, 56), (23, 0, 171798691841, 40), (22, 0, 171798691841, 24), (24, 206158430209, 35, 64), (21, 0, 206158430209, 0), (20, 0, 8, 206158430209), (24, 240518168577, 35, 40)], [(171798691841, 2147483651, 2147483651), (206158430209, 2147483650, 4294967295), (240518168577, 2147483648, 2147484548)], [(573442, 24), (573443, 240518168577)])
noncomputable def zpfrs17_e : zyPh := (53, [283, 147, 68719476737, 103079215105, 137438953473], [(0, 4294967295), (0, 4294967295), (2147483648, 2147483678), (2147483648, 2147483679), (2147483649, 2147483652)], [], [])
noncomputable def zxfrs17_fx0 : zyXp := (75, [283, 147, 68719476737, 103079215105, 137438953473], [137438953473, 68719476737, 227], [], [(68719476737, 2147483648, 2147483678), (103079215105, 2147483648, 2147483679), (137438953473, 2147483649, 2147483652)], [])
noncomputable def zpfrs17_f : zyPh := (68, [283, 147, 68719476737, 103079215105, 137438953473], [(0, 4294967295), (0, 4294967295), (2147483648, 2147483678), (2147483648, 2147483679), (2147483649, 2147483652)], [], [])
noncomputable def zxfrs17_gr0 : zyXp := (0, [], [8], [], [], [])
noncomputable def zpfrs17_g : zyPh := (76, [283, 147, 13, 13, 13], [(0, 4294967295), (0, 4294967295), (0, 4294967295), (0, 4294967295), (0, 4294967295)], [], [])
noncomputable def zpfrs17 (i : Nat) : zyPh := zif (Nat.beq i 0) (zpfrs17_a) (zif (Nat.beq i 1) (zpfrs17_b) (zif (Nat.beq i 2) (zpfrs17_c) (zif (Nat.beq i 3) (zpfrs17_d) (zif (Nat.beq i 4) (zpfrs17_e) (zif (Nat.beq i 5) (zpfrs17_f) (zpfrs17_g))))))
noncomputable def zXfrs17 (i : Nat) : List zyXp := zif (Nat.beq i 0) ([zxfrs17_ax0]) (zif (Nat.beq i 1) ([zxfrs17_bx0]) (zif (Nat.beq i 2) ([zxfrs17_cx0]) (zif (Nat.beq i 3) ([zxfrs17_dx0]) (zif (Nat.beq i 4) ([zxfrs17_ex0, zxfrs17_ex1]) (zif (Nat.beq i 5) ([zxfrs17_fx0]) ([]))))))
noncomputable def zRfrs17 (i : Nat) : List zyXp := zif (Nat.beq i 0) ([]) (zif (Nat.beq i 1) ([zxfrs17_br0]) (zif (Nat.beq i 2) ([zxfrs17_cr0]) (zif (Nat.beq i 3) ([zxfrs17_dr0]) (zif (Nat.beq i 4) ([zxfrs17_er0, zxfrs17_er1, zxfrs17_er2, zxfrs17_er3, zxfrs17_er4, zxfrs17_er5]) (zif (Nat.beq i 5) ([]) ([zxfrs17_gr0]))))))
noncomputable def zFfrs17 (i : Nat) : zyR := zif (Nat.beq i 0) ([]) (zif (Nat.beq i 1) ([]) (zif (Nat.beq i 2) ([]) (zif (Nat.beq i 3) ([(35, 2, 3)]) (zif (Nat.beq i 4) ([(35, 2, 3)]) (zif (Nat.beq i 5) ([]) ([]))))))
noncomputable def zSfrs17 (i : Nat) : Nat := zif (Nat.beq i 0) (0) (zif (Nat.beq i 1) (0) (zif (Nat.beq i 2) (0) (zif (Nat.beq i 3) (0) (zif (Nat.beq i 4) (0) (zif (Nat.beq i 5) (0) (0))))))
theorem xAb17_sw {E E2 : zyEm} {S : Int → Int} {g b l : Int} (h : xAb17 E S) (hg : 0 ≤ g ∧ g < 31) (hf : xFr [(35, 2, 3), (35, 5, 8), (27, 0, 30), (28, 0, 30)] E E2) (h1 : xE E2 27 g = b) (h2 : ∀ k, 0 ≤ k → ¬ k = g → xE E2 27 k = xE E 27 k) (h3 : xE E2 28 g = l) (h4 : ∀ k, 0 ≤ k → ¬ k = g → xE E2 28 k = xE E 28 k) : xAb17 E2 (uS (uS S (8 + g) b) (40 + g) l) := by
  obtain ⟨a0, a1, a2, a3, a4, a5, a6⟩ := h
  have u : ∀ j, ¬ j = 8 + g → ¬ j = 40 + g → uS (uS S (8 + g) b) (40 + g) l j = S j := fun j h1 h2 => (uS_n h2).trans (uS_n h1)
  have u0 := u 0 (by omega) (by omega)
  have u1 := u 1 (by omega) (by omega)
  have u2 := u 2 (by omega) (by omega)
  have u5 := u 5 (by omega) (by omega)
  refine ⟨by rw [u0, u1, u2, u5]; exact a0, ?_, ?_, ?_, ?_, ?_, ?_⟩
  · rw [u0, u1, xFr_E hf rfl, xFr_E hf rfl, xFr_E hf rfl, xFr_E hf rfl]
    exact a1
  · intro s s0 s1
    rw [u0, u1] at s1 ⊢
    rw [xFr_E hf rfl]
    exact a2 s s0 s1
  · rw [u2, xFr_E hf rfl]
    refine ⟨a3.1, fun k k0 k1 => ?_⟩
    rw [u (136 + k) (by omega) (by omega), u (152 + k) (by omega) (by omega), xFr_E hf rfl, xFr_E hf rfl]
    exact a3.2 k k0 k1
  · intro k k0 k1
    have w := a4 k k0 k1
    rw [u (72 + k) (by omega) (by omega), u (104 + k) (by omega) (by omega), xFr_E (a := 29) (i := k) hf rfl, xFr_E (a := 30) (i := k) hf rfl]
    by_cases e : k = g
    · subst e
      refine ⟨?_, ?_, w.2.2.1, w.2.2.2⟩
      · rw [uS_n (by omega), uS_e rfl, h1]
      · rw [uS_e rfl, h3]
    · refine ⟨?_, ?_, w.2.2.1, w.2.2.2⟩
      · rw [u (8 + k) (by omega) (by omega), h2 k k0 e]
        exact w.1
      · rw [u (40 + k) (by omega) (by omega), h4 k k0 e]
        exact w.2.1
  · rw [u5, xFr_E hf rfl, xFr_E hf rfl]
    exact a5
  · intro k k0 k1
    rw [u5] at k1
    rw [u (460 + k) (by omega) (by omega), xFr_E hf rfl]
    exact a6 k k0 k1
def xΨfrs17 (_ : Nat → Int) (E E2 : zyEm) (r : Int) : Prop := ∀ S, xAb17 E S → xOut17 (pBind (pSwitch (xE E 36) (xE E 35 4) (xE E 35 6) S) (pSem (xE E 36) (xE E 35 4))) E2 r
noncomputable def fpfrs17 : zyR := [(35, 2, 3), (35, 5, 8), (27, 0, 30), (28, 0, 30)]
theorem zyfrs17_run : zyrS zymc zxi62 (62, 0, 0, 2, 0) 4 zpfrs17 (fun _ _ => []) zFfrs17 zSfrs17 zXfrs17 zRfrs17 7 = true := by decide +kernel
theorem zyfrs17_ck : zyAll (fun i => xsubR (zFfrs17 i) fpfrs17 && ((zXfrs17 i).all xckX && (zRfrs17 i).all (fun x => xckX x && xrtB true x))) 7 = true := by decide +kernel
def xIfrs17 (i : Nat) (x0 : Nat → Int) (E0 : zyEm) (v : Nat → Int) (E : zyEm) : Prop := if i = 0 then (E = E0) else if i = 1 then (xTN (xE E0 36) (xE E0 35 4) (xE E0 35 6) 0 (xE E0 19 3 - 1) E (v 5) ∧ (∀ k, xE E 27 k = xE E0 27 k) ∧ (∀ k, xE E 28 k = xE E0 28 k)) else if i = 2 then ((0 ≤ (v 2) ∧ (v 2) < xE E0 19 3) ∧ ∃ p1, p1 ≤ (xE E0 35 4) ∧ (∀ S, xAb17 E0 S → pSwitch (xE E0 36) (xE E0 35 4) (xE E0 35 6) S = pNum (xE E0 36) (xE E0 35 4) p1 0 1 (fun b p2 => pBits (xE E0 36) (xE E0 35 4) S (v 2) 3 p2 1 b)) ∧ xTN (xE E0 36) (xE E0 35 4) p1 0 1 E (v 5) ∧ (∀ k, xE E 27 k = xE E0 27 k) ∧ (∀ k, xE E 28 k = xE E0 28 k)) else if i = 3 then ((0 ≤ (v 2) ∧ (v 2) < xE E0 19 3) ∧ xE E 35 6 ≤ (xE E0 35 4) ∧ ((∀ k, xE E 27 k = xE E0 27 k) ∧ (∀ k, xE E 28 k = xE E0 28 k)) ∧ ((1 ≤ (v 4) ∧ (v 4) ≤ 4 ∧ ∀ S, xAb17 E0 S → pSwitch (xE E0 36) (xE E0 35 4) (xE E0 35 6) S = pBits (xE E0 36) (xE E0 35 4) S (v 2) (4 - (v 4)).toNat (xE E 35 6) (v 4) (v 3)) ∨ ((v 4) = 5 ∧ ∀ S, xAb17 E0 S → pSwitch (xE E0 36) (xE E0 35 4) (xE E0 35 6) S = .error (6, xE E 35 5)))) else if i = 4 then ((0 ≤ (v 2) ∧ (v 2) < xE E0 19 3) ∧ (1 ≤ (v 4) ∧ (v 4) ≤ 4) ∧ ∃ p1, p1 ≤ (xE E0 35 4) ∧ (∀ S, xAb17 E0 S → pSwitch (xE E0 36) (xE E0 35 4) (xE E0 35 6) S = pBits (xE E0 36) (xE E0 35 4) S (v 2) (4 - (v 4)).toNat p1 (v 4) (v 3)) ∧ xAD (xE E0 36) (xE E0 35 4) p1 E ∧ (∀ k, xE E 27 k = xE E0 27 k) ∧ (∀ k, xE E 28 k = xE E0 28 k)) else if i = 5 then ((0 ≤ (v 2) ∧ (v 2) < xE E0 19 3) ∧ (∀ S, xAb17 E0 S → pBind (pSwitch (xE E0 36) (xE E0 35 4) (xE E0 35 6) S) (pSem (xE E0 36) (xE E0 35 4)) = .ok (xE E 35 6, uS (uS S (8 + (v 2)) (v 3)) (40 + (v 2)) (v 4))) ∧ xE E 27 (v 2) = (v 3) ∧ (∀ k, 0 ≤ k → ¬ k = (v 2) → xE E 27 k = xE E0 27 k) ∧ ∀ k, xE E 28 k = xE E0 28 k) else (∃ g b l, (0 ≤ g ∧ g < xE E0 19 3) ∧ (∀ S, xAb17 E0 S → pBind (pSwitch (xE E0 36) (xE E0 35 4) (xE E0 35 6) S) (pSem (xE E0 36) (xE E0 35 4)) = .ok (xE E 35 6, uS (uS S (8 + g) b) (40 + g) l)) ∧ xE E 27 g = b ∧ (∀ k, 0 ≤ k → ¬ k = g → xE E 27 k = xE E0 27 k) ∧ xE E 28 g = l ∧ (∀ k, 0 ≤ k → ¬ k = g → xE E 28 k = xE E0 28 k))
def xMfrs17 (i : Nat) (x0 : Nat → Int) (E0 : zyEm) (v : Nat → Int) (E : zyEm) : Nat := if i = 0 then (100) else if i = 1 then (99) else if i = 2 then (98) else if i = 3 then (50 + 2 * (10 - (v 4)).toNat) else if i = 4 then (49 + 2 * (10 - (v 4)).toNat) else if i = 5 then (2) else (1)
theorem xRs17 {l : Launch} {en : zEn} {me : zMe} (hen : zG zxMeta 62 = some en) (hme : zG zMeth 62 = some me) : xFc l zymc en me 4 [35, 18] 0 fpfrs17 true xΦrd17 xΨfrs17 := by
  have een : zG zxMeta 62 = some (zxi62, 2, 5, 5, 62, 0, 0, 2, 0) := rfl
  obtain ⟨me1, hme1, hOK⟩ := zall hen
  rw [hme] at hme1
  cases hme1
  rw [een] at hen
  cases hen
  have hr := zyfrs17_run
  have hck := fun i hi => zyAll_iff zyfrs17_ck i hi
  simp only [Bool.and_eq_true] at hck
  obtain ⟨meftn, hmeftn, -⟩ := zall (show zG zxMeta 69 = some (zxi69, 3, 3, 5, 69, 0, 0, 2, 0) from rfl)
  have hftn := xTn (l := l) (show zG zxMeta 69 = some (zxi69, 3, 3, 5, 69, 0, 0, 2, 0) from rfl) hmeftn
  obtain ⟨mefad, hmefad, -⟩ := zall (show zG zxMeta 73 = some (zxi73, 1, 1, 5, 73, 0, 0, 0, 0) from rfl)
  have hfad := xAd (l := l) (show zG zxMeta 73 = some (zxi73, 1, 1, 5, 73, 0, 0, 0, 0) from rfl) hmefad
  intro B
  refine xcut (mi := zymc) (B := B) hOK rfl rfl (ι := Fin 7) (fun i => zpfrs17 i.val) (fun _ _ => []) (fun i => zFfrs17 i.val) (fun i => zSfrs17 i.val) (fun i => zXfrs17 i.val) (fun i => zRfrs17 i.val) (fun i y2 ct en2 me2 h => by cases h) 200000 (fun i => zyAll_iff hr i.val i.isLt) (fun i => (hck i.val i.isLt).1) (fun i => (hck i.val i.isLt).2.1) (fun i => (hck i.val i.isLt).2.2) ⟨0, by decide⟩ ⟨rfl, rfl, rfl, rfl⟩ ⟨by decide, by decide⟩ (fun i x0 E0 v E => xIfrs17 i.val x0 E0 v E) (fun i x0 E0 v E => xMfrs17 i.val x0 E0 v E) ?_ ?_ ?_
  · intro x0 E hx0 hT hΦ
    have hΦ : xΦrd17 x0 E := hΦ
    refine ⟨fun k p hp => ?_, ?_⟩
    · have hk : k < 5 := (List.getElem?_eq_some_iff.mp hp).1
      have hk : k = 0 ∨ k = 1 ∨ k = 2 ∨ k = 3 ∨ k = 4 := by omega
      rcases hk with rfl | rfl | rfl | rfl | rfl
      · have hp : some (0, 4294967295) = some p := hp
        cases hp
        show ((0 : Nat) : Int) ≤ 0 + 2147483648 ∧ 0 + 2147483648 ≤ ((4294967295 : Nat) : Int)
        omega
      · have hp : some (0, 4294967295) = some p := hp
        cases hp
        show ((0 : Nat) : Int) ≤ 0 + 2147483648 ∧ 0 + 2147483648 ≤ ((4294967295 : Nat) : Int)
        omega
      · have hp : some (0, 4294967295) = some p := hp
        cases hp
        show ((0 : Nat) : Int) ≤ x0 0 + 2147483648 ∧ x0 0 + 2147483648 ≤ ((4294967295 : Nat) : Int)
        have hx := hx0 0
        omega
      · have hp : some (0, 4294967295) = some p := hp
        cases hp
        show ((0 : Nat) : Int) ≤ x0 1 + 2147483648 ∧ x0 1 + 2147483648 ≤ ((4294967295 : Nat) : Int)
        have hx := hx0 1
        omega
      · have hp : some (0, 4294967295) = some p := hp
        cases hp
        show ((0 : Nat) : Int) ≤ x0 2 + 2147483648 ∧ x0 2 + 2147483648 ≤ ((4294967295 : Nat) : Int)
        have hx := hx0 2
        omega
    · show E = E
      rfl
  · intro x0 s Wg hRu hrx hT0 hΦ i v H hT hrv hInv hKc hFr0 hIH x hx ρ2 v2 N2 H2 locs lsB stA hAt hB hv hr2 hXs hag hfr hFr hT2
    rcases i with ⟨i, hi⟩
    have hi2 : i = 0 ∨ i = 1 ∨ i = 2 ∨ i = 3 ∨ i = 4 ∨ i = 5 ∨ i = 6 := by omega
    rcases hi2 with rfl | rfl | rfl | rfl | rfl | rfl | rfl
    · have hx : x ∈ [zxfrs17_ax0] := hx
      have hag : ∀ k, k < 5 → v2 k = v k := hag
      have hfr : xFr [] _ _ := hfr
      have ex := List.mem_singleton.mp hx
      subst ex
      obtain ⟨hF, hBd, hM⟩ := hXs
      have b0 : ((2147483648 : Nat) : Int) ≤ (v2 5) + 2147483648 ∧ (v2 5) + 2147483648 ≤ ((2147483679 : Nat) : Int) := xXb hBd 0 rfl
      have b1 : ((2147483647 : Nat) : Int) ≤ (v2 5 + (-1)) + 2147483648 ∧ (v2 5 + (-1)) + 2147483648 ≤ ((2147483678 : Nat) : Int) := xXb hBd 1 rfl
      have f0 : (0 : Int) ≤ 3 ∧ xE (zyEl zymc B H) 19 3 = (v2 5) := xXf hF 0 rfl
      have e35_4 : xE (zyEl zymc B H2) 35 4 = xE (zyEl zymc B H) 35 4 := xFr_E hfr rfl
      have q35_4 : xE (zyEl zymc B H) 35 4 = xE (zyEl zymc B s.heap) 35 4 := xFr_E hFr0 rfl
      have e35_5 : xE (zyEl zymc B H2) 35 5 = xE (zyEl zymc B H) 35 5 := xFr_E hfr rfl
      have e35_6 : xE (zyEl zymc B H2) 35 6 = xE (zyEl zymc B H) 35 6 := xFr_E hfr rfl
      have e35_7 : xE (zyEl zymc B H2) 35 7 = xE (zyEl zymc B H) 35 7 := xFr_E hfr rfl
      have e35_8 : xE (zyEl zymc B H2) 35 8 = xE (zyEl zymc B H) 35 8 := xFr_E hfr rfl
      have e35_2 : xE (zyEl zymc B H2) 35 2 = xE (zyEl zymc B H) 35 2 := xFr_E hfr rfl
      have e35_3 : xE (zyEl zymc B H2) 35 3 = xE (zyEl zymc B H) 35 3 := xFr_E hfr rfl
      have e19_3 : xE (zyEl zymc B H2) 19 3 = xE (zyEl zymc B H) 19 3 := xFr_E hfr rfl
      have q19_3 : xE (zyEl zymc B H) 19 3 = xE (zyEl zymc B s.heap) 19 3 := xFr_E hFr0 rfl
      have e36 : ∀ i, xE (zyEl zymc B H2) 36 i = xE (zyEl zymc B H) 36 i := fun i => xFr_E hfr rfl
      have q36 : ∀ i, xE (zyEl zymc B H) 36 i = xE (zyEl zymc B s.heap) 36 i := fun i => xFr_E hFr0 rfl
      have e27 : ∀ i, xE (zyEl zymc B H2) 27 i = xE (zyEl zymc B H) 27 i := fun i => xFr_E hfr rfl
      have e28 : ∀ i, xE (zyEl zymc B H2) 28 i = xE (zyEl zymc B H) 28 i := fun i => xFr_E hfr rfl
      have y19_3 : ((2147483648 : Nat) : Int) ≤ xE (zyEl zymc B s.heap) 19 3 + 2147483648 ∧ xE (zyEl zymc B s.heap) 19 3 + 2147483648 ≤ ((2147483679 : Nat) : Int) := xTyF hT0 19 3 3 rfl rfl rfl rfl rfl rfl
      have hI : (zyEl zymc B H) = (zyEl zymc B s.heap) := hInv
      have q35_5 : xE (zyEl zymc B H) 35 5 = xE (zyEl zymc B s.heap) 35 5 := by rw [hI]
      have q35_6 : xE (zyEl zymc B H) 35 6 = xE (zyEl zymc B s.heap) 35 6 := by rw [hI]
      have q35_7 : xE (zyEl zymc B H) 35 7 = xE (zyEl zymc B s.heap) 35 7 := by rw [hI]
      have q35_8 : xE (zyEl zymc B H) 35 8 = xE (zyEl zymc B s.heap) 35 8 := by rw [hI]
      have q35_2 : xE (zyEl zymc B H) 35 2 = xE (zyEl zymc B s.heap) 35 2 := by rw [hI]
      have q35_3 : xE (zyEl zymc B H) 35 3 = xE (zyEl zymc B s.heap) 35 3 := by rw [hI]
      have q27 : ∀ i, xE (zyEl zymc B H) 27 i = xE (zyEl zymc B s.heap) 27 i := fun i => by rw [hI]
      have q28 : ∀ i, xE (zyEl zymc B H) 28 i = xE (zyEl zymc B s.heap) 28 i := fun i => by rw [hI]
      have tt : xE (zyEl zymc B H2) 36 = xE (zyEl zymc B s.heap) 36 := funext fun i => (e36 i).trans (q36 i)
      have tn : xE (zyEl zymc B H2) 35 4 = xE (zyEl zymc B s.heap) 35 4 := by omega
      refine xCa hRu hIH hAt hB hv hFr (hftn B) (ix := 60) (ax := 1104) rfl rfl rfl hmeftn ⟨_, rfl, rfl, by decide⟩ ⟨rfl, rfl, rfl⟩ (by decide) [0, 206158430201] [] [0, (v2 5 + (-1))] rfl ⟨rfl, rfl⟩ (by decide +kernel) (xcs_c rfl (xcs_c rfl xcs_n)) (by decide +kernel) ?_ (fun H3 r hT3 hf3 hFr3 hr3 hΨ3 => ?_)
      · show xΦad (xfv [0, (v2 5 + (-1))]) (zyEl zymc B H2)
        have hP := hΦ.1
        unfold xΦad
        omega
      · have hΨ3 : xΨtn (xfv [0, (v2 5 + (-1))]) (zyEl zymc B H2) (zyEl zymc B H3) r := hΨ3
        have d35_4 : xE (zyEl zymc B H3) 35 4 = xE (zyEl zymc B H2) 35 4 := xFr_E hf3 rfl
        have d19_3 : xE (zyEl zymc B H3) 19 3 = xE (zyEl zymc B H2) 19 3 := xFr_E hf3 rfl
        have d36 : ∀ i, xE (zyEl zymc B H3) 36 i = xE (zyEl zymc B H2) 36 i := fun i => xFr_E hf3 rfl
        have d27 : ∀ i, xE (zyEl zymc B H3) 27 i = xE (zyEl zymc B H2) 27 i := fun i => xFr_E hf3 rfl
        have d28 : ∀ i, xE (zyEl zymc B H3) 28 i = xE (zyEl zymc B H2) 28 i := fun i => xFr_E hf3 rfl
        unfold xΨtn at hΨ3
        rw [tt, tn, show xE (zyEl zymc B H2) 35 6 = xE (zyEl zymc B s.heap) 35 6 by omega, show xfv [0, (v2 5 + (-1))] 1 = xE (zyEl zymc B s.heap) 19 3 - 1 by show (v2 5 + (-1)) = _; omega] at hΨ3
        have hr01 := xtn_r hΨ3
        refine ⟨⟨1, by decide⟩, [0, 0, 0, 0, 0], [0, 0, 0, 0, 0, r], rfl, ⟨by decide +kernel, ⟨rfl, by decide +kernel⟩, (xcs_c rfl (xcs_c rfl (xcs_c rfl (xcs_c rfl (xcs_c rfl xcs_n))))), (xe_0 (xe_0 (xe_0 (xe_0 (xe_0 (xe_c (by omega) (by omega) rfl xe_n)))))), xkq_n⟩, (by rw [if_pos rfl]; exact ⟨5, [], rfl, by decide, rfl, xst_n⟩), ?_, ?_⟩
        · show xTN (xE (zyEl zymc B s.heap) 36) (xE (zyEl zymc B s.heap) 35 4) (xE (zyEl zymc B s.heap) 35 6) 0 (xE (zyEl zymc B s.heap) 19 3 - 1) (zyEl zymc B H3) (r : Int) ∧ (∀ k, xE (zyEl zymc B H3) 27 k = xE (zyEl zymc B s.heap) 27 k) ∧ (∀ k, xE (zyEl zymc B H3) 28 k = xE (zyEl zymc B s.heap) 28 k)
          exact ⟨hΨ3, ⟨fun k => by rw [d27 k, e27 k, q27 k], fun k => by rw [d28 k, e28 k, q28 k]⟩⟩
        · show 99 < 100
          omega
    · have hx : x ∈ [zxfrs17_bx0] := hx
      have hag : ∀ k, k < 6 → v2 k = v k := hag
      have hfr : xFr [] _ _ := hfr
      have ex := List.mem_singleton.mp hx
      subst ex
      obtain ⟨hF, hBd, hM⟩ := hXs
      have r6 := hr2 6
      have g5 : v2 5 = v 5 := hag 5 (by decide)
      have b0 : ((2147483649 : Nat) : Int) ≤ (v2 5) + 2147483648 ∧ (v2 5) + 2147483648 ≤ ((2147483649 : Nat) : Int) := xXb hBd 0 rfl
      have f0 : ¬ (v2 5) = 0 := xXf hF 0 rfl
      have f1 : (0 : Int) ≤ 8 ∧ xE (zyEl zymc B H) 35 8 = (v2 6) := xXf hF 1 rfl
      have e35_4 : xE (zyEl zymc B H2) 35 4 = xE (zyEl zymc B H) 35 4 := xFr_E hfr rfl
      have q35_4 : xE (zyEl zymc B H) 35 4 = xE (zyEl zymc B s.heap) 35 4 := xFr_E hFr0 rfl
      have e35_5 : xE (zyEl zymc B H2) 35 5 = xE (zyEl zymc B H) 35 5 := xFr_E hfr rfl
      have e35_6 : xE (zyEl zymc B H2) 35 6 = xE (zyEl zymc B H) 35 6 := xFr_E hfr rfl
      have e35_7 : xE (zyEl zymc B H2) 35 7 = xE (zyEl zymc B H) 35 7 := xFr_E hfr rfl
      have e35_8 : xE (zyEl zymc B H2) 35 8 = xE (zyEl zymc B H) 35 8 := xFr_E hfr rfl
      have e35_2 : xE (zyEl zymc B H2) 35 2 = xE (zyEl zymc B H) 35 2 := xFr_E hfr rfl
      have e35_3 : xE (zyEl zymc B H2) 35 3 = xE (zyEl zymc B H) 35 3 := xFr_E hfr rfl
      have e19_3 : xE (zyEl zymc B H2) 19 3 = xE (zyEl zymc B H) 19 3 := xFr_E hfr rfl
      have q19_3 : xE (zyEl zymc B H) 19 3 = xE (zyEl zymc B s.heap) 19 3 := xFr_E hFr0 rfl
      have e36 : ∀ i, xE (zyEl zymc B H2) 36 i = xE (zyEl zymc B H) 36 i := fun i => xFr_E hfr rfl
      have q36 : ∀ i, xE (zyEl zymc B H) 36 i = xE (zyEl zymc B s.heap) 36 i := fun i => xFr_E hFr0 rfl
      have e27 : ∀ i, xE (zyEl zymc B H2) 27 i = xE (zyEl zymc B H) 27 i := fun i => xFr_E hfr rfl
      have e28 : ∀ i, xE (zyEl zymc B H2) 28 i = xE (zyEl zymc B H) 28 i := fun i => xFr_E hfr rfl
      have y19_3 : ((2147483648 : Nat) : Int) ≤ xE (zyEl zymc B s.heap) 19 3 + 2147483648 ∧ xE (zyEl zymc B s.heap) 19 3 + 2147483648 ≤ ((2147483679 : Nat) : Int) := xTyF hT0 19 3 3 rfl rfl rfl rfl rfl rfl
      have hI : xTN (xE (zyEl zymc B s.heap) 36) (xE (zyEl zymc B s.heap) 35 4) (xE (zyEl zymc B s.heap) 35 6) 0 (xE (zyEl zymc B s.heap) 19 3 - 1) (zyEl zymc B H) (v 5) ∧ (∀ k, xE (zyEl zymc B H) 27 k = xE (zyEl zymc B s.heap) 27 k) ∧ (∀ k, xE (zyEl zymc B H) 28 k = xE (zyEl zymc B s.heap) 28 k) := hInv
      obtain ⟨i1, j0, j1⟩ := hI
      have tt : xE (zyEl zymc B H2) 36 = xE (zyEl zymc B s.heap) 36 := funext fun i => (e36 i).trans (q36 i)
      have tn : xE (zyEl zymc B H2) 35 4 = xE (zyEl zymc B s.heap) 35 4 := by omega
      obtain ⟨c1, c2, c3, c4, c5, c6, c7⟩ := xtn_1 i1 (by omega)
      have hPos := hΦ.1
      have hb := tNx_b (T := xE (zyEl zymc B s.heap) 36) (n := xE (zyEl zymc B s.heap) 35 4) (p := xE (zyEl zymc B s.heap) 35 6) hPos
      refine xCa hRu hIH hAt hB hv hFr (hftn B) (ix := 60) (ax := 1104) rfl rfl rfl hmeftn ⟨_, rfl, rfl, by decide⟩ ⟨rfl, rfl, rfl⟩ (by decide) [0, 8] [] [0, 1] rfl ⟨rfl, rfl⟩ (by decide +kernel) (xcs_c rfl (xcs_c rfl xcs_n)) (by decide +kernel) ?_ (fun H3 r hT3 hf3 hFr3 hr3 hΨ3 => ?_)
      · show xΦad (xfv [0, 1]) (zyEl zymc B H2)
        unfold xΦad
        omega
      · have hΨ3 : xΨtn (xfv [0, 1]) (zyEl zymc B H2) (zyEl zymc B H3) r := hΨ3
        have d35_4 : xE (zyEl zymc B H3) 35 4 = xE (zyEl zymc B H2) 35 4 := xFr_E hf3 rfl
        have d19_3 : xE (zyEl zymc B H3) 19 3 = xE (zyEl zymc B H2) 19 3 := xFr_E hf3 rfl
        have d36 : ∀ i, xE (zyEl zymc B H3) 36 i = xE (zyEl zymc B H2) 36 i := fun i => xFr_E hf3 rfl
        have d27 : ∀ i, xE (zyEl zymc B H3) 27 i = xE (zyEl zymc B H2) 27 i := fun i => xFr_E hf3 rfl
        have d28 : ∀ i, xE (zyEl zymc B H3) 28 i = xE (zyEl zymc B H2) 28 i := fun i => xFr_E hf3 rfl
        unfold xΨtn at hΨ3
        rw [tt, tn] at hΨ3
        have hr01 := xtn_r hΨ3
        refine ⟨⟨2, by decide⟩, [0, 0, 206158430209, 0, 0], [0, 0, (v2 6), 0, 0, r], rfl, ⟨by decide +kernel, ⟨rfl, by decide +kernel⟩, (xcs_c rfl (xcs_c rfl (xcs_c rfl (xcs_c rfl (xcs_c rfl xcs_n))))), (xe_0 (xe_0 (xe_c (by omega) (by omega) rfl (xe_0 (xe_0 (xe_c (by omega) (by omega) rfl xe_n)))))), xkq_n⟩, (by rw [if_pos rfl]; exact ⟨5, [], rfl, by decide, rfl, xst_n⟩), ?_, ?_⟩
        · show (0 ≤ ((v2 6) : Int) ∧ ((v2 6) : Int) < xE (zyEl zymc B s.heap) 19 3) ∧ ∃ p1, p1 ≤ (xE (zyEl zymc B s.heap) 35 4) ∧ (∀ S, xAb17 (zyEl zymc B s.heap) S → pSwitch (xE (zyEl zymc B s.heap) 36) (xE (zyEl zymc B s.heap) 35 4) (xE (zyEl zymc B s.heap) 35 6) S = pNum (xE (zyEl zymc B s.heap) 36) (xE (zyEl zymc B s.heap) 35 4) p1 0 1 (fun b p2 => pBits (xE (zyEl zymc B s.heap) 36) (xE (zyEl zymc B s.heap) 35 4) S ((v2 6) : Int) 3 p2 1 b)) ∧ xTN (xE (zyEl zymc B s.heap) 36) (xE (zyEl zymc B s.heap) 35 4) p1 0 1 (zyEl zymc B H3) (r : Int) ∧ (∀ k, xE (zyEl zymc B H3) 27 k = xE (zyEl zymc B s.heap) 27 k) ∧ (∀ k, xE (zyEl zymc B H3) 28 k = xE (zyEl zymc B s.heap) 28 k)
          refine ⟨by omega, xE (zyEl zymc B H2) 35 6, by omega, fun S hS => ?_, hΨ3, fun k => by rw [d27 k, e27 k, j0 k], fun k => by rw [d28 k, e28 k, j1 k]⟩
          unfold pSwitch
          rw [← hS.2.1.2.2.2, c7, show xE (zyEl zymc B H2) 35 6 = xE (zyEl zymc B H) 35 6 by omega, show xE (zyEl zymc B H) 35 8 = (v2 6) by omega]
        · show 98 < 99
          omega
    · have hx : x ∈ [zxfrs17_cx0] := hx
      have hag : ∀ k, k < 6 → v2 k = v k := hag
      have hfr : xFr [] _ _ := hfr
      have ex := List.mem_singleton.mp hx
      subst ex
      obtain ⟨hF, hBd, hM⟩ := hXs
      have r6 := hr2 6
      have g2 : v2 2 = v 2 := hag 2 (by decide)
      have g5 : v2 5 = v 5 := hag 5 (by decide)
      have b0 : ((2147483648 : Nat) : Int) ≤ (v2 2) + 2147483648 ∧ (v2 2) + 2147483648 ≤ ((2147483678 : Nat) : Int) := xXb hBd 0 rfl
      have b1 : ((2147483649 : Nat) : Int) ≤ (v2 5) + 2147483648 ∧ (v2 5) + 2147483648 ≤ ((2147483649 : Nat) : Int) := xXb hBd 1 rfl
      have f0 : ¬ (v2 5) = 0 := xXf hF 0 rfl
      have f1 : (0 : Int) ≤ 8 ∧ xE (zyEl zymc B H) 35 8 = (v2 6) := xXf hF 1 rfl
      have e35_4 : xE (zyEl zymc B H2) 35 4 = xE (zyEl zymc B H) 35 4 := xFr_E hfr rfl
      have q35_4 : xE (zyEl zymc B H) 35 4 = xE (zyEl zymc B s.heap) 35 4 := xFr_E hFr0 rfl
      have e35_5 : xE (zyEl zymc B H2) 35 5 = xE (zyEl zymc B H) 35 5 := xFr_E hfr rfl
      have e35_6 : xE (zyEl zymc B H2) 35 6 = xE (zyEl zymc B H) 35 6 := xFr_E hfr rfl
      have e35_7 : xE (zyEl zymc B H2) 35 7 = xE (zyEl zymc B H) 35 7 := xFr_E hfr rfl
      have e35_8 : xE (zyEl zymc B H2) 35 8 = xE (zyEl zymc B H) 35 8 := xFr_E hfr rfl
      have e35_2 : xE (zyEl zymc B H2) 35 2 = xE (zyEl zymc B H) 35 2 := xFr_E hfr rfl
      have e35_3 : xE (zyEl zymc B H2) 35 3 = xE (zyEl zymc B H) 35 3 := xFr_E hfr rfl
      have e19_3 : xE (zyEl zymc B H2) 19 3 = xE (zyEl zymc B H) 19 3 := xFr_E hfr rfl
      have q19_3 : xE (zyEl zymc B H) 19 3 = xE (zyEl zymc B s.heap) 19 3 := xFr_E hFr0 rfl
      have e36 : ∀ i, xE (zyEl zymc B H2) 36 i = xE (zyEl zymc B H) 36 i := fun i => xFr_E hfr rfl
      have q36 : ∀ i, xE (zyEl zymc B H) 36 i = xE (zyEl zymc B s.heap) 36 i := fun i => xFr_E hFr0 rfl
      have e27 : ∀ i, xE (zyEl zymc B H2) 27 i = xE (zyEl zymc B H) 27 i := fun i => xFr_E hfr rfl
      have e28 : ∀ i, xE (zyEl zymc B H2) 28 i = xE (zyEl zymc B H) 28 i := fun i => xFr_E hfr rfl
      have y19_3 : ((2147483648 : Nat) : Int) ≤ xE (zyEl zymc B s.heap) 19 3 + 2147483648 ∧ xE (zyEl zymc B s.heap) 19 3 + 2147483648 ≤ ((2147483679 : Nat) : Int) := xTyF hT0 19 3 3 rfl rfl rfl rfl rfl rfl
      have hI : (0 ≤ (v 2) ∧ (v 2) < xE (zyEl zymc B s.heap) 19 3) ∧ ∃ p1, p1 ≤ (xE (zyEl zymc B s.heap) 35 4) ∧ (∀ S, xAb17 (zyEl zymc B s.heap) S → pSwitch (xE (zyEl zymc B s.heap) 36) (xE (zyEl zymc B s.heap) 35 4) (xE (zyEl zymc B s.heap) 35 6) S = pNum (xE (zyEl zymc B s.heap) 36) (xE (zyEl zymc B s.heap) 35 4) p1 0 1 (fun b p2 => pBits (xE (zyEl zymc B s.heap) 36) (xE (zyEl zymc B s.heap) 35 4) S (v 2) 3 p2 1 b)) ∧ xTN (xE (zyEl zymc B s.heap) 36) (xE (zyEl zymc B s.heap) 35 4) p1 0 1 (zyEl zymc B H) (v 5) ∧ (∀ k, xE (zyEl zymc B H) 27 k = xE (zyEl zymc B s.heap) 27 k) ∧ (∀ k, xE (zyEl zymc B H) 28 k = xE (zyEl zymc B s.heap) 28 k) := hInv
      obtain ⟨i1, p1, i0, i2, i3, j0, j1⟩ := hI
      have hb := tNx_b (T := xE (zyEl zymc B s.heap) 36) (n := xE (zyEl zymc B s.heap) 35 4) (p := p1) i0
      obtain ⟨c1, c2, c3, c4, c5, c6, c7⟩ := xtn_1 i3 (by omega)
      refine xGo hIH hAt hB hv hFr ⟨3, by decide⟩ [0, 0, 68719476737, 206158430209, 8] [0, 0, (v2 2), (v2 6), 1] rfl ⟨by decide +kernel, ⟨rfl, by decide +kernel⟩, (xcs_c rfl (xcs_c rfl (xcs_c rfl (xcs_c rfl (xcs_c rfl xcs_n))))), (xe_0 (xe_0 (xe_c (by omega) (by omega) rfl (xe_c (by omega) (by omega) rfl (xe_c (by omega) (by omega) rfl xe_n))))), xkq_n⟩ xst_n ?_ ?_
      · show (0 ≤ ((v2 2) : Int) ∧ ((v2 2) : Int) < xE (zyEl zymc B s.heap) 19 3) ∧ xE (zyEl zymc B H2) 35 6 ≤ (xE (zyEl zymc B s.heap) 35 4) ∧ ((∀ k, xE (zyEl zymc B H2) 27 k = xE (zyEl zymc B s.heap) 27 k) ∧ (∀ k, xE (zyEl zymc B H2) 28 k = xE (zyEl zymc B s.heap) 28 k)) ∧ ((1 ≤ (1 : Int) ∧ (1 : Int) ≤ 4 ∧ ∀ S, xAb17 (zyEl zymc B s.heap) S → pSwitch (xE (zyEl zymc B s.heap) 36) (xE (zyEl zymc B s.heap) 35 4) (xE (zyEl zymc B s.heap) 35 6) S = pBits (xE (zyEl zymc B s.heap) 36) (xE (zyEl zymc B s.heap) 35 4) S ((v2 2) : Int) (4 - (1 : Int)).toNat (xE (zyEl zymc B H2) 35 6) (1 : Int) ((v2 6) : Int)) ∨ ((1 : Int) = 5 ∧ ∀ S, xAb17 (zyEl zymc B s.heap) S → pSwitch (xE (zyEl zymc B s.heap) 36) (xE (zyEl zymc B s.heap) 35 4) (xE (zyEl zymc B s.heap) 35 6) S = .error (6, xE (zyEl zymc B H2) 35 5)))
        refine ⟨by omega, by omega, ⟨fun k => by rw [e27 k, j0 k], fun k => by rw [e28 k, j1 k]⟩, Or.inl ⟨by omega, by omega, fun S hS => ?_⟩⟩
        rw [i2 S hS, c7, show xE (zyEl zymc B H) 35 6 = xE (zyEl zymc B H2) 35 6 by omega, show xE (zyEl zymc B H) 35 8 = (v2 6) by omega, show (v 2) = v2 2 by omega]
        rfl
      · show 50 + 2 * (10 - (1 : Int)).toNat < 98
        omega
    · have hx : x ∈ [zxfrs17_dx0] := hx
      have hag : ∀ k, k < 5 → v2 k = v k := hag
      have hfr : xFr [(35, 2, 3)] _ _ := hfr
      have ex := List.mem_singleton.mp hx
      subst ex
      obtain ⟨hF, hBd, hM⟩ := hXs
      have g2 : v2 2 = v 2 := hag 2 (by decide)
      have g3 : v2 3 = v 3 := hag 3 (by decide)
      have g4 : v2 4 = v 4 := hag 4 (by decide)
      have b0 : ((2147483648 : Nat) : Int) ≤ (v2 2) + 2147483648 ∧ (v2 2) + 2147483648 ≤ ((2147483678 : Nat) : Int) := xXb hBd 0 rfl
      have b1 : ((2147483648 : Nat) : Int) ≤ (v2 3) + 2147483648 ∧ (v2 3) + 2147483648 ≤ ((2147483679 : Nat) : Int) := xXb hBd 1 rfl
      have b2 : ((2147483649 : Nat) : Int) ≤ (v2 4) + 2147483648 ∧ (v2 4) + 2147483648 ≤ ((2147483652 : Nat) : Int) := xXb hBd 2 rfl
      have f0 : (v2 4) ≤ 4 := xXf hF 0 rfl
      have e35_4 : xE (zyEl zymc B H2) 35 4 = xE (zyEl zymc B H) 35 4 := xFr_E hfr rfl
      have q35_4 : xE (zyEl zymc B H) 35 4 = xE (zyEl zymc B s.heap) 35 4 := xFr_E hFr0 rfl
      have e35_5 : xE (zyEl zymc B H2) 35 5 = xE (zyEl zymc B H) 35 5 := xFr_E hfr rfl
      have e35_6 : xE (zyEl zymc B H2) 35 6 = xE (zyEl zymc B H) 35 6 := xFr_E hfr rfl
      have e35_7 : xE (zyEl zymc B H2) 35 7 = xE (zyEl zymc B H) 35 7 := xFr_E hfr rfl
      have e35_8 : xE (zyEl zymc B H2) 35 8 = xE (zyEl zymc B H) 35 8 := xFr_E hfr rfl
      have e19_3 : xE (zyEl zymc B H2) 19 3 = xE (zyEl zymc B H) 19 3 := xFr_E hfr rfl
      have q19_3 : xE (zyEl zymc B H) 19 3 = xE (zyEl zymc B s.heap) 19 3 := xFr_E hFr0 rfl
      have e36 : ∀ i, xE (zyEl zymc B H2) 36 i = xE (zyEl zymc B H) 36 i := fun i => xFr_E hfr rfl
      have q36 : ∀ i, xE (zyEl zymc B H) 36 i = xE (zyEl zymc B s.heap) 36 i := fun i => xFr_E hFr0 rfl
      have e27 : ∀ i, xE (zyEl zymc B H2) 27 i = xE (zyEl zymc B H) 27 i := fun i => xFr_E hfr rfl
      have e28 : ∀ i, xE (zyEl zymc B H2) 28 i = xE (zyEl zymc B H) 28 i := fun i => xFr_E hfr rfl
      have y19_3 : ((2147483648 : Nat) : Int) ≤ xE (zyEl zymc B s.heap) 19 3 + 2147483648 ∧ xE (zyEl zymc B s.heap) 19 3 + 2147483648 ≤ ((2147483679 : Nat) : Int) := xTyF hT0 19 3 3 rfl rfl rfl rfl rfl rfl
      have hI : (0 ≤ (v 2) ∧ (v 2) < xE (zyEl zymc B s.heap) 19 3) ∧ xE (zyEl zymc B H) 35 6 ≤ (xE (zyEl zymc B s.heap) 35 4) ∧ ((∀ k, xE (zyEl zymc B H) 27 k = xE (zyEl zymc B s.heap) 27 k) ∧ (∀ k, xE (zyEl zymc B H) 28 k = xE (zyEl zymc B s.heap) 28 k)) ∧ ((1 ≤ (v 4) ∧ (v 4) ≤ 4 ∧ ∀ S, xAb17 (zyEl zymc B s.heap) S → pSwitch (xE (zyEl zymc B s.heap) 36) (xE (zyEl zymc B s.heap) 35 4) (xE (zyEl zymc B s.heap) 35 6) S = pBits (xE (zyEl zymc B s.heap) 36) (xE (zyEl zymc B s.heap) 35 4) S (v 2) (4 - (v 4)).toNat (xE (zyEl zymc B H) 35 6) (v 4) (v 3)) ∨ ((v 4) = 5 ∧ ∀ S, xAb17 (zyEl zymc B s.heap) S → pSwitch (xE (zyEl zymc B s.heap) 36) (xE (zyEl zymc B s.heap) 35 4) (xE (zyEl zymc B s.heap) 35 6) S = .error (6, xE (zyEl zymc B H) 35 5))) := hInv
      have tt : xE (zyEl zymc B H2) 36 = xE (zyEl zymc B s.heap) 36 := funext fun i => (e36 i).trans (q36 i)
      have tn : xE (zyEl zymc B H2) 35 4 = xE (zyEl zymc B s.heap) 35 4 := by omega
      obtain ⟨i1, i0, ⟨j0, j1⟩, i2⟩ := hI
      rcases i2 with ⟨w1, w2, i2⟩ | ⟨w, -⟩
      · refine xCa hRu hIH hAt hB hv hFr (hfad B) (ix := 35) (ax := 1168) rfl rfl rfl hmefad ⟨_, rfl, rfl, by decide⟩ ⟨rfl, rfl, rfl⟩ (by decide) [] [] [] rfl ⟨rfl, rfl⟩ (by decide +kernel) xcs_n (by decide +kernel) ?_ (fun H3 r hT3 hf3 hFr3 hr3 hΨ3 => ?_)
        · show xΦad (xfv []) (zyEl zymc B H2)
          unfold xΦad
          omega
        · have hΨ3 : xΨad (xfv []) (zyEl zymc B H2) (zyEl zymc B H3) r := hΨ3
          have d35_4 : xE (zyEl zymc B H3) 35 4 = xE (zyEl zymc B H2) 35 4 := xFr_E hf3 rfl
          have d35_2 : xE (zyEl zymc B H3) 35 2 = xE (zyEl zymc B H2) 35 2 := xFr_E hf3 rfl
          have d35_3 : xE (zyEl zymc B H3) 35 3 = xE (zyEl zymc B H2) 35 3 := xFr_E hf3 rfl
          have d19_3 : xE (zyEl zymc B H3) 19 3 = xE (zyEl zymc B H2) 19 3 := xFr_E hf3 rfl
          have d36 : ∀ i, xE (zyEl zymc B H3) 36 i = xE (zyEl zymc B H2) 36 i := fun i => xFr_E hf3 rfl
          have d27 : ∀ i, xE (zyEl zymc B H3) 27 i = xE (zyEl zymc B H2) 27 i := fun i => xFr_E hf3 rfl
          have d28 : ∀ i, xE (zyEl zymc B H3) 28 i = xE (zyEl zymc B H2) 28 i := fun i => xFr_E hf3 rfl
          unfold xΨad at hΨ3
          rw [tt, tn] at hΨ3
          refine ⟨⟨4, by decide⟩, [0, 0, 68719476737, 103079215105, 137438953473], [0, 0, (v2 2), (v2 3), (v2 4)], rfl, ⟨by decide +kernel, ⟨rfl, by decide +kernel⟩, (xcs_c rfl (xcs_c rfl (xcs_c rfl (xcs_c rfl (xcs_c rfl xcs_n))))), (xe_0 (xe_0 (xe_c (by omega) (by omega) rfl (xe_c (by omega) (by omega) rfl (xe_c (by omega) (by omega) rfl xe_n))))), xkq_n⟩, (by rw [if_neg (by decide)]; exact xst_n), ?_, ?_⟩
          · show (0 ≤ ((v2 2) : Int) ∧ ((v2 2) : Int) < xE (zyEl zymc B s.heap) 19 3) ∧ (1 ≤ ((v2 4) : Int) ∧ ((v2 4) : Int) ≤ 4) ∧ ∃ p1, p1 ≤ (xE (zyEl zymc B s.heap) 35 4) ∧ (∀ S, xAb17 (zyEl zymc B s.heap) S → pSwitch (xE (zyEl zymc B s.heap) 36) (xE (zyEl zymc B s.heap) 35 4) (xE (zyEl zymc B s.heap) 35 6) S = pBits (xE (zyEl zymc B s.heap) 36) (xE (zyEl zymc B s.heap) 35 4) S ((v2 2) : Int) (4 - ((v2 4) : Int)).toNat p1 ((v2 4) : Int) ((v2 3) : Int)) ∧ xAD (xE (zyEl zymc B s.heap) 36) (xE (zyEl zymc B s.heap) 35 4) p1 (zyEl zymc B H3) ∧ (∀ k, xE (zyEl zymc B H3) 27 k = xE (zyEl zymc B s.heap) 27 k) ∧ (∀ k, xE (zyEl zymc B H3) 28 k = xE (zyEl zymc B s.heap) 28 k)
            refine ⟨by omega, by omega, xE (zyEl zymc B H2) 35 6, by omega, fun S hS => ?_, hΨ3, fun k => by rw [d27 k, e27 k, j0 k], fun k => by rw [d28 k, e28 k, j1 k]⟩
            rw [i2 S hS, show xE (zyEl zymc B H) 35 6 = xE (zyEl zymc B H2) 35 6 by omega, show (v 2) = v2 2 by omega, show (v 3) = v2 3 by omega, show (v 4) = v2 4 by omega]
          · show 49 + 2 * (10 - ((v2 4) : Int)).toNat < 50 + 2 * (10 - (v 4)).toNat
            omega
      · omega
    · have hx : x ∈ [zxfrs17_ex0, zxfrs17_ex1] := hx
      have hag : ∀ k, k < 5 → v2 k = v k := hag
      have hfr : xFr [(35, 2, 3)] _ _ := hfr
      rcases List.mem_cons.mp hx with ex | hx
      · subst ex
        obtain ⟨hF, hBd, hM⟩ := hXs
        have g2 : v2 2 = v 2 := hag 2 (by decide)
        have g3 : v2 3 = v 3 := hag 3 (by decide)
        have g4 : v2 4 = v 4 := hag 4 (by decide)
        have b0 : ((2147483648 : Nat) : Int) ≤ (v2 2) + 2147483648 ∧ (v2 2) + 2147483648 ≤ ((2147483678 : Nat) : Int) := xXb hBd 0 rfl
        have b1 : ((2147483648 : Nat) : Int) ≤ (v2 3) + 2147483648 ∧ (v2 3) + 2147483648 ≤ ((2147483679 : Nat) : Int) := xXb hBd 1 rfl
        have b2 : ((2147483649 : Nat) : Int) ≤ (v2 4) + 2147483648 ∧ (v2 4) + 2147483648 ≤ ((2147483652 : Nat) : Int) := xXb hBd 2 rfl
        have b3 : ((2147483651 : Nat) : Int) ≤ (v2 5) + 2147483648 ∧ (v2 5) + 2147483648 ≤ ((2147483651 : Nat) : Int) := xXb hBd 3 rfl
        have b4 : ((2147483648 : Nat) : Int) ≤ (v2 6) + 2147483648 ∧ (v2 6) + 2147483648 ≤ ((2147483649 : Nat) : Int) := xXb hBd 4 rfl
        have b5 : ((2147483648 : Nat) : Int) ≤ (v2 7) + 2147483648 ∧ (v2 7) + 2147483648 ≤ ((2147483664 : Nat) : Int) := xXb hBd 5 rfl
        have b6 : ((2147483648 : Nat) : Int) ≤ (v2 8) + 2147483648 ∧ (v2 8) + 2147483648 ≤ ((2147483679 : Nat) : Int) := xXb hBd 6 rfl
        have b7 : ((2147483650 : Nat) : Int) ≤ (v2 4 + 1) + 2147483648 ∧ (v2 4 + 1) + 2147483648 ≤ ((2147483653 : Nat) : Int) := xXb hBd 7 rfl
        have f0 : (0 : Int) ≤ 7 ∧ xE (zyEl zymc B H) 35 7 = (v2 5) := xXf hF 0 rfl
        have f1 : ¬ (v2 5) = 5 := xXf hF 1 rfl
        have f2 : (v2 5) = 3 := xXf hF 2 rfl
        have f3 : (0 : Int) ≤ 8 ∧ xE (zyEl zymc B H) 35 8 = (v2 6) := xXf hF 3 rfl
        have f4 : 0 ≤ (v2 6) := xXf hF 4 rfl
        have f5 : (v2 6) ≤ 1 := xXf hF 5 rfl
        have f6 : (v2 7) = xop 8 (v2 6) (v2 4) := xXf hF 6 rfl
        have f7 : (v2 8) = xop 7 (v2 3) (v2 7) := xXf hF 7 rfl
        have e35_4 : xE (zyEl zymc B H2) 35 4 = xE (zyEl zymc B H) 35 4 := xFr_E hfr rfl
        have q35_4 : xE (zyEl zymc B H) 35 4 = xE (zyEl zymc B s.heap) 35 4 := xFr_E hFr0 rfl
        have e35_5 : xE (zyEl zymc B H2) 35 5 = xE (zyEl zymc B H) 35 5 := xFr_E hfr rfl
        have e35_6 : xE (zyEl zymc B H2) 35 6 = xE (zyEl zymc B H) 35 6 := xFr_E hfr rfl
        have e35_7 : xE (zyEl zymc B H2) 35 7 = xE (zyEl zymc B H) 35 7 := xFr_E hfr rfl
        have e35_8 : xE (zyEl zymc B H2) 35 8 = xE (zyEl zymc B H) 35 8 := xFr_E hfr rfl
        have e19_3 : xE (zyEl zymc B H2) 19 3 = xE (zyEl zymc B H) 19 3 := xFr_E hfr rfl
        have q19_3 : xE (zyEl zymc B H) 19 3 = xE (zyEl zymc B s.heap) 19 3 := xFr_E hFr0 rfl
        have e36 : ∀ i, xE (zyEl zymc B H2) 36 i = xE (zyEl zymc B H) 36 i := fun i => xFr_E hfr rfl
        have q36 : ∀ i, xE (zyEl zymc B H) 36 i = xE (zyEl zymc B s.heap) 36 i := fun i => xFr_E hFr0 rfl
        have e27 : ∀ i, xE (zyEl zymc B H2) 27 i = xE (zyEl zymc B H) 27 i := fun i => xFr_E hfr rfl
        have e28 : ∀ i, xE (zyEl zymc B H2) 28 i = xE (zyEl zymc B H) 28 i := fun i => xFr_E hfr rfl
        have y19_3 : ((2147483648 : Nat) : Int) ≤ xE (zyEl zymc B s.heap) 19 3 + 2147483648 ∧ xE (zyEl zymc B s.heap) 19 3 + 2147483648 ≤ ((2147483679 : Nat) : Int) := xTyF hT0 19 3 3 rfl rfl rfl rfl rfl rfl
        have hI : (0 ≤ (v 2) ∧ (v 2) < xE (zyEl zymc B s.heap) 19 3) ∧ (1 ≤ (v 4) ∧ (v 4) ≤ 4) ∧ ∃ p1, p1 ≤ (xE (zyEl zymc B s.heap) 35 4) ∧ (∀ S, xAb17 (zyEl zymc B s.heap) S → pSwitch (xE (zyEl zymc B s.heap) 36) (xE (zyEl zymc B s.heap) 35 4) (xE (zyEl zymc B s.heap) 35 6) S = pBits (xE (zyEl zymc B s.heap) 36) (xE (zyEl zymc B s.heap) 35 4) S (v 2) (4 - (v 4)).toNat p1 (v 4) (v 3)) ∧ xAD (xE (zyEl zymc B s.heap) 36) (xE (zyEl zymc B s.heap) 35 4) p1 (zyEl zymc B H) ∧ (∀ k, xE (zyEl zymc B H) 27 k = xE (zyEl zymc B s.heap) 27 k) ∧ (∀ k, xE (zyEl zymc B H) 28 k = xE (zyEl zymc B s.heap) 28 k) := hInv
        obtain ⟨i1, i2, p1, i0, i3, ⟨i4, i5, i6, i7⟩, j0, j1⟩ := hI
        have hb := tNx_b (T := xE (zyEl zymc B s.heap) 36) (n := xE (zyEl zymc B s.heap) 35 4) (p := p1) i0
        rw [show (v 2) = v2 2 by omega, show (v 3) = v2 3 by omega, show (v 4) = v2 4 by omega] at i3
        have hk : tKd (xE (zyEl zymc B s.heap) 36) (xE (zyEl zymc B s.heap) 35 4) p1 = 3 := by omega
        have hval : tNm (xE (zyEl zymc B s.heap) 36) (xE (zyEl zymc B s.heap) 35 4) p1 = (v2 6) := by have := i7 hk; omega
        have hstep : (v2 4 = 4 ∧ ∀ S, xAb17 (zyEl zymc B s.heap) S → pSwitch (xE (zyEl zymc B s.heap) 36) (xE (zyEl zymc B s.heap) 35 4) (xE (zyEl zymc B s.heap) 35 6) S = .error (6, tFr (xE (zyEl zymc B s.heap) 36) (xE (zyEl zymc B s.heap) 35 4) p1)) ∨ (v2 4 < 4 ∧ ∀ S, xAb17 (zyEl zymc B s.heap) S → pSwitch (xE (zyEl zymc B s.heap) 36) (xE (zyEl zymc B s.heap) 35 4) (xE (zyEl zymc B s.heap) 35 6) S = pBits (xE (zyEl zymc B s.heap) 36) (xE (zyEl zymc B s.heap) 35 4) S (v2 2) (4 - (v2 4 + 1)).toNat (tNx (xE (zyEl zymc B s.heap) 36) (xE (zyEl zymc B s.heap) 35 4) p1) (v2 4 + 1) (v2 8)) := by
          by_cases h4 : v2 4 = 4
          · refine Or.inl ⟨h4, fun S hS => ?_⟩
            rw [i3 S hS, show (4 - v2 4).toNat = 0 by omega]
            unfold pBits
            rw [if_pos hk, if_pos (by omega)]
          · refine Or.inr ⟨by omega, fun S hS => ?_⟩
            rw [i3 S hS, show (4 - v2 4).toNat = (4 - (v2 4 + 1)).toNat + 1 by omega]
            show (if tKd (xE (zyEl zymc B s.heap) 36) (xE (zyEl zymc B s.heap) 35 4) p1 = 3 then (if 0 ≤ tNm (xE (zyEl zymc B s.heap) 36) (xE (zyEl zymc B s.heap) 35 4) p1 ∧ tNm (xE (zyEl zymc B s.heap) 36) (xE (zyEl zymc B s.heap) 35 4) p1 ≤ 1 then _ else _) else _) = _
            rw [if_pos hk, if_pos (by omega), hval, f7, f6]
        refine xGo hIH hAt hB hv hFr ⟨3, by decide⟩ [0, 0, 68719476737, 274877906945, 137438953481] [0, 0, (v2 2), (v2 8), (v2 4 + 1)] rfl ⟨by decide +kernel, ⟨rfl, by decide +kernel⟩, (xcs_c rfl (xcs_c rfl (xcs_c rfl (xcs_c rfl (xcs_c rfl xcs_n))))), (xe_0 (xe_0 (xe_c (by omega) (by omega) rfl (xe_c (by omega) (by omega) rfl (xe_c (by omega) (by omega) rfl xe_n))))), xkq_n⟩ xst_n ?_ ?_
        · show (0 ≤ ((v2 2) : Int) ∧ ((v2 2) : Int) < xE (zyEl zymc B s.heap) 19 3) ∧ xE (zyEl zymc B H2) 35 6 ≤ (xE (zyEl zymc B s.heap) 35 4) ∧ ((∀ k, xE (zyEl zymc B H2) 27 k = xE (zyEl zymc B s.heap) 27 k) ∧ (∀ k, xE (zyEl zymc B H2) 28 k = xE (zyEl zymc B s.heap) 28 k)) ∧ ((1 ≤ ((v2 4 + 1) : Int) ∧ ((v2 4 + 1) : Int) ≤ 4 ∧ ∀ S, xAb17 (zyEl zymc B s.heap) S → pSwitch (xE (zyEl zymc B s.heap) 36) (xE (zyEl zymc B s.heap) 35 4) (xE (zyEl zymc B s.heap) 35 6) S = pBits (xE (zyEl zymc B s.heap) 36) (xE (zyEl zymc B s.heap) 35 4) S ((v2 2) : Int) (4 - ((v2 4 + 1) : Int)).toNat (xE (zyEl zymc B H2) 35 6) ((v2 4 + 1) : Int) ((v2 8) : Int)) ∨ (((v2 4 + 1) : Int) = 5 ∧ ∀ S, xAb17 (zyEl zymc B s.heap) S → pSwitch (xE (zyEl zymc B s.heap) 36) (xE (zyEl zymc B s.heap) 35 4) (xE (zyEl zymc B s.heap) 35 6) S = .error (6, xE (zyEl zymc B H2) 35 5)))
          refine ⟨by omega, by omega, ⟨fun k => by rw [e27 k, j0 k], fun k => by rw [e28 k, j1 k]⟩, ?_⟩
          rcases hstep with ⟨h4, hs⟩ | ⟨h4, hs⟩
          · exact Or.inr ⟨by omega, fun S hS => by rw [hs S hS, show xE (zyEl zymc B H2) 35 5 = tFr (xE (zyEl zymc B s.heap) 36) (xE (zyEl zymc B s.heap) 35 4) p1 by omega]⟩
          · exact Or.inl ⟨by omega, by omega, fun S hS => by rw [hs S hS, show xE (zyEl zymc B H2) 35 6 = tNx (xE (zyEl zymc B s.heap) 36) (xE (zyEl zymc B s.heap) 35 4) p1 by omega]⟩
        · show 50 + 2 * (10 - ((v2 4 + 1) : Int)).toNat < 49 + 2 * (10 - (v 4)).toNat
          omega
      · skip
        have ex := List.mem_singleton.mp hx
        subst ex
        obtain ⟨hF, hBd, hM⟩ := hXs
        have g2 : v2 2 = v 2 := hag 2 (by decide)
        have g3 : v2 3 = v 3 := hag 3 (by decide)
        have g4 : v2 4 = v 4 := hag 4 (by decide)
        have b0 : ((2147483648 : Nat) : Int) ≤ (v2 2) + 2147483648 ∧ (v2 2) + 2147483648 ≤ ((2147483678 : Nat) : Int) := xXb hBd 0 rfl
        have b1 : ((2147483648 : Nat) : Int) ≤ (v2 3) + 2147483648 ∧ (v2 3) + 2147483648 ≤ ((2147483679 : Nat) : Int) := xXb hBd 1 rfl
        have b2 : ((2147483649 : Nat) : Int) ≤ (v2 4) + 2147483648 ∧ (v2 4) + 2147483648 ≤ ((2147483652 : Nat) : Int) := xXb hBd 2 rfl
        have b3 : ((2147483653 : Nat) : Int) ≤ (v2 5) + 2147483648 ∧ (v2 5) + 2147483648 ≤ ((2147483653 : Nat) : Int) := xXb hBd 3 rfl
        have f0 : (0 : Int) ≤ 7 ∧ xE (zyEl zymc B H) 35 7 = (v2 5) := xXf hF 0 rfl
        have f1 : (v2 5) = 5 := xXf hF 1 rfl
        have e35_4 : xE (zyEl zymc B H2) 35 4 = xE (zyEl zymc B H) 35 4 := xFr_E hfr rfl
        have q35_4 : xE (zyEl zymc B H) 35 4 = xE (zyEl zymc B s.heap) 35 4 := xFr_E hFr0 rfl
        have e35_5 : xE (zyEl zymc B H2) 35 5 = xE (zyEl zymc B H) 35 5 := xFr_E hfr rfl
        have e35_6 : xE (zyEl zymc B H2) 35 6 = xE (zyEl zymc B H) 35 6 := xFr_E hfr rfl
        have e35_7 : xE (zyEl zymc B H2) 35 7 = xE (zyEl zymc B H) 35 7 := xFr_E hfr rfl
        have e35_8 : xE (zyEl zymc B H2) 35 8 = xE (zyEl zymc B H) 35 8 := xFr_E hfr rfl
        have e19_3 : xE (zyEl zymc B H2) 19 3 = xE (zyEl zymc B H) 19 3 := xFr_E hfr rfl
        have q19_3 : xE (zyEl zymc B H) 19 3 = xE (zyEl zymc B s.heap) 19 3 := xFr_E hFr0 rfl
        have e36 : ∀ i, xE (zyEl zymc B H2) 36 i = xE (zyEl zymc B H) 36 i := fun i => xFr_E hfr rfl
        have q36 : ∀ i, xE (zyEl zymc B H) 36 i = xE (zyEl zymc B s.heap) 36 i := fun i => xFr_E hFr0 rfl
        have e27 : ∀ i, xE (zyEl zymc B H2) 27 i = xE (zyEl zymc B H) 27 i := fun i => xFr_E hfr rfl
        have e28 : ∀ i, xE (zyEl zymc B H2) 28 i = xE (zyEl zymc B H) 28 i := fun i => xFr_E hfr rfl
        have y19_3 : ((2147483648 : Nat) : Int) ≤ xE (zyEl zymc B s.heap) 19 3 + 2147483648 ∧ xE (zyEl zymc B s.heap) 19 3 + 2147483648 ≤ ((2147483679 : Nat) : Int) := xTyF hT0 19 3 3 rfl rfl rfl rfl rfl rfl
        have hI : (0 ≤ (v 2) ∧ (v 2) < xE (zyEl zymc B s.heap) 19 3) ∧ (1 ≤ (v 4) ∧ (v 4) ≤ 4) ∧ ∃ p1, p1 ≤ (xE (zyEl zymc B s.heap) 35 4) ∧ (∀ S, xAb17 (zyEl zymc B s.heap) S → pSwitch (xE (zyEl zymc B s.heap) 36) (xE (zyEl zymc B s.heap) 35 4) (xE (zyEl zymc B s.heap) 35 6) S = pBits (xE (zyEl zymc B s.heap) 36) (xE (zyEl zymc B s.heap) 35 4) S (v 2) (4 - (v 4)).toNat p1 (v 4) (v 3)) ∧ xAD (xE (zyEl zymc B s.heap) 36) (xE (zyEl zymc B s.heap) 35 4) p1 (zyEl zymc B H) ∧ (∀ k, xE (zyEl zymc B H) 27 k = xE (zyEl zymc B s.heap) 27 k) ∧ (∀ k, xE (zyEl zymc B H) 28 k = xE (zyEl zymc B s.heap) 28 k) := hInv
        obtain ⟨i1, i2, p1, i0, i3, ⟨i4, i5, i6, i7⟩, j0, j1⟩ := hI
        have hb := tNx_b (T := xE (zyEl zymc B s.heap) 36) (n := xE (zyEl zymc B s.heap) 35 4) (p := p1) i0
        rw [show (v 2) = v2 2 by omega, show (v 3) = v2 3 by omega, show (v 4) = v2 4 by omega] at i3
        have hpb : ∀ S, xAb17 (zyEl zymc B s.heap) S → pSwitch (xE (zyEl zymc B s.heap) 36) (xE (zyEl zymc B s.heap) 35 4) (xE (zyEl zymc B s.heap) 35 6) S = .ok (p1, uS (uS S (8 + v2 2) (v2 3)) (40 + v2 2) (v2 4)) := by
          intro S hS
          rw [i3 S hS]
          cases (4 - v2 4).toNat with
          | zero =>
            unfold pBits
            rw [if_neg (by omega)]
          | succ f =>
            show (if tKd (xE (zyEl zymc B s.heap) 36) (xE (zyEl zymc B s.heap) 35 4) p1 = 3 then _ else _) = _
            rw [if_neg (by omega)]
        refine xSt hRu hIH hAt hB hv hFr 27 (ax := 0) 103079215105 68719476737 (v2 3) (v2 2) rfl (Or.inl ⟨rfl, rfl⟩) rfl (by decide +kernel) rfl rfl (by omega) (by show (v2 2) < ((31 : Nat) : Int); omega) (fun r hr q1 q2 => by rw [List.mem_singleton.mp hr]; exact ⟨rfl, by show ((2147483648 : Nat) : Int) ≤ (v2 3) + 2147483648; omega, by show (v2 3) + 2147483648 ≤ ((4294967295 : Nat) : Int); omega⟩) (zyin_iff.mpr ⟨(27, 0, 30), by decide, rfl, Nat.zero_le _, by show Int.toNat (v2 2) ≤ 30; omega⟩) (fun H3 hT3 hst3 hne3 hfn3 hFr3 => ?_)
        have hfe3 : ∀ (a2 : Nat) (k2 : Int), ¬ a2 = 27 → xE (zyEl zymc B H3) a2 k2 = xE (zyEl zymc B H2) a2 k2 := fun a2 k2 hne => by unfold xE; rw [hfn3 a2 k2.toNat (fun z => hne z.1)]
        have d35_4 : xE (zyEl zymc B H3) 35 4 = xE (zyEl zymc B H2) 35 4 := hfe3 35 4 (fun z => absurd z (by decide))
        have d35_5 : xE (zyEl zymc B H3) 35 5 = xE (zyEl zymc B H2) 35 5 := hfe3 35 5 (fun z => absurd z (by decide))
        have d35_6 : xE (zyEl zymc B H3) 35 6 = xE (zyEl zymc B H2) 35 6 := hfe3 35 6 (fun z => absurd z (by decide))
        have d35_7 : xE (zyEl zymc B H3) 35 7 = xE (zyEl zymc B H2) 35 7 := hfe3 35 7 (fun z => absurd z (by decide))
        have d35_8 : xE (zyEl zymc B H3) 35 8 = xE (zyEl zymc B H2) 35 8 := hfe3 35 8 (fun z => absurd z (by decide))
        have d35_2 : xE (zyEl zymc B H3) 35 2 = xE (zyEl zymc B H2) 35 2 := hfe3 35 2 (fun z => absurd z (by decide))
        have d35_3 : xE (zyEl zymc B H3) 35 3 = xE (zyEl zymc B H2) 35 3 := hfe3 35 3 (fun z => absurd z (by decide))
        have d19_3 : xE (zyEl zymc B H3) 19 3 = xE (zyEl zymc B H2) 19 3 := hfe3 19 3 (fun z => absurd z (by decide))
        refine ⟨⟨5, by decide⟩, [0, 0, 68719476737, 103079215105, 137438953473], [0, 0, (v2 2), (v2 3), (v2 4)], rfl, ⟨by decide +kernel, ⟨rfl, by decide +kernel⟩, (xcs_c rfl (xcs_c rfl (xcs_c rfl (xcs_c rfl (xcs_c rfl xcs_n))))), (xe_0 (xe_0 (xe_c (by omega) (by omega) rfl (xe_c (by omega) (by omega) rfl (xe_c (by omega) (by omega) rfl xe_n))))), xkq_n⟩, rfl, ?_, ?_⟩
        · show (0 ≤ ((v2 2) : Int) ∧ ((v2 2) : Int) < xE (zyEl zymc B s.heap) 19 3) ∧ (∀ S, xAb17 (zyEl zymc B s.heap) S → pBind (pSwitch (xE (zyEl zymc B s.heap) 36) (xE (zyEl zymc B s.heap) 35 4) (xE (zyEl zymc B s.heap) 35 6) S) (pSem (xE (zyEl zymc B s.heap) 36) (xE (zyEl zymc B s.heap) 35 4)) = .ok (xE (zyEl zymc B H3) 35 6, uS (uS S (8 + ((v2 2) : Int)) ((v2 3) : Int)) (40 + ((v2 2) : Int)) ((v2 4) : Int))) ∧ xE (zyEl zymc B H3) 27 ((v2 2) : Int) = ((v2 3) : Int) ∧ (∀ k, 0 ≤ k → ¬ k = ((v2 2) : Int) → xE (zyEl zymc B H3) 27 k = xE (zyEl zymc B s.heap) 27 k) ∧ ∀ k, xE (zyEl zymc B H3) 28 k = xE (zyEl zymc B s.heap) 28 k
          refine ⟨by omega, fun S hS => ?_, ?_, ?_, ?_⟩
          · rw [hpb S hS]
            show pSem _ _ p1 _ = _
            unfold pSem
            rw [if_pos (by omega), show xE (zyEl zymc B H3) 35 6 = tNx (xE (zyEl zymc B s.heap) 36) (xE (zyEl zymc B s.heap) 35 4) p1 by omega]
          · exact hst3
          · intro k k0 k1
            rw [hne3 27 k k0 (fun z => k1 z.2), e27 k, j0 k]
          · intro k
            rw [hfe3 28 k (fun z => absurd z (by decide)), e28 k, j1 k]
        · show 2 < 49 + 2 * (10 - (v 4)).toNat
          omega
    · have hx : x ∈ [zxfrs17_fx0] := hx
      have hag : ∀ k, k < 5 → v2 k = v k := hag
      have hfr : xFr [] _ _ := hfr
      have ex := List.mem_singleton.mp hx
      subst ex
      obtain ⟨hF, hBd, hM⟩ := hXs
      have g2 : v2 2 = v 2 := hag 2 (by decide)
      have g3 : v2 3 = v 3 := hag 3 (by decide)
      have g4 : v2 4 = v 4 := hag 4 (by decide)
      have b0 : ((2147483648 : Nat) : Int) ≤ (v2 2) + 2147483648 ∧ (v2 2) + 2147483648 ≤ ((2147483678 : Nat) : Int) := xXb hBd 0 rfl
      have b1 : ((2147483648 : Nat) : Int) ≤ (v2 3) + 2147483648 ∧ (v2 3) + 2147483648 ≤ ((2147483679 : Nat) : Int) := xXb hBd 1 rfl
      have b2 : ((2147483649 : Nat) : Int) ≤ (v2 4) + 2147483648 ∧ (v2 4) + 2147483648 ≤ ((2147483652 : Nat) : Int) := xXb hBd 2 rfl
      have e35_4 : xE (zyEl zymc B H2) 35 4 = xE (zyEl zymc B H) 35 4 := xFr_E hfr rfl
      have q35_4 : xE (zyEl zymc B H) 35 4 = xE (zyEl zymc B s.heap) 35 4 := xFr_E hFr0 rfl
      have e35_5 : xE (zyEl zymc B H2) 35 5 = xE (zyEl zymc B H) 35 5 := xFr_E hfr rfl
      have e35_6 : xE (zyEl zymc B H2) 35 6 = xE (zyEl zymc B H) 35 6 := xFr_E hfr rfl
      have e35_7 : xE (zyEl zymc B H2) 35 7 = xE (zyEl zymc B H) 35 7 := xFr_E hfr rfl
      have e35_8 : xE (zyEl zymc B H2) 35 8 = xE (zyEl zymc B H) 35 8 := xFr_E hfr rfl
      have e35_2 : xE (zyEl zymc B H2) 35 2 = xE (zyEl zymc B H) 35 2 := xFr_E hfr rfl
      have e35_3 : xE (zyEl zymc B H2) 35 3 = xE (zyEl zymc B H) 35 3 := xFr_E hfr rfl
      have e19_3 : xE (zyEl zymc B H2) 19 3 = xE (zyEl zymc B H) 19 3 := xFr_E hfr rfl
      have q19_3 : xE (zyEl zymc B H) 19 3 = xE (zyEl zymc B s.heap) 19 3 := xFr_E hFr0 rfl
      have e36 : ∀ i, xE (zyEl zymc B H2) 36 i = xE (zyEl zymc B H) 36 i := fun i => xFr_E hfr rfl
      have q36 : ∀ i, xE (zyEl zymc B H) 36 i = xE (zyEl zymc B s.heap) 36 i := fun i => xFr_E hFr0 rfl
      have e27 : ∀ i, xE (zyEl zymc B H2) 27 i = xE (zyEl zymc B H) 27 i := fun i => xFr_E hfr rfl
      have e28 : ∀ i, xE (zyEl zymc B H2) 28 i = xE (zyEl zymc B H) 28 i := fun i => xFr_E hfr rfl
      have y19_3 : ((2147483648 : Nat) : Int) ≤ xE (zyEl zymc B s.heap) 19 3 + 2147483648 ∧ xE (zyEl zymc B s.heap) 19 3 + 2147483648 ≤ ((2147483679 : Nat) : Int) := xTyF hT0 19 3 3 rfl rfl rfl rfl rfl rfl
      have hI : (0 ≤ (v 2) ∧ (v 2) < xE (zyEl zymc B s.heap) 19 3) ∧ (∀ S, xAb17 (zyEl zymc B s.heap) S → pBind (pSwitch (xE (zyEl zymc B s.heap) 36) (xE (zyEl zymc B s.heap) 35 4) (xE (zyEl zymc B s.heap) 35 6) S) (pSem (xE (zyEl zymc B s.heap) 36) (xE (zyEl zymc B s.heap) 35 4)) = .ok (xE (zyEl zymc B H) 35 6, uS (uS S (8 + (v 2)) (v 3)) (40 + (v 2)) (v 4))) ∧ xE (zyEl zymc B H) 27 (v 2) = (v 3) ∧ (∀ k, 0 ≤ k → ¬ k = (v 2) → xE (zyEl zymc B H) 27 k = xE (zyEl zymc B s.heap) 27 k) ∧ ∀ k, xE (zyEl zymc B H) 28 k = xE (zyEl zymc B s.heap) 28 k := hInv
      obtain ⟨i1, i2, i3, i4, i5⟩ := hI
      rw [show (v 2) = v2 2 by omega, show (v 3) = v2 3 by omega] at i2 i3
      rw [show (v 2) = v2 2 by omega] at i4
      rw [show (v 4) = v2 4 by omega] at i2
      refine xSt hRu hIH hAt hB hv hFr 28 (ax := 0) 137438953473 68719476737 (v2 4) (v2 2) rfl (Or.inl ⟨rfl, rfl⟩) rfl (by decide +kernel) rfl rfl (by omega) (by show (v2 2) < ((31 : Nat) : Int); omega) (fun r hr q1 q2 => by rw [List.mem_singleton.mp hr]; exact ⟨rfl, by show ((2147483648 : Nat) : Int) ≤ (v2 4) + 2147483648; omega, by show (v2 4) + 2147483648 ≤ ((2147483652 : Nat) : Int); omega⟩) (zyin_iff.mpr ⟨(28, 0, 30), by decide, rfl, Nat.zero_le _, by show Int.toNat (v2 2) ≤ 30; omega⟩) (fun H3 hT3 hst3 hne3 hfn3 hFr3 => ?_)
      have hfe3 : ∀ (a2 : Nat) (k2 : Int), ¬ a2 = 28 → xE (zyEl zymc B H3) a2 k2 = xE (zyEl zymc B H2) a2 k2 := fun a2 k2 hne => by unfold xE; rw [hfn3 a2 k2.toNat (fun z => hne z.1)]
      have d35_4 : xE (zyEl zymc B H3) 35 4 = xE (zyEl zymc B H2) 35 4 := hfe3 35 4 (fun z => absurd z (by decide))
      have d35_5 : xE (zyEl zymc B H3) 35 5 = xE (zyEl zymc B H2) 35 5 := hfe3 35 5 (fun z => absurd z (by decide))
      have d35_6 : xE (zyEl zymc B H3) 35 6 = xE (zyEl zymc B H2) 35 6 := hfe3 35 6 (fun z => absurd z (by decide))
      have d35_7 : xE (zyEl zymc B H3) 35 7 = xE (zyEl zymc B H2) 35 7 := hfe3 35 7 (fun z => absurd z (by decide))
      have d35_8 : xE (zyEl zymc B H3) 35 8 = xE (zyEl zymc B H2) 35 8 := hfe3 35 8 (fun z => absurd z (by decide))
      have d35_2 : xE (zyEl zymc B H3) 35 2 = xE (zyEl zymc B H2) 35 2 := hfe3 35 2 (fun z => absurd z (by decide))
      have d35_3 : xE (zyEl zymc B H3) 35 3 = xE (zyEl zymc B H2) 35 3 := hfe3 35 3 (fun z => absurd z (by decide))
      have d19_3 : xE (zyEl zymc B H3) 19 3 = xE (zyEl zymc B H2) 19 3 := hfe3 19 3 (fun z => absurd z (by decide))
      refine ⟨⟨6, by decide⟩, [0, 0, 0, 0, 0], [0, 0, 0, 0, 0], rfl, ⟨by decide +kernel, ⟨rfl, by decide +kernel⟩, (xcs_c rfl (xcs_c rfl (xcs_c rfl (xcs_c rfl (xcs_c rfl xcs_n))))), (xe_0 (xe_0 (xe_0 (xe_0 (xe_0 xe_n))))), xkq_n⟩, rfl, ?_, ?_⟩
      · show ∃ g b l, (0 ≤ g ∧ g < xE (zyEl zymc B s.heap) 19 3) ∧ (∀ S, xAb17 (zyEl zymc B s.heap) S → pBind (pSwitch (xE (zyEl zymc B s.heap) 36) (xE (zyEl zymc B s.heap) 35 4) (xE (zyEl zymc B s.heap) 35 6) S) (pSem (xE (zyEl zymc B s.heap) 36) (xE (zyEl zymc B s.heap) 35 4)) = .ok (xE (zyEl zymc B H3) 35 6, uS (uS S (8 + g) b) (40 + g) l)) ∧ xE (zyEl zymc B H3) 27 g = b ∧ (∀ k, 0 ≤ k → ¬ k = g → xE (zyEl zymc B H3) 27 k = xE (zyEl zymc B s.heap) 27 k) ∧ xE (zyEl zymc B H3) 28 g = l ∧ (∀ k, 0 ≤ k → ¬ k = g → xE (zyEl zymc B H3) 28 k = xE (zyEl zymc B s.heap) 28 k)
        refine ⟨v2 2, v2 3, v2 4, by omega, fun S hS => ?_, ?_, ?_, hst3, ?_⟩
        · rw [i2 S hS, show xE (zyEl zymc B H) 35 6 = xE (zyEl zymc B H3) 35 6 by omega]
        · rw [hfe3 27 (v2 2) (fun z => absurd z (by decide)), e27, i3]
        · intro k k0 k1
          rw [hfe3 27 k (fun z => absurd z (by decide)), e27, i4 k k0 k1]
        · intro k k0 k1
          rw [hne3 28 k k0 (fun z => k1 z.2), e28 k, i5 k]
      · show 1 < 2
        omega
    · cases hx
  · intro x0 E0 E E2 hrx hT0 hΦ i v hT hrv hInv hKc hFr0 x hx v2 hr2 hXs hag hfr hFr hT2
    rcases i with ⟨i, hi⟩
    have hi2 : i = 0 ∨ i = 1 ∨ i = 2 ∨ i = 3 ∨ i = 4 ∨ i = 5 ∨ i = 6 := by omega
    rcases hi2 with rfl | rfl | rfl | rfl | rfl | rfl | rfl
    · cases hx
    · have hx : x ∈ [zxfrs17_br0] := hx
      have hag : ∀ k, k < 6 → v2 k = v k := hag
      have hfr : xFr [] _ _ := hfr
      have ex := List.mem_singleton.mp hx
      subst ex
      obtain ⟨hF, hBd, hM⟩ := hXs
      have g5 : v2 5 = v 5 := hag 5 (by decide)
      have b0 : ((2147483648 : Nat) : Int) ≤ (v2 5) + 2147483648 ∧ (v2 5) + 2147483648 ≤ ((2147483648 : Nat) : Int) := xXb hBd 0 rfl
      have f0 : (v2 5) = 0 := xXf hF 0 rfl
      have e35_4 : xE E2 35 4 = xE E 35 4 := xFr_E hfr rfl
      have q35_4 : xE E 35 4 = xE E0 35 4 := xFr_E hFr0 rfl
      have e35_5 : xE E2 35 5 = xE E 35 5 := xFr_E hfr rfl
      have e35_6 : xE E2 35 6 = xE E 35 6 := xFr_E hfr rfl
      have e35_7 : xE E2 35 7 = xE E 35 7 := xFr_E hfr rfl
      have e35_8 : xE E2 35 8 = xE E 35 8 := xFr_E hfr rfl
      have e35_2 : xE E2 35 2 = xE E 35 2 := xFr_E hfr rfl
      have e35_3 : xE E2 35 3 = xE E 35 3 := xFr_E hfr rfl
      have e19_3 : xE E2 19 3 = xE E 19 3 := xFr_E hfr rfl
      have q19_3 : xE E 19 3 = xE E0 19 3 := xFr_E hFr0 rfl
      have e36 : ∀ i, xE E2 36 i = xE E 36 i := fun i => xFr_E hfr rfl
      have q36 : ∀ i, xE E 36 i = xE E0 36 i := fun i => xFr_E hFr0 rfl
      have e27 : ∀ i, xE E2 27 i = xE E 27 i := fun i => xFr_E hfr rfl
      have e28 : ∀ i, xE E2 28 i = xE E 28 i := fun i => xFr_E hfr rfl
      have y19_3 : ((2147483648 : Nat) : Int) ≤ xE E0 19 3 + 2147483648 ∧ xE E0 19 3 + 2147483648 ≤ ((2147483679 : Nat) : Int) := xTyF hT0 19 3 3 rfl rfl rfl rfl rfl rfl
      have hI : xTN (xE E0 36) (xE E0 35 4) (xE E0 35 6) 0 (xE E0 19 3 - 1) E (v 5) ∧ (∀ k, xE E 27 k = xE E0 27 k) ∧ (∀ k, xE E 28 k = xE E0 28 k) := hInv
      show xΨfrs17 x0 E0 E2 0
      obtain ⟨i1, j0, j1⟩ := hI
      have hz : (v 5) = 0 := by omega
      intro S hS
      have e : pSwitch (xE E0 36) (xE E0 35 4) (xE E0 35 6) S = Except.error (xE E 35 2, xE E 35 3) := by unfold pSwitch; rw [← hS.2.1.2.2.2]; exact xtn_0 i1 hz _
      show xOut17 (pBind (pSwitch (xE E0 36) (xE E0 35 4) (xE E0 35 6) S) (pSem (xE E0 36) (xE E0 35 4))) E2 0
      rw [e]
      exact xOut17_e (by omega) (by omega) (by omega)
    · have hx : x ∈ [zxfrs17_cr0] := hx
      have hag : ∀ k, k < 6 → v2 k = v k := hag
      have hfr : xFr [] _ _ := hfr
      have ex := List.mem_singleton.mp hx
      subst ex
      obtain ⟨hF, hBd, hM⟩ := hXs
      have g2 : v2 2 = v 2 := hag 2 (by decide)
      have g5 : v2 5 = v 5 := hag 5 (by decide)
      have b0 : ((2147483648 : Nat) : Int) ≤ (v2 5) + 2147483648 ∧ (v2 5) + 2147483648 ≤ ((2147483648 : Nat) : Int) := xXb hBd 0 rfl
      have f0 : (v2 5) = 0 := xXf hF 0 rfl
      have e35_4 : xE E2 35 4 = xE E 35 4 := xFr_E hfr rfl
      have q35_4 : xE E 35 4 = xE E0 35 4 := xFr_E hFr0 rfl
      have e35_5 : xE E2 35 5 = xE E 35 5 := xFr_E hfr rfl
      have e35_6 : xE E2 35 6 = xE E 35 6 := xFr_E hfr rfl
      have e35_7 : xE E2 35 7 = xE E 35 7 := xFr_E hfr rfl
      have e35_8 : xE E2 35 8 = xE E 35 8 := xFr_E hfr rfl
      have e35_2 : xE E2 35 2 = xE E 35 2 := xFr_E hfr rfl
      have e35_3 : xE E2 35 3 = xE E 35 3 := xFr_E hfr rfl
      have e19_3 : xE E2 19 3 = xE E 19 3 := xFr_E hfr rfl
      have q19_3 : xE E 19 3 = xE E0 19 3 := xFr_E hFr0 rfl
      have e36 : ∀ i, xE E2 36 i = xE E 36 i := fun i => xFr_E hfr rfl
      have q36 : ∀ i, xE E 36 i = xE E0 36 i := fun i => xFr_E hFr0 rfl
      have e27 : ∀ i, xE E2 27 i = xE E 27 i := fun i => xFr_E hfr rfl
      have e28 : ∀ i, xE E2 28 i = xE E 28 i := fun i => xFr_E hfr rfl
      have y19_3 : ((2147483648 : Nat) : Int) ≤ xE E0 19 3 + 2147483648 ∧ xE E0 19 3 + 2147483648 ≤ ((2147483679 : Nat) : Int) := xTyF hT0 19 3 3 rfl rfl rfl rfl rfl rfl
      have hI : (0 ≤ (v 2) ∧ (v 2) < xE E0 19 3) ∧ ∃ p1, p1 ≤ (xE E0 35 4) ∧ (∀ S, xAb17 E0 S → pSwitch (xE E0 36) (xE E0 35 4) (xE E0 35 6) S = pNum (xE E0 36) (xE E0 35 4) p1 0 1 (fun b p2 => pBits (xE E0 36) (xE E0 35 4) S (v 2) 3 p2 1 b)) ∧ xTN (xE E0 36) (xE E0 35 4) p1 0 1 E (v 5) ∧ (∀ k, xE E 27 k = xE E0 27 k) ∧ (∀ k, xE E 28 k = xE E0 28 k) := hInv
      show xΨfrs17 x0 E0 E2 0
      obtain ⟨i1, p1, i0, i2, i3, j0, j1⟩ := hI
      have hb := tNx_b (T := xE E0 36) (n := xE E0 35 4) (p := p1) i0
      have hz : (v 5) = 0 := by omega
      intro S hS
      have e : pSwitch (xE E0 36) (xE E0 35 4) (xE E0 35 6) S = Except.error (xE E 35 2, xE E 35 3) := (i2 S hS).trans (xtn_0 i3 hz _)
      show xOut17 (pBind (pSwitch (xE E0 36) (xE E0 35 4) (xE E0 35 6) S) (pSem (xE E0 36) (xE E0 35 4))) E2 0
      rw [e]
      exact xOut17_e (by omega) (by omega) (by omega)
    · have hx : x ∈ [zxfrs17_dr0] := hx
      have hag : ∀ k, k < 5 → v2 k = v k := hag
      have hfr : xFr [(35, 2, 3)] _ _ := hfr
      have ex := List.mem_singleton.mp hx
      subst ex
      obtain ⟨hF, hBd, hM⟩ := hXs
      have g2 : v2 2 = v 2 := hag 2 (by decide)
      have g3 : v2 3 = v 3 := hag 3 (by decide)
      have g4 : v2 4 = v 4 := hag 4 (by decide)
      have b0 : ((2147483653 : Nat) : Int) ≤ (v2 4) + 2147483648 ∧ (v2 4) + 2147483648 ≤ ((2147483653 : Nat) : Int) := xXb hBd 0 rfl
      have b1 : ((2147483648 : Nat) : Int) ≤ (v2 5) + 2147483648 ∧ (v2 5) + 2147483648 ≤ ((2147484548 : Nat) : Int) := xXb hBd 1 rfl
      have f0 : 4 < (v2 4) := xXf hF 0 rfl
      have f1 : (0 : Int) ≤ 5 ∧ xE E 35 5 = (v2 5) := xXf hF 1 rfl
      have m0 : xE E2 35 2 = 6 := xXm hM 0 rfl
      have m1 : xE E2 35 3 = (v2 5) := xXm hM 1 rfl
      have e35_4 : xE E2 35 4 = xE E 35 4 := xFr_E hfr rfl
      have q35_4 : xE E 35 4 = xE E0 35 4 := xFr_E hFr0 rfl
      have e35_5 : xE E2 35 5 = xE E 35 5 := xFr_E hfr rfl
      have e35_6 : xE E2 35 6 = xE E 35 6 := xFr_E hfr rfl
      have e35_7 : xE E2 35 7 = xE E 35 7 := xFr_E hfr rfl
      have e35_8 : xE E2 35 8 = xE E 35 8 := xFr_E hfr rfl
      have e19_3 : xE E2 19 3 = xE E 19 3 := xFr_E hfr rfl
      have q19_3 : xE E 19 3 = xE E0 19 3 := xFr_E hFr0 rfl
      have e36 : ∀ i, xE E2 36 i = xE E 36 i := fun i => xFr_E hfr rfl
      have q36 : ∀ i, xE E 36 i = xE E0 36 i := fun i => xFr_E hFr0 rfl
      have e27 : ∀ i, xE E2 27 i = xE E 27 i := fun i => xFr_E hfr rfl
      have e28 : ∀ i, xE E2 28 i = xE E 28 i := fun i => xFr_E hfr rfl
      have y19_3 : ((2147483648 : Nat) : Int) ≤ xE E0 19 3 + 2147483648 ∧ xE E0 19 3 + 2147483648 ≤ ((2147483679 : Nat) : Int) := xTyF hT0 19 3 3 rfl rfl rfl rfl rfl rfl
      have hI : (0 ≤ (v 2) ∧ (v 2) < xE E0 19 3) ∧ xE E 35 6 ≤ (xE E0 35 4) ∧ ((∀ k, xE E 27 k = xE E0 27 k) ∧ (∀ k, xE E 28 k = xE E0 28 k)) ∧ ((1 ≤ (v 4) ∧ (v 4) ≤ 4 ∧ ∀ S, xAb17 E0 S → pSwitch (xE E0 36) (xE E0 35 4) (xE E0 35 6) S = pBits (xE E0 36) (xE E0 35 4) S (v 2) (4 - (v 4)).toNat (xE E 35 6) (v 4) (v 3)) ∨ ((v 4) = 5 ∧ ∀ S, xAb17 E0 S → pSwitch (xE E0 36) (xE E0 35 4) (xE E0 35 6) S = .error (6, xE E 35 5))) := hInv
      show xΨfrs17 x0 E0 E2 0
      obtain ⟨i1, i0, ⟨j0, j1⟩, i2⟩ := hI
      rcases i2 with ⟨-, w, -⟩ | ⟨-, i2⟩
      · omega
      intro S hS
      have e : pSwitch (xE E0 36) (xE E0 35 4) (xE E0 35 6) S = Except.error (6, xE E 35 5) := i2 S hS
      show xOut17 (pBind (pSwitch (xE E0 36) (xE E0 35 4) (xE E0 35 6) S) (pSem (xE E0 36) (xE E0 35 4))) E2 0
      rw [e]
      exact xOut17_e (by omega) (by omega) (by omega)
    · have hx : x ∈ [zxfrs17_er0, zxfrs17_er1, zxfrs17_er2, zxfrs17_er3, zxfrs17_er4, zxfrs17_er5] := hx
      have hag : ∀ k, k < 5 → v2 k = v k := hag
      have hfr : xFr [(35, 2, 3)] _ _ := hfr
      rcases List.mem_cons.mp hx with ex | hx
      · subst ex
        obtain ⟨hF, hBd, hM⟩ := hXs
        have g2 : v2 2 = v 2 := hag 2 (by decide)
        have g3 : v2 3 = v 3 := hag 3 (by decide)
        have g4 : v2 4 = v 4 := hag 4 (by decide)
        have b0 : ((2147483652 : Nat) : Int) ≤ (v2 5) + 2147483648 ∧ (v2 5) + 2147483648 ≤ ((2147483652 : Nat) : Int) := xXb hBd 0 rfl
        have b1 : ((2147483648 : Nat) : Int) ≤ (v2 6) + 2147483648 ∧ (v2 6) + 2147483648 ≤ ((2147484548 : Nat) : Int) := xXb hBd 1 rfl
        have f0 : (0 : Int) ≤ 7 ∧ xE E 35 7 = (v2 5) := xXf hF 0 rfl
        have f1 : ¬ (v2 5) = 5 := xXf hF 1 rfl
        have f2 : ¬ (v2 5) = 3 := xXf hF 2 rfl
        have f3 : ¬ (v2 5) = 1 := xXf hF 3 rfl
        have f4 : (0 : Int) ≤ 5 ∧ xE E 35 5 = (v2 6) := xXf hF 4 rfl
        have m0 : xE E2 35 2 = 2 := xXm hM 0 rfl
        have m1 : xE E2 35 3 = (v2 6) := xXm hM 1 rfl
        have e35_4 : xE E2 35 4 = xE E 35 4 := xFr_E hfr rfl
        have q35_4 : xE E 35 4 = xE E0 35 4 := xFr_E hFr0 rfl
        have e35_5 : xE E2 35 5 = xE E 35 5 := xFr_E hfr rfl
        have e35_6 : xE E2 35 6 = xE E 35 6 := xFr_E hfr rfl
        have e35_7 : xE E2 35 7 = xE E 35 7 := xFr_E hfr rfl
        have e35_8 : xE E2 35 8 = xE E 35 8 := xFr_E hfr rfl
        have e19_3 : xE E2 19 3 = xE E 19 3 := xFr_E hfr rfl
        have q19_3 : xE E 19 3 = xE E0 19 3 := xFr_E hFr0 rfl
        have e36 : ∀ i, xE E2 36 i = xE E 36 i := fun i => xFr_E hfr rfl
        have q36 : ∀ i, xE E 36 i = xE E0 36 i := fun i => xFr_E hFr0 rfl
        have e27 : ∀ i, xE E2 27 i = xE E 27 i := fun i => xFr_E hfr rfl
        have e28 : ∀ i, xE E2 28 i = xE E 28 i := fun i => xFr_E hfr rfl
        have y19_3 : ((2147483648 : Nat) : Int) ≤ xE E0 19 3 + 2147483648 ∧ xE E0 19 3 + 2147483648 ≤ ((2147483679 : Nat) : Int) := xTyF hT0 19 3 3 rfl rfl rfl rfl rfl rfl
        have hI : (0 ≤ (v 2) ∧ (v 2) < xE E0 19 3) ∧ (1 ≤ (v 4) ∧ (v 4) ≤ 4) ∧ ∃ p1, p1 ≤ (xE E0 35 4) ∧ (∀ S, xAb17 E0 S → pSwitch (xE E0 36) (xE E0 35 4) (xE E0 35 6) S = pBits (xE E0 36) (xE E0 35 4) S (v 2) (4 - (v 4)).toNat p1 (v 4) (v 3)) ∧ xAD (xE E0 36) (xE E0 35 4) p1 E ∧ (∀ k, xE E 27 k = xE E0 27 k) ∧ (∀ k, xE E 28 k = xE E0 28 k) := hInv
        show xΨfrs17 x0 E0 E2 0
        obtain ⟨i1, i2, p1, i0, i3, ⟨i4, i5, i6, i7⟩, j0, j1⟩ := hI
        have hb := tNx_b (T := xE E0 36) (n := xE E0 35 4) (p := p1) i0
        rw [show (v 2) = v2 2 by omega, show (v 3) = v2 3 by omega, show (v 4) = v2 4 by omega] at i3
        have hpb : ∀ S, xAb17 E0 S → pSwitch (xE E0 36) (xE E0 35 4) (xE E0 35 6) S = .ok (p1, uS (uS S (8 + v2 2) (v2 3)) (40 + v2 2) (v2 4)) := by
          intro S hS
          rw [i3 S hS]
          cases (4 - v2 4).toNat with
          | zero =>
            unfold pBits
            rw [if_neg (by omega)]
          | succ f =>
            show (if tKd (xE E0 36) (xE E0 35 4) p1 = 3 then _ else _) = _
            rw [if_neg (by omega)]
        have hm : pMis (xE E0 36) (xE E0 35 4) p1 = 2 := by unfold pMis; rw [if_neg (by omega)]
        intro S hS
        show xOut17 (pBind (pSwitch (xE E0 36) (xE E0 35 4) (xE E0 35 6) S) (pSem (xE E0 36) (xE E0 35 4))) E2 0
        rw [hpb S hS]
        show xOut17 (pSem (xE E0 36) (xE E0 35 4) p1 _) E2 0
        unfold pSem
        rw [if_neg (by omega), hm]
        exact xOut17_f (by omega) (by omega) (by omega)
      · skip
        rcases List.mem_cons.mp hx with ex | hx
        · subst ex
          obtain ⟨hF, hBd, hM⟩ := hXs
          have g2 : v2 2 = v 2 := hag 2 (by decide)
          have g3 : v2 3 = v 3 := hag 3 (by decide)
          have g4 : v2 4 = v 4 := hag 4 (by decide)
          have b0 : ((2147483650 : Nat) : Int) ≤ (v2 5) + 2147483648 ∧ (v2 5) + 2147483648 ≤ ((2147483650 : Nat) : Int) := xXb hBd 0 rfl
          have b1 : ((2147483648 : Nat) : Int) ≤ (v2 6) + 2147483648 ∧ (v2 6) + 2147483648 ≤ ((2147484548 : Nat) : Int) := xXb hBd 1 rfl
          have f0 : (0 : Int) ≤ 7 ∧ xE E 35 7 = (v2 5) := xXf hF 0 rfl
          have f1 : ¬ (v2 5) = 5 := xXf hF 1 rfl
          have f2 : ¬ (v2 5) = 3 := xXf hF 2 rfl
          have f3 : ¬ (v2 5) = 1 := xXf hF 3 rfl
          have f4 : (0 : Int) ≤ 5 ∧ xE E 35 5 = (v2 6) := xXf hF 4 rfl
          have m0 : xE E2 35 2 = 2 := xXm hM 0 rfl
          have m1 : xE E2 35 3 = (v2 6) := xXm hM 1 rfl
          have e35_4 : xE E2 35 4 = xE E 35 4 := xFr_E hfr rfl
          have q35_4 : xE E 35 4 = xE E0 35 4 := xFr_E hFr0 rfl
          have e35_5 : xE E2 35 5 = xE E 35 5 := xFr_E hfr rfl
          have e35_6 : xE E2 35 6 = xE E 35 6 := xFr_E hfr rfl
          have e35_7 : xE E2 35 7 = xE E 35 7 := xFr_E hfr rfl
          have e35_8 : xE E2 35 8 = xE E 35 8 := xFr_E hfr rfl
          have e19_3 : xE E2 19 3 = xE E 19 3 := xFr_E hfr rfl
          have q19_3 : xE E 19 3 = xE E0 19 3 := xFr_E hFr0 rfl
          have e36 : ∀ i, xE E2 36 i = xE E 36 i := fun i => xFr_E hfr rfl
          have q36 : ∀ i, xE E 36 i = xE E0 36 i := fun i => xFr_E hFr0 rfl
          have e27 : ∀ i, xE E2 27 i = xE E 27 i := fun i => xFr_E hfr rfl
          have e28 : ∀ i, xE E2 28 i = xE E 28 i := fun i => xFr_E hfr rfl
          have y19_3 : ((2147483648 : Nat) : Int) ≤ xE E0 19 3 + 2147483648 ∧ xE E0 19 3 + 2147483648 ≤ ((2147483679 : Nat) : Int) := xTyF hT0 19 3 3 rfl rfl rfl rfl rfl rfl
          have hI : (0 ≤ (v 2) ∧ (v 2) < xE E0 19 3) ∧ (1 ≤ (v 4) ∧ (v 4) ≤ 4) ∧ ∃ p1, p1 ≤ (xE E0 35 4) ∧ (∀ S, xAb17 E0 S → pSwitch (xE E0 36) (xE E0 35 4) (xE E0 35 6) S = pBits (xE E0 36) (xE E0 35 4) S (v 2) (4 - (v 4)).toNat p1 (v 4) (v 3)) ∧ xAD (xE E0 36) (xE E0 35 4) p1 E ∧ (∀ k, xE E 27 k = xE E0 27 k) ∧ (∀ k, xE E 28 k = xE E0 28 k) := hInv
          show xΨfrs17 x0 E0 E2 0
          obtain ⟨i1, i2, p1, i0, i3, ⟨i4, i5, i6, i7⟩, j0, j1⟩ := hI
          have hb := tNx_b (T := xE E0 36) (n := xE E0 35 4) (p := p1) i0
          rw [show (v 2) = v2 2 by omega, show (v 3) = v2 3 by omega, show (v 4) = v2 4 by omega] at i3
          have hpb : ∀ S, xAb17 E0 S → pSwitch (xE E0 36) (xE E0 35 4) (xE E0 35 6) S = .ok (p1, uS (uS S (8 + v2 2) (v2 3)) (40 + v2 2) (v2 4)) := by
            intro S hS
            rw [i3 S hS]
            cases (4 - v2 4).toNat with
            | zero =>
              unfold pBits
              rw [if_neg (by omega)]
            | succ f =>
              show (if tKd (xE E0 36) (xE E0 35 4) p1 = 3 then _ else _) = _
              rw [if_neg (by omega)]
          have hm : pMis (xE E0 36) (xE E0 35 4) p1 = 2 := by unfold pMis; rw [if_neg (by omega)]
          intro S hS
          show xOut17 (pBind (pSwitch (xE E0 36) (xE E0 35 4) (xE E0 35 6) S) (pSem (xE E0 36) (xE E0 35 4))) E2 0
          rw [hpb S hS]
          show xOut17 (pSem (xE E0 36) (xE E0 35 4) p1 _) E2 0
          unfold pSem
          rw [if_neg (by omega), hm]
          exact xOut17_f (by omega) (by omega) (by omega)
        · skip
          rcases List.mem_cons.mp hx with ex | hx
          · subst ex
            obtain ⟨hF, hBd, hM⟩ := hXs
            have g2 : v2 2 = v 2 := hag 2 (by decide)
            have g3 : v2 3 = v 3 := hag 3 (by decide)
            have g4 : v2 4 = v 4 := hag 4 (by decide)
            have b0 : ((2147483648 : Nat) : Int) ≤ (v2 5) + 2147483648 ∧ (v2 5) + 2147483648 ≤ ((2147483648 : Nat) : Int) := xXb hBd 0 rfl
            have b1 : ((2147483648 : Nat) : Int) ≤ (v2 6) + 2147483648 ∧ (v2 6) + 2147483648 ≤ ((2147484548 : Nat) : Int) := xXb hBd 1 rfl
            have f0 : (0 : Int) ≤ 7 ∧ xE E 35 7 = (v2 5) := xXf hF 0 rfl
            have f1 : ¬ (v2 5) = 5 := xXf hF 1 rfl
            have f2 : ¬ (v2 5) = 3 := xXf hF 2 rfl
            have f3 : ¬ (v2 5) = 1 := xXf hF 3 rfl
            have f4 : (0 : Int) ≤ 5 ∧ xE E 35 5 = (v2 6) := xXf hF 4 rfl
            have m0 : xE E2 35 2 = 2 := xXm hM 0 rfl
            have m1 : xE E2 35 3 = (v2 6) := xXm hM 1 rfl
            have e35_4 : xE E2 35 4 = xE E 35 4 := xFr_E hfr rfl
            have q35_4 : xE E 35 4 = xE E0 35 4 := xFr_E hFr0 rfl
            have e35_5 : xE E2 35 5 = xE E 35 5 := xFr_E hfr rfl
            have e35_6 : xE E2 35 6 = xE E 35 6 := xFr_E hfr rfl
            have e35_7 : xE E2 35 7 = xE E 35 7 := xFr_E hfr rfl
            have e35_8 : xE E2 35 8 = xE E 35 8 := xFr_E hfr rfl
            have e19_3 : xE E2 19 3 = xE E 19 3 := xFr_E hfr rfl
            have q19_3 : xE E 19 3 = xE E0 19 3 := xFr_E hFr0 rfl
            have e36 : ∀ i, xE E2 36 i = xE E 36 i := fun i => xFr_E hfr rfl
            have q36 : ∀ i, xE E 36 i = xE E0 36 i := fun i => xFr_E hFr0 rfl
            have e27 : ∀ i, xE E2 27 i = xE E 27 i := fun i => xFr_E hfr rfl
            have e28 : ∀ i, xE E2 28 i = xE E 28 i := fun i => xFr_E hfr rfl
            have y19_3 : ((2147483648 : Nat) : Int) ≤ xE E0 19 3 + 2147483648 ∧ xE E0 19 3 + 2147483648 ≤ ((2147483679 : Nat) : Int) := xTyF hT0 19 3 3 rfl rfl rfl rfl rfl rfl
            have hI : (0 ≤ (v 2) ∧ (v 2) < xE E0 19 3) ∧ (1 ≤ (v 4) ∧ (v 4) ≤ 4) ∧ ∃ p1, p1 ≤ (xE E0 35 4) ∧ (∀ S, xAb17 E0 S → pSwitch (xE E0 36) (xE E0 35 4) (xE E0 35 6) S = pBits (xE E0 36) (xE E0 35 4) S (v 2) (4 - (v 4)).toNat p1 (v 4) (v 3)) ∧ xAD (xE E0 36) (xE E0 35 4) p1 E ∧ (∀ k, xE E 27 k = xE E0 27 k) ∧ (∀ k, xE E 28 k = xE E0 28 k) := hInv
            show xΨfrs17 x0 E0 E2 0
            obtain ⟨i1, i2, p1, i0, i3, ⟨i4, i5, i6, i7⟩, j0, j1⟩ := hI
            have hb := tNx_b (T := xE E0 36) (n := xE E0 35 4) (p := p1) i0
            rw [show (v 2) = v2 2 by omega, show (v 3) = v2 3 by omega, show (v 4) = v2 4 by omega] at i3
            have hpb : ∀ S, xAb17 E0 S → pSwitch (xE E0 36) (xE E0 35 4) (xE E0 35 6) S = .ok (p1, uS (uS S (8 + v2 2) (v2 3)) (40 + v2 2) (v2 4)) := by
              intro S hS
              rw [i3 S hS]
              cases (4 - v2 4).toNat with
              | zero =>
                unfold pBits
                rw [if_neg (by omega)]
              | succ f =>
                show (if tKd (xE E0 36) (xE E0 35 4) p1 = 3 then _ else _) = _
                rw [if_neg (by omega)]
            have hm : pMis (xE E0 36) (xE E0 35 4) p1 = 2 := by unfold pMis; rw [if_neg (by omega)]
            intro S hS
            show xOut17 (pBind (pSwitch (xE E0 36) (xE E0 35 4) (xE E0 35 6) S) (pSem (xE E0 36) (xE E0 35 4))) E2 0
            rw [hpb S hS]
            show xOut17 (pSem (xE E0 36) (xE E0 35 4) p1 _) E2 0
            unfold pSem
            rw [if_neg (by omega), hm]
            exact xOut17_f (by omega) (by omega) (by omega)
          · skip
            rcases List.mem_cons.mp hx with ex | hx
            · subst ex
              obtain ⟨hF, hBd, hM⟩ := hXs
              have g2 : v2 2 = v 2 := hag 2 (by decide)
              have g3 : v2 3 = v 3 := hag 3 (by decide)
              have g4 : v2 4 = v 4 := hag 4 (by decide)
              have b0 : ((2147483649 : Nat) : Int) ≤ (v2 5) + 2147483648 ∧ (v2 5) + 2147483648 ≤ ((2147483649 : Nat) : Int) := xXb hBd 0 rfl
              have b1 : ((2147483648 : Nat) : Int) ≤ (v2 6) + 2147483648 ∧ (v2 6) + 2147483648 ≤ ((2147484548 : Nat) : Int) := xXb hBd 1 rfl
              have f0 : (0 : Int) ≤ 7 ∧ xE E 35 7 = (v2 5) := xXf hF 0 rfl
              have f1 : ¬ (v2 5) = 5 := xXf hF 1 rfl
              have f2 : ¬ (v2 5) = 3 := xXf hF 2 rfl
              have f3 : (v2 5) = 1 := xXf hF 3 rfl
              have f4 : (0 : Int) ≤ 5 ∧ xE E 35 5 = (v2 6) := xXf hF 4 rfl
              have m0 : xE E2 35 2 = 1 := xXm hM 0 rfl
              have m1 : xE E2 35 3 = (v2 6) := xXm hM 1 rfl
              have e35_4 : xE E2 35 4 = xE E 35 4 := xFr_E hfr rfl
              have q35_4 : xE E 35 4 = xE E0 35 4 := xFr_E hFr0 rfl
              have e35_5 : xE E2 35 5 = xE E 35 5 := xFr_E hfr rfl
              have e35_6 : xE E2 35 6 = xE E 35 6 := xFr_E hfr rfl
              have e35_7 : xE E2 35 7 = xE E 35 7 := xFr_E hfr rfl
              have e35_8 : xE E2 35 8 = xE E 35 8 := xFr_E hfr rfl
              have e19_3 : xE E2 19 3 = xE E 19 3 := xFr_E hfr rfl
              have q19_3 : xE E 19 3 = xE E0 19 3 := xFr_E hFr0 rfl
              have e36 : ∀ i, xE E2 36 i = xE E 36 i := fun i => xFr_E hfr rfl
              have q36 : ∀ i, xE E 36 i = xE E0 36 i := fun i => xFr_E hFr0 rfl
              have e27 : ∀ i, xE E2 27 i = xE E 27 i := fun i => xFr_E hfr rfl
              have e28 : ∀ i, xE E2 28 i = xE E 28 i := fun i => xFr_E hfr rfl
              have y19_3 : ((2147483648 : Nat) : Int) ≤ xE E0 19 3 + 2147483648 ∧ xE E0 19 3 + 2147483648 ≤ ((2147483679 : Nat) : Int) := xTyF hT0 19 3 3 rfl rfl rfl rfl rfl rfl
              have hI : (0 ≤ (v 2) ∧ (v 2) < xE E0 19 3) ∧ (1 ≤ (v 4) ∧ (v 4) ≤ 4) ∧ ∃ p1, p1 ≤ (xE E0 35 4) ∧ (∀ S, xAb17 E0 S → pSwitch (xE E0 36) (xE E0 35 4) (xE E0 35 6) S = pBits (xE E0 36) (xE E0 35 4) S (v 2) (4 - (v 4)).toNat p1 (v 4) (v 3)) ∧ xAD (xE E0 36) (xE E0 35 4) p1 E ∧ (∀ k, xE E 27 k = xE E0 27 k) ∧ (∀ k, xE E 28 k = xE E0 28 k) := hInv
              show xΨfrs17 x0 E0 E2 0
              obtain ⟨i1, i2, p1, i0, i3, ⟨i4, i5, i6, i7⟩, j0, j1⟩ := hI
              have hb := tNx_b (T := xE E0 36) (n := xE E0 35 4) (p := p1) i0
              rw [show (v 2) = v2 2 by omega, show (v 3) = v2 3 by omega, show (v 4) = v2 4 by omega] at i3
              have hpb : ∀ S, xAb17 E0 S → pSwitch (xE E0 36) (xE E0 35 4) (xE E0 35 6) S = .ok (p1, uS (uS S (8 + v2 2) (v2 3)) (40 + v2 2) (v2 4)) := by
                intro S hS
                rw [i3 S hS]
                cases (4 - v2 4).toNat with
                | zero =>
                  unfold pBits
                  rw [if_neg (by omega)]
                | succ f =>
                  show (if tKd (xE E0 36) (xE E0 35 4) p1 = 3 then _ else _) = _
                  rw [if_neg (by omega)]
              have hm : pMis (xE E0 36) (xE E0 35 4) p1 = 1 := by unfold pMis; rw [if_pos (by omega)]
              intro S hS
              show xOut17 (pBind (pSwitch (xE E0 36) (xE E0 35 4) (xE E0 35 6) S) (pSem (xE E0 36) (xE E0 35 4))) E2 0
              rw [hpb S hS]
              show xOut17 (pSem (xE E0 36) (xE E0 35 4) p1 _) E2 0
              unfold pSem
              rw [if_neg (by omega), hm]
              exact xOut17_f (by omega) (by omega) (by omega)
            · skip
              rcases List.mem_cons.mp hx with ex | hx
              · subst ex
                obtain ⟨hF, hBd, hM⟩ := hXs
                have g2 : v2 2 = v 2 := hag 2 (by decide)
                have g3 : v2 3 = v 3 := hag 3 (by decide)
                have g4 : v2 4 = v 4 := hag 4 (by decide)
                have b0 : ((2147483651 : Nat) : Int) ≤ (v2 5) + 2147483648 ∧ (v2 5) + 2147483648 ≤ ((2147483651 : Nat) : Int) := xXb hBd 0 rfl
                have b1 : ((0 : Nat) : Int) ≤ (v2 6) + 2147483648 ∧ (v2 6) + 2147483648 ≤ ((2147483647 : Nat) : Int) := xXb hBd 1 rfl
                have b2 : ((2147483648 : Nat) : Int) ≤ (v2 7) + 2147483648 ∧ (v2 7) + 2147483648 ≤ ((2147484548 : Nat) : Int) := xXb hBd 2 rfl
                have f0 : (0 : Int) ≤ 7 ∧ xE E 35 7 = (v2 5) := xXf hF 0 rfl
                have f1 : ¬ (v2 5) = 5 := xXf hF 1 rfl
                have f2 : (v2 5) = 3 := xXf hF 2 rfl
                have f3 : (0 : Int) ≤ 8 ∧ xE E 35 8 = (v2 6) := xXf hF 3 rfl
                have f4 : (v2 6) < 0 := xXf hF 4 rfl
                have f5 : (0 : Int) ≤ 5 ∧ xE E 35 5 = (v2 7) := xXf hF 5 rfl
                have m0 : xE E2 35 2 = 3 := xXm hM 0 rfl
                have m1 : xE E2 35 3 = (v2 7) := xXm hM 1 rfl
                have e35_4 : xE E2 35 4 = xE E 35 4 := xFr_E hfr rfl
                have q35_4 : xE E 35 4 = xE E0 35 4 := xFr_E hFr0 rfl
                have e35_5 : xE E2 35 5 = xE E 35 5 := xFr_E hfr rfl
                have e35_6 : xE E2 35 6 = xE E 35 6 := xFr_E hfr rfl
                have e35_7 : xE E2 35 7 = xE E 35 7 := xFr_E hfr rfl
                have e35_8 : xE E2 35 8 = xE E 35 8 := xFr_E hfr rfl
                have e19_3 : xE E2 19 3 = xE E 19 3 := xFr_E hfr rfl
                have q19_3 : xE E 19 3 = xE E0 19 3 := xFr_E hFr0 rfl
                have e36 : ∀ i, xE E2 36 i = xE E 36 i := fun i => xFr_E hfr rfl
                have q36 : ∀ i, xE E 36 i = xE E0 36 i := fun i => xFr_E hFr0 rfl
                have e27 : ∀ i, xE E2 27 i = xE E 27 i := fun i => xFr_E hfr rfl
                have e28 : ∀ i, xE E2 28 i = xE E 28 i := fun i => xFr_E hfr rfl
                have y19_3 : ((2147483648 : Nat) : Int) ≤ xE E0 19 3 + 2147483648 ∧ xE E0 19 3 + 2147483648 ≤ ((2147483679 : Nat) : Int) := xTyF hT0 19 3 3 rfl rfl rfl rfl rfl rfl
                have hI : (0 ≤ (v 2) ∧ (v 2) < xE E0 19 3) ∧ (1 ≤ (v 4) ∧ (v 4) ≤ 4) ∧ ∃ p1, p1 ≤ (xE E0 35 4) ∧ (∀ S, xAb17 E0 S → pSwitch (xE E0 36) (xE E0 35 4) (xE E0 35 6) S = pBits (xE E0 36) (xE E0 35 4) S (v 2) (4 - (v 4)).toNat p1 (v 4) (v 3)) ∧ xAD (xE E0 36) (xE E0 35 4) p1 E ∧ (∀ k, xE E 27 k = xE E0 27 k) ∧ (∀ k, xE E 28 k = xE E0 28 k) := hInv
                show xΨfrs17 x0 E0 E2 0
                obtain ⟨i1, i2, p1, i0, i3, ⟨i4, i5, i6, i7⟩, j0, j1⟩ := hI
                have hb := tNx_b (T := xE E0 36) (n := xE E0 35 4) (p := p1) i0
                rw [show (v 2) = v2 2 by omega, show (v 3) = v2 3 by omega, show (v 4) = v2 4 by omega] at i3
                have hk : tKd (xE E0 36) (xE E0 35 4) p1 = 3 := by omega
                have hval := i7 hk
                intro S hS
                have e : pSwitch (xE E0 36) (xE E0 35 4) (xE E0 35 6) S = Except.error (3, tFr (xE E0 36) (xE E0 35 4) p1) := by
                  rw [i3 S hS]
                  cases (4 - v2 4).toNat with
                  | zero =>
                    unfold pBits
                    rw [if_pos hk, if_neg (by omega)]
                  | succ f =>
                    show (if tKd (xE E0 36) (xE E0 35 4) p1 = 3 then (if 0 ≤ tNm (xE E0 36) (xE E0 35 4) p1 ∧ tNm (xE E0 36) (xE E0 35 4) p1 ≤ 1 then _ else _) else _) = _
                    rw [if_pos hk, if_neg (by omega)]
                show xOut17 (pBind (pSwitch (xE E0 36) (xE E0 35 4) (xE E0 35 6) S) (pSem (xE E0 36) (xE E0 35 4))) E2 0
                rw [e]
                exact xOut17_e (by omega) (by omega) (by omega)
              · skip
                have ex := List.mem_singleton.mp hx
                subst ex
                obtain ⟨hF, hBd, hM⟩ := hXs
                have g2 : v2 2 = v 2 := hag 2 (by decide)
                have g3 : v2 3 = v 3 := hag 3 (by decide)
                have g4 : v2 4 = v 4 := hag 4 (by decide)
                have b0 : ((2147483651 : Nat) : Int) ≤ (v2 5) + 2147483648 ∧ (v2 5) + 2147483648 ≤ ((2147483651 : Nat) : Int) := xXb hBd 0 rfl
                have b1 : ((2147483650 : Nat) : Int) ≤ (v2 6) + 2147483648 ∧ (v2 6) + 2147483648 ≤ ((4294967295 : Nat) : Int) := xXb hBd 1 rfl
                have b2 : ((2147483648 : Nat) : Int) ≤ (v2 7) + 2147483648 ∧ (v2 7) + 2147483648 ≤ ((2147484548 : Nat) : Int) := xXb hBd 2 rfl
                have f0 : (0 : Int) ≤ 7 ∧ xE E 35 7 = (v2 5) := xXf hF 0 rfl
                have f1 : ¬ (v2 5) = 5 := xXf hF 1 rfl
                have f2 : (v2 5) = 3 := xXf hF 2 rfl
                have f3 : (0 : Int) ≤ 8 ∧ xE E 35 8 = (v2 6) := xXf hF 3 rfl
                have f4 : 0 ≤ (v2 6) := xXf hF 4 rfl
                have f5 : 1 < (v2 6) := xXf hF 5 rfl
                have f6 : (0 : Int) ≤ 5 ∧ xE E 35 5 = (v2 7) := xXf hF 6 rfl
                have m0 : xE E2 35 2 = 3 := xXm hM 0 rfl
                have m1 : xE E2 35 3 = (v2 7) := xXm hM 1 rfl
                have e35_4 : xE E2 35 4 = xE E 35 4 := xFr_E hfr rfl
                have q35_4 : xE E 35 4 = xE E0 35 4 := xFr_E hFr0 rfl
                have e35_5 : xE E2 35 5 = xE E 35 5 := xFr_E hfr rfl
                have e35_6 : xE E2 35 6 = xE E 35 6 := xFr_E hfr rfl
                have e35_7 : xE E2 35 7 = xE E 35 7 := xFr_E hfr rfl
                have e35_8 : xE E2 35 8 = xE E 35 8 := xFr_E hfr rfl
                have e19_3 : xE E2 19 3 = xE E 19 3 := xFr_E hfr rfl
                have q19_3 : xE E 19 3 = xE E0 19 3 := xFr_E hFr0 rfl
                have e36 : ∀ i, xE E2 36 i = xE E 36 i := fun i => xFr_E hfr rfl
                have q36 : ∀ i, xE E 36 i = xE E0 36 i := fun i => xFr_E hFr0 rfl
                have e27 : ∀ i, xE E2 27 i = xE E 27 i := fun i => xFr_E hfr rfl
                have e28 : ∀ i, xE E2 28 i = xE E 28 i := fun i => xFr_E hfr rfl
                have y19_3 : ((2147483648 : Nat) : Int) ≤ xE E0 19 3 + 2147483648 ∧ xE E0 19 3 + 2147483648 ≤ ((2147483679 : Nat) : Int) := xTyF hT0 19 3 3 rfl rfl rfl rfl rfl rfl
                have hI : (0 ≤ (v 2) ∧ (v 2) < xE E0 19 3) ∧ (1 ≤ (v 4) ∧ (v 4) ≤ 4) ∧ ∃ p1, p1 ≤ (xE E0 35 4) ∧ (∀ S, xAb17 E0 S → pSwitch (xE E0 36) (xE E0 35 4) (xE E0 35 6) S = pBits (xE E0 36) (xE E0 35 4) S (v 2) (4 - (v 4)).toNat p1 (v 4) (v 3)) ∧ xAD (xE E0 36) (xE E0 35 4) p1 E ∧ (∀ k, xE E 27 k = xE E0 27 k) ∧ (∀ k, xE E 28 k = xE E0 28 k) := hInv
                show xΨfrs17 x0 E0 E2 0
                obtain ⟨i1, i2, p1, i0, i3, ⟨i4, i5, i6, i7⟩, j0, j1⟩ := hI
                have hb := tNx_b (T := xE E0 36) (n := xE E0 35 4) (p := p1) i0
                rw [show (v 2) = v2 2 by omega, show (v 3) = v2 3 by omega, show (v 4) = v2 4 by omega] at i3
                have hk : tKd (xE E0 36) (xE E0 35 4) p1 = 3 := by omega
                have hval := i7 hk
                intro S hS
                have e : pSwitch (xE E0 36) (xE E0 35 4) (xE E0 35 6) S = Except.error (3, tFr (xE E0 36) (xE E0 35 4) p1) := by
                  rw [i3 S hS]
                  cases (4 - v2 4).toNat with
                  | zero =>
                    unfold pBits
                    rw [if_pos hk, if_neg (by omega)]
                  | succ f =>
                    show (if tKd (xE E0 36) (xE E0 35 4) p1 = 3 then (if 0 ≤ tNm (xE E0 36) (xE E0 35 4) p1 ∧ tNm (xE E0 36) (xE E0 35 4) p1 ≤ 1 then _ else _) else _) = _
                    rw [if_pos hk, if_neg (by omega)]
                show xOut17 (pBind (pSwitch (xE E0 36) (xE E0 35 4) (xE E0 35 6) S) (pSem (xE E0 36) (xE E0 35 4))) E2 0
                rw [e]
                exact xOut17_e (by omega) (by omega) (by omega)
    · cases hx
    · have hx : x ∈ [zxfrs17_gr0] := hx
      have hag : ∀ k, k < 5 → v2 k = v k := hag
      have hfr : xFr [] _ _ := hfr
      have ex := List.mem_singleton.mp hx
      subst ex
      obtain ⟨hF, hBd, hM⟩ := hXs
      have e35_4 : xE E2 35 4 = xE E 35 4 := xFr_E hfr rfl
      have q35_4 : xE E 35 4 = xE E0 35 4 := xFr_E hFr0 rfl
      have e35_5 : xE E2 35 5 = xE E 35 5 := xFr_E hfr rfl
      have e35_6 : xE E2 35 6 = xE E 35 6 := xFr_E hfr rfl
      have e35_7 : xE E2 35 7 = xE E 35 7 := xFr_E hfr rfl
      have e35_8 : xE E2 35 8 = xE E 35 8 := xFr_E hfr rfl
      have e35_2 : xE E2 35 2 = xE E 35 2 := xFr_E hfr rfl
      have e35_3 : xE E2 35 3 = xE E 35 3 := xFr_E hfr rfl
      have e19_3 : xE E2 19 3 = xE E 19 3 := xFr_E hfr rfl
      have q19_3 : xE E 19 3 = xE E0 19 3 := xFr_E hFr0 rfl
      have e36 : ∀ i, xE E2 36 i = xE E 36 i := fun i => xFr_E hfr rfl
      have q36 : ∀ i, xE E 36 i = xE E0 36 i := fun i => xFr_E hFr0 rfl
      have e27 : ∀ i, xE E2 27 i = xE E 27 i := fun i => xFr_E hfr rfl
      have e28 : ∀ i, xE E2 28 i = xE E 28 i := fun i => xFr_E hfr rfl
      have y19_3 : ((2147483648 : Nat) : Int) ≤ xE E0 19 3 + 2147483648 ∧ xE E0 19 3 + 2147483648 ≤ ((2147483679 : Nat) : Int) := xTyF hT0 19 3 3 rfl rfl rfl rfl rfl rfl
      have hI : ∃ g b l, (0 ≤ g ∧ g < xE E0 19 3) ∧ (∀ S, xAb17 E0 S → pBind (pSwitch (xE E0 36) (xE E0 35 4) (xE E0 35 6) S) (pSem (xE E0 36) (xE E0 35 4)) = .ok (xE E 35 6, uS (uS S (8 + g) b) (40 + g) l)) ∧ xE E 27 g = b ∧ (∀ k, 0 ≤ k → ¬ k = g → xE E 27 k = xE E0 27 k) ∧ xE E 28 g = l ∧ (∀ k, 0 ≤ k → ¬ k = g → xE E 28 k = xE E0 28 k) := hInv
      show xΨfrs17 x0 E0 E2 1
      obtain ⟨g, b, l, i1, i2, i3, i4, i5, i6⟩ := hI
      have hE2 := xFr_n hfr
      subst hE2
      intro S hS
      show xOut17 (pBind (pSwitch (xE E0 36) (xE E0 35 4) (xE E0 35 6) S) (pSem (xE E0 36) (xE E0 35 4))) E2 1
      rw [i2 S hS]
      have hN := hS.2.1.2.2.2
      exact xOut17_k rfl rfl (xAb17_sw hS ⟨by omega, by omega⟩ hFr0 i3 i4 i5 i6)
end
section
/-! THE CLASS's plans as cells: what is told (printed by m7.py) -/
theorem xAb17_sk {E E2 : zyEm} {S : Int → Int} {g b : Int} (hg : 0 ≤ g ∧ g < 31) (h1 : xE E2 29 g = b) (h2 : ∀ k, 0 ≤ k → ¬ k = g → xE E2 29 k = xE E 29 k) (h : xAb17 E S) (hf : xFr [(35, 2, 3), (35, 5, 8), (29, 0, 30)] E E2) : xAb17 E2 (uS S (72 + g) b) := by
  obtain ⟨a0, a1, a2, a3, a4, a5, a6⟩ := h
  have u : ∀ j, ¬ j = 72 + g → uS S (72 + g) b j = S j := fun j h90 => by rw [uS_n h90]
  refine ⟨by rw [u (0) (by omega), u (1) (by omega), u (2) (by omega), u (5) (by omega)]; exact a0, ?_, ?_, ?_, ?_, ?_, ?_⟩
  · rw [u (0) (by omega), u (1) (by omega), xFr_E hf rfl, xFr_E hf rfl, xFr_E hf rfl, xFr_E hf rfl]
    exact a1
  · intro s s0 s1
    rw [u (0) (by omega), u (1) (by omega)] at s1 ⊢
    rw [xFr_E hf rfl]
    exact a2 s s0 s1
  · rw [u (2) (by omega), xFr_E hf rfl]
    refine ⟨a3.1, fun k k0 k1 => ?_⟩
    rw [u (136 + k) (by omega), u (152 + k) (by omega), (show xE E2 31 k = xE E 31 k from xFr_E hf rfl), (show xE E2 32 k = xE E 32 k from xFr_E hf rfl)]
    exact a3.2 k k0 k1
  · intro k k0 k1
    have w := a4 k k0 k1
    rw [u (8 + k) (by omega), u (40 + k) (by omega), u (104 + k) (by omega), (show xE E2 27 k = xE E 27 k from xFr_E hf rfl), (show xE E2 28 k = xE E 28 k from xFr_E hf rfl), (show xE E2 30 k = xE E 30 k from xFr_E hf rfl)]
    by_cases e : k = g
    · subst e
      rw [uS_e rfl, h1]
      exact ⟨w.1, w.2.1, rfl, w.2.2.2⟩
    · rw [u (72 + k) (by omega), h2 k k0 e]
      exact w
  · rw [u (5) (by omega), (show xE E2 18 8 = xE E 18 8 from xFr_E hf rfl), (show xE E2 33 1 = xE E 33 1 from xFr_E hf rfl)]
    exact a5
  · intro k k0 k1
    rw [u (5) (by omega)] at k1
    rw [u (460 + k) (by omega), (show xE E2 34 k = xE E 34 k from xFr_E hf rfl)]
    exact a6 k k0 k1
theorem xAb17_fr {E E2 : zyEm} {S : Int → Int} {g b : Int} (hg : 0 ≤ g ∧ g < 31) (h1 : xE E2 30 g = b) (h2 : ∀ k, 0 ≤ k → ¬ k = g → xE E2 30 k = xE E 30 k) (h : xAb17 E S) (hf : xFr [(35, 2, 3), (35, 5, 8), (30, 0, 30)] E E2) : xAb17 E2 (uS S (104 + g) b) := by
  obtain ⟨a0, a1, a2, a3, a4, a5, a6⟩ := h
  have u : ∀ j, ¬ j = 104 + g → uS S (104 + g) b j = S j := fun j h90 => by rw [uS_n h90]
  refine ⟨by rw [u (0) (by omega), u (1) (by omega), u (2) (by omega), u (5) (by omega)]; exact a0, ?_, ?_, ?_, ?_, ?_, ?_⟩
  · rw [u (0) (by omega), u (1) (by omega), xFr_E hf rfl, xFr_E hf rfl, xFr_E hf rfl, xFr_E hf rfl]
    exact a1
  · intro s s0 s1
    rw [u (0) (by omega), u (1) (by omega)] at s1 ⊢
    rw [xFr_E hf rfl]
    exact a2 s s0 s1
  · rw [u (2) (by omega), xFr_E hf rfl]
    refine ⟨a3.1, fun k k0 k1 => ?_⟩
    rw [u (136 + k) (by omega), u (152 + k) (by omega), (show xE E2 31 k = xE E 31 k from xFr_E hf rfl), (show xE E2 32 k = xE E 32 k from xFr_E hf rfl)]
    exact a3.2 k k0 k1
  · intro k k0 k1
    have w := a4 k k0 k1
    rw [u (8 + k) (by omega), u (40 + k) (by omega), u (72 + k) (by omega), (show xE E2 27 k = xE E 27 k from xFr_E hf rfl), (show xE E2 28 k = xE E 28 k from xFr_E hf rfl), (show xE E2 29 k = xE E 29 k from xFr_E hf rfl)]
    by_cases e : k = g
    · subst e
      rw [uS_e rfl, h1]
      exact ⟨w.1, w.2.1, w.2.2.1, rfl⟩
    · rw [u (104 + k) (by omega), h2 k k0 e]
      exact w
  · rw [u (5) (by omega), (show xE E2 18 8 = xE E 18 8 from xFr_E hf rfl), (show xE E2 33 1 = xE E 33 1 from xFr_E hf rfl)]
    exact a5
  · intro k k0 k1
    rw [u (5) (by omega)] at k1
    rw [u (460 + k) (by omega), (show xE E2 34 k = xE E 34 k from xFr_E hf rfl)]
    exact a6 k k0 k1
theorem xAb17_go {E E2 : zyEm} {S : Int → Int} {g b : Int} (hg : 0 ≤ g ∧ g < 8) (h1 : xE E2 32 g = b) (h2 : ∀ k, 0 ≤ k → ¬ k = g → xE E2 32 k = xE E 32 k) (h : xAb17 E S) (hf : xFr [(35, 2, 3), (35, 5, 8), (32, 0, 7)] E E2) : xAb17 E2 (uS S (152 + g) b) := by
  obtain ⟨a0, a1, a2, a3, a4, a5, a6⟩ := h
  have u : ∀ j, ¬ j = 152 + g → uS S (152 + g) b j = S j := fun j h90 => by rw [uS_n h90]
  refine ⟨by rw [u (0) (by omega), u (1) (by omega), u (2) (by omega), u (5) (by omega)]; exact a0, ?_, ?_, ?_, ?_, ?_, ?_⟩
  · rw [u (0) (by omega), u (1) (by omega), xFr_E hf rfl, xFr_E hf rfl, xFr_E hf rfl, xFr_E hf rfl]
    exact a1
  · intro s s0 s1
    rw [u (0) (by omega), u (1) (by omega)] at s1 ⊢
    rw [xFr_E hf rfl]
    exact a2 s s0 s1
  · rw [u (2) (by omega), xFr_E hf rfl]
    refine ⟨a3.1, fun k k0 k1 => ?_⟩
    have w := a3.2 k k0 k1
    rw [u (136 + k) (by omega), (show xE E2 31 k = xE E 31 k from xFr_E hf rfl)]
    by_cases e : k = g
    · subst e
      rw [uS_e rfl, h1]
      exact ⟨w.1, rfl⟩
    · rw [u (152 + k) (by omega), h2 k k0 e]
      exact w
  · intro k k0 k1
    rw [u (8 + k) (by omega), u (40 + k) (by omega), u (72 + k) (by omega), u (104 + k) (by omega), (show xE E2 27 k = xE E 27 k from xFr_E hf rfl), (show xE E2 28 k = xE E 28 k from xFr_E hf rfl), (show xE E2 29 k = xE E 29 k from xFr_E hf rfl), (show xE E2 30 k = xE E 30 k from xFr_E hf rfl)]
    exact a4 k k0 k1
  · rw [u (5) (by omega), (show xE E2 18 8 = xE E 18 8 from xFr_E hf rfl), (show xE E2 33 1 = xE E 33 1 from xFr_E hf rfl)]
    exact a5
  · intro k k0 k1
    rw [u (5) (by omega)] at k1
    rw [u (460 + k) (by omega), (show xE E2 34 k = xE E 34 k from xFr_E hf rfl)]
    exact a6 k k0 k1
theorem xAb17_nb {E E2 : zyEm} {S : Int → Int} {s : Int} (hb : 0 ≤ S 2 ∧ S 2 ≤ 7) (h0 : xE E2 18 5 = S 2 + 1) (h1 : xE E2 31 (S 2) = s) (h2 : ∀ k, 0 ≤ k → ¬ k = S 2 → xE E2 31 k = xE E 31 k) (h3 : xE E2 32 (S 2) = -1) (h4 : ∀ k, 0 ≤ k → ¬ k = S 2 → xE E2 32 k = xE E 32 k) (h : xAb17 E S) (hf : xFr [(35, 2, 3), (35, 5, 8), (18, 5, 5), (31, 0, 7), (32, 0, 7)] E E2) : xAb17 E2 (uS (uS (uS (uS S (136 + S 2) s) (144 + S 2) s) (152 + S 2) (-1)) 2 (S 2 + 1)) := by
  obtain ⟨a0, a1, a2, a3, a4, a5, a6⟩ := h
  have u : ∀ j, ¬ j = 136 + S 2 → ¬ j = 144 + S 2 → ¬ j = 152 + S 2 → ¬ j = 2 → uS (uS (uS (uS S (136 + S 2) s) (144 + S 2) s) (152 + S 2) (-1)) 2 (S 2 + 1) j = S j := fun j h90 h91 h92 h93 => by rw [uS_n h93, uS_n h92, uS_n h91, uS_n h90]
  refine ⟨by rw [u (0) (by omega) (by omega) (by omega) (by omega), u (1) (by omega) (by omega) (by omega) (by omega), uS_e rfl, u (5) (by omega) (by omega) (by omega) (by omega)]; omega, ?_, ?_, ?_, ?_, ?_, ?_⟩
  · rw [u (0) (by omega) (by omega) (by omega) (by omega), u (1) (by omega) (by omega) (by omega) (by omega), xFr_E hf rfl, xFr_E hf rfl, xFr_E hf rfl, xFr_E hf rfl]
    exact a1
  · intro s s0 s1
    rw [u (0) (by omega) (by omega) (by omega) (by omega), u (1) (by omega) (by omega) (by omega) (by omega)] at s1 ⊢
    rw [xFr_E hf rfl]
    exact a2 s s0 s1
  · rw [uS_e rfl]
    refine ⟨h0, fun k k0 k1 => ?_⟩
    by_cases e : k = S 2
    · subst e
      rw [uS_n (by omega), uS_n (by omega), uS_n (by omega), uS_e rfl, uS_n (by omega), uS_e rfl]
      exact ⟨h1, h3⟩
    · have w := a3.2 k k0 (by omega)
      rw [u (136 + k) (by omega) (by omega) (by omega) (by omega), u (152 + k) (by omega) (by omega) (by omega) (by omega), h2 k k0 e, h4 k k0 e]
      exact w
  · intro k k0 k1
    rw [u (8 + k) (by omega) (by omega) (by omega) (by omega), u (40 + k) (by omega) (by omega) (by omega) (by omega), u (72 + k) (by omega) (by omega) (by omega) (by omega), u (104 + k) (by omega) (by omega) (by omega) (by omega), (show xE E2 27 k = xE E 27 k from xFr_E hf rfl), (show xE E2 28 k = xE E 28 k from xFr_E hf rfl), (show xE E2 29 k = xE E 29 k from xFr_E hf rfl), (show xE E2 30 k = xE E 30 k from xFr_E hf rfl)]
    exact a4 k k0 k1
  · rw [u (5) (by omega) (by omega) (by omega) (by omega), (show xE E2 18 8 = xE E 18 8 from xFr_E hf rfl), (show xE E2 33 1 = xE E 33 1 from xFr_E hf rfl)]
    exact a5
  · intro k k0 k1
    rw [u (5) (by omega) (by omega) (by omega) (by omega)] at k1
    rw [u (460 + k) (by omega) (by omega) (by omega) (by omega), (show xE E2 34 k = xE E 34 k from xFr_E hf rfl)]
    exact a6 k k0 k1
theorem xAb17_wd {E E2 : zyEm} {S : Int → Int} {x : Int} (hs : 0 ≤ S 5 ∧ S 5 < 60) (h0 : xE E2 33 1 = S 5 + 1) (h1 : xE E2 34 (S 5) = x) (h2 : ∀ k, 0 ≤ k → ¬ k = S 5 → xE E2 34 k = xE E 34 k) (h8 : xE E2 18 8 = 1) (h : xAb17 E S) (hf : xFr [(35, 2, 3), (35, 5, 8), (18, 8, 8), (33, 1, 1), (34, 0, 59)] E E2) : xAb17 E2 (uS (uS S (460 + S 5) x) 5 (S 5 + 1)) := by
  obtain ⟨a0, a1, a2, a3, a4, a5, a6⟩ := h
  have u : ∀ j, ¬ j = 460 + S 5 → ¬ j = 5 → uS (uS S (460 + S 5) x) 5 (S 5 + 1) j = S j := fun j h90 h91 => by rw [uS_n h91, uS_n h90]
  refine ⟨by rw [u (0) (by omega) (by omega), u (1) (by omega) (by omega), u (2) (by omega) (by omega), uS_e rfl]; omega, ?_, ?_, ?_, ?_, ?_, ?_⟩
  · rw [u (0) (by omega) (by omega), u (1) (by omega) (by omega), xFr_E hf rfl, xFr_E hf rfl, xFr_E hf rfl, xFr_E hf rfl]
    exact a1
  · intro s s0 s1
    rw [u (0) (by omega) (by omega), u (1) (by omega) (by omega)] at s1 ⊢
    rw [xFr_E hf rfl]
    exact a2 s s0 s1
  · rw [u (2) (by omega) (by omega), xFr_E hf rfl]
    refine ⟨a3.1, fun k k0 k1 => ?_⟩
    rw [u (136 + k) (by omega) (by omega), u (152 + k) (by omega) (by omega), (show xE E2 31 k = xE E 31 k from xFr_E hf rfl), (show xE E2 32 k = xE E 32 k from xFr_E hf rfl)]
    exact a3.2 k k0 k1
  · intro k k0 k1
    rw [u (8 + k) (by omega) (by omega), u (40 + k) (by omega) (by omega), u (72 + k) (by omega) (by omega), u (104 + k) (by omega) (by omega), (show xE E2 27 k = xE E 27 k from xFr_E hf rfl), (show xE E2 28 k = xE E 28 k from xFr_E hf rfl), (show xE E2 29 k = xE E 29 k from xFr_E hf rfl), (show xE E2 30 k = xE E 30 k from xFr_E hf rfl)]
    exact a4 k k0 k1
  · rw [uS_e rfl]
    exact Or.inr ⟨h8, h0.symm⟩
  · intro k k0 k1
    rw [uS_e rfl] at k1
    by_cases e : k = S 5
    · subst e
      rw [uS_n (by omega), uS_e rfl]
      exact h1
    · rw [u (460 + k) (by omega) (by omega), h2 k k0 e]
      exact a6 k k0 (by omega)
theorem xAb17_w0 {E E2 : zyEm} {S : Int → Int} (h8 : xE E2 18 8 = 1) (h0 : xE E2 33 1 = 0) (h : xAb17 E S) (hf : xFr [(35, 2, 3), (35, 5, 8), (18, 8, 8), (33, 1, 1), (34, 0, 59)] E E2) : xAb17 E2 (uS S 5 0) := by
  obtain ⟨a0, a1, a2, a3, a4, a5, a6⟩ := h
  have u : ∀ j, ¬ j = 5 → uS S 5 0 j = S j := fun j h90 => by rw [uS_n h90]
  refine ⟨by rw [u (0) (by omega), u (1) (by omega), u (2) (by omega), uS_e rfl]; omega, ?_, ?_, ?_, ?_, ?_, ?_⟩
  · rw [u (0) (by omega), u (1) (by omega), xFr_E hf rfl, xFr_E hf rfl, xFr_E hf rfl, xFr_E hf rfl]
    exact a1
  · intro s s0 s1
    rw [u (0) (by omega), u (1) (by omega)] at s1 ⊢
    rw [xFr_E hf rfl]
    exact a2 s s0 s1
  · rw [u (2) (by omega), xFr_E hf rfl]
    refine ⟨a3.1, fun k k0 k1 => ?_⟩
    rw [u (136 + k) (by omega), u (152 + k) (by omega), (show xE E2 31 k = xE E 31 k from xFr_E hf rfl), (show xE E2 32 k = xE E 32 k from xFr_E hf rfl)]
    exact a3.2 k k0 k1
  · intro k k0 k1
    rw [u (8 + k) (by omega), u (40 + k) (by omega), u (72 + k) (by omega), u (104 + k) (by omega), (show xE E2 27 k = xE E 27 k from xFr_E hf rfl), (show xE E2 28 k = xE E 28 k from xFr_E hf rfl), (show xE E2 29 k = xE E 29 k from xFr_E hf rfl), (show xE E2 30 k = xE E 30 k from xFr_E hf rfl)]
    exact a4 k k0 k1
  · rw [uS_e rfl]
    exact Or.inr ⟨h8, h0.symm⟩
  · intro k k0 k1
    rw [uS_e rfl] at k1
    omega
end
