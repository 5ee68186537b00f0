section
/-! THE CLASS reads: size, a line (printed by m11.py) -/
noncomputable def zxfrz17_ax0 : zyXp := (1, [283, 147, 13], [283], [], [], [])
noncomputable def zpfrz17_a : zyPh := (0, [283, 147, 13], [(0, 4294967295), (0, 4294967295), (0, 4294967295)], [], [])
noncomputable def zxfrz17_bx0 : zyXp := (7, [283, 147, 13], [800003, 283], [], [], [])
noncomputable def zpfrz17_b : zyPh := (4, [283, 147, 13], [(0, 4294967295), (0, 4294967295), (0, 4294967295)], [], [])
noncomputable def zxfrz17_cx0 : zyXp := (25, [283, 147, 13], [32, 8, 283], [(23, 0, 103079215105, 0)], [(103079215105, 2147483649, 2147483649)], [])
noncomputable def zxfrz17_cr0 : zyXp := (0, [], [0], [(22, 0, 103079215105, 0), (24, 137438953473, 35, 56), (23, 0, 137438953473, 8), (24, 171798691841, 35, 40)], [(103079215105, 2147483648, 2147483648), (137438953473, 2147483650, 2147483653), (171798691841, 2147483648, 2147484548)], [(573442, 16), (573443, 171798691841)])
noncomputable def zxfrz17_cr1 : zyXp := (0, [], [0], [(22, 0, 103079215105, 0), (24, 137438953473, 35, 56), (23, 0, 137438953473, 8), (24, 171798691841, 35, 40)], [(103079215105, 2147483648, 2147483648), (137438953473, 2147483648, 2147483648), (171798691841, 2147483648, 2147484548)], [(573442, 16), (573443, 171798691841)])
noncomputable def zxfrz17_cr2 : zyXp := (0, [], [0], [(22, 0, 103079215105, 0), (24, 137438953473, 35, 56), (22, 0, 137438953473, 8), (24, 171798691841, 35, 40)], [(103079215105, 2147483648, 2147483648), (137438953473, 2147483649, 2147483649), (171798691841, 2147483648, 2147484548)], [(573442, 8), (573443, 171798691841)])
noncomputable def zpfrz17_c : zyPh := (10, [283, 147, 13], [(0, 4294967295), (0, 4294967295), (0, 4294967295), (2147483648, 2147483649)], [], [103079215105])
noncomputable def zxfrz17_dx0 : zyXp := (41, [283, 147, 137438953473], [40, 8, 283], [(23, 0, 103079215105, 0), (24, 137438953473, 35, 64)], [(103079215105, 2147483649, 2147483649)], [])
noncomputable def zxfrz17_dr0 : zyXp := (0, [], [0], [(22, 0, 103079215105, 0)], [(103079215105, 2147483648, 2147483648)], [])
noncomputable def zpfrz17_d : zyPh := (28, [283, 147, 13], [(0, 4294967295), (0, 4294967295), (0, 4294967295), (2147483648, 2147483649)], [], [103079215105])
noncomputable def zxfrz17_ex0 : zyXp := (55, [283, 147, 13], [137438953473, 68719476737, 147], [(23, 0, 103079215105, 0), (24, 137438953473, 35, 64)], [(68719476737, 2147483649, 2147483652), (103079215105, 2147483649, 2147483649)], [])
noncomputable def zxfrz17_er0 : zyXp := (0, [], [0], [(22, 0, 103079215105, 0)], [(103079215105, 2147483648, 2147483648)], [])
noncomputable def zpfrz17_e : zyPh := (44, [283, 147, 68719476737], [(0, 4294967295), (0, 4294967295), (2147483649, 2147483652), (2147483648, 2147483649)], [], [103079215105])
noncomputable def zxfrz17_fx0 : zyXp := (59, [283, 147, 13], [283], [], [], [])
noncomputable def zpfrz17_f : zyPh := (58, [283, 147, 13], [(0, 4294967295), (0, 4294967295), (0, 4294967295)], [], [])
noncomputable def zxfrz17_gr0 : zyXp := (0, [], [103079215105], [], [(103079215105, 2147483648, 2147483649)], [])
noncomputable def zpfrz17_g : zyPh := (62, [283, 147, 13], [(0, 4294967295), (0, 4294967295), (0, 4294967295), (2147483648, 2147483649)], [], [103079215105])
noncomputable def zpfrz17 (i : Nat) : zyPh := zif (Nat.beq i 0) (zpfrz17_a) (zif (Nat.beq i 1) (zpfrz17_b) (zif (Nat.beq i 2) (zpfrz17_c) (zif (Nat.beq i 3) (zpfrz17_d) (zif (Nat.beq i 4) (zpfrz17_e) (zif (Nat.beq i 5) (zpfrz17_f) (zpfrz17_g))))))
noncomputable def zXfrz17 (i : Nat) : List zyXp := zif (Nat.beq i 0) ([zxfrz17_ax0]) (zif (Nat.beq i 1) ([zxfrz17_bx0]) (zif (Nat.beq i 2) ([zxfrz17_cx0]) (zif (Nat.beq i 3) ([zxfrz17_dx0]) (zif (Nat.beq i 4) ([zxfrz17_ex0]) (zif (Nat.beq i 5) ([zxfrz17_fx0]) ([]))))))
noncomputable def zRfrz17 (i : Nat) : List zyXp := zif (Nat.beq i 0) ([]) (zif (Nat.beq i 1) ([]) (zif (Nat.beq i 2) ([zxfrz17_cr0, zxfrz17_cr1, zxfrz17_cr2]) (zif (Nat.beq i 3) ([zxfrz17_dr0]) (zif (Nat.beq i 4) ([zxfrz17_er0]) (zif (Nat.beq i 5) ([]) ([zxfrz17_gr0]))))))
noncomputable def zFfrz17 (i : Nat) : zyR := zif (Nat.beq i 0) ([]) (zif (Nat.beq i 1) ([]) (zif (Nat.beq i 2) ([(35, 2, 3)]) (zif (Nat.beq i 3) ([]) (zif (Nat.beq i 4) ([]) (zif (Nat.beq i 5) ([]) ([]))))))
noncomputable def zSfrz17 (i : Nat) : Nat := zif (Nat.beq i 0) (0) (zif (Nat.beq i 1) (0) (zif (Nat.beq i 2) (0) (zif (Nat.beq i 3) (0) (zif (Nat.beq i 4) (0) (zif (Nat.beq i 5) (0) (0))))))
theorem xGeo17_35 {E E2 : zyEm} {r c : Nat} (h : xGeo17 E r c) (hf : xFr [(35, 0, 8)] E E2) : xGeo17 E2 r c := by
  refine ⟨fun s hs => ?_, fun g hg => ?_⟩
  · rw [(show xE E2 20 s = xE E 20 s from xFr_E hf rfl), (show xE E2 21 s = xE E 21 s from xFr_E hf rfl), (show xE E2 22 s = xE E 22 s from xFr_E hf rfl), (show xE E2 23 s = xE E 23 s from xFr_E hf rfl), (show xE E2 24 s = xE E 24 s from xFr_E hf rfl)]
    exact h.1 s hs
  · rw [(show xE E2 25 g = xE E 25 g from xFr_E hf rfl), (show xE E2 26 g = xE E 26 g from xFr_E hf rfl)]
    exact h.2 g hg
def xΦrz17 (_ : Nat → Int) (E : zyEm) : Prop := xE E 35 6 = 0 ∧ 0 ≤ xE E 35 4
def xΨfrz17 (_ : Nat → Int) (E E2 : zyEm) (r : Int) : Prop := xOut17 (pSz (xE E 36) (xE E 35 4)) E2 r ∧ xJk17 E E2 ∧ ∀ p S, pSz (xE E 36) (xE E 35 4) = .ok (p, S) → xGeo17 E2 (S 0).toNat (S 1).toNat
noncomputable def fpfrz17 : zyR := [(35, 2, 3), (35, 5, 8), (18, 5, 5), (18, 8, 8), (19, 0, 3), (20, 0, 79), (21, 0, 79), (22, 0, 79), (23, 0, 79), (24, 0, 79), (25, 0, 30), (26, 0, 30), (27, 0, 30), (28, 0, 30), (29, 0, 30), (30, 0, 30), (33, 1, 1)]
theorem zyfrz17_run : zyrS zymc zxi60 (60, 0, 0, 2, 0) 8 zpfrz17 (fun _ _ => []) zFfrz17 zSfrz17 zXfrz17 zRfrz17 7 = true := by decide +kernel
theorem zyfrz17_ck : zyAll (fun i => xsubR (zFfrz17 i) fpfrz17 && ((zXfrz17 i).all xckX && (zRfrz17 i).all (fun x => xckX x && xrtB true x))) 7 = true := by decide +kernel
def xIfrz17 (i : Nat) (x0 : Nat → Int) (E0 : zyEm) (v : Nat → Int) (E : zyEm) : Prop := if i = 0 then (E = E0) else if i = 1 then (xAD (xE E0 36) (xE E0 35 4) 0 E ∧ (∀ k, xE E 21 k = xE E0 21 k) ∧ (∀ k, xE E 22 k = xE E0 22 k)) else if i = 2 then (xAD (xE E0 36) (xE E0 35 4) 0 E ∧ ((v 3) = if tW (xE E0 36) (xE E0 35 4) 0 [115, 105, 122, 101] = true then 1 else 0) ∧ (∀ k, xE E 21 k = xE E0 21 k) ∧ (∀ k, xE E 22 k = xE E0 22 k)) else if i = 3 then (tW (xE E0 36) (xE E0 35 4) 0 [115, 105, 122, 101] = true ∧ xTN (xE E0 36) (xE E0 35 4) (tNx (xE E0 36) (xE E0 35 4) 0) 1 4 E (v 3) ∧ (∀ k, xE E 21 k = xE E0 21 k) ∧ (∀ k, xE E 22 k = xE E0 22 k)) else if i = 4 then (∃ p1, p1 ≤ (xE E0 35 4) ∧ (1 ≤ (v 2) ∧ (v 2) ≤ 4) ∧ pSz (xE E0 36) (xE E0 35 4) = pNum (xE E0 36) (xE E0 35 4) p1 1 5 (fun cc p2 => pSem (xE E0 36) (xE E0 35 4) p2 (pClr (v 2) cc)) ∧ xTN (xE E0 36) (xE E0 35 4) p1 1 5 E (v 3) ∧ (∀ k, xE E 21 k = xE E0 21 k) ∧ (∀ k, xE E 22 k = xE E0 22 k)) else if i = 5 then (∃ rr cc : Int, xE E 35 6 ≤ (xE E0 35 4) ∧ pSz (xE E0 36) (xE E0 35 4) = pSem (xE E0 36) (xE E0 35 4) (xE E 35 6) (pClr rr cc) ∧ (1 ≤ rr ∧ rr ≤ 4 ∧ 1 ≤ cc ∧ cc ≤ 5) ∧ xAb17 E (pClr rr cc) ∧ xGeo17 E rr.toNat cc.toNat ∧ xJk17 E0 E) else (∃ rr cc p2 : Int, pSz (xE E0 36) (xE E0 35 4) = pSem (xE E0 36) (xE E0 35 4) p2 (pClr rr cc) ∧ xTS (xE E0 36) (xE E0 35 4) p2 E (v 3) ∧ (1 ≤ rr ∧ rr ≤ 4 ∧ 1 ≤ cc ∧ cc ≤ 5) ∧ xAb17 E (pClr rr cc) ∧ xGeo17 E rr.toNat cc.toNat ∧ xJk17 E0 E)
def xMfrz17 (i : Nat) (x0 : Nat → Int) (E0 : zyEm) (v : Nat → Int) (E : zyEm) : Nat := if i = 0 then (20) else if i = 1 then (19) else if i = 2 then (18) else if i = 3 then (17) else if i = 4 then (16) else if i = 5 then (15) else (14)
theorem xRz17 {l : Launch} {en : zEn} {me : zMe} (hen : zG zxMeta 60 = some en) (hme : zG zMeth 60 = some me) : xFc l zymc en me 8 [35, 18] 0 fpfrz17 true xΦrz17 xΨfrz17 := by
  have een : zG zxMeta 60 = some (zxi60, 2, 3, 5, 60, 0, 0, 2, 0) := rfl
  obtain ⟨me1, hme1, hOK⟩ := zall hen
  rw [hme] at hme1
  cases hme1
  rw [een] at hen
  cases hen
  have hr := zyfrz17_run
  have hck := fun i hi => zyAll_iff zyfrz17_ck i hi
  simp only [Bool.and_eq_true] at hck
  obtain ⟨mefad, hmefad, -⟩ := zall (show zG zxMeta 73 = some (zxi73, 1, 1, 5, 73, 0, 0, 0, 0) from rfl)
  have hfad := xAd (l := l) (show zG zxMeta 73 = some (zxi73, 1, 1, 5, 73, 0, 0, 0, 0) from rfl) hmefad
  obtain ⟨meftn, hmeftn, -⟩ := zall (show zG zxMeta 69 = some (zxi69, 3, 3, 5, 69, 0, 0, 2, 0) from rfl)
  have hftn := xTn (l := l) (show zG zxMeta 69 = some (zxi69, 3, 3, 5, 69, 0, 0, 2, 0) from rfl) hmeftn
  obtain ⟨mefts, hmefts, -⟩ := zall (show zG zxMeta 68 = some (zxi68, 1, 1, 5, 68, 0, 0, 2, 0) from rfl)
  have hfts := xTs (l := l) (show zG zxMeta 68 = some (zxi68, 1, 1, 5, 68, 0, 0, 2, 0) from rfl) hmefts
  obtain ⟨mefwsi, hmefwsi, -⟩ := zall (show zG zxMeta 72 = some (zxi72, 2, 3, 5, 72, 0, 0, 2, 0) from rfl)
  have hfwsi := xWsize (l := l) (show zG zxMeta 72 = some (zxi72, 2, 3, 5, 72, 0, 0, 2, 0) from rfl) hmefwsi
  obtain ⟨mefcl17, hmefcl17, -⟩ := zall (show zG zxMeta 31 = some (zxi31, 3, 4, 3, 31, 0, 0, 0, 0) from rfl)
  have hfcl17 := xCl17 (l := l) (show zG zxMeta 31 = some (zxi31, 3, 4, 3, 31, 0, 0, 0, 0) from rfl) hmefcl17
  intro B
  refine xcut (mi := zymc) (B := B) hOK rfl rfl (ι := Fin 7) (fun i => zpfrz17 i.val) (fun _ _ => []) (fun i => zFfrz17 i.val) (fun i => zSfrz17 i.val) (fun i => zXfrz17 i.val) (fun i => zRfrz17 i.val) (fun i y2 ct en2 me2 h => by cases h) 200000 (fun i => zyAll_iff hr i.val i.isLt) (fun i => (hck i.val i.isLt).1) (fun i => (hck i.val i.isLt).2.1) (fun i => (hck i.val i.isLt).2.2) ⟨0, by decide⟩ ⟨rfl, rfl, rfl, rfl⟩ ⟨by decide, by decide⟩ (fun i x0 E0 v E => xIfrz17 i.val x0 E0 v E) (fun i x0 E0 v E => xMfrz17 i.val x0 E0 v E) ?_ ?_ ?_
  · intro x0 E hx0 hT hΦ
    have hΦ : xΦrz17 x0 E := hΦ
    refine ⟨fun k p hp => ?_, ?_⟩
    · have hk : k < 3 := (List.getElem?_eq_some_iff.mp hp).1
      have hk : k = 0 ∨ k = 1 ∨ k = 2 := by omega
      rcases hk with rfl | rfl | rfl
      · have hp : some (0, 4294967295) = some p := hp
        cases hp
        show ((0 : Nat) : Int) ≤ 0 + 2147483648 ∧ 0 + 2147483648 ≤ ((4294967295 : Nat) : Int)
        omega
      · have hp : some (0, 4294967295) = some p := hp
        cases hp
        show ((0 : Nat) : Int) ≤ 0 + 2147483648 ∧ 0 + 2147483648 ≤ ((4294967295 : Nat) : Int)
        omega
      · have hp : some (0, 4294967295) = some p := hp
        cases hp
        show ((0 : Nat) : Int) ≤ x0 0 + 2147483648 ∧ x0 0 + 2147483648 ≤ ((4294967295 : Nat) : Int)
        have hx := hx0 0
        omega
    · show E = E
      rfl
  · intro x0 s Wg hRu hrx hT0 hΦ i v H hT hrv hInv hKc hFr0 hIH x hx ρ2 v2 N2 H2 locs lsB stA hAt hB hv hr2 hXs hag hfr hFr hT2
    rcases i with ⟨i, hi⟩
    have hi2 : i = 0 ∨ i = 1 ∨ i = 2 ∨ i = 3 ∨ i = 4 ∨ i = 5 ∨ i = 6 := by omega
    rcases hi2 with rfl | rfl | rfl | rfl | rfl | rfl | rfl
    · have hx : x ∈ [zxfrz17_ax0] := hx
      have hag : ∀ k, k < 3 → v2 k = v k := hag
      have hfr : xFr [] _ _ := hfr
      have ex := List.mem_singleton.mp hx
      subst ex
      obtain ⟨hF, hBd, hM⟩ := hXs
      have e35_4 : xE (zyEl zymc B H2) 35 4 = xE (zyEl zymc B H) 35 4 := xFr_E hfr rfl
      have q35_4 : xE (zyEl zymc B H) 35 4 = xE (zyEl zymc B s.heap) 35 4 := xFr_E hFr0 rfl
      have e35_5 : xE (zyEl zymc B H2) 35 5 = xE (zyEl zymc B H) 35 5 := xFr_E hfr rfl
      have e35_6 : xE (zyEl zymc B H2) 35 6 = xE (zyEl zymc B H) 35 6 := xFr_E hfr rfl
      have e35_7 : xE (zyEl zymc B H2) 35 7 = xE (zyEl zymc B H) 35 7 := xFr_E hfr rfl
      have e35_8 : xE (zyEl zymc B H2) 35 8 = xE (zyEl zymc B H) 35 8 := xFr_E hfr rfl
      have e35_2 : xE (zyEl zymc B H2) 35 2 = xE (zyEl zymc B H) 35 2 := xFr_E hfr rfl
      have e35_3 : xE (zyEl zymc B H2) 35 3 = xE (zyEl zymc B H) 35 3 := xFr_E hfr rfl
      have e36 : ∀ i, xE (zyEl zymc B H2) 36 i = xE (zyEl zymc B H) 36 i := fun i => xFr_E hfr rfl
      have q36 : ∀ i, xE (zyEl zymc B H) 36 i = xE (zyEl zymc B s.heap) 36 i := fun i => xFr_E hFr0 rfl
      have e21 : ∀ i, xE (zyEl zymc B H2) 21 i = xE (zyEl zymc B H) 21 i := fun i => xFr_E hfr rfl
      have e22 : ∀ i, xE (zyEl zymc B H2) 22 i = xE (zyEl zymc B H) 22 i := fun i => xFr_E hfr rfl
      have hI : (zyEl zymc B H) = (zyEl zymc B s.heap) := hInv
      have q35_5 : xE (zyEl zymc B H) 35 5 = xE (zyEl zymc B s.heap) 35 5 := by rw [hI]
      have q35_6 : xE (zyEl zymc B H) 35 6 = xE (zyEl zymc B s.heap) 35 6 := by rw [hI]
      have q35_7 : xE (zyEl zymc B H) 35 7 = xE (zyEl zymc B s.heap) 35 7 := by rw [hI]
      have q35_8 : xE (zyEl zymc B H) 35 8 = xE (zyEl zymc B s.heap) 35 8 := by rw [hI]
      have q35_2 : xE (zyEl zymc B H) 35 2 = xE (zyEl zymc B s.heap) 35 2 := by rw [hI]
      have q35_3 : xE (zyEl zymc B H) 35 3 = xE (zyEl zymc B s.heap) 35 3 := by rw [hI]
      have q21 : ∀ i, xE (zyEl zymc B H) 21 i = xE (zyEl zymc B s.heap) 21 i := fun i => by rw [hI]
      have q22 : ∀ i, xE (zyEl zymc B H) 22 i = xE (zyEl zymc B s.heap) 22 i := fun i => by rw [hI]
      have tt : xE (zyEl zymc B H2) 36 = xE (zyEl zymc B s.heap) 36 := funext fun i => (e36 i).trans (q36 i)
      have tn : xE (zyEl zymc B H2) 35 4 = xE (zyEl zymc B s.heap) 35 4 := by omega
      have hP := hΦ.1
      have hP2 := hΦ.2
      refine xCa hRu hIH hAt hB hv hFr (hfad B) (ix := 35) (ax := 1168) rfl rfl rfl hmefad ⟨_, rfl, rfl, by decide⟩ ⟨rfl, rfl, rfl⟩ (by decide) [] [] [] rfl ⟨rfl, rfl⟩ (by decide +kernel) xcs_n (by decide +kernel) ?_ (fun H3 r hT3 hf3 hFr3 hr3 hΨ3 => ?_)
      · show xΦad (xfv []) (zyEl zymc B H2)
        unfold xΦad
        omega
      · have hΨ3 : xΨad (xfv []) (zyEl zymc B H2) (zyEl zymc B H3) r := hΨ3
        have d35_4 : xE (zyEl zymc B H3) 35 4 = xE (zyEl zymc B H2) 35 4 := xFr_E hf3 rfl
        have d35_2 : xE (zyEl zymc B H3) 35 2 = xE (zyEl zymc B H2) 35 2 := xFr_E hf3 rfl
        have d35_3 : xE (zyEl zymc B H3) 35 3 = xE (zyEl zymc B H2) 35 3 := xFr_E hf3 rfl
        have d36 : ∀ i, xE (zyEl zymc B H3) 36 i = xE (zyEl zymc B H2) 36 i := fun i => xFr_E hf3 rfl
        have d21 : ∀ i, xE (zyEl zymc B H3) 21 i = xE (zyEl zymc B H2) 21 i := fun i => xFr_E hf3 rfl
        have d22 : ∀ i, xE (zyEl zymc B H3) 22 i = xE (zyEl zymc B H2) 22 i := fun i => xFr_E hf3 rfl
        unfold xΨad at hΨ3
        rw [tt, tn, show xE (zyEl zymc B H2) 35 6 = 0 by omega] at hΨ3
        refine ⟨⟨1, by decide⟩, [0, 0, 0], [0, 0, 0], rfl, ⟨by decide +kernel, ⟨rfl, by decide +kernel⟩, (xcs_c rfl (xcs_c rfl (xcs_c rfl xcs_n))), (xe_0 (xe_0 (xe_0 xe_n))), xkq_n⟩, (by rw [if_neg (by decide)]; exact xst_n), ?_, ?_⟩
        · show xAD (xE (zyEl zymc B s.heap) 36) (xE (zyEl zymc B s.heap) 35 4) 0 (zyEl zymc B H3) ∧ (∀ k, xE (zyEl zymc B H3) 21 k = xE (zyEl zymc B s.heap) 21 k) ∧ (∀ k, xE (zyEl zymc B H3) 22 k = xE (zyEl zymc B s.heap) 22 k)
          exact ⟨hΨ3, fun k => by rw [d21 k, e21 k, q21 k], fun k => by rw [d22 k, e22 k, q22 k]⟩
        · show 19 < 20
          omega
    · have hx : x ∈ [zxfrz17_bx0] := hx
      have hag : ∀ k, k < 3 → v2 k = v k := hag
      have hfr : xFr [] _ _ := hfr
      have ex := List.mem_singleton.mp hx
      subst ex
      obtain ⟨hF, hBd, hM⟩ := hXs
      have e35_4 : xE (zyEl zymc B H2) 35 4 = xE (zyEl zymc B H) 35 4 := xFr_E hfr rfl
      have q35_4 : xE (zyEl zymc B H) 35 4 = xE (zyEl zymc B s.heap) 35 4 := xFr_E hFr0 rfl
      have e35_5 : xE (zyEl zymc B H2) 35 5 = xE (zyEl zymc B H) 35 5 := xFr_E hfr rfl
      have e35_6 : xE (zyEl zymc B H2) 35 6 = xE (zyEl zymc B H) 35 6 := xFr_E hfr rfl
      have e35_7 : xE (zyEl zymc B H2) 35 7 = xE (zyEl zymc B H) 35 7 := xFr_E hfr rfl
      have e35_8 : xE (zyEl zymc B H2) 35 8 = xE (zyEl zymc B H) 35 8 := xFr_E hfr rfl
      have e35_2 : xE (zyEl zymc B H2) 35 2 = xE (zyEl zymc B H) 35 2 := xFr_E hfr rfl
      have e35_3 : xE (zyEl zymc B H2) 35 3 = xE (zyEl zymc B H) 35 3 := xFr_E hfr rfl
      have e36 : ∀ i, xE (zyEl zymc B H2) 36 i = xE (zyEl zymc B H) 36 i := fun i => xFr_E hfr rfl
      have q36 : ∀ i, xE (zyEl zymc B H) 36 i = xE (zyEl zymc B s.heap) 36 i := fun i => xFr_E hFr0 rfl
      have e21 : ∀ i, xE (zyEl zymc B H2) 21 i = xE (zyEl zymc B H) 21 i := fun i => xFr_E hfr rfl
      have e22 : ∀ i, xE (zyEl zymc B H2) 22 i = xE (zyEl zymc B H) 22 i := fun i => xFr_E hfr rfl
      have hI : xAD (xE (zyEl zymc B s.heap) 36) (xE (zyEl zymc B s.heap) 35 4) 0 (zyEl zymc B H) ∧ (∀ k, xE (zyEl zymc B H) 21 k = xE (zyEl zymc B s.heap) 21 k) ∧ (∀ k, xE (zyEl zymc B H) 22 k = xE (zyEl zymc B s.heap) 22 k) := hInv
      have tt : xE (zyEl zymc B H2) 36 = xE (zyEl zymc B s.heap) 36 := funext fun i => (e36 i).trans (q36 i)
      have tn : xE (zyEl zymc B H2) 35 4 = xE (zyEl zymc B s.heap) 35 4 := by omega
      obtain ⟨⟨i4, i5, i6, i7⟩, j0, j1⟩ := hI
      refine xCa hRu hIH hAt hB hv hFr (hfwsi B) (ix := 48) (ax := 1152) rfl rfl rfl hmefwsi ⟨_, rfl, rfl, by decide⟩ ⟨rfl, rfl, rfl⟩ (by decide) [] [] [] rfl ⟨rfl, rfl⟩ (by decide +kernel) xcs_n (by decide +kernel) ?_ (fun H3 r hT3 hf3 hFr3 hr3 hΨ3 => ?_)
      · show xΦ0 (xfv []) (zyEl zymc B H2)
        exact trivial
      · have hΨ3 : xΨfwsi (xfv []) (zyEl zymc B H2) (zyEl zymc B H3) r := hΨ3
        have d35_4 : xE (zyEl zymc B H3) 35 4 = xE (zyEl zymc B H2) 35 4 := xFr_E hf3 rfl
        have d35_5 : xE (zyEl zymc B H3) 35 5 = xE (zyEl zymc B H2) 35 5 := xFr_E hf3 rfl
        have d35_6 : xE (zyEl zymc B H3) 35 6 = xE (zyEl zymc B H2) 35 6 := xFr_E hf3 rfl
        have d35_7 : xE (zyEl zymc B H3) 35 7 = xE (zyEl zymc B H2) 35 7 := xFr_E hf3 rfl
        have d35_8 : xE (zyEl zymc B H3) 35 8 = xE (zyEl zymc B H2) 35 8 := xFr_E hf3 rfl
        have d35_2 : xE (zyEl zymc B H3) 35 2 = xE (zyEl zymc B H2) 35 2 := xFr_E hf3 rfl
        have d35_3 : xE (zyEl zymc B H3) 35 3 = xE (zyEl zymc B H2) 35 3 := xFr_E hf3 rfl
        have d36 : ∀ i, xE (zyEl zymc B H3) 36 i = xE (zyEl zymc B H2) 36 i := fun i => xFr_E hf3 rfl
        have d21 : ∀ i, xE (zyEl zymc B H3) 21 i = xE (zyEl zymc B H2) 21 i := fun i => xFr_E hf3 rfl
        have d22 : ∀ i, xE (zyEl zymc B H3) 22 i = xE (zyEl zymc B H2) 22 i := fun i => xFr_E hf3 rfl
        unfold xΨfwsi at hΨ3
        rw [tt, show xE (zyEl zymc B H2) 35 7 = tKd (xE (zyEl zymc B s.heap) 36) (xE (zyEl zymc B s.heap) 35 4) 0 by omega, show xE (zyEl zymc B H2) 35 5 = tFr (xE (zyEl zymc B s.heap) 36) (xE (zyEl zymc B s.heap) 35 4) 0 by omega, show xE (zyEl zymc B H2) 35 6 = tNx (xE (zyEl zymc B s.heap) 36) (xE (zyEl zymc B s.heap) 35 4) 0 by omega] at hΨ3
        have hr01 : r = 0 ∨ r = 1 := by
          rw [hΨ3]
          split <;> omega
        have hEE3 := xFr_n hf3
        refine ⟨⟨2, by decide⟩, [0, 0, 0], [0, 0, 0, r], rfl, ⟨by decide +kernel, ⟨rfl, by decide +kernel⟩, (xcs_c rfl (xcs_c rfl (xcs_c rfl xcs_n))), (xe_0 (xe_0 (xe_0 (xe_c (by omega) (by omega) rfl xe_n)))), xkq_n⟩, (by rw [if_pos rfl]; exact ⟨3, [], rfl, by decide, rfl, xst_n⟩), ?_, ?_⟩
        · show xAD (xE (zyEl zymc B s.heap) 36) (xE (zyEl zymc B s.heap) 35 4) 0 (zyEl zymc B H3) ∧ ((r : Int) = if tW (xE (zyEl zymc B s.heap) 36) (xE (zyEl zymc B s.heap) 35 4) 0 [115, 105, 122, 101] = true then 1 else 0) ∧ (∀ k, xE (zyEl zymc B H3) 21 k = xE (zyEl zymc B s.heap) 21 k) ∧ (∀ k, xE (zyEl zymc B H3) 22 k = xE (zyEl zymc B s.heap) 22 k)
          rw [hEE3]
          exact ⟨⟨by omega, by omega, by omega, fun h => by have := i7 h; omega⟩, hΨ3, fun k => by rw [e21 k, j0 k], fun k => by rw [e22 k, j1 k]⟩
        · show 18 < 19
          omega
    · have hx : x ∈ [zxfrz17_cx0] := hx
      have hag : ∀ k, k < 4 → v2 k = v k := hag
      have hfr : xFr [(35, 2, 3)] _ _ := hfr
      have ex := List.mem_singleton.mp hx
      subst ex
      obtain ⟨hF, hBd, hM⟩ := hXs
      have g3 : v2 3 = v 3 := hag 3 (by decide)
      have b0 : ((2147483649 : Nat) : Int) ≤ (v2 3) + 2147483648 ∧ (v2 3) + 2147483648 ≤ ((2147483649 : Nat) : Int) := xXb hBd 0 rfl
      have f0 : ¬ (v2 3) = 0 := xXf hF 0 rfl
      have e35_4 : xE (zyEl zymc B H2) 35 4 = xE (zyEl zymc B H) 35 4 := xFr_E hfr rfl
      have q35_4 : xE (zyEl zymc B H) 35 4 = xE (zyEl zymc B s.heap) 35 4 := xFr_E hFr0 rfl
      have e35_5 : xE (zyEl zymc B H2) 35 5 = xE (zyEl zymc B H) 35 5 := xFr_E hfr rfl
      have e35_6 : xE (zyEl zymc B H2) 35 6 = xE (zyEl zymc B H) 35 6 := xFr_E hfr rfl
      have e35_7 : xE (zyEl zymc B H2) 35 7 = xE (zyEl zymc B H) 35 7 := xFr_E hfr rfl
      have e35_8 : xE (zyEl zymc B H2) 35 8 = xE (zyEl zymc B H) 35 8 := xFr_E hfr rfl
      have e36 : ∀ i, xE (zyEl zymc B H2) 36 i = xE (zyEl zymc B H) 36 i := fun i => xFr_E hfr rfl
      have q36 : ∀ i, xE (zyEl zymc B H) 36 i = xE (zyEl zymc B s.heap) 36 i := fun i => xFr_E hFr0 rfl
      have e21 : ∀ i, xE (zyEl zymc B H2) 21 i = xE (zyEl zymc B H) 21 i := fun i => xFr_E hfr rfl
      have e22 : ∀ i, xE (zyEl zymc B H2) 22 i = xE (zyEl zymc B H) 22 i := fun i => xFr_E hfr rfl
      have hI : xAD (xE (zyEl zymc B s.heap) 36) (xE (zyEl zymc B s.heap) 35 4) 0 (zyEl zymc B H) ∧ ((v 3) = if tW (xE (zyEl zymc B s.heap) 36) (xE (zyEl zymc B s.heap) 35 4) 0 [115, 105, 122, 101] = true then 1 else 0) ∧ (∀ k, xE (zyEl zymc B H) 21 k = xE (zyEl zymc B s.heap) 21 k) ∧ (∀ k, xE (zyEl zymc B H) 22 k = xE (zyEl zymc B s.heap) 22 k) := hInv
      have tt : xE (zyEl zymc B H2) 36 = xE (zyEl zymc B s.heap) 36 := funext fun i => (e36 i).trans (q36 i)
      have tn : xE (zyEl zymc B H2) 35 4 = xE (zyEl zymc B s.heap) 35 4 := by omega
      have hP := hΦ.1
      have hP2 := hΦ.2
      obtain ⟨⟨i4, i5, i6, i7⟩, i3, j0, j1⟩ := hI
      have hb := tNx_b (T := xE (zyEl zymc B s.heap) 36) (n := xE (zyEl zymc B s.heap) 35 4) (p := 0) hP2
      have hw : tW (xE (zyEl zymc B s.heap) 36) (xE (zyEl zymc B s.heap) 35 4) 0 [115, 105, 122, 101] = true := by
        by_cases h : tW (xE (zyEl zymc B s.heap) 36) (xE (zyEl zymc B s.heap) 35 4) 0 [115, 105, 122, 101] = true
        · exact h
        · rw [if_neg h] at i3
          omega
      refine xCa hRu hIH hAt hB hv hFr (hftn B) (ix := 60) (ax := 1104) rfl rfl rfl hmeftn ⟨_, rfl, rfl, by decide⟩ ⟨rfl, rfl, rfl⟩ (by decide) [8, 32] [] [1, 4] rfl ⟨rfl, rfl⟩ (by decide +kernel) (xcs_c rfl (xcs_c rfl xcs_n)) (by decide +kernel) ?_ (fun H3 r hT3 hf3 hFr3 hr3 hΨ3 => ?_)
      · show xΦad (xfv [1, 4]) (zyEl zymc B H2)
        unfold xΦad
        omega
      · have hΨ3 : xΨtn (xfv [1, 4]) (zyEl zymc B H2) (zyEl zymc B H3) r := hΨ3
        have d35_4 : xE (zyEl zymc B H3) 35 4 = xE (zyEl zymc B H2) 35 4 := xFr_E hf3 rfl
        have d36 : ∀ i, xE (zyEl zymc B H3) 36 i = xE (zyEl zymc B H2) 36 i := fun i => xFr_E hf3 rfl
        have d21 : ∀ i, xE (zyEl zymc B H3) 21 i = xE (zyEl zymc B H2) 21 i := fun i => xFr_E hf3 rfl
        have d22 : ∀ i, xE (zyEl zymc B H3) 22 i = xE (zyEl zymc B H2) 22 i := fun i => xFr_E hf3 rfl
        unfold xΨtn at hΨ3
        rw [tt, tn, show xE (zyEl zymc B H2) 35 6 = tNx (xE (zyEl zymc B s.heap) 36) (xE (zyEl zymc B s.heap) 35 4) 0 by omega] at hΨ3
        have hr01 := xtn_r hΨ3
        refine ⟨⟨3, by decide⟩, [0, 0, 0], [0, 0, 0, r], rfl, ⟨by decide +kernel, ⟨rfl, by decide +kernel⟩, (xcs_c rfl (xcs_c rfl (xcs_c rfl xcs_n))), (xe_0 (xe_0 (xe_0 (xe_c (by omega) (by omega) rfl xe_n)))), xkq_n⟩, (by rw [if_pos rfl]; exact ⟨3, [], rfl, by decide, rfl, xst_n⟩), ?_, ?_⟩
        · show tW (xE (zyEl zymc B s.heap) 36) (xE (zyEl zymc B s.heap) 35 4) 0 [115, 105, 122, 101] = true ∧ xTN (xE (zyEl zymc B s.heap) 36) (xE (zyEl zymc B s.heap) 35 4) (tNx (xE (zyEl zymc B s.heap) 36) (xE (zyEl zymc B s.heap) 35 4) 0) 1 4 (zyEl zymc B H3) (r : Int) ∧ (∀ k, xE (zyEl zymc B H3) 21 k = xE (zyEl zymc B s.heap) 21 k) ∧ (∀ k, xE (zyEl zymc B H3) 22 k = xE (zyEl zymc B s.heap) 22 k)
          exact ⟨hw, hΨ3, fun k => by rw [d21 k, e21 k, j0 k], fun k => by rw [d22 k, e22 k, j1 k]⟩
        · show 17 < 18
          omega
    · have hx : x ∈ [zxfrz17_dx0] := hx
      have hag : ∀ k, k < 4 → v2 k = v k := hag
      have hfr : xFr [] _ _ := hfr
      have ex := List.mem_singleton.mp hx
      subst ex
      obtain ⟨hF, hBd, hM⟩ := hXs
      have r4 := hr2 4
      have g3 : v2 3 = v 3 := hag 3 (by decide)
      have b0 : ((2147483649 : Nat) : Int) ≤ (v2 3) + 2147483648 ∧ (v2 3) + 2147483648 ≤ ((2147483649 : Nat) : Int) := xXb hBd 0 rfl
      have f0 : ¬ (v2 3) = 0 := xXf hF 0 rfl
      have f1 : (0 : Int) ≤ 8 ∧ xE (zyEl zymc B H) 35 8 = (v2 4) := xXf hF 1 rfl
      have e35_4 : xE (zyEl zymc B H2) 35 4 = xE (zyEl zymc B H) 35 4 := xFr_E hfr rfl
      have q35_4 : xE (zyEl zymc B H) 35 4 = xE (zyEl zymc B s.heap) 35 4 := xFr_E hFr0 rfl
      have e35_5 : xE (zyEl zymc B H2) 35 5 = xE (zyEl zymc B H) 35 5 := xFr_E hfr rfl
      have e35_6 : xE (zyEl zymc B H2) 35 6 = xE (zyEl zymc B H) 35 6 := xFr_E hfr rfl
      have e35_7 : xE (zyEl zymc B H2) 35 7 = xE (zyEl zymc B H) 35 7 := xFr_E hfr rfl
      have e35_8 : xE (zyEl zymc B H2) 35 8 = xE (zyEl zymc B H) 35 8 := xFr_E hfr rfl
      have e35_2 : xE (zyEl zymc B H2) 35 2 = xE (zyEl zymc B H) 35 2 := xFr_E hfr rfl
      have e35_3 : xE (zyEl zymc B H2) 35 3 = xE (zyEl zymc B H) 35 3 := xFr_E hfr rfl
      have e36 : ∀ i, xE (zyEl zymc B H2) 36 i = xE (zyEl zymc B H) 36 i := fun i => xFr_E hfr rfl
      have q36 : ∀ i, xE (zyEl zymc B H) 36 i = xE (zyEl zymc B s.heap) 36 i := fun i => xFr_E hFr0 rfl
      have e21 : ∀ i, xE (zyEl zymc B H2) 21 i = xE (zyEl zymc B H) 21 i := fun i => xFr_E hfr rfl
      have e22 : ∀ i, xE (zyEl zymc B H2) 22 i = xE (zyEl zymc B H) 22 i := fun i => xFr_E hfr rfl
      have hI : tW (xE (zyEl zymc B s.heap) 36) (xE (zyEl zymc B s.heap) 35 4) 0 [115, 105, 122, 101] = true ∧ xTN (xE (zyEl zymc B s.heap) 36) (xE (zyEl zymc B s.heap) 35 4) (tNx (xE (zyEl zymc B s.heap) 36) (xE (zyEl zymc B s.heap) 35 4) 0) 1 4 (zyEl zymc B H) (v 3) ∧ (∀ k, xE (zyEl zymc B H) 21 k = xE (zyEl zymc B s.heap) 21 k) ∧ (∀ k, xE (zyEl zymc B H) 22 k = xE (zyEl zymc B s.heap) 22 k) := hInv
      have hP := hΦ.1
      have hP2 := hΦ.2
      obtain ⟨hw, i1, j0, j1⟩ := hI
      rw [show (v 3) = v2 3 by omega] at i1
      have hb := tNx_b (T := xE (zyEl zymc B s.heap) 36) (n := xE (zyEl zymc B s.heap) 35 4) (p := 0) hP2
      have tt : xE (zyEl zymc B H2) 36 = xE (zyEl zymc B s.heap) 36 := funext fun i => (e36 i).trans (q36 i)
      have tn : xE (zyEl zymc B H2) 35 4 = xE (zyEl zymc B s.heap) 35 4 := by omega
      obtain ⟨c1, c2, c3, c4, c5, c6, c7⟩ := xtn_1 i1 (by omega)
      have hb2 := tNx_b (T := xE (zyEl zymc B s.heap) 36) (n := xE (zyEl zymc B s.heap) 35 4) (p := tNx (xE (zyEl zymc B s.heap) 36) (xE (zyEl zymc B s.heap) 35 4) 0) (by omega)
      refine xCa hRu hIH hAt hB hv hFr (hftn B) (ix := 60) (ax := 1104) rfl rfl rfl hmeftn ⟨_, rfl, rfl, by decide⟩ ⟨rfl, rfl, rfl⟩ (by decide) [8, 40] [] [1, 5] rfl ⟨rfl, rfl⟩ (by decide +kernel) (xcs_c rfl (xcs_c rfl xcs_n)) (by decide +kernel) ?_ (fun H3 r hT3 hf3 hFr3 hr3 hΨ3 => ?_)
      · show xΦad (xfv [1, 5]) (zyEl zymc B H2)
        unfold xΦad
        omega
      · have hΨ3 : xΨtn (xfv [1, 5]) (zyEl zymc B H2) (zyEl zymc B H3) r := hΨ3
        have d35_4 : xE (zyEl zymc B H3) 35 4 = xE (zyEl zymc B H2) 35 4 := xFr_E hf3 rfl
        have d36 : ∀ i, xE (zyEl zymc B H3) 36 i = xE (zyEl zymc B H2) 36 i := fun i => xFr_E hf3 rfl
        have d21 : ∀ i, xE (zyEl zymc B H3) 21 i = xE (zyEl zymc B H2) 21 i := fun i => xFr_E hf3 rfl
        have d22 : ∀ i, xE (zyEl zymc B H3) 22 i = xE (zyEl zymc B H2) 22 i := fun i => xFr_E hf3 rfl
        unfold xΨtn at hΨ3
        rw [tt, tn] at hΨ3
        have hr01 := xtn_r hΨ3
        refine ⟨⟨4, by decide⟩, [0, 0, 137438953473], [0, 0, (v2 4), r], rfl, ⟨by decide +kernel, ⟨rfl, by decide +kernel⟩, (xcs_c rfl (xcs_c rfl (xcs_c rfl xcs_n))), (xe_0 (xe_0 (xe_c (by omega) (by omega) rfl (xe_c (by omega) (by omega) rfl xe_n)))), xkq_n⟩, (by rw [if_pos rfl]; exact ⟨3, [], rfl, by decide, rfl, xst_n⟩), ?_, ?_⟩
        · show ∃ p1, p1 ≤ (xE (zyEl zymc B s.heap) 35 4) ∧ (1 ≤ ((v2 4) : Int) ∧ ((v2 4) : Int) ≤ 4) ∧ pSz (xE (zyEl zymc B s.heap) 36) (xE (zyEl zymc B s.heap) 35 4) = pNum (xE (zyEl zymc B s.heap) 36) (xE (zyEl zymc B s.heap) 35 4) p1 1 5 (fun cc p2 => pSem (xE (zyEl zymc B s.heap) 36) (xE (zyEl zymc B s.heap) 35 4) p2 (pClr ((v2 4) : Int) cc)) ∧ xTN (xE (zyEl zymc B s.heap) 36) (xE (zyEl zymc B s.heap) 35 4) p1 1 5 (zyEl zymc B H3) (r : Int) ∧ (∀ k, xE (zyEl zymc B H3) 21 k = xE (zyEl zymc B s.heap) 21 k) ∧ (∀ k, xE (zyEl zymc B H3) 22 k = xE (zyEl zymc B s.heap) 22 k)
          refine ⟨xE (zyEl zymc B H2) 35 6, by omega, by omega, ?_, hΨ3, fun k => by rw [d21 k, e21 k, j0 k], fun k => by rw [d22 k, e22 k, j1 k]⟩
          unfold pSz
          rw [hw, if_pos rfl, c7, show xE (zyEl zymc B H2) 35 6 = xE (zyEl zymc B H) 35 6 by omega, show xE (zyEl zymc B H) 35 8 = (v2 4) by omega]
        · show 16 < 17
          omega
    · have hx : x ∈ [zxfrz17_ex0] := hx
      have hag : ∀ k, k < 4 → v2 k = v k := hag
      have hfr : xFr [] _ _ := hfr
      have ex := List.mem_singleton.mp hx
      subst ex
      obtain ⟨hF, hBd, hM⟩ := hXs
      have r4 := hr2 4
      have g2 : v2 2 = v 2 := hag 2 (by decide)
      have g3 : v2 3 = v 3 := hag 3 (by decide)
      have b0 : ((2147483649 : Nat) : Int) ≤ (v2 2) + 2147483648 ∧ (v2 2) + 2147483648 ≤ ((2147483652 : Nat) : Int) := xXb hBd 0 rfl
      have b1 : ((2147483649 : Nat) : Int) ≤ (v2 3) + 2147483648 ∧ (v2 3) + 2147483648 ≤ ((2147483649 : Nat) : Int) := xXb hBd 1 rfl
      have f0 : ¬ (v2 3) = 0 := xXf hF 0 rfl
      have f1 : (0 : Int) ≤ 8 ∧ xE (zyEl zymc B H) 35 8 = (v2 4) := xXf hF 1 rfl
      have e35_4 : xE (zyEl zymc B H2) 35 4 = xE (zyEl zymc B H) 35 4 := xFr_E hfr rfl
      have q35_4 : xE (zyEl zymc B H) 35 4 = xE (zyEl zymc B s.heap) 35 4 := xFr_E hFr0 rfl
      have e35_5 : xE (zyEl zymc B H2) 35 5 = xE (zyEl zymc B H) 35 5 := xFr_E hfr rfl
      have e35_6 : xE (zyEl zymc B H2) 35 6 = xE (zyEl zymc B H) 35 6 := xFr_E hfr rfl
      have e35_7 : xE (zyEl zymc B H2) 35 7 = xE (zyEl zymc B H) 35 7 := xFr_E hfr rfl
      have e35_8 : xE (zyEl zymc B H2) 35 8 = xE (zyEl zymc B H) 35 8 := xFr_E hfr rfl
      have e35_2 : xE (zyEl zymc B H2) 35 2 = xE (zyEl zymc B H) 35 2 := xFr_E hfr rfl
      have e35_3 : xE (zyEl zymc B H2) 35 3 = xE (zyEl zymc B H) 35 3 := xFr_E hfr rfl
      have e36 : ∀ i, xE (zyEl zymc B H2) 36 i = xE (zyEl zymc B H) 36 i := fun i => xFr_E hfr rfl
      have q36 : ∀ i, xE (zyEl zymc B H) 36 i = xE (zyEl zymc B s.heap) 36 i := fun i => xFr_E hFr0 rfl
      have e21 : ∀ i, xE (zyEl zymc B H2) 21 i = xE (zyEl zymc B H) 21 i := fun i => xFr_E hfr rfl
      have e22 : ∀ i, xE (zyEl zymc B H2) 22 i = xE (zyEl zymc B H) 22 i := fun i => xFr_E hfr rfl
      have hI : ∃ p1, p1 ≤ (xE (zyEl zymc B s.heap) 35 4) ∧ (1 ≤ (v 2) ∧ (v 2) ≤ 4) ∧ pSz (xE (zyEl zymc B s.heap) 36) (xE (zyEl zymc B s.heap) 35 4) = pNum (xE (zyEl zymc B s.heap) 36) (xE (zyEl zymc B s.heap) 35 4) p1 1 5 (fun cc p2 => pSem (xE (zyEl zymc B s.heap) 36) (xE (zyEl zymc B s.heap) 35 4) p2 (pClr (v 2) cc)) ∧ xTN (xE (zyEl zymc B s.heap) 36) (xE (zyEl zymc B s.heap) 35 4) p1 1 5 (zyEl zymc B H) (v 3) ∧ (∀ k, xE (zyEl zymc B H) 21 k = xE (zyEl zymc B s.heap) 21 k) ∧ (∀ k, xE (zyEl zymc B H) 22 k = xE (zyEl zymc B s.heap) 22 k) := hInv
      have hP := hΦ.1
      have hP2 := hΦ.2
      obtain ⟨p1, i0, i1, i2, i3, j0, j1⟩ := hI
      rw [show (v 3) = v2 3 by omega] at i3
      rw [show (v 2) = v2 2 by omega] at i2
      have hb := tNx_b (T := xE (zyEl zymc B s.heap) 36) (n := xE (zyEl zymc B s.heap) 35 4) (p := p1) i0
      obtain ⟨c1, c2, c3, c4, c5, c6, c7⟩ := xtn_1 i3 (by omega)
      refine xCa hRu hIH hAt hB hv hFr (hfcl17 B) (ix := 67) (ax := 497) rfl rfl rfl hmefcl17 ⟨_, rfl, rfl, by decide⟩ ⟨rfl, rfl, rfl⟩ (by decide) [68719476737, 137438953473] [] [(v2 2), (v2 4)] rfl ⟨rfl, rfl⟩ (by decide +kernel) (xcs_c rfl (xcs_c rfl xcs_n)) (by decide +kernel) ?_ (fun H3 r hT3 hf3 hFr3 hr3 hΨ3 => ?_)
      · show xΦcl17 (xfv [(v2 2), (v2 4)]) (zyEl zymc B H2)
        exact ⟨by show 1 ≤ (v2 2); omega, by show (v2 2) ≤ 4; omega, by show 1 ≤ (v2 4); omega, by show (v2 4) ≤ 5; omega⟩
      · have hΨ3 : xΨcl17 (xfv [(v2 2), (v2 4)]) (zyEl zymc B H2) (zyEl zymc B H3) r := hΨ3
        have d35_4 : xE (zyEl zymc B H3) 35 4 = xE (zyEl zymc B H2) 35 4 := xFr_E hf3 rfl
        have d35_5 : xE (zyEl zymc B H3) 35 5 = xE (zyEl zymc B H2) 35 5 := xFr_E hf3 rfl
        have d35_6 : xE (zyEl zymc B H3) 35 6 = xE (zyEl zymc B H2) 35 6 := xFr_E hf3 rfl
        have d35_7 : xE (zyEl zymc B H3) 35 7 = xE (zyEl zymc B H2) 35 7 := xFr_E hf3 rfl
        have d35_8 : xE (zyEl zymc B H3) 35 8 = xE (zyEl zymc B H2) 35 8 := xFr_E hf3 rfl
        have d35_2 : xE (zyEl zymc B H3) 35 2 = xE (zyEl zymc B H2) 35 2 := xFr_E hf3 rfl
        have d35_3 : xE (zyEl zymc B H3) 35 3 = xE (zyEl zymc B H2) 35 3 := xFr_E hf3 rfl
        have d36 : ∀ i, xE (zyEl zymc B H3) 36 i = xE (zyEl zymc B H2) 36 i := fun i => xFr_E hf3 rfl
        obtain ⟨w1, w2, w3⟩ := hΨ3
        have w1 : xAb17 (zyEl zymc B H3) (pClr (v2 2) (v2 4)) := w1
        have w2 : xGeo17 (zyEl zymc B H3) ((v2 2)).toNat ((v2 4)).toNat := w2
        refine ⟨⟨5, by decide⟩, [0, 0, 0], [0, 0, 0], rfl, ⟨by decide +kernel, ⟨rfl, by decide +kernel⟩, (xcs_c rfl (xcs_c rfl (xcs_c rfl xcs_n))), (xe_0 (xe_0 (xe_0 xe_n))), xkq_n⟩, (by rw [if_neg (by decide)]; exact xst_n), ?_, ?_⟩
        · show ∃ rr cc : Int, xE (zyEl zymc B H3) 35 6 ≤ (xE (zyEl zymc B s.heap) 35 4) ∧ pSz (xE (zyEl zymc B s.heap) 36) (xE (zyEl zymc B s.heap) 35 4) = pSem (xE (zyEl zymc B s.heap) 36) (xE (zyEl zymc B s.heap) 35 4) (xE (zyEl zymc B H3) 35 6) (pClr rr cc) ∧ (1 ≤ rr ∧ rr ≤ 4 ∧ 1 ≤ cc ∧ cc ≤ 5) ∧ xAb17 (zyEl zymc B H3) (pClr rr cc) ∧ xGeo17 (zyEl zymc B H3) rr.toNat cc.toNat ∧ xJk17 (zyEl zymc B s.heap) (zyEl zymc B H3)
          refine ⟨(v2 2), (v2 4), by omega, ?_, by omega, w1, w2, fun i i0 i1 => ?_⟩
          · rw [i2, c7, show xE (zyEl zymc B H) 35 6 = xE (zyEl zymc B H3) 35 6 by omega, show xE (zyEl zymc B H) 35 8 = (v2 4) by omega]
          · have w := w3 i i0 i1
            rw [e21 i, j0 i, e22 i, j1 i] at w
            exact w
        · show 15 < 16
          omega
    · have hx : x ∈ [zxfrz17_fx0] := hx
      have hag : ∀ k, k < 3 → v2 k = v k := hag
      have hfr : xFr [] _ _ := hfr
      have ex := List.mem_singleton.mp hx
      subst ex
      obtain ⟨hF, hBd, hM⟩ := hXs
      have e35_4 : xE (zyEl zymc B H2) 35 4 = xE (zyEl zymc B H) 35 4 := xFr_E hfr rfl
      have q35_4 : xE (zyEl zymc B H) 35 4 = xE (zyEl zymc B s.heap) 35 4 := xFr_E hFr0 rfl
      have e35_5 : xE (zyEl zymc B H2) 35 5 = xE (zyEl zymc B H) 35 5 := xFr_E hfr rfl
      have e35_6 : xE (zyEl zymc B H2) 35 6 = xE (zyEl zymc B H) 35 6 := xFr_E hfr rfl
      have e35_7 : xE (zyEl zymc B H2) 35 7 = xE (zyEl zymc B H) 35 7 := xFr_E hfr rfl
      have e35_8 : xE (zyEl zymc B H2) 35 8 = xE (zyEl zymc B H) 35 8 := xFr_E hfr rfl
      have e35_2 : xE (zyEl zymc B H2) 35 2 = xE (zyEl zymc B H) 35 2 := xFr_E hfr rfl
      have e35_3 : xE (zyEl zymc B H2) 35 3 = xE (zyEl zymc B H) 35 3 := xFr_E hfr rfl
      have e36 : ∀ i, xE (zyEl zymc B H2) 36 i = xE (zyEl zymc B H) 36 i := fun i => xFr_E hfr rfl
      have q36 : ∀ i, xE (zyEl zymc B H) 36 i = xE (zyEl zymc B s.heap) 36 i := fun i => xFr_E hFr0 rfl
      have e21 : ∀ i, xE (zyEl zymc B H2) 21 i = xE (zyEl zymc B H) 21 i := fun i => xFr_E hfr rfl
      have e22 : ∀ i, xE (zyEl zymc B H2) 22 i = xE (zyEl zymc B H) 22 i := fun i => xFr_E hfr rfl
      have hI : ∃ rr cc : Int, xE (zyEl zymc B H) 35 6 ≤ (xE (zyEl zymc B s.heap) 35 4) ∧ pSz (xE (zyEl zymc B s.heap) 36) (xE (zyEl zymc B s.heap) 35 4) = pSem (xE (zyEl zymc B s.heap) 36) (xE (zyEl zymc B s.heap) 35 4) (xE (zyEl zymc B H) 35 6) (pClr rr cc) ∧ (1 ≤ rr ∧ rr ≤ 4 ∧ 1 ≤ cc ∧ cc ≤ 5) ∧ xAb17 (zyEl zymc B H) (pClr rr cc) ∧ xGeo17 (zyEl zymc B H) rr.toNat cc.toNat ∧ xJk17 (zyEl zymc B s.heap) (zyEl zymc B H) := hInv
      have tt : xE (zyEl zymc B H2) 36 = xE (zyEl zymc B s.heap) 36 := funext fun i => (e36 i).trans (q36 i)
      have tn : xE (zyEl zymc B H2) 35 4 = xE (zyEl zymc B s.heap) 35 4 := by omega
      obtain ⟨rr, cc, i1, i2, i3, i4, i5, i6⟩ := hI
      have hEE2 := xFr_n hfr
      refine xCa hRu hIH hAt hB hv hFr (hfts B) (ix := 73) (ax := 1088) rfl rfl rfl hmefts ⟨_, rfl, rfl, by decide⟩ ⟨rfl, rfl, rfl⟩ (by decide) [] [] [] rfl ⟨rfl, rfl⟩ (by decide +kernel) xcs_n (by decide +kernel) ?_ (fun H3 r hT3 hf3 hFr3 hr3 hΨ3 => ?_)
      · show xΦad (xfv []) (zyEl zymc B H2)
        unfold xΦad
        omega
      · have hΨ3 : xΨts (xfv []) (zyEl zymc B H2) (zyEl zymc B H3) r := hΨ3
        have d35_4 : xE (zyEl zymc B H3) 35 4 = xE (zyEl zymc B H2) 35 4 := xFr_E hf3 rfl
        have d36 : ∀ i, xE (zyEl zymc B H3) 36 i = xE (zyEl zymc B H2) 36 i := fun i => xFr_E hf3 rfl
        have d21 : ∀ i, xE (zyEl zymc B H3) 21 i = xE (zyEl zymc B H2) 21 i := fun i => xFr_E hf3 rfl
        have d22 : ∀ i, xE (zyEl zymc B H3) 22 i = xE (zyEl zymc B H2) 22 i := fun i => xFr_E hf3 rfl
        unfold xΨts at hΨ3
        rw [tt, tn] at hΨ3
        have hr01 := xts_r hΨ3
        refine ⟨⟨6, by decide⟩, [0, 0, 0], [0, 0, 0, r], rfl, ⟨by decide +kernel, ⟨rfl, by decide +kernel⟩, (xcs_c rfl (xcs_c rfl (xcs_c rfl xcs_n))), (xe_0 (xe_0 (xe_0 (xe_c (by omega) (by omega) rfl xe_n)))), xkq_n⟩, (by rw [if_pos rfl]; exact ⟨3, [], rfl, by decide, rfl, xst_n⟩), ?_, ?_⟩
        · show ∃ rr cc p2 : Int, pSz (xE (zyEl zymc B s.heap) 36) (xE (zyEl zymc B s.heap) 35 4) = pSem (xE (zyEl zymc B s.heap) 36) (xE (zyEl zymc B s.heap) 35 4) p2 (pClr rr cc) ∧ xTS (xE (zyEl zymc B s.heap) 36) (xE (zyEl zymc B s.heap) 35 4) p2 (zyEl zymc B H3) (r : Int) ∧ (1 ≤ rr ∧ rr ≤ 4 ∧ 1 ≤ cc ∧ cc ≤ 5) ∧ xAb17 (zyEl zymc B H3) (pClr rr cc) ∧ xGeo17 (zyEl zymc B H3) rr.toNat cc.toNat ∧ xJk17 (zyEl zymc B s.heap) (zyEl zymc B H3)
          refine ⟨rr, cc, xE (zyEl zymc B H2) 35 6, by rw [i2, hEE2], hΨ3, i3, xAb17_35 i4 (by rw [← hEE2]; exact xFr_mono (by decide) hf3), xGeo17_35 i5 (by rw [← hEE2]; exact xFr_mono (by decide) hf3), fun i i0 i1 => ?_⟩
          have w := i6 i i0 i1
          rw [d21 i, e21 i, d22 i, e22 i]
          exact w
        · show 14 < 15
          omega
    · cases hx
  · intro x0 E0 E E2 hrx hT0 hΦ i v hT hrv hInv hKc hFr0 x hx v2 hr2 hXs hag hfr hFr hT2
    rcases i with ⟨i, hi⟩
    have hi2 : i = 0 ∨ i = 1 ∨ i = 2 ∨ i = 3 ∨ i = 4 ∨ i = 5 ∨ i = 6 := by omega
    rcases hi2 with rfl | rfl | rfl | rfl | rfl | rfl | rfl
    · cases hx
    · cases hx
    · have hx : x ∈ [zxfrz17_cr0, zxfrz17_cr1, zxfrz17_cr2] := hx
      have hag : ∀ k, k < 4 → v2 k = v k := hag
      have hfr : xFr [(35, 2, 3)] _ _ := hfr
      rcases List.mem_cons.mp hx with ex | hx
      · subst ex
        obtain ⟨hF, hBd, hM⟩ := hXs
        have g3 : v2 3 = v 3 := hag 3 (by decide)
        have b0 : ((2147483648 : Nat) : Int) ≤ (v2 3) + 2147483648 ∧ (v2 3) + 2147483648 ≤ ((2147483648 : Nat) : Int) := xXb hBd 0 rfl
        have b1 : ((2147483650 : Nat) : Int) ≤ (v2 4) + 2147483648 ∧ (v2 4) + 2147483648 ≤ ((2147483653 : Nat) : Int) := xXb hBd 1 rfl
        have b2 : ((2147483648 : Nat) : Int) ≤ (v2 5) + 2147483648 ∧ (v2 5) + 2147483648 ≤ ((2147484548 : Nat) : Int) := xXb hBd 2 rfl
        have f0 : (v2 3) = 0 := xXf hF 0 rfl
        have f1 : (0 : Int) ≤ 7 ∧ xE E 35 7 = (v2 4) := xXf hF 1 rfl
        have f2 : ¬ (v2 4) = 1 := xXf hF 2 rfl
        have f3 : (0 : Int) ≤ 5 ∧ xE E 35 5 = (v2 5) := xXf hF 3 rfl
        have m0 : xE E2 35 2 = 2 := xXm hM 0 rfl
        have m1 : xE E2 35 3 = (v2 5) := xXm hM 1 rfl
        have e35_4 : xE E2 35 4 = xE E 35 4 := xFr_E hfr rfl
        have q35_4 : xE E 35 4 = xE E0 35 4 := xFr_E hFr0 rfl
        have e35_5 : xE E2 35 5 = xE E 35 5 := xFr_E hfr rfl
        have e35_6 : xE E2 35 6 = xE E 35 6 := xFr_E hfr rfl
        have e35_7 : xE E2 35 7 = xE E 35 7 := xFr_E hfr rfl
        have e35_8 : xE E2 35 8 = xE E 35 8 := xFr_E hfr rfl
        have e36 : ∀ i, xE E2 36 i = xE E 36 i := fun i => xFr_E hfr rfl
        have q36 : ∀ i, xE E 36 i = xE E0 36 i := fun i => xFr_E hFr0 rfl
        have e21 : ∀ i, xE E2 21 i = xE E 21 i := fun i => xFr_E hfr rfl
        have e22 : ∀ i, xE E2 22 i = xE E 22 i := fun i => xFr_E hfr rfl
        have hI : xAD (xE E0 36) (xE E0 35 4) 0 E ∧ ((v 3) = if tW (xE E0 36) (xE E0 35 4) 0 [115, 105, 122, 101] = true then 1 else 0) ∧ (∀ k, xE E 21 k = xE E0 21 k) ∧ (∀ k, xE E 22 k = xE E0 22 k) := hInv
        show xΨfrz17 x0 E0 E2 0
        have hP := hΦ.1
        have hP2 := hΦ.2
        obtain ⟨⟨i4, i5, i6, i7⟩, i3, j0, j1⟩ := hI
        have hb := tNx_b (T := xE E0 36) (n := xE E0 35 4) (p := 0) hP2
        have hw : tW (xE E0 36) (xE E0 35 4) 0 [115, 105, 122, 101] = false := by
          rw [Bool.eq_false_iff]
          intro h
          rw [if_pos h] at i3
          omega
        have hm : pMis (xE E0 36) (xE E0 35 4) 0 = 2 := by unfold pMis; rw [if_neg (by omega)]
        have e : pSz (xE E0 36) (xE E0 35 4) = Except.error (pMis (xE E0 36) (xE E0 35 4) 0, tFr (xE E0 36) (xE E0 35 4) 0) := by unfold pSz; rw [hw, if_neg (by decide)]
        refine ⟨?_, fun i i0 i1 => Or.inl ⟨by rw [e21 i, j0 i], by rw [e22 i, j1 i]⟩, fun p S h => by rw [show _ = _ from e] at h; cases h⟩
        rw [show _ = _ from e]
        exact xOut17_f (by omega) (by omega) (by omega)
      · skip
        rcases List.mem_cons.mp hx with ex | hx
        · subst ex
          obtain ⟨hF, hBd, hM⟩ := hXs
          have g3 : v2 3 = v 3 := hag 3 (by decide)
          have b0 : ((2147483648 : Nat) : Int) ≤ (v2 3) + 2147483648 ∧ (v2 3) + 2147483648 ≤ ((2147483648 : Nat) : Int) := xXb hBd 0 rfl
          have b1 : ((2147483648 : Nat) : Int) ≤ (v2 4) + 2147483648 ∧ (v2 4) + 2147483648 ≤ ((2147483648 : Nat) : Int) := xXb hBd 1 rfl
          have b2 : ((2147483648 : Nat) : Int) ≤ (v2 5) + 2147483648 ∧ (v2 5) + 2147483648 ≤ ((2147484548 : Nat) : Int) := xXb hBd 2 rfl
          have f0 : (v2 3) = 0 := xXf hF 0 rfl
          have f1 : (0 : Int) ≤ 7 ∧ xE E 35 7 = (v2 4) := xXf hF 1 rfl
          have f2 : ¬ (v2 4) = 1 := xXf hF 2 rfl
          have f3 : (0 : Int) ≤ 5 ∧ xE E 35 5 = (v2 5) := xXf hF 3 rfl
          have m0 : xE E2 35 2 = 2 := xXm hM 0 rfl
          have m1 : xE E2 35 3 = (v2 5) := xXm hM 1 rfl
          have e35_4 : xE E2 35 4 = xE E 35 4 := xFr_E hfr rfl
          have q35_4 : xE E 35 4 = xE E0 35 4 := xFr_E hFr0 rfl
          have e35_5 : xE E2 35 5 = xE E 35 5 := xFr_E hfr rfl
          have e35_6 : xE E2 35 6 = xE E 35 6 := xFr_E hfr rfl
          have e35_7 : xE E2 35 7 = xE E 35 7 := xFr_E hfr rfl
          have e35_8 : xE E2 35 8 = xE E 35 8 := xFr_E hfr rfl
          have e36 : ∀ i, xE E2 36 i = xE E 36 i := fun i => xFr_E hfr rfl
          have q36 : ∀ i, xE E 36 i = xE E0 36 i := fun i => xFr_E hFr0 rfl
          have e21 : ∀ i, xE E2 21 i = xE E 21 i := fun i => xFr_E hfr rfl
          have e22 : ∀ i, xE E2 22 i = xE E 22 i := fun i => xFr_E hfr rfl
          have hI : xAD (xE E0 36) (xE E0 35 4) 0 E ∧ ((v 3) = if tW (xE E0 36) (xE E0 35 4) 0 [115, 105, 122, 101] = true then 1 else 0) ∧ (∀ k, xE E 21 k = xE E0 21 k) ∧ (∀ k, xE E 22 k = xE E0 22 k) := hInv
          show xΨfrz17 x0 E0 E2 0
          have hP := hΦ.1
          have hP2 := hΦ.2
          obtain ⟨⟨i4, i5, i6, i7⟩, i3, j0, j1⟩ := hI
          have hb := tNx_b (T := xE E0 36) (n := xE E0 35 4) (p := 0) hP2
          have hw : tW (xE E0 36) (xE E0 35 4) 0 [115, 105, 122, 101] = false := by
            rw [Bool.eq_false_iff]
            intro h
            rw [if_pos h] at i3
            omega
          have hm : pMis (xE E0 36) (xE E0 35 4) 0 = 2 := by unfold pMis; rw [if_neg (by omega)]
          have e : pSz (xE E0 36) (xE E0 35 4) = Except.error (pMis (xE E0 36) (xE E0 35 4) 0, tFr (xE E0 36) (xE E0 35 4) 0) := by unfold pSz; rw [hw, if_neg (by decide)]
          refine ⟨?_, fun i i0 i1 => Or.inl ⟨by rw [e21 i, j0 i], by rw [e22 i, j1 i]⟩, fun p S h => by rw [show _ = _ from e] at h; cases h⟩
          rw [show _ = _ from e]
          exact xOut17_f (by omega) (by omega) (by omega)
        · skip
          have ex := List.mem_singleton.mp hx
          subst ex
          obtain ⟨hF, hBd, hM⟩ := hXs
          have g3 : v2 3 = v 3 := hag 3 (by decide)
          have b0 : ((2147483648 : Nat) : Int) ≤ (v2 3) + 2147483648 ∧ (v2 3) + 2147483648 ≤ ((2147483648 : Nat) : Int) := xXb hBd 0 rfl
          have b1 : ((2147483649 : Nat) : Int) ≤ (v2 4) + 2147483648 ∧ (v2 4) + 2147483648 ≤ ((2147483649 : Nat) : Int) := xXb hBd 1 rfl
          have b2 : ((2147483648 : Nat) : Int) ≤ (v2 5) + 2147483648 ∧ (v2 5) + 2147483648 ≤ ((2147484548 : Nat) : Int) := xXb hBd 2 rfl
          have f0 : (v2 3) = 0 := xXf hF 0 rfl
          have f1 : (0 : Int) ≤ 7 ∧ xE E 35 7 = (v2 4) := xXf hF 1 rfl
          have f2 : (v2 4) = 1 := xXf hF 2 rfl
          have f3 : (0 : Int) ≤ 5 ∧ xE E 35 5 = (v2 5) := xXf hF 3 rfl
          have m0 : xE E2 35 2 = 1 := xXm hM 0 rfl
          have m1 : xE E2 35 3 = (v2 5) := xXm hM 1 rfl
          have e35_4 : xE E2 35 4 = xE E 35 4 := xFr_E hfr rfl
          have q35_4 : xE E 35 4 = xE E0 35 4 := xFr_E hFr0 rfl
          have e35_5 : xE E2 35 5 = xE E 35 5 := xFr_E hfr rfl
          have e35_6 : xE E2 35 6 = xE E 35 6 := xFr_E hfr rfl
          have e35_7 : xE E2 35 7 = xE E 35 7 := xFr_E hfr rfl
          have e35_8 : xE E2 35 8 = xE E 35 8 := xFr_E hfr rfl
          have e36 : ∀ i, xE E2 36 i = xE E 36 i := fun i => xFr_E hfr rfl
          have q36 : ∀ i, xE E 36 i = xE E0 36 i := fun i => xFr_E hFr0 rfl
          have e21 : ∀ i, xE E2 21 i = xE E 21 i := fun i => xFr_E hfr rfl
          have e22 : ∀ i, xE E2 22 i = xE E 22 i := fun i => xFr_E hfr rfl
          have hI : xAD (xE E0 36) (xE E0 35 4) 0 E ∧ ((v 3) = if tW (xE E0 36) (xE E0 35 4) 0 [115, 105, 122, 101] = true then 1 else 0) ∧ (∀ k, xE E 21 k = xE E0 21 k) ∧ (∀ k, xE E 22 k = xE E0 22 k) := hInv
          show xΨfrz17 x0 E0 E2 0
          have hP := hΦ.1
          have hP2 := hΦ.2
          obtain ⟨⟨i4, i5, i6, i7⟩, i3, j0, j1⟩ := hI
          have hb := tNx_b (T := xE E0 36) (n := xE E0 35 4) (p := 0) hP2
          have hw : tW (xE E0 36) (xE E0 35 4) 0 [115, 105, 122, 101] = false := by
            rw [Bool.eq_false_iff]
            intro h
            rw [if_pos h] at i3
            omega
          have hm : pMis (xE E0 36) (xE E0 35 4) 0 = 1 := by unfold pMis; rw [if_pos (by omega)]
          have e : pSz (xE E0 36) (xE E0 35 4) = Except.error (pMis (xE E0 36) (xE E0 35 4) 0, tFr (xE E0 36) (xE E0 35 4) 0) := by unfold pSz; rw [hw, if_neg (by decide)]
          refine ⟨?_, fun i i0 i1 => Or.inl ⟨by rw [e21 i, j0 i], by rw [e22 i, j1 i]⟩, fun p S h => by rw [show _ = _ from e] at h; cases h⟩
          rw [show _ = _ from e]
          exact xOut17_f (by omega) (by omega) (by omega)
    · have hx : x ∈ [zxfrz17_dr0] := hx
      have hag : ∀ k, k < 4 → v2 k = v k := hag
      have hfr : xFr [] _ _ := hfr
      have ex := List.mem_singleton.mp hx
      subst ex
      obtain ⟨hF, hBd, hM⟩ := hXs
      have g3 : v2 3 = v 3 := hag 3 (by decide)
      have b0 : ((2147483648 : Nat) : Int) ≤ (v2 3) + 2147483648 ∧ (v2 3) + 2147483648 ≤ ((2147483648 : Nat) : Int) := xXb hBd 0 rfl
      have f0 : (v2 3) = 0 := xXf hF 0 rfl
      have e35_4 : xE E2 35 4 = xE E 35 4 := xFr_E hfr rfl
      have q35_4 : xE E 35 4 = xE E0 35 4 := xFr_E hFr0 rfl
      have e35_5 : xE E2 35 5 = xE E 35 5 := xFr_E hfr rfl
      have e35_6 : xE E2 35 6 = xE E 35 6 := xFr_E hfr rfl
      have e35_7 : xE E2 35 7 = xE E 35 7 := xFr_E hfr rfl
      have e35_8 : xE E2 35 8 = xE E 35 8 := xFr_E hfr rfl
      have e35_2 : xE E2 35 2 = xE E 35 2 := xFr_E hfr rfl
      have e35_3 : xE E2 35 3 = xE E 35 3 := xFr_E hfr rfl
      have e36 : ∀ i, xE E2 36 i = xE E 36 i := fun i => xFr_E hfr rfl
      have q36 : ∀ i, xE E 36 i = xE E0 36 i := fun i => xFr_E hFr0 rfl
      have e21 : ∀ i, xE E2 21 i = xE E 21 i := fun i => xFr_E hfr rfl
      have e22 : ∀ i, xE E2 22 i = xE E 22 i := fun i => xFr_E hfr rfl
      have hI : tW (xE E0 36) (xE E0 35 4) 0 [115, 105, 122, 101] = true ∧ xTN (xE E0 36) (xE E0 35 4) (tNx (xE E0 36) (xE E0 35 4) 0) 1 4 E (v 3) ∧ (∀ k, xE E 21 k = xE E0 21 k) ∧ (∀ k, xE E 22 k = xE E0 22 k) := hInv
      show xΨfrz17 x0 E0 E2 0
      have hP := hΦ.1
      have hP2 := hΦ.2
      obtain ⟨hw, i1, j0, j1⟩ := hI
      rw [show (v 3) = v2 3 by omega] at i1
      have hb := tNx_b (T := xE E0 36) (n := xE E0 35 4) (p := 0) hP2
      have hz : (v2 3) = 0 := by omega
      have e : pSz (xE E0 36) (xE E0 35 4) = Except.error (xE E 35 2, xE E 35 3) := by unfold pSz; rw [hw, if_pos rfl]; exact xtn_0 i1 hz _
      refine ⟨?_, fun i i0 i1 => Or.inl ⟨by rw [e21 i, j0 i], by rw [e22 i, j1 i]⟩, fun p S h => by rw [show _ = _ from e] at h; cases h⟩
      rw [show _ = _ from e]
      exact xOut17_f (by omega) (by omega) (by omega)
    · have hx : x ∈ [zxfrz17_er0] := hx
      have hag : ∀ k, k < 4 → v2 k = v k := hag
      have hfr : xFr [] _ _ := hfr
      have ex := List.mem_singleton.mp hx
      subst ex
      obtain ⟨hF, hBd, hM⟩ := hXs
      have g2 : v2 2 = v 2 := hag 2 (by decide)
      have g3 : v2 3 = v 3 := hag 3 (by decide)
      have b0 : ((2147483648 : Nat) : Int) ≤ (v2 3) + 2147483648 ∧ (v2 3) + 2147483648 ≤ ((2147483648 : Nat) : Int) := xXb hBd 0 rfl
      have f0 : (v2 3) = 0 := xXf hF 0 rfl
      have e35_4 : xE E2 35 4 = xE E 35 4 := xFr_E hfr rfl
      have q35_4 : xE E 35 4 = xE E0 35 4 := xFr_E hFr0 rfl
      have e35_5 : xE E2 35 5 = xE E 35 5 := xFr_E hfr rfl
      have e35_6 : xE E2 35 6 = xE E 35 6 := xFr_E hfr rfl
      have e35_7 : xE E2 35 7 = xE E 35 7 := xFr_E hfr rfl
      have e35_8 : xE E2 35 8 = xE E 35 8 := xFr_E hfr rfl
      have e35_2 : xE E2 35 2 = xE E 35 2 := xFr_E hfr rfl
      have e35_3 : xE E2 35 3 = xE E 35 3 := xFr_E hfr rfl
      have e36 : ∀ i, xE E2 36 i = xE E 36 i := fun i => xFr_E hfr rfl
      have q36 : ∀ i, xE E 36 i = xE E0 36 i := fun i => xFr_E hFr0 rfl
      have e21 : ∀ i, xE E2 21 i = xE E 21 i := fun i => xFr_E hfr rfl
      have e22 : ∀ i, xE E2 22 i = xE E 22 i := fun i => xFr_E hfr rfl
      have hI : ∃ p1, p1 ≤ (xE E0 35 4) ∧ (1 ≤ (v 2) ∧ (v 2) ≤ 4) ∧ pSz (xE E0 36) (xE E0 35 4) = pNum (xE E0 36) (xE E0 35 4) p1 1 5 (fun cc p2 => pSem (xE E0 36) (xE E0 35 4) p2 (pClr (v 2) cc)) ∧ xTN (xE E0 36) (xE E0 35 4) p1 1 5 E (v 3) ∧ (∀ k, xE E 21 k = xE E0 21 k) ∧ (∀ k, xE E 22 k = xE E0 22 k) := hInv
      show xΨfrz17 x0 E0 E2 0
      have hP := hΦ.1
      have hP2 := hΦ.2
      obtain ⟨p1, i0, i1, i2, i3, j0, j1⟩ := hI
      rw [show (v 3) = v2 3 by omega] at i3
      have hb := tNx_b (T := xE E0 36) (n := xE E0 35 4) (p := p1) i0
      have hz : (v2 3) = 0 := by omega
      have e : pSz (xE E0 36) (xE E0 35 4) = Except.error (xE E 35 2, xE E 35 3) := i2.trans (xtn_0 i3 hz _)
      refine ⟨?_, fun i i0 i1 => Or.inl ⟨by rw [e21 i, j0 i], by rw [e22 i, j1 i]⟩, fun p S h => by rw [show _ = _ from e] at h; cases h⟩
      rw [show _ = _ from e]
      exact xOut17_f (by omega) (by omega) (by omega)
    · cases hx
    · have hx : x ∈ [zxfrz17_gr0] := hx
      have hag : ∀ k, k < 4 → v2 k = v k := hag
      have hfr : xFr [] _ _ := hfr
      have ex := List.mem_singleton.mp hx
      subst ex
      obtain ⟨hF, hBd, hM⟩ := hXs
      have g3 : v2 3 = v 3 := hag 3 (by decide)
      have b0 : ((2147483648 : Nat) : Int) ≤ (v2 3) + 2147483648 ∧ (v2 3) + 2147483648 ≤ ((2147483649 : Nat) : Int) := xXb hBd 0 rfl
      have e35_4 : xE E2 35 4 = xE E 35 4 := xFr_E hfr rfl
      have q35_4 : xE E 35 4 = xE E0 35 4 := xFr_E hFr0 rfl
      have e35_5 : xE E2 35 5 = xE E 35 5 := xFr_E hfr rfl
      have e35_6 : xE E2 35 6 = xE E 35 6 := xFr_E hfr rfl
      have e35_7 : xE E2 35 7 = xE E 35 7 := xFr_E hfr rfl
      have e35_8 : xE E2 35 8 = xE E 35 8 := xFr_E hfr rfl
      have e35_2 : xE E2 35 2 = xE E 35 2 := xFr_E hfr rfl
      have e35_3 : xE E2 35 3 = xE E 35 3 := xFr_E hfr rfl
      have e36 : ∀ i, xE E2 36 i = xE E 36 i := fun i => xFr_E hfr rfl
      have q36 : ∀ i, xE E 36 i = xE E0 36 i := fun i => xFr_E hFr0 rfl
      have e21 : ∀ i, xE E2 21 i = xE E 21 i := fun i => xFr_E hfr rfl
      have e22 : ∀ i, xE E2 22 i = xE E 22 i := fun i => xFr_E hfr rfl
      have hI : ∃ rr cc p2 : Int, pSz (xE E0 36) (xE E0 35 4) = pSem (xE E0 36) (xE E0 35 4) p2 (pClr rr cc) ∧ xTS (xE E0 36) (xE E0 35 4) p2 E (v 3) ∧ (1 ≤ rr ∧ rr ≤ 4 ∧ 1 ≤ cc ∧ cc ≤ 5) ∧ xAb17 E (pClr rr cc) ∧ xGeo17 E rr.toNat cc.toNat ∧ xJk17 E0 E := hInv
      show xΨfrz17 x0 E0 E2 (v2 3)
      obtain ⟨rr, cc, p2, i1, i2, i3, i4, i5, i6⟩ := hI
      have hE2 := xFr_n hfr
      subst hE2
      rw [show (v 3) = v2 3 by omega] at i2
      by_cases hz : v2 3 = 0
      · have e := i1.trans (xts_0 i2 hz _)
        refine ⟨?_, i6, fun p S h => by rw [show _ = _ from e] at h; cases h⟩
        rw [show _ = _ from e]
        exact xOut17_f hz rfl rfl
      · obtain ⟨c1, c2, c3⟩ := xts_1 i2 hz (pClr rr cc)
        have e := i1.trans c3
        refine ⟨?_, i6, fun p S h => ?_⟩
        · rw [show _ = _ from e]
          exact xOut17_k c1 rfl i4
        · rw [show _ = _ from e] at h
          cases h
          exact i5
end
section
/-! THE CLASS reads: size, a line (printed by m11.py) -/
noncomputable def zxfrl17_zx0 : zyXp := (3, [283, 147], [800011, 283], [], [], [])
noncomputable def zpfrl17_z : zyPh := (0, [283, 147], [(0, 4294967295), (0, 4294967295)], [], [])
noncomputable def zxfrl17_w0x0 : zyXp := (11, [283, 147], [147, 283], [(23, 0, 68719476737, 0)], [(68719476737, 2147483649, 2147483649)], [])
noncomputable def zxfrl17_w0x1 : zyXp := (18, [283, 147], [800019, 283], [(22, 0, 68719476737, 0)], [(68719476737, 2147483648, 2147483648)], [])
noncomputable def zpfrl17_w0 : zyPh := (6, [283, 147], [(0, 4294967295), (0, 4294967295), (2147483648, 2147483649)], [], [68719476737])
noncomputable def zxfrl17_r0r0 : zyXp := (0, [], [68719476737], [], [(68719476737, 2147483648, 2147483649)], [])
noncomputable def zpfrl17_r0 : zyPh := (14, [283, 147], [(0, 4294967295), (0, 4294967295), (2147483648, 2147483649)], [], [68719476737])
noncomputable def zxfrl17_w1x0 : zyXp := (26, [283, 147], [147, 283], [(23, 0, 68719476737, 0)], [(68719476737, 2147483649, 2147483649)], [])
noncomputable def zxfrl17_w1x1 : zyXp := (33, [283, 147], [800027, 283], [(22, 0, 68719476737, 0)], [(68719476737, 2147483648, 2147483648)], [])
noncomputable def zpfrl17_w1 : zyPh := (21, [283, 147], [(0, 4294967295), (0, 4294967295), (2147483648, 2147483649)], [], [68719476737])
noncomputable def zxfrl17_r1r0 : zyXp := (0, [], [68719476737], [], [(68719476737, 2147483648, 2147483649)], [])
noncomputable def zpfrl17_r1 : zyPh := (29, [283, 147], [(0, 4294967295), (0, 4294967295), (2147483648, 2147483649)], [], [68719476737])
noncomputable def zxfrl17_w2x0 : zyXp := (41, [283, 147], [147, 283], [(23, 0, 68719476737, 0)], [(68719476737, 2147483649, 2147483649)], [])
noncomputable def zxfrl17_w2x1 : zyXp := (48, [283, 147], [800051, 283], [(22, 0, 68719476737, 0)], [(68719476737, 2147483648, 2147483648)], [])
noncomputable def zpfrl17_w2 : zyPh := (36, [283, 147], [(0, 4294967295), (0, 4294967295), (2147483648, 2147483649)], [], [68719476737])
noncomputable def zxfrl17_r2r0 : zyXp := (0, [], [68719476737], [], [(68719476737, 2147483648, 2147483649)], [])
noncomputable def zpfrl17_r2 : zyPh := (44, [283, 147], [(0, 4294967295), (0, 4294967295), (2147483648, 2147483649)], [], [68719476737])
noncomputable def zxfrl17_w3x0 : zyXp := (56, [283, 147], [147, 283], [(23, 0, 68719476737, 0)], [(68719476737, 2147483649, 2147483649)], [])
noncomputable def zxfrl17_w3x1 : zyXp := (63, [283, 147], [800059, 283], [(22, 0, 68719476737, 0)], [(68719476737, 2147483648, 2147483648)], [])
noncomputable def zpfrl17_w3 : zyPh := (51, [283, 147], [(0, 4294967295), (0, 4294967295), (2147483648, 2147483649)], [], [68719476737])
noncomputable def zxfrl17_r3r0 : zyXp := (0, [], [68719476737], [], [(68719476737, 2147483648, 2147483649)], [])
noncomputable def zpfrl17_r3 : zyPh := (59, [283, 147], [(0, 4294967295), (0, 4294967295), (2147483648, 2147483649)], [], [68719476737])
noncomputable def zxfrl17_w4x0 : zyXp := (71, [283, 147], [147, 283], [(23, 0, 68719476737, 0)], [(68719476737, 2147483649, 2147483649)], [])
noncomputable def zxfrl17_w4x1 : zyXp := (78, [283, 147], [800067, 283], [(22, 0, 68719476737, 0)], [(68719476737, 2147483648, 2147483648)], [])
noncomputable def zpfrl17_w4 : zyPh := (66, [283, 147], [(0, 4294967295), (0, 4294967295), (2147483648, 2147483649)], [], [68719476737])
noncomputable def zxfrl17_r4r0 : zyXp := (0, [], [68719476737], [], [(68719476737, 2147483648, 2147483649)], [])
noncomputable def zpfrl17_r4 : zyPh := (74, [283, 147], [(0, 4294967295), (0, 4294967295), (2147483648, 2147483649)], [], [68719476737])
noncomputable def zxfrl17_w5x0 : zyXp := (86, [283, 147], [147, 283], [(23, 0, 68719476737, 0)], [(68719476737, 2147483649, 2147483649)], [])
noncomputable def zxfrl17_w5r0 : zyXp := (0, [], [0], [(22, 0, 68719476737, 0), (24, 103079215105, 35, 56), (23, 0, 103079215105, 8), (24, 137438953473, 35, 40)], [(68719476737, 2147483648, 2147483648), (103079215105, 2147483650, 2147483653), (137438953473, 2147483648, 2147484548)], [(573442, 16), (573443, 137438953473)])
noncomputable def zxfrl17_w5r1 : zyXp := (0, [], [0], [(22, 0, 68719476737, 0), (24, 103079215105, 35, 56), (23, 0, 103079215105, 8), (24, 137438953473, 35, 40)], [(68719476737, 2147483648, 2147483648), (103079215105, 2147483648, 2147483648), (137438953473, 2147483648, 2147484548)], [(573442, 16), (573443, 137438953473)])
noncomputable def zxfrl17_w5r2 : zyXp := (0, [], [0], [(22, 0, 68719476737, 0), (24, 103079215105, 35, 56), (22, 0, 103079215105, 8), (24, 137438953473, 35, 40)], [(68719476737, 2147483648, 2147483648), (103079215105, 2147483649, 2147483649), (137438953473, 2147483648, 2147484548)], [(573442, 8), (573443, 137438953473)])
noncomputable def zpfrl17_w5 : zyPh := (81, [283, 147], [(0, 4294967295), (0, 4294967295), (2147483648, 2147483649)], [], [68719476737])
noncomputable def zxfrl17_r5r0 : zyXp := (0, [], [68719476737], [], [(68719476737, 2147483648, 2147483649)], [])
noncomputable def zpfrl17_r5 : zyPh := (89, [283, 147], [(0, 4294967295), (0, 4294967295), (2147483648, 2147483649)], [], [68719476737])
noncomputable def zpfrl17 (i : Nat) : zyPh := zif (Nat.beq i 0) (zpfrl17_z) (zif (Nat.beq i 1) (zpfrl17_w0) (zif (Nat.beq i 2) (zpfrl17_r0) (zif (Nat.beq i 3) (zpfrl17_w1) (zif (Nat.beq i 4) (zpfrl17_r1) (zif (Nat.beq i 5) (zpfrl17_w2) (zif (Nat.beq i 6) (zpfrl17_r2) (zif (Nat.beq i 7) (zpfrl17_w3) (zif (Nat.beq i 8) (zpfrl17_r3) (zif (Nat.beq i 9) (zpfrl17_w4) (zif (Nat.beq i 10) (zpfrl17_r4) (zif (Nat.beq i 11) (zpfrl17_w5) (zpfrl17_r5))))))))))))
noncomputable def zXfrl17 (i : Nat) : List zyXp := zif (Nat.beq i 0) ([zxfrl17_zx0]) (zif (Nat.beq i 1) ([zxfrl17_w0x0, zxfrl17_w0x1]) (zif (Nat.beq i 2) ([]) (zif (Nat.beq i 3) ([zxfrl17_w1x0, zxfrl17_w1x1]) (zif (Nat.beq i 4) ([]) (zif (Nat.beq i 5) ([zxfrl17_w2x0, zxfrl17_w2x1]) (zif (Nat.beq i 6) ([]) (zif (Nat.beq i 7) ([zxfrl17_w3x0, zxfrl17_w3x1]) (zif (Nat.beq i 8) ([]) (zif (Nat.beq i 9) ([zxfrl17_w4x0, zxfrl17_w4x1]) (zif (Nat.beq i 10) ([]) (zif (Nat.beq i 11) ([zxfrl17_w5x0]) ([]))))))))))))
noncomputable def zRfrl17 (i : Nat) : List zyXp := zif (Nat.beq i 0) ([]) (zif (Nat.beq i 1) ([]) (zif (Nat.beq i 2) ([zxfrl17_r0r0]) (zif (Nat.beq i 3) ([]) (zif (Nat.beq i 4) ([zxfrl17_r1r0]) (zif (Nat.beq i 5) ([]) (zif (Nat.beq i 6) ([zxfrl17_r2r0]) (zif (Nat.beq i 7) ([]) (zif (Nat.beq i 8) ([zxfrl17_r3r0]) (zif (Nat.beq i 9) ([]) (zif (Nat.beq i 10) ([zxfrl17_r4r0]) (zif (Nat.beq i 11) ([zxfrl17_w5r0, zxfrl17_w5r1, zxfrl17_w5r2]) ([zxfrl17_r5r0]))))))))))))
noncomputable def zFfrl17 (i : Nat) : zyR := zif (Nat.beq i 0) ([]) (zif (Nat.beq i 1) ([]) (zif (Nat.beq i 2) ([]) (zif (Nat.beq i 3) ([]) (zif (Nat.beq i 4) ([]) (zif (Nat.beq i 5) ([]) (zif (Nat.beq i 6) ([]) (zif (Nat.beq i 7) ([]) (zif (Nat.beq i 8) ([]) (zif (Nat.beq i 9) ([]) (zif (Nat.beq i 10) ([]) (zif (Nat.beq i 11) ([(35, 2, 3)]) ([]))))))))))))
noncomputable def zSfrl17 (i : Nat) : Nat := zif (Nat.beq i 0) (0) (zif (Nat.beq i 1) (0) (zif (Nat.beq i 2) (0) (zif (Nat.beq i 3) (0) (zif (Nat.beq i 4) (0) (zif (Nat.beq i 5) (0) (zif (Nat.beq i 6) (0) (zif (Nat.beq i 7) (0) (zif (Nat.beq i 8) (0) (zif (Nat.beq i 9) (0) (zif (Nat.beq i 10) (0) (zif (Nat.beq i 11) (0) (0))))))))))))
theorem xOut17_r {R : pR} {E2 : zyEm} {r : Int} (h : xOut17 R E2 r) : r = 0 ∨ r = 1 := by
  unfold xOut17 at h
  split at h
  · exact Or.inr h.1
  · exact Or.inl h.1
def xΦrl17 (_ : Nat → Int) (E : zyEm) : Prop := xE E 35 6 ≤ xE E 35 4 ∧ (∃ S, xAb17 E S) ∧ ∃ p, p ≤ xE E 35 4 ∧ xAD (xE E 36) (xE E 35 4) p E
def xΨfrl17 (_ : Nat → Int) (E E2 : zyEm) (r : Int) : Prop := ∀ p S, p ≤ xE E 35 4 → xAD (xE E 36) (xE E 35 4) p E → xAb17 E S → xOut17 (pLine (xE E 36) (xE E 35 4) p S) E2 r
noncomputable def fpfrl17 : zyR := [(35, 2, 3), (35, 5, 8), (18, 5, 5), (18, 8, 8), (33, 1, 1), (34, 0, 59), (27, 0, 30), (28, 0, 30), (29, 0, 30), (30, 0, 30), (31, 0, 7), (32, 0, 7)]
theorem zyfrl17_run : zyrS zymc zxi61 (61, 0, 0, 2, 0) 9 zpfrl17 (fun _ _ => []) zFfrl17 zSfrl17 zXfrl17 zRfrl17 13 = true := by decide +kernel
theorem zyfrl17_ck : zyAll (fun i => xsubR (zFfrl17 i) fpfrl17 && ((zXfrl17 i).all xckX && (zRfrl17 i).all (fun x => xckX x && xrtB true x))) 13 = true := by decide +kernel
def xIfrl17 (i : Nat) (x0 : Nat → Int) (E0 : zyEm) (v : Nat → Int) (E : zyEm) : Prop := if i = 0 then (E = E0) else if i = 1 then (E = E0 ∧ (v 2) = if sW (xE E0 36) (xE E0 35 7) (xE E0 35 5) (xE E0 35 6) [115, 119, 105, 116, 99, 104] = true then 1 else 0) else if i = 2 then (E0 = E0 ∧ ∀ p S, p ≤ xE E0 35 4 → xAD (xE E0 36) (xE E0 35 4) p E0 → xAb17 E0 S → xOut17 (pLine (xE E0 36) (xE E0 35 4) p S) E (v 2)) else if i = 3 then (E = E0 ∧ sW (xE E0 36) (xE E0 35 7) (xE E0 35 5) (xE E0 35 6) [115, 119, 105, 116, 99, 104] = false ∧ (v 2) = if sW (xE E0 36) (xE E0 35 7) (xE E0 35 5) (xE E0 35 6) [98, 111, 98, 98, 105, 110] = true then 1 else 0) else if i = 4 then (E0 = E0 ∧ ∀ p S, p ≤ xE E0 35 4 → xAD (xE E0 36) (xE E0 35 4) p E0 → xAb17 E0 S → xOut17 (pLine (xE E0 36) (xE E0 35 4) p S) E (v 2)) else if i = 5 then (E = E0 ∧ sW (xE E0 36) (xE E0 35 7) (xE E0 35 5) (xE E0 35 6) [115, 119, 105, 116, 99, 104] = false ∧ sW (xE E0 36) (xE E0 35 7) (xE E0 35 5) (xE E0 35 6) [98, 111, 98, 98, 105, 110] = false ∧ (v 2) = if sW (xE E0 36) (xE E0 35 7) (xE E0 35 5) (xE E0 35 6) [115, 116, 117, 99, 107] = true then 1 else 0) else if i = 6 then (E0 = E0 ∧ ∀ p S, p ≤ xE E0 35 4 → xAD (xE E0 36) (xE E0 35 4) p E0 → xAb17 E0 S → xOut17 (pLine (xE E0 36) (xE E0 35 4) p S) E (v 2)) else if i = 7 then (E = E0 ∧ sW (xE E0 36) (xE E0 35 7) (xE E0 35 5) (xE E0 35 6) [115, 119, 105, 116, 99, 104] = false ∧ sW (xE E0 36) (xE E0 35 7) (xE E0 35 5) (xE E0 35 6) [98, 111, 98, 98, 105, 110] = false ∧ sW (xE E0 36) (xE E0 35 7) (xE E0 35 5) (xE E0 35 6) [115, 116, 117, 99, 107] = false ∧ (v 2) = if sW (xE E0 36) (xE E0 35 7) (xE E0 35 5) (xE E0 35 6) [102, 114, 101, 101] = true then 1 else 0) else if i = 8 then (E0 = E0 ∧ ∀ p S, p ≤ xE E0 35 4 → xAD (xE E0 36) (xE E0 35 4) p E0 → xAb17 E0 S → xOut17 (pLine (xE E0 36) (xE E0 35 4) p S) E (v 2)) else if i = 9 then (E = E0 ∧ sW (xE E0 36) (xE E0 35 7) (xE E0 35 5) (xE E0 35 6) [115, 119, 105, 116, 99, 104] = false ∧ sW (xE E0 36) (xE E0 35 7) (xE E0 35 5) (xE E0 35 6) [98, 111, 98, 98, 105, 110] = false ∧ sW (xE E0 36) (xE E0 35 7) (xE E0 35 5) (xE E0 35 6) [115, 116, 117, 99, 107] = false ∧ sW (xE E0 36) (xE E0 35 7) (xE E0 35 5) (xE E0 35 6) [102, 114, 101, 101] = false ∧ (v 2) = if sW (xE E0 36) (xE E0 35 7) (xE E0 35 5) (xE E0 35 6) [112, 108, 97, 99, 101] = true then 1 else 0) else if i = 10 then (E0 = E0 ∧ ∀ p S, p ≤ xE E0 35 4 → xAD (xE E0 36) (xE E0 35 4) p E0 → xAb17 E0 S → xOut17 (pLine (xE E0 36) (xE E0 35 4) p S) E (v 2)) else if i = 11 then (E = E0 ∧ sW (xE E0 36) (xE E0 35 7) (xE E0 35 5) (xE E0 35 6) [115, 119, 105, 116, 99, 104] = false ∧ sW (xE E0 36) (xE E0 35 7) (xE E0 35 5) (xE E0 35 6) [98, 111, 98, 98, 105, 110] = false ∧ sW (xE E0 36) (xE E0 35 7) (xE E0 35 5) (xE E0 35 6) [115, 116, 117, 99, 107] = false ∧ sW (xE E0 36) (xE E0 35 7) (xE E0 35 5) (xE E0 35 6) [102, 114, 101, 101] = false ∧ sW (xE E0 36) (xE E0 35 7) (xE E0 35 5) (xE E0 35 6) [112, 108, 97, 99, 101] = false ∧ (v 2) = if sW (xE E0 36) (xE E0 35 7) (xE E0 35 5) (xE E0 35 6) [119, 111, 114, 100] = true then 1 else 0) else (E0 = E0 ∧ ∀ p S, p ≤ xE E0 35 4 → xAD (xE E0 36) (xE E0 35 4) p E0 → xAb17 E0 S → xOut17 (pLine (xE E0 36) (xE E0 35 4) p S) E (v 2))
def xMfrl17 (i : Nat) (x0 : Nat → Int) (E0 : zyEm) (v : Nat → Int) (E : zyEm) : Nat := if i = 0 then (100) else if i = 1 then (50) else if i = 2 then (1) else if i = 3 then (49) else if i = 4 then (1) else if i = 5 then (48) else if i = 6 then (1) else if i = 7 then (47) else if i = 8 then (1) else if i = 9 then (46) else if i = 10 then (1) else if i = 11 then (45) else (1)
theorem xRl17 {l : Launch} {en : zEn} {me : zMe} (hen : zG zxMeta 61 = some en) (hme : zG zMeth 61 = some me) : xFc l zymc en me 9 [35, 18] 0 fpfrl17 true xΦrl17 xΨfrl17 := by
  have een : zG zxMeta 61 = some (zxi61, 2, 2, 5, 61, 0, 0, 2, 0) := rfl
  obtain ⟨me1, hme1, hOK⟩ := zall hen
  rw [hme] at hme1
  cases hme1
  rw [een] at hen
  cases hen
  have hr := zyfrl17_run
  have hck := fun i hi => zyAll_iff zyfrl17_ck i hi
  simp only [Bool.and_eq_true] at hck
  obtain ⟨mefrs17, hmefrs17, -⟩ := zall (show zG zxMeta 62 = some (zxi62, 2, 5, 5, 62, 0, 0, 2, 0) from rfl)
  have hfrs17 := xRs17 (l := l) (show zG zxMeta 62 = some (zxi62, 2, 5, 5, 62, 0, 0, 2, 0) from rfl) hmefrs17
  obtain ⟨mefrb17, hmefrb17, -⟩ := zall (show zG zxMeta 63 = some (zxi63, 2, 2, 5, 63, 0, 0, 2, 0) from rfl)
  have hfrb17 := xRb17 (l := l) (show zG zxMeta 63 = some (zxi63, 2, 2, 5, 63, 0, 0, 2, 0) from rfl) hmefrb17
  obtain ⟨mefrk17, hmefrk17, -⟩ := zall (show zG zxMeta 64 = some (zxi64, 2, 3, 5, 64, 0, 0, 2, 0) from rfl)
  have hfrk17 := xRk17 (l := l) (show zG zxMeta 64 = some (zxi64, 2, 3, 5, 64, 0, 0, 2, 0) from rfl) hmefrk17
  obtain ⟨mefrf17, hmefrf17, -⟩ := zall (show zG zxMeta 65 = some (zxi65, 2, 2, 5, 65, 0, 0, 2, 0) from rfl)
  have hfrf17 := xRf17 (l := l) (show zG zxMeta 65 = some (zxi65, 2, 2, 5, 65, 0, 0, 2, 0) from rfl) hmefrf17
  obtain ⟨mefrp17, hmefrp17, -⟩ := zall (show zG zxMeta 66 = some (zxi66, 2, 3, 5, 66, 0, 0, 2, 0) from rfl)
  have hfrp17 := xRp17 (l := l) (show zG zxMeta 66 = some (zxi66, 2, 3, 5, 66, 0, 0, 2, 0) from rfl) hmefrp17
  obtain ⟨mefrw17, hmefrw17, -⟩ := zall (show zG zxMeta 67 = some (zxi67, 2, 4, 5, 67, 0, 0, 2, 0) from rfl)
  have hfrw17 := xRw17 (l := l) (show zG zxMeta 67 = some (zxi67, 2, 4, 5, 67, 0, 0, 2, 0) from rfl) hmefrw17
  obtain ⟨mefwsw, hmefwsw, -⟩ := zall (show zG zxMeta 72 = some (zxi72, 2, 3, 5, 72, 0, 0, 2, 0) from rfl)
  have hfwsw := xWswitch (l := l) (show zG zxMeta 72 = some (zxi72, 2, 3, 5, 72, 0, 0, 2, 0) from rfl) hmefwsw
  obtain ⟨mefwbo, hmefwbo, -⟩ := zall (show zG zxMeta 72 = some (zxi72, 2, 3, 5, 72, 0, 0, 2, 0) from rfl)
  have hfwbo := xWbobbin (l := l) (show zG zxMeta 72 = some (zxi72, 2, 3, 5, 72, 0, 0, 2, 0) from rfl) hmefwbo
  obtain ⟨mefwst, hmefwst, -⟩ := zall (show zG zxMeta 72 = some (zxi72, 2, 3, 5, 72, 0, 0, 2, 0) from rfl)
  have hfwst := xWstuck (l := l) (show zG zxMeta 72 = some (zxi72, 2, 3, 5, 72, 0, 0, 2, 0) from rfl) hmefwst
  obtain ⟨mefwfr, hmefwfr, -⟩ := zall (show zG zxMeta 72 = some (zxi72, 2, 3, 5, 72, 0, 0, 2, 0) from rfl)
  have hfwfr := xWfree (l := l) (show zG zxMeta 72 = some (zxi72, 2, 3, 5, 72, 0, 0, 2, 0) from rfl) hmefwfr
  obtain ⟨mefwpl, hmefwpl, -⟩ := zall (show zG zxMeta 72 = some (zxi72, 2, 3, 5, 72, 0, 0, 2, 0) from rfl)
  have hfwpl := xWplace (l := l) (show zG zxMeta 72 = some (zxi72, 2, 3, 5, 72, 0, 0, 2, 0) from rfl) hmefwpl
  obtain ⟨mefwwo, hmefwwo, -⟩ := zall (show zG zxMeta 72 = some (zxi72, 2, 3, 5, 72, 0, 0, 2, 0) from rfl)
  have hfwwo := xWword (l := l) (show zG zxMeta 72 = some (zxi72, 2, 3, 5, 72, 0, 0, 2, 0) from rfl) hmefwwo
  intro B
  refine xcut (mi := zymc) (B := B) hOK rfl rfl (ι := Fin 13) (fun i => zpfrl17 i.val) (fun _ _ => []) (fun i => zFfrl17 i.val) (fun i => zSfrl17 i.val) (fun i => zXfrl17 i.val) (fun i => zRfrl17 i.val) (fun i y2 ct en2 me2 h => by cases h) 200000 (fun i => zyAll_iff hr i.val i.isLt) (fun i => (hck i.val i.isLt).1) (fun i => (hck i.val i.isLt).2.1) (fun i => (hck i.val i.isLt).2.2) ⟨0, by decide⟩ ⟨rfl, rfl, rfl, rfl⟩ ⟨by decide, by decide⟩ (fun i x0 E0 v E => xIfrl17 i.val x0 E0 v E) (fun i x0 E0 v E => xMfrl17 i.val x0 E0 v E) ?_ ?_ ?_
  · intro x0 E hx0 hT hΦ
    have hΦ : xΦrl17 x0 E := hΦ
    refine ⟨fun k p hp => ?_, ?_⟩
    · have hk : k < 2 := (List.getElem?_eq_some_iff.mp hp).1
      have hk : k = 0 ∨ k = 1 := by omega
      rcases hk with rfl | rfl
      · have hp : some (0, 4294967295) = some p := hp
        cases hp
        show ((0 : Nat) : Int) ≤ 0 + 2147483648 ∧ 0 + 2147483648 ≤ ((4294967295 : Nat) : Int)
        omega
      · have hp : some (0, 4294967295) = some p := hp
        cases hp
        show ((0 : Nat) : Int) ≤ 0 + 2147483648 ∧ 0 + 2147483648 ≤ ((4294967295 : Nat) : Int)
        omega
    · show E = E
      rfl
  · intro x0 s Wg hRu hrx hT0 hΦ i v H hT hrv hInv hKc hFr0 hIH x hx ρ2 v2 N2 H2 locs lsB stA hAt hB hv hr2 hXs hag hfr hFr hT2
    rcases i with ⟨i, hi⟩
    have hi2 : i = 0 ∨ i = 1 ∨ i = 2 ∨ i = 3 ∨ i = 4 ∨ i = 5 ∨ i = 6 ∨ i = 7 ∨ i = 8 ∨ i = 9 ∨ i = 10 ∨ i = 11 ∨ i = 12 := by omega
    rcases hi2 with rfl | rfl | rfl | rfl | rfl | rfl | rfl | rfl | rfl | rfl | rfl | rfl | rfl
    · have hx : x ∈ [zxfrl17_zx0] := hx
      have hag : ∀ k, k < 2 → v2 k = v k := hag
      have hfr : xFr [] _ _ := hfr
      have ex := List.mem_singleton.mp hx
      subst ex
      obtain ⟨hF, hBd, hM⟩ := hXs
      have e35_4 : xE (zyEl zymc B H2) 35 4 = xE (zyEl zymc B H) 35 4 := xFr_E hfr rfl
      have q35_4 : xE (zyEl zymc B H) 35 4 = xE (zyEl zymc B s.heap) 35 4 := xFr_E hFr0 rfl
      have e35_5 : xE (zyEl zymc B H2) 35 5 = xE (zyEl zymc B H) 35 5 := xFr_E hfr rfl
      have e35_6 : xE (zyEl zymc B H2) 35 6 = xE (zyEl zymc B H) 35 6 := xFr_E hfr rfl
      have e35_7 : xE (zyEl zymc B H2) 35 7 = xE (zyEl zymc B H) 35 7 := xFr_E hfr rfl
      have e35_8 : xE (zyEl zymc B H2) 35 8 = xE (zyEl zymc B H) 35 8 := xFr_E hfr rfl
      have e35_2 : xE (zyEl zymc B H2) 35 2 = xE (zyEl zymc B H) 35 2 := xFr_E hfr rfl
      have e35_3 : xE (zyEl zymc B H2) 35 3 = xE (zyEl zymc B H) 35 3 := xFr_E hfr rfl
      have e36 : ∀ i, xE (zyEl zymc B H2) 36 i = xE (zyEl zymc B H) 36 i := fun i => xFr_E hfr rfl
      have q36 : ∀ i, xE (zyEl zymc B H) 36 i = xE (zyEl zymc B s.heap) 36 i := fun i => xFr_E hFr0 rfl
      have hI : (zyEl zymc B H) = (zyEl zymc B s.heap) := hInv
      have q35_5 : xE (zyEl zymc B H) 35 5 = xE (zyEl zymc B s.heap) 35 5 := by rw [hI]
      have q35_6 : xE (zyEl zymc B H) 35 6 = xE (zyEl zymc B s.heap) 35 6 := by rw [hI]
      have q35_7 : xE (zyEl zymc B H) 35 7 = xE (zyEl zymc B s.heap) 35 7 := by rw [hI]
      have q35_8 : xE (zyEl zymc B H) 35 8 = xE (zyEl zymc B s.heap) 35 8 := by rw [hI]
      have q35_2 : xE (zyEl zymc B H) 35 2 = xE (zyEl zymc B s.heap) 35 2 := by rw [hI]
      have q35_3 : xE (zyEl zymc B H) 35 3 = xE (zyEl zymc B s.heap) 35 3 := by rw [hI]
      have hE20 := (xFr_n hfr).trans hI
      refine xCa hRu hIH hAt hB hv hFr (hfwsw B) (ix := 48) (ax := 1152) rfl rfl rfl hmefwsw ⟨_, rfl, rfl, by decide⟩ ⟨rfl, rfl, rfl⟩ (by decide) [] [] [] rfl ⟨rfl, rfl⟩ (by decide +kernel) xcs_n (by decide +kernel) ?_ (fun H3 r hT3 hf3 hFr3 hr3 hΨ3 => ?_)
      · show xΦ0 (xfv []) (zyEl zymc B H2)
        exact trivial
      · have hΨ3 : xΨfwsw (xfv []) (zyEl zymc B H2) (zyEl zymc B H3) r := hΨ3
        have d35_4 : xE (zyEl zymc B H3) 35 4 = xE (zyEl zymc B H2) 35 4 := xFr_E hf3 rfl
        have d35_5 : xE (zyEl zymc B H3) 35 5 = xE (zyEl zymc B H2) 35 5 := xFr_E hf3 rfl
        have d35_6 : xE (zyEl zymc B H3) 35 6 = xE (zyEl zymc B H2) 35 6 := xFr_E hf3 rfl
        have d35_7 : xE (zyEl zymc B H3) 35 7 = xE (zyEl zymc B H2) 35 7 := xFr_E hf3 rfl
        have d35_8 : xE (zyEl zymc B H3) 35 8 = xE (zyEl zymc B H2) 35 8 := xFr_E hf3 rfl
        have d35_2 : xE (zyEl zymc B H3) 35 2 = xE (zyEl zymc B H2) 35 2 := xFr_E hf3 rfl
        have d35_3 : xE (zyEl zymc B H3) 35 3 = xE (zyEl zymc B H2) 35 3 := xFr_E hf3 rfl
        have d36 : ∀ i, xE (zyEl zymc B H3) 36 i = xE (zyEl zymc B H2) 36 i := fun i => xFr_E hf3 rfl
        unfold xΨfwsw at hΨ3
        have hr01 : r = 0 ∨ r = 1 := by
          rw [hΨ3]
          split <;> omega
        have hEE3 : (zyEl zymc B H3) = (zyEl zymc B s.heap) := (xFr_n hf3).trans hE20
        rw [hE20] at hΨ3
        refine ⟨⟨1, by decide⟩, [0, 0], [0, 0, r], rfl, ⟨by decide +kernel, ⟨rfl, by decide +kernel⟩, (xcs_c rfl (xcs_c rfl xcs_n)), (xe_0 (xe_0 (xe_c (by omega) (by omega) rfl xe_n))), xkq_n⟩, (by rw [if_pos rfl]; exact ⟨2, [], rfl, by decide, rfl, xst_n⟩), ?_, ?_⟩
        · show (zyEl zymc B H3) = (zyEl zymc B s.heap) ∧ (r : Int) = if sW (xE (zyEl zymc B s.heap) 36) (xE (zyEl zymc B s.heap) 35 7) (xE (zyEl zymc B s.heap) 35 5) (xE (zyEl zymc B s.heap) 35 6) [115, 119, 105, 116, 99, 104] = true then 1 else 0
          exact ⟨hEE3, hΨ3⟩
        · show 50 < 100
          omega
    · have hx : x ∈ [zxfrl17_w0x0, zxfrl17_w0x1] := hx
      have hag : ∀ k, k < 3 → v2 k = v k := hag
      have hfr : xFr [] _ _ := hfr
      rcases List.mem_cons.mp hx with ex | hx
      · subst ex
        obtain ⟨hF, hBd, hM⟩ := hXs
        have g2 : v2 2 = v 2 := hag 2 (by decide)
        have b0 : ((2147483649 : Nat) : Int) ≤ (v2 2) + 2147483648 ∧ (v2 2) + 2147483648 ≤ ((2147483649 : Nat) : Int) := xXb hBd 0 rfl
        have f0 : ¬ (v2 2) = 0 := xXf hF 0 rfl
        have e35_4 : xE (zyEl zymc B H2) 35 4 = xE (zyEl zymc B H) 35 4 := xFr_E hfr rfl
        have q35_4 : xE (zyEl zymc B H) 35 4 = xE (zyEl zymc B s.heap) 35 4 := xFr_E hFr0 rfl
        have e35_5 : xE (zyEl zymc B H2) 35 5 = xE (zyEl zymc B H) 35 5 := xFr_E hfr rfl
        have e35_6 : xE (zyEl zymc B H2) 35 6 = xE (zyEl zymc B H) 35 6 := xFr_E hfr rfl
        have e35_7 : xE (zyEl zymc B H2) 35 7 = xE (zyEl zymc B H) 35 7 := xFr_E hfr rfl
        have e35_8 : xE (zyEl zymc B H2) 35 8 = xE (zyEl zymc B H) 35 8 := xFr_E hfr rfl
        have e35_2 : xE (zyEl zymc B H2) 35 2 = xE (zyEl zymc B H) 35 2 := xFr_E hfr rfl
        have e35_3 : xE (zyEl zymc B H2) 35 3 = xE (zyEl zymc B H) 35 3 := xFr_E hfr rfl
        have e36 : ∀ i, xE (zyEl zymc B H2) 36 i = xE (zyEl zymc B H) 36 i := fun i => xFr_E hfr rfl
        have q36 : ∀ i, xE (zyEl zymc B H) 36 i = xE (zyEl zymc B s.heap) 36 i := fun i => xFr_E hFr0 rfl
        have hI : (zyEl zymc B H) = (zyEl zymc B s.heap) ∧ (v 2) = if sW (xE (zyEl zymc B s.heap) 36) (xE (zyEl zymc B s.heap) 35 7) (xE (zyEl zymc B s.heap) 35 5) (xE (zyEl zymc B s.heap) 35 6) [115, 119, 105, 116, 99, 104] = true then 1 else 0 := hInv
        have q35_5 : xE (zyEl zymc B H) 35 5 = xE (zyEl zymc B s.heap) 35 5 := by rw [hI.1]
        have q35_6 : xE (zyEl zymc B H) 35 6 = xE (zyEl zymc B s.heap) 35 6 := by rw [hI.1]
        have q35_7 : xE (zyEl zymc B H) 35 7 = xE (zyEl zymc B s.heap) 35 7 := by rw [hI.1]
        have q35_8 : xE (zyEl zymc B H) 35 8 = xE (zyEl zymc B s.heap) 35 8 := by rw [hI.1]
        have q35_2 : xE (zyEl zymc B H) 35 2 = xE (zyEl zymc B s.heap) 35 2 := by rw [hI.1]
        have q35_3 : xE (zyEl zymc B H) 35 3 = xE (zyEl zymc B s.heap) 35 3 := by rw [hI.1]
        obtain ⟨hE, i3⟩ := hI
        obtain ⟨S0, hS0⟩ := hΦ.2.1
        obtain ⟨pp, hpp, hA0⟩ := hΦ.2.2
        have y0 : sW (xE (zyEl zymc B s.heap) 36) (xE (zyEl zymc B s.heap) 35 7) (xE (zyEl zymc B s.heap) 35 5) (xE (zyEl zymc B s.heap) 35 6) [115, 119, 105, 116, 99, 104] = true := by
          by_cases h : sW (xE (zyEl zymc B s.heap) 36) (xE (zyEl zymc B s.heap) 35 7) (xE (zyEl zymc B s.heap) 35 5) (xE (zyEl zymc B s.heap) 35 6) [115, 119, 105, 116, 99, 104] = true
          · exact h
          · rw [if_neg h] at i3
            omega
        have hE20 := (xFr_n hfr).trans hE
        refine xCa hRu hIH hAt hB hv hFr (hfrs17 B) (ix := 79) (ax := 992) rfl rfl rfl hmefrs17 ⟨_, rfl, rfl, by decide⟩ ⟨rfl, rfl, rfl⟩ (by decide) [] [] [] rfl ⟨rfl, rfl⟩ (by decide +kernel) xcs_n (by decide +kernel) ?_ (fun H3 r hT3 hf3 hFr3 hr3 hΨ3 => ?_)
        · show xΦrd17 (xfv []) (zyEl zymc B H2)
          rw [hE20]
          exact ⟨hΦ.1, S0, hS0⟩
        · have hΨ3 : xΨfrs17 (xfv []) (zyEl zymc B H2) (zyEl zymc B H3) r := hΨ3
          have d35_4 : xE (zyEl zymc B H3) 35 4 = xE (zyEl zymc B H2) 35 4 := xFr_E hf3 rfl
          have d36 : ∀ i, xE (zyEl zymc B H3) 36 i = xE (zyEl zymc B H2) 36 i := fun i => xFr_E hf3 rfl
          unfold xΨfrs17 at hΨ3
          rw [hE20] at hΨ3
          have hr01 : r = 0 ∨ r = 1 := xOut17_r (hΨ3 S0 hS0)
          refine ⟨⟨2, by decide⟩, [0, 0], [0, 0, r], rfl, ⟨by decide +kernel, ⟨rfl, by decide +kernel⟩, (xcs_c rfl (xcs_c rfl xcs_n)), (xe_0 (xe_0 (xe_c (by omega) (by omega) rfl xe_n))), xkq_n⟩, (by rw [if_pos rfl]; exact ⟨2, [], rfl, by decide, rfl, xst_n⟩), ?_, ?_⟩
          · show (zyEl zymc B s.heap) = (zyEl zymc B s.heap) ∧ ∀ p S, p ≤ xE (zyEl zymc B s.heap) 35 4 → xAD (xE (zyEl zymc B s.heap) 36) (xE (zyEl zymc B s.heap) 35 4) p (zyEl zymc B s.heap) → xAb17 (zyEl zymc B s.heap) S → xOut17 (pLine (xE (zyEl zymc B s.heap) 36) (xE (zyEl zymc B s.heap) 35 4) p S) (zyEl zymc B H3) (r : Int)
            refine ⟨rfl, fun p S hp ⟨a1, a2, a3, a4⟩ hS => ?_⟩
            have w := hΨ3 S hS
            rw [a1] at w
            rw [a1, a2, a3] at y0
            unfold pLine pBody tW
            rw [y0, if_pos rfl]
            exact w
          · show 1 < 50
            omega
      · skip
        have ex := List.mem_singleton.mp hx
        subst ex
        obtain ⟨hF, hBd, hM⟩ := hXs
        have g2 : v2 2 = v 2 := hag 2 (by decide)
        have b0 : ((2147483648 : Nat) : Int) ≤ (v2 2) + 2147483648 ∧ (v2 2) + 2147483648 ≤ ((2147483648 : Nat) : Int) := xXb hBd 0 rfl
        have f0 : (v2 2) = 0 := xXf hF 0 rfl
        have e35_4 : xE (zyEl zymc B H2) 35 4 = xE (zyEl zymc B H) 35 4 := xFr_E hfr rfl
        have q35_4 : xE (zyEl zymc B H) 35 4 = xE (zyEl zymc B s.heap) 35 4 := xFr_E hFr0 rfl
        have e35_5 : xE (zyEl zymc B H2) 35 5 = xE (zyEl zymc B H) 35 5 := xFr_E hfr rfl
        have e35_6 : xE (zyEl zymc B H2) 35 6 = xE (zyEl zymc B H) 35 6 := xFr_E hfr rfl
        have e35_7 : xE (zyEl zymc B H2) 35 7 = xE (zyEl zymc B H) 35 7 := xFr_E hfr rfl
        have e35_8 : xE (zyEl zymc B H2) 35 8 = xE (zyEl zymc B H) 35 8 := xFr_E hfr rfl
        have e35_2 : xE (zyEl zymc B H2) 35 2 = xE (zyEl zymc B H) 35 2 := xFr_E hfr rfl
        have e35_3 : xE (zyEl zymc B H2) 35 3 = xE (zyEl zymc B H) 35 3 := xFr_E hfr rfl
        have e36 : ∀ i, xE (zyEl zymc B H2) 36 i = xE (zyEl zymc B H) 36 i := fun i => xFr_E hfr rfl
        have q36 : ∀ i, xE (zyEl zymc B H) 36 i = xE (zyEl zymc B s.heap) 36 i := fun i => xFr_E hFr0 rfl
        have hI : (zyEl zymc B H) = (zyEl zymc B s.heap) ∧ (v 2) = if sW (xE (zyEl zymc B s.heap) 36) (xE (zyEl zymc B s.heap) 35 7) (xE (zyEl zymc B s.heap) 35 5) (xE (zyEl zymc B s.heap) 35 6) [115, 119, 105, 116, 99, 104] = true then 1 else 0 := hInv
        have q35_5 : xE (zyEl zymc B H) 35 5 = xE (zyEl zymc B s.heap) 35 5 := by rw [hI.1]
        have q35_6 : xE (zyEl zymc B H) 35 6 = xE (zyEl zymc B s.heap) 35 6 := by rw [hI.1]
        have q35_7 : xE (zyEl zymc B H) 35 7 = xE (zyEl zymc B s.heap) 35 7 := by rw [hI.1]
        have q35_8 : xE (zyEl zymc B H) 35 8 = xE (zyEl zymc B s.heap) 35 8 := by rw [hI.1]
        have q35_2 : xE (zyEl zymc B H) 35 2 = xE (zyEl zymc B s.heap) 35 2 := by rw [hI.1]
        have q35_3 : xE (zyEl zymc B H) 35 3 = xE (zyEl zymc B s.heap) 35 3 := by rw [hI.1]
        obtain ⟨hE, i3⟩ := hI
        obtain ⟨S0, hS0⟩ := hΦ.2.1
        obtain ⟨pp, hpp, hA0⟩ := hΦ.2.2
        have n0 : sW (xE (zyEl zymc B s.heap) 36) (xE (zyEl zymc B s.heap) 35 7) (xE (zyEl zymc B s.heap) 35 5) (xE (zyEl zymc B s.heap) 35 6) [115, 119, 105, 116, 99, 104] = false := by
          rw [Bool.eq_false_iff]
          intro h
          rw [if_pos h] at i3
          omega
        have hE20 := (xFr_n hfr).trans hE
        refine xCa hRu hIH hAt hB hv hFr (hfwbo B) (ix := 48) (ax := 1152) rfl rfl rfl hmefwbo ⟨_, rfl, rfl, by decide⟩ ⟨rfl, rfl, rfl⟩ (by decide) [] [] [] rfl ⟨rfl, rfl⟩ (by decide +kernel) xcs_n (by decide +kernel) ?_ (fun H3 r hT3 hf3 hFr3 hr3 hΨ3 => ?_)
        · show xΦ0 (xfv []) (zyEl zymc B H2)
          exact trivial
        · have hΨ3 : xΨfwbo (xfv []) (zyEl zymc B H2) (zyEl zymc B H3) r := hΨ3
          have d35_4 : xE (zyEl zymc B H3) 35 4 = xE (zyEl zymc B H2) 35 4 := xFr_E hf3 rfl
          have d35_5 : xE (zyEl zymc B H3) 35 5 = xE (zyEl zymc B H2) 35 5 := xFr_E hf3 rfl
          have d35_6 : xE (zyEl zymc B H3) 35 6 = xE (zyEl zymc B H2) 35 6 := xFr_E hf3 rfl
          have d35_7 : xE (zyEl zymc B H3) 35 7 = xE (zyEl zymc B H2) 35 7 := xFr_E hf3 rfl
          have d35_8 : xE (zyEl zymc B H3) 35 8 = xE (zyEl zymc B H2) 35 8 := xFr_E hf3 rfl
          have d35_2 : xE (zyEl zymc B H3) 35 2 = xE (zyEl zymc B H2) 35 2 := xFr_E hf3 rfl
          have d35_3 : xE (zyEl zymc B H3) 35 3 = xE (zyEl zymc B H2) 35 3 := xFr_E hf3 rfl
          have d36 : ∀ i, xE (zyEl zymc B H3) 36 i = xE (zyEl zymc B H2) 36 i := fun i => xFr_E hf3 rfl
          unfold xΨfwbo at hΨ3
          have hr01 : r = 0 ∨ r = 1 := by
            rw [hΨ3]
            split <;> omega
          have hEE3 : (zyEl zymc B H3) = (zyEl zymc B s.heap) := (xFr_n hf3).trans hE20
          rw [hE20] at hΨ3
          refine ⟨⟨3, by decide⟩, [0, 0], [0, 0, r], rfl, ⟨by decide +kernel, ⟨rfl, by decide +kernel⟩, (xcs_c rfl (xcs_c rfl xcs_n)), (xe_0 (xe_0 (xe_c (by omega) (by omega) rfl xe_n))), xkq_n⟩, (by rw [if_pos rfl]; exact ⟨2, [], rfl, by decide, rfl, xst_n⟩), ?_, ?_⟩
          · show (zyEl zymc B H3) = (zyEl zymc B s.heap) ∧ sW (xE (zyEl zymc B s.heap) 36) (xE (zyEl zymc B s.heap) 35 7) (xE (zyEl zymc B s.heap) 35 5) (xE (zyEl zymc B s.heap) 35 6) [115, 119, 105, 116, 99, 104] = false ∧ (r : Int) = if sW (xE (zyEl zymc B s.heap) 36) (xE (zyEl zymc B s.heap) 35 7) (xE (zyEl zymc B s.heap) 35 5) (xE (zyEl zymc B s.heap) 35 6) [98, 111, 98, 98, 105, 110] = true then 1 else 0
            exact ⟨hEE3, n0, hΨ3⟩
          · show 49 < 50
            omega
    · cases hx
    · have hx : x ∈ [zxfrl17_w1x0, zxfrl17_w1x1] := hx
      have hag : ∀ k, k < 3 → v2 k = v k := hag
      have hfr : xFr [] _ _ := hfr
      rcases List.mem_cons.mp hx with ex | hx
      · subst ex
        obtain ⟨hF, hBd, hM⟩ := hXs
        have g2 : v2 2 = v 2 := hag 2 (by decide)
        have b0 : ((2147483649 : Nat) : Int) ≤ (v2 2) + 2147483648 ∧ (v2 2) + 2147483648 ≤ ((2147483649 : Nat) : Int) := xXb hBd 0 rfl
        have f0 : ¬ (v2 2) = 0 := xXf hF 0 rfl
        have e35_4 : xE (zyEl zymc B H2) 35 4 = xE (zyEl zymc B H) 35 4 := xFr_E hfr rfl
        have q35_4 : xE (zyEl zymc B H) 35 4 = xE (zyEl zymc B s.heap) 35 4 := xFr_E hFr0 rfl
        have e35_5 : xE (zyEl zymc B H2) 35 5 = xE (zyEl zymc B H) 35 5 := xFr_E hfr rfl
        have e35_6 : xE (zyEl zymc B H2) 35 6 = xE (zyEl zymc B H) 35 6 := xFr_E hfr rfl
        have e35_7 : xE (zyEl zymc B H2) 35 7 = xE (zyEl zymc B H) 35 7 := xFr_E hfr rfl
        have e35_8 : xE (zyEl zymc B H2) 35 8 = xE (zyEl zymc B H) 35 8 := xFr_E hfr rfl
        have e35_2 : xE (zyEl zymc B H2) 35 2 = xE (zyEl zymc B H) 35 2 := xFr_E hfr rfl
        have e35_3 : xE (zyEl zymc B H2) 35 3 = xE (zyEl zymc B H) 35 3 := xFr_E hfr rfl
        have e36 : ∀ i, xE (zyEl zymc B H2) 36 i = xE (zyEl zymc B H) 36 i := fun i => xFr_E hfr rfl
        have q36 : ∀ i, xE (zyEl zymc B H) 36 i = xE (zyEl zymc B s.heap) 36 i := fun i => xFr_E hFr0 rfl
        have hI : (zyEl zymc B H) = (zyEl zymc B s.heap) ∧ sW (xE (zyEl zymc B s.heap) 36) (xE (zyEl zymc B s.heap) 35 7) (xE (zyEl zymc B s.heap) 35 5) (xE (zyEl zymc B s.heap) 35 6) [115, 119, 105, 116, 99, 104] = false ∧ (v 2) = if sW (xE (zyEl zymc B s.heap) 36) (xE (zyEl zymc B s.heap) 35 7) (xE (zyEl zymc B s.heap) 35 5) (xE (zyEl zymc B s.heap) 35 6) [98, 111, 98, 98, 105, 110] = true then 1 else 0 := hInv
        have q35_5 : xE (zyEl zymc B H) 35 5 = xE (zyEl zymc B s.heap) 35 5 := by rw [hI.1]
        have q35_6 : xE (zyEl zymc B H) 35 6 = xE (zyEl zymc B s.heap) 35 6 := by rw [hI.1]
        have q35_7 : xE (zyEl zymc B H) 35 7 = xE (zyEl zymc B s.heap) 35 7 := by rw [hI.1]
        have q35_8 : xE (zyEl zymc B H) 35 8 = xE (zyEl zymc B s.heap) 35 8 := by rw [hI.1]
        have q35_2 : xE (zyEl zymc B H) 35 2 = xE (zyEl zymc B s.heap) 35 2 := by rw [hI.1]
        have q35_3 : xE (zyEl zymc B H) 35 3 = xE (zyEl zymc B s.heap) 35 3 := by rw [hI.1]
        obtain ⟨hE, n0, i3⟩ := hI
        obtain ⟨S0, hS0⟩ := hΦ.2.1
        obtain ⟨pp, hpp, hA0⟩ := hΦ.2.2
        have y1 : sW (xE (zyEl zymc B s.heap) 36) (xE (zyEl zymc B s.heap) 35 7) (xE (zyEl zymc B s.heap) 35 5) (xE (zyEl zymc B s.heap) 35 6) [98, 111, 98, 98, 105, 110] = true := by
          by_cases h : sW (xE (zyEl zymc B s.heap) 36) (xE (zyEl zymc B s.heap) 35 7) (xE (zyEl zymc B s.heap) 35 5) (xE (zyEl zymc B s.heap) 35 6) [98, 111, 98, 98, 105, 110] = true
          · exact h
          · rw [if_neg h] at i3
            omega
        have hE20 := (xFr_n hfr).trans hE
        refine xCa hRu hIH hAt hB hv hFr (hfrb17 B) (ix := 84) (ax := 1008) rfl rfl rfl hmefrb17 ⟨_, rfl, rfl, by decide⟩ ⟨rfl, rfl, rfl⟩ (by decide) [] [] [] rfl ⟨rfl, rfl⟩ (by decide +kernel) xcs_n (by decide +kernel) ?_ (fun H3 r hT3 hf3 hFr3 hr3 hΨ3 => ?_)
        · show xΦrd17 (xfv []) (zyEl zymc B H2)
          rw [hE20]
          exact ⟨hΦ.1, S0, hS0⟩
        · have hΨ3 : xΨfrb17 (xfv []) (zyEl zymc B H2) (zyEl zymc B H3) r := hΨ3
          have d35_4 : xE (zyEl zymc B H3) 35 4 = xE (zyEl zymc B H2) 35 4 := xFr_E hf3 rfl
          have d36 : ∀ i, xE (zyEl zymc B H3) 36 i = xE (zyEl zymc B H2) 36 i := fun i => xFr_E hf3 rfl
          unfold xΨfrb17 at hΨ3
          rw [hE20] at hΨ3
          have hr01 : r = 0 ∨ r = 1 := xOut17_r (hΨ3 S0 pp hS0 hA0.2.1.symm)
          refine ⟨⟨4, by decide⟩, [0, 0], [0, 0, r], rfl, ⟨by decide +kernel, ⟨rfl, by decide +kernel⟩, (xcs_c rfl (xcs_c rfl xcs_n)), (xe_0 (xe_0 (xe_c (by omega) (by omega) rfl xe_n))), xkq_n⟩, (by rw [if_pos rfl]; exact ⟨2, [], rfl, by decide, rfl, xst_n⟩), ?_, ?_⟩
          · show (zyEl zymc B s.heap) = (zyEl zymc B s.heap) ∧ ∀ p S, p ≤ xE (zyEl zymc B s.heap) 35 4 → xAD (xE (zyEl zymc B s.heap) 36) (xE (zyEl zymc B s.heap) 35 4) p (zyEl zymc B s.heap) → xAb17 (zyEl zymc B s.heap) S → xOut17 (pLine (xE (zyEl zymc B s.heap) 36) (xE (zyEl zymc B s.heap) 35 4) p S) (zyEl zymc B H3) (r : Int)
            refine ⟨rfl, fun p S hp ⟨a1, a2, a3, a4⟩ hS => ?_⟩
            have w := hΨ3 S p hS a2.symm
            rw [a1] at w
            rw [a1, a2, a3] at n0 y1
            unfold pLine pBody tW
            rw [n0, if_neg (by decide), y1, if_pos rfl]
            exact w
          · show 1 < 49
            omega
      · skip
        have ex := List.mem_singleton.mp hx
        subst ex
        obtain ⟨hF, hBd, hM⟩ := hXs
        have g2 : v2 2 = v 2 := hag 2 (by decide)
        have b0 : ((2147483648 : Nat) : Int) ≤ (v2 2) + 2147483648 ∧ (v2 2) + 2147483648 ≤ ((2147483648 : Nat) : Int) := xXb hBd 0 rfl
        have f0 : (v2 2) = 0 := xXf hF 0 rfl
        have e35_4 : xE (zyEl zymc B H2) 35 4 = xE (zyEl zymc B H) 35 4 := xFr_E hfr rfl
        have q35_4 : xE (zyEl zymc B H) 35 4 = xE (zyEl zymc B s.heap) 35 4 := xFr_E hFr0 rfl
        have e35_5 : xE (zyEl zymc B H2) 35 5 = xE (zyEl zymc B H) 35 5 := xFr_E hfr rfl
        have e35_6 : xE (zyEl zymc B H2) 35 6 = xE (zyEl zymc B H) 35 6 := xFr_E hfr rfl
        have e35_7 : xE (zyEl zymc B H2) 35 7 = xE (zyEl zymc B H) 35 7 := xFr_E hfr rfl
        have e35_8 : xE (zyEl zymc B H2) 35 8 = xE (zyEl zymc B H) 35 8 := xFr_E hfr rfl
        have e35_2 : xE (zyEl zymc B H2) 35 2 = xE (zyEl zymc B H) 35 2 := xFr_E hfr rfl
        have e35_3 : xE (zyEl zymc B H2) 35 3 = xE (zyEl zymc B H) 35 3 := xFr_E hfr rfl
        have e36 : ∀ i, xE (zyEl zymc B H2) 36 i = xE (zyEl zymc B H) 36 i := fun i => xFr_E hfr rfl
        have q36 : ∀ i, xE (zyEl zymc B H) 36 i = xE (zyEl zymc B s.heap) 36 i := fun i => xFr_E hFr0 rfl
        have hI : (zyEl zymc B H) = (zyEl zymc B s.heap) ∧ sW (xE (zyEl zymc B s.heap) 36) (xE (zyEl zymc B s.heap) 35 7) (xE (zyEl zymc B s.heap) 35 5) (xE (zyEl zymc B s.heap) 35 6) [115, 119, 105, 116, 99, 104] = false ∧ (v 2) = if sW (xE (zyEl zymc B s.heap) 36) (xE (zyEl zymc B s.heap) 35 7) (xE (zyEl zymc B s.heap) 35 5) (xE (zyEl zymc B s.heap) 35 6) [98, 111, 98, 98, 105, 110] = true then 1 else 0 := hInv
        have q35_5 : xE (zyEl zymc B H) 35 5 = xE (zyEl zymc B s.heap) 35 5 := by rw [hI.1]
        have q35_6 : xE (zyEl zymc B H) 35 6 = xE (zyEl zymc B s.heap) 35 6 := by rw [hI.1]
        have q35_7 : xE (zyEl zymc B H) 35 7 = xE (zyEl zymc B s.heap) 35 7 := by rw [hI.1]
        have q35_8 : xE (zyEl zymc B H) 35 8 = xE (zyEl zymc B s.heap) 35 8 := by rw [hI.1]
        have q35_2 : xE (zyEl zymc B H) 35 2 = xE (zyEl zymc B s.heap) 35 2 := by rw [hI.1]
        have q35_3 : xE (zyEl zymc B H) 35 3 = xE (zyEl zymc B s.heap) 35 3 := by rw [hI.1]
        obtain ⟨hE, n0, i3⟩ := hI
        obtain ⟨S0, hS0⟩ := hΦ.2.1
        obtain ⟨pp, hpp, hA0⟩ := hΦ.2.2
        have n1 : sW (xE (zyEl zymc B s.heap) 36) (xE (zyEl zymc B s.heap) 35 7) (xE (zyEl zymc B s.heap) 35 5) (xE (zyEl zymc B s.heap) 35 6) [98, 111, 98, 98, 105, 110] = false := by
          rw [Bool.eq_false_iff]
          intro h
          rw [if_pos h] at i3
          omega
        have hE20 := (xFr_n hfr).trans hE
        refine xCa hRu hIH hAt hB hv hFr (hfwst B) (ix := 48) (ax := 1152) rfl rfl rfl hmefwst ⟨_, rfl, rfl, by decide⟩ ⟨rfl, rfl, rfl⟩ (by decide) [] [] [] rfl ⟨rfl, rfl⟩ (by decide +kernel) xcs_n (by decide +kernel) ?_ (fun H3 r hT3 hf3 hFr3 hr3 hΨ3 => ?_)
        · show xΦ0 (xfv []) (zyEl zymc B H2)
          exact trivial
        · have hΨ3 : xΨfwst (xfv []) (zyEl zymc B H2) (zyEl zymc B H3) r := hΨ3
          have d35_4 : xE (zyEl zymc B H3) 35 4 = xE (zyEl zymc B H2) 35 4 := xFr_E hf3 rfl
          have d35_5 : xE (zyEl zymc B H3) 35 5 = xE (zyEl zymc B H2) 35 5 := xFr_E hf3 rfl
          have d35_6 : xE (zyEl zymc B H3) 35 6 = xE (zyEl zymc B H2) 35 6 := xFr_E hf3 rfl
          have d35_7 : xE (zyEl zymc B H3) 35 7 = xE (zyEl zymc B H2) 35 7 := xFr_E hf3 rfl
          have d35_8 : xE (zyEl zymc B H3) 35 8 = xE (zyEl zymc B H2) 35 8 := xFr_E hf3 rfl
          have d35_2 : xE (zyEl zymc B H3) 35 2 = xE (zyEl zymc B H2) 35 2 := xFr_E hf3 rfl
          have d35_3 : xE (zyEl zymc B H3) 35 3 = xE (zyEl zymc B H2) 35 3 := xFr_E hf3 rfl
          have d36 : ∀ i, xE (zyEl zymc B H3) 36 i = xE (zyEl zymc B H2) 36 i := fun i => xFr_E hf3 rfl
          unfold xΨfwst at hΨ3
          have hr01 : r = 0 ∨ r = 1 := by
            rw [hΨ3]
            split <;> omega
          have hEE3 : (zyEl zymc B H3) = (zyEl zymc B s.heap) := (xFr_n hf3).trans hE20
          rw [hE20] at hΨ3
          refine ⟨⟨5, by decide⟩, [0, 0], [0, 0, r], rfl, ⟨by decide +kernel, ⟨rfl, by decide +kernel⟩, (xcs_c rfl (xcs_c rfl xcs_n)), (xe_0 (xe_0 (xe_c (by omega) (by omega) rfl xe_n))), xkq_n⟩, (by rw [if_pos rfl]; exact ⟨2, [], rfl, by decide, rfl, xst_n⟩), ?_, ?_⟩
          · show (zyEl zymc B H3) = (zyEl zymc B s.heap) ∧ sW (xE (zyEl zymc B s.heap) 36) (xE (zyEl zymc B s.heap) 35 7) (xE (zyEl zymc B s.heap) 35 5) (xE (zyEl zymc B s.heap) 35 6) [115, 119, 105, 116, 99, 104] = false ∧ sW (xE (zyEl zymc B s.heap) 36) (xE (zyEl zymc B s.heap) 35 7) (xE (zyEl zymc B s.heap) 35 5) (xE (zyEl zymc B s.heap) 35 6) [98, 111, 98, 98, 105, 110] = false ∧ (r : Int) = if sW (xE (zyEl zymc B s.heap) 36) (xE (zyEl zymc B s.heap) 35 7) (xE (zyEl zymc B s.heap) 35 5) (xE (zyEl zymc B s.heap) 35 6) [115, 116, 117, 99, 107] = true then 1 else 0
            exact ⟨hEE3, n0, n1, hΨ3⟩
          · show 48 < 49
            omega
    · cases hx
    · have hx : x ∈ [zxfrl17_w2x0, zxfrl17_w2x1] := hx
      have hag : ∀ k, k < 3 → v2 k = v k := hag
      have hfr : xFr [] _ _ := hfr
      rcases List.mem_cons.mp hx with ex | hx
      · subst ex
        obtain ⟨hF, hBd, hM⟩ := hXs
        have g2 : v2 2 = v 2 := hag 2 (by decide)
        have b0 : ((2147483649 : Nat) : Int) ≤ (v2 2) + 2147483648 ∧ (v2 2) + 2147483648 ≤ ((2147483649 : Nat) : Int) := xXb hBd 0 rfl
        have f0 : ¬ (v2 2) = 0 := xXf hF 0 rfl
        have e35_4 : xE (zyEl zymc B H2) 35 4 = xE (zyEl zymc B H) 35 4 := xFr_E hfr rfl
        have q35_4 : xE (zyEl zymc B H) 35 4 = xE (zyEl zymc B s.heap) 35 4 := xFr_E hFr0 rfl
        have e35_5 : xE (zyEl zymc B H2) 35 5 = xE (zyEl zymc B H) 35 5 := xFr_E hfr rfl
        have e35_6 : xE (zyEl zymc B H2) 35 6 = xE (zyEl zymc B H) 35 6 := xFr_E hfr rfl
        have e35_7 : xE (zyEl zymc B H2) 35 7 = xE (zyEl zymc B H) 35 7 := xFr_E hfr rfl
        have e35_8 : xE (zyEl zymc B H2) 35 8 = xE (zyEl zymc B H) 35 8 := xFr_E hfr rfl
        have e35_2 : xE (zyEl zymc B H2) 35 2 = xE (zyEl zymc B H) 35 2 := xFr_E hfr rfl
        have e35_3 : xE (zyEl zymc B H2) 35 3 = xE (zyEl zymc B H) 35 3 := xFr_E hfr rfl
        have e36 : ∀ i, xE (zyEl zymc B H2) 36 i = xE (zyEl zymc B H) 36 i := fun i => xFr_E hfr rfl
        have q36 : ∀ i, xE (zyEl zymc B H) 36 i = xE (zyEl zymc B s.heap) 36 i := fun i => xFr_E hFr0 rfl
        have hI : (zyEl zymc B H) = (zyEl zymc B s.heap) ∧ sW (xE (zyEl zymc B s.heap) 36) (xE (zyEl zymc B s.heap) 35 7) (xE (zyEl zymc B s.heap) 35 5) (xE (zyEl zymc B s.heap) 35 6) [115, 119, 105, 116, 99, 104] = false ∧ sW (xE (zyEl zymc B s.heap) 36) (xE (zyEl zymc B s.heap) 35 7) (xE (zyEl zymc B s.heap) 35 5) (xE (zyEl zymc B s.heap) 35 6) [98, 111, 98, 98, 105, 110] = false ∧ (v 2) = if sW (xE (zyEl zymc B s.heap) 36) (xE (zyEl zymc B s.heap) 35 7) (xE (zyEl zymc B s.heap) 35 5) (xE (zyEl zymc B s.heap) 35 6) [115, 116, 117, 99, 107] = true then 1 else 0 := hInv
        have q35_5 : xE (zyEl zymc B H) 35 5 = xE (zyEl zymc B s.heap) 35 5 := by rw [hI.1]
        have q35_6 : xE (zyEl zymc B H) 35 6 = xE (zyEl zymc B s.heap) 35 6 := by rw [hI.1]
        have q35_7 : xE (zyEl zymc B H) 35 7 = xE (zyEl zymc B s.heap) 35 7 := by rw [hI.1]
        have q35_8 : xE (zyEl zymc B H) 35 8 = xE (zyEl zymc B s.heap) 35 8 := by rw [hI.1]
        have q35_2 : xE (zyEl zymc B H) 35 2 = xE (zyEl zymc B s.heap) 35 2 := by rw [hI.1]
        have q35_3 : xE (zyEl zymc B H) 35 3 = xE (zyEl zymc B s.heap) 35 3 := by rw [hI.1]
        obtain ⟨hE, n0, n1, i3⟩ := hI
        obtain ⟨S0, hS0⟩ := hΦ.2.1
        obtain ⟨pp, hpp, hA0⟩ := hΦ.2.2
        have y2 : sW (xE (zyEl zymc B s.heap) 36) (xE (zyEl zymc B s.heap) 35 7) (xE (zyEl zymc B s.heap) 35 5) (xE (zyEl zymc B s.heap) 35 6) [115, 116, 117, 99, 107] = true := by
          by_cases h : sW (xE (zyEl zymc B s.heap) 36) (xE (zyEl zymc B s.heap) 35 7) (xE (zyEl zymc B s.heap) 35 5) (xE (zyEl zymc B s.heap) 35 6) [115, 116, 117, 99, 107] = true
          · exact h
          · rw [if_neg h] at i3
            omega
        have hE20 := (xFr_n hfr).trans hE
        refine xCa hRu hIH hAt hB hv hFr (hfrk17 B) (ix := 89) (ax := 1024) rfl rfl rfl hmefrk17 ⟨_, rfl, rfl, by decide⟩ ⟨rfl, rfl, rfl⟩ (by decide) [] [] [] rfl ⟨rfl, rfl⟩ (by decide +kernel) xcs_n (by decide +kernel) ?_ (fun H3 r hT3 hf3 hFr3 hr3 hΨ3 => ?_)
        · show xΦrd17 (xfv []) (zyEl zymc B H2)
          rw [hE20]
          exact ⟨hΦ.1, S0, hS0⟩
        · have hΨ3 : xΨfrk17 (xfv []) (zyEl zymc B H2) (zyEl zymc B H3) r := hΨ3
          have d35_4 : xE (zyEl zymc B H3) 35 4 = xE (zyEl zymc B H2) 35 4 := xFr_E hf3 rfl
          have d36 : ∀ i, xE (zyEl zymc B H3) 36 i = xE (zyEl zymc B H2) 36 i := fun i => xFr_E hf3 rfl
          unfold xΨfrk17 at hΨ3
          rw [hE20] at hΨ3
          have hr01 : r = 0 ∨ r = 1 := xOut17_r (hΨ3 S0 hS0)
          refine ⟨⟨6, by decide⟩, [0, 0], [0, 0, r], rfl, ⟨by decide +kernel, ⟨rfl, by decide +kernel⟩, (xcs_c rfl (xcs_c rfl xcs_n)), (xe_0 (xe_0 (xe_c (by omega) (by omega) rfl xe_n))), xkq_n⟩, (by rw [if_pos rfl]; exact ⟨2, [], rfl, by decide, rfl, xst_n⟩), ?_, ?_⟩
          · show (zyEl zymc B s.heap) = (zyEl zymc B s.heap) ∧ ∀ p S, p ≤ xE (zyEl zymc B s.heap) 35 4 → xAD (xE (zyEl zymc B s.heap) 36) (xE (zyEl zymc B s.heap) 35 4) p (zyEl zymc B s.heap) → xAb17 (zyEl zymc B s.heap) S → xOut17 (pLine (xE (zyEl zymc B s.heap) 36) (xE (zyEl zymc B s.heap) 35 4) p S) (zyEl zymc B H3) (r : Int)
            refine ⟨rfl, fun p S hp ⟨a1, a2, a3, a4⟩ hS => ?_⟩
            have w := hΨ3 S hS
            rw [a1] at w
            rw [a1, a2, a3] at n0 n1 y2
            unfold pLine pBody tW
            rw [n0, if_neg (by decide), n1, if_neg (by decide), y2, if_pos rfl]
            exact w
          · show 1 < 48
            omega
      · skip
        have ex := List.mem_singleton.mp hx
        subst ex
        obtain ⟨hF, hBd, hM⟩ := hXs
        have g2 : v2 2 = v 2 := hag 2 (by decide)
        have b0 : ((2147483648 : Nat) : Int) ≤ (v2 2) + 2147483648 ∧ (v2 2) + 2147483648 ≤ ((2147483648 : Nat) : Int) := xXb hBd 0 rfl
        have f0 : (v2 2) = 0 := xXf hF 0 rfl
        have e35_4 : xE (zyEl zymc B H2) 35 4 = xE (zyEl zymc B H) 35 4 := xFr_E hfr rfl
        have q35_4 : xE (zyEl zymc B H) 35 4 = xE (zyEl zymc B s.heap) 35 4 := xFr_E hFr0 rfl
        have e35_5 : xE (zyEl zymc B H2) 35 5 = xE (zyEl zymc B H) 35 5 := xFr_E hfr rfl
        have e35_6 : xE (zyEl zymc B H2) 35 6 = xE (zyEl zymc B H) 35 6 := xFr_E hfr rfl
        have e35_7 : xE (zyEl zymc B H2) 35 7 = xE (zyEl zymc B H) 35 7 := xFr_E hfr rfl
        have e35_8 : xE (zyEl zymc B H2) 35 8 = xE (zyEl zymc B H) 35 8 := xFr_E hfr rfl
        have e35_2 : xE (zyEl zymc B H2) 35 2 = xE (zyEl zymc B H) 35 2 := xFr_E hfr rfl
        have e35_3 : xE (zyEl zymc B H2) 35 3 = xE (zyEl zymc B H) 35 3 := xFr_E hfr rfl
        have e36 : ∀ i, xE (zyEl zymc B H2) 36 i = xE (zyEl zymc B H) 36 i := fun i => xFr_E hfr rfl
        have q36 : ∀ i, xE (zyEl zymc B H) 36 i = xE (zyEl zymc B s.heap) 36 i := fun i => xFr_E hFr0 rfl
        have hI : (zyEl zymc B H) = (zyEl zymc B s.heap) ∧ sW (xE (zyEl zymc B s.heap) 36) (xE (zyEl zymc B s.heap) 35 7) (xE (zyEl zymc B s.heap) 35 5) (xE (zyEl zymc B s.heap) 35 6) [115, 119, 105, 116, 99, 104] = false ∧ sW (xE (zyEl zymc B s.heap) 36) (xE (zyEl zymc B s.heap) 35 7) (xE (zyEl zymc B s.heap) 35 5) (xE (zyEl zymc B s.heap) 35 6) [98, 111, 98, 98, 105, 110] = false ∧ (v 2) = if sW (xE (zyEl zymc B s.heap) 36) (xE (zyEl zymc B s.heap) 35 7) (xE (zyEl zymc B s.heap) 35 5) (xE (zyEl zymc B s.heap) 35 6) [115, 116, 117, 99, 107] = true then 1 else 0 := hInv
        have q35_5 : xE (zyEl zymc B H) 35 5 = xE (zyEl zymc B s.heap) 35 5 := by rw [hI.1]
        have q35_6 : xE (zyEl zymc B H) 35 6 = xE (zyEl zymc B s.heap) 35 6 := by rw [hI.1]
        have q35_7 : xE (zyEl zymc B H) 35 7 = xE (zyEl zymc B s.heap) 35 7 := by rw [hI.1]
        have q35_8 : xE (zyEl zymc B H) 35 8 = xE (zyEl zymc B s.heap) 35 8 := by rw [hI.1]
        have q35_2 : xE (zyEl zymc B H) 35 2 = xE (zyEl zymc B s.heap) 35 2 := by rw [hI.1]
        have q35_3 : xE (zyEl zymc B H) 35 3 = xE (zyEl zymc B s.heap) 35 3 := by rw [hI.1]
        obtain ⟨hE, n0, n1, i3⟩ := hI
        obtain ⟨S0, hS0⟩ := hΦ.2.1
        obtain ⟨pp, hpp, hA0⟩ := hΦ.2.2
        have n2 : sW (xE (zyEl zymc B s.heap) 36) (xE (zyEl zymc B s.heap) 35 7) (xE (zyEl zymc B s.heap) 35 5) (xE (zyEl zymc B s.heap) 35 6) [115, 116, 117, 99, 107] = false := by
          rw [Bool.eq_false_iff]
          intro h
          rw [if_pos h] at i3
          omega
        have hE20 := (xFr_n hfr).trans hE
        refine xCa hRu hIH hAt hB hv hFr (hfwfr B) (ix := 48) (ax := 1152) rfl rfl rfl hmefwfr ⟨_, rfl, rfl, by decide⟩ ⟨rfl, rfl, rfl⟩ (by decide) [] [] [] rfl ⟨rfl, rfl⟩ (by decide +kernel) xcs_n (by decide +kernel) ?_ (fun H3 r hT3 hf3 hFr3 hr3 hΨ3 => ?_)
        · show xΦ0 (xfv []) (zyEl zymc B H2)
          exact trivial
        · have hΨ3 : xΨfwfr (xfv []) (zyEl zymc B H2) (zyEl zymc B H3) r := hΨ3
          have d35_4 : xE (zyEl zymc B H3) 35 4 = xE (zyEl zymc B H2) 35 4 := xFr_E hf3 rfl
          have d35_5 : xE (zyEl zymc B H3) 35 5 = xE (zyEl zymc B H2) 35 5 := xFr_E hf3 rfl
          have d35_6 : xE (zyEl zymc B H3) 35 6 = xE (zyEl zymc B H2) 35 6 := xFr_E hf3 rfl
          have d35_7 : xE (zyEl zymc B H3) 35 7 = xE (zyEl zymc B H2) 35 7 := xFr_E hf3 rfl
          have d35_8 : xE (zyEl zymc B H3) 35 8 = xE (zyEl zymc B H2) 35 8 := xFr_E hf3 rfl
          have d35_2 : xE (zyEl zymc B H3) 35 2 = xE (zyEl zymc B H2) 35 2 := xFr_E hf3 rfl
          have d35_3 : xE (zyEl zymc B H3) 35 3 = xE (zyEl zymc B H2) 35 3 := xFr_E hf3 rfl
          have d36 : ∀ i, xE (zyEl zymc B H3) 36 i = xE (zyEl zymc B H2) 36 i := fun i => xFr_E hf3 rfl
          unfold xΨfwfr at hΨ3
          have hr01 : r = 0 ∨ r = 1 := by
            rw [hΨ3]
            split <;> omega
          have hEE3 : (zyEl zymc B H3) = (zyEl zymc B s.heap) := (xFr_n hf3).trans hE20
          rw [hE20] at hΨ3
          refine ⟨⟨7, by decide⟩, [0, 0], [0, 0, r], rfl, ⟨by decide +kernel, ⟨rfl, by decide +kernel⟩, (xcs_c rfl (xcs_c rfl xcs_n)), (xe_0 (xe_0 (xe_c (by omega) (by omega) rfl xe_n))), xkq_n⟩, (by rw [if_pos rfl]; exact ⟨2, [], rfl, by decide, rfl, xst_n⟩), ?_, ?_⟩
          · show (zyEl zymc B H3) = (zyEl zymc B s.heap) ∧ sW (xE (zyEl zymc B s.heap) 36) (xE (zyEl zymc B s.heap) 35 7) (xE (zyEl zymc B s.heap) 35 5) (xE (zyEl zymc B s.heap) 35 6) [115, 119, 105, 116, 99, 104] = false ∧ sW (xE (zyEl zymc B s.heap) 36) (xE (zyEl zymc B s.heap) 35 7) (xE (zyEl zymc B s.heap) 35 5) (xE (zyEl zymc B s.heap) 35 6) [98, 111, 98, 98, 105, 110] = false ∧ sW (xE (zyEl zymc B s.heap) 36) (xE (zyEl zymc B s.heap) 35 7) (xE (zyEl zymc B s.heap) 35 5) (xE (zyEl zymc B s.heap) 35 6) [115, 116, 117, 99, 107] = false ∧ (r : Int) = if sW (xE (zyEl zymc B s.heap) 36) (xE (zyEl zymc B s.heap) 35 7) (xE (zyEl zymc B s.heap) 35 5) (xE (zyEl zymc B s.heap) 35 6) [102, 114, 101, 101] = true then 1 else 0
            exact ⟨hEE3, n0, n1, n2, hΨ3⟩
          · show 47 < 48
            omega
    · cases hx
    · have hx : x ∈ [zxfrl17_w3x0, zxfrl17_w3x1] := hx
      have hag : ∀ k, k < 3 → v2 k = v k := hag
      have hfr : xFr [] _ _ := hfr
      rcases List.mem_cons.mp hx with ex | hx
      · subst ex
        obtain ⟨hF, hBd, hM⟩ := hXs
        have g2 : v2 2 = v 2 := hag 2 (by decide)
        have b0 : ((2147483649 : Nat) : Int) ≤ (v2 2) + 2147483648 ∧ (v2 2) + 2147483648 ≤ ((2147483649 : Nat) : Int) := xXb hBd 0 rfl
        have f0 : ¬ (v2 2) = 0 := xXf hF 0 rfl
        have e35_4 : xE (zyEl zymc B H2) 35 4 = xE (zyEl zymc B H) 35 4 := xFr_E hfr rfl
        have q35_4 : xE (zyEl zymc B H) 35 4 = xE (zyEl zymc B s.heap) 35 4 := xFr_E hFr0 rfl
        have e35_5 : xE (zyEl zymc B H2) 35 5 = xE (zyEl zymc B H) 35 5 := xFr_E hfr rfl
        have e35_6 : xE (zyEl zymc B H2) 35 6 = xE (zyEl zymc B H) 35 6 := xFr_E hfr rfl
        have e35_7 : xE (zyEl zymc B H2) 35 7 = xE (zyEl zymc B H) 35 7 := xFr_E hfr rfl
        have e35_8 : xE (zyEl zymc B H2) 35 8 = xE (zyEl zymc B H) 35 8 := xFr_E hfr rfl
        have e35_2 : xE (zyEl zymc B H2) 35 2 = xE (zyEl zymc B H) 35 2 := xFr_E hfr rfl
        have e35_3 : xE (zyEl zymc B H2) 35 3 = xE (zyEl zymc B H) 35 3 := xFr_E hfr rfl
        have e36 : ∀ i, xE (zyEl zymc B H2) 36 i = xE (zyEl zymc B H) 36 i := fun i => xFr_E hfr rfl
        have q36 : ∀ i, xE (zyEl zymc B H) 36 i = xE (zyEl zymc B s.heap) 36 i := fun i => xFr_E hFr0 rfl
        have hI : (zyEl zymc B H) = (zyEl zymc B s.heap) ∧ sW (xE (zyEl zymc B s.heap) 36) (xE (zyEl zymc B s.heap) 35 7) (xE (zyEl zymc B s.heap) 35 5) (xE (zyEl zymc B s.heap) 35 6) [115, 119, 105, 116, 99, 104] = false ∧ sW (xE (zyEl zymc B s.heap) 36) (xE (zyEl zymc B s.heap) 35 7) (xE (zyEl zymc B s.heap) 35 5) (xE (zyEl zymc B s.heap) 35 6) [98, 111, 98, 98, 105, 110] = false ∧ sW (xE (zyEl zymc B s.heap) 36) (xE (zyEl zymc B s.heap) 35 7) (xE (zyEl zymc B s.heap) 35 5) (xE (zyEl zymc B s.heap) 35 6) [115, 116, 117, 99, 107] = false ∧ (v 2) = if sW (xE (zyEl zymc B s.heap) 36) (xE (zyEl zymc B s.heap) 35 7) (xE (zyEl zymc B s.heap) 35 5) (xE (zyEl zymc B s.heap) 35 6) [102, 114, 101, 101] = true then 1 else 0 := hInv
        have q35_5 : xE (zyEl zymc B H) 35 5 = xE (zyEl zymc B s.heap) 35 5 := by rw [hI.1]
        have q35_6 : xE (zyEl zymc B H) 35 6 = xE (zyEl zymc B s.heap) 35 6 := by rw [hI.1]
        have q35_7 : xE (zyEl zymc B H) 35 7 = xE (zyEl zymc B s.heap) 35 7 := by rw [hI.1]
        have q35_8 : xE (zyEl zymc B H) 35 8 = xE (zyEl zymc B s.heap) 35 8 := by rw [hI.1]
        have q35_2 : xE (zyEl zymc B H) 35 2 = xE (zyEl zymc B s.heap) 35 2 := by rw [hI.1]
        have q35_3 : xE (zyEl zymc B H) 35 3 = xE (zyEl zymc B s.heap) 35 3 := by rw [hI.1]
        obtain ⟨hE, n0, n1, n2, i3⟩ := hI
        obtain ⟨S0, hS0⟩ := hΦ.2.1
        obtain ⟨pp, hpp, hA0⟩ := hΦ.2.2
        have y3 : sW (xE (zyEl zymc B s.heap) 36) (xE (zyEl zymc B s.heap) 35 7) (xE (zyEl zymc B s.heap) 35 5) (xE (zyEl zymc B s.heap) 35 6) [102, 114, 101, 101] = true := by
          by_cases h : sW (xE (zyEl zymc B s.heap) 36) (xE (zyEl zymc B s.heap) 35 7) (xE (zyEl zymc B s.heap) 35 5) (xE (zyEl zymc B s.heap) 35 6) [102, 114, 101, 101] = true
          · exact h
          · rw [if_neg h] at i3
            omega
        have hE20 := (xFr_n hfr).trans hE
        refine xCa hRu hIH hAt hB hv hFr (hfrf17 B) (ix := 94) (ax := 1040) rfl rfl rfl hmefrf17 ⟨_, rfl, rfl, by decide⟩ ⟨rfl, rfl, rfl⟩ (by decide) [] [] [] rfl ⟨rfl, rfl⟩ (by decide +kernel) xcs_n (by decide +kernel) ?_ (fun H3 r hT3 hf3 hFr3 hr3 hΨ3 => ?_)
        · show xΦrd17 (xfv []) (zyEl zymc B H2)
          rw [hE20]
          exact ⟨hΦ.1, S0, hS0⟩
        · have hΨ3 : xΨfrf17 (xfv []) (zyEl zymc B H2) (zyEl zymc B H3) r := hΨ3
          have d35_4 : xE (zyEl zymc B H3) 35 4 = xE (zyEl zymc B H2) 35 4 := xFr_E hf3 rfl
          have d36 : ∀ i, xE (zyEl zymc B H3) 36 i = xE (zyEl zymc B H2) 36 i := fun i => xFr_E hf3 rfl
          unfold xΨfrf17 at hΨ3
          rw [hE20] at hΨ3
          have hr01 : r = 0 ∨ r = 1 := xOut17_r (hΨ3 S0 pp hS0 hA0.2.1.symm)
          refine ⟨⟨8, by decide⟩, [0, 0], [0, 0, r], rfl, ⟨by decide +kernel, ⟨rfl, by decide +kernel⟩, (xcs_c rfl (xcs_c rfl xcs_n)), (xe_0 (xe_0 (xe_c (by omega) (by omega) rfl xe_n))), xkq_n⟩, (by rw [if_pos rfl]; exact ⟨2, [], rfl, by decide, rfl, xst_n⟩), ?_, ?_⟩
          · show (zyEl zymc B s.heap) = (zyEl zymc B s.heap) ∧ ∀ p S, p ≤ xE (zyEl zymc B s.heap) 35 4 → xAD (xE (zyEl zymc B s.heap) 36) (xE (zyEl zymc B s.heap) 35 4) p (zyEl zymc B s.heap) → xAb17 (zyEl zymc B s.heap) S → xOut17 (pLine (xE (zyEl zymc B s.heap) 36) (xE (zyEl zymc B s.heap) 35 4) p S) (zyEl zymc B H3) (r : Int)
            refine ⟨rfl, fun p S hp ⟨a1, a2, a3, a4⟩ hS => ?_⟩
            have w := hΨ3 S p hS a2.symm
            rw [a1] at w
            rw [a1, a2, a3] at n0 n1 n2 y3
            unfold pLine pBody tW
            rw [n0, if_neg (by decide), n1, if_neg (by decide), n2, if_neg (by decide), y3, if_pos rfl]
            exact w
          · show 1 < 47
            omega
      · skip
        have ex := List.mem_singleton.mp hx
        subst ex
        obtain ⟨hF, hBd, hM⟩ := hXs
        have g2 : v2 2 = v 2 := hag 2 (by decide)
        have b0 : ((2147483648 : Nat) : Int) ≤ (v2 2) + 2147483648 ∧ (v2 2) + 2147483648 ≤ ((2147483648 : Nat) : Int) := xXb hBd 0 rfl
        have f0 : (v2 2) = 0 := xXf hF 0 rfl
        have e35_4 : xE (zyEl zymc B H2) 35 4 = xE (zyEl zymc B H) 35 4 := xFr_E hfr rfl
        have q35_4 : xE (zyEl zymc B H) 35 4 = xE (zyEl zymc B s.heap) 35 4 := xFr_E hFr0 rfl
        have e35_5 : xE (zyEl zymc B H2) 35 5 = xE (zyEl zymc B H) 35 5 := xFr_E hfr rfl
        have e35_6 : xE (zyEl zymc B H2) 35 6 = xE (zyEl zymc B H) 35 6 := xFr_E hfr rfl
        have e35_7 : xE (zyEl zymc B H2) 35 7 = xE (zyEl zymc B H) 35 7 := xFr_E hfr rfl
        have e35_8 : xE (zyEl zymc B H2) 35 8 = xE (zyEl zymc B H) 35 8 := xFr_E hfr rfl
        have e35_2 : xE (zyEl zymc B H2) 35 2 = xE (zyEl zymc B H) 35 2 := xFr_E hfr rfl
        have e35_3 : xE (zyEl zymc B H2) 35 3 = xE (zyEl zymc B H) 35 3 := xFr_E hfr rfl
        have e36 : ∀ i, xE (zyEl zymc B H2) 36 i = xE (zyEl zymc B H) 36 i := fun i => xFr_E hfr rfl
        have q36 : ∀ i, xE (zyEl zymc B H) 36 i = xE (zyEl zymc B s.heap) 36 i := fun i => xFr_E hFr0 rfl
        have hI : (zyEl zymc B H) = (zyEl zymc B s.heap) ∧ sW (xE (zyEl zymc B s.heap) 36) (xE (zyEl zymc B s.heap) 35 7) (xE (zyEl zymc B s.heap) 35 5) (xE (zyEl zymc B s.heap) 35 6) [115, 119, 105, 116, 99, 104] = false ∧ sW (xE (zyEl zymc B s.heap) 36) (xE (zyEl zymc B s.heap) 35 7) (xE (zyEl zymc B s.heap) 35 5) (xE (zyEl zymc B s.heap) 35 6) [98, 111, 98, 98, 105, 110] = false ∧ sW (xE (zyEl zymc B s.heap) 36) (xE (zyEl zymc B s.heap) 35 7) (xE (zyEl zymc B s.heap) 35 5) (xE (zyEl zymc B s.heap) 35 6) [115, 116, 117, 99, 107] = false ∧ (v 2) = if sW (xE (zyEl zymc B s.heap) 36) (xE (zyEl zymc B s.heap) 35 7) (xE (zyEl zymc B s.heap) 35 5) (xE (zyEl zymc B s.heap) 35 6) [102, 114, 101, 101] = true then 1 else 0 := hInv
        have q35_5 : xE (zyEl zymc B H) 35 5 = xE (zyEl zymc B s.heap) 35 5 := by rw [hI.1]
        have q35_6 : xE (zyEl zymc B H) 35 6 = xE (zyEl zymc B s.heap) 35 6 := by rw [hI.1]
        have q35_7 : xE (zyEl zymc B H) 35 7 = xE (zyEl zymc B s.heap) 35 7 := by rw [hI.1]
        have q35_8 : xE (zyEl zymc B H) 35 8 = xE (zyEl zymc B s.heap) 35 8 := by rw [hI.1]
        have q35_2 : xE (zyEl zymc B H) 35 2 = xE (zyEl zymc B s.heap) 35 2 := by rw [hI.1]
        have q35_3 : xE (zyEl zymc B H) 35 3 = xE (zyEl zymc B s.heap) 35 3 := by rw [hI.1]
        obtain ⟨hE, n0, n1, n2, i3⟩ := hI
        obtain ⟨S0, hS0⟩ := hΦ.2.1
        obtain ⟨pp, hpp, hA0⟩ := hΦ.2.2
        have n3 : sW (xE (zyEl zymc B s.heap) 36) (xE (zyEl zymc B s.heap) 35 7) (xE (zyEl zymc B s.heap) 35 5) (xE (zyEl zymc B s.heap) 35 6) [102, 114, 101, 101] = false := by
          rw [Bool.eq_false_iff]
          intro h
          rw [if_pos h] at i3
          omega
        have hE20 := (xFr_n hfr).trans hE
        refine xCa hRu hIH hAt hB hv hFr (hfwpl B) (ix := 48) (ax := 1152) rfl rfl rfl hmefwpl ⟨_, rfl, rfl, by decide⟩ ⟨rfl, rfl, rfl⟩ (by decide) [] [] [] rfl ⟨rfl, rfl⟩ (by decide +kernel) xcs_n (by decide +kernel) ?_ (fun H3 r hT3 hf3 hFr3 hr3 hΨ3 => ?_)
        · show xΦ0 (xfv []) (zyEl zymc B H2)
          exact trivial
        · have hΨ3 : xΨfwpl (xfv []) (zyEl zymc B H2) (zyEl zymc B H3) r := hΨ3
          have d35_4 : xE (zyEl zymc B H3) 35 4 = xE (zyEl zymc B H2) 35 4 := xFr_E hf3 rfl
          have d35_5 : xE (zyEl zymc B H3) 35 5 = xE (zyEl zymc B H2) 35 5 := xFr_E hf3 rfl
          have d35_6 : xE (zyEl zymc B H3) 35 6 = xE (zyEl zymc B H2) 35 6 := xFr_E hf3 rfl
          have d35_7 : xE (zyEl zymc B H3) 35 7 = xE (zyEl zymc B H2) 35 7 := xFr_E hf3 rfl
          have d35_8 : xE (zyEl zymc B H3) 35 8 = xE (zyEl zymc B H2) 35 8 := xFr_E hf3 rfl
          have d35_2 : xE (zyEl zymc B H3) 35 2 = xE (zyEl zymc B H2) 35 2 := xFr_E hf3 rfl
          have d35_3 : xE (zyEl zymc B H3) 35 3 = xE (zyEl zymc B H2) 35 3 := xFr_E hf3 rfl
          have d36 : ∀ i, xE (zyEl zymc B H3) 36 i = xE (zyEl zymc B H2) 36 i := fun i => xFr_E hf3 rfl
          unfold xΨfwpl at hΨ3
          have hr01 : r = 0 ∨ r = 1 := by
            rw [hΨ3]
            split <;> omega
          have hEE3 : (zyEl zymc B H3) = (zyEl zymc B s.heap) := (xFr_n hf3).trans hE20
          rw [hE20] at hΨ3
          refine ⟨⟨9, by decide⟩, [0, 0], [0, 0, r], rfl, ⟨by decide +kernel, ⟨rfl, by decide +kernel⟩, (xcs_c rfl (xcs_c rfl xcs_n)), (xe_0 (xe_0 (xe_c (by omega) (by omega) rfl xe_n))), xkq_n⟩, (by rw [if_pos rfl]; exact ⟨2, [], rfl, by decide, rfl, xst_n⟩), ?_, ?_⟩
          · show (zyEl zymc B H3) = (zyEl zymc B s.heap) ∧ sW (xE (zyEl zymc B s.heap) 36) (xE (zyEl zymc B s.heap) 35 7) (xE (zyEl zymc B s.heap) 35 5) (xE (zyEl zymc B s.heap) 35 6) [115, 119, 105, 116, 99, 104] = false ∧ sW (xE (zyEl zymc B s.heap) 36) (xE (zyEl zymc B s.heap) 35 7) (xE (zyEl zymc B s.heap) 35 5) (xE (zyEl zymc B s.heap) 35 6) [98, 111, 98, 98, 105, 110] = false ∧ sW (xE (zyEl zymc B s.heap) 36) (xE (zyEl zymc B s.heap) 35 7) (xE (zyEl zymc B s.heap) 35 5) (xE (zyEl zymc B s.heap) 35 6) [115, 116, 117, 99, 107] = false ∧ sW (xE (zyEl zymc B s.heap) 36) (xE (zyEl zymc B s.heap) 35 7) (xE (zyEl zymc B s.heap) 35 5) (xE (zyEl zymc B s.heap) 35 6) [102, 114, 101, 101] = false ∧ (r : Int) = if sW (xE (zyEl zymc B s.heap) 36) (xE (zyEl zymc B s.heap) 35 7) (xE (zyEl zymc B s.heap) 35 5) (xE (zyEl zymc B s.heap) 35 6) [112, 108, 97, 99, 101] = true then 1 else 0
            exact ⟨hEE3, n0, n1, n2, n3, hΨ3⟩
          · show 46 < 47
            omega
    · cases hx
    · have hx : x ∈ [zxfrl17_w4x0, zxfrl17_w4x1] := hx
      have hag : ∀ k, k < 3 → v2 k = v k := hag
      have hfr : xFr [] _ _ := hfr
      rcases List.mem_cons.mp hx with ex | hx
      · subst ex
        obtain ⟨hF, hBd, hM⟩ := hXs
        have g2 : v2 2 = v 2 := hag 2 (by decide)
        have b0 : ((2147483649 : Nat) : Int) ≤ (v2 2) + 2147483648 ∧ (v2 2) + 2147483648 ≤ ((2147483649 : Nat) : Int) := xXb hBd 0 rfl
        have f0 : ¬ (v2 2) = 0 := xXf hF 0 rfl
        have e35_4 : xE (zyEl zymc B H2) 35 4 = xE (zyEl zymc B H) 35 4 := xFr_E hfr rfl
        have q35_4 : xE (zyEl zymc B H) 35 4 = xE (zyEl zymc B s.heap) 35 4 := xFr_E hFr0 rfl
        have e35_5 : xE (zyEl zymc B H2) 35 5 = xE (zyEl zymc B H) 35 5 := xFr_E hfr rfl
        have e35_6 : xE (zyEl zymc B H2) 35 6 = xE (zyEl zymc B H) 35 6 := xFr_E hfr rfl
        have e35_7 : xE (zyEl zymc B H2) 35 7 = xE (zyEl zymc B H) 35 7 := xFr_E hfr rfl
        have e35_8 : xE (zyEl zymc B H2) 35 8 = xE (zyEl zymc B H) 35 8 := xFr_E hfr rfl
        have e35_2 : xE (zyEl zymc B H2) 35 2 = xE (zyEl zymc B H) 35 2 := xFr_E hfr rfl
        have e35_3 : xE (zyEl zymc B H2) 35 3 = xE (zyEl zymc B H) 35 3 := xFr_E hfr rfl
        have e36 : ∀ i, xE (zyEl zymc B H2) 36 i = xE (zyEl zymc B H) 36 i := fun i => xFr_E hfr rfl
        have q36 : ∀ i, xE (zyEl zymc B H) 36 i = xE (zyEl zymc B s.heap) 36 i := fun i => xFr_E hFr0 rfl
        have hI : (zyEl zymc B H) = (zyEl zymc B s.heap) ∧ sW (xE (zyEl zymc B s.heap) 36) (xE (zyEl zymc B s.heap) 35 7) (xE (zyEl zymc B s.heap) 35 5) (xE (zyEl zymc B s.heap) 35 6) [115, 119, 105, 116, 99, 104] = false ∧ sW (xE (zyEl zymc B s.heap) 36) (xE (zyEl zymc B s.heap) 35 7) (xE (zyEl zymc B s.heap) 35 5) (xE (zyEl zymc B s.heap) 35 6) [98, 111, 98, 98, 105, 110] = false ∧ sW (xE (zyEl zymc B s.heap) 36) (xE (zyEl zymc B s.heap) 35 7) (xE (zyEl zymc B s.heap) 35 5) (xE (zyEl zymc B s.heap) 35 6) [115, 116, 117, 99, 107] = false ∧ sW (xE (zyEl zymc B s.heap) 36) (xE (zyEl zymc B s.heap) 35 7) (xE (zyEl zymc B s.heap) 35 5) (xE (zyEl zymc B s.heap) 35 6) [102, 114, 101, 101] = false ∧ (v 2) = if sW (xE (zyEl zymc B s.heap) 36) (xE (zyEl zymc B s.heap) 35 7) (xE (zyEl zymc B s.heap) 35 5) (xE (zyEl zymc B s.heap) 35 6) [112, 108, 97, 99, 101] = true then 1 else 0 := hInv
        have q35_5 : xE (zyEl zymc B H) 35 5 = xE (zyEl zymc B s.heap) 35 5 := by rw [hI.1]
        have q35_6 : xE (zyEl zymc B H) 35 6 = xE (zyEl zymc B s.heap) 35 6 := by rw [hI.1]
        have q35_7 : xE (zyEl zymc B H) 35 7 = xE (zyEl zymc B s.heap) 35 7 := by rw [hI.1]
        have q35_8 : xE (zyEl zymc B H) 35 8 = xE (zyEl zymc B s.heap) 35 8 := by rw [hI.1]
        have q35_2 : xE (zyEl zymc B H) 35 2 = xE (zyEl zymc B s.heap) 35 2 := by rw [hI.1]
        have q35_3 : xE (zyEl zymc B H) 35 3 = xE (zyEl zymc B s.heap) 35 3 := by rw [hI.1]
        obtain ⟨hE, n0, n1, n2, n3, i3⟩ := hI
        obtain ⟨S0, hS0⟩ := hΦ.2.1
        obtain ⟨pp, hpp, hA0⟩ := hΦ.2.2
        have y4 : sW (xE (zyEl zymc B s.heap) 36) (xE (zyEl zymc B s.heap) 35 7) (xE (zyEl zymc B s.heap) 35 5) (xE (zyEl zymc B s.heap) 35 6) [112, 108, 97, 99, 101] = true := by
          by_cases h : sW (xE (zyEl zymc B s.heap) 36) (xE (zyEl zymc B s.heap) 35 7) (xE (zyEl zymc B s.heap) 35 5) (xE (zyEl zymc B s.heap) 35 6) [112, 108, 97, 99, 101] = true
          · exact h
          · rw [if_neg h] at i3
            omega
        have hE20 := (xFr_n hfr).trans hE
        refine xCa hRu hIH hAt hB hv hFr (hfrp17 B) (ix := 98) (ax := 1056) rfl rfl rfl hmefrp17 ⟨_, rfl, rfl, by decide⟩ ⟨rfl, rfl, rfl⟩ (by decide) [] [] [] rfl ⟨rfl, rfl⟩ (by decide +kernel) xcs_n (by decide +kernel) ?_ (fun H3 r hT3 hf3 hFr3 hr3 hΨ3 => ?_)
        · show xΦrd17 (xfv []) (zyEl zymc B H2)
          rw [hE20]
          exact ⟨hΦ.1, S0, hS0⟩
        · have hΨ3 : xΨfrp17 (xfv []) (zyEl zymc B H2) (zyEl zymc B H3) r := hΨ3
          have d35_4 : xE (zyEl zymc B H3) 35 4 = xE (zyEl zymc B H2) 35 4 := xFr_E hf3 rfl
          have d36 : ∀ i, xE (zyEl zymc B H3) 36 i = xE (zyEl zymc B H2) 36 i := fun i => xFr_E hf3 rfl
          unfold xΨfrp17 at hΨ3
          rw [hE20] at hΨ3
          have hr01 : r = 0 ∨ r = 1 := xOut17_r (hΨ3 S0 hS0)
          refine ⟨⟨10, by decide⟩, [0, 0], [0, 0, r], rfl, ⟨by decide +kernel, ⟨rfl, by decide +kernel⟩, (xcs_c rfl (xcs_c rfl xcs_n)), (xe_0 (xe_0 (xe_c (by omega) (by omega) rfl xe_n))), xkq_n⟩, (by rw [if_pos rfl]; exact ⟨2, [], rfl, by decide, rfl, xst_n⟩), ?_, ?_⟩
          · show (zyEl zymc B s.heap) = (zyEl zymc B s.heap) ∧ ∀ p S, p ≤ xE (zyEl zymc B s.heap) 35 4 → xAD (xE (zyEl zymc B s.heap) 36) (xE (zyEl zymc B s.heap) 35 4) p (zyEl zymc B s.heap) → xAb17 (zyEl zymc B s.heap) S → xOut17 (pLine (xE (zyEl zymc B s.heap) 36) (xE (zyEl zymc B s.heap) 35 4) p S) (zyEl zymc B H3) (r : Int)
            refine ⟨rfl, fun p S hp ⟨a1, a2, a3, a4⟩ hS => ?_⟩
            have w := hΨ3 S hS
            rw [a1] at w
            rw [a1, a2, a3] at n0 n1 n2 n3 y4
            unfold pLine pBody tW
            rw [n0, if_neg (by decide), n1, if_neg (by decide), n2, if_neg (by decide), n3, if_neg (by decide), y4, if_pos rfl]
            exact w
          · show 1 < 46
            omega
      · skip
        have ex := List.mem_singleton.mp hx
        subst ex
        obtain ⟨hF, hBd, hM⟩ := hXs
        have g2 : v2 2 = v 2 := hag 2 (by decide)
        have b0 : ((2147483648 : Nat) : Int) ≤ (v2 2) + 2147483648 ∧ (v2 2) + 2147483648 ≤ ((2147483648 : Nat) : Int) := xXb hBd 0 rfl
        have f0 : (v2 2) = 0 := xXf hF 0 rfl
        have e35_4 : xE (zyEl zymc B H2) 35 4 = xE (zyEl zymc B H) 35 4 := xFr_E hfr rfl
        have q35_4 : xE (zyEl zymc B H) 35 4 = xE (zyEl zymc B s.heap) 35 4 := xFr_E hFr0 rfl
        have e35_5 : xE (zyEl zymc B H2) 35 5 = xE (zyEl zymc B H) 35 5 := xFr_E hfr rfl
        have e35_6 : xE (zyEl zymc B H2) 35 6 = xE (zyEl zymc B H) 35 6 := xFr_E hfr rfl
        have e35_7 : xE (zyEl zymc B H2) 35 7 = xE (zyEl zymc B H) 35 7 := xFr_E hfr rfl
        have e35_8 : xE (zyEl zymc B H2) 35 8 = xE (zyEl zymc B H) 35 8 := xFr_E hfr rfl
        have e35_2 : xE (zyEl zymc B H2) 35 2 = xE (zyEl zymc B H) 35 2 := xFr_E hfr rfl
        have e35_3 : xE (zyEl zymc B H2) 35 3 = xE (zyEl zymc B H) 35 3 := xFr_E hfr rfl
        have e36 : ∀ i, xE (zyEl zymc B H2) 36 i = xE (zyEl zymc B H) 36 i := fun i => xFr_E hfr rfl
        have q36 : ∀ i, xE (zyEl zymc B H) 36 i = xE (zyEl zymc B s.heap) 36 i := fun i => xFr_E hFr0 rfl
        have hI : (zyEl zymc B H) = (zyEl zymc B s.heap) ∧ sW (xE (zyEl zymc B s.heap) 36) (xE (zyEl zymc B s.heap) 35 7) (xE (zyEl zymc B s.heap) 35 5) (xE (zyEl zymc B s.heap) 35 6) [115, 119, 105, 116, 99, 104] = false ∧ sW (xE (zyEl zymc B s.heap) 36) (xE (zyEl zymc B s.heap) 35 7) (xE (zyEl zymc B s.heap) 35 5) (xE (zyEl zymc B s.heap) 35 6) [98, 111, 98, 98, 105, 110] = false ∧ sW (xE (zyEl zymc B s.heap) 36) (xE (zyEl zymc B s.heap) 35 7) (xE (zyEl zymc B s.heap) 35 5) (xE (zyEl zymc B s.heap) 35 6) [115, 116, 117, 99, 107] = false ∧ sW (xE (zyEl zymc B s.heap) 36) (xE (zyEl zymc B s.heap) 35 7) (xE (zyEl zymc B s.heap) 35 5) (xE (zyEl zymc B s.heap) 35 6) [102, 114, 101, 101] = false ∧ (v 2) = if sW (xE (zyEl zymc B s.heap) 36) (xE (zyEl zymc B s.heap) 35 7) (xE (zyEl zymc B s.heap) 35 5) (xE (zyEl zymc B s.heap) 35 6) [112, 108, 97, 99, 101] = true then 1 else 0 := hInv
        have q35_5 : xE (zyEl zymc B H) 35 5 = xE (zyEl zymc B s.heap) 35 5 := by rw [hI.1]
        have q35_6 : xE (zyEl zymc B H) 35 6 = xE (zyEl zymc B s.heap) 35 6 := by rw [hI.1]
        have q35_7 : xE (zyEl zymc B H) 35 7 = xE (zyEl zymc B s.heap) 35 7 := by rw [hI.1]
        have q35_8 : xE (zyEl zymc B H) 35 8 = xE (zyEl zymc B s.heap) 35 8 := by rw [hI.1]
        have q35_2 : xE (zyEl zymc B H) 35 2 = xE (zyEl zymc B s.heap) 35 2 := by rw [hI.1]
        have q35_3 : xE (zyEl zymc B H) 35 3 = xE (zyEl zymc B s.heap) 35 3 := by rw [hI.1]
        obtain ⟨hE, n0, n1, n2, n3, i3⟩ := hI
        obtain ⟨S0, hS0⟩ := hΦ.2.1
        obtain ⟨pp, hpp, hA0⟩ := hΦ.2.2
        have n4 : sW (xE (zyEl zymc B s.heap) 36) (xE (zyEl zymc B s.heap) 35 7) (xE (zyEl zymc B s.heap) 35 5) (xE (zyEl zymc B s.heap) 35 6) [112, 108, 97, 99, 101] = false := by
          rw [Bool.eq_false_iff]
          intro h
          rw [if_pos h] at i3
          omega
        have hE20 := (xFr_n hfr).trans hE
        refine xCa hRu hIH hAt hB hv hFr (hfwwo B) (ix := 48) (ax := 1152) rfl rfl rfl hmefwwo ⟨_, rfl, rfl, by decide⟩ ⟨rfl, rfl, rfl⟩ (by decide) [] [] [] rfl ⟨rfl, rfl⟩ (by decide +kernel) xcs_n (by decide +kernel) ?_ (fun H3 r hT3 hf3 hFr3 hr3 hΨ3 => ?_)
        · show xΦ0 (xfv []) (zyEl zymc B H2)
          exact trivial
        · have hΨ3 : xΨfwwo (xfv []) (zyEl zymc B H2) (zyEl zymc B H3) r := hΨ3
          have d35_4 : xE (zyEl zymc B H3) 35 4 = xE (zyEl zymc B H2) 35 4 := xFr_E hf3 rfl
          have d35_5 : xE (zyEl zymc B H3) 35 5 = xE (zyEl zymc B H2) 35 5 := xFr_E hf3 rfl
          have d35_6 : xE (zyEl zymc B H3) 35 6 = xE (zyEl zymc B H2) 35 6 := xFr_E hf3 rfl
          have d35_7 : xE (zyEl zymc B H3) 35 7 = xE (zyEl zymc B H2) 35 7 := xFr_E hf3 rfl
          have d35_8 : xE (zyEl zymc B H3) 35 8 = xE (zyEl zymc B H2) 35 8 := xFr_E hf3 rfl
          have d35_2 : xE (zyEl zymc B H3) 35 2 = xE (zyEl zymc B H2) 35 2 := xFr_E hf3 rfl
          have d35_3 : xE (zyEl zymc B H3) 35 3 = xE (zyEl zymc B H2) 35 3 := xFr_E hf3 rfl
          have d36 : ∀ i, xE (zyEl zymc B H3) 36 i = xE (zyEl zymc B H2) 36 i := fun i => xFr_E hf3 rfl
          unfold xΨfwwo at hΨ3
          have hr01 : r = 0 ∨ r = 1 := by
            rw [hΨ3]
            split <;> omega
          have hEE3 : (zyEl zymc B H3) = (zyEl zymc B s.heap) := (xFr_n hf3).trans hE20
          rw [hE20] at hΨ3
          refine ⟨⟨11, by decide⟩, [0, 0], [0, 0, r], rfl, ⟨by decide +kernel, ⟨rfl, by decide +kernel⟩, (xcs_c rfl (xcs_c rfl xcs_n)), (xe_0 (xe_0 (xe_c (by omega) (by omega) rfl xe_n))), xkq_n⟩, (by rw [if_pos rfl]; exact ⟨2, [], rfl, by decide, rfl, xst_n⟩), ?_, ?_⟩
          · show (zyEl zymc B H3) = (zyEl zymc B s.heap) ∧ sW (xE (zyEl zymc B s.heap) 36) (xE (zyEl zymc B s.heap) 35 7) (xE (zyEl zymc B s.heap) 35 5) (xE (zyEl zymc B s.heap) 35 6) [115, 119, 105, 116, 99, 104] = false ∧ sW (xE (zyEl zymc B s.heap) 36) (xE (zyEl zymc B s.heap) 35 7) (xE (zyEl zymc B s.heap) 35 5) (xE (zyEl zymc B s.heap) 35 6) [98, 111, 98, 98, 105, 110] = false ∧ sW (xE (zyEl zymc B s.heap) 36) (xE (zyEl zymc B s.heap) 35 7) (xE (zyEl zymc B s.heap) 35 5) (xE (zyEl zymc B s.heap) 35 6) [115, 116, 117, 99, 107] = false ∧ sW (xE (zyEl zymc B s.heap) 36) (xE (zyEl zymc B s.heap) 35 7) (xE (zyEl zymc B s.heap) 35 5) (xE (zyEl zymc B s.heap) 35 6) [102, 114, 101, 101] = false ∧ sW (xE (zyEl zymc B s.heap) 36) (xE (zyEl zymc B s.heap) 35 7) (xE (zyEl zymc B s.heap) 35 5) (xE (zyEl zymc B s.heap) 35 6) [112, 108, 97, 99, 101] = false ∧ (r : Int) = if sW (xE (zyEl zymc B s.heap) 36) (xE (zyEl zymc B s.heap) 35 7) (xE (zyEl zymc B s.heap) 35 5) (xE (zyEl zymc B s.heap) 35 6) [119, 111, 114, 100] = true then 1 else 0
            exact ⟨hEE3, n0, n1, n2, n3, n4, hΨ3⟩
          · show 45 < 46
            omega
    · cases hx
    · have hx : x ∈ [zxfrl17_w5x0] := hx
      have hag : ∀ k, k < 3 → v2 k = v k := hag
      have hfr : xFr [(35, 2, 3)] _ _ := hfr
      have ex := List.mem_singleton.mp hx
      subst ex
      obtain ⟨hF, hBd, hM⟩ := hXs
      have g2 : v2 2 = v 2 := hag 2 (by decide)
      have b0 : ((2147483649 : Nat) : Int) ≤ (v2 2) + 2147483648 ∧ (v2 2) + 2147483648 ≤ ((2147483649 : Nat) : Int) := xXb hBd 0 rfl
      have f0 : ¬ (v2 2) = 0 := xXf hF 0 rfl
      have e35_4 : xE (zyEl zymc B H2) 35 4 = xE (zyEl zymc B H) 35 4 := xFr_E hfr rfl
      have q35_4 : xE (zyEl zymc B H) 35 4 = xE (zyEl zymc B s.heap) 35 4 := xFr_E hFr0 rfl
      have e35_5 : xE (zyEl zymc B H2) 35 5 = xE (zyEl zymc B H) 35 5 := xFr_E hfr rfl
      have e35_6 : xE (zyEl zymc B H2) 35 6 = xE (zyEl zymc B H) 35 6 := xFr_E hfr rfl
      have e35_7 : xE (zyEl zymc B H2) 35 7 = xE (zyEl zymc B H) 35 7 := xFr_E hfr rfl
      have e35_8 : xE (zyEl zymc B H2) 35 8 = xE (zyEl zymc B H) 35 8 := xFr_E hfr rfl
      have e36 : ∀ i, xE (zyEl zymc B H2) 36 i = xE (zyEl zymc B H) 36 i := fun i => xFr_E hfr rfl
      have q36 : ∀ i, xE (zyEl zymc B H) 36 i = xE (zyEl zymc B s.heap) 36 i := fun i => xFr_E hFr0 rfl
      have hI : (zyEl zymc B H) = (zyEl zymc B s.heap) ∧ sW (xE (zyEl zymc B s.heap) 36) (xE (zyEl zymc B s.heap) 35 7) (xE (zyEl zymc B s.heap) 35 5) (xE (zyEl zymc B s.heap) 35 6) [115, 119, 105, 116, 99, 104] = false ∧ sW (xE (zyEl zymc B s.heap) 36) (xE (zyEl zymc B s.heap) 35 7) (xE (zyEl zymc B s.heap) 35 5) (xE (zyEl zymc B s.heap) 35 6) [98, 111, 98, 98, 105, 110] = false ∧ sW (xE (zyEl zymc B s.heap) 36) (xE (zyEl zymc B s.heap) 35 7) (xE (zyEl zymc B s.heap) 35 5) (xE (zyEl zymc B s.heap) 35 6) [115, 116, 117, 99, 107] = false ∧ sW (xE (zyEl zymc B s.heap) 36) (xE (zyEl zymc B s.heap) 35 7) (xE (zyEl zymc B s.heap) 35 5) (xE (zyEl zymc B s.heap) 35 6) [102, 114, 101, 101] = false ∧ sW (xE (zyEl zymc B s.heap) 36) (xE (zyEl zymc B s.heap) 35 7) (xE (zyEl zymc B s.heap) 35 5) (xE (zyEl zymc B s.heap) 35 6) [112, 108, 97, 99, 101] = false ∧ (v 2) = if sW (xE (zyEl zymc B s.heap) 36) (xE (zyEl zymc B s.heap) 35 7) (xE (zyEl zymc B s.heap) 35 5) (xE (zyEl zymc B s.heap) 35 6) [119, 111, 114, 100] = true then 1 else 0 := hInv
      have q35_5 : xE (zyEl zymc B H) 35 5 = xE (zyEl zymc B s.heap) 35 5 := by rw [hI.1]
      have q35_6 : xE (zyEl zymc B H) 35 6 = xE (zyEl zymc B s.heap) 35 6 := by rw [hI.1]
      have q35_7 : xE (zyEl zymc B H) 35 7 = xE (zyEl zymc B s.heap) 35 7 := by rw [hI.1]
      have q35_8 : xE (zyEl zymc B H) 35 8 = xE (zyEl zymc B s.heap) 35 8 := by rw [hI.1]
      have q35_2 : xE (zyEl zymc B H) 35 2 = xE (zyEl zymc B s.heap) 35 2 := by rw [hI.1]
      have q35_3 : xE (zyEl zymc B H) 35 3 = xE (zyEl zymc B s.heap) 35 3 := by rw [hI.1]
      obtain ⟨hE, n0, n1, n2, n3, n4, i3⟩ := hI
      obtain ⟨S0, hS0⟩ := hΦ.2.1
      obtain ⟨pp, hpp, hA0⟩ := hΦ.2.2
      have y5 : sW (xE (zyEl zymc B s.heap) 36) (xE (zyEl zymc B s.heap) 35 7) (xE (zyEl zymc B s.heap) 35 5) (xE (zyEl zymc B s.heap) 35 6) [119, 111, 114, 100] = true := by
        by_cases h : sW (xE (zyEl zymc B s.heap) 36) (xE (zyEl zymc B s.heap) 35 7) (xE (zyEl zymc B s.heap) 35 5) (xE (zyEl zymc B s.heap) 35 6) [119, 111, 114, 100] = true
        · exact h
        · rw [if_neg h] at i3
          omega
      have hE20 : xFr [(35, 2, 3)] (zyEl zymc B s.heap) (zyEl zymc B H2) := by rw [← hE]; exact hfr
      have tt : xE (zyEl zymc B H2) 36 = xE (zyEl zymc B s.heap) 36 := funext fun i => xFr_E hE20 rfl
      have tn : xE (zyEl zymc B H2) 35 4 = xE (zyEl zymc B s.heap) 35 4 := xFr_E hE20 rfl
      have t6 : xE (zyEl zymc B H2) 35 6 = xE (zyEl zymc B s.heap) 35 6 := xFr_E hE20 rfl
      have hab : ∀ S, xAb17 (zyEl zymc B s.heap) S → xAb17 (zyEl zymc B H2) S := fun S hS => xAb17_35 hS (xFr_mono (by decide) hE20)
      refine xCa hRu hIH hAt hB hv hFr (hfrw17 B) (ix := 103) (ax := 1072) rfl rfl rfl hmefrw17 ⟨_, rfl, rfl, by decide⟩ ⟨rfl, rfl, rfl⟩ (by decide) [] [] [] rfl ⟨rfl, rfl⟩ (by decide +kernel) xcs_n (by decide +kernel) ?_ (fun H3 r hT3 hf3 hFr3 hr3 hΨ3 => ?_)
      · show xΦrd17 (xfv []) (zyEl zymc B H2)
        exact ⟨by rw [t6, tn]; exact hΦ.1, S0, hab S0 hS0⟩
      · have hΨ3 : xΨfrw17 (xfv []) (zyEl zymc B H2) (zyEl zymc B H3) r := hΨ3
        have d35_4 : xE (zyEl zymc B H3) 35 4 = xE (zyEl zymc B H2) 35 4 := xFr_E hf3 rfl
        have d36 : ∀ i, xE (zyEl zymc B H3) 36 i = xE (zyEl zymc B H2) 36 i := fun i => xFr_E hf3 rfl
        unfold xΨfrw17 at hΨ3
        rw [tt, tn, t6] at hΨ3
        have hr01 : r = 0 ∨ r = 1 := xOut17_r (hΨ3 S0 (hab S0 hS0))
        refine ⟨⟨12, by decide⟩, [0, 0], [0, 0, r], rfl, ⟨by decide +kernel, ⟨rfl, by decide +kernel⟩, (xcs_c rfl (xcs_c rfl xcs_n)), (xe_0 (xe_0 (xe_c (by omega) (by omega) rfl xe_n))), xkq_n⟩, (by rw [if_pos rfl]; exact ⟨2, [], rfl, by decide, rfl, xst_n⟩), ?_, ?_⟩
        · show (zyEl zymc B s.heap) = (zyEl zymc B s.heap) ∧ ∀ p S, p ≤ xE (zyEl zymc B s.heap) 35 4 → xAD (xE (zyEl zymc B s.heap) 36) (xE (zyEl zymc B s.heap) 35 4) p (zyEl zymc B s.heap) → xAb17 (zyEl zymc B s.heap) S → xOut17 (pLine (xE (zyEl zymc B s.heap) 36) (xE (zyEl zymc B s.heap) 35 4) p S) (zyEl zymc B H3) (r : Int)
          refine ⟨rfl, fun p S hp ⟨a1, a2, a3, a4⟩ hS => ?_⟩
          have w := hΨ3 S (hab S hS)
          rw [a1] at w
          rw [a1, a2, a3] at n0 n1 n2 n3 n4 y5
          unfold pLine pBody tW
          rw [n0, if_neg (by decide), n1, if_neg (by decide), n2, if_neg (by decide), n3, if_neg (by decide), n4, if_neg (by decide), y5, if_pos rfl]
          exact w
        · show 1 < 45
          omega
    · cases hx
  · intro x0 E0 E E2 hrx hT0 hΦ i v hT hrv hInv hKc hFr0 x hx v2 hr2 hXs hag hfr hFr hT2
    rcases i with ⟨i, hi⟩
    have hi2 : i = 0 ∨ i = 1 ∨ i = 2 ∨ i = 3 ∨ i = 4 ∨ i = 5 ∨ i = 6 ∨ i = 7 ∨ i = 8 ∨ i = 9 ∨ i = 10 ∨ i = 11 ∨ i = 12 := by omega
    rcases hi2 with rfl | rfl | rfl | rfl | rfl | rfl | rfl | rfl | rfl | rfl | rfl | rfl | rfl
    · cases hx
    · cases hx
    · have hx : x ∈ [zxfrl17_r0r0] := hx
      have hag : ∀ k, k < 3 → v2 k = v k := hag
      have hfr : xFr [] _ _ := hfr
      have ex := List.mem_singleton.mp hx
      subst ex
      obtain ⟨hF, hBd, hM⟩ := hXs
      have g2 : v2 2 = v 2 := hag 2 (by decide)
      have b0 : ((2147483648 : Nat) : Int) ≤ (v2 2) + 2147483648 ∧ (v2 2) + 2147483648 ≤ ((2147483649 : Nat) : Int) := xXb hBd 0 rfl
      have e35_4 : xE E2 35 4 = xE E 35 4 := xFr_E hfr rfl
      have q35_4 : xE E 35 4 = xE E0 35 4 := xFr_E hFr0 rfl
      have e35_5 : xE E2 35 5 = xE E 35 5 := xFr_E hfr rfl
      have e35_6 : xE E2 35 6 = xE E 35 6 := xFr_E hfr rfl
      have e35_7 : xE E2 35 7 = xE E 35 7 := xFr_E hfr rfl
      have e35_8 : xE E2 35 8 = xE E 35 8 := xFr_E hfr rfl
      have e35_2 : xE E2 35 2 = xE E 35 2 := xFr_E hfr rfl
      have e35_3 : xE E2 35 3 = xE E 35 3 := xFr_E hfr rfl
      have e36 : ∀ i, xE E2 36 i = xE E 36 i := fun i => xFr_E hfr rfl
      have q36 : ∀ i, xE E 36 i = xE E0 36 i := fun i => xFr_E hFr0 rfl
      have hI : E0 = E0 ∧ ∀ p S, p ≤ xE E0 35 4 → xAD (xE E0 36) (xE E0 35 4) p E0 → xAb17 E0 S → xOut17 (pLine (xE E0 36) (xE E0 35 4) p S) E (v 2) := hInv
      show xΨfrl17 x0 E0 E2 (v2 2)
      have hE2 := xFr_n hfr
      subst hE2
      intro p S hp hA hS
      have w := hI.2 p S hp hA hS
      rw [show (v 2) = v2 2 by omega] at w
      exact w
    · cases hx
    · have hx : x ∈ [zxfrl17_r1r0] := hx
      have hag : ∀ k, k < 3 → v2 k = v k := hag
      have hfr : xFr [] _ _ := hfr
      have ex := List.mem_singleton.mp hx
      subst ex
      obtain ⟨hF, hBd, hM⟩ := hXs
      have g2 : v2 2 = v 2 := hag 2 (by decide)
      have b0 : ((2147483648 : Nat) : Int) ≤ (v2 2) + 2147483648 ∧ (v2 2) + 2147483648 ≤ ((2147483649 : Nat) : Int) := xXb hBd 0 rfl
      have e35_4 : xE E2 35 4 = xE E 35 4 := xFr_E hfr rfl
      have q35_4 : xE E 35 4 = xE E0 35 4 := xFr_E hFr0 rfl
      have e35_5 : xE E2 35 5 = xE E 35 5 := xFr_E hfr rfl
      have e35_6 : xE E2 35 6 = xE E 35 6 := xFr_E hfr rfl
      have e35_7 : xE E2 35 7 = xE E 35 7 := xFr_E hfr rfl
      have e35_8 : xE E2 35 8 = xE E 35 8 := xFr_E hfr rfl
      have e35_2 : xE E2 35 2 = xE E 35 2 := xFr_E hfr rfl
      have e35_3 : xE E2 35 3 = xE E 35 3 := xFr_E hfr rfl
      have e36 : ∀ i, xE E2 36 i = xE E 36 i := fun i => xFr_E hfr rfl
      have q36 : ∀ i, xE E 36 i = xE E0 36 i := fun i => xFr_E hFr0 rfl
      have hI : E0 = E0 ∧ ∀ p S, p ≤ xE E0 35 4 → xAD (xE E0 36) (xE E0 35 4) p E0 → xAb17 E0 S → xOut17 (pLine (xE E0 36) (xE E0 35 4) p S) E (v 2) := hInv
      show xΨfrl17 x0 E0 E2 (v2 2)
      have hE2 := xFr_n hfr
      subst hE2
      intro p S hp hA hS
      have w := hI.2 p S hp hA hS
      rw [show (v 2) = v2 2 by omega] at w
      exact w
    · cases hx
    · have hx : x ∈ [zxfrl17_r2r0] := hx
      have hag : ∀ k, k < 3 → v2 k = v k := hag
      have hfr : xFr [] _ _ := hfr
      have ex := List.mem_singleton.mp hx
      subst ex
      obtain ⟨hF, hBd, hM⟩ := hXs
      have g2 : v2 2 = v 2 := hag 2 (by decide)
      have b0 : ((2147483648 : Nat) : Int) ≤ (v2 2) + 2147483648 ∧ (v2 2) + 2147483648 ≤ ((2147483649 : Nat) : Int) := xXb hBd 0 rfl
      have e35_4 : xE E2 35 4 = xE E 35 4 := xFr_E hfr rfl
      have q35_4 : xE E 35 4 = xE E0 35 4 := xFr_E hFr0 rfl
      have e35_5 : xE E2 35 5 = xE E 35 5 := xFr_E hfr rfl
      have e35_6 : xE E2 35 6 = xE E 35 6 := xFr_E hfr rfl
      have e35_7 : xE E2 35 7 = xE E 35 7 := xFr_E hfr rfl
      have e35_8 : xE E2 35 8 = xE E 35 8 := xFr_E hfr rfl
      have e35_2 : xE E2 35 2 = xE E 35 2 := xFr_E hfr rfl
      have e35_3 : xE E2 35 3 = xE E 35 3 := xFr_E hfr rfl
      have e36 : ∀ i, xE E2 36 i = xE E 36 i := fun i => xFr_E hfr rfl
      have q36 : ∀ i, xE E 36 i = xE E0 36 i := fun i => xFr_E hFr0 rfl
      have hI : E0 = E0 ∧ ∀ p S, p ≤ xE E0 35 4 → xAD (xE E0 36) (xE E0 35 4) p E0 → xAb17 E0 S → xOut17 (pLine (xE E0 36) (xE E0 35 4) p S) E (v 2) := hInv
      show xΨfrl17 x0 E0 E2 (v2 2)
      have hE2 := xFr_n hfr
      subst hE2
      intro p S hp hA hS
      have w := hI.2 p S hp hA hS
      rw [show (v 2) = v2 2 by omega] at w
      exact w
    · cases hx
    · have hx : x ∈ [zxfrl17_r3r0] := hx
      have hag : ∀ k, k < 3 → v2 k = v k := hag
      have hfr : xFr [] _ _ := hfr
      have ex := List.mem_singleton.mp hx
      subst ex
      obtain ⟨hF, hBd, hM⟩ := hXs
      have g2 : v2 2 = v 2 := hag 2 (by decide)
      have b0 : ((2147483648 : Nat) : Int) ≤ (v2 2) + 2147483648 ∧ (v2 2) + 2147483648 ≤ ((2147483649 : Nat) : Int) := xXb hBd 0 rfl
      have e35_4 : xE E2 35 4 = xE E 35 4 := xFr_E hfr rfl
      have q35_4 : xE E 35 4 = xE E0 35 4 := xFr_E hFr0 rfl
      have e35_5 : xE E2 35 5 = xE E 35 5 := xFr_E hfr rfl
      have e35_6 : xE E2 35 6 = xE E 35 6 := xFr_E hfr rfl
      have e35_7 : xE E2 35 7 = xE E 35 7 := xFr_E hfr rfl
      have e35_8 : xE E2 35 8 = xE E 35 8 := xFr_E hfr rfl
      have e35_2 : xE E2 35 2 = xE E 35 2 := xFr_E hfr rfl
      have e35_3 : xE E2 35 3 = xE E 35 3 := xFr_E hfr rfl
      have e36 : ∀ i, xE E2 36 i = xE E 36 i := fun i => xFr_E hfr rfl
      have q36 : ∀ i, xE E 36 i = xE E0 36 i := fun i => xFr_E hFr0 rfl
      have hI : E0 = E0 ∧ ∀ p S, p ≤ xE E0 35 4 → xAD (xE E0 36) (xE E0 35 4) p E0 → xAb17 E0 S → xOut17 (pLine (xE E0 36) (xE E0 35 4) p S) E (v 2) := hInv
      show xΨfrl17 x0 E0 E2 (v2 2)
      have hE2 := xFr_n hfr
      subst hE2
      intro p S hp hA hS
      have w := hI.2 p S hp hA hS
      rw [show (v 2) = v2 2 by omega] at w
      exact w
    · cases hx
    · have hx : x ∈ [zxfrl17_r4r0] := hx
      have hag : ∀ k, k < 3 → v2 k = v k := hag
      have hfr : xFr [] _ _ := hfr
      have ex := List.mem_singleton.mp hx
      subst ex
      obtain ⟨hF, hBd, hM⟩ := hXs
      have g2 : v2 2 = v 2 := hag 2 (by decide)
      have b0 : ((2147483648 : Nat) : Int) ≤ (v2 2) + 2147483648 ∧ (v2 2) + 2147483648 ≤ ((2147483649 : Nat) : Int) := xXb hBd 0 rfl
      have e35_4 : xE E2 35 4 = xE E 35 4 := xFr_E hfr rfl
      have q35_4 : xE E 35 4 = xE E0 35 4 := xFr_E hFr0 rfl
      have e35_5 : xE E2 35 5 = xE E 35 5 := xFr_E hfr rfl
      have e35_6 : xE E2 35 6 = xE E 35 6 := xFr_E hfr rfl
      have e35_7 : xE E2 35 7 = xE E 35 7 := xFr_E hfr rfl
      have e35_8 : xE E2 35 8 = xE E 35 8 := xFr_E hfr rfl
      have e35_2 : xE E2 35 2 = xE E 35 2 := xFr_E hfr rfl
      have e35_3 : xE E2 35 3 = xE E 35 3 := xFr_E hfr rfl
      have e36 : ∀ i, xE E2 36 i = xE E 36 i := fun i => xFr_E hfr rfl
      have q36 : ∀ i, xE E 36 i = xE E0 36 i := fun i => xFr_E hFr0 rfl
      have hI : E0 = E0 ∧ ∀ p S, p ≤ xE E0 35 4 → xAD (xE E0 36) (xE E0 35 4) p E0 → xAb17 E0 S → xOut17 (pLine (xE E0 36) (xE E0 35 4) p S) E (v 2) := hInv
      show xΨfrl17 x0 E0 E2 (v2 2)
      have hE2 := xFr_n hfr
      subst hE2
      intro p S hp hA hS
      have w := hI.2 p S hp hA hS
      rw [show (v 2) = v2 2 by omega] at w
      exact w
    · have hx : x ∈ [zxfrl17_w5r0, zxfrl17_w5r1, zxfrl17_w5r2] := hx
      have hag : ∀ k, k < 3 → v2 k = v k := hag
      have hfr : xFr [(35, 2, 3)] _ _ := hfr
      rcases List.mem_cons.mp hx with ex | hx
      · subst ex
        obtain ⟨hF, hBd, hM⟩ := hXs
        have g2 : v2 2 = v 2 := hag 2 (by decide)
        have b0 : ((2147483648 : Nat) : Int) ≤ (v2 2) + 2147483648 ∧ (v2 2) + 2147483648 ≤ ((2147483648 : Nat) : Int) := xXb hBd 0 rfl
        have b1 : ((2147483650 : Nat) : Int) ≤ (v2 3) + 2147483648 ∧ (v2 3) + 2147483648 ≤ ((2147483653 : Nat) : Int) := xXb hBd 1 rfl
        have b2 : ((2147483648 : Nat) : Int) ≤ (v2 4) + 2147483648 ∧ (v2 4) + 2147483648 ≤ ((2147484548 : Nat) : Int) := xXb hBd 2 rfl
        have f0 : (v2 2) = 0 := xXf hF 0 rfl
        have f1 : (0 : Int) ≤ 7 ∧ xE E 35 7 = (v2 3) := xXf hF 1 rfl
        have f2 : ¬ (v2 3) = 1 := xXf hF 2 rfl
        have f3 : (0 : Int) ≤ 5 ∧ xE E 35 5 = (v2 4) := xXf hF 3 rfl
        have m0 : xE E2 35 2 = 2 := xXm hM 0 rfl
        have m1 : xE E2 35 3 = (v2 4) := xXm hM 1 rfl
        have e35_4 : xE E2 35 4 = xE E 35 4 := xFr_E hfr rfl
        have q35_4 : xE E 35 4 = xE E0 35 4 := xFr_E hFr0 rfl
        have e35_5 : xE E2 35 5 = xE E 35 5 := xFr_E hfr rfl
        have e35_6 : xE E2 35 6 = xE E 35 6 := xFr_E hfr rfl
        have e35_7 : xE E2 35 7 = xE E 35 7 := xFr_E hfr rfl
        have e35_8 : xE E2 35 8 = xE E 35 8 := xFr_E hfr rfl
        have e36 : ∀ i, xE E2 36 i = xE E 36 i := fun i => xFr_E hfr rfl
        have q36 : ∀ i, xE E 36 i = xE E0 36 i := fun i => xFr_E hFr0 rfl
        have hI : E = E0 ∧ sW (xE E0 36) (xE E0 35 7) (xE E0 35 5) (xE E0 35 6) [115, 119, 105, 116, 99, 104] = false ∧ sW (xE E0 36) (xE E0 35 7) (xE E0 35 5) (xE E0 35 6) [98, 111, 98, 98, 105, 110] = false ∧ sW (xE E0 36) (xE E0 35 7) (xE E0 35 5) (xE E0 35 6) [115, 116, 117, 99, 107] = false ∧ sW (xE E0 36) (xE E0 35 7) (xE E0 35 5) (xE E0 35 6) [102, 114, 101, 101] = false ∧ sW (xE E0 36) (xE E0 35 7) (xE E0 35 5) (xE E0 35 6) [112, 108, 97, 99, 101] = false ∧ (v 2) = if sW (xE E0 36) (xE E0 35 7) (xE E0 35 5) (xE E0 35 6) [119, 111, 114, 100] = true then 1 else 0 := hInv
        have q35_5 : xE E 35 5 = xE E0 35 5 := by rw [hI.1]
        have q35_6 : xE E 35 6 = xE E0 35 6 := by rw [hI.1]
        have q35_7 : xE E 35 7 = xE E0 35 7 := by rw [hI.1]
        have q35_8 : xE E 35 8 = xE E0 35 8 := by rw [hI.1]
        have q35_2 : xE E 35 2 = xE E0 35 2 := by rw [hI.1]
        have q35_3 : xE E 35 3 = xE E0 35 3 := by rw [hI.1]
        show xΨfrl17 x0 E0 E2 0
        obtain ⟨hE, n0, n1, n2, n3, n4, i3⟩ := hI
        obtain ⟨S0, hS0⟩ := hΦ.2.1
        obtain ⟨pp, hpp, hA0⟩ := hΦ.2.2
        have n5 : sW (xE E0 36) (xE E0 35 7) (xE E0 35 5) (xE E0 35 6) [119, 111, 114, 100] = false := by
          rw [Bool.eq_false_iff]
          intro h
          rw [if_pos h] at i3
          omega
        subst hE
        intro p S hp ⟨a1, a2, a3, a4⟩ hS
        have hm : pMis (xE E 36) (xE E 35 4) p = 2 := by unfold pMis; rw [if_neg (by omega)]
        rw [a1, a2, a3] at n0 n1 n2 n3 n4 n5
        unfold pLine pBody tW
        rw [n0, if_neg (by decide), n1, if_neg (by decide), n2, if_neg (by decide), n3, if_neg (by decide), n4, if_neg (by decide), n5, if_neg (by decide), hm]
        exact xOut17_e rfl (by omega) (by omega)
      · skip
        rcases List.mem_cons.mp hx with ex | hx
        · subst ex
          obtain ⟨hF, hBd, hM⟩ := hXs
          have g2 : v2 2 = v 2 := hag 2 (by decide)
          have b0 : ((2147483648 : Nat) : Int) ≤ (v2 2) + 2147483648 ∧ (v2 2) + 2147483648 ≤ ((2147483648 : Nat) : Int) := xXb hBd 0 rfl
          have b1 : ((2147483648 : Nat) : Int) ≤ (v2 3) + 2147483648 ∧ (v2 3) + 2147483648 ≤ ((2147483648 : Nat) : Int) := xXb hBd 1 rfl
          have b2 : ((2147483648 : Nat) : Int) ≤ (v2 4) + 2147483648 ∧ (v2 4) + 2147483648 ≤ ((2147484548 : Nat) : Int) := xXb hBd 2 rfl
          have f0 : (v2 2) = 0 := xXf hF 0 rfl
          have f1 : (0 : Int) ≤ 7 ∧ xE E 35 7 = (v2 3) := xXf hF 1 rfl
          have f2 : ¬ (v2 3) = 1 := xXf hF 2 rfl
          have f3 : (0 : Int) ≤ 5 ∧ xE E 35 5 = (v2 4) := xXf hF 3 rfl
          have m0 : xE E2 35 2 = 2 := xXm hM 0 rfl
          have m1 : xE E2 35 3 = (v2 4) := xXm hM 1 rfl
          have e35_4 : xE E2 35 4 = xE E 35 4 := xFr_E hfr rfl
          have q35_4 : xE E 35 4 = xE E0 35 4 := xFr_E hFr0 rfl
          have e35_5 : xE E2 35 5 = xE E 35 5 := xFr_E hfr rfl
          have e35_6 : xE E2 35 6 = xE E 35 6 := xFr_E hfr rfl
          have e35_7 : xE E2 35 7 = xE E 35 7 := xFr_E hfr rfl
          have e35_8 : xE E2 35 8 = xE E 35 8 := xFr_E hfr rfl
          have e36 : ∀ i, xE E2 36 i = xE E 36 i := fun i => xFr_E hfr rfl
          have q36 : ∀ i, xE E 36 i = xE E0 36 i := fun i => xFr_E hFr0 rfl
          have hI : E = E0 ∧ sW (xE E0 36) (xE E0 35 7) (xE E0 35 5) (xE E0 35 6) [115, 119, 105, 116, 99, 104] = false ∧ sW (xE E0 36) (xE E0 35 7) (xE E0 35 5) (xE E0 35 6) [98, 111, 98, 98, 105, 110] = false ∧ sW (xE E0 36) (xE E0 35 7) (xE E0 35 5) (xE E0 35 6) [115, 116, 117, 99, 107] = false ∧ sW (xE E0 36) (xE E0 35 7) (xE E0 35 5) (xE E0 35 6) [102, 114, 101, 101] = false ∧ sW (xE E0 36) (xE E0 35 7) (xE E0 35 5) (xE E0 35 6) [112, 108, 97, 99, 101] = false ∧ (v 2) = if sW (xE E0 36) (xE E0 35 7) (xE E0 35 5) (xE E0 35 6) [119, 111, 114, 100] = true then 1 else 0 := hInv
          have q35_5 : xE E 35 5 = xE E0 35 5 := by rw [hI.1]
          have q35_6 : xE E 35 6 = xE E0 35 6 := by rw [hI.1]
          have q35_7 : xE E 35 7 = xE E0 35 7 := by rw [hI.1]
          have q35_8 : xE E 35 8 = xE E0 35 8 := by rw [hI.1]
          have q35_2 : xE E 35 2 = xE E0 35 2 := by rw [hI.1]
          have q35_3 : xE E 35 3 = xE E0 35 3 := by rw [hI.1]
          show xΨfrl17 x0 E0 E2 0
          obtain ⟨hE, n0, n1, n2, n3, n4, i3⟩ := hI
          obtain ⟨S0, hS0⟩ := hΦ.2.1
          obtain ⟨pp, hpp, hA0⟩ := hΦ.2.2
          have n5 : sW (xE E0 36) (xE E0 35 7) (xE E0 35 5) (xE E0 35 6) [119, 111, 114, 100] = false := by
            rw [Bool.eq_false_iff]
            intro h
            rw [if_pos h] at i3
            omega
          subst hE
          intro p S hp ⟨a1, a2, a3, a4⟩ hS
          have hm : pMis (xE E 36) (xE E 35 4) p = 2 := by unfold pMis; rw [if_neg (by omega)]
          rw [a1, a2, a3] at n0 n1 n2 n3 n4 n5
          unfold pLine pBody tW
          rw [n0, if_neg (by decide), n1, if_neg (by decide), n2, if_neg (by decide), n3, if_neg (by decide), n4, if_neg (by decide), n5, if_neg (by decide), hm]
          exact xOut17_e rfl (by omega) (by omega)
        · skip
          have ex := List.mem_singleton.mp hx
          subst ex
          obtain ⟨hF, hBd, hM⟩ := hXs
          have g2 : v2 2 = v 2 := hag 2 (by decide)
          have b0 : ((2147483648 : Nat) : Int) ≤ (v2 2) + 2147483648 ∧ (v2 2) + 2147483648 ≤ ((2147483648 : Nat) : Int) := xXb hBd 0 rfl
          have b1 : ((2147483649 : Nat) : Int) ≤ (v2 3) + 2147483648 ∧ (v2 3) + 2147483648 ≤ ((2147483649 : Nat) : Int) := xXb hBd 1 rfl
          have b2 : ((2147483648 : Nat) : Int) ≤ (v2 4) + 2147483648 ∧ (v2 4) + 2147483648 ≤ ((2147484548 : Nat) : Int) := xXb hBd 2 rfl
          have f0 : (v2 2) = 0 := xXf hF 0 rfl
          have f1 : (0 : Int) ≤ 7 ∧ xE E 35 7 = (v2 3) := xXf hF 1 rfl
          have f2 : (v2 3) = 1 := xXf hF 2 rfl
          have f3 : (0 : Int) ≤ 5 ∧ xE E 35 5 = (v2 4) := xXf hF 3 rfl
          have m0 : xE E2 35 2 = 1 := xXm hM 0 rfl
          have m1 : xE E2 35 3 = (v2 4) := xXm hM 1 rfl
          have e35_4 : xE E2 35 4 = xE E 35 4 := xFr_E hfr rfl
          have q35_4 : xE E 35 4 = xE E0 35 4 := xFr_E hFr0 rfl
          have e35_5 : xE E2 35 5 = xE E 35 5 := xFr_E hfr rfl
          have e35_6 : xE E2 35 6 = xE E 35 6 := xFr_E hfr rfl
          have e35_7 : xE E2 35 7 = xE E 35 7 := xFr_E hfr rfl
          have e35_8 : xE E2 35 8 = xE E 35 8 := xFr_E hfr rfl
          have e36 : ∀ i, xE E2 36 i = xE E 36 i := fun i => xFr_E hfr rfl
          have q36 : ∀ i, xE E 36 i = xE E0 36 i := fun i => xFr_E hFr0 rfl
          have hI : E = E0 ∧ sW (xE E0 36) (xE E0 35 7) (xE E0 35 5) (xE E0 35 6) [115, 119, 105, 116, 99, 104] = false ∧ sW (xE E0 36) (xE E0 35 7) (xE E0 35 5) (xE E0 35 6) [98, 111, 98, 98, 105, 110] = false ∧ sW (xE E0 36) (xE E0 35 7) (xE E0 35 5) (xE E0 35 6) [115, 116, 117, 99, 107] = false ∧ sW (xE E0 36) (xE E0 35 7) (xE E0 35 5) (xE E0 35 6) [102, 114, 101, 101] = false ∧ sW (xE E0 36) (xE E0 35 7) (xE E0 35 5) (xE E0 35 6) [112, 108, 97, 99, 101] = false ∧ (v 2) = if sW (xE E0 36) (xE E0 35 7) (xE E0 35 5) (xE E0 35 6) [119, 111, 114, 100] = true then 1 else 0 := hInv
          have q35_5 : xE E 35 5 = xE E0 35 5 := by rw [hI.1]
          have q35_6 : xE E 35 6 = xE E0 35 6 := by rw [hI.1]
          have q35_7 : xE E 35 7 = xE E0 35 7 := by rw [hI.1]
          have q35_8 : xE E 35 8 = xE E0 35 8 := by rw [hI.1]
          have q35_2 : xE E 35 2 = xE E0 35 2 := by rw [hI.1]
          have q35_3 : xE E 35 3 = xE E0 35 3 := by rw [hI.1]
          show xΨfrl17 x0 E0 E2 0
          obtain ⟨hE, n0, n1, n2, n3, n4, i3⟩ := hI
          obtain ⟨S0, hS0⟩ := hΦ.2.1
          obtain ⟨pp, hpp, hA0⟩ := hΦ.2.2
          have n5 : sW (xE E0 36) (xE E0 35 7) (xE E0 35 5) (xE E0 35 6) [119, 111, 114, 100] = false := by
            rw [Bool.eq_false_iff]
            intro h
            rw [if_pos h] at i3
            omega
          subst hE
          intro p S hp ⟨a1, a2, a3, a4⟩ hS
          have hm : pMis (xE E 36) (xE E 35 4) p = 1 := by unfold pMis; rw [if_pos (by omega)]
          rw [a1, a2, a3] at n0 n1 n2 n3 n4 n5
          unfold pLine pBody tW
          rw [n0, if_neg (by decide), n1, if_neg (by decide), n2, if_neg (by decide), n3, if_neg (by decide), n4, if_neg (by decide), n5, if_neg (by decide), hm]
          exact xOut17_e rfl (by omega) (by omega)
    · have hx : x ∈ [zxfrl17_r5r0] := hx
      have hag : ∀ k, k < 3 → v2 k = v k := hag
      have hfr : xFr [] _ _ := hfr
      have ex := List.mem_singleton.mp hx
      subst ex
      obtain ⟨hF, hBd, hM⟩ := hXs
      have g2 : v2 2 = v 2 := hag 2 (by decide)
      have b0 : ((2147483648 : Nat) : Int) ≤ (v2 2) + 2147483648 ∧ (v2 2) + 2147483648 ≤ ((2147483649 : Nat) : Int) := xXb hBd 0 rfl
      have e35_4 : xE E2 35 4 = xE E 35 4 := xFr_E hfr rfl
      have q35_4 : xE E 35 4 = xE E0 35 4 := xFr_E hFr0 rfl
      have e35_5 : xE E2 35 5 = xE E 35 5 := xFr_E hfr rfl
      have e35_6 : xE E2 35 6 = xE E 35 6 := xFr_E hfr rfl
      have e35_7 : xE E2 35 7 = xE E 35 7 := xFr_E hfr rfl
      have e35_8 : xE E2 35 8 = xE E 35 8 := xFr_E hfr rfl
      have e35_2 : xE E2 35 2 = xE E 35 2 := xFr_E hfr rfl
      have e35_3 : xE E2 35 3 = xE E 35 3 := xFr_E hfr rfl
      have e36 : ∀ i, xE E2 36 i = xE E 36 i := fun i => xFr_E hfr rfl
      have q36 : ∀ i, xE E 36 i = xE E0 36 i := fun i => xFr_E hFr0 rfl
      have hI : E0 = E0 ∧ ∀ p S, p ≤ xE E0 35 4 → xAD (xE E0 36) (xE E0 35 4) p E0 → xAb17 E0 S → xOut17 (pLine (xE E0 36) (xE E0 35 4) p S) E (v 2) := hInv
      show xΨfrl17 x0 E0 E2 (v2 2)
      have hE2 := xFr_n hfr
      subst hE2
      intro p S hp hA hS
      have w := hI.2 p S hp hA hS
      rw [show (v 2) = v2 2 by omega] at w
      exact w
end
section
/-! HOW A TEXT IS READ: positions go on -/
section POS
variable {T : Int → Int} {n p q lo hi : Int} {S S2 : Int → Int}
theorem tNx_p (h : p ≤ n) (hk : ¬ tKd T n p = 0) : p < tNx T n p ∧ tNx T n p ≤ n := by
  have h1 := tFr_b (T := T) h
  have h2 := tNx_b (T := T) h
  have h3 : ¬ tFr T n p = n := fun z => hk ((tKd_0 h).mpr z)
  omega
theorem pSem_p (h : p ≤ n) (he : pSem T n p S = .ok (q, S2)) : p < q ∧ q ≤ n := by
  unfold pSem at he
  split at he
  · rename_i hk
    cases he
    exact tNx_p h (by omega)
  · cases he
theorem pNum_p {k : Int → Int → pR} (h : p ≤ n) (he : pNum T n p lo hi k = .ok (q, S2)) : ∃ x p2, p < p2 ∧ p2 ≤ n ∧ k x p2 = .ok (q, S2) := by
  unfold pNum at he
  split at he
  · rename_i hk
    split at he
    · have := tNx_p (T := T) h (by omega)
      exact ⟨_, _, this.1, this.2, he⟩
    · cases he
  · cases he
theorem pBits_p {g : Int} : ∀ {f : Nat} {p len b : Int}, p ≤ n → pBits T n S g f p len b = .ok (q, S2) → p ≤ q ∧ q ≤ n := by
  intro f
  induction f with
  | zero =>
    intro p len b h he
    unfold pBits at he
    split at he
    · split at he <;> cases he
    · cases he
      omega
  | succ f ih =>
    intro p len b h he
    unfold pBits at he
    split at he
    · rename_i hk
      split at he
      · have h1 := tNx_p (T := T) h (by omega)
        have := ih h1.2 he
        omega
      · cases he
    · cases he
      omega
theorem pWs_p : ∀ {f : Nat} {p : Int} {S : Int → Int}, p ≤ n → pWs T n f p S = .ok (q, S2) → p ≤ q ∧ q ≤ n := by
  intro f
  induction f with
  | zero =>
    intro p S h he
    unfold pWs at he
    split at he
    · obtain ⟨x, p2, -, -, e⟩ := pNum_p h he
      cases e
    · split at he
      · rename_i hk
        obtain ⟨x, p2, -, -, e⟩ := pNum_p (tNx_p (T := T) h (by omega)).2 he
        cases e
      · cases he
        omega
  | succ f ih =>
    intro p S h he
    unfold pWs at he
    split at he
    · obtain ⟨x, p2, h1, h2, e⟩ := pNum_p h he
      have := ih h2 e
      omega
    · split at he
      · rename_i hk
        have h3 := tNx_p (T := T) h (by omega)
        obtain ⟨x, p2, h1, h2, e⟩ := pNum_p h3.2 he
        have := ih h2 e
        omega
      · cases he
        omega
theorem pBody_p (h : p ≤ n) (hk : ¬ tKd T n p = 0) (he : pBody T n p S = .ok (q, S2)) : p ≤ q ∧ q ≤ n := by
  have h1 := tNx_p (T := T) h hk
  unfold pBody at he
  split at he
  · unfold pSwitch at he
    obtain ⟨x, p2, a1, a2, e⟩ := pNum_p h1.2 he
    obtain ⟨x, p3, b1, b2, e⟩ := pNum_p a2 e
    have := pBits_p b2 e
    omega
  · split at he
    · unfold pBobbin at he
      split at he
      · cases he
      · obtain ⟨x, p2, a1, a2, e⟩ := pNum_p h1.2 he
        split at e
        · cases e
        · cases e
          omega
    · split at he
      · unfold pStuck at he
        obtain ⟨x, p2, a1, a2, e⟩ := pNum_p h1.2 he
        have hb := tNx_b (T := T) a2
        have hb2 := tFr_b (T := T) a2
        split at e
        · cases e
          omega
        · split at e
          · cases e
            omega
          · cases e
      · split at he
        · unfold pFree at he
          split at he
          · cases he
          · obtain ⟨x, p2, a1, a2, e⟩ := pNum_p h1.2 he
            cases e
            omega
        · split at he
          · unfold pPlace at he
            obtain ⟨x, p2, a1, a2, e⟩ := pNum_p h1.2 he
            obtain ⟨x, p3, b1, b2, e⟩ := pNum_p a2 e
            cases e
            omega
          · split at he
            · have := pWs_p h1.2 he
              omega
            · cases he
theorem pBind_ok {R : pR} {k : Int → (Int → Int) → pR} (he : pBind R k = .ok (q, S2)) : ∃ p2 S3, R = .ok (p2, S3) ∧ k p2 S3 = .ok (q, S2) := by
  cases R with
  | error e => cases he
  | ok x => exact ⟨x.1, x.2, rfl, he⟩
theorem pLine_p (h : p ≤ n) (hk : ¬ tKd T n p = 0) (he : pLine T n p S = .ok (q, S2)) : p < q ∧ q ≤ n := by
  unfold pLine at he
  obtain ⟨p2, S3, h1, h2⟩ := pBind_ok he
  have a := pBody_p h hk h1
  have b := pSem_p a.2 h2
  omega
theorem pSz_p (h : 0 ≤ n) (he : pSz T n = .ok (q, S2)) : 0 < q ∧ q ≤ n := by
  unfold pSz at he
  split at he
  · rename_i hw
    have hk : ¬ tKd T n 0 = 0 := by
      unfold tW sW at hw
      simp only [Bool.and_eq_true, decide_eq_true_eq] at hw
      omega
    have h1 := tNx_p (T := T) h hk
    obtain ⟨x, p2, a1, a2, e⟩ := pNum_p h1.2 he
    obtain ⟨x, p3, b1, b2, e⟩ := pNum_p a2 e
    have := pSem_p b2 e
    omega
  · cases he
theorem pLines_0 {f : Nat} (h : tKd T n p = 0) : pLines T n f p S = .ok (p, S) := by
  cases f with
  | zero => rfl
  | succ f => exact if_pos h
theorem pLines_s {f : Nat} (h : ¬ tKd T n p = 0) : pLines T n (f + 1) p S = pBind (pLine T n p S) (pLines T n f) := if_neg h
end POS
end
section
/-! THE CLASS reads: a text (printed by m12.py) -/
noncomputable def zxfra0_ax0 : zyXp := (27, [283, 13, 11, 13], [11, 283], [], [(34359738369, 2147483648, 2147484548)], [(573441, 0), (573442, 0), (573443, 34359738360), (573444, 34359738369), (573446, 0)])
noncomputable def zpfra0_a : zyPh := (0, [283, 34359738369, 11, 13], [(0, 4294967295), (2147483648, 2147484548), (0, 4294967295), (0, 4294967295)], [], [])
noncomputable def zxfra0_bx0 : zyXp := (36, [283, 13, 11, 13], [283], [(23, 0, 137438953473, 0)], [(137438953473, 2147483649, 2147483649)], [])
noncomputable def zxfra0_br0 : zyXp := (0, [], [0], [(22, 0, 137438953473, 0)], [(137438953473, 2147483648, 2147483648)], [])
noncomputable def zpfra0_b : zyPh := (30, [283, 13, 11, 13], [(0, 4294967295), (0, 4294967295), (0, 4294967295), (0, 4294967295), (2147483648, 2147483649)], [], [137438953473])
noncomputable def zxfra0_cx0 : zyXp := (41, [283, 13, 11, 0], [], [], [], [])
noncomputable def zpfra0_c : zyPh := (39, [283, 13, 11, 13], [(0, 4294967295), (0, 4294967295), (0, 4294967295), (0, 4294967295)], [], [])
noncomputable def zxfra0_dx0 : zyXp := (57, [283, 13, 11, 103079215105], [11, 283], [(21, 0, 7200, 103079215105), (24, 137438953473, 35, 56), (23, 0, 137438953473, 0)], [(103079215105, 2147483648, 2147484548), (137438953473, 2147483649, 2147483653)], [])
noncomputable def zxfra0_dr0 : zyXp := (0, [], [8], [(20, 0, 7200, 103079215105)], [(103079215105, 2147484549, 2147484549)], [])
noncomputable def zxfra0_dr1 : zyXp := (0, [], [8], [(21, 0, 7200, 103079215105), (24, 137438953473, 35, 56), (22, 0, 137438953473, 0)], [(103079215105, 2147483648, 2147484548), (137438953473, 2147483648, 2147483648)], [])
noncomputable def zpfra0_d : zyPh := (41, [283, 13, 11, 103079215105], [(0, 4294967295), (0, 4294967295), (0, 4294967295), (2147483648, 2147484549)], [], [])
noncomputable def zxfra0_ex0 : zyXp := (66, [283, 13, 11, 103079215105], [283], [(23, 0, 137438953473, 0)], [(103079215105, 2147483648, 2147484548), (137438953473, 2147483649, 2147483649)], [])
noncomputable def zxfra0_er0 : zyXp := (0, [], [0], [(22, 0, 137438953473, 0)], [(137438953473, 2147483648, 2147483648)], [])
noncomputable def zpfra0_e : zyPh := (60, [283, 13, 11, 103079215105], [(0, 4294967295), (0, 4294967295), (0, 4294967295), (2147483648, 2147484548), (2147483648, 2147483649)], [], [137438953473])
noncomputable def zxfra0_fx0 : zyXp := (41, [283, 13, 11, 103079215113], [], [], [(103079215105, 2147483648, 2147484548), (103079215113, 2147483649, 2147484549)], [])
noncomputable def zpfra0_f : zyPh := (69, [283, 13, 11, 103079215105], [(0, 4294967295), (0, 4294967295), (0, 4294967295), (2147483648, 2147484548)], [], [])
noncomputable def zpfra0 (i : Nat) : zyPh := zif (Nat.beq i 0) (zpfra0_a) (zif (Nat.beq i 1) (zpfra0_b) (zif (Nat.beq i 2) (zpfra0_c) (zif (Nat.beq i 3) (zpfra0_d) (zif (Nat.beq i 4) (zpfra0_e) (zpfra0_f)))))
noncomputable def zXfra0 (i : Nat) : List zyXp := zif (Nat.beq i 0) ([zxfra0_ax0]) (zif (Nat.beq i 1) ([zxfra0_bx0]) (zif (Nat.beq i 2) ([zxfra0_cx0]) (zif (Nat.beq i 3) ([zxfra0_dx0]) (zif (Nat.beq i 4) ([zxfra0_ex0]) ([zxfra0_fx0])))))
noncomputable def zRfra0 (i : Nat) : List zyXp := zif (Nat.beq i 0) ([]) (zif (Nat.beq i 1) ([zxfra0_br0]) (zif (Nat.beq i 2) ([]) (zif (Nat.beq i 3) ([zxfra0_dr0, zxfra0_dr1]) (zif (Nat.beq i 4) ([zxfra0_er0]) ([])))))
noncomputable def zFfra0 (i : Nat) : zyR := zif (Nat.beq i 0) ([(35, 1, 4), (35, 6, 6)]) (zif (Nat.beq i 1) ([]) (zif (Nat.beq i 2) ([]) (zif (Nat.beq i 3) ([]) (zif (Nat.beq i 4) ([]) ([])))))
noncomputable def zSfra0 (i : Nat) : Nat := zif (Nat.beq i 0) (0) (zif (Nat.beq i 1) (0) (zif (Nat.beq i 2) (0) (zif (Nat.beq i 3) (0) (zif (Nat.beq i 4) (0) (0)))))
theorem xOut0_0 {R : pR} {E2 : zyEm} {r : Int} (h : xOut0 R E2 r) (hr : r = 0) : ∃ w a, R = .error (w, a) ∧ xE E2 35 2 = w ∧ xE E2 35 3 = a := by
  cases R with
  | error e => exact ⟨e.1, e.2, rfl, h.2⟩
  | ok x =>
    have h1 : r = 1 := h.1
    omega
theorem xOut0_1 {R : pR} {E2 : zyEm} {r : Int} (h : xOut0 R E2 r) (hr : ¬ r = 0) : ∃ p S, R = .ok (p, S) ∧ xE E2 35 6 = p ∧ xAb0 E2 S := by
  cases R with
  | error e => exact absurd h.1 hr
  | ok x => exact ⟨x.1, x.2, rfl, h.2⟩
theorem xGeo0_rl {E E2 : zyEm} {r c : Nat} (h : xGeo0 E r c) (hf : xFr [(35, 2, 3), (35, 5, 8), (1, 5, 5), (1, 8, 8), (16, 1, 1), (17, 0, 59), (10, 0, 30), (11, 0, 30), (12, 0, 30), (13, 0, 30), (14, 0, 7), (15, 0, 7)] E E2) : xGeo0 E2 r c := by
  refine ⟨fun s hs => ?_, fun g hg => ?_⟩
  · rw [(show xE E2 3 s = xE E 3 s from xFr_E hf rfl), (show xE E2 4 s = xE E 4 s from xFr_E hf rfl), (show xE E2 5 s = xE E 5 s from xFr_E hf rfl), (show xE E2 6 s = xE E 6 s from xFr_E hf rfl), (show xE E2 7 s = xE E 7 s from xFr_E hf rfl)]
    exact h.1 s hs
  · rw [(show xE E2 8 g = xE E 8 g from xFr_E hf rfl), (show xE E2 9 g = xE E 9 g from xFr_E hf rfl)]
    exact h.2 g hg
/-- what reading a text answers -/
def xOutA0 (R : pR) (E2 : zyEm) (r : Int) : Prop := match R with
  | .ok (_, S) => r = 1 ∧ xAb0 E2 S
  | .error (w, a) => r = 0 ∧ xE E2 35 2 = w ∧ xE E2 35 3 = a
def xΦra0 (x : Nat → Int) (_ : zyEm) : Prop := 0 ≤ x 0 ∧ x 0 ≤ 900
def xΨra0 (x : Nat → Int) (E E2 : zyEm) (r : Int) : Prop := xOutA0 (pAll (xE E 36) (x 0)) E2 r ∧ xJk0 E E2 ∧ (∀ p S, pAll (xE E 36) (x 0) = .ok (p, S) → xGeo0 E2 (S 0).toNat (S 1).toNat) ∧ xE E2 35 1 = 0
noncomputable def fpfra0 : zyR := [(35, 1, 8), (1, 5, 5), (1, 8, 8), (2, 0, 3), (3, 0, 79), (4, 0, 79), (5, 0, 79), (6, 0, 79), (7, 0, 79), (8, 0, 30), (9, 0, 30), (10, 0, 30), (11, 0, 30), (12, 0, 30), (13, 0, 30), (16, 1, 1), (17, 0, 59), (14, 0, 7), (15, 0, 7)]
theorem zyfra0_run : zyrS zymc zxi58 (58, 0, 0, 2, 0) 11 zpfra0 (fun _ _ => []) zFfra0 zSfra0 zXfra0 zRfra0 6 = true := by decide +kernel
theorem zyfra0_ck : zyAll (fun i => xsubR (zFfra0 i) fpfra0 && ((zXfra0 i).all xckX && (zRfra0 i).all (fun x => xckX x && xrtB true x))) 6 = true := by decide +kernel
def xIfra0 (i : Nat) (x0 : Nat → Int) (E0 : zyEm) (v : Nat → Int) (E : zyEm) : Prop := if i = 0 then (E = E0 ∧ (v 1) = x0 0) else if i = 1 then ((xE E 35 4 = x0 0 ∧ xE E 35 1 = 0) ∧ xJk0 E0 E ∧ xOut0 (pSz (xE E0 36) (x0 0)) E (v 4) ∧ ∀ p S, pSz (xE E0 36) (x0 0) = .ok (p, S) → xGeo0 E (S 0).toNat (S 1).toNat) else if i = 2 then ((xE E 35 4 = x0 0 ∧ xE E 35 1 = 0) ∧ xJk0 E0 E ∧ ∃ p S, pAll (xE E0 36) (x0 0) = pLines (xE E0 36) (x0 0) 901 p S ∧ (0 ≤ p ∧ p ≤ x0 0) ∧ xAb0 E S ∧ xGeo0 E (S 0).toNat (S 1).toNat ∧ xAD (xE E0 36) (x0 0) p E) else if i = 3 then ((0 ≤ (v 3) ∧ (v 3) ≤ 901) ∧ (xE E 35 4 = x0 0 ∧ xE E 35 1 = 0) ∧ xJk0 E0 E ∧ ∃ p S, pAll (xE E0 36) (x0 0) = pLines (xE E0 36) (x0 0) (901 - (v 3)).toNat p S ∧ ((v 3) ≤ p ∧ p ≤ x0 0) ∧ xAb0 E S ∧ xGeo0 E (S 0).toNat (S 1).toNat ∧ xAD (xE E0 36) (x0 0) p E) else if i = 4 then ((0 ≤ (v 3) ∧ (v 3) ≤ 900) ∧ (xE E 35 4 = x0 0 ∧ xE E 35 1 = 0) ∧ xJk0 E0 E ∧ ∃ p S, pAll (xE E0 36) (x0 0) = pBind (pLine (xE E0 36) (x0 0) p S) (pLines (xE E0 36) (x0 0) (900 - (v 3)).toNat) ∧ ¬ tKd (xE E0 36) (x0 0) p = 0 ∧ ((v 3) ≤ p ∧ p ≤ x0 0) ∧ xOut0 (pLine (xE E0 36) (x0 0) p S) E (v 4) ∧ xGeo0 E (S 0).toNat (S 1).toNat ∧ xE E 2 0 = S 0 ∧ xE E 2 1 = S 1) else ((0 ≤ (v 3) ∧ (v 3) ≤ 900) ∧ (xE E 35 4 = x0 0 ∧ xE E 35 1 = 0) ∧ xJk0 E0 E ∧ ∃ p S, pAll (xE E0 36) (x0 0) = pLines (xE E0 36) (x0 0) (900 - (v 3)).toNat p S ∧ ((v 3) + 1 ≤ p ∧ p ≤ x0 0) ∧ xAb0 E S ∧ xGeo0 E (S 0).toNat (S 1).toNat ∧ xAD (xE E0 36) (x0 0) p E)
def xMfra0 (i : Nat) (x0 : Nat → Int) (E0 : zyEm) (v : Nat → Int) (E : zyEm) : Nat := if i = 0 then (10000) else if i = 1 then (9999) else if i = 2 then (9998) else if i = 3 then (3 * (1000 - (v 3)).toNat + 2) else if i = 4 then (3 * (1000 - (v 3)).toNat + 1) else (3 * (1000 - (v 3)).toNat)
theorem xRa0 {l : Launch} {en : zEn} {me : zMe} (hen : zG zxMeta 58 = some en) (hme : zG zMeth 58 = some me) : ∀ B, xFq l zymc B en me 11 35 1 fpfra0 true xΦra0 xΨra0 := by
  have een : zG zxMeta 58 = some (zxi58, 3, 4, 5, 58, 0, 0, 2, 0) := rfl
  obtain ⟨me1, hme1, hOK⟩ := zall hen
  rw [hme] at hme1
  cases hme1
  rw [een] at hen
  cases hen
  have hr := zyfra0_run
  have hck := fun i hi => zyAll_iff zyfra0_ck i hi
  simp only [Bool.and_eq_true] at hck
  obtain ⟨mefad, hmefad, -⟩ := zall (show zG zxMeta 73 = some (zxi73, 1, 1, 5, 73, 0, 0, 0, 0) from rfl)
  have hfad := xAd (l := l) (show zG zxMeta 73 = some (zxi73, 1, 1, 5, 73, 0, 0, 0, 0) from rfl) hmefad
  obtain ⟨mefrz0, hmefrz0, -⟩ := zall (show zG zxMeta 60 = some (zxi60, 2, 3, 5, 60, 0, 0, 2, 0) from rfl)
  have hfrz0 := xRz0 (l := l) (show zG zxMeta 60 = some (zxi60, 2, 3, 5, 60, 0, 0, 2, 0) from rfl) hmefrz0
  obtain ⟨mefrl0, hmefrl0, -⟩ := zall (show zG zxMeta 61 = some (zxi61, 2, 2, 5, 61, 0, 0, 2, 0) from rfl)
  have hfrl0 := xRl0 (l := l) (show zG zxMeta 61 = some (zxi61, 2, 2, 5, 61, 0, 0, 2, 0) from rfl) hmefrl0
  intro B
  refine xcutq (mi := zymc) (B := B) hOK rfl rfl (ι := Fin 6) (fun i => zpfra0 i.val) (fun _ _ => []) (fun i => zFfra0 i.val) (fun i => zSfra0 i.val) (fun i => zXfra0 i.val) (fun i => zRfra0 i.val) (fun i y2 ct en2 me2 h => by cases h) 200000 (fun i => zyAll_iff hr i.val i.isLt) (fun i => (hck i.val i.isLt).1) (fun i => (hck i.val i.isLt).2.1) (fun i => (hck i.val i.isLt).2.2) ⟨0, by decide⟩ ⟨rfl, rfl, rfl, rfl⟩ ⟨by decide, by decide⟩ (fun i x0 E0 v E => xIfra0 i.val x0 E0 v E) (fun i x0 E0 v E => xMfra0 i.val x0 E0 v E) ?_ ?_ ?_
  · intro x0 E hx0 hT hΦ
    have hΦ : xΦra0 x0 E := hΦ
    refine ⟨fun k p hp => ?_, ?_⟩
    · have hk : k < 4 := (List.getElem?_eq_some_iff.mp hp).1
      have hk : k = 0 ∨ k = 1 ∨ k = 2 ∨ k = 3 := by omega
      rcases hk with rfl | rfl | rfl | rfl
      · have hp : some (0, 4294967295) = some p := hp
        cases hp
        show ((0 : Nat) : Int) ≤ 0 + 2147483648 ∧ 0 + 2147483648 ≤ ((4294967295 : Nat) : Int)
        omega
      · have hp : some (2147483648, 2147484548) = some p := hp
        cases hp
        show ((2147483648 : Nat) : Int) ≤ x0 0 + 2147483648 ∧ x0 0 + 2147483648 ≤ ((2147484548 : Nat) : Int)
        have hx := hx0 0
        have hP := hΦ.1
        have hP2 := hΦ.2
        omega
      · have hp : some (0, 4294967295) = some p := hp
        cases hp
        show ((0 : Nat) : Int) ≤ 0 + 2147483648 ∧ 0 + 2147483648 ≤ ((4294967295 : Nat) : Int)
        omega
      · have hp : some (0, 4294967295) = some p := hp
        cases hp
        show ((0 : Nat) : Int) ≤ 0 + 2147483648 ∧ 0 + 2147483648 ≤ ((4294967295 : Nat) : Int)
        omega
    · show E = E ∧ (x0 0) = x0 0
      exact ⟨rfl, rfl⟩
  · intro x0 s Wg hRu hrx hT0 hΦ i v H hT hrv hInv hKc hFr0 hIH x hx ρ2 v2 N2 H2 locs lsB stA hAt hB hv hr2 hXs hag hfr hFr hT2
    rcases i with ⟨i, hi⟩
    have hi2 : i = 0 ∨ i = 1 ∨ i = 2 ∨ i = 3 ∨ i = 4 ∨ i = 5 := by omega
    rcases hi2 with rfl | rfl | rfl | rfl | rfl | rfl
    · have hx : x ∈ [zxfra0_ax0] := hx
      have hag : ∀ k, k < 4 → v2 k = v k := hag
      have hfr : xFr [(35, 1, 4), (35, 6, 6)] _ _ := hfr
      have ex := List.mem_singleton.mp hx
      subst ex
      obtain ⟨hF, hBd, hM⟩ := hXs
      have g1 : v2 1 = v 1 := hag 1 (by decide)
      have b0 : ((2147483648 : Nat) : Int) ≤ (v2 1) + 2147483648 ∧ (v2 1) + 2147483648 ≤ ((2147484548 : Nat) : Int) := xXb hBd 0 rfl
      have m0 : xE (zyEl zymc B H2) 35 1 = 0 := xXm hM 0 rfl
      have m1 : xE (zyEl zymc B H2) 35 2 = 0 := xXm hM 1 rfl
      have m2 : xE (zyEl zymc B H2) 35 3 = (-1) := xXm hM 2 rfl
      have m3 : xE (zyEl zymc B H2) 35 4 = (v2 1) := xXm hM 3 rfl
      have m4 : xE (zyEl zymc B H2) 35 6 = 0 := xXm hM 4 rfl
      have e35_5 : xE (zyEl zymc B H2) 35 5 = xE (zyEl zymc B H) 35 5 := xFr_E hfr rfl
      have e35_7 : xE (zyEl zymc B H2) 35 7 = xE (zyEl zymc B H) 35 7 := xFr_E hfr rfl
      have e35_8 : xE (zyEl zymc B H2) 35 8 = xE (zyEl zymc B H) 35 8 := xFr_E hfr rfl
      have e2_0 : xE (zyEl zymc B H2) 2 0 = xE (zyEl zymc B H) 2 0 := xFr_E hfr rfl
      have e2_1 : xE (zyEl zymc B H2) 2 1 = xE (zyEl zymc B H) 2 1 := xFr_E hfr rfl
      have e36 : ∀ i, xE (zyEl zymc B H2) 36 i = xE (zyEl zymc B H) 36 i := fun i => xFr_E hfr rfl
      have q36 : ∀ i, xE (zyEl zymc B H) 36 i = xE (zyEl zymc B s.heap) 36 i := fun i => xFr_E hFr0 rfl
      have e4 : ∀ i, xE (zyEl zymc B H2) 4 i = xE (zyEl zymc B H) 4 i := fun i => xFr_E hfr rfl
      have e5 : ∀ i, xE (zyEl zymc B H2) 5 i = xE (zyEl zymc B H) 5 i := fun i => xFr_E hfr rfl
      have hI : (zyEl zymc B H) = (zyEl zymc B s.heap) ∧ (v 1) = x0 0 := hInv
      have q35_4 : xE (zyEl zymc B H) 35 4 = xE (zyEl zymc B s.heap) 35 4 := by rw [hI.1]
      have q35_5 : xE (zyEl zymc B H) 35 5 = xE (zyEl zymc B s.heap) 35 5 := by rw [hI.1]
      have q35_6 : xE (zyEl zymc B H) 35 6 = xE (zyEl zymc B s.heap) 35 6 := by rw [hI.1]
      have q35_7 : xE (zyEl zymc B H) 35 7 = xE (zyEl zymc B s.heap) 35 7 := by rw [hI.1]
      have q35_8 : xE (zyEl zymc B H) 35 8 = xE (zyEl zymc B s.heap) 35 8 := by rw [hI.1]
      have q35_2 : xE (zyEl zymc B H) 35 2 = xE (zyEl zymc B s.heap) 35 2 := by rw [hI.1]
      have q35_3 : xE (zyEl zymc B H) 35 3 = xE (zyEl zymc B s.heap) 35 3 := by rw [hI.1]
      have q35_1 : xE (zyEl zymc B H) 35 1 = xE (zyEl zymc B s.heap) 35 1 := by rw [hI.1]
      have q2_0 : xE (zyEl zymc B H) 2 0 = xE (zyEl zymc B s.heap) 2 0 := by rw [hI.1]
      have q2_1 : xE (zyEl zymc B H) 2 1 = xE (zyEl zymc B s.heap) 2 1 := by rw [hI.1]
      have q4 : ∀ i, xE (zyEl zymc B H) 4 i = xE (zyEl zymc B s.heap) 4 i := fun i => by rw [hI.1]
      have q5 : ∀ i, xE (zyEl zymc B H) 5 i = xE (zyEl zymc B s.heap) 5 i := fun i => by rw [hI.1]
      have hP := hΦ.1
      have hP2 := hΦ.2
      have tt : xE (zyEl zymc B H2) 36 = xE (zyEl zymc B s.heap) 36 := funext fun i => (e36 i).trans (q36 i)
      refine xCa hRu hIH hAt hB hv hFr (hfrz0 B) (ix := 31) (ax := 960) rfl rfl rfl hmefrz0 ⟨_, rfl, rfl, by decide⟩ ⟨rfl, rfl, rfl⟩ (by decide) [] [] [] rfl ⟨rfl, rfl⟩ (by decide +kernel) xcs_n (by decide +kernel) ?_ (fun H3 r hT3 hf3 hFr3 hr3 hΨ3 => ?_)
      · show xΦrz0 (xfv []) (zyEl zymc B H2)
        exact ⟨by omega, by omega⟩
      · have hΨ3 : xΨfrz0 (xfv []) (zyEl zymc B H2) (zyEl zymc B H3) r := hΨ3
        have d35_4 : xE (zyEl zymc B H3) 35 4 = xE (zyEl zymc B H2) 35 4 := xFr_E hf3 rfl
        have d35_1 : xE (zyEl zymc B H3) 35 1 = xE (zyEl zymc B H2) 35 1 := xFr_E hf3 rfl
        have d36 : ∀ i, xE (zyEl zymc B H3) 36 i = xE (zyEl zymc B H2) 36 i := fun i => xFr_E hf3 rfl
        obtain ⟨w1, w2, w3⟩ := hΨ3
        rw [tt, show xE (zyEl zymc B H2) 35 4 = x0 0 by omega] at w1 w3
        have hr01 := xOut0_r w1
        refine ⟨⟨1, by decide⟩, [0, 0, 0, 0], [0, 0, 0, 0, r], rfl, ⟨by decide +kernel, ⟨rfl, by decide +kernel⟩, (xcs_c rfl (xcs_c rfl (xcs_c rfl (xcs_c rfl xcs_n)))), (xe_0 (xe_0 (xe_0 (xe_0 (xe_c (by omega) (by omega) rfl xe_n))))), xkq_n⟩, (by rw [if_pos rfl]; exact ⟨4, [], rfl, by decide, rfl, xst_n⟩), ?_, ?_⟩
        · show (xE (zyEl zymc B H3) 35 4 = x0 0 ∧ xE (zyEl zymc B H3) 35 1 = 0) ∧ xJk0 (zyEl zymc B s.heap) (zyEl zymc B H3) ∧ xOut0 (pSz (xE (zyEl zymc B s.heap) 36) (x0 0)) (zyEl zymc B H3) (r : Int) ∧ ∀ p S, pSz (xE (zyEl zymc B s.heap) 36) (x0 0) = .ok (p, S) → xGeo0 (zyEl zymc B H3) (S 0).toNat (S 1).toNat
          refine ⟨⟨by omega, by omega⟩, fun i i0 i1 => ?_, w1, w3⟩
          have w := w2 i i0 i1
          rw [e4 i, q4 i, e5 i, q5 i] at w
          exact w
        · show 9999 < 10000
          omega
    · have hx : x ∈ [zxfra0_bx0] := hx
      have hag : ∀ k, k < 5 → v2 k = v k := hag
      have hfr : xFr [] _ _ := hfr
      have ex := List.mem_singleton.mp hx
      subst ex
      obtain ⟨hF, hBd, hM⟩ := hXs
      have g4 : v2 4 = v 4 := hag 4 (by decide)
      have b0 : ((2147483649 : Nat) : Int) ≤ (v2 4) + 2147483648 ∧ (v2 4) + 2147483648 ≤ ((2147483649 : Nat) : Int) := xXb hBd 0 rfl
      have f0 : ¬ (v2 4) = 0 := xXf hF 0 rfl
      have e35_4 : xE (zyEl zymc B H2) 35 4 = xE (zyEl zymc B H) 35 4 := xFr_E hfr rfl
      have e35_5 : xE (zyEl zymc B H2) 35 5 = xE (zyEl zymc B H) 35 5 := xFr_E hfr rfl
      have e35_6 : xE (zyEl zymc B H2) 35 6 = xE (zyEl zymc B H) 35 6 := xFr_E hfr rfl
      have e35_7 : xE (zyEl zymc B H2) 35 7 = xE (zyEl zymc B H) 35 7 := xFr_E hfr rfl
      have e35_8 : xE (zyEl zymc B H2) 35 8 = xE (zyEl zymc B H) 35 8 := xFr_E hfr rfl
      have e35_2 : xE (zyEl zymc B H2) 35 2 = xE (zyEl zymc B H) 35 2 := xFr_E hfr rfl
      have e35_3 : xE (zyEl zymc B H2) 35 3 = xE (zyEl zymc B H) 35 3 := xFr_E hfr rfl
      have e35_1 : xE (zyEl zymc B H2) 35 1 = xE (zyEl zymc B H) 35 1 := xFr_E hfr rfl
      have e2_0 : xE (zyEl zymc B H2) 2 0 = xE (zyEl zymc B H) 2 0 := xFr_E hfr rfl
      have e2_1 : xE (zyEl zymc B H2) 2 1 = xE (zyEl zymc B H) 2 1 := xFr_E hfr rfl
      have e36 : ∀ i, xE (zyEl zymc B H2) 36 i = xE (zyEl zymc B H) 36 i := fun i => xFr_E hfr rfl
      have q36 : ∀ i, xE (zyEl zymc B H) 36 i = xE (zyEl zymc B s.heap) 36 i := fun i => xFr_E hFr0 rfl
      have e4 : ∀ i, xE (zyEl zymc B H2) 4 i = xE (zyEl zymc B H) 4 i := fun i => xFr_E hfr rfl
      have e5 : ∀ i, xE (zyEl zymc B H2) 5 i = xE (zyEl zymc B H) 5 i := fun i => xFr_E hfr rfl
      have hI : (xE (zyEl zymc B H) 35 4 = x0 0 ∧ xE (zyEl zymc B H) 35 1 = 0) ∧ xJk0 (zyEl zymc B s.heap) (zyEl zymc B H) ∧ xOut0 (pSz (xE (zyEl zymc B s.heap) 36) (x0 0)) (zyEl zymc B H) (v 4) ∧ ∀ p S, pSz (xE (zyEl zymc B s.heap) 36) (x0 0) = .ok (p, S) → xGeo0 (zyEl zymc B H) (S 0).toNat (S 1).toNat := hInv
      have hP := hΦ.1
      have hP2 := hΦ.2
      obtain ⟨⟨ie, is⟩, ij, i1, i2⟩ := hI
      rw [show (v 4) = v2 4 by omega] at i1
      have tt : xE (zyEl zymc B H2) 36 = xE (zyEl zymc B s.heap) 36 := funext fun i => (e36 i).trans (q36 i)
      obtain ⟨pp, S, e1, e2, e3⟩ := xOut0_1 i1 (by omega)
      have hpp := pSz_p (by omega) e1
      refine xCa hRu hIH hAt hB hv hFr (hfad B) (ix := 35) (ax := 1168) rfl rfl rfl hmefad ⟨_, rfl, rfl, by decide⟩ ⟨rfl, rfl, rfl⟩ (by decide) [] [] [] rfl ⟨rfl, rfl⟩ (by decide +kernel) xcs_n (by decide +kernel) ?_ (fun H3 r hT3 hf3 hFr3 hr3 hΨ3 => ?_)
      · show xΦad (xfv []) (zyEl zymc B H2)
        unfold xΦad
        omega
      · have hΨ3 : xΨad (xfv []) (zyEl zymc B H2) (zyEl zymc B H3) r := hΨ3
        have d35_4 : xE (zyEl zymc B H3) 35 4 = xE (zyEl zymc B H2) 35 4 := xFr_E hf3 rfl
        have d35_2 : xE (zyEl zymc B H3) 35 2 = xE (zyEl zymc B H2) 35 2 := xFr_E hf3 rfl
        have d35_3 : xE (zyEl zymc B H3) 35 3 = xE (zyEl zymc B H2) 35 3 := xFr_E hf3 rfl
        have d35_1 : xE (zyEl zymc B H3) 35 1 = xE (zyEl zymc B H2) 35 1 := xFr_E hf3 rfl
        have d2_0 : xE (zyEl zymc B H3) 2 0 = xE (zyEl zymc B H2) 2 0 := xFr_E hf3 rfl
        have d2_1 : xE (zyEl zymc B H3) 2 1 = xE (zyEl zymc B H2) 2 1 := xFr_E hf3 rfl
        have d36 : ∀ i, xE (zyEl zymc B H3) 36 i = xE (zyEl zymc B H2) 36 i := fun i => xFr_E hf3 rfl
        have d4 : ∀ i, xE (zyEl zymc B H3) 4 i = xE (zyEl zymc B H2) 4 i := fun i => xFr_E hf3 rfl
        have d5 : ∀ i, xE (zyEl zymc B H3) 5 i = xE (zyEl zymc B H2) 5 i := fun i => xFr_E hf3 rfl
        unfold xΨad at hΨ3
        rw [tt, show xE (zyEl zymc B H2) 35 4 = x0 0 by omega, show xE (zyEl zymc B H2) 35 6 = pp by omega] at hΨ3
        refine ⟨⟨2, by decide⟩, [0, 0, 0, 0], [0, 0, 0, 0], rfl, ⟨by decide +kernel, ⟨rfl, by decide +kernel⟩, (xcs_c rfl (xcs_c rfl (xcs_c rfl (xcs_c rfl xcs_n)))), (xe_0 (xe_0 (xe_0 (xe_0 xe_n)))), xkq_n⟩, (by rw [if_neg (by decide)]; exact xst_n), ?_, ?_⟩
        · show (xE (zyEl zymc B H3) 35 4 = x0 0 ∧ xE (zyEl zymc B H3) 35 1 = 0) ∧ xJk0 (zyEl zymc B s.heap) (zyEl zymc B H3) ∧ ∃ p S, pAll (xE (zyEl zymc B s.heap) 36) (x0 0) = pLines (xE (zyEl zymc B s.heap) 36) (x0 0) 901 p S ∧ (0 ≤ p ∧ p ≤ x0 0) ∧ xAb0 (zyEl zymc B H3) S ∧ xGeo0 (zyEl zymc B H3) (S 0).toNat (S 1).toNat ∧ xAD (xE (zyEl zymc B s.heap) 36) (x0 0) p (zyEl zymc B H3)
          exact ⟨⟨by omega, by omega⟩, fun i i0 i1 => by have w := ij i i0 i1; rw [d4 i, e4 i, d5 i, e5 i]; exact w, pp, S, by unfold pAll; rw [e1]; rfl, by omega, xAb0_35 e3 (xFr_trans (xFr_mono (by decide) hfr) (xFr_mono (by decide) hf3)), xGeo0_35 (i2 _ _ e1) (xFr_trans (xFr_mono (by decide) hfr) (xFr_mono (by decide) hf3)), hΨ3⟩
        · show 9998 < 9999
          omega
    · have hx : x ∈ [zxfra0_cx0] := hx
      have hag : ∀ k, k < 4 → v2 k = v k := hag
      have hfr : xFr [] _ _ := hfr
      have ex := List.mem_singleton.mp hx
      subst ex
      obtain ⟨hF, hBd, hM⟩ := hXs
      have e35_4 : xE (zyEl zymc B H2) 35 4 = xE (zyEl zymc B H) 35 4 := xFr_E hfr rfl
      have e35_5 : xE (zyEl zymc B H2) 35 5 = xE (zyEl zymc B H) 35 5 := xFr_E hfr rfl
      have e35_6 : xE (zyEl zymc B H2) 35 6 = xE (zyEl zymc B H) 35 6 := xFr_E hfr rfl
      have e35_7 : xE (zyEl zymc B H2) 35 7 = xE (zyEl zymc B H) 35 7 := xFr_E hfr rfl
      have e35_8 : xE (zyEl zymc B H2) 35 8 = xE (zyEl zymc B H) 35 8 := xFr_E hfr rfl
      have e35_2 : xE (zyEl zymc B H2) 35 2 = xE (zyEl zymc B H) 35 2 := xFr_E hfr rfl
      have e35_3 : xE (zyEl zymc B H2) 35 3 = xE (zyEl zymc B H) 35 3 := xFr_E hfr rfl
      have e35_1 : xE (zyEl zymc B H2) 35 1 = xE (zyEl zymc B H) 35 1 := xFr_E hfr rfl
      have e2_0 : xE (zyEl zymc B H2) 2 0 = xE (zyEl zymc B H) 2 0 := xFr_E hfr rfl
      have e2_1 : xE (zyEl zymc B H2) 2 1 = xE (zyEl zymc B H) 2 1 := xFr_E hfr rfl
      have e36 : ∀ i, xE (zyEl zymc B H2) 36 i = xE (zyEl zymc B H) 36 i := fun i => xFr_E hfr rfl
      have q36 : ∀ i, xE (zyEl zymc B H) 36 i = xE (zyEl zymc B s.heap) 36 i := fun i => xFr_E hFr0 rfl
      have e4 : ∀ i, xE (zyEl zymc B H2) 4 i = xE (zyEl zymc B H) 4 i := fun i => xFr_E hfr rfl
      have e5 : ∀ i, xE (zyEl zymc B H2) 5 i = xE (zyEl zymc B H) 5 i := fun i => xFr_E hfr rfl
      have hI : (xE (zyEl zymc B H) 35 4 = x0 0 ∧ xE (zyEl zymc B H) 35 1 = 0) ∧ xJk0 (zyEl zymc B s.heap) (zyEl zymc B H) ∧ ∃ p S, pAll (xE (zyEl zymc B s.heap) 36) (x0 0) = pLines (xE (zyEl zymc B s.heap) 36) (x0 0) 901 p S ∧ (0 ≤ p ∧ p ≤ x0 0) ∧ xAb0 (zyEl zymc B H) S ∧ xGeo0 (zyEl zymc B H) (S 0).toNat (S 1).toNat ∧ xAD (xE (zyEl zymc B s.heap) 36) (x0 0) p (zyEl zymc B H) := hInv
      have hP := hΦ.1
      have hP2 := hΦ.2
      obtain ⟨⟨ie, is⟩, ij, pp, S, i1, i2, i3, i4, i5⟩ := hI
      have hE2 := xFr_n hfr
      refine xGo hIH hAt hB hv hFr ⟨3, by decide⟩ [0, 0, 0, 0] [0, 0, 0, 0] rfl ⟨by decide +kernel, ⟨rfl, by decide +kernel⟩, (xcs_c rfl (xcs_c rfl (xcs_c rfl (xcs_c rfl xcs_n)))), (xe_0 (xe_0 (xe_0 (xe_c (by omega) (by omega) rfl xe_n)))), xkq_n⟩ xst_n ?_ ?_
      · show (0 ≤ (0 : Int) ∧ (0 : Int) ≤ 901) ∧ (xE (zyEl zymc B H2) 35 4 = x0 0 ∧ xE (zyEl zymc B H2) 35 1 = 0) ∧ xJk0 (zyEl zymc B s.heap) (zyEl zymc B H2) ∧ ∃ p S, pAll (xE (zyEl zymc B s.heap) 36) (x0 0) = pLines (xE (zyEl zymc B s.heap) 36) (x0 0) (901 - (0 : Int)).toNat p S ∧ ((0 : Int) ≤ p ∧ p ≤ x0 0) ∧ xAb0 (zyEl zymc B H2) S ∧ xGeo0 (zyEl zymc B H2) (S 0).toNat (S 1).toNat ∧ xAD (xE (zyEl zymc B s.heap) 36) (x0 0) p (zyEl zymc B H2)
        rw [hE2]
        exact ⟨by omega, ⟨ie, is⟩, ij, pp, S, i1, by omega, i3, i4, i5⟩
      · show 3 * (1000 - (0 : Int)).toNat + 2 < 9998
        omega
    · have hx : x ∈ [zxfra0_dx0] := hx
      have hag : ∀ k, k < 4 → v2 k = v k := hag
      have hfr : xFr [] _ _ := hfr
      have ex := List.mem_singleton.mp hx
      subst ex
      obtain ⟨hF, hBd, hM⟩ := hXs
      have g3 : v2 3 = v 3 := hag 3 (by decide)
      have b0 : ((2147483648 : Nat) : Int) ≤ (v2 3) + 2147483648 ∧ (v2 3) + 2147483648 ≤ ((2147484548 : Nat) : Int) := xXb hBd 0 rfl
      have b1 : ((2147483649 : Nat) : Int) ≤ (v2 4) + 2147483648 ∧ (v2 4) + 2147483648 ≤ ((2147483653 : Nat) : Int) := xXb hBd 1 rfl
      have f0 : (v2 3) ≤ 900 := xXf hF 0 rfl
      have f1 : (0 : Int) ≤ 7 ∧ xE (zyEl zymc B H) 35 7 = (v2 4) := xXf hF 1 rfl
      have f2 : ¬ (v2 4) = 0 := xXf hF 2 rfl
      have e35_4 : xE (zyEl zymc B H2) 35 4 = xE (zyEl zymc B H) 35 4 := xFr_E hfr rfl
      have e35_5 : xE (zyEl zymc B H2) 35 5 = xE (zyEl zymc B H) 35 5 := xFr_E hfr rfl
      have e35_6 : xE (zyEl zymc B H2) 35 6 = xE (zyEl zymc B H) 35 6 := xFr_E hfr rfl
      have e35_7 : xE (zyEl zymc B H2) 35 7 = xE (zyEl zymc B H) 35 7 := xFr_E hfr rfl
      have e35_8 : xE (zyEl zymc B H2) 35 8 = xE (zyEl zymc B H) 35 8 := xFr_E hfr rfl
      have e35_2 : xE (zyEl zymc B H2) 35 2 = xE (zyEl zymc B H) 35 2 := xFr_E hfr rfl
      have e35_3 : xE (zyEl zymc B H2) 35 3 = xE (zyEl zymc B H) 35 3 := xFr_E hfr rfl
      have e35_1 : xE (zyEl zymc B H2) 35 1 = xE (zyEl zymc B H) 35 1 := xFr_E hfr rfl
      have e2_0 : xE (zyEl zymc B H2) 2 0 = xE (zyEl zymc B H) 2 0 := xFr_E hfr rfl
      have e2_1 : xE (zyEl zymc B H2) 2 1 = xE (zyEl zymc B H) 2 1 := xFr_E hfr rfl
      have e36 : ∀ i, xE (zyEl zymc B H2) 36 i = xE (zyEl zymc B H) 36 i := fun i => xFr_E hfr rfl
      have q36 : ∀ i, xE (zyEl zymc B H) 36 i = xE (zyEl zymc B s.heap) 36 i := fun i => xFr_E hFr0 rfl
      have e4 : ∀ i, xE (zyEl zymc B H2) 4 i = xE (zyEl zymc B H) 4 i := fun i => xFr_E hfr rfl
      have e5 : ∀ i, xE (zyEl zymc B H2) 5 i = xE (zyEl zymc B H) 5 i := fun i => xFr_E hfr rfl
      have hI : (0 ≤ (v 3) ∧ (v 3) ≤ 901) ∧ (xE (zyEl zymc B H) 35 4 = x0 0 ∧ xE (zyEl zymc B H) 35 1 = 0) ∧ xJk0 (zyEl zymc B s.heap) (zyEl zymc B H) ∧ ∃ p S, pAll (xE (zyEl zymc B s.heap) 36) (x0 0) = pLines (xE (zyEl zymc B s.heap) 36) (x0 0) (901 - (v 3)).toNat p S ∧ ((v 3) ≤ p ∧ p ≤ x0 0) ∧ xAb0 (zyEl zymc B H) S ∧ xGeo0 (zyEl zymc B H) (S 0).toNat (S 1).toNat ∧ xAD (xE (zyEl zymc B s.heap) 36) (x0 0) p (zyEl zymc B H) := hInv
      have hP := hΦ.1
      have hP2 := hΦ.2
      obtain ⟨i0, ⟨ie, is⟩, ij, pp, S, i1, i2, i3, i4, ⟨a1, a2, a3, a4⟩⟩ := hI
      have hE2 := xFr_n hfr
      have tt : xE (zyEl zymc B H2) 36 = xE (zyEl zymc B s.heap) 36 := funext fun i => (e36 i).trans (q36 i)
      have hk : ¬ tKd (xE (zyEl zymc B s.heap) 36) (x0 0) pp = 0 := by omega
      have hA2 : xAD (xE (zyEl zymc B s.heap) 36) (x0 0) pp (zyEl zymc B H2) := by rw [hE2]; exact ⟨a1, a2, a3, a4⟩
      have hS2 : xAb0 (zyEl zymc B H2) S := by rw [hE2]; exact i3
      have hb := tNx_b (T := xE (zyEl zymc B s.heap) 36) (n := x0 0) (p := pp) i2.2
      refine xCa hRu hIH hAt hB hv hFr (hfrl0 B) (ix := 41) (ax := 976) rfl rfl rfl hmefrl0 ⟨_, rfl, rfl, by decide⟩ ⟨rfl, rfl, rfl⟩ (by decide) [] [] [] rfl ⟨rfl, rfl⟩ (by decide +kernel) xcs_n (by decide +kernel) ?_ (fun H3 r hT3 hf3 hFr3 hr3 hΨ3 => ?_)
      · show xΦrl0 (xfv []) (zyEl zymc B H2)
        refine ⟨by omega, ⟨S, hS2⟩, pp, by omega, ?_⟩
        rw [tt, show xE (zyEl zymc B H2) 35 4 = x0 0 by omega]
        exact hA2
      · have hΨ3 : xΨfrl0 (xfv []) (zyEl zymc B H2) (zyEl zymc B H3) r := hΨ3
        have d35_4 : xE (zyEl zymc B H3) 35 4 = xE (zyEl zymc B H2) 35 4 := xFr_E hf3 rfl
        have d35_1 : xE (zyEl zymc B H3) 35 1 = xE (zyEl zymc B H2) 35 1 := xFr_E hf3 rfl
        have d2_0 : xE (zyEl zymc B H3) 2 0 = xE (zyEl zymc B H2) 2 0 := xFr_E hf3 rfl
        have d2_1 : xE (zyEl zymc B H3) 2 1 = xE (zyEl zymc B H2) 2 1 := xFr_E hf3 rfl
        have d36 : ∀ i, xE (zyEl zymc B H3) 36 i = xE (zyEl zymc B H2) 36 i := fun i => xFr_E hf3 rfl
        have d4 : ∀ i, xE (zyEl zymc B H3) 4 i = xE (zyEl zymc B H2) 4 i := fun i => xFr_E hf3 rfl
        have d5 : ∀ i, xE (zyEl zymc B H3) 5 i = xE (zyEl zymc B H2) 5 i := fun i => xFr_E hf3 rfl
        have w := hΨ3 pp S (by omega) (by rw [tt, show xE (zyEl zymc B H2) 35 4 = x0 0 by omega]; exact hA2) hS2
        rw [tt, show xE (zyEl zymc B H2) 35 4 = x0 0 by omega] at w
        have hr01 := xOut0_r w
        refine ⟨⟨4, by decide⟩, [0, 0, 0, 103079215105], [0, 0, 0, (v2 3), r], rfl, ⟨by decide +kernel, ⟨rfl, by decide +kernel⟩, (xcs_c rfl (xcs_c rfl (xcs_c rfl (xcs_c rfl xcs_n)))), (xe_0 (xe_0 (xe_0 (xe_c (by omega) (by omega) rfl (xe_c (by omega) (by omega) rfl xe_n))))), xkq_n⟩, (by rw [if_pos rfl]; exact ⟨4, [], rfl, by decide, rfl, xst_n⟩), ?_, ?_⟩
        · show (0 ≤ ((v2 3) : Int) ∧ ((v2 3) : Int) ≤ 900) ∧ (xE (zyEl zymc B H3) 35 4 = x0 0 ∧ xE (zyEl zymc B H3) 35 1 = 0) ∧ xJk0 (zyEl zymc B s.heap) (zyEl zymc B H3) ∧ ∃ p S, pAll (xE (zyEl zymc B s.heap) 36) (x0 0) = pBind (pLine (xE (zyEl zymc B s.heap) 36) (x0 0) p S) (pLines (xE (zyEl zymc B s.heap) 36) (x0 0) (900 - ((v2 3) : Int)).toNat) ∧ ¬ tKd (xE (zyEl zymc B s.heap) 36) (x0 0) p = 0 ∧ (((v2 3) : Int) ≤ p ∧ p ≤ x0 0) ∧ xOut0 (pLine (xE (zyEl zymc B s.heap) 36) (x0 0) p S) (zyEl zymc B H3) (r : Int) ∧ xGeo0 (zyEl zymc B H3) (S 0).toNat (S 1).toNat ∧ xE (zyEl zymc B H3) 2 0 = S 0 ∧ xE (zyEl zymc B H3) 2 1 = S 1
          have hr0 := i3.2.1
          refine ⟨by omega, ⟨by omega, by omega⟩, fun i i0 i1 => by have w := ij i i0 i1; rw [d4 i, e4 i, d5 i, e5 i]; exact w, pp, S, ?_, hk, by omega, w, xGeo0_rl (by rw [← hE2] at i4; exact i4) hf3, by omega, by omega⟩
          rw [i1, show (901 - v 3).toNat = (900 - v2 3).toNat + 1 by omega, pLines_s hk]
        · show 3 * (1000 - ((v2 3) : Int)).toNat + 1 < 3 * (1000 - (v 3)).toNat + 2
          omega
    · have hx : x ∈ [zxfra0_ex0] := hx
      have hag : ∀ k, k < 5 → v2 k = v k := hag
      have hfr : xFr [] _ _ := hfr
      have ex := List.mem_singleton.mp hx
      subst ex
      obtain ⟨hF, hBd, hM⟩ := hXs
      have g3 : v2 3 = v 3 := hag 3 (by decide)
      have g4 : v2 4 = v 4 := hag 4 (by decide)
      have b0 : ((2147483648 : Nat) : Int) ≤ (v2 3) + 2147483648 ∧ (v2 3) + 2147483648 ≤ ((2147484548 : Nat) : Int) := xXb hBd 0 rfl
      have b1 : ((2147483649 : Nat) : Int) ≤ (v2 4) + 2147483648 ∧ (v2 4) + 2147483648 ≤ ((2147483649 : Nat) : Int) := xXb hBd 1 rfl
      have f0 : ¬ (v2 4) = 0 := xXf hF 0 rfl
      have e35_4 : xE (zyEl zymc B H2) 35 4 = xE (zyEl zymc B H) 35 4 := xFr_E hfr rfl
      have e35_5 : xE (zyEl zymc B H2) 35 5 = xE (zyEl zymc B H) 35 5 := xFr_E hfr rfl
      have e35_6 : xE (zyEl zymc B H2) 35 6 = xE (zyEl zymc B H) 35 6 := xFr_E hfr rfl
      have e35_7 : xE (zyEl zymc B H2) 35 7 = xE (zyEl zymc B H) 35 7 := xFr_E hfr rfl
      have e35_8 : xE (zyEl zymc B H2) 35 8 = xE (zyEl zymc B H) 35 8 := xFr_E hfr rfl
      have e35_2 : xE (zyEl zymc B H2) 35 2 = xE (zyEl zymc B H) 35 2 := xFr_E hfr rfl
      have e35_3 : xE (zyEl zymc B H2) 35 3 = xE (zyEl zymc B H) 35 3 := xFr_E hfr rfl
      have e35_1 : xE (zyEl zymc B H2) 35 1 = xE (zyEl zymc B H) 35 1 := xFr_E hfr rfl
      have e2_0 : xE (zyEl zymc B H2) 2 0 = xE (zyEl zymc B H) 2 0 := xFr_E hfr rfl
      have e2_1 : xE (zyEl zymc B H2) 2 1 = xE (zyEl zymc B H) 2 1 := xFr_E hfr rfl
      have e36 : ∀ i, xE (zyEl zymc B H2) 36 i = xE (zyEl zymc B H) 36 i := fun i => xFr_E hfr rfl
      have q36 : ∀ i, xE (zyEl zymc B H) 36 i = xE (zyEl zymc B s.heap) 36 i := fun i => xFr_E hFr0 rfl
      have e4 : ∀ i, xE (zyEl zymc B H2) 4 i = xE (zyEl zymc B H) 4 i := fun i => xFr_E hfr rfl
      have e5 : ∀ i, xE (zyEl zymc B H2) 5 i = xE (zyEl zymc B H) 5 i := fun i => xFr_E hfr rfl
      have hI : (0 ≤ (v 3) ∧ (v 3) ≤ 900) ∧ (xE (zyEl zymc B H) 35 4 = x0 0 ∧ xE (zyEl zymc B H) 35 1 = 0) ∧ xJk0 (zyEl zymc B s.heap) (zyEl zymc B H) ∧ ∃ p S, pAll (xE (zyEl zymc B s.heap) 36) (x0 0) = pBind (pLine (xE (zyEl zymc B s.heap) 36) (x0 0) p S) (pLines (xE (zyEl zymc B s.heap) 36) (x0 0) (900 - (v 3)).toNat) ∧ ¬ tKd (xE (zyEl zymc B s.heap) 36) (x0 0) p = 0 ∧ ((v 3) ≤ p ∧ p ≤ x0 0) ∧ xOut0 (pLine (xE (zyEl zymc B s.heap) 36) (x0 0) p S) (zyEl zymc B H) (v 4) ∧ xGeo0 (zyEl zymc B H) (S 0).toNat (S 1).toNat ∧ xE (zyEl zymc B H) 2 0 = S 0 ∧ xE (zyEl zymc B H) 2 1 = S 1 := hInv
      have hP := hΦ.1
      have hP2 := hΦ.2
      obtain ⟨i0, ⟨ie, is⟩, ij, pp, S, i1, hk, i2, i3, i4, i5, i6⟩ := hI
      rw [show (v 4) = v2 4 by omega] at i3
      have tt : xE (zyEl zymc B H2) 36 = xE (zyEl zymc B s.heap) 36 := funext fun i => (e36 i).trans (q36 i)
      obtain ⟨p2, S2, e1, e2, e3⟩ := xOut0_1 i3 (by omega)
      have hpp := pLine_p i2.2 hk e1
      have s0 := e3.2.1.1
      have s1 := e3.2.1.2.1
      have t0 : S2 0 = S 0 := by omega
      have t1 : S2 1 = S 1 := by omega
      refine xCa hRu hIH hAt hB hv hFr (hfad B) (ix := 35) (ax := 1168) rfl rfl rfl hmefad ⟨_, rfl, rfl, by decide⟩ ⟨rfl, rfl, rfl⟩ (by decide) [] [] [] rfl ⟨rfl, rfl⟩ (by decide +kernel) xcs_n (by decide +kernel) ?_ (fun H3 r hT3 hf3 hFr3 hr3 hΨ3 => ?_)
      · show xΦad (xfv []) (zyEl zymc B H2)
        unfold xΦad
        omega
      · have hΨ3 : xΨad (xfv []) (zyEl zymc B H2) (zyEl zymc B H3) r := hΨ3
        have d35_4 : xE (zyEl zymc B H3) 35 4 = xE (zyEl zymc B H2) 35 4 := xFr_E hf3 rfl
        have d35_2 : xE (zyEl zymc B H3) 35 2 = xE (zyEl zymc B H2) 35 2 := xFr_E hf3 rfl
        have d35_3 : xE (zyEl zymc B H3) 35 3 = xE (zyEl zymc B H2) 35 3 := xFr_E hf3 rfl
        have d35_1 : xE (zyEl zymc B H3) 35 1 = xE (zyEl zymc B H2) 35 1 := xFr_E hf3 rfl
        have d2_0 : xE (zyEl zymc B H3) 2 0 = xE (zyEl zymc B H2) 2 0 := xFr_E hf3 rfl
        have d2_1 : xE (zyEl zymc B H3) 2 1 = xE (zyEl zymc B H2) 2 1 := xFr_E hf3 rfl
        have d36 : ∀ i, xE (zyEl zymc B H3) 36 i = xE (zyEl zymc B H2) 36 i := fun i => xFr_E hf3 rfl
        have d4 : ∀ i, xE (zyEl zymc B H3) 4 i = xE (zyEl zymc B H2) 4 i := fun i => xFr_E hf3 rfl
        have d5 : ∀ i, xE (zyEl zymc B H3) 5 i = xE (zyEl zymc B H2) 5 i := fun i => xFr_E hf3 rfl
        unfold xΨad at hΨ3
        rw [tt, show xE (zyEl zymc B H2) 35 4 = x0 0 by omega, show xE (zyEl zymc B H2) 35 6 = p2 by omega] at hΨ3
        refine ⟨⟨5, by decide⟩, [0, 0, 0, 103079215105], [0, 0, 0, (v2 3)], rfl, ⟨by decide +kernel, ⟨rfl, by decide +kernel⟩, (xcs_c rfl (xcs_c rfl (xcs_c rfl (xcs_c rfl xcs_n)))), (xe_0 (xe_0 (xe_0 (xe_c (by omega) (by omega) rfl xe_n)))), xkq_n⟩, (by rw [if_neg (by decide)]; exact xst_n), ?_, ?_⟩
        · show (0 ≤ ((v2 3) : Int) ∧ ((v2 3) : Int) ≤ 900) ∧ (xE (zyEl zymc B H3) 35 4 = x0 0 ∧ xE (zyEl zymc B H3) 35 1 = 0) ∧ xJk0 (zyEl zymc B s.heap) (zyEl zymc B H3) ∧ ∃ p S, pAll (xE (zyEl zymc B s.heap) 36) (x0 0) = pLines (xE (zyEl zymc B s.heap) 36) (x0 0) (900 - ((v2 3) : Int)).toNat p S ∧ (((v2 3) : Int) + 1 ≤ p ∧ p ≤ x0 0) ∧ xAb0 (zyEl zymc B H3) S ∧ xGeo0 (zyEl zymc B H3) (S 0).toNat (S 1).toNat ∧ xAD (xE (zyEl zymc B s.heap) 36) (x0 0) p (zyEl zymc B H3)
          refine ⟨by omega, ⟨by omega, by omega⟩, fun i i0 i1 => by have w := ij i i0 i1; rw [d4 i, e4 i, d5 i, e5 i]; exact w, p2, S2, ?_, by omega, xAb0_35 e3 (xFr_trans (xFr_mono (by decide) hfr) (xFr_mono (by decide) hf3)), xGeo0_35 (by rw [t0, t1]; exact i4) (xFr_trans (xFr_mono (by decide) hfr) (xFr_mono (by decide) hf3)), hΨ3⟩
          rw [i1, e1, show (v 3) = v2 3 by omega]
          rfl
        · show 3 * (1000 - ((v2 3) : Int)).toNat < 3 * (1000 - (v 3)).toNat + 1
          omega
    · have hx : x ∈ [zxfra0_fx0] := hx
      have hag : ∀ k, k < 4 → v2 k = v k := hag
      have hfr : xFr [] _ _ := hfr
      have ex := List.mem_singleton.mp hx
      subst ex
      obtain ⟨hF, hBd, hM⟩ := hXs
      have g3 : v2 3 = v 3 := hag 3 (by decide)
      have b0 : ((2147483648 : Nat) : Int) ≤ (v2 3) + 2147483648 ∧ (v2 3) + 2147483648 ≤ ((2147484548 : Nat) : Int) := xXb hBd 0 rfl
      have b1 : ((2147483649 : Nat) : Int) ≤ (v2 3 + 1) + 2147483648 ∧ (v2 3 + 1) + 2147483648 ≤ ((2147484549 : Nat) : Int) := xXb hBd 1 rfl
      have e35_4 : xE (zyEl zymc B H2) 35 4 = xE (zyEl zymc B H) 35 4 := xFr_E hfr rfl
      have e35_5 : xE (zyEl zymc B H2) 35 5 = xE (zyEl zymc B H) 35 5 := xFr_E hfr rfl
      have e35_6 : xE (zyEl zymc B H2) 35 6 = xE (zyEl zymc B H) 35 6 := xFr_E hfr rfl
      have e35_7 : xE (zyEl zymc B H2) 35 7 = xE (zyEl zymc B H) 35 7 := xFr_E hfr rfl
      have e35_8 : xE (zyEl zymc B H2) 35 8 = xE (zyEl zymc B H) 35 8 := xFr_E hfr rfl
      have e35_2 : xE (zyEl zymc B H2) 35 2 = xE (zyEl zymc B H) 35 2 := xFr_E hfr rfl
      have e35_3 : xE (zyEl zymc B H2) 35 3 = xE (zyEl zymc B H) 35 3 := xFr_E hfr rfl
      have e35_1 : xE (zyEl zymc B H2) 35 1 = xE (zyEl zymc B H) 35 1 := xFr_E hfr rfl
      have e2_0 : xE (zyEl zymc B H2) 2 0 = xE (zyEl zymc B H) 2 0 := xFr_E hfr rfl
      have e2_1 : xE (zyEl zymc B H2) 2 1 = xE (zyEl zymc B H) 2 1 := xFr_E hfr rfl
      have e36 : ∀ i, xE (zyEl zymc B H2) 36 i = xE (zyEl zymc B H) 36 i := fun i => xFr_E hfr rfl
      have q36 : ∀ i, xE (zyEl zymc B H) 36 i = xE (zyEl zymc B s.heap) 36 i := fun i => xFr_E hFr0 rfl
      have e4 : ∀ i, xE (zyEl zymc B H2) 4 i = xE (zyEl zymc B H) 4 i := fun i => xFr_E hfr rfl
      have e5 : ∀ i, xE (zyEl zymc B H2) 5 i = xE (zyEl zymc B H) 5 i := fun i => xFr_E hfr rfl
      have hI : (0 ≤ (v 3) ∧ (v 3) ≤ 900) ∧ (xE (zyEl zymc B H) 35 4 = x0 0 ∧ xE (zyEl zymc B H) 35 1 = 0) ∧ xJk0 (zyEl zymc B s.heap) (zyEl zymc B H) ∧ ∃ p S, pAll (xE (zyEl zymc B s.heap) 36) (x0 0) = pLines (xE (zyEl zymc B s.heap) 36) (x0 0) (900 - (v 3)).toNat p S ∧ ((v 3) + 1 ≤ p ∧ p ≤ x0 0) ∧ xAb0 (zyEl zymc B H) S ∧ xGeo0 (zyEl zymc B H) (S 0).toNat (S 1).toNat ∧ xAD (xE (zyEl zymc B s.heap) 36) (x0 0) p (zyEl zymc B H) := hInv
      have hP := hΦ.1
      have hP2 := hΦ.2
      obtain ⟨i0, ⟨ie, is⟩, ij, pp, S, i1, i2, i3, i4, i5⟩ := hI
      have hE2 := xFr_n hfr
      refine xGo hIH hAt hB hv hFr ⟨3, by decide⟩ [0, 0, 0, 103079215113] [0, 0, 0, (v2 3 + 1)] rfl ⟨by decide +kernel, ⟨rfl, by decide +kernel⟩, (xcs_c rfl (xcs_c rfl (xcs_c rfl (xcs_c rfl xcs_n)))), (xe_0 (xe_0 (xe_0 (xe_c (by omega) (by omega) rfl xe_n)))), xkq_n⟩ xst_n ?_ ?_
      · show (0 ≤ ((v2 3 + 1) : Int) ∧ ((v2 3 + 1) : Int) ≤ 901) ∧ (xE (zyEl zymc B H2) 35 4 = x0 0 ∧ xE (zyEl zymc B H2) 35 1 = 0) ∧ xJk0 (zyEl zymc B s.heap) (zyEl zymc B H2) ∧ ∃ p S, pAll (xE (zyEl zymc B s.heap) 36) (x0 0) = pLines (xE (zyEl zymc B s.heap) 36) (x0 0) (901 - ((v2 3 + 1) : Int)).toNat p S ∧ (((v2 3 + 1) : Int) ≤ p ∧ p ≤ x0 0) ∧ xAb0 (zyEl zymc B H2) S ∧ xGeo0 (zyEl zymc B H2) (S 0).toNat (S 1).toNat ∧ xAD (xE (zyEl zymc B s.heap) 36) (x0 0) p (zyEl zymc B H2)
        rw [hE2]
        exact ⟨by omega, ⟨ie, is⟩, ij, pp, S, by rw [i1, show (900 - v 3).toNat = (901 - (v2 3 + 1)).toNat by omega], by omega, i3, i4, i5⟩
      · show 3 * (1000 - ((v2 3 + 1) : Int)).toNat + 2 < 3 * (1000 - (v 3)).toNat
        omega
  · intro x0 E0 E E2 hrx hT0 hΦ i v hT hrv hInv hKc hFr0 x hx v2 hr2 hXs hag hfr hFr hT2
    rcases i with ⟨i, hi⟩
    have hi2 : i = 0 ∨ i = 1 ∨ i = 2 ∨ i = 3 ∨ i = 4 ∨ i = 5 := by omega
    rcases hi2 with rfl | rfl | rfl | rfl | rfl | rfl
    · cases hx
    · have hx : x ∈ [zxfra0_br0] := hx
      have hag : ∀ k, k < 5 → v2 k = v k := hag
      have hfr : xFr [] _ _ := hfr
      have ex := List.mem_singleton.mp hx
      subst ex
      obtain ⟨hF, hBd, hM⟩ := hXs
      have g4 : v2 4 = v 4 := hag 4 (by decide)
      have b0 : ((2147483648 : Nat) : Int) ≤ (v2 4) + 2147483648 ∧ (v2 4) + 2147483648 ≤ ((2147483648 : Nat) : Int) := xXb hBd 0 rfl
      have f0 : (v2 4) = 0 := xXf hF 0 rfl
      have e35_4 : xE E2 35 4 = xE E 35 4 := xFr_E hfr rfl
      have e35_5 : xE E2 35 5 = xE E 35 5 := xFr_E hfr rfl
      have e35_6 : xE E2 35 6 = xE E 35 6 := xFr_E hfr rfl
      have e35_7 : xE E2 35 7 = xE E 35 7 := xFr_E hfr rfl
      have e35_8 : xE E2 35 8 = xE E 35 8 := xFr_E hfr rfl
      have e35_2 : xE E2 35 2 = xE E 35 2 := xFr_E hfr rfl
      have e35_3 : xE E2 35 3 = xE E 35 3 := xFr_E hfr rfl
      have e35_1 : xE E2 35 1 = xE E 35 1 := xFr_E hfr rfl
      have e2_0 : xE E2 2 0 = xE E 2 0 := xFr_E hfr rfl
      have e2_1 : xE E2 2 1 = xE E 2 1 := xFr_E hfr rfl
      have e36 : ∀ i, xE E2 36 i = xE E 36 i := fun i => xFr_E hfr rfl
      have q36 : ∀ i, xE E 36 i = xE E0 36 i := fun i => xFr_E hFr0 rfl
      have e4 : ∀ i, xE E2 4 i = xE E 4 i := fun i => xFr_E hfr rfl
      have e5 : ∀ i, xE E2 5 i = xE E 5 i := fun i => xFr_E hfr rfl
      have hI : (xE E 35 4 = x0 0 ∧ xE E 35 1 = 0) ∧ xJk0 E0 E ∧ xOut0 (pSz (xE E0 36) (x0 0)) E (v 4) ∧ ∀ p S, pSz (xE E0 36) (x0 0) = .ok (p, S) → xGeo0 E (S 0).toNat (S 1).toNat := hInv
      show xΨra0 x0 E0 E2 0
      have hP := hΦ.1
      have hP2 := hΦ.2
      obtain ⟨⟨ie, is⟩, ij, i1, i2⟩ := hI
      rw [show (v 4) = v2 4 by omega] at i1
      obtain ⟨w, a, e1, e2, e3⟩ := xOut0_0 i1 (by omega)
      have hA : pAll (xE E0 36) (x0 0) = .error (w, a) := by unfold pAll; rw [e1]; rfl
      refine ⟨?_, fun i i0 i1 => by have w := ij i i0 i1; rw [e4 i, e5 i]; exact w, (fun p S h => by rw [hA] at h; cases h), by omega⟩
      rw [hA]
      exact ⟨by omega, by omega, by omega⟩
    · cases hx
    · have hx : x ∈ [zxfra0_dr0, zxfra0_dr1] := hx
      have hag : ∀ k, k < 4 → v2 k = v k := hag
      have hfr : xFr [] _ _ := hfr
      rcases List.mem_cons.mp hx with ex | hx
      · subst ex
        obtain ⟨hF, hBd, hM⟩ := hXs
        have g3 : v2 3 = v 3 := hag 3 (by decide)
        have b0 : ((2147484549 : Nat) : Int) ≤ (v2 3) + 2147483648 ∧ (v2 3) + 2147483648 ≤ ((2147484549 : Nat) : Int) := xXb hBd 0 rfl
        have f0 : 900 < (v2 3) := xXf hF 0 rfl
        have e35_4 : xE E2 35 4 = xE E 35 4 := xFr_E hfr rfl
        have e35_5 : xE E2 35 5 = xE E 35 5 := xFr_E hfr rfl
        have e35_6 : xE E2 35 6 = xE E 35 6 := xFr_E hfr rfl
        have e35_7 : xE E2 35 7 = xE E 35 7 := xFr_E hfr rfl
        have e35_8 : xE E2 35 8 = xE E 35 8 := xFr_E hfr rfl
        have e35_2 : xE E2 35 2 = xE E 35 2 := xFr_E hfr rfl
        have e35_3 : xE E2 35 3 = xE E 35 3 := xFr_E hfr rfl
        have e35_1 : xE E2 35 1 = xE E 35 1 := xFr_E hfr rfl
        have e2_0 : xE E2 2 0 = xE E 2 0 := xFr_E hfr rfl
        have e2_1 : xE E2 2 1 = xE E 2 1 := xFr_E hfr rfl
        have e36 : ∀ i, xE E2 36 i = xE E 36 i := fun i => xFr_E hfr rfl
        have q36 : ∀ i, xE E 36 i = xE E0 36 i := fun i => xFr_E hFr0 rfl
        have e4 : ∀ i, xE E2 4 i = xE E 4 i := fun i => xFr_E hfr rfl
        have e5 : ∀ i, xE E2 5 i = xE E 5 i := fun i => xFr_E hfr rfl
        have hI : (0 ≤ (v 3) ∧ (v 3) ≤ 901) ∧ (xE E 35 4 = x0 0 ∧ xE E 35 1 = 0) ∧ xJk0 E0 E ∧ ∃ p S, pAll (xE E0 36) (x0 0) = pLines (xE E0 36) (x0 0) (901 - (v 3)).toNat p S ∧ ((v 3) ≤ p ∧ p ≤ x0 0) ∧ xAb0 E S ∧ xGeo0 E (S 0).toNat (S 1).toNat ∧ xAD (xE E0 36) (x0 0) p E := hInv
        show xΨra0 x0 E0 E2 1
        have hP := hΦ.1
        have hP2 := hΦ.2
        obtain ⟨i0, ⟨ie, is⟩, ij, pp, S, i1, i2, i3, i4, ⟨a1, a2, a3, a4⟩⟩ := hI
        have hE2 := xFr_n hfr
        subst hE2
        have hk : tKd (xE E0 36) (x0 0) pp = 0 := by omega
        have hA : pAll (xE E0 36) (x0 0) = .ok (pp, S) := i1.trans (pLines_0 hk)
        refine ⟨?_, ij, fun p S2 h => ?_, by omega⟩
        · rw [hA]
          exact ⟨by omega, i3⟩
        · rw [hA] at h
          cases h
          exact i4
      · skip
        have ex := List.mem_singleton.mp hx
        subst ex
        obtain ⟨hF, hBd, hM⟩ := hXs
        have g3 : v2 3 = v 3 := hag 3 (by decide)
        have b0 : ((2147483648 : Nat) : Int) ≤ (v2 3) + 2147483648 ∧ (v2 3) + 2147483648 ≤ ((2147484548 : Nat) : Int) := xXb hBd 0 rfl
        have b1 : ((2147483648 : Nat) : Int) ≤ (v2 4) + 2147483648 ∧ (v2 4) + 2147483648 ≤ ((2147483648 : Nat) : Int) := xXb hBd 1 rfl
        have f0 : (v2 3) ≤ 900 := xXf hF 0 rfl
        have f1 : (0 : Int) ≤ 7 ∧ xE E 35 7 = (v2 4) := xXf hF 1 rfl
        have f2 : (v2 4) = 0 := xXf hF 2 rfl
        have e35_4 : xE E2 35 4 = xE E 35 4 := xFr_E hfr rfl
        have e35_5 : xE E2 35 5 = xE E 35 5 := xFr_E hfr rfl
        have e35_6 : xE E2 35 6 = xE E 35 6 := xFr_E hfr rfl
        have e35_7 : xE E2 35 7 = xE E 35 7 := xFr_E hfr rfl
        have e35_8 : xE E2 35 8 = xE E 35 8 := xFr_E hfr rfl
        have e35_2 : xE E2 35 2 = xE E 35 2 := xFr_E hfr rfl
        have e35_3 : xE E2 35 3 = xE E 35 3 := xFr_E hfr rfl
        have e35_1 : xE E2 35 1 = xE E 35 1 := xFr_E hfr rfl
        have e2_0 : xE E2 2 0 = xE E 2 0 := xFr_E hfr rfl
        have e2_1 : xE E2 2 1 = xE E 2 1 := xFr_E hfr rfl
        have e36 : ∀ i, xE E2 36 i = xE E 36 i := fun i => xFr_E hfr rfl
        have q36 : ∀ i, xE E 36 i = xE E0 36 i := fun i => xFr_E hFr0 rfl
        have e4 : ∀ i, xE E2 4 i = xE E 4 i := fun i => xFr_E hfr rfl
        have e5 : ∀ i, xE E2 5 i = xE E 5 i := fun i => xFr_E hfr rfl
        have hI : (0 ≤ (v 3) ∧ (v 3) ≤ 901) ∧ (xE E 35 4 = x0 0 ∧ xE E 35 1 = 0) ∧ xJk0 E0 E ∧ ∃ p S, pAll (xE E0 36) (x0 0) = pLines (xE E0 36) (x0 0) (901 - (v 3)).toNat p S ∧ ((v 3) ≤ p ∧ p ≤ x0 0) ∧ xAb0 E S ∧ xGeo0 E (S 0).toNat (S 1).toNat ∧ xAD (xE E0 36) (x0 0) p E := hInv
        show xΨra0 x0 E0 E2 1
        have hP := hΦ.1
        have hP2 := hΦ.2
        obtain ⟨i0, ⟨ie, is⟩, ij, pp, S, i1, i2, i3, i4, ⟨a1, a2, a3, a4⟩⟩ := hI
        have hE2 := xFr_n hfr
        subst hE2
        have hk : tKd (xE E0 36) (x0 0) pp = 0 := by omega
        have hA : pAll (xE E0 36) (x0 0) = .ok (pp, S) := i1.trans (pLines_0 hk)
        refine ⟨?_, ij, fun p S2 h => ?_, by omega⟩
        · rw [hA]
          exact ⟨by omega, i3⟩
        · rw [hA] at h
          cases h
          exact i4
    · have hx : x ∈ [zxfra0_er0] := hx
      have hag : ∀ k, k < 5 → v2 k = v k := hag
      have hfr : xFr [] _ _ := hfr
      have ex := List.mem_singleton.mp hx
      subst ex
      obtain ⟨hF, hBd, hM⟩ := hXs
      have g3 : v2 3 = v 3 := hag 3 (by decide)
      have g4 : v2 4 = v 4 := hag 4 (by decide)
      have b0 : ((2147483648 : Nat) : Int) ≤ (v2 4) + 2147483648 ∧ (v2 4) + 2147483648 ≤ ((2147483648 : Nat) : Int) := xXb hBd 0 rfl
      have f0 : (v2 4) = 0 := xXf hF 0 rfl
      have e35_4 : xE E2 35 4 = xE E 35 4 := xFr_E hfr rfl
      have e35_5 : xE E2 35 5 = xE E 35 5 := xFr_E hfr rfl
      have e35_6 : xE E2 35 6 = xE E 35 6 := xFr_E hfr rfl
      have e35_7 : xE E2 35 7 = xE E 35 7 := xFr_E hfr rfl
      have e35_8 : xE E2 35 8 = xE E 35 8 := xFr_E hfr rfl
      have e35_2 : xE E2 35 2 = xE E 35 2 := xFr_E hfr rfl
      have e35_3 : xE E2 35 3 = xE E 35 3 := xFr_E hfr rfl
      have e35_1 : xE E2 35 1 = xE E 35 1 := xFr_E hfr rfl
      have e2_0 : xE E2 2 0 = xE E 2 0 := xFr_E hfr rfl
      have e2_1 : xE E2 2 1 = xE E 2 1 := xFr_E hfr rfl
      have e36 : ∀ i, xE E2 36 i = xE E 36 i := fun i => xFr_E hfr rfl
      have q36 : ∀ i, xE E 36 i = xE E0 36 i := fun i => xFr_E hFr0 rfl
      have e4 : ∀ i, xE E2 4 i = xE E 4 i := fun i => xFr_E hfr rfl
      have e5 : ∀ i, xE E2 5 i = xE E 5 i := fun i => xFr_E hfr rfl
      have hI : (0 ≤ (v 3) ∧ (v 3) ≤ 900) ∧ (xE E 35 4 = x0 0 ∧ xE E 35 1 = 0) ∧ xJk0 E0 E ∧ ∃ p S, pAll (xE E0 36) (x0 0) = pBind (pLine (xE E0 36) (x0 0) p S) (pLines (xE E0 36) (x0 0) (900 - (v 3)).toNat) ∧ ¬ tKd (xE E0 36) (x0 0) p = 0 ∧ ((v 3) ≤ p ∧ p ≤ x0 0) ∧ xOut0 (pLine (xE E0 36) (x0 0) p S) E (v 4) ∧ xGeo0 E (S 0).toNat (S 1).toNat ∧ xE E 2 0 = S 0 ∧ xE E 2 1 = S 1 := hInv
      show xΨra0 x0 E0 E2 0
      have hP := hΦ.1
      have hP2 := hΦ.2
      obtain ⟨i0, ⟨ie, is⟩, ij, pp, S, i1, hk, i2, i3, i4, i5, i6⟩ := hI
      rw [show (v 4) = v2 4 by omega] at i3
      obtain ⟨w, a, e1, e2, e3⟩ := xOut0_0 i3 (by omega)
      have hA : pAll (xE E0 36) (x0 0) = .error (w, a) := by rw [i1, e1]; rfl
      refine ⟨?_, fun i i0 i1 => by have w := ij i i0 i1; rw [e4 i, e5 i]; exact w, (fun p S h => by rw [hA] at h; cases h), by omega⟩
      rw [hA]
      exact ⟨by omega, by omega, by omega⟩
    · cases hx
end
section
/-! THE CLASS reads: a text (printed by m12.py) -/
noncomputable def zxfra17_ax0 : zyXp := (27, [283, 13, 147, 13], [147, 283], [], [(34359738369, 2147483648, 2147484548)], [(573441, 0), (573442, 0), (573443, 34359738360), (573444, 34359738369), (573446, 0)])
noncomputable def zpfra17_a : zyPh := (0, [283, 34359738369, 147, 13], [(0, 4294967295), (2147483648, 2147484548), (0, 4294967295), (0, 4294967295)], [], [])
noncomputable def zxfra17_bx0 : zyXp := (36, [283, 13, 147, 13], [283], [(23, 0, 137438953473, 0)], [(137438953473, 2147483649, 2147483649)], [])
noncomputable def zxfra17_br0 : zyXp := (0, [], [0], [(22, 0, 137438953473, 0)], [(137438953473, 2147483648, 2147483648)], [])
noncomputable def zpfra17_b : zyPh := (30, [283, 13, 147, 13], [(0, 4294967295), (0, 4294967295), (0, 4294967295), (0, 4294967295), (2147483648, 2147483649)], [], [137438953473])
noncomputable def zxfra17_cx0 : zyXp := (41, [283, 13, 147, 0], [], [], [], [])
noncomputable def zpfra17_c : zyPh := (39, [283, 13, 147, 13], [(0, 4294967295), (0, 4294967295), (0, 4294967295), (0, 4294967295)], [], [])
noncomputable def zxfra17_dx0 : zyXp := (57, [283, 13, 147, 103079215105], [147, 283], [(21, 0, 7200, 103079215105), (24, 137438953473, 35, 56), (23, 0, 137438953473, 0)], [(103079215105, 2147483648, 2147484548), (137438953473, 2147483649, 2147483653)], [])
noncomputable def zxfra17_dr0 : zyXp := (0, [], [8], [(20, 0, 7200, 103079215105)], [(103079215105, 2147484549, 2147484549)], [])
noncomputable def zxfra17_dr1 : zyXp := (0, [], [8], [(21, 0, 7200, 103079215105), (24, 137438953473, 35, 56), (22, 0, 137438953473, 0)], [(103079215105, 2147483648, 2147484548), (137438953473, 2147483648, 2147483648)], [])
noncomputable def zpfra17_d : zyPh := (41, [283, 13, 147, 103079215105], [(0, 4294967295), (0, 4294967295), (0, 4294967295), (2147483648, 2147484549)], [], [])
noncomputable def zxfra17_ex0 : zyXp := (66, [283, 13, 147, 103079215105], [283], [(23, 0, 137438953473, 0)], [(103079215105, 2147483648, 2147484548), (137438953473, 2147483649, 2147483649)], [])
noncomputable def zxfra17_er0 : zyXp := (0, [], [0], [(22, 0, 137438953473, 0)], [(137438953473, 2147483648, 2147483648)], [])
noncomputable def zpfra17_e : zyPh := (60, [283, 13, 147, 103079215105], [(0, 4294967295), (0, 4294967295), (0, 4294967295), (2147483648, 2147484548), (2147483648, 2147483649)], [], [137438953473])
noncomputable def zxfra17_fx0 : zyXp := (41, [283, 13, 147, 103079215113], [], [], [(103079215105, 2147483648, 2147484548), (103079215113, 2147483649, 2147484549)], [])
noncomputable def zpfra17_f : zyPh := (69, [283, 13, 147, 103079215105], [(0, 4294967295), (0, 4294967295), (0, 4294967295), (2147483648, 2147484548)], [], [])
noncomputable def zpfra17 (i : Nat) : zyPh := zif (Nat.beq i 0) (zpfra17_a) (zif (Nat.beq i 1) (zpfra17_b) (zif (Nat.beq i 2) (zpfra17_c) (zif (Nat.beq i 3) (zpfra17_d) (zif (Nat.beq i 4) (zpfra17_e) (zpfra17_f)))))
noncomputable def zXfra17 (i : Nat) : List zyXp := zif (Nat.beq i 0) ([zxfra17_ax0]) (zif (Nat.beq i 1) ([zxfra17_bx0]) (zif (Nat.beq i 2) ([zxfra17_cx0]) (zif (Nat.beq i 3) ([zxfra17_dx0]) (zif (Nat.beq i 4) ([zxfra17_ex0]) ([zxfra17_fx0])))))
noncomputable def zRfra17 (i : Nat) : List zyXp := zif (Nat.beq i 0) ([]) (zif (Nat.beq i 1) ([zxfra17_br0]) (zif (Nat.beq i 2) ([]) (zif (Nat.beq i 3) ([zxfra17_dr0, zxfra17_dr1]) (zif (Nat.beq i 4) ([zxfra17_er0]) ([])))))
noncomputable def zFfra17 (i : Nat) : zyR := zif (Nat.beq i 0) ([(35, 1, 4), (35, 6, 6)]) (zif (Nat.beq i 1) ([]) (zif (Nat.beq i 2) ([]) (zif (Nat.beq i 3) ([]) (zif (Nat.beq i 4) ([]) ([])))))
noncomputable def zSfra17 (i : Nat) : Nat := zif (Nat.beq i 0) (0) (zif (Nat.beq i 1) (0) (zif (Nat.beq i 2) (0) (zif (Nat.beq i 3) (0) (zif (Nat.beq i 4) (0) (0)))))
theorem xOut17_0 {R : pR} {E2 : zyEm} {r : Int} (h : xOut17 R E2 r) (hr : r = 0) : ∃ w a, R = .error (w, a) ∧ xE E2 35 2 = w ∧ xE E2 35 3 = a := by
  cases R with
  | error e => exact ⟨e.1, e.2, rfl, h.2⟩
  | ok x =>
    have h1 : r = 1 := h.1
    omega
theorem xOut17_1 {R : pR} {E2 : zyEm} {r : Int} (h : xOut17 R E2 r) (hr : ¬ r = 0) : ∃ p S, R = .ok (p, S) ∧ xE E2 35 6 = p ∧ xAb17 E2 S := by
  cases R with
  | error e => exact absurd h.1 hr
  | ok x => exact ⟨x.1, x.2, rfl, h.2⟩
theorem xGeo17_rl {E E2 : zyEm} {r c : Nat} (h : xGeo17 E r c) (hf : xFr [(35, 2, 3), (35, 5, 8), (18, 5, 5), (18, 8, 8), (33, 1, 1), (34, 0, 59), (27, 0, 30), (28, 0, 30), (29, 0, 30), (30, 0, 30), (31, 0, 7), (32, 0, 7)] E E2) : xGeo17 E2 r c := by
  refine ⟨fun s hs => ?_, fun g hg => ?_⟩
  · rw [(show xE E2 20 s = xE E 20 s from xFr_E hf rfl), (show xE E2 21 s = xE E 21 s from xFr_E hf rfl), (show xE E2 22 s = xE E 22 s from xFr_E hf rfl), (show xE E2 23 s = xE E 23 s from xFr_E hf rfl), (show xE E2 24 s = xE E 24 s from xFr_E hf rfl)]
    exact h.1 s hs
  · rw [(show xE E2 25 g = xE E 25 g from xFr_E hf rfl), (show xE E2 26 g = xE E 26 g from xFr_E hf rfl)]
    exact h.2 g hg
/-- what reading a text answers -/
def xOutA17 (R : pR) (E2 : zyEm) (r : Int) : Prop := match R with
  | .ok (_, S) => r = 1 ∧ xAb17 E2 S
  | .error (w, a) => r = 0 ∧ xE E2 35 2 = w ∧ xE E2 35 3 = a
def xΦra17 (x : Nat → Int) (_ : zyEm) : Prop := 0 ≤ x 0 ∧ x 0 ≤ 900
def xΨra17 (x : Nat → Int) (E E2 : zyEm) (r : Int) : Prop := xOutA17 (pAll (xE E 36) (x 0)) E2 r ∧ xJk17 E E2 ∧ (∀ p S, pAll (xE E 36) (x 0) = .ok (p, S) → xGeo17 E2 (S 0).toNat (S 1).toNat) ∧ xE E2 35 1 = 0
noncomputable def fpfra17 : zyR := [(35, 1, 8), (18, 5, 5), (18, 8, 8), (19, 0, 3), (20, 0, 79), (21, 0, 79), (22, 0, 79), (23, 0, 79), (24, 0, 79), (25, 0, 30), (26, 0, 30), (27, 0, 30), (28, 0, 30), (29, 0, 30), (30, 0, 30), (33, 1, 1), (34, 0, 59), (31, 0, 7), (32, 0, 7)]
theorem zyfra17_run : zyrS zymc zxi58 (58, 0, 0, 2, 0) 11 zpfra17 (fun _ _ => []) zFfra17 zSfra17 zXfra17 zRfra17 6 = true := by decide +kernel
theorem zyfra17_ck : zyAll (fun i => xsubR (zFfra17 i) fpfra17 && ((zXfra17 i).all xckX && (zRfra17 i).all (fun x => xckX x && xrtB true x))) 6 = true := by decide +kernel
def xIfra17 (i : Nat) (x0 : Nat → Int) (E0 : zyEm) (v : Nat → Int) (E : zyEm) : Prop := if i = 0 then (E = E0 ∧ (v 1) = x0 0) else if i = 1 then ((xE E 35 4 = x0 0 ∧ xE E 35 1 = 0) ∧ xJk17 E0 E ∧ xOut17 (pSz (xE E0 36) (x0 0)) E (v 4) ∧ ∀ p S, pSz (xE E0 36) (x0 0) = .ok (p, S) → xGeo17 E (S 0).toNat (S 1).toNat) else if i = 2 then ((xE E 35 4 = x0 0 ∧ xE E 35 1 = 0) ∧ xJk17 E0 E ∧ ∃ p S, pAll (xE E0 36) (x0 0) = pLines (xE E0 36) (x0 0) 901 p S ∧ (0 ≤ p ∧ p ≤ x0 0) ∧ xAb17 E S ∧ xGeo17 E (S 0).toNat (S 1).toNat ∧ xAD (xE E0 36) (x0 0) p E) else if i = 3 then ((0 ≤ (v 3) ∧ (v 3) ≤ 901) ∧ (xE E 35 4 = x0 0 ∧ xE E 35 1 = 0) ∧ xJk17 E0 E ∧ ∃ p S, pAll (xE E0 36) (x0 0) = pLines (xE E0 36) (x0 0) (901 - (v 3)).toNat p S ∧ ((v 3) ≤ p ∧ p ≤ x0 0) ∧ xAb17 E S ∧ xGeo17 E (S 0).toNat (S 1).toNat ∧ xAD (xE E0 36) (x0 0) p E) else if i = 4 then ((0 ≤ (v 3) ∧ (v 3) ≤ 900) ∧ (xE E 35 4 = x0 0 ∧ xE E 35 1 = 0) ∧ xJk17 E0 E ∧ ∃ p S, pAll (xE E0 36) (x0 0) = pBind (pLine (xE E0 36) (x0 0) p S) (pLines (xE E0 36) (x0 0) (900 - (v 3)).toNat) ∧ ¬ tKd (xE E0 36) (x0 0) p = 0 ∧ ((v 3) ≤ p ∧ p ≤ x0 0) ∧ xOut17 (pLine (xE E0 36) (x0 0) p S) E (v 4) ∧ xGeo17 E (S 0).toNat (S 1).toNat ∧ xE E 19 0 = S 0 ∧ xE E 19 1 = S 1) else ((0 ≤ (v 3) ∧ (v 3) ≤ 900) ∧ (xE E 35 4 = x0 0 ∧ xE E 35 1 = 0) ∧ xJk17 E0 E ∧ ∃ p S, pAll (xE E0 36) (x0 0) = pLines (xE E0 36) (x0 0) (900 - (v 3)).toNat p S ∧ ((v 3) + 1 ≤ p ∧ p ≤ x0 0) ∧ xAb17 E S ∧ xGeo17 E (S 0).toNat (S 1).toNat ∧ xAD (xE E0 36) (x0 0) p E)
def xMfra17 (i : Nat) (x0 : Nat → Int) (E0 : zyEm) (v : Nat → Int) (E : zyEm) : Nat := if i = 0 then (10000) else if i = 1 then (9999) else if i = 2 then (9998) else if i = 3 then (3 * (1000 - (v 3)).toNat + 2) else if i = 4 then (3 * (1000 - (v 3)).toNat + 1) else (3 * (1000 - (v 3)).toNat)
theorem xRa17 {l : Launch} {en : zEn} {me : zMe} (hen : zG zxMeta 58 = some en) (hme : zG zMeth 58 = some me) : ∀ B, xFq l zymc B en me 11 35 18 fpfra17 true xΦra17 xΨra17 := by
  have een : zG zxMeta 58 = some (zxi58, 3, 4, 5, 58, 0, 0, 2, 0) := rfl
  obtain ⟨me1, hme1, hOK⟩ := zall hen
  rw [hme] at hme1
  cases hme1
  rw [een] at hen
  cases hen
  have hr := zyfra17_run
  have hck := fun i hi => zyAll_iff zyfra17_ck i hi
  simp only [Bool.and_eq_true] at hck
  obtain ⟨mefad, hmefad, -⟩ := zall (show zG zxMeta 73 = some (zxi73, 1, 1, 5, 73, 0, 0, 0, 0) from rfl)
  have hfad := xAd (l := l) (show zG zxMeta 73 = some (zxi73, 1, 1, 5, 73, 0, 0, 0, 0) from rfl) hmefad
  obtain ⟨mefrz17, hmefrz17, -⟩ := zall (show zG zxMeta 60 = some (zxi60, 2, 3, 5, 60, 0, 0, 2, 0) from rfl)
  have hfrz17 := xRz17 (l := l) (show zG zxMeta 60 = some (zxi60, 2, 3, 5, 60, 0, 0, 2, 0) from rfl) hmefrz17
  obtain ⟨mefrl17, hmefrl17, -⟩ := zall (show zG zxMeta 61 = some (zxi61, 2, 2, 5, 61, 0, 0, 2, 0) from rfl)
  have hfrl17 := xRl17 (l := l) (show zG zxMeta 61 = some (zxi61, 2, 2, 5, 61, 0, 0, 2, 0) from rfl) hmefrl17
  intro B
  refine xcutq (mi := zymc) (B := B) hOK rfl rfl (ι := Fin 6) (fun i => zpfra17 i.val) (fun _ _ => []) (fun i => zFfra17 i.val) (fun i => zSfra17 i.val) (fun i => zXfra17 i.val) (fun i => zRfra17 i.val) (fun i y2 ct en2 me2 h => by cases h) 200000 (fun i => zyAll_iff hr i.val i.isLt) (fun i => (hck i.val i.isLt).1) (fun i => (hck i.val i.isLt).2.1) (fun i => (hck i.val i.isLt).2.2) ⟨0, by decide⟩ ⟨rfl, rfl, rfl, rfl⟩ ⟨by decide, by decide⟩ (fun i x0 E0 v E => xIfra17 i.val x0 E0 v E) (fun i x0 E0 v E => xMfra17 i.val x0 E0 v E) ?_ ?_ ?_
  · intro x0 E hx0 hT hΦ
    have hΦ : xΦra17 x0 E := hΦ
    refine ⟨fun k p hp => ?_, ?_⟩
    · have hk : k < 4 := (List.getElem?_eq_some_iff.mp hp).1
      have hk : k = 0 ∨ k = 1 ∨ k = 2 ∨ k = 3 := by omega
      rcases hk with rfl | rfl | rfl | rfl
      · have hp : some (0, 4294967295) = some p := hp
        cases hp
        show ((0 : Nat) : Int) ≤ 0 + 2147483648 ∧ 0 + 2147483648 ≤ ((4294967295 : Nat) : Int)
        omega
      · have hp : some (2147483648, 2147484548) = some p := hp
        cases hp
        show ((2147483648 : Nat) : Int) ≤ x0 0 + 2147483648 ∧ x0 0 + 2147483648 ≤ ((2147484548 : Nat) : Int)
        have hx := hx0 0
        have hP := hΦ.1
        have hP2 := hΦ.2
        omega
      · have hp : some (0, 4294967295) = some p := hp
        cases hp
        show ((0 : Nat) : Int) ≤ 0 + 2147483648 ∧ 0 + 2147483648 ≤ ((4294967295 : Nat) : Int)
        omega
      · have hp : some (0, 4294967295) = some p := hp
        cases hp
        show ((0 : Nat) : Int) ≤ 0 + 2147483648 ∧ 0 + 2147483648 ≤ ((4294967295 : Nat) : Int)
        omega
    · show E = E ∧ (x0 0) = x0 0
      exact ⟨rfl, rfl⟩
  · intro x0 s Wg hRu hrx hT0 hΦ i v H hT hrv hInv hKc hFr0 hIH x hx ρ2 v2 N2 H2 locs lsB stA hAt hB hv hr2 hXs hag hfr hFr hT2
    rcases i with ⟨i, hi⟩
    have hi2 : i = 0 ∨ i = 1 ∨ i = 2 ∨ i = 3 ∨ i = 4 ∨ i = 5 := by omega
    rcases hi2 with rfl | rfl | rfl | rfl | rfl | rfl
    · have hx : x ∈ [zxfra17_ax0] := hx
      have hag : ∀ k, k < 4 → v2 k = v k := hag
      have hfr : xFr [(35, 1, 4), (35, 6, 6)] _ _ := hfr
      have ex := List.mem_singleton.mp hx
      subst ex
      obtain ⟨hF, hBd, hM⟩ := hXs
      have g1 : v2 1 = v 1 := hag 1 (by decide)
      have b0 : ((2147483648 : Nat) : Int) ≤ (v2 1) + 2147483648 ∧ (v2 1) + 2147483648 ≤ ((2147484548 : Nat) : Int) := xXb hBd 0 rfl
      have m0 : xE (zyEl zymc B H2) 35 1 = 0 := xXm hM 0 rfl
      have m1 : xE (zyEl zymc B H2) 35 2 = 0 := xXm hM 1 rfl
      have m2 : xE (zyEl zymc B H2) 35 3 = (-1) := xXm hM 2 rfl
      have m3 : xE (zyEl zymc B H2) 35 4 = (v2 1) := xXm hM 3 rfl
      have m4 : xE (zyEl zymc B H2) 35 6 = 0 := xXm hM 4 rfl
      have e35_5 : xE (zyEl zymc B H2) 35 5 = xE (zyEl zymc B H) 35 5 := xFr_E hfr rfl
      have e35_7 : xE (zyEl zymc B H2) 35 7 = xE (zyEl zymc B H) 35 7 := xFr_E hfr rfl
      have e35_8 : xE (zyEl zymc B H2) 35 8 = xE (zyEl zymc B H) 35 8 := xFr_E hfr rfl
      have e19_0 : xE (zyEl zymc B H2) 19 0 = xE (zyEl zymc B H) 19 0 := xFr_E hfr rfl
      have e19_1 : xE (zyEl zymc B H2) 19 1 = xE (zyEl zymc B H) 19 1 := xFr_E hfr rfl
      have e36 : ∀ i, xE (zyEl zymc B H2) 36 i = xE (zyEl zymc B H) 36 i := fun i => xFr_E hfr rfl
      have q36 : ∀ i, xE (zyEl zymc B H) 36 i = xE (zyEl zymc B s.heap) 36 i := fun i => xFr_E hFr0 rfl
      have e21 : ∀ i, xE (zyEl zymc B H2) 21 i = xE (zyEl zymc B H) 21 i := fun i => xFr_E hfr rfl
      have e22 : ∀ i, xE (zyEl zymc B H2) 22 i = xE (zyEl zymc B H) 22 i := fun i => xFr_E hfr rfl
      have hI : (zyEl zymc B H) = (zyEl zymc B s.heap) ∧ (v 1) = x0 0 := hInv
      have q35_4 : xE (zyEl zymc B H) 35 4 = xE (zyEl zymc B s.heap) 35 4 := by rw [hI.1]
      have q35_5 : xE (zyEl zymc B H) 35 5 = xE (zyEl zymc B s.heap) 35 5 := by rw [hI.1]
      have q35_6 : xE (zyEl zymc B H) 35 6 = xE (zyEl zymc B s.heap) 35 6 := by rw [hI.1]
      have q35_7 : xE (zyEl zymc B H) 35 7 = xE (zyEl zymc B s.heap) 35 7 := by rw [hI.1]
      have q35_8 : xE (zyEl zymc B H) 35 8 = xE (zyEl zymc B s.heap) 35 8 := by rw [hI.1]
      have q35_2 : xE (zyEl zymc B H) 35 2 = xE (zyEl zymc B s.heap) 35 2 := by rw [hI.1]
      have q35_3 : xE (zyEl zymc B H) 35 3 = xE (zyEl zymc B s.heap) 35 3 := by rw [hI.1]
      have q35_1 : xE (zyEl zymc B H) 35 1 = xE (zyEl zymc B s.heap) 35 1 := by rw [hI.1]
      have q19_0 : xE (zyEl zymc B H) 19 0 = xE (zyEl zymc B s.heap) 19 0 := by rw [hI.1]
      have q19_1 : xE (zyEl zymc B H) 19 1 = xE (zyEl zymc B s.heap) 19 1 := by rw [hI.1]
      have q21 : ∀ i, xE (zyEl zymc B H) 21 i = xE (zyEl zymc B s.heap) 21 i := fun i => by rw [hI.1]
      have q22 : ∀ i, xE (zyEl zymc B H) 22 i = xE (zyEl zymc B s.heap) 22 i := fun i => by rw [hI.1]
      have hP := hΦ.1
      have hP2 := hΦ.2
      have tt : xE (zyEl zymc B H2) 36 = xE (zyEl zymc B s.heap) 36 := funext fun i => (e36 i).trans (q36 i)
      refine xCa hRu hIH hAt hB hv hFr (hfrz17 B) (ix := 31) (ax := 960) rfl rfl rfl hmefrz17 ⟨_, rfl, rfl, by decide⟩ ⟨rfl, rfl, rfl⟩ (by decide) [] [] [] rfl ⟨rfl, rfl⟩ (by decide +kernel) xcs_n (by decide +kernel) ?_ (fun H3 r hT3 hf3 hFr3 hr3 hΨ3 => ?_)
      · show xΦrz17 (xfv []) (zyEl zymc B H2)
        exact ⟨by omega, by omega⟩
      · have hΨ3 : xΨfrz17 (xfv []) (zyEl zymc B H2) (zyEl zymc B H3) r := hΨ3
        have d35_4 : xE (zyEl zymc B H3) 35 4 = xE (zyEl zymc B H2) 35 4 := xFr_E hf3 rfl
        have d35_1 : xE (zyEl zymc B H3) 35 1 = xE (zyEl zymc B H2) 35 1 := xFr_E hf3 rfl
        have d36 : ∀ i, xE (zyEl zymc B H3) 36 i = xE (zyEl zymc B H2) 36 i := fun i => xFr_E hf3 rfl
        obtain ⟨w1, w2, w3⟩ := hΨ3
        rw [tt, show xE (zyEl zymc B H2) 35 4 = x0 0 by omega] at w1 w3
        have hr01 := xOut17_r w1
        refine ⟨⟨1, by decide⟩, [0, 0, 0, 0], [0, 0, 0, 0, r], rfl, ⟨by decide +kernel, ⟨rfl, by decide +kernel⟩, (xcs_c rfl (xcs_c rfl (xcs_c rfl (xcs_c rfl xcs_n)))), (xe_0 (xe_0 (xe_0 (xe_0 (xe_c (by omega) (by omega) rfl xe_n))))), xkq_n⟩, (by rw [if_pos rfl]; exact ⟨4, [], rfl, by decide, rfl, xst_n⟩), ?_, ?_⟩
        · show (xE (zyEl zymc B H3) 35 4 = x0 0 ∧ xE (zyEl zymc B H3) 35 1 = 0) ∧ xJk17 (zyEl zymc B s.heap) (zyEl zymc B H3) ∧ xOut17 (pSz (xE (zyEl zymc B s.heap) 36) (x0 0)) (zyEl zymc B H3) (r : Int) ∧ ∀ p S, pSz (xE (zyEl zymc B s.heap) 36) (x0 0) = .ok (p, S) → xGeo17 (zyEl zymc B H3) (S 0).toNat (S 1).toNat
          refine ⟨⟨by omega, by omega⟩, fun i i0 i1 => ?_, w1, w3⟩
          have w := w2 i i0 i1
          rw [e21 i, q21 i, e22 i, q22 i] at w
          exact w
        · show 9999 < 10000
          omega
    · have hx : x ∈ [zxfra17_bx0] := hx
      have hag : ∀ k, k < 5 → v2 k = v k := hag
      have hfr : xFr [] _ _ := hfr
      have ex := List.mem_singleton.mp hx
      subst ex
      obtain ⟨hF, hBd, hM⟩ := hXs
      have g4 : v2 4 = v 4 := hag 4 (by decide)
      have b0 : ((2147483649 : Nat) : Int) ≤ (v2 4) + 2147483648 ∧ (v2 4) + 2147483648 ≤ ((2147483649 : Nat) : Int) := xXb hBd 0 rfl
      have f0 : ¬ (v2 4) = 0 := xXf hF 0 rfl
      have e35_4 : xE (zyEl zymc B H2) 35 4 = xE (zyEl zymc B H) 35 4 := xFr_E hfr rfl
      have e35_5 : xE (zyEl zymc B H2) 35 5 = xE (zyEl zymc B H) 35 5 := xFr_E hfr rfl
      have e35_6 : xE (zyEl zymc B H2) 35 6 = xE (zyEl zymc B H) 35 6 := xFr_E hfr rfl
      have e35_7 : xE (zyEl zymc B H2) 35 7 = xE (zyEl zymc B H) 35 7 := xFr_E hfr rfl
      have e35_8 : xE (zyEl zymc B H2) 35 8 = xE (zyEl zymc B H) 35 8 := xFr_E hfr rfl
      have e35_2 : xE (zyEl zymc B H2) 35 2 = xE (zyEl zymc B H) 35 2 := xFr_E hfr rfl
      have e35_3 : xE (zyEl zymc B H2) 35 3 = xE (zyEl zymc B H) 35 3 := xFr_E hfr rfl
      have e35_1 : xE (zyEl zymc B H2) 35 1 = xE (zyEl zymc B H) 35 1 := xFr_E hfr rfl
      have e19_0 : xE (zyEl zymc B H2) 19 0 = xE (zyEl zymc B H) 19 0 := xFr_E hfr rfl
      have e19_1 : xE (zyEl zymc B H2) 19 1 = xE (zyEl zymc B H) 19 1 := xFr_E hfr rfl
      have e36 : ∀ i, xE (zyEl zymc B H2) 36 i = xE (zyEl zymc B H) 36 i := fun i => xFr_E hfr rfl
      have q36 : ∀ i, xE (zyEl zymc B H) 36 i = xE (zyEl zymc B s.heap) 36 i := fun i => xFr_E hFr0 rfl
      have e21 : ∀ i, xE (zyEl zymc B H2) 21 i = xE (zyEl zymc B H) 21 i := fun i => xFr_E hfr rfl
      have e22 : ∀ i, xE (zyEl zymc B H2) 22 i = xE (zyEl zymc B H) 22 i := fun i => xFr_E hfr rfl
      have hI : (xE (zyEl zymc B H) 35 4 = x0 0 ∧ xE (zyEl zymc B H) 35 1 = 0) ∧ xJk17 (zyEl zymc B s.heap) (zyEl zymc B H) ∧ xOut17 (pSz (xE (zyEl zymc B s.heap) 36) (x0 0)) (zyEl zymc B H) (v 4) ∧ ∀ p S, pSz (xE (zyEl zymc B s.heap) 36) (x0 0) = .ok (p, S) → xGeo17 (zyEl zymc B H) (S 0).toNat (S 1).toNat := hInv
      have hP := hΦ.1
      have hP2 := hΦ.2
      obtain ⟨⟨ie, is⟩, ij, i1, i2⟩ := hI
      rw [show (v 4) = v2 4 by omega] at i1
      have tt : xE (zyEl zymc B H2) 36 = xE (zyEl zymc B s.heap) 36 := funext fun i => (e36 i).trans (q36 i)
      obtain ⟨pp, S, e1, e2, e3⟩ := xOut17_1 i1 (by omega)
      have hpp := pSz_p (by omega) e1
      refine xCa hRu hIH hAt hB hv hFr (hfad B) (ix := 35) (ax := 1168) rfl rfl rfl hmefad ⟨_, rfl, rfl, by decide⟩ ⟨rfl, rfl, rfl⟩ (by decide) [] [] [] rfl ⟨rfl, rfl⟩ (by decide +kernel) xcs_n (by decide +kernel) ?_ (fun H3 r hT3 hf3 hFr3 hr3 hΨ3 => ?_)
      · show xΦad (xfv []) (zyEl zymc B H2)
        unfold xΦad
        omega
      · have hΨ3 : xΨad (xfv []) (zyEl zymc B H2) (zyEl zymc B H3) r := hΨ3
        have d35_4 : xE (zyEl zymc B H3) 35 4 = xE (zyEl zymc B H2) 35 4 := xFr_E hf3 rfl
        have d35_2 : xE (zyEl zymc B H3) 35 2 = xE (zyEl zymc B H2) 35 2 := xFr_E hf3 rfl
        have d35_3 : xE (zyEl zymc B H3) 35 3 = xE (zyEl zymc B H2) 35 3 := xFr_E hf3 rfl
        have d35_1 : xE (zyEl zymc B H3) 35 1 = xE (zyEl zymc B H2) 35 1 := xFr_E hf3 rfl
        have d19_0 : xE (zyEl zymc B H3) 19 0 = xE (zyEl zymc B H2) 19 0 := xFr_E hf3 rfl
        have d19_1 : xE (zyEl zymc B H3) 19 1 = xE (zyEl zymc B H2) 19 1 := xFr_E hf3 rfl
        have d36 : ∀ i, xE (zyEl zymc B H3) 36 i = xE (zyEl zymc B H2) 36 i := fun i => xFr_E hf3 rfl
        have d21 : ∀ i, xE (zyEl zymc B H3) 21 i = xE (zyEl zymc B H2) 21 i := fun i => xFr_E hf3 rfl
        have d22 : ∀ i, xE (zyEl zymc B H3) 22 i = xE (zyEl zymc B H2) 22 i := fun i => xFr_E hf3 rfl
        unfold xΨad at hΨ3
        rw [tt, show xE (zyEl zymc B H2) 35 4 = x0 0 by omega, show xE (zyEl zymc B H2) 35 6 = pp by omega] at hΨ3
        refine ⟨⟨2, by decide⟩, [0, 0, 0, 0], [0, 0, 0, 0], rfl, ⟨by decide +kernel, ⟨rfl, by decide +kernel⟩, (xcs_c rfl (xcs_c rfl (xcs_c rfl (xcs_c rfl xcs_n)))), (xe_0 (xe_0 (xe_0 (xe_0 xe_n)))), xkq_n⟩, (by rw [if_neg (by decide)]; exact xst_n), ?_, ?_⟩
        · show (xE (zyEl zymc B H3) 35 4 = x0 0 ∧ xE (zyEl zymc B H3) 35 1 = 0) ∧ xJk17 (zyEl zymc B s.heap) (zyEl zymc B H3) ∧ ∃ p S, pAll (xE (zyEl zymc B s.heap) 36) (x0 0) = pLines (xE (zyEl zymc B s.heap) 36) (x0 0) 901 p S ∧ (0 ≤ p ∧ p ≤ x0 0) ∧ xAb17 (zyEl zymc B H3) S ∧ xGeo17 (zyEl zymc B H3) (S 0).toNat (S 1).toNat ∧ xAD (xE (zyEl zymc B s.heap) 36) (x0 0) p (zyEl zymc B H3)
          exact ⟨⟨by omega, by omega⟩, fun i i0 i1 => by have w := ij i i0 i1; rw [d21 i, e21 i, d22 i, e22 i]; exact w, pp, S, by unfold pAll; rw [e1]; rfl, by omega, xAb17_35 e3 (xFr_trans (xFr_mono (by decide) hfr) (xFr_mono (by decide) hf3)), xGeo17_35 (i2 _ _ e1) (xFr_trans (xFr_mono (by decide) hfr) (xFr_mono (by decide) hf3)), hΨ3⟩
        · show 9998 < 9999
          omega
    · have hx : x ∈ [zxfra17_cx0] := hx
      have hag : ∀ k, k < 4 → v2 k = v k := hag
      have hfr : xFr [] _ _ := hfr
      have ex := List.mem_singleton.mp hx
      subst ex
      obtain ⟨hF, hBd, hM⟩ := hXs
      have e35_4 : xE (zyEl zymc B H2) 35 4 = xE (zyEl zymc B H) 35 4 := xFr_E hfr rfl
      have e35_5 : xE (zyEl zymc B H2) 35 5 = xE (zyEl zymc B H) 35 5 := xFr_E hfr rfl
      have e35_6 : xE (zyEl zymc B H2) 35 6 = xE (zyEl zymc B H) 35 6 := xFr_E hfr rfl
      have e35_7 : xE (zyEl zymc B H2) 35 7 = xE (zyEl zymc B H) 35 7 := xFr_E hfr rfl
      have e35_8 : xE (zyEl zymc B H2) 35 8 = xE (zyEl zymc B H) 35 8 := xFr_E hfr rfl
      have e35_2 : xE (zyEl zymc B H2) 35 2 = xE (zyEl zymc B H) 35 2 := xFr_E hfr rfl
      have e35_3 : xE (zyEl zymc B H2) 35 3 = xE (zyEl zymc B H) 35 3 := xFr_E hfr rfl
      have e35_1 : xE (zyEl zymc B H2) 35 1 = xE (zyEl zymc B H) 35 1 := xFr_E hfr rfl
      have e19_0 : xE (zyEl zymc B H2) 19 0 = xE (zyEl zymc B H) 19 0 := xFr_E hfr rfl
      have e19_1 : xE (zyEl zymc B H2) 19 1 = xE (zyEl zymc B H) 19 1 := xFr_E hfr rfl
      have e36 : ∀ i, xE (zyEl zymc B H2) 36 i = xE (zyEl zymc B H) 36 i := fun i => xFr_E hfr rfl
      have q36 : ∀ i, xE (zyEl zymc B H) 36 i = xE (zyEl zymc B s.heap) 36 i := fun i => xFr_E hFr0 rfl
      have e21 : ∀ i, xE (zyEl zymc B H2) 21 i = xE (zyEl zymc B H) 21 i := fun i => xFr_E hfr rfl
      have e22 : ∀ i, xE (zyEl zymc B H2) 22 i = xE (zyEl zymc B H) 22 i := fun i => xFr_E hfr rfl
      have hI : (xE (zyEl zymc B H) 35 4 = x0 0 ∧ xE (zyEl zymc B H) 35 1 = 0) ∧ xJk17 (zyEl zymc B s.heap) (zyEl zymc B H) ∧ ∃ p S, pAll (xE (zyEl zymc B s.heap) 36) (x0 0) = pLines (xE (zyEl zymc B s.heap) 36) (x0 0) 901 p S ∧ (0 ≤ p ∧ p ≤ x0 0) ∧ xAb17 (zyEl zymc B H) S ∧ xGeo17 (zyEl zymc B H) (S 0).toNat (S 1).toNat ∧ xAD (xE (zyEl zymc B s.heap) 36) (x0 0) p (zyEl zymc B H) := hInv
      have hP := hΦ.1
      have hP2 := hΦ.2
      obtain ⟨⟨ie, is⟩, ij, pp, S, i1, i2, i3, i4, i5⟩ := hI
      have hE2 := xFr_n hfr
      refine xGo hIH hAt hB hv hFr ⟨3, by decide⟩ [0, 0, 0, 0] [0, 0, 0, 0] rfl ⟨by decide +kernel, ⟨rfl, by decide +kernel⟩, (xcs_c rfl (xcs_c rfl (xcs_c rfl (xcs_c rfl xcs_n)))), (xe_0 (xe_0 (xe_0 (xe_c (by omega) (by omega) rfl xe_n)))), xkq_n⟩ xst_n ?_ ?_
      · show (0 ≤ (0 : Int) ∧ (0 : Int) ≤ 901) ∧ (xE (zyEl zymc B H2) 35 4 = x0 0 ∧ xE (zyEl zymc B H2) 35 1 = 0) ∧ xJk17 (zyEl zymc B s.heap) (zyEl zymc B H2) ∧ ∃ p S, pAll (xE (zyEl zymc B s.heap) 36) (x0 0) = pLines (xE (zyEl zymc B s.heap) 36) (x0 0) (901 - (0 : Int)).toNat p S ∧ ((0 : Int) ≤ p ∧ p ≤ x0 0) ∧ xAb17 (zyEl zymc B H2) S ∧ xGeo17 (zyEl zymc B H2) (S 0).toNat (S 1).toNat ∧ xAD (xE (zyEl zymc B s.heap) 36) (x0 0) p (zyEl zymc B H2)
        rw [hE2]
        exact ⟨by omega, ⟨ie, is⟩, ij, pp, S, i1, by omega, i3, i4, i5⟩
      · show 3 * (1000 - (0 : Int)).toNat + 2 < 9998
        omega
    · have hx : x ∈ [zxfra17_dx0] := hx
      have hag : ∀ k, k < 4 → v2 k = v k := hag
      have hfr : xFr [] _ _ := hfr
      have ex := List.mem_singleton.mp hx
      subst ex
      obtain ⟨hF, hBd, hM⟩ := hXs
      have g3 : v2 3 = v 3 := hag 3 (by decide)
      have b0 : ((2147483648 : Nat) : Int) ≤ (v2 3) + 2147483648 ∧ (v2 3) + 2147483648 ≤ ((2147484548 : Nat) : Int) := xXb hBd 0 rfl
      have b1 : ((2147483649 : Nat) : Int) ≤ (v2 4) + 2147483648 ∧ (v2 4) + 2147483648 ≤ ((2147483653 : Nat) : Int) := xXb hBd 1 rfl
      have f0 : (v2 3) ≤ 900 := xXf hF 0 rfl
      have f1 : (0 : Int) ≤ 7 ∧ xE (zyEl zymc B H) 35 7 = (v2 4) := xXf hF 1 rfl
      have f2 : ¬ (v2 4) = 0 := xXf hF 2 rfl
      have e35_4 : xE (zyEl zymc B H2) 35 4 = xE (zyEl zymc B H) 35 4 := xFr_E hfr rfl
      have e35_5 : xE (zyEl zymc B H2) 35 5 = xE (zyEl zymc B H) 35 5 := xFr_E hfr rfl
      have e35_6 : xE (zyEl zymc B H2) 35 6 = xE (zyEl zymc B H) 35 6 := xFr_E hfr rfl
      have e35_7 : xE (zyEl zymc B H2) 35 7 = xE (zyEl zymc B H) 35 7 := xFr_E hfr rfl
      have e35_8 : xE (zyEl zymc B H2) 35 8 = xE (zyEl zymc B H) 35 8 := xFr_E hfr rfl
      have e35_2 : xE (zyEl zymc B H2) 35 2 = xE (zyEl zymc B H) 35 2 := xFr_E hfr rfl
      have e35_3 : xE (zyEl zymc B H2) 35 3 = xE (zyEl zymc B H) 35 3 := xFr_E hfr rfl
      have e35_1 : xE (zyEl zymc B H2) 35 1 = xE (zyEl zymc B H) 35 1 := xFr_E hfr rfl
      have e19_0 : xE (zyEl zymc B H2) 19 0 = xE (zyEl zymc B H) 19 0 := xFr_E hfr rfl
      have e19_1 : xE (zyEl zymc B H2) 19 1 = xE (zyEl zymc B H) 19 1 := xFr_E hfr rfl
      have e36 : ∀ i, xE (zyEl zymc B H2) 36 i = xE (zyEl zymc B H) 36 i := fun i => xFr_E hfr rfl
      have q36 : ∀ i, xE (zyEl zymc B H) 36 i = xE (zyEl zymc B s.heap) 36 i := fun i => xFr_E hFr0 rfl
      have e21 : ∀ i, xE (zyEl zymc B H2) 21 i = xE (zyEl zymc B H) 21 i := fun i => xFr_E hfr rfl
      have e22 : ∀ i, xE (zyEl zymc B H2) 22 i = xE (zyEl zymc B H) 22 i := fun i => xFr_E hfr rfl
      have hI : (0 ≤ (v 3) ∧ (v 3) ≤ 901) ∧ (xE (zyEl zymc B H) 35 4 = x0 0 ∧ xE (zyEl zymc B H) 35 1 = 0) ∧ xJk17 (zyEl zymc B s.heap) (zyEl zymc B H) ∧ ∃ p S, pAll (xE (zyEl zymc B s.heap) 36) (x0 0) = pLines (xE (zyEl zymc B s.heap) 36) (x0 0) (901 - (v 3)).toNat p S ∧ ((v 3) ≤ p ∧ p ≤ x0 0) ∧ xAb17 (zyEl zymc B H) S ∧ xGeo17 (zyEl zymc B H) (S 0).toNat (S 1).toNat ∧ xAD (xE (zyEl zymc B s.heap) 36) (x0 0) p (zyEl zymc B H) := hInv
      have hP := hΦ.1
      have hP2 := hΦ.2
      obtain ⟨i0, ⟨ie, is⟩, ij, pp, S, i1, i2, i3, i4, ⟨a1, a2, a3, a4⟩⟩ := hI
      have hE2 := xFr_n hfr
      have tt : xE (zyEl zymc B H2) 36 = xE (zyEl zymc B s.heap) 36 := funext fun i => (e36 i).trans (q36 i)
      have hk : ¬ tKd (xE (zyEl zymc B s.heap) 36) (x0 0) pp = 0 := by omega
      have hA2 : xAD (xE (zyEl zymc B s.heap) 36) (x0 0) pp (zyEl zymc B H2) := by rw [hE2]; exact ⟨a1, a2, a3, a4⟩
      have hS2 : xAb17 (zyEl zymc B H2) S := by rw [hE2]; exact i3
      have hb := tNx_b (T := xE (zyEl zymc B s.heap) 36) (n := x0 0) (p := pp) i2.2
      refine xCa hRu hIH hAt hB hv hFr (hfrl17 B) (ix := 41) (ax := 976) rfl rfl rfl hmefrl17 ⟨_, rfl, rfl, by decide⟩ ⟨rfl, rfl, rfl⟩ (by decide) [] [] [] rfl ⟨rfl, rfl⟩ (by decide +kernel) xcs_n (by decide +kernel) ?_ (fun H3 r hT3 hf3 hFr3 hr3 hΨ3 => ?_)
      · show xΦrl17 (xfv []) (zyEl zymc B H2)
        refine ⟨by omega, ⟨S, hS2⟩, pp, by omega, ?_⟩
        rw [tt, show xE (zyEl zymc B H2) 35 4 = x0 0 by omega]
        exact hA2
      · have hΨ3 : xΨfrl17 (xfv []) (zyEl zymc B H2) (zyEl zymc B H3) r := hΨ3
        have d35_4 : xE (zyEl zymc B H3) 35 4 = xE (zyEl zymc B H2) 35 4 := xFr_E hf3 rfl
        have d35_1 : xE (zyEl zymc B H3) 35 1 = xE (zyEl zymc B H2) 35 1 := xFr_E hf3 rfl
        have d19_0 : xE (zyEl zymc B H3) 19 0 = xE (zyEl zymc B H2) 19 0 := xFr_E hf3 rfl
        have d19_1 : xE (zyEl zymc B H3) 19 1 = xE (zyEl zymc B H2) 19 1 := xFr_E hf3 rfl
        have d36 : ∀ i, xE (zyEl zymc B H3) 36 i = xE (zyEl zymc B H2) 36 i := fun i => xFr_E hf3 rfl
        have d21 : ∀ i, xE (zyEl zymc B H3) 21 i = xE (zyEl zymc B H2) 21 i := fun i => xFr_E hf3 rfl
        have d22 : ∀ i, xE (zyEl zymc B H3) 22 i = xE (zyEl zymc B H2) 22 i := fun i => xFr_E hf3 rfl
        have w := hΨ3 pp S (by omega) (by rw [tt, show xE (zyEl zymc B H2) 35 4 = x0 0 by omega]; exact hA2) hS2
        rw [tt, show xE (zyEl zymc B H2) 35 4 = x0 0 by omega] at w
        have hr01 := xOut17_r w
        refine ⟨⟨4, by decide⟩, [0, 0, 0, 103079215105], [0, 0, 0, (v2 3), r], rfl, ⟨by decide +kernel, ⟨rfl, by decide +kernel⟩, (xcs_c rfl (xcs_c rfl (xcs_c rfl (xcs_c rfl xcs_n)))), (xe_0 (xe_0 (xe_0 (xe_c (by omega) (by omega) rfl (xe_c (by omega) (by omega) rfl xe_n))))), xkq_n⟩, (by rw [if_pos rfl]; exact ⟨4, [], rfl, by decide, rfl, xst_n⟩), ?_, ?_⟩
        · show (0 ≤ ((v2 3) : Int) ∧ ((v2 3) : Int) ≤ 900) ∧ (xE (zyEl zymc B H3) 35 4 = x0 0 ∧ xE (zyEl zymc B H3) 35 1 = 0) ∧ xJk17 (zyEl zymc B s.heap) (zyEl zymc B H3) ∧ ∃ p S, pAll (xE (zyEl zymc B s.heap) 36) (x0 0) = pBind (pLine (xE (zyEl zymc B s.heap) 36) (x0 0) p S) (pLines (xE (zyEl zymc B s.heap) 36) (x0 0) (900 - ((v2 3) : Int)).toNat) ∧ ¬ tKd (xE (zyEl zymc B s.heap) 36) (x0 0) p = 0 ∧ (((v2 3) : Int) ≤ p ∧ p ≤ x0 0) ∧ xOut17 (pLine (xE (zyEl zymc B s.heap) 36) (x0 0) p S) (zyEl zymc B H3) (r : Int) ∧ xGeo17 (zyEl zymc B H3) (S 0).toNat (S 1).toNat ∧ xE (zyEl zymc B H3) 19 0 = S 0 ∧ xE (zyEl zymc B H3) 19 1 = S 1
          have hr0 := i3.2.1
          refine ⟨by omega, ⟨by omega, by omega⟩, fun i i0 i1 => by have w := ij i i0 i1; rw [d21 i, e21 i, d22 i, e22 i]; exact w, pp, S, ?_, hk, by omega, w, xGeo17_rl (by rw [← hE2] at i4; exact i4) hf3, by omega, by omega⟩
          rw [i1, show (901 - v 3).toNat = (900 - v2 3).toNat + 1 by omega, pLines_s hk]
        · show 3 * (1000 - ((v2 3) : Int)).toNat + 1 < 3 * (1000 - (v 3)).toNat + 2
          omega
    · have hx : x ∈ [zxfra17_ex0] := hx
      have hag : ∀ k, k < 5 → v2 k = v k := hag
      have hfr : xFr [] _ _ := hfr
      have ex := List.mem_singleton.mp hx
      subst ex
      obtain ⟨hF, hBd, hM⟩ := hXs
      have g3 : v2 3 = v 3 := hag 3 (by decide)
      have g4 : v2 4 = v 4 := hag 4 (by decide)
      have b0 : ((2147483648 : Nat) : Int) ≤ (v2 3) + 2147483648 ∧ (v2 3) + 2147483648 ≤ ((2147484548 : Nat) : Int) := xXb hBd 0 rfl
      have b1 : ((2147483649 : Nat) : Int) ≤ (v2 4) + 2147483648 ∧ (v2 4) + 2147483648 ≤ ((2147483649 : Nat) : Int) := xXb hBd 1 rfl
      have f0 : ¬ (v2 4) = 0 := xXf hF 0 rfl
      have e35_4 : xE (zyEl zymc B H2) 35 4 = xE (zyEl zymc B H) 35 4 := xFr_E hfr rfl
      have e35_5 : xE (zyEl zymc B H2) 35 5 = xE (zyEl zymc B H) 35 5 := xFr_E hfr rfl
      have e35_6 : xE (zyEl zymc B H2) 35 6 = xE (zyEl zymc B H) 35 6 := xFr_E hfr rfl
      have e35_7 : xE (zyEl zymc B H2) 35 7 = xE (zyEl zymc B H) 35 7 := xFr_E hfr rfl
      have e35_8 : xE (zyEl zymc B H2) 35 8 = xE (zyEl zymc B H) 35 8 := xFr_E hfr rfl
      have e35_2 : xE (zyEl zymc B H2) 35 2 = xE (zyEl zymc B H) 35 2 := xFr_E hfr rfl
      have e35_3 : xE (zyEl zymc B H2) 35 3 = xE (zyEl zymc B H) 35 3 := xFr_E hfr rfl
      have e35_1 : xE (zyEl zymc B H2) 35 1 = xE (zyEl zymc B H) 35 1 := xFr_E hfr rfl
      have e19_0 : xE (zyEl zymc B H2) 19 0 = xE (zyEl zymc B H) 19 0 := xFr_E hfr rfl
      have e19_1 : xE (zyEl zymc B H2) 19 1 = xE (zyEl zymc B H) 19 1 := xFr_E hfr rfl
      have e36 : ∀ i, xE (zyEl zymc B H2) 36 i = xE (zyEl zymc B H) 36 i := fun i => xFr_E hfr rfl
      have q36 : ∀ i, xE (zyEl zymc B H) 36 i = xE (zyEl zymc B s.heap) 36 i := fun i => xFr_E hFr0 rfl
      have e21 : ∀ i, xE (zyEl zymc B H2) 21 i = xE (zyEl zymc B H) 21 i := fun i => xFr_E hfr rfl
      have e22 : ∀ i, xE (zyEl zymc B H2) 22 i = xE (zyEl zymc B H) 22 i := fun i => xFr_E hfr rfl
      have hI : (0 ≤ (v 3) ∧ (v 3) ≤ 900) ∧ (xE (zyEl zymc B H) 35 4 = x0 0 ∧ xE (zyEl zymc B H) 35 1 = 0) ∧ xJk17 (zyEl zymc B s.heap) (zyEl zymc B H) ∧ ∃ p S, pAll (xE (zyEl zymc B s.heap) 36) (x0 0) = pBind (pLine (xE (zyEl zymc B s.heap) 36) (x0 0) p S) (pLines (xE (zyEl zymc B s.heap) 36) (x0 0) (900 - (v 3)).toNat) ∧ ¬ tKd (xE (zyEl zymc B s.heap) 36) (x0 0) p = 0 ∧ ((v 3) ≤ p ∧ p ≤ x0 0) ∧ xOut17 (pLine (xE (zyEl zymc B s.heap) 36) (x0 0) p S) (zyEl zymc B H) (v 4) ∧ xGeo17 (zyEl zymc B H) (S 0).toNat (S 1).toNat ∧ xE (zyEl zymc B H) 19 0 = S 0 ∧ xE (zyEl zymc B H) 19 1 = S 1 := hInv
      have hP := hΦ.1
      have hP2 := hΦ.2
      obtain ⟨i0, ⟨ie, is⟩, ij, pp, S, i1, hk, i2, i3, i4, i5, i6⟩ := hI
      rw [show (v 4) = v2 4 by omega] at i3
      have tt : xE (zyEl zymc B H2) 36 = xE (zyEl zymc B s.heap) 36 := funext fun i => (e36 i).trans (q36 i)
      obtain ⟨p2, S2, e1, e2, e3⟩ := xOut17_1 i3 (by omega)
      have hpp := pLine_p i2.2 hk e1
      have s0 := e3.2.1.1
      have s1 := e3.2.1.2.1
      have t0 : S2 0 = S 0 := by omega
      have t1 : S2 1 = S 1 := by omega
      refine xCa hRu hIH hAt hB hv hFr (hfad B) (ix := 35) (ax := 1168) rfl rfl rfl hmefad ⟨_, rfl, rfl, by decide⟩ ⟨rfl, rfl, rfl⟩ (by decide) [] [] [] rfl ⟨rfl, rfl⟩ (by decide +kernel) xcs_n (by decide +kernel) ?_ (fun H3 r hT3 hf3 hFr3 hr3 hΨ3 => ?_)
      · show xΦad (xfv []) (zyEl zymc B H2)
        unfold xΦad
        omega
      · have hΨ3 : xΨad (xfv []) (zyEl zymc B H2) (zyEl zymc B H3) r := hΨ3
        have d35_4 : xE (zyEl zymc B H3) 35 4 = xE (zyEl zymc B H2) 35 4 := xFr_E hf3 rfl
        have d35_2 : xE (zyEl zymc B H3) 35 2 = xE (zyEl zymc B H2) 35 2 := xFr_E hf3 rfl
        have d35_3 : xE (zyEl zymc B H3) 35 3 = xE (zyEl zymc B H2) 35 3 := xFr_E hf3 rfl
        have d35_1 : xE (zyEl zymc B H3) 35 1 = xE (zyEl zymc B H2) 35 1 := xFr_E hf3 rfl
        have d19_0 : xE (zyEl zymc B H3) 19 0 = xE (zyEl zymc B H2) 19 0 := xFr_E hf3 rfl
        have d19_1 : xE (zyEl zymc B H3) 19 1 = xE (zyEl zymc B H2) 19 1 := xFr_E hf3 rfl
        have d36 : ∀ i, xE (zyEl zymc B H3) 36 i = xE (zyEl zymc B H2) 36 i := fun i => xFr_E hf3 rfl
        have d21 : ∀ i, xE (zyEl zymc B H3) 21 i = xE (zyEl zymc B H2) 21 i := fun i => xFr_E hf3 rfl
        have d22 : ∀ i, xE (zyEl zymc B H3) 22 i = xE (zyEl zymc B H2) 22 i := fun i => xFr_E hf3 rfl
        unfold xΨad at hΨ3
        rw [tt, show xE (zyEl zymc B H2) 35 4 = x0 0 by omega, show xE (zyEl zymc B H2) 35 6 = p2 by omega] at hΨ3
        refine ⟨⟨5, by decide⟩, [0, 0, 0, 103079215105], [0, 0, 0, (v2 3)], rfl, ⟨by decide +kernel, ⟨rfl, by decide +kernel⟩, (xcs_c rfl (xcs_c rfl (xcs_c rfl (xcs_c rfl xcs_n)))), (xe_0 (xe_0 (xe_0 (xe_c (by omega) (by omega) rfl xe_n)))), xkq_n⟩, (by rw [if_neg (by decide)]; exact xst_n), ?_, ?_⟩
        · show (0 ≤ ((v2 3) : Int) ∧ ((v2 3) : Int) ≤ 900) ∧ (xE (zyEl zymc B H3) 35 4 = x0 0 ∧ xE (zyEl zymc B H3) 35 1 = 0) ∧ xJk17 (zyEl zymc B s.heap) (zyEl zymc B H3) ∧ ∃ p S, pAll (xE (zyEl zymc B s.heap) 36) (x0 0) = pLines (xE (zyEl zymc B s.heap) 36) (x0 0) (900 - ((v2 3) : Int)).toNat p S ∧ (((v2 3) : Int) + 1 ≤ p ∧ p ≤ x0 0) ∧ xAb17 (zyEl zymc B H3) S ∧ xGeo17 (zyEl zymc B H3) (S 0).toNat (S 1).toNat ∧ xAD (xE (zyEl zymc B s.heap) 36) (x0 0) p (zyEl zymc B H3)
          refine ⟨by omega, ⟨by omega, by omega⟩, fun i i0 i1 => by have w := ij i i0 i1; rw [d21 i, e21 i, d22 i, e22 i]; exact w, p2, S2, ?_, by omega, xAb17_35 e3 (xFr_trans (xFr_mono (by decide) hfr) (xFr_mono (by decide) hf3)), xGeo17_35 (by rw [t0, t1]; exact i4) (xFr_trans (xFr_mono (by decide) hfr) (xFr_mono (by decide) hf3)), hΨ3⟩
          rw [i1, e1, show (v 3) = v2 3 by omega]
          rfl
        · show 3 * (1000 - ((v2 3) : Int)).toNat < 3 * (1000 - (v 3)).toNat + 1
          omega
    · have hx : x ∈ [zxfra17_fx0] := hx
      have hag : ∀ k, k < 4 → v2 k = v k := hag
      have hfr : xFr [] _ _ := hfr
      have ex := List.mem_singleton.mp hx
      subst ex
      obtain ⟨hF, hBd, hM⟩ := hXs
      have g3 : v2 3 = v 3 := hag 3 (by decide)
      have b0 : ((2147483648 : Nat) : Int) ≤ (v2 3) + 2147483648 ∧ (v2 3) + 2147483648 ≤ ((2147484548 : Nat) : Int) := xXb hBd 0 rfl
      have b1 : ((2147483649 : Nat) : Int) ≤ (v2 3 + 1) + 2147483648 ∧ (v2 3 + 1) + 2147483648 ≤ ((2147484549 : Nat) : Int) := xXb hBd 1 rfl
      have e35_4 : xE (zyEl zymc B H2) 35 4 = xE (zyEl zymc B H) 35 4 := xFr_E hfr rfl
      have e35_5 : xE (zyEl zymc B H2) 35 5 = xE (zyEl zymc B H) 35 5 := xFr_E hfr rfl
      have e35_6 : xE (zyEl zymc B H2) 35 6 = xE (zyEl zymc B H) 35 6 := xFr_E hfr rfl
      have e35_7 : xE (zyEl zymc B H2) 35 7 = xE (zyEl zymc B H) 35 7 := xFr_E hfr rfl
      have e35_8 : xE (zyEl zymc B H2) 35 8 = xE (zyEl zymc B H) 35 8 := xFr_E hfr rfl
      have e35_2 : xE (zyEl zymc B H2) 35 2 = xE (zyEl zymc B H) 35 2 := xFr_E hfr rfl
      have e35_3 : xE (zyEl zymc B H2) 35 3 = xE (zyEl zymc B H) 35 3 := xFr_E hfr rfl
      have e35_1 : xE (zyEl zymc B H2) 35 1 = xE (zyEl zymc B H) 35 1 := xFr_E hfr rfl
      have e19_0 : xE (zyEl zymc B H2) 19 0 = xE (zyEl zymc B H) 19 0 := xFr_E hfr rfl
      have e19_1 : xE (zyEl zymc B H2) 19 1 = xE (zyEl zymc B H) 19 1 := xFr_E hfr rfl
      have e36 : ∀ i, xE (zyEl zymc B H2) 36 i = xE (zyEl zymc B H) 36 i := fun i => xFr_E hfr rfl
      have q36 : ∀ i, xE (zyEl zymc B H) 36 i = xE (zyEl zymc B s.heap) 36 i := fun i => xFr_E hFr0 rfl
      have e21 : ∀ i, xE (zyEl zymc B H2) 21 i = xE (zyEl zymc B H) 21 i := fun i => xFr_E hfr rfl
      have e22 : ∀ i, xE (zyEl zymc B H2) 22 i = xE (zyEl zymc B H) 22 i := fun i => xFr_E hfr rfl
      have hI : (0 ≤ (v 3) ∧ (v 3) ≤ 900) ∧ (xE (zyEl zymc B H) 35 4 = x0 0 ∧ xE (zyEl zymc B H) 35 1 = 0) ∧ xJk17 (zyEl zymc B s.heap) (zyEl zymc B H) ∧ ∃ p S, pAll (xE (zyEl zymc B s.heap) 36) (x0 0) = pLines (xE (zyEl zymc B s.heap) 36) (x0 0) (900 - (v 3)).toNat p S ∧ ((v 3) + 1 ≤ p ∧ p ≤ x0 0) ∧ xAb17 (zyEl zymc B H) S ∧ xGeo17 (zyEl zymc B H) (S 0).toNat (S 1).toNat ∧ xAD (xE (zyEl zymc B s.heap) 36) (x0 0) p (zyEl zymc B H) := hInv
      have hP := hΦ.1
      have hP2 := hΦ.2
      obtain ⟨i0, ⟨ie, is⟩, ij, pp, S, i1, i2, i3, i4, i5⟩ := hI
      have hE2 := xFr_n hfr
      refine xGo hIH hAt hB hv hFr ⟨3, by decide⟩ [0, 0, 0, 103079215113] [0, 0, 0, (v2 3 + 1)] rfl ⟨by decide +kernel, ⟨rfl, by decide +kernel⟩, (xcs_c rfl (xcs_c rfl (xcs_c rfl (xcs_c rfl xcs_n)))), (xe_0 (xe_0 (xe_0 (xe_c (by omega) (by omega) rfl xe_n)))), xkq_n⟩ xst_n ?_ ?_
      · show (0 ≤ ((v2 3 + 1) : Int) ∧ ((v2 3 + 1) : Int) ≤ 901) ∧ (xE (zyEl zymc B H2) 35 4 = x0 0 ∧ xE (zyEl zymc B H2) 35 1 = 0) ∧ xJk17 (zyEl zymc B s.heap) (zyEl zymc B H2) ∧ ∃ p S, pAll (xE (zyEl zymc B s.heap) 36) (x0 0) = pLines (xE (zyEl zymc B s.heap) 36) (x0 0) (901 - ((v2 3 + 1) : Int)).toNat p S ∧ (((v2 3 + 1) : Int) ≤ p ∧ p ≤ x0 0) ∧ xAb17 (zyEl zymc B H2) S ∧ xGeo17 (zyEl zymc B H2) (S 0).toNat (S 1).toNat ∧ xAD (xE (zyEl zymc B s.heap) 36) (x0 0) p (zyEl zymc B H2)
        rw [hE2]
        exact ⟨by omega, ⟨ie, is⟩, ij, pp, S, by rw [i1, show (900 - v 3).toNat = (901 - (v2 3 + 1)).toNat by omega], by omega, i3, i4, i5⟩
      · show 3 * (1000 - ((v2 3 + 1) : Int)).toNat + 2 < 3 * (1000 - (v 3)).toNat
        omega
  · intro x0 E0 E E2 hrx hT0 hΦ i v hT hrv hInv hKc hFr0 x hx v2 hr2 hXs hag hfr hFr hT2
    rcases i with ⟨i, hi⟩
    have hi2 : i = 0 ∨ i = 1 ∨ i = 2 ∨ i = 3 ∨ i = 4 ∨ i = 5 := by omega
    rcases hi2 with rfl | rfl | rfl | rfl | rfl | rfl
    · cases hx
    · have hx : x ∈ [zxfra17_br0] := hx
      have hag : ∀ k, k < 5 → v2 k = v k := hag
      have hfr : xFr [] _ _ := hfr
      have ex := List.mem_singleton.mp hx
      subst ex
      obtain ⟨hF, hBd, hM⟩ := hXs
      have g4 : v2 4 = v 4 := hag 4 (by decide)
      have b0 : ((2147483648 : Nat) : Int) ≤ (v2 4) + 2147483648 ∧ (v2 4) + 2147483648 ≤ ((2147483648 : Nat) : Int) := xXb hBd 0 rfl
      have f0 : (v2 4) = 0 := xXf hF 0 rfl
      have e35_4 : xE E2 35 4 = xE E 35 4 := xFr_E hfr rfl
      have e35_5 : xE E2 35 5 = xE E 35 5 := xFr_E hfr rfl
      have e35_6 : xE E2 35 6 = xE E 35 6 := xFr_E hfr rfl
      have e35_7 : xE E2 35 7 = xE E 35 7 := xFr_E hfr rfl
      have e35_8 : xE E2 35 8 = xE E 35 8 := xFr_E hfr rfl
      have e35_2 : xE E2 35 2 = xE E 35 2 := xFr_E hfr rfl
      have e35_3 : xE E2 35 3 = xE E 35 3 := xFr_E hfr rfl
      have e35_1 : xE E2 35 1 = xE E 35 1 := xFr_E hfr rfl
      have e19_0 : xE E2 19 0 = xE E 19 0 := xFr_E hfr rfl
      have e19_1 : xE E2 19 1 = xE E 19 1 := xFr_E hfr rfl
      have e36 : ∀ i, xE E2 36 i = xE E 36 i := fun i => xFr_E hfr rfl
      have q36 : ∀ i, xE E 36 i = xE E0 36 i := fun i => xFr_E hFr0 rfl
      have e21 : ∀ i, xE E2 21 i = xE E 21 i := fun i => xFr_E hfr rfl
      have e22 : ∀ i, xE E2 22 i = xE E 22 i := fun i => xFr_E hfr rfl
      have hI : (xE E 35 4 = x0 0 ∧ xE E 35 1 = 0) ∧ xJk17 E0 E ∧ xOut17 (pSz (xE E0 36) (x0 0)) E (v 4) ∧ ∀ p S, pSz (xE E0 36) (x0 0) = .ok (p, S) → xGeo17 E (S 0).toNat (S 1).toNat := hInv
      show xΨra17 x0 E0 E2 0
      have hP := hΦ.1
      have hP2 := hΦ.2
      obtain ⟨⟨ie, is⟩, ij, i1, i2⟩ := hI
      rw [show (v 4) = v2 4 by omega] at i1
      obtain ⟨w, a, e1, e2, e3⟩ := xOut17_0 i1 (by omega)
      have hA : pAll (xE E0 36) (x0 0) = .error (w, a) := by unfold pAll; rw [e1]; rfl
      refine ⟨?_, fun i i0 i1 => by have w := ij i i0 i1; rw [e21 i, e22 i]; exact w, (fun p S h => by rw [hA] at h; cases h), by omega⟩
      rw [hA]
      exact ⟨by omega, by omega, by omega⟩
    · cases hx
    · have hx : x ∈ [zxfra17_dr0, zxfra17_dr1] := hx
      have hag : ∀ k, k < 4 → v2 k = v k := hag
      have hfr : xFr [] _ _ := hfr
      rcases List.mem_cons.mp hx with ex | hx
      · subst ex
        obtain ⟨hF, hBd, hM⟩ := hXs
        have g3 : v2 3 = v 3 := hag 3 (by decide)
        have b0 : ((2147484549 : Nat) : Int) ≤ (v2 3) + 2147483648 ∧ (v2 3) + 2147483648 ≤ ((2147484549 : Nat) : Int) := xXb hBd 0 rfl
        have f0 : 900 < (v2 3) := xXf hF 0 rfl
        have e35_4 : xE E2 35 4 = xE E 35 4 := xFr_E hfr rfl
        have e35_5 : xE E2 35 5 = xE E 35 5 := xFr_E hfr rfl
        have e35_6 : xE E2 35 6 = xE E 35 6 := xFr_E hfr rfl
        have e35_7 : xE E2 35 7 = xE E 35 7 := xFr_E hfr rfl
        have e35_8 : xE E2 35 8 = xE E 35 8 := xFr_E hfr rfl
        have e35_2 : xE E2 35 2 = xE E 35 2 := xFr_E hfr rfl
        have e35_3 : xE E2 35 3 = xE E 35 3 := xFr_E hfr rfl
        have e35_1 : xE E2 35 1 = xE E 35 1 := xFr_E hfr rfl
        have e19_0 : xE E2 19 0 = xE E 19 0 := xFr_E hfr rfl
        have e19_1 : xE E2 19 1 = xE E 19 1 := xFr_E hfr rfl
        have e36 : ∀ i, xE E2 36 i = xE E 36 i := fun i => xFr_E hfr rfl
        have q36 : ∀ i, xE E 36 i = xE E0 36 i := fun i => xFr_E hFr0 rfl
        have e21 : ∀ i, xE E2 21 i = xE E 21 i := fun i => xFr_E hfr rfl
        have e22 : ∀ i, xE E2 22 i = xE E 22 i := fun i => xFr_E hfr rfl
        have hI : (0 ≤ (v 3) ∧ (v 3) ≤ 901) ∧ (xE E 35 4 = x0 0 ∧ xE E 35 1 = 0) ∧ xJk17 E0 E ∧ ∃ p S, pAll (xE E0 36) (x0 0) = pLines (xE E0 36) (x0 0) (901 - (v 3)).toNat p S ∧ ((v 3) ≤ p ∧ p ≤ x0 0) ∧ xAb17 E S ∧ xGeo17 E (S 0).toNat (S 1).toNat ∧ xAD (xE E0 36) (x0 0) p E := hInv
        show xΨra17 x0 E0 E2 1
        have hP := hΦ.1
        have hP2 := hΦ.2
        obtain ⟨i0, ⟨ie, is⟩, ij, pp, S, i1, i2, i3, i4, ⟨a1, a2, a3, a4⟩⟩ := hI
        have hE2 := xFr_n hfr
        subst hE2
        have hk : tKd (xE E0 36) (x0 0) pp = 0 := by omega
        have hA : pAll (xE E0 36) (x0 0) = .ok (pp, S) := i1.trans (pLines_0 hk)
        refine ⟨?_, ij, fun p S2 h => ?_, by omega⟩
        · rw [hA]
          exact ⟨by omega, i3⟩
        · rw [hA] at h
          cases h
          exact i4
      · skip
        have ex := List.mem_singleton.mp hx
        subst ex
        obtain ⟨hF, hBd, hM⟩ := hXs
        have g3 : v2 3 = v 3 := hag 3 (by decide)
        have b0 : ((2147483648 : Nat) : Int) ≤ (v2 3) + 2147483648 ∧ (v2 3) + 2147483648 ≤ ((2147484548 : Nat) : Int) := xXb hBd 0 rfl
        have b1 : ((2147483648 : Nat) : Int) ≤ (v2 4) + 2147483648 ∧ (v2 4) + 2147483648 ≤ ((2147483648 : Nat) : Int) := xXb hBd 1 rfl
        have f0 : (v2 3) ≤ 900 := xXf hF 0 rfl
        have f1 : (0 : Int) ≤ 7 ∧ xE E 35 7 = (v2 4) := xXf hF 1 rfl
        have f2 : (v2 4) = 0 := xXf hF 2 rfl
        have e35_4 : xE E2 35 4 = xE E 35 4 := xFr_E hfr rfl
        have e35_5 : xE E2 35 5 = xE E 35 5 := xFr_E hfr rfl
        have e35_6 : xE E2 35 6 = xE E 35 6 := xFr_E hfr rfl
        have e35_7 : xE E2 35 7 = xE E 35 7 := xFr_E hfr rfl
        have e35_8 : xE E2 35 8 = xE E 35 8 := xFr_E hfr rfl
        have e35_2 : xE E2 35 2 = xE E 35 2 := xFr_E hfr rfl
        have e35_3 : xE E2 35 3 = xE E 35 3 := xFr_E hfr rfl
        have e35_1 : xE E2 35 1 = xE E 35 1 := xFr_E hfr rfl
        have e19_0 : xE E2 19 0 = xE E 19 0 := xFr_E hfr rfl
        have e19_1 : xE E2 19 1 = xE E 19 1 := xFr_E hfr rfl
        have e36 : ∀ i, xE E2 36 i = xE E 36 i := fun i => xFr_E hfr rfl
        have q36 : ∀ i, xE E 36 i = xE E0 36 i := fun i => xFr_E hFr0 rfl
        have e21 : ∀ i, xE E2 21 i = xE E 21 i := fun i => xFr_E hfr rfl
        have e22 : ∀ i, xE E2 22 i = xE E 22 i := fun i => xFr_E hfr rfl
        have hI : (0 ≤ (v 3) ∧ (v 3) ≤ 901) ∧ (xE E 35 4 = x0 0 ∧ xE E 35 1 = 0) ∧ xJk17 E0 E ∧ ∃ p S, pAll (xE E0 36) (x0 0) = pLines (xE E0 36) (x0 0) (901 - (v 3)).toNat p S ∧ ((v 3) ≤ p ∧ p ≤ x0 0) ∧ xAb17 E S ∧ xGeo17 E (S 0).toNat (S 1).toNat ∧ xAD (xE E0 36) (x0 0) p E := hInv
        show xΨra17 x0 E0 E2 1
        have hP := hΦ.1
        have hP2 := hΦ.2
        obtain ⟨i0, ⟨ie, is⟩, ij, pp, S, i1, i2, i3, i4, ⟨a1, a2, a3, a4⟩⟩ := hI
        have hE2 := xFr_n hfr
        subst hE2
        have hk : tKd (xE E0 36) (x0 0) pp = 0 := by omega
        have hA : pAll (xE E0 36) (x0 0) = .ok (pp, S) := i1.trans (pLines_0 hk)
        refine ⟨?_, ij, fun p S2 h => ?_, by omega⟩
        · rw [hA]
          exact ⟨by omega, i3⟩
        · rw [hA] at h
          cases h
          exact i4
    · have hx : x ∈ [zxfra17_er0] := hx
      have hag : ∀ k, k < 5 → v2 k = v k := hag
      have hfr : xFr [] _ _ := hfr
      have ex := List.mem_singleton.mp hx
      subst ex
      obtain ⟨hF, hBd, hM⟩ := hXs
      have g3 : v2 3 = v 3 := hag 3 (by decide)
      have g4 : v2 4 = v 4 := hag 4 (by decide)
      have b0 : ((2147483648 : Nat) : Int) ≤ (v2 4) + 2147483648 ∧ (v2 4) + 2147483648 ≤ ((2147483648 : Nat) : Int) := xXb hBd 0 rfl
      have f0 : (v2 4) = 0 := xXf hF 0 rfl
      have e35_4 : xE E2 35 4 = xE E 35 4 := xFr_E hfr rfl
      have e35_5 : xE E2 35 5 = xE E 35 5 := xFr_E hfr rfl
      have e35_6 : xE E2 35 6 = xE E 35 6 := xFr_E hfr rfl
      have e35_7 : xE E2 35 7 = xE E 35 7 := xFr_E hfr rfl
      have e35_8 : xE E2 35 8 = xE E 35 8 := xFr_E hfr rfl
      have e35_2 : xE E2 35 2 = xE E 35 2 := xFr_E hfr rfl
      have e35_3 : xE E2 35 3 = xE E 35 3 := xFr_E hfr rfl
      have e35_1 : xE E2 35 1 = xE E 35 1 := xFr_E hfr rfl
      have e19_0 : xE E2 19 0 = xE E 19 0 := xFr_E hfr rfl
      have e19_1 : xE E2 19 1 = xE E 19 1 := xFr_E hfr rfl
      have e36 : ∀ i, xE E2 36 i = xE E 36 i := fun i => xFr_E hfr rfl
      have q36 : ∀ i, xE E 36 i = xE E0 36 i := fun i => xFr_E hFr0 rfl
      have e21 : ∀ i, xE E2 21 i = xE E 21 i := fun i => xFr_E hfr rfl
      have e22 : ∀ i, xE E2 22 i = xE E 22 i := fun i => xFr_E hfr rfl
      have hI : (0 ≤ (v 3) ∧ (v 3) ≤ 900) ∧ (xE E 35 4 = x0 0 ∧ xE E 35 1 = 0) ∧ xJk17 E0 E ∧ ∃ p S, pAll (xE E0 36) (x0 0) = pBind (pLine (xE E0 36) (x0 0) p S) (pLines (xE E0 36) (x0 0) (900 - (v 3)).toNat) ∧ ¬ tKd (xE E0 36) (x0 0) p = 0 ∧ ((v 3) ≤ p ∧ p ≤ x0 0) ∧ xOut17 (pLine (xE E0 36) (x0 0) p S) E (v 4) ∧ xGeo17 E (S 0).toNat (S 1).toNat ∧ xE E 19 0 = S 0 ∧ xE E 19 1 = S 1 := hInv
      show xΨra17 x0 E0 E2 0
      have hP := hΦ.1
      have hP2 := hΦ.2
      obtain ⟨i0, ⟨ie, is⟩, ij, pp, S, i1, hk, i2, i3, i4, i5, i6⟩ := hI
      rw [show (v 4) = v2 4 by omega] at i3
      obtain ⟨w, a, e1, e2, e3⟩ := xOut17_0 i3 (by omega)
      have hA : pAll (xE E0 36) (x0 0) = .error (w, a) := by rw [i1, e1]; rfl
      refine ⟨?_, fun i i0 i1 => by have w := ij i i0 i1; rw [e21 i, e22 i]; exact w, (fun p S h => by rw [hA] at h; cases h), by omega⟩
      rw [hA]
      exact ⟨by omega, by omega, by omega⟩
    · cases hx
end
