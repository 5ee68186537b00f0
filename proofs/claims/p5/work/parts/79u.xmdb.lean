/-! THE CLASS reads: a text (printed by m12.py) -/
noncomputable def zxfra17_ax0 : zyXp := (27, [283, 13, 147, 13], [147, 283], [], [(34359738369, 2147483648, 2147484548)], [(573441, 0), (573442, 0), (573443, 34359738360), (573444, 34359738369), (573446, 0)])
noncomputable def zpfra17_a : zyPh := (0, [283, 34359738369, 147, 13], [(0, 4294967295), (2147483648, 2147484548), (0, 4294967295), (0, 4294967295)], [], [])
noncomputable def zxfra17_bx0 : zyXp := (36, [283, 13, 147, 13], [283], [(23, 0, 137438953473, 0)], [(137438953473, 2147483649, 2147483649)], [])
noncomputable def zxfra17_br0 : zyXp := (0, [], [0], [(22, 0, 137438953473, 0)], [(137438953473, 2147483648, 2147483648)], [])
noncomputable def zpfra17_b : zyPh := (30, [283, 13, 147, 13], [(0, 4294967295), (0, 4294967295), (0, 4294967295), (0, 4294967295), (2147483648, 2147483649)], [], [137438953473])
noncomputable def zxfra17_cx0 : zyXp := (41, [283, 13, 147, 0], [], [], [], [])
noncomputable def zpfra17_c : zyPh := (39, [283, 13, 147, 13], [(0, 4294967295), (0, 4294967295), (0, 4294967295), (0, 4294967295)], [], [])
noncomputable def zxfra17_dx0 : zyXp := (57, [283, 13, 147, 103079215105], [147, 283], [(21, 0, 7200, 103079215105), (24, 137438953473, 35, 56), (23, 0, 137438953473, 0)], [(103079215105, 2147483648, 2147484548), (137438953473, 2147483649, 2147483653)], [])
noncomputable def zxfra17_dr0 : zyXp := (0, [], [8], [(20, 0, 7200, 103079215105)], [(103079215105, 2147484549, 2147484549)], [])
noncomputable def zxfra17_dr1 : zyXp := (0, [], [8], [(21, 0, 7200, 103079215105), (24, 137438953473, 35, 56), (22, 0, 137438953473, 0)], [(103079215105, 2147483648, 2147484548), (137438953473, 2147483648, 2147483648)], [])
noncomputable def zpfra17_d : zyPh := (41, [283, 13, 147, 103079215105], [(0, 4294967295), (0, 4294967295), (0, 4294967295), (2147483648, 2147484549)], [], [])
noncomputable def zxfra17_ex0 : zyXp := (66, [283, 13, 147, 103079215105], [283], [(23, 0, 137438953473, 0)], [(103079215105, 2147483648, 2147484548), (137438953473, 2147483649, 2147483649)], [])
noncomputable def zxfra17_er0 : zyXp := (0, [], [0], [(22, 0, 137438953473, 0)], [(137438953473, 2147483648, 2147483648)], [])
noncomputable def zpfra17_e : zyPh := (60, [283, 13, 147, 103079215105], [(0, 4294967295), (0, 4294967295), (0, 4294967295), (2147483648, 2147484548), (2147483648, 2147483649)], [], [137438953473])
noncomputable def zxfra17_fx0 : zyXp := (41, [283, 13, 147, 103079215113], [], [], [(103079215105, 2147483648, 2147484548), (103079215113, 2147483649, 2147484549)], [])
noncomputable def zpfra17_f : zyPh := (69, [283, 13, 147, 103079215105], [(0, 4294967295), (0, 4294967295), (0, 4294967295), (2147483648, 2147484548)], [], [])
noncomputable def zpfra17 (i : Nat) : zyPh := zif (Nat.beq i 0) (zpfra17_a) (zif (Nat.beq i 1) (zpfra17_b) (zif (Nat.beq i 2) (zpfra17_c) (zif (Nat.beq i 3) (zpfra17_d) (zif (Nat.beq i 4) (zpfra17_e) (zpfra17_f)))))
noncomputable def zXfra17 (i : Nat) : List zyXp := zif (Nat.beq i 0) ([zxfra17_ax0]) (zif (Nat.beq i 1) ([zxfra17_bx0]) (zif (Nat.beq i 2) ([zxfra17_cx0]) (zif (Nat.beq i 3) ([zxfra17_dx0]) (zif (Nat.beq i 4) ([zxfra17_ex0]) ([zxfra17_fx0])))))
noncomputable def zRfra17 (i : Nat) : List zyXp := zif (Nat.beq i 0) ([]) (zif (Nat.beq i 1) ([zxfra17_br0]) (zif (Nat.beq i 2) ([]) (zif (Nat.beq i 3) ([zxfra17_dr0, zxfra17_dr1]) (zif (Nat.beq i 4) ([zxfra17_er0]) ([])))))
noncomputable def zFfra17 (i : Nat) : zyR := zif (Nat.beq i 0) ([(35, 1, 4), (35, 6, 6)]) (zif (Nat.beq i 1) ([]) (zif (Nat.beq i 2) ([]) (zif (Nat.beq i 3) ([]) (zif (Nat.beq i 4) ([]) ([])))))
noncomputable def zSfra17 (i : Nat) : Nat := zif (Nat.beq i 0) (0) (zif (Nat.beq i 1) (0) (zif (Nat.beq i 2) (0) (zif (Nat.beq i 3) (0) (zif (Nat.beq i 4) (0) (0)))))
theorem xOut17_0 {R : pR} {E2 : zyEm} {r : Int} (h : xOut17 R E2 r) (hr : r = 0) : ∃ w a, R = .error (w, a) ∧ xE E2 35 2 = w ∧ xE E2 35 3 = a := by
  cases R with
  | error e => exact ⟨e.1, e.2, rfl, h.2⟩
  | ok x =>
    have h1 : r = 1 := h.1
    omega
theorem xOut17_1 {R : pR} {E2 : zyEm} {r : Int} (h : xOut17 R E2 r) (hr : ¬ r = 0) : ∃ p S, R = .ok (p, S) ∧ xE E2 35 6 = p ∧ xAb17 E2 S := by
  cases R with
  | error e => exact absurd h.1 hr
  | ok x => exact ⟨x.1, x.2, rfl, h.2⟩
theorem xGeo17_rl {E E2 : zyEm} {r c : Nat} (h : xGeo17 E r c) (hf : xFr [(35, 2, 3), (35, 5, 8), (18, 5, 5), (18, 8, 8), (33, 1, 1), (34, 0, 59), (27, 0, 30), (28, 0, 30), (29, 0, 30), (30, 0, 30), (31, 0, 7), (32, 0, 7)] E E2) : xGeo17 E2 r c := by
  refine ⟨fun s hs => ?_, fun g hg => ?_⟩
  · rw [(show xE E2 20 s = xE E 20 s from xFr_E hf rfl), (show xE E2 21 s = xE E 21 s from xFr_E hf rfl), (show xE E2 22 s = xE E 22 s from xFr_E hf rfl), (show xE E2 23 s = xE E 23 s from xFr_E hf rfl), (show xE E2 24 s = xE E 24 s from xFr_E hf rfl)]
    exact h.1 s hs
  · rw [(show xE E2 25 g = xE E 25 g from xFr_E hf rfl), (show xE E2 26 g = xE E 26 g from xFr_E hf rfl)]
    exact h.2 g hg
/-- what reading a text answers -/
def xOutA17 (R : pR) (E2 : zyEm) (r : Int) : Prop := match R with
  | .ok (_, S) => r = 1 ∧ xAb17 E2 S
  | .error (w, a) => r = 0 ∧ xE E2 35 2 = w ∧ xE E2 35 3 = a
def xΦra17 (x : Nat → Int) (_ : zyEm) : Prop := 0 ≤ x 0 ∧ x 0 ≤ 900
def xΨra17 (x : Nat → Int) (E E2 : zyEm) (r : Int) : Prop := xOutA17 (pAll (xE E 36) (x 0)) E2 r ∧ xJk17 E E2 ∧ (∀ p S, pAll (xE E 36) (x 0) = .ok (p, S) → xGeo17 E2 (S 0).toNat (S 1).toNat) ∧ xE E2 35 1 = 0
def xΨfra17S (x : Nat → Int) (E E2 : zyEm) (r : Int) : Prop := xΨra17 x E E2 r ∧ (¬ r = 0 → (xE E2 35 2 = 0 ∧ xE E2 35 3 = -1))
noncomputable def fpfra17 : zyR := [(35, 1, 8), (18, 5, 5), (18, 8, 8), (19, 0, 3), (20, 0, 79), (21, 0, 79), (22, 0, 79), (23, 0, 79), (24, 0, 79), (25, 0, 30), (26, 0, 30), (27, 0, 30), (28, 0, 30), (29, 0, 30), (30, 0, 30), (33, 1, 1), (34, 0, 59), (31, 0, 7), (32, 0, 7)]
theorem zyfra17_run : zyrS zymc zxi58 (58, 0, 0, 2, 0) 11 zpfra17 (fun _ _ => []) zFfra17 zSfra17 zXfra17 zRfra17 6 = true := by decide +kernel
theorem zyfra17_ck : zyAll (fun i => xsubR (zFfra17 i) fpfra17 && ((zXfra17 i).all xckX && (zRfra17 i).all (fun x => xckX x && xrtB true x))) 6 = true := by decide +kernel
def xIfra17 (i : Nat) (x0 : Nat → Int) (E0 : zyEm) (v : Nat → Int) (E : zyEm) : Prop := if i = 0 then ((E = E0 ∧ (v 1) = x0 0) ∧ True) else if i = 1 then (((xE E 35 4 = x0 0 ∧ xE E 35 1 = 0) ∧ xJk17 E0 E ∧ xOut17 (pSz (xE E0 36) (x0 0)) E (v 4) ∧ ∀ p S, pSz (xE E0 36) (x0 0) = .ok (p, S) → xGeo17 E (S 0).toNat (S 1).toNat) ∧ (¬ (v 4) = 0 → (xE E 35 2 = 0 ∧ xE E 35 3 = -1))) else if i = 2 then (((xE E 35 4 = x0 0 ∧ xE E 35 1 = 0) ∧ xJk17 E0 E ∧ ∃ p S, pAll (xE E0 36) (x0 0) = pLines (xE E0 36) (x0 0) 901 p S ∧ (0 ≤ p ∧ p ≤ x0 0) ∧ xAb17 E S ∧ xGeo17 E (S 0).toNat (S 1).toNat ∧ xAD (xE E0 36) (x0 0) p E) ∧ (xE E 35 2 = 0 ∧ xE E 35 3 = -1)) else if i = 3 then (((0 ≤ (v 3) ∧ (v 3) ≤ 901) ∧ (xE E 35 4 = x0 0 ∧ xE E 35 1 = 0) ∧ xJk17 E0 E ∧ ∃ p S, pAll (xE E0 36) (x0 0) = pLines (xE E0 36) (x0 0) (901 - (v 3)).toNat p S ∧ ((v 3) ≤ p ∧ p ≤ x0 0) ∧ xAb17 E S ∧ xGeo17 E (S 0).toNat (S 1).toNat ∧ xAD (xE E0 36) (x0 0) p E) ∧ (xE E 35 2 = 0 ∧ xE E 35 3 = -1)) else if i = 4 then (((0 ≤ (v 3) ∧ (v 3) ≤ 900) ∧ (xE E 35 4 = x0 0 ∧ xE E 35 1 = 0) ∧ xJk17 E0 E ∧ ∃ p S, pAll (xE E0 36) (x0 0) = pBind (pLine (xE E0 36) (x0 0) p S) (pLines (xE E0 36) (x0 0) (900 - (v 3)).toNat) ∧ ¬ tKd (xE E0 36) (x0 0) p = 0 ∧ ((v 3) ≤ p ∧ p ≤ x0 0) ∧ xOut17 (pLine (xE E0 36) (x0 0) p S) E (v 4) ∧ xGeo17 E (S 0).toNat (S 1).toNat ∧ xE E 19 0 = S 0 ∧ xE E 19 1 = S 1) ∧ (¬ (v 4) = 0 → (xE E 35 2 = 0 ∧ xE E 35 3 = -1))) else (((0 ≤ (v 3) ∧ (v 3) ≤ 900) ∧ (xE E 35 4 = x0 0 ∧ xE E 35 1 = 0) ∧ xJk17 E0 E ∧ ∃ p S, pAll (xE E0 36) (x0 0) = pLines (xE E0 36) (x0 0) (900 - (v 3)).toNat p S ∧ ((v 3) + 1 ≤ p ∧ p ≤ x0 0) ∧ xAb17 E S ∧ xGeo17 E (S 0).toNat (S 1).toNat ∧ xAD (xE E0 36) (x0 0) p E) ∧ (xE E 35 2 = 0 ∧ xE E 35 3 = -1))
def xMfra17 (i : Nat) (x0 : Nat → Int) (E0 : zyEm) (v : Nat → Int) (E : zyEm) : Nat := if i = 0 then (10000) else if i = 1 then (9999) else if i = 2 then (9998) else if i = 3 then (3 * (1000 - (v 3)).toNat + 2) else if i = 4 then (3 * (1000 - (v 3)).toNat + 1) else (3 * (1000 - (v 3)).toNat)
theorem xRa17 {l : Launch} {en : zEn} {me : zMe} (hen : zG zxMeta 58 = some en) (hme : zG zMeth 58 = some me) : ∀ B, xFq l zymc B en me 11 35 18 fpfra17 true xΦra17 xΨfra17S := by
  have een : zG zxMeta 58 = some (zxi58, 3, 4, 5, 58, 0, 0, 2, 0) := rfl
  obtain ⟨me1, hme1, hOK⟩ := zall hen
  rw [hme] at hme1
  cases hme1
  rw [een] at hen
  cases hen
  have hr := zyfra17_run
  have hck := fun i hi => zyAll_iff zyfra17_ck i hi
  simp only [Bool.and_eq_true] at hck
  obtain ⟨mefad, hmefad, -⟩ := zall (show zG zxMeta 73 = some (zxi73, 1, 1, 5, 73, 0, 0, 0, 0) from rfl)
  have hfad := xAd (l := l) (show zG zxMeta 73 = some (zxi73, 1, 1, 5, 73, 0, 0, 0, 0) from rfl) hmefad
  obtain ⟨mefrz17, hmefrz17, -⟩ := zall (show zG zxMeta 60 = some (zxi60, 2, 3, 5, 60, 0, 0, 2, 0) from rfl)
  have hfrz17 := xRz17 (l := l) (show zG zxMeta 60 = some (zxi60, 2, 3, 5, 60, 0, 0, 2, 0) from rfl) hmefrz17
  obtain ⟨mefrl17, hmefrl17, -⟩ := zall (show zG zxMeta 61 = some (zxi61, 2, 2, 5, 61, 0, 0, 2, 0) from rfl)
  have hfrl17 := xRl17 (l := l) (show zG zxMeta 61 = some (zxi61, 2, 2, 5, 61, 0, 0, 2, 0) from rfl) hmefrl17
  intro B
  refine xcutq (mi := zymc) (B := B) hOK rfl rfl (ι := Fin 6) (fun i => zpfra17 i.val) (fun _ _ => []) (fun i => zFfra17 i.val) (fun i => zSfra17 i.val) (fun i => zXfra17 i.val) (fun i => zRfra17 i.val) (fun i y2 ct en2 me2 h => by cases h) 200000 (fun i => zyAll_iff hr i.val i.isLt) (fun i => (hck i.val i.isLt).1) (fun i => (hck i.val i.isLt).2.1) (fun i => (hck i.val i.isLt).2.2) ⟨0, by decide⟩ ⟨rfl, rfl, rfl, rfl⟩ ⟨by decide, by decide⟩ (fun i x0 E0 v E => xIfra17 i.val x0 E0 v E) (fun i x0 E0 v E => xMfra17 i.val x0 E0 v E) ?_ ?_ ?_
  · intro x0 E hx0 hT hΦ
    have hΦ : xΦra17 x0 E := hΦ
    refine ⟨fun k p hp => ?_, ?_⟩
    · have hk : k < 4 := (List.getElem?_eq_some_iff.mp hp).1
      have hk : k = 0 ∨ k = 1 ∨ k = 2 ∨ k = 3 := by omega
      rcases hk with rfl | rfl | rfl | rfl
      · have hp : some (0, 4294967295) = some p := hp
        cases hp
        show ((0 : Nat) : Int) ≤ 0 + 2147483648 ∧ 0 + 2147483648 ≤ ((4294967295 : Nat) : Int)
        omega
      · have hp : some (2147483648, 2147484548) = some p := hp
        cases hp
        show ((2147483648 : Nat) : Int) ≤ x0 0 + 2147483648 ∧ x0 0 + 2147483648 ≤ ((2147484548 : Nat) : Int)
        have hx := hx0 0
        have hP := hΦ.1
        have hP2 := hΦ.2
        omega
      · have hp : some (0, 4294967295) = some p := hp
        cases hp
        show ((0 : Nat) : Int) ≤ 0 + 2147483648 ∧ 0 + 2147483648 ≤ ((4294967295 : Nat) : Int)
        omega
      · have hp : some (0, 4294967295) = some p := hp
        cases hp
        show ((0 : Nat) : Int) ≤ 0 + 2147483648 ∧ 0 + 2147483648 ≤ ((4294967295 : Nat) : Int)
        omega
    · show (E = E ∧ (x0 0) = x0 0) ∧ True
      refine ⟨?_, trivial⟩
      exact ⟨rfl, rfl⟩
  · intro x0 s Wg hRu hrx hT0 hΦ i v H hT hrv hInv hKc hFr0 hIH x hx ρ2 v2 N2 H2 locs lsB stA hAt hB hv hr2 hXs hag hfr hFr hT2
    rcases i with ⟨i, hi⟩
    have hi2 : i = 0 ∨ i = 1 ∨ i = 2 ∨ i = 3 ∨ i = 4 ∨ i = 5 := by omega
    rcases hi2 with rfl | rfl | rfl | rfl | rfl | rfl
    · have hx : x ∈ [zxfra17_ax0] := hx
      have hag : ∀ k, k < 4 → v2 k = v k := hag
      have hfr : xFr [(35, 1, 4), (35, 6, 6)] _ _ := hfr
      have ex := List.mem_singleton.mp hx
      subst ex
      obtain ⟨hF, hBd, hM⟩ := hXs
      have g1 : v2 1 = v 1 := hag 1 (by decide)
      have b0 : ((2147483648 : Nat) : Int) ≤ (v2 1) + 2147483648 ∧ (v2 1) + 2147483648 ≤ ((2147484548 : Nat) : Int) := xXb hBd 0 rfl
      have m0 : xE (zyEl zymc B H2) 35 1 = 0 := xXm hM 0 rfl
      have m1 : xE (zyEl zymc B H2) 35 2 = 0 := xXm hM 1 rfl
      have m2 : xE (zyEl zymc B H2) 35 3 = (-1) := xXm hM 2 rfl
      have m3 : xE (zyEl zymc B H2) 35 4 = (v2 1) := xXm hM 3 rfl
      have m4 : xE (zyEl zymc B H2) 35 6 = 0 := xXm hM 4 rfl
      have e35_5 : xE (zyEl zymc B H2) 35 5 = xE (zyEl zymc B H) 35 5 := xFr_E hfr rfl
      have e35_7 : xE (zyEl zymc B H2) 35 7 = xE (zyEl zymc B H) 35 7 := xFr_E hfr rfl
      have e35_8 : xE (zyEl zymc B H2) 35 8 = xE (zyEl zymc B H) 35 8 := xFr_E hfr rfl
      have e19_0 : xE (zyEl zymc B H2) 19 0 = xE (zyEl zymc B H) 19 0 := xFr_E hfr rfl
      have e19_1 : xE (zyEl zymc B H2) 19 1 = xE (zyEl zymc B H) 19 1 := xFr_E hfr rfl
      have e36 : ∀ i, xE (zyEl zymc B H2) 36 i = xE (zyEl zymc B H) 36 i := fun i => xFr_E hfr rfl
      have q36 : ∀ i, xE (zyEl zymc B H) 36 i = xE (zyEl zymc B s.heap) 36 i := fun i => xFr_E hFr0 rfl
      have e21 : ∀ i, xE (zyEl zymc B H2) 21 i = xE (zyEl zymc B H) 21 i := fun i => xFr_E hfr rfl
      have e22 : ∀ i, xE (zyEl zymc B H2) 22 i = xE (zyEl zymc B H) 22 i := fun i => xFr_E hfr rfl
      have hI : ((zyEl zymc B H) = (zyEl zymc B s.heap) ∧ (v 1) = x0 0) ∧ True := hInv
      obtain ⟨hI, hSm⟩ := hI
      have q35_4 : xE (zyEl zymc B H) 35 4 = xE (zyEl zymc B s.heap) 35 4 := by rw [hI.1]
      have q35_5 : xE (zyEl zymc B H) 35 5 = xE (zyEl zymc B s.heap) 35 5 := by rw [hI.1]
      have q35_6 : xE (zyEl zymc B H) 35 6 = xE (zyEl zymc B s.heap) 35 6 := by rw [hI.1]
      have q35_7 : xE (zyEl zymc B H) 35 7 = xE (zyEl zymc B s.heap) 35 7 := by rw [hI.1]
      have q35_8 : xE (zyEl zymc B H) 35 8 = xE (zyEl zymc B s.heap) 35 8 := by rw [hI.1]
      have q35_2 : xE (zyEl zymc B H) 35 2 = xE (zyEl zymc B s.heap) 35 2 := by rw [hI.1]
      have q35_3 : xE (zyEl zymc B H) 35 3 = xE (zyEl zymc B s.heap) 35 3 := by rw [hI.1]
      have q35_1 : xE (zyEl zymc B H) 35 1 = xE (zyEl zymc B s.heap) 35 1 := by rw [hI.1]
      have q19_0 : xE (zyEl zymc B H) 19 0 = xE (zyEl zymc B s.heap) 19 0 := by rw [hI.1]
      have q19_1 : xE (zyEl zymc B H) 19 1 = xE (zyEl zymc B s.heap) 19 1 := by rw [hI.1]
      have q21 : ∀ i, xE (zyEl zymc B H) 21 i = xE (zyEl zymc B s.heap) 21 i := fun i => by rw [hI.1]
      have q22 : ∀ i, xE (zyEl zymc B H) 22 i = xE (zyEl zymc B s.heap) 22 i := fun i => by rw [hI.1]
      have hP := hΦ.1
      have hP2 := hΦ.2
      have tt : xE (zyEl zymc B H2) 36 = xE (zyEl zymc B s.heap) 36 := funext fun i => (e36 i).trans (q36 i)
      refine xCa hRu hIH hAt hB hv hFr (hfrz17 B) (ix := 31) (ax := 960) rfl rfl rfl hmefrz17 ⟨_, rfl, rfl, by decide⟩ ⟨rfl, rfl, rfl⟩ (by decide) [] [] [] rfl ⟨rfl, rfl⟩ (by decide +kernel) xcs_n (by decide +kernel) ?_ (fun H3 r hT3 hf3 hFr3 hr3 hΨ3 => ?_)
      · show xΦrz17 (xfv []) (zyEl zymc B H2)
        exact ⟨by omega, by omega⟩
      · have hΨ3 : xΨfrz17S (xfv []) (zyEl zymc B H2) (zyEl zymc B H3) r := hΨ3
        obtain ⟨hΨ3, hS3⟩ := hΨ3
        have hΨ3 : xΨfrz17 (xfv []) (zyEl zymc B H2) (zyEl zymc B H3) r := hΨ3
        have hS3 : (¬ (r) = 0 → (xE (zyEl zymc B H3) 35 2 = xE (zyEl zymc B H2) 35 2 ∧ xE (zyEl zymc B H3) 35 3 = xE (zyEl zymc B H2) 35 3)) := hS3
        have d35_4 : xE (zyEl zymc B H3) 35 4 = xE (zyEl zymc B H2) 35 4 := xFr_E hf3 rfl
        have d35_1 : xE (zyEl zymc B H3) 35 1 = xE (zyEl zymc B H2) 35 1 := xFr_E hf3 rfl
        have d36 : ∀ i, xE (zyEl zymc B H3) 36 i = xE (zyEl zymc B H2) 36 i := fun i => xFr_E hf3 rfl
        obtain ⟨w1, w2, w3⟩ := hΨ3
        rw [tt, show xE (zyEl zymc B H2) 35 4 = x0 0 by omega] at w1 w3
        have hr01 := xOut17_r w1
        refine ⟨⟨1, by decide⟩, [0, 0, 0, 0], [0, 0, 0, 0, r], rfl, ⟨by decide +kernel, ⟨rfl, by decide +kernel⟩, (xcs_c rfl (xcs_c rfl (xcs_c rfl (xcs_c rfl xcs_n)))), (xe_0 (xe_0 (xe_0 (xe_0 (xe_c (by omega) (by omega) rfl xe_n))))), xkq_n⟩, (by rw [if_pos rfl]; exact ⟨4, [], rfl, by decide, rfl, xst_n⟩), ?_, ?_⟩
        · show ((xE (zyEl zymc B H3) 35 4 = x0 0 ∧ xE (zyEl zymc B H3) 35 1 = 0) ∧ xJk17 (zyEl zymc B s.heap) (zyEl zymc B H3) ∧ xOut17 (pSz (xE (zyEl zymc B s.heap) 36) (x0 0)) (zyEl zymc B H3) (r : Int) ∧ ∀ p S, pSz (xE (zyEl zymc B s.heap) 36) (x0 0) = .ok (p, S) → xGeo17 (zyEl zymc B H3) (S 0).toNat (S 1).toNat) ∧ (¬ (r : Int) = 0 → (xE (zyEl zymc B H3) 35 2 = 0 ∧ xE (zyEl zymc B H3) 35 3 = -1))
          refine ⟨?_, ?_⟩
          · skip
            refine ⟨⟨by omega, by omega⟩, fun i i0 i1 => ?_, w1, w3⟩
            have w := w2 i i0 i1
            rw [e21 i, q21 i, e22 i, q22 i] at w
            exact w
          · omega
        · show 9999 < 10000
          omega
    · have hx : x ∈ [zxfra17_bx0] := hx
      have hag : ∀ k, k < 5 → v2 k = v k := hag
      have hfr : xFr [] _ _ := hfr
      have ex := List.mem_singleton.mp hx
      subst ex
      obtain ⟨hF, hBd, hM⟩ := hXs
      have g4 : v2 4 = v 4 := hag 4 (by decide)
      have b0 : ((2147483649 : Nat) : Int) ≤ (v2 4) + 2147483648 ∧ (v2 4) + 2147483648 ≤ ((2147483649 : Nat) : Int) := xXb hBd 0 rfl
      have f0 : ¬ (v2 4) = 0 := xXf hF 0 rfl
      have e35_4 : xE (zyEl zymc B H2) 35 4 = xE (zyEl zymc B H) 35 4 := xFr_E hfr rfl
      have e35_5 : xE (zyEl zymc B H2) 35 5 = xE (zyEl zymc B H) 35 5 := xFr_E hfr rfl
      have e35_6 : xE (zyEl zymc B H2) 35 6 = xE (zyEl zymc B H) 35 6 := xFr_E hfr rfl
      have e35_7 : xE (zyEl zymc B H2) 35 7 = xE (zyEl zymc B H) 35 7 := xFr_E hfr rfl
      have e35_8 : xE (zyEl zymc B H2) 35 8 = xE (zyEl zymc B H) 35 8 := xFr_E hfr rfl
      have e35_2 : xE (zyEl zymc B H2) 35 2 = xE (zyEl zymc B H) 35 2 := xFr_E hfr rfl
      have e35_3 : xE (zyEl zymc B H2) 35 3 = xE (zyEl zymc B H) 35 3 := xFr_E hfr rfl
      have e35_1 : xE (zyEl zymc B H2) 35 1 = xE (zyEl zymc B H) 35 1 := xFr_E hfr rfl
      have e19_0 : xE (zyEl zymc B H2) 19 0 = xE (zyEl zymc B H) 19 0 := xFr_E hfr rfl
      have e19_1 : xE (zyEl zymc B H2) 19 1 = xE (zyEl zymc B H) 19 1 := xFr_E hfr rfl
      have e36 : ∀ i, xE (zyEl zymc B H2) 36 i = xE (zyEl zymc B H) 36 i := fun i => xFr_E hfr rfl
      have q36 : ∀ i, xE (zyEl zymc B H) 36 i = xE (zyEl zymc B s.heap) 36 i := fun i => xFr_E hFr0 rfl
      have e21 : ∀ i, xE (zyEl zymc B H2) 21 i = xE (zyEl zymc B H) 21 i := fun i => xFr_E hfr rfl
      have e22 : ∀ i, xE (zyEl zymc B H2) 22 i = xE (zyEl zymc B H) 22 i := fun i => xFr_E hfr rfl
      have hI : ((xE (zyEl zymc B H) 35 4 = x0 0 ∧ xE (zyEl zymc B H) 35 1 = 0) ∧ xJk17 (zyEl zymc B s.heap) (zyEl zymc B H) ∧ xOut17 (pSz (xE (zyEl zymc B s.heap) 36) (x0 0)) (zyEl zymc B H) (v 4) ∧ ∀ p S, pSz (xE (zyEl zymc B s.heap) 36) (x0 0) = .ok (p, S) → xGeo17 (zyEl zymc B H) (S 0).toNat (S 1).toNat) ∧ (¬ (v 4) = 0 → (xE (zyEl zymc B H) 35 2 = 0 ∧ xE (zyEl zymc B H) 35 3 = -1)) := hInv
      obtain ⟨hI, hSm⟩ := hI
      have hP := hΦ.1
      have hP2 := hΦ.2
      obtain ⟨⟨ie, is⟩, ij, i1, i2⟩ := hI
      rw [show (v 4) = v2 4 by omega] at i1
      have tt : xE (zyEl zymc B H2) 36 = xE (zyEl zymc B s.heap) 36 := funext fun i => (e36 i).trans (q36 i)
      obtain ⟨pp, S, e1, e2, e3⟩ := xOut17_1 i1 (by omega)
      have hpp := pSz_p (by omega) e1
      refine xCa hRu hIH hAt hB hv hFr (hfad B) (ix := 35) (ax := 1168) rfl rfl rfl hmefad ⟨_, rfl, rfl, by decide⟩ ⟨rfl, rfl, rfl⟩ (by decide) [] [] [] rfl ⟨rfl, rfl⟩ (by decide +kernel) xcs_n (by decide +kernel) ?_ (fun H3 r hT3 hf3 hFr3 hr3 hΨ3 => ?_)
      · show xΦad (xfv []) (zyEl zymc B H2)
        unfold xΦad
        omega
      · have hΨ3 : xΨad (xfv []) (zyEl zymc B H2) (zyEl zymc B H3) r := hΨ3
        have d35_4 : xE (zyEl zymc B H3) 35 4 = xE (zyEl zymc B H2) 35 4 := xFr_E hf3 rfl
        have d35_2 : xE (zyEl zymc B H3) 35 2 = xE (zyEl zymc B H2) 35 2 := xFr_E hf3 rfl
        have d35_3 : xE (zyEl zymc B H3) 35 3 = xE (zyEl zymc B H2) 35 3 := xFr_E hf3 rfl
        have d35_1 : xE (zyEl zymc B H3) 35 1 = xE (zyEl zymc B H2) 35 1 := xFr_E hf3 rfl
        have d19_0 : xE (zyEl zymc B H3) 19 0 = xE (zyEl zymc B H2) 19 0 := xFr_E hf3 rfl
        have d19_1 : xE (zyEl zymc B H3) 19 1 = xE (zyEl zymc B H2) 19 1 := xFr_E hf3 rfl
        have d36 : ∀ i, xE (zyEl zymc B H3) 36 i = xE (zyEl zymc B H2) 36 i := fun i => xFr_E hf3 rfl
        have d21 : ∀ i, xE (zyEl zymc B H3) 21 i = xE (zyEl zymc B H2) 21 i := fun i => xFr_E hf3 rfl
        have d22 : ∀ i, xE (zyEl zymc B H3) 22 i = xE (zyEl zymc B H2) 22 i := fun i => xFr_E hf3 rfl
        unfold xΨad at hΨ3
        rw [tt, show xE (zyEl zymc B H2) 35 4 = x0 0 by omega, show xE (zyEl zymc B H2) 35 6 = pp by omega] at hΨ3
        refine ⟨⟨2, by decide⟩, [0, 0, 0, 0], [0, 0, 0, 0], rfl, ⟨by decide +kernel, ⟨rfl, by decide +kernel⟩, (xcs_c rfl (xcs_c rfl (xcs_c rfl (xcs_c rfl xcs_n)))), (xe_0 (xe_0 (xe_0 (xe_0 xe_n)))), xkq_n⟩, (by rw [if_neg (by decide)]; exact xst_n), ?_, ?_⟩
        · show ((xE (zyEl zymc B H3) 35 4 = x0 0 ∧ xE (zyEl zymc B H3) 35 1 = 0) ∧ xJk17 (zyEl zymc B s.heap) (zyEl zymc B H3) ∧ ∃ p S, pAll (xE (zyEl zymc B s.heap) 36) (x0 0) = pLines (xE (zyEl zymc B s.heap) 36) (x0 0) 901 p S ∧ (0 ≤ p ∧ p ≤ x0 0) ∧ xAb17 (zyEl zymc B H3) S ∧ xGeo17 (zyEl zymc B H3) (S 0).toNat (S 1).toNat ∧ xAD (xE (zyEl zymc B s.heap) 36) (x0 0) p (zyEl zymc B H3)) ∧ (xE (zyEl zymc B H3) 35 2 = 0 ∧ xE (zyEl zymc B H3) 35 3 = -1)
          refine ⟨?_, ?_⟩
          · skip
            exact ⟨⟨by omega, by omega⟩, fun i i0 i1 => by have w := ij i i0 i1; rw [d21 i, e21 i, d22 i, e22 i]; exact w, pp, S, by unfold pAll; rw [e1]; rfl, by omega, xAb17_35 e3 (xFr_trans (xFr_mono (by decide) hfr) (xFr_mono (by decide) hf3)), xGeo17_35 (i2 _ _ e1) (xFr_trans (xFr_mono (by decide) hfr) (xFr_mono (by decide) hf3)), hΨ3⟩
          · omega
        · show 9998 < 9999
          omega
    · have hx : x ∈ [zxfra17_cx0] := hx
      have hag : ∀ k, k < 4 → v2 k = v k := hag
      have hfr : xFr [] _ _ := hfr
      have ex := List.mem_singleton.mp hx
      subst ex
      obtain ⟨hF, hBd, hM⟩ := hXs
      have e35_4 : xE (zyEl zymc B H2) 35 4 = xE (zyEl zymc B H) 35 4 := xFr_E hfr rfl
      have e35_5 : xE (zyEl zymc B H2) 35 5 = xE (zyEl zymc B H) 35 5 := xFr_E hfr rfl
      have e35_6 : xE (zyEl zymc B H2) 35 6 = xE (zyEl zymc B H) 35 6 := xFr_E hfr rfl
      have e35_7 : xE (zyEl zymc B H2) 35 7 = xE (zyEl zymc B H) 35 7 := xFr_E hfr rfl
      have e35_8 : xE (zyEl zymc B H2) 35 8 = xE (zyEl zymc B H) 35 8 := xFr_E hfr rfl
      have e35_2 : xE (zyEl zymc B H2) 35 2 = xE (zyEl zymc B H) 35 2 := xFr_E hfr rfl
      have e35_3 : xE (zyEl zymc B H2) 35 3 = xE (zyEl zymc B H) 35 3 := xFr_E hfr rfl
      have e35_1 : xE (zyEl zymc B H2) 35 1 = xE (zyEl zymc B H) 35 1 := xFr_E hfr rfl
      have e19_0 : xE (zyEl zymc B H2) 19 0 = xE (zyEl zymc B H) 19 0 := xFr_E hfr rfl
      have e19_1 : xE (zyEl zymc B H2) 19 1 = xE (zyEl zymc B H) 19 1 := xFr_E hfr rfl
      have e36 : ∀ i, xE (zyEl zymc B H2) 36 i = xE (zyEl zymc B H) 36 i := fun i => xFr_E hfr rfl
      have q36 : ∀ i, xE (zyEl zymc B H) 36 i = xE (zyEl zymc B s.heap) 36 i := fun i => xFr_E hFr0 rfl
      have e21 : ∀ i, xE (zyEl zymc B H2) 21 i = xE (zyEl zymc B H) 21 i := fun i => xFr_E hfr rfl
      have e22 : ∀ i, xE (zyEl zymc B H2) 22 i = xE (zyEl zymc B H) 22 i := fun i => xFr_E hfr rfl
      have hI : ((xE (zyEl zymc B H) 35 4 = x0 0 ∧ xE (zyEl zymc B H) 35 1 = 0) ∧ xJk17 (zyEl zymc B s.heap) (zyEl zymc B H) ∧ ∃ p S, pAll (xE (zyEl zymc B s.heap) 36) (x0 0) = pLines (xE (zyEl zymc B s.heap) 36) (x0 0) 901 p S ∧ (0 ≤ p ∧ p ≤ x0 0) ∧ xAb17 (zyEl zymc B H) S ∧ xGeo17 (zyEl zymc B H) (S 0).toNat (S 1).toNat ∧ xAD (xE (zyEl zymc B s.heap) 36) (x0 0) p (zyEl zymc B H)) ∧ (xE (zyEl zymc B H) 35 2 = 0 ∧ xE (zyEl zymc B H) 35 3 = -1) := hInv
      obtain ⟨hI, hSm⟩ := hI
      have hP := hΦ.1
      have hP2 := hΦ.2
      obtain ⟨⟨ie, is⟩, ij, pp, S, i1, i2, i3, i4, i5⟩ := hI
      have hE2 := xFr_n hfr
      refine xGo hIH hAt hB hv hFr ⟨3, by decide⟩ [0, 0, 0, 0] [0, 0, 0, 0] rfl ⟨by decide +kernel, ⟨rfl, by decide +kernel⟩, (xcs_c rfl (xcs_c rfl (xcs_c rfl (xcs_c rfl xcs_n)))), (xe_0 (xe_0 (xe_0 (xe_c (by omega) (by omega) rfl xe_n)))), xkq_n⟩ xst_n ?_ ?_
      · show ((0 ≤ (0 : Int) ∧ (0 : Int) ≤ 901) ∧ (xE (zyEl zymc B H2) 35 4 = x0 0 ∧ xE (zyEl zymc B H2) 35 1 = 0) ∧ xJk17 (zyEl zymc B s.heap) (zyEl zymc B H2) ∧ ∃ p S, pAll (xE (zyEl zymc B s.heap) 36) (x0 0) = pLines (xE (zyEl zymc B s.heap) 36) (x0 0) (901 - (0 : Int)).toNat p S ∧ ((0 : Int) ≤ p ∧ p ≤ x0 0) ∧ xAb17 (zyEl zymc B H2) S ∧ xGeo17 (zyEl zymc B H2) (S 0).toNat (S 1).toNat ∧ xAD (xE (zyEl zymc B s.heap) 36) (x0 0) p (zyEl zymc B H2)) ∧ (xE (zyEl zymc B H2) 35 2 = 0 ∧ xE (zyEl zymc B H2) 35 3 = -1)
        refine ⟨?_, ?_⟩
        · skip
          rw [hE2]
          exact ⟨by omega, ⟨ie, is⟩, ij, pp, S, i1, by omega, i3, i4, i5⟩
        · omega
      · show 3 * (1000 - (0 : Int)).toNat + 2 < 9998
        omega
    · have hx : x ∈ [zxfra17_dx0] := hx
      have hag : ∀ k, k < 4 → v2 k = v k := hag
      have hfr : xFr [] _ _ := hfr
      have ex := List.mem_singleton.mp hx
      subst ex
      obtain ⟨hF, hBd, hM⟩ := hXs
      have g3 : v2 3 = v 3 := hag 3 (by decide)
      have b0 : ((2147483648 : Nat) : Int) ≤ (v2 3) + 2147483648 ∧ (v2 3) + 2147483648 ≤ ((2147484548 : Nat) : Int) := xXb hBd 0 rfl
      have b1 : ((2147483649 : Nat) : Int) ≤ (v2 4) + 2147483648 ∧ (v2 4) + 2147483648 ≤ ((2147483653 : Nat) : Int) := xXb hBd 1 rfl
      have f0 : (v2 3) ≤ 900 := xXf hF 0 rfl
      have f1 : (0 : Int) ≤ 7 ∧ xE (zyEl zymc B H) 35 7 = (v2 4) := xXf hF 1 rfl
      have f2 : ¬ (v2 4) = 0 := xXf hF 2 rfl
      have e35_4 : xE (zyEl zymc B H2) 35 4 = xE (zyEl zymc B H) 35 4 := xFr_E hfr rfl
      have e35_5 : xE (zyEl zymc B H2) 35 5 = xE (zyEl zymc B H) 35 5 := xFr_E hfr rfl
      have e35_6 : xE (zyEl zymc B H2) 35 6 = xE (zyEl zymc B H) 35 6 := xFr_E hfr rfl
      have e35_7 : xE (zyEl zymc B H2) 35 7 = xE (zyEl zymc B H) 35 7 := xFr_E hfr rfl
      have e35_8 : xE (zyEl zymc B H2) 35 8 = xE (zyEl zymc B H) 35 8 := xFr_E hfr rfl
      have e35_2 : xE (zyEl zymc B H2) 35 2 = xE (zyEl zymc B H) 35 2 := xFr_E hfr rfl
      have e35_3 : xE (zyEl zymc B H2) 35 3 = xE (zyEl zymc B H) 35 3 := xFr_E hfr rfl
      have e35_1 : xE (zyEl zymc B H2) 35 1 = xE (zyEl zymc B H) 35 1 := xFr_E hfr rfl
      have e19_0 : xE (zyEl zymc B H2) 19 0 = xE (zyEl zymc B H) 19 0 := xFr_E hfr rfl
      have e19_1 : xE (zyEl zymc B H2) 19 1 = xE (zyEl zymc B H) 19 1 := xFr_E hfr rfl
      have e36 : ∀ i, xE (zyEl zymc B H2) 36 i = xE (zyEl zymc B H) 36 i := fun i => xFr_E hfr rfl
      have q36 : ∀ i, xE (zyEl zymc B H) 36 i = xE (zyEl zymc B s.heap) 36 i := fun i => xFr_E hFr0 rfl
      have e21 : ∀ i, xE (zyEl zymc B H2) 21 i = xE (zyEl zymc B H) 21 i := fun i => xFr_E hfr rfl
      have e22 : ∀ i, xE (zyEl zymc B H2) 22 i = xE (zyEl zymc B H) 22 i := fun i => xFr_E hfr rfl
      have hI : ((0 ≤ (v 3) ∧ (v 3) ≤ 901) ∧ (xE (zyEl zymc B H) 35 4 = x0 0 ∧ xE (zyEl zymc B H) 35 1 = 0) ∧ xJk17 (zyEl zymc B s.heap) (zyEl zymc B H) ∧ ∃ p S, pAll (xE (zyEl zymc B s.heap) 36) (x0 0) = pLines (xE (zyEl zymc B s.heap) 36) (x0 0) (901 - (v 3)).toNat p S ∧ ((v 3) ≤ p ∧ p ≤ x0 0) ∧ xAb17 (zyEl zymc B H) S ∧ xGeo17 (zyEl zymc B H) (S 0).toNat (S 1).toNat ∧ xAD (xE (zyEl zymc B s.heap) 36) (x0 0) p (zyEl zymc B H)) ∧ (xE (zyEl zymc B H) 35 2 = 0 ∧ xE (zyEl zymc B H) 35 3 = -1) := hInv
      obtain ⟨hI, hSm⟩ := hI
      have hP := hΦ.1
      have hP2 := hΦ.2
      obtain ⟨i0, ⟨ie, is⟩, ij, pp, S, i1, i2, i3, i4, ⟨a1, a2, a3, a4⟩⟩ := hI
      have hE2 := xFr_n hfr
      have tt : xE (zyEl zymc B H2) 36 = xE (zyEl zymc B s.heap) 36 := funext fun i => (e36 i).trans (q36 i)
      have hk : ¬ tKd (xE (zyEl zymc B s.heap) 36) (x0 0) pp = 0 := by omega
      have hA2 : xAD (xE (zyEl zymc B s.heap) 36) (x0 0) pp (zyEl zymc B H2) := by rw [hE2]; exact ⟨a1, a2, a3, a4⟩
      have hS2 : xAb17 (zyEl zymc B H2) S := by rw [hE2]; exact i3
      have hb := tNx_b (T := xE (zyEl zymc B s.heap) 36) (n := x0 0) (p := pp) i2.2
      refine xCa hRu hIH hAt hB hv hFr (hfrl17 B) (ix := 41) (ax := 976) rfl rfl rfl hmefrl17 ⟨_, rfl, rfl, by decide⟩ ⟨rfl, rfl, rfl⟩ (by decide) [] [] [] rfl ⟨rfl, rfl⟩ (by decide +kernel) xcs_n (by decide +kernel) ?_ (fun H3 r hT3 hf3 hFr3 hr3 hΨ3 => ?_)
      · show xΦrl17 (xfv []) (zyEl zymc B H2)
        refine ⟨by omega, ⟨S, hS2⟩, pp, by omega, ?_⟩
        rw [tt, show xE (zyEl zymc B H2) 35 4 = x0 0 by omega]
        exact hA2
      · have hΨ3 : xΨfrl17S (xfv []) (zyEl zymc B H2) (zyEl zymc B H3) r := hΨ3
        obtain ⟨hΨ3, hS3⟩ := hΨ3
        have hΨ3 : xΨfrl17 (xfv []) (zyEl zymc B H2) (zyEl zymc B H3) r := hΨ3
        have hS3 : (¬ (r) = 0 → (xE (zyEl zymc B H3) 35 2 = xE (zyEl zymc B H2) 35 2 ∧ xE (zyEl zymc B H3) 35 3 = xE (zyEl zymc B H2) 35 3)) := hS3
        have d35_4 : xE (zyEl zymc B H3) 35 4 = xE (zyEl zymc B H2) 35 4 := xFr_E hf3 rfl
        have d35_1 : xE (zyEl zymc B H3) 35 1 = xE (zyEl zymc B H2) 35 1 := xFr_E hf3 rfl
        have d19_0 : xE (zyEl zymc B H3) 19 0 = xE (zyEl zymc B H2) 19 0 := xFr_E hf3 rfl
        have d19_1 : xE (zyEl zymc B H3) 19 1 = xE (zyEl zymc B H2) 19 1 := xFr_E hf3 rfl
        have d36 : ∀ i, xE (zyEl zymc B H3) 36 i = xE (zyEl zymc B H2) 36 i := fun i => xFr_E hf3 rfl
        have d21 : ∀ i, xE (zyEl zymc B H3) 21 i = xE (zyEl zymc B H2) 21 i := fun i => xFr_E hf3 rfl
        have d22 : ∀ i, xE (zyEl zymc B H3) 22 i = xE (zyEl zymc B H2) 22 i := fun i => xFr_E hf3 rfl
        have w := hΨ3 pp S (by omega) (by rw [tt, show xE (zyEl zymc B H2) 35 4 = x0 0 by omega]; exact hA2) hS2
        rw [tt, show xE (zyEl zymc B H2) 35 4 = x0 0 by omega] at w
        have hr01 := xOut17_r w
        refine ⟨⟨4, by decide⟩, [0, 0, 0, 103079215105], [0, 0, 0, (v2 3), r], rfl, ⟨by decide +kernel, ⟨rfl, by decide +kernel⟩, (xcs_c rfl (xcs_c rfl (xcs_c rfl (xcs_c rfl xcs_n)))), (xe_0 (xe_0 (xe_0 (xe_c (by omega) (by omega) rfl (xe_c (by omega) (by omega) rfl xe_n))))), xkq_n⟩, (by rw [if_pos rfl]; exact ⟨4, [], rfl, by decide, rfl, xst_n⟩), ?_, ?_⟩
        · show ((0 ≤ ((v2 3) : Int) ∧ ((v2 3) : Int) ≤ 900) ∧ (xE (zyEl zymc B H3) 35 4 = x0 0 ∧ xE (zyEl zymc B H3) 35 1 = 0) ∧ xJk17 (zyEl zymc B s.heap) (zyEl zymc B H3) ∧ ∃ p S, pAll (xE (zyEl zymc B s.heap) 36) (x0 0) = pBind (pLine (xE (zyEl zymc B s.heap) 36) (x0 0) p S) (pLines (xE (zyEl zymc B s.heap) 36) (x0 0) (900 - ((v2 3) : Int)).toNat) ∧ ¬ tKd (xE (zyEl zymc B s.heap) 36) (x0 0) p = 0 ∧ (((v2 3) : Int) ≤ p ∧ p ≤ x0 0) ∧ xOut17 (pLine (xE (zyEl zymc B s.heap) 36) (x0 0) p S) (zyEl zymc B H3) (r : Int) ∧ xGeo17 (zyEl zymc B H3) (S 0).toNat (S 1).toNat ∧ xE (zyEl zymc B H3) 19 0 = S 0 ∧ xE (zyEl zymc B H3) 19 1 = S 1) ∧ (¬ (r : Int) = 0 → (xE (zyEl zymc B H3) 35 2 = 0 ∧ xE (zyEl zymc B H3) 35 3 = -1))
          refine ⟨?_, ?_⟩
          · skip
            have hr0 := i3.2.1
            refine ⟨by omega, ⟨by omega, by omega⟩, fun i i0 i1 => by have w := ij i i0 i1; rw [d21 i, e21 i, d22 i, e22 i]; exact w, pp, S, ?_, hk, by omega, w, xGeo17_rl (by rw [← hE2] at i4; exact i4) hf3, by omega, by omega⟩
            rw [i1, show (901 - v 3).toNat = (900 - v2 3).toNat + 1 by omega, pLines_s hk]
          · omega
        · show 3 * (1000 - ((v2 3) : Int)).toNat + 1 < 3 * (1000 - (v 3)).toNat + 2
          omega
    · have hx : x ∈ [zxfra17_ex0] := hx
      have hag : ∀ k, k < 5 → v2 k = v k := hag
      have hfr : xFr [] _ _ := hfr
      have ex := List.mem_singleton.mp hx
      subst ex
      obtain ⟨hF, hBd, hM⟩ := hXs
      have g3 : v2 3 = v 3 := hag 3 (by decide)
      have g4 : v2 4 = v 4 := hag 4 (by decide)
      have b0 : ((2147483648 : Nat) : Int) ≤ (v2 3) + 2147483648 ∧ (v2 3) + 2147483648 ≤ ((2147484548 : Nat) : Int) := xXb hBd 0 rfl
      have b1 : ((2147483649 : Nat) : Int) ≤ (v2 4) + 2147483648 ∧ (v2 4) + 2147483648 ≤ ((2147483649 : Nat) : Int) := xXb hBd 1 rfl
      have f0 : ¬ (v2 4) = 0 := xXf hF 0 rfl
      have e35_4 : xE (zyEl zymc B H2) 35 4 = xE (zyEl zymc B H) 35 4 := xFr_E hfr rfl
      have e35_5 : xE (zyEl zymc B H2) 35 5 = xE (zyEl zymc B H) 35 5 := xFr_E hfr rfl
      have e35_6 : xE (zyEl zymc B H2) 35 6 = xE (zyEl zymc B H) 35 6 := xFr_E hfr rfl
      have e35_7 : xE (zyEl zymc B H2) 35 7 = xE (zyEl zymc B H) 35 7 := xFr_E hfr rfl
      have e35_8 : xE (zyEl zymc B H2) 35 8 = xE (zyEl zymc B H) 35 8 := xFr_E hfr rfl
      have e35_2 : xE (zyEl zymc B H2) 35 2 = xE (zyEl zymc B H) 35 2 := xFr_E hfr rfl
      have e35_3 : xE (zyEl zymc B H2) 35 3 = xE (zyEl zymc B H) 35 3 := xFr_E hfr rfl
      have e35_1 : xE (zyEl zymc B H2) 35 1 = xE (zyEl zymc B H) 35 1 := xFr_E hfr rfl
      have e19_0 : xE (zyEl zymc B H2) 19 0 = xE (zyEl zymc B H) 19 0 := xFr_E hfr rfl
      have e19_1 : xE (zyEl zymc B H2) 19 1 = xE (zyEl zymc B H) 19 1 := xFr_E hfr rfl
      have e36 : ∀ i, xE (zyEl zymc B H2) 36 i = xE (zyEl zymc B H) 36 i := fun i => xFr_E hfr rfl
      have q36 : ∀ i, xE (zyEl zymc B H) 36 i = xE (zyEl zymc B s.heap) 36 i := fun i => xFr_E hFr0 rfl
      have e21 : ∀ i, xE (zyEl zymc B H2) 21 i = xE (zyEl zymc B H) 21 i := fun i => xFr_E hfr rfl
      have e22 : ∀ i, xE (zyEl zymc B H2) 22 i = xE (zyEl zymc B H) 22 i := fun i => xFr_E hfr rfl
      have hI : ((0 ≤ (v 3) ∧ (v 3) ≤ 900) ∧ (xE (zyEl zymc B H) 35 4 = x0 0 ∧ xE (zyEl zymc B H) 35 1 = 0) ∧ xJk17 (zyEl zymc B s.heap) (zyEl zymc B H) ∧ ∃ p S, pAll (xE (zyEl zymc B s.heap) 36) (x0 0) = pBind (pLine (xE (zyEl zymc B s.heap) 36) (x0 0) p S) (pLines (xE (zyEl zymc B s.heap) 36) (x0 0) (900 - (v 3)).toNat) ∧ ¬ tKd (xE (zyEl zymc B s.heap) 36) (x0 0) p = 0 ∧ ((v 3) ≤ p ∧ p ≤ x0 0) ∧ xOut17 (pLine (xE (zyEl zymc B s.heap) 36) (x0 0) p S) (zyEl zymc B H) (v 4) ∧ xGeo17 (zyEl zymc B H) (S 0).toNat (S 1).toNat ∧ xE (zyEl zymc B H) 19 0 = S 0 ∧ xE (zyEl zymc B H) 19 1 = S 1) ∧ (¬ (v 4) = 0 → (xE (zyEl zymc B H) 35 2 = 0 ∧ xE (zyEl zymc B H) 35 3 = -1)) := hInv
      obtain ⟨hI, hSm⟩ := hI
      have hP := hΦ.1
      have hP2 := hΦ.2
      obtain ⟨i0, ⟨ie, is⟩, ij, pp, S, i1, hk, i2, i3, i4, i5, i6⟩ := hI
      rw [show (v 4) = v2 4 by omega] at i3
      have tt : xE (zyEl zymc B H2) 36 = xE (zyEl zymc B s.heap) 36 := funext fun i => (e36 i).trans (q36 i)
      obtain ⟨p2, S2, e1, e2, e3⟩ := xOut17_1 i3 (by omega)
      have hpp := pLine_p i2.2 hk e1
      have s0 := e3.2.1.1
      have s1 := e3.2.1.2.1
      have t0 : S2 0 = S 0 := by omega
      have t1 : S2 1 = S 1 := by omega
      refine xCa hRu hIH hAt hB hv hFr (hfad B) (ix := 35) (ax := 1168) rfl rfl rfl hmefad ⟨_, rfl, rfl, by decide⟩ ⟨rfl, rfl, rfl⟩ (by decide) [] [] [] rfl ⟨rfl, rfl⟩ (by decide +kernel) xcs_n (by decide +kernel) ?_ (fun H3 r hT3 hf3 hFr3 hr3 hΨ3 => ?_)
      · show xΦad (xfv []) (zyEl zymc B H2)
        unfold xΦad
        omega
      · have hΨ3 : xΨad (xfv []) (zyEl zymc B H2) (zyEl zymc B H3) r := hΨ3
        have d35_4 : xE (zyEl zymc B H3) 35 4 = xE (zyEl zymc B H2) 35 4 := xFr_E hf3 rfl
        have d35_2 : xE (zyEl zymc B H3) 35 2 = xE (zyEl zymc B H2) 35 2 := xFr_E hf3 rfl
        have d35_3 : xE (zyEl zymc B H3) 35 3 = xE (zyEl zymc B H2) 35 3 := xFr_E hf3 rfl
        have d35_1 : xE (zyEl zymc B H3) 35 1 = xE (zyEl zymc B H2) 35 1 := xFr_E hf3 rfl
        have d19_0 : xE (zyEl zymc B H3) 19 0 = xE (zyEl zymc B H2) 19 0 := xFr_E hf3 rfl
        have d19_1 : xE (zyEl zymc B H3) 19 1 = xE (zyEl zymc B H2) 19 1 := xFr_E hf3 rfl
        have d36 : ∀ i, xE (zyEl zymc B H3) 36 i = xE (zyEl zymc B H2) 36 i := fun i => xFr_E hf3 rfl
        have d21 : ∀ i, xE (zyEl zymc B H3) 21 i = xE (zyEl zymc B H2) 21 i := fun i => xFr_E hf3 rfl
        have d22 : ∀ i, xE (zyEl zymc B H3) 22 i = xE (zyEl zymc B H2) 22 i := fun i => xFr_E hf3 rfl
        unfold xΨad at hΨ3
        rw [tt, show xE (zyEl zymc B H2) 35 4 = x0 0 by omega, show xE (zyEl zymc B H2) 35 6 = p2 by omega] at hΨ3
        refine ⟨⟨5, by decide⟩, [0, 0, 0, 103079215105], [0, 0, 0, (v2 3)], rfl, ⟨by decide +kernel, ⟨rfl, by decide +kernel⟩, (xcs_c rfl (xcs_c rfl (xcs_c rfl (xcs_c rfl xcs_n)))), (xe_0 (xe_0 (xe_0 (xe_c (by omega) (by omega) rfl xe_n)))), xkq_n⟩, (by rw [if_neg (by decide)]; exact xst_n), ?_, ?_⟩
        · show ((0 ≤ ((v2 3) : Int) ∧ ((v2 3) : Int) ≤ 900) ∧ (xE (zyEl zymc B H3) 35 4 = x0 0 ∧ xE (zyEl zymc B H3) 35 1 = 0) ∧ xJk17 (zyEl zymc B s.heap) (zyEl zymc B H3) ∧ ∃ p S, pAll (xE (zyEl zymc B s.heap) 36) (x0 0) = pLines (xE (zyEl zymc B s.heap) 36) (x0 0) (900 - ((v2 3) : Int)).toNat p S ∧ (((v2 3) : Int) + 1 ≤ p ∧ p ≤ x0 0) ∧ xAb17 (zyEl zymc B H3) S ∧ xGeo17 (zyEl zymc B H3) (S 0).toNat (S 1).toNat ∧ xAD (xE (zyEl zymc B s.heap) 36) (x0 0) p (zyEl zymc B H3)) ∧ (xE (zyEl zymc B H3) 35 2 = 0 ∧ xE (zyEl zymc B H3) 35 3 = -1)
          refine ⟨?_, ?_⟩
          · skip
            refine ⟨by omega, ⟨by omega, by omega⟩, fun i i0 i1 => by have w := ij i i0 i1; rw [d21 i, e21 i, d22 i, e22 i]; exact w, p2, S2, ?_, by omega, xAb17_35 e3 (xFr_trans (xFr_mono (by decide) hfr) (xFr_mono (by decide) hf3)), xGeo17_35 (by rw [t0, t1]; exact i4) (xFr_trans (xFr_mono (by decide) hfr) (xFr_mono (by decide) hf3)), hΨ3⟩
            rw [i1, e1, show (v 3) = v2 3 by omega]
            rfl
          · omega
        · show 3 * (1000 - ((v2 3) : Int)).toNat < 3 * (1000 - (v 3)).toNat + 1
          omega
    · have hx : x ∈ [zxfra17_fx0] := hx
      have hag : ∀ k, k < 4 → v2 k = v k := hag
      have hfr : xFr [] _ _ := hfr
      have ex := List.mem_singleton.mp hx
      subst ex
      obtain ⟨hF, hBd, hM⟩ := hXs
      have g3 : v2 3 = v 3 := hag 3 (by decide)
      have b0 : ((2147483648 : Nat) : Int) ≤ (v2 3) + 2147483648 ∧ (v2 3) + 2147483648 ≤ ((2147484548 : Nat) : Int) := xXb hBd 0 rfl
      have b1 : ((2147483649 : Nat) : Int) ≤ (v2 3 + 1) + 2147483648 ∧ (v2 3 + 1) + 2147483648 ≤ ((2147484549 : Nat) : Int) := xXb hBd 1 rfl
      have e35_4 : xE (zyEl zymc B H2) 35 4 = xE (zyEl zymc B H) 35 4 := xFr_E hfr rfl
      have e35_5 : xE (zyEl zymc B H2) 35 5 = xE (zyEl zymc B H) 35 5 := xFr_E hfr rfl
      have e35_6 : xE (zyEl zymc B H2) 35 6 = xE (zyEl zymc B H) 35 6 := xFr_E hfr rfl
      have e35_7 : xE (zyEl zymc B H2) 35 7 = xE (zyEl zymc B H) 35 7 := xFr_E hfr rfl
      have e35_8 : xE (zyEl zymc B H2) 35 8 = xE (zyEl zymc B H) 35 8 := xFr_E hfr rfl
      have e35_2 : xE (zyEl zymc B H2) 35 2 = xE (zyEl zymc B H) 35 2 := xFr_E hfr rfl
      have e35_3 : xE (zyEl zymc B H2) 35 3 = xE (zyEl zymc B H) 35 3 := xFr_E hfr rfl
      have e35_1 : xE (zyEl zymc B H2) 35 1 = xE (zyEl zymc B H) 35 1 := xFr_E hfr rfl
      have e19_0 : xE (zyEl zymc B H2) 19 0 = xE (zyEl zymc B H) 19 0 := xFr_E hfr rfl
      have e19_1 : xE (zyEl zymc B H2) 19 1 = xE (zyEl zymc B H) 19 1 := xFr_E hfr rfl
      have e36 : ∀ i, xE (zyEl zymc B H2) 36 i = xE (zyEl zymc B H) 36 i := fun i => xFr_E hfr rfl
      have q36 : ∀ i, xE (zyEl zymc B H) 36 i = xE (zyEl zymc B s.heap) 36 i := fun i => xFr_E hFr0 rfl
      have e21 : ∀ i, xE (zyEl zymc B H2) 21 i = xE (zyEl zymc B H) 21 i := fun i => xFr_E hfr rfl
      have e22 : ∀ i, xE (zyEl zymc B H2) 22 i = xE (zyEl zymc B H) 22 i := fun i => xFr_E hfr rfl
      have hI : ((0 ≤ (v 3) ∧ (v 3) ≤ 900) ∧ (xE (zyEl zymc B H) 35 4 = x0 0 ∧ xE (zyEl zymc B H) 35 1 = 0) ∧ xJk17 (zyEl zymc B s.heap) (zyEl zymc B H) ∧ ∃ p S, pAll (xE (zyEl zymc B s.heap) 36) (x0 0) = pLines (xE (zyEl zymc B s.heap) 36) (x0 0) (900 - (v 3)).toNat p S ∧ ((v 3) + 1 ≤ p ∧ p ≤ x0 0) ∧ xAb17 (zyEl zymc B H) S ∧ xGeo17 (zyEl zymc B H) (S 0).toNat (S 1).toNat ∧ xAD (xE (zyEl zymc B s.heap) 36) (x0 0) p (zyEl zymc B H)) ∧ (xE (zyEl zymc B H) 35 2 = 0 ∧ xE (zyEl zymc B H) 35 3 = -1) := hInv
      obtain ⟨hI, hSm⟩ := hI
      have hP := hΦ.1
      have hP2 := hΦ.2
      obtain ⟨i0, ⟨ie, is⟩, ij, pp, S, i1, i2, i3, i4, i5⟩ := hI
      have hE2 := xFr_n hfr
      refine xGo hIH hAt hB hv hFr ⟨3, by decide⟩ [0, 0, 0, 103079215113] [0, 0, 0, (v2 3 + 1)] rfl ⟨by decide +kernel, ⟨rfl, by decide +kernel⟩, (xcs_c rfl (xcs_c rfl (xcs_c rfl (xcs_c rfl xcs_n)))), (xe_0 (xe_0 (xe_0 (xe_c (by omega) (by omega) rfl xe_n)))), xkq_n⟩ xst_n ?_ ?_
      · show ((0 ≤ ((v2 3 + 1) : Int) ∧ ((v2 3 + 1) : Int) ≤ 901) ∧ (xE (zyEl zymc B H2) 35 4 = x0 0 ∧ xE (zyEl zymc B H2) 35 1 = 0) ∧ xJk17 (zyEl zymc B s.heap) (zyEl zymc B H2) ∧ ∃ p S, pAll (xE (zyEl zymc B s.heap) 36) (x0 0) = pLines (xE (zyEl zymc B s.heap) 36) (x0 0) (901 - ((v2 3 + 1) : Int)).toNat p S ∧ (((v2 3 + 1) : Int) ≤ p ∧ p ≤ x0 0) ∧ xAb17 (zyEl zymc B H2) S ∧ xGeo17 (zyEl zymc B H2) (S 0).toNat (S 1).toNat ∧ xAD (xE (zyEl zymc B s.heap) 36) (x0 0) p (zyEl zymc B H2)) ∧ (xE (zyEl zymc B H2) 35 2 = 0 ∧ xE (zyEl zymc B H2) 35 3 = -1)
        refine ⟨?_, ?_⟩
        · skip
          rw [hE2]
          exact ⟨by omega, ⟨ie, is⟩, ij, pp, S, by rw [i1, show (900 - v 3).toNat = (901 - (v2 3 + 1)).toNat by omega], by omega, i3, i4, i5⟩
        · omega
      · show 3 * (1000 - ((v2 3 + 1) : Int)).toNat + 2 < 3 * (1000 - (v 3)).toNat
        omega
  · intro x0 E0 E E2 hrx hT0 hΦ i v hT hrv hInv hKc hFr0 x hx v2 hr2 hXs hag hfr hFr hT2
    rcases i with ⟨i, hi⟩
    have hi2 : i = 0 ∨ i = 1 ∨ i = 2 ∨ i = 3 ∨ i = 4 ∨ i = 5 := by omega
    rcases hi2 with rfl | rfl | rfl | rfl | rfl | rfl
    · cases hx
    · have hx : x ∈ [zxfra17_br0] := hx
      have hag : ∀ k, k < 5 → v2 k = v k := hag
      have hfr : xFr [] _ _ := hfr
      have ex := List.mem_singleton.mp hx
      subst ex
      obtain ⟨hF, hBd, hM⟩ := hXs
      have g4 : v2 4 = v 4 := hag 4 (by decide)
      have b0 : ((2147483648 : Nat) : Int) ≤ (v2 4) + 2147483648 ∧ (v2 4) + 2147483648 ≤ ((2147483648 : Nat) : Int) := xXb hBd 0 rfl
      have f0 : (v2 4) = 0 := xXf hF 0 rfl
      have e35_4 : xE E2 35 4 = xE E 35 4 := xFr_E hfr rfl
      have e35_5 : xE E2 35 5 = xE E 35 5 := xFr_E hfr rfl
      have e35_6 : xE E2 35 6 = xE E 35 6 := xFr_E hfr rfl
      have e35_7 : xE E2 35 7 = xE E 35 7 := xFr_E hfr rfl
      have e35_8 : xE E2 35 8 = xE E 35 8 := xFr_E hfr rfl
      have e35_2 : xE E2 35 2 = xE E 35 2 := xFr_E hfr rfl
      have e35_3 : xE E2 35 3 = xE E 35 3 := xFr_E hfr rfl
      have e35_1 : xE E2 35 1 = xE E 35 1 := xFr_E hfr rfl
      have e19_0 : xE E2 19 0 = xE E 19 0 := xFr_E hfr rfl
      have e19_1 : xE E2 19 1 = xE E 19 1 := xFr_E hfr rfl
      have e36 : ∀ i, xE E2 36 i = xE E 36 i := fun i => xFr_E hfr rfl
      have q36 : ∀ i, xE E 36 i = xE E0 36 i := fun i => xFr_E hFr0 rfl
      have e21 : ∀ i, xE E2 21 i = xE E 21 i := fun i => xFr_E hfr rfl
      have e22 : ∀ i, xE E2 22 i = xE E 22 i := fun i => xFr_E hfr rfl
      have hI : ((xE E 35 4 = x0 0 ∧ xE E 35 1 = 0) ∧ xJk17 E0 E ∧ xOut17 (pSz (xE E0 36) (x0 0)) E (v 4) ∧ ∀ p S, pSz (xE E0 36) (x0 0) = .ok (p, S) → xGeo17 E (S 0).toNat (S 1).toNat) ∧ (¬ (v 4) = 0 → (xE E 35 2 = 0 ∧ xE E 35 3 = -1)) := hInv
      obtain ⟨hI, hSm⟩ := hI
      show xΨfra17S x0 E0 E2 0
      refine ⟨?_, ?_⟩
      · show xΨra17 x0 E0 E2 0
        have hP := hΦ.1
        have hP2 := hΦ.2
        obtain ⟨⟨ie, is⟩, ij, i1, i2⟩ := hI
        rw [show (v 4) = v2 4 by omega] at i1
        obtain ⟨w, a, e1, e2, e3⟩ := xOut17_0 i1 (by omega)
        have hA : pAll (xE E0 36) (x0 0) = .error (w, a) := by unfold pAll; rw [e1]; rfl
        refine ⟨?_, fun i i0 i1 => by have w := ij i i0 i1; rw [e21 i, e22 i]; exact w, (fun p S h => by rw [hA] at h; cases h), by omega⟩
        rw [hA]
        exact ⟨by omega, by omega, by omega⟩
      · show (¬ (0) = 0 → (xE E2 35 2 = 0 ∧ xE E2 35 3 = -1))
        omega
    · cases hx
    · have hx : x ∈ [zxfra17_dr0, zxfra17_dr1] := hx
      have hag : ∀ k, k < 4 → v2 k = v k := hag
      have hfr : xFr [] _ _ := hfr
      rcases List.mem_cons.mp hx with ex | hx
      · subst ex
        obtain ⟨hF, hBd, hM⟩ := hXs
        have g3 : v2 3 = v 3 := hag 3 (by decide)
        have b0 : ((2147484549 : Nat) : Int) ≤ (v2 3) + 2147483648 ∧ (v2 3) + 2147483648 ≤ ((2147484549 : Nat) : Int) := xXb hBd 0 rfl
        have f0 : 900 < (v2 3) := xXf hF 0 rfl
        have e35_4 : xE E2 35 4 = xE E 35 4 := xFr_E hfr rfl
        have e35_5 : xE E2 35 5 = xE E 35 5 := xFr_E hfr rfl
        have e35_6 : xE E2 35 6 = xE E 35 6 := xFr_E hfr rfl
        have e35_7 : xE E2 35 7 = xE E 35 7 := xFr_E hfr rfl
        have e35_8 : xE E2 35 8 = xE E 35 8 := xFr_E hfr rfl
        have e35_2 : xE E2 35 2 = xE E 35 2 := xFr_E hfr rfl
        have e35_3 : xE E2 35 3 = xE E 35 3 := xFr_E hfr rfl
        have e35_1 : xE E2 35 1 = xE E 35 1 := xFr_E hfr rfl
        have e19_0 : xE E2 19 0 = xE E 19 0 := xFr_E hfr rfl
        have e19_1 : xE E2 19 1 = xE E 19 1 := xFr_E hfr rfl
        have e36 : ∀ i, xE E2 36 i = xE E 36 i := fun i => xFr_E hfr rfl
        have q36 : ∀ i, xE E 36 i = xE E0 36 i := fun i => xFr_E hFr0 rfl
        have e21 : ∀ i, xE E2 21 i = xE E 21 i := fun i => xFr_E hfr rfl
        have e22 : ∀ i, xE E2 22 i = xE E 22 i := fun i => xFr_E hfr rfl
        have hI : ((0 ≤ (v 3) ∧ (v 3) ≤ 901) ∧ (xE E 35 4 = x0 0 ∧ xE E 35 1 = 0) ∧ xJk17 E0 E ∧ ∃ p S, pAll (xE E0 36) (x0 0) = pLines (xE E0 36) (x0 0) (901 - (v 3)).toNat p S ∧ ((v 3) ≤ p ∧ p ≤ x0 0) ∧ xAb17 E S ∧ xGeo17 E (S 0).toNat (S 1).toNat ∧ xAD (xE E0 36) (x0 0) p E) ∧ (xE E 35 2 = 0 ∧ xE E 35 3 = -1) := hInv
        obtain ⟨hI, hSm⟩ := hI
        show xΨfra17S x0 E0 E2 1
        refine ⟨?_, ?_⟩
        · show xΨra17 x0 E0 E2 1
          have hP := hΦ.1
          have hP2 := hΦ.2
          obtain ⟨i0, ⟨ie, is⟩, ij, pp, S, i1, i2, i3, i4, ⟨a1, a2, a3, a4⟩⟩ := hI
          have hE2 := xFr_n hfr
          subst hE2
          have hk : tKd (xE E0 36) (x0 0) pp = 0 := by omega
          have hA : pAll (xE E0 36) (x0 0) = .ok (pp, S) := i1.trans (pLines_0 hk)
          refine ⟨?_, ij, fun p S2 h => ?_, by omega⟩
          · rw [hA]
            exact ⟨by omega, i3⟩
          · rw [hA] at h
            cases h
            exact i4
        · show (¬ (1) = 0 → (xE E2 35 2 = 0 ∧ xE E2 35 3 = -1))
          omega
      · skip
        have ex := List.mem_singleton.mp hx
        subst ex
        obtain ⟨hF, hBd, hM⟩ := hXs
        have g3 : v2 3 = v 3 := hag 3 (by decide)
        have b0 : ((2147483648 : Nat) : Int) ≤ (v2 3) + 2147483648 ∧ (v2 3) + 2147483648 ≤ ((2147484548 : Nat) : Int) := xXb hBd 0 rfl
        have b1 : ((2147483648 : Nat) : Int) ≤ (v2 4) + 2147483648 ∧ (v2 4) + 2147483648 ≤ ((2147483648 : Nat) : Int) := xXb hBd 1 rfl
        have f0 : (v2 3) ≤ 900 := xXf hF 0 rfl
        have f1 : (0 : Int) ≤ 7 ∧ xE E 35 7 = (v2 4) := xXf hF 1 rfl
        have f2 : (v2 4) = 0 := xXf hF 2 rfl
        have e35_4 : xE E2 35 4 = xE E 35 4 := xFr_E hfr rfl
        have e35_5 : xE E2 35 5 = xE E 35 5 := xFr_E hfr rfl
        have e35_6 : xE E2 35 6 = xE E 35 6 := xFr_E hfr rfl
        have e35_7 : xE E2 35 7 = xE E 35 7 := xFr_E hfr rfl
        have e35_8 : xE E2 35 8 = xE E 35 8 := xFr_E hfr rfl
        have e35_2 : xE E2 35 2 = xE E 35 2 := xFr_E hfr rfl
        have e35_3 : xE E2 35 3 = xE E 35 3 := xFr_E hfr rfl
        have e35_1 : xE E2 35 1 = xE E 35 1 := xFr_E hfr rfl
        have e19_0 : xE E2 19 0 = xE E 19 0 := xFr_E hfr rfl
        have e19_1 : xE E2 19 1 = xE E 19 1 := xFr_E hfr rfl
        have e36 : ∀ i, xE E2 36 i = xE E 36 i := fun i => xFr_E hfr rfl
        have q36 : ∀ i, xE E 36 i = xE E0 36 i := fun i => xFr_E hFr0 rfl
        have e21 : ∀ i, xE E2 21 i = xE E 21 i := fun i => xFr_E hfr rfl
        have e22 : ∀ i, xE E2 22 i = xE E 22 i := fun i => xFr_E hfr rfl
        have hI : ((0 ≤ (v 3) ∧ (v 3) ≤ 901) ∧ (xE E 35 4 = x0 0 ∧ xE E 35 1 = 0) ∧ xJk17 E0 E ∧ ∃ p S, pAll (xE E0 36) (x0 0) = pLines (xE E0 36) (x0 0) (901 - (v 3)).toNat p S ∧ ((v 3) ≤ p ∧ p ≤ x0 0) ∧ xAb17 E S ∧ xGeo17 E (S 0).toNat (S 1).toNat ∧ xAD (xE E0 36) (x0 0) p E) ∧ (xE E 35 2 = 0 ∧ xE E 35 3 = -1) := hInv
        obtain ⟨hI, hSm⟩ := hI
        show xΨfra17S x0 E0 E2 1
        refine ⟨?_, ?_⟩
        · show xΨra17 x0 E0 E2 1
          have hP := hΦ.1
          have hP2 := hΦ.2
          obtain ⟨i0, ⟨ie, is⟩, ij, pp, S, i1, i2, i3, i4, ⟨a1, a2, a3, a4⟩⟩ := hI
          have hE2 := xFr_n hfr
          subst hE2
          have hk : tKd (xE E0 36) (x0 0) pp = 0 := by omega
          have hA : pAll (xE E0 36) (x0 0) = .ok (pp, S) := i1.trans (pLines_0 hk)
          refine ⟨?_, ij, fun p S2 h => ?_, by omega⟩
          · rw [hA]
            exact ⟨by omega, i3⟩
          · rw [hA] at h
            cases h
            exact i4
        · show (¬ (1) = 0 → (xE E2 35 2 = 0 ∧ xE E2 35 3 = -1))
          omega
    · have hx : x ∈ [zxfra17_er0] := hx
      have hag : ∀ k, k < 5 → v2 k = v k := hag
      have hfr : xFr [] _ _ := hfr
      have ex := List.mem_singleton.mp hx
      subst ex
      obtain ⟨hF, hBd, hM⟩ := hXs
      have g3 : v2 3 = v 3 := hag 3 (by decide)
      have g4 : v2 4 = v 4 := hag 4 (by decide)
      have b0 : ((2147483648 : Nat) : Int) ≤ (v2 4) + 2147483648 ∧ (v2 4) + 2147483648 ≤ ((2147483648 : Nat) : Int) := xXb hBd 0 rfl
      have f0 : (v2 4) = 0 := xXf hF 0 rfl
      have e35_4 : xE E2 35 4 = xE E 35 4 := xFr_E hfr rfl
      have e35_5 : xE E2 35 5 = xE E 35 5 := xFr_E hfr rfl
      have e35_6 : xE E2 35 6 = xE E 35 6 := xFr_E hfr rfl
      have e35_7 : xE E2 35 7 = xE E 35 7 := xFr_E hfr rfl
      have e35_8 : xE E2 35 8 = xE E 35 8 := xFr_E hfr rfl
      have e35_2 : xE E2 35 2 = xE E 35 2 := xFr_E hfr rfl
      have e35_3 : xE E2 35 3 = xE E 35 3 := xFr_E hfr rfl
      have e35_1 : xE E2 35 1 = xE E 35 1 := xFr_E hfr rfl
      have e19_0 : xE E2 19 0 = xE E 19 0 := xFr_E hfr rfl
      have e19_1 : xE E2 19 1 = xE E 19 1 := xFr_E hfr rfl
      have e36 : ∀ i, xE E2 36 i = xE E 36 i := fun i => xFr_E hfr rfl
      have q36 : ∀ i, xE E 36 i = xE E0 36 i := fun i => xFr_E hFr0 rfl
      have e21 : ∀ i, xE E2 21 i = xE E 21 i := fun i => xFr_E hfr rfl
      have e22 : ∀ i, xE E2 22 i = xE E 22 i := fun i => xFr_E hfr rfl
      have hI : ((0 ≤ (v 3) ∧ (v 3) ≤ 900) ∧ (xE E 35 4 = x0 0 ∧ xE E 35 1 = 0) ∧ xJk17 E0 E ∧ ∃ p S, pAll (xE E0 36) (x0 0) = pBind (pLine (xE E0 36) (x0 0) p S) (pLines (xE E0 36) (x0 0) (900 - (v 3)).toNat) ∧ ¬ tKd (xE E0 36) (x0 0) p = 0 ∧ ((v 3) ≤ p ∧ p ≤ x0 0) ∧ xOut17 (pLine (xE E0 36) (x0 0) p S) E (v 4) ∧ xGeo17 E (S 0).toNat (S 1).toNat ∧ xE E 19 0 = S 0 ∧ xE E 19 1 = S 1) ∧ (¬ (v 4) = 0 → (xE E 35 2 = 0 ∧ xE E 35 3 = -1)) := hInv
      obtain ⟨hI, hSm⟩ := hI
      show xΨfra17S x0 E0 E2 0
      refine ⟨?_, ?_⟩
      · show xΨra17 x0 E0 E2 0
        have hP := hΦ.1
        have hP2 := hΦ.2
        obtain ⟨i0, ⟨ie, is⟩, ij, pp, S, i1, hk, i2, i3, i4, i5, i6⟩ := hI
        rw [show (v 4) = v2 4 by omega] at i3
        obtain ⟨w, a, e1, e2, e3⟩ := xOut17_0 i3 (by omega)
        have hA : pAll (xE E0 36) (x0 0) = .error (w, a) := by rw [i1, e1]; rfl
        refine ⟨?_, fun i i0 i1 => by have w := ij i i0 i1; rw [e21 i, e22 i]; exact w, (fun p S h => by rw [hA] at h; cases h), by omega⟩
        rw [hA]
        exact ⟨by omega, by omega, by omega⟩
      · show (¬ (0) = 0 → (xE E2 35 2 = 0 ∧ xE E2 35 3 = -1))
        omega
    · cases hx
