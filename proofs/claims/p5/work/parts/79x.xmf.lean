/-! THE CLASS: load (printed by m14.py) -/
noncomputable def zxfld18_zx0 : zyXp := (0, [3, 34359738369, 13], [], [], [], [])
noncomputable def zpfld18_z : zyPh := (0, [3, 34359738369, 13], [(0, 4294967295), (0, 4294967295), (0, 4294967295)], [], [])
noncomputable def zxfld18_ax0 : zyXp := (30, [3, 13, 13], [147, 34359738369, 283], [(21, 0, 34359738369, 0), (24, 103079215105, 35, 8), (21, 0, 103079215105, 34359738369)], [(34359738369, 2147483648, 2147484548), (103079215105, 2147483648, 2147484548)], [])
noncomputable def zxfld18_ar0 : zyXp := (0, [], [34359738360], [(20, 0, 34359738369, 0)], [(34359738369, 0, 2147483647)], [(0, 8)])
noncomputable def zxfld18_ar1 : zyXp := (0, [], [34359738360], [(21, 0, 34359738369, 0), (24, 103079215105, 35, 8), (20, 0, 103079215105, 34359738369)], [(34359738369, 2147483649, 4294967295), (103079215105, 2147483648, 2147484548)], [(0, 8)])
noncomputable def zpfld18_a : zyPh := (0, [3, 34359738369, 13], [(0, 4294967295), (0, 4294967295), (0, 4294967295)], [(1, 11), (2, 147)], [])
noncomputable def zxfld18_bx0 : zyXp := (69, [3, 13, 13], [147, 315], [(23, 0, 103079215105, 0)], [(103079215105, 2147483649, 2147483649)], [])
noncomputable def zxfld18_br0 : zyXp := (0, [], [34359738360], [(22, 0, 103079215105, 0)], [(103079215105, 2147483648, 2147483648)], [(0, 72)])
noncomputable def zpfld18_b : zyPh := (33, [3, 13, 13], [(0, 4294967295), (0, 4294967295), (0, 4294967295), (2147483648, 2147483649)], [(1, 11), (2, 147)], [103079215105])
noncomputable def zxfld18_cr0 : zyXp := (0, [], [103079215105], [(24, 103079215105, 19, 16)], [(103079215105, 2147483648, 2147483728)], [(0, 0), (1097728, 0), (606209, 0)])
noncomputable def zpfld18_c : zyPh := (72, [3, 13, 13], [(0, 4294967295), (0, 4294967295), (0, 4294967295)], [(1, 147), (2, 11)], [])
noncomputable def zpfld18 (i : Nat) : zyPh := zif (Nat.beq i 0) (zpfld18_z) (zif (Nat.beq i 1) (zpfld18_a) (zif (Nat.beq i 2) (zpfld18_b) (zpfld18_c)))
noncomputable def zXfld18 (i : Nat) : List zyXp := zif (Nat.beq i 0) ([zxfld18_zx0]) (zif (Nat.beq i 1) ([zxfld18_ax0]) (zif (Nat.beq i 2) ([zxfld18_bx0]) ([])))
noncomputable def zRfld18 (i : Nat) : List zyXp := zif (Nat.beq i 0) ([]) (zif (Nat.beq i 1) ([zxfld18_ar0, zxfld18_ar1]) (zif (Nat.beq i 2) ([zxfld18_br0]) ([zxfld18_cr0])))
noncomputable def zFfld18 (i : Nat) : zyR := zif (Nat.beq i 0) ([]) (zif (Nat.beq i 1) ([(0, 0, 0)]) (zif (Nat.beq i 2) ([(0, 0, 2)]) ([(0, 0, 0), (67, 0, 0), (37, 1, 1)])))
noncomputable def zSfld18 (i : Nat) : Nat := zif (Nat.beq i 0) (0) (zif (Nat.beq i 1) (0) (zif (Nat.beq i 2) (0) (0)))
theorem xAb17_bg {E E2 : zyEm} {S : Int → Int} (h : xAb17 E S) (hf : xFr [(0, 0, 2), (67, 0, 0), (37, 1, 1), (39, 0, 1), (45, 1, 1), (40, 0, 7), (42, 0, 7)] E E2)   : xAb17 E2 S := by
  obtain ⟨a0, a1, a2, a3, a4, a5, a6⟩ := h
  refine ⟨a0, ?_, ?_, ?_, ?_, ?_, ?_⟩
  · rw [(show xE E2 19 0 = xE E 19 0 from xFr_E hf rfl), (show xE E2 19 1 = xE E 19 1 from xFr_E hf rfl), (show xE E2 19 2 = xE E 19 2 from xFr_E hf rfl), (show xE E2 19 3 = xE E 19 3 from xFr_E hf rfl)]
    exact a1
  · intro s s0 s1
    rw [(show xE E2 21 s = xE E 21 s from xFr_E hf rfl)]
    exact a2 s s0 s1
  · rw [(show xE E2 18 5 = xE E 18 5 from xFr_E hf rfl)]
    refine ⟨a3.1, fun k k0 k1 => ?_⟩
    rw [(show xE E2 31 k = xE E 31 k from xFr_E hf rfl), (show xE E2 32 k = xE E 32 k from xFr_E hf rfl)]
    exact a3.2 k k0 k1
  · intro k k0 k1
    rw [(show xE E2 27 k = xE E 27 k from xFr_E hf rfl), (show xE E2 28 k = xE E 28 k from xFr_E hf rfl), (show xE E2 29 k = xE E 29 k from xFr_E hf rfl), (show xE E2 30 k = xE E 30 k from xFr_E hf rfl)]
    exact a4 k k0 k1
  · rw [(show xE E2 18 8 = xE E 18 8 from xFr_E hf rfl), (show xE E2 33 1 = xE E 33 1 from xFr_E hf rfl)]
    exact a5
  · intro k k0 k1
    rw [(show xE E2 34 k = xE E 34 k from xFr_E hf rfl)]
    exact a6 k k0 k1
theorem xGeo17_bg {E E2 : zyEm} {r c : Nat} (h : xGeo17 E r c) (hf : xFr [(0, 0, 2), (67, 0, 0), (37, 1, 1), (39, 0, 1), (45, 1, 1), (40, 0, 7), (42, 0, 7)] E E2) : xGeo17 E2 r c := by
  refine ⟨fun s hs => ?_, fun g hg => ?_⟩
  · rw [(show xE E2 20 s = xE E 20 s from xFr_E hf rfl), (show xE E2 21 s = xE E 21 s from xFr_E hf rfl), (show xE E2 22 s = xE E 22 s from xFr_E hf rfl), (show xE E2 23 s = xE E 23 s from xFr_E hf rfl), (show xE E2 24 s = xE E 24 s from xFr_E hf rfl)]
    exact h.1 s hs
  · rw [(show xE E2 25 g = xE E 25 g from xFr_E hf rfl), (show xE E2 26 g = xE E 26 g from xFr_E hf rfl)]
    exact h.2 g hg
theorem xOutA17_0 {R : pR} {E2 : zyEm} {r : Int} (h : xOutA17 R E2 r) (hr : r = 0) : ∃ w a, R = .error (w, a) ∧ xE E2 35 2 = w ∧ xE E2 35 3 = a := by
  cases R with
  | error e => exact ⟨e.1, e.2, rfl, h.2⟩
  | ok x =>
    have h1 : r = 1 := h.1
    omega
theorem xOutA17_1 {R : pR} {E2 : zyEm} {r : Int} (h : xOutA17 R E2 r) (hr : ¬ r = 0) : ∃ p S, R = .ok (p, S) ∧ xAb17 E2 S := by
  cases R with
  | error e => exact absurd h.1 hr
  | ok x => exact ⟨x.1, x.2, rfl, h.2⟩
theorem xOutA17_r {R : pR} {E2 : zyEm} {r : Int} (h : xOutA17 R E2 r) : r = 0 ∨ r = 1 := by
  cases R with
  | error e => exact Or.inl h.1
  | ok x => exact Or.inr h.1
def xΦld18 (B : zCx) (_ : Nat → Int) (E : zyEm) : Prop := E 0 1 = some (.ref (zad B 1)) ∧ E 0 2 = some (.ref (zad B 18))
/-- load, spare at 18 -/
def xΨld18 (B : zCx) (x : Nat → Int) (E E2 : zyEm) (r : Int) : Prop := (if 0 ≤ x 0 ∧ x 0 ≤ xE E 35 1 then (match pAll (xE E 36) (x 0) with
  | .ok (_, S) => r = sN (S 0) (S 1) ∧ xE E2 0 0 = 0 ∧ E2 0 1 = some (.ref (zad B 18)) ∧ E2 0 2 = some (.ref (zad B 1)) ∧ xAb17 E2 S ∧ xGeo17 E2 (S 0).toNat (S 1).toNat
  | .error (w, a) => r = -1 ∧ xE E2 0 0 = 9 ∧ E2 0 1 = some (.ref (zad B 1)) ∧ E2 0 2 = some (.ref (zad B 18)) ∧ xE E2 35 2 = w ∧ xE E2 35 3 = a) ∧ xE E2 35 1 = 0
  else r = -1 ∧ xE E2 0 0 = 1 ∧ xE E2 35 1 = xE E 35 1 ∧ E2 0 1 = some (.ref (zad B 1)) ∧ E2 0 2 = some (.ref (zad B 18))) ∧ xJk17 E E2
def xΨfld18S (B : zCx) (x : Nat → Int) (E E2 : zyEm) (r : Int) : Prop := (xΨld18 B) x E E2 r ∧ ((0 ≤ x 0 ∧ x 0 ≤ xE E 35 1 → ¬ r = -1 → (xE E2 35 2 = 0 ∧ xE E2 35 3 = -1)) ∧ (¬ (0 ≤ x 0 ∧ x 0 ≤ xE E 35 1) → (xE E2 35 2 = xE E 35 2 ∧ xE E2 35 3 = xE E 35 3)))
noncomputable def fpfld18 : zyR := [(0, 0, 2), (67, 0, 0), (37, 1, 1), (39, 0, 1), (45, 1, 1), (40, 0, 7), (42, 0, 7), (35, 1, 8), (18, 5, 5), (18, 8, 8), (19, 0, 3), (20, 0, 79), (21, 0, 79), (22, 0, 79), (23, 0, 79), (24, 0, 79), (25, 0, 30), (26, 0, 30), (27, 0, 30), (28, 0, 30), (29, 0, 30), (30, 0, 30), (33, 1, 1), (34, 0, 59), (31, 0, 7), (32, 0, 7)]
noncomputable def rkxfld18 (i : Nat) : List (Nat × Nat) := zif (Nat.beq i 0) ([]) (zif (Nat.beq i 1) ([(1, 11), (2, 147)]) (zif (Nat.beq i 2) ([(1, 147), (2, 11)]) ([])))
noncomputable def rkrfld18 (i : Nat) : List (Nat × Nat) := zif (Nat.beq i 0) ([]) (zif (Nat.beq i 1) ([(1, 11), (2, 147)]) (zif (Nat.beq i 2) ([(1, 11), (2, 147)]) ([(1, 147), (2, 11)])))
theorem zyfld18_run : zyrR zymc zxi121 (121, 0, 0, 1, 0) 12 zpfld18 (fun _ _ => []) zFfld18 zSfld18 zXfld18 zRfld18 rkxfld18 rkrfld18 4 = true := by decide +kernel
theorem zyfld18_ck : zyAll (fun i => xsubR (zFfld18 i) fpfld18 && ((zXfld18 i).all xckX && (zRfld18 i).all (fun x => xckX x && xrtB true x))) 4 = true := by decide +kernel
def xIfld18 (i : Nat) (x0 : Nat → Int) (E0 : zyEm) (v : Nat → Int) (E : zyEm) : Prop := if i = 0 then ((E = E0 ∧ (v 1) = x0 0) ∧ (xE E 35 2 = xE E0 35 2 ∧ xE E 35 3 = xE E0 35 3)) else if i = 1 then ((E = E0 ∧ (v 1) = x0 0) ∧ (xE E 35 2 = xE E0 35 2 ∧ xE E 35 3 = xE E0 35 3)) else if i = 2 then (((0 ≤ x0 0 ∧ x0 0 ≤ xE E0 35 1) ∧ xOutA17 (pAll (xE E0 36) (x0 0)) E (v 3) ∧ xJk17 E0 E ∧ (∀ p S, pAll (xE E0 36) (x0 0) = .ok (p, S) → xGeo17 E (S 0).toNat (S 1).toNat) ∧ xE E 35 1 = 0) ∧ (¬ (v 3) = 0 → (xE E 35 2 = 0 ∧ xE E 35 3 = -1))) else (((0 ≤ x0 0 ∧ x0 0 ≤ xE E0 35 1) ∧ ∃ p S, pAll (xE E0 36) (x0 0) = .ok (p, S) ∧ xAb17 E S ∧ xGeo17 E (S 0).toNat (S 1).toNat ∧ xJk17 E0 E ∧ xE E 35 1 = 0) ∧ (xE E 35 2 = 0 ∧ xE E 35 3 = -1))
def xMfld18 (i : Nat) (x0 : Nat → Int) (E0 : zyEm) (v : Nat → Int) (E : zyEm) : Nat := if i = 0 then (4) else if i = 1 then (3) else if i = 2 then (2) else (1)
theorem xLd18 {l : Launch} {en : zEn} {me : zMe} (hen : zG zxMeta 121 = some en) (hme : zG zMeth 121 = some me) : ∀ B, xFcB l zymc B en me 12 [0] 1 fpfld18 true (xΦld18 B) (xΨfld18S B) := by
  have een : zG zxMeta 121 = some (zxi121, 2, 3, 10, 121, 0, 0, 1, 0) := rfl
  obtain ⟨me1, hme1, hOK⟩ := zall hen
  rw [hme] at hme1
  cases hme1
  rw [een] at hen
  cases hen
  have hr := zyfld18_run
  have hck := fun i hi => zyAll_iff zyfld18_ck i hi
  simp only [Bool.and_eq_true] at hck
  obtain ⟨mefra17, hmefra17, -⟩ := zall (show zG zxMeta 58 = some (zxi58, 3, 4, 5, 58, 0, 0, 2, 0) from rfl)
  have hfra17 := xRa17 (l := l) (show zG zxMeta 58 = some (zxi58, 3, 4, 5, 58, 0, 0, 2, 0) from rfl) hmefra17
  obtain ⟨mefbg17, hmefbg17, -⟩ := zall (show zG zxMeta 86 = some (zxi86, 2, 3, 7, 86, 0, 0, 0, 0) from rfl)
  have hfbg17 := xBg17 (l := l) (show zG zxMeta 86 = some (zxi86, 2, 3, 7, 86, 0, 0, 0, 0) from rfl) hmefbg17
  intro B
  refine xcutr (mi := zymc) (B := B) hOK rfl rfl (ι := Fin 4) (fun i => zpfld18 i.val) (fun _ _ => []) (fun i => zFfld18 i.val) (fun i => zSfld18 i.val) (fun i => zXfld18 i.val) (fun i => zRfld18 i.val) (fun i => rkxfld18 i.val) (fun i => rkrfld18 i.val) (fun i y2 ct en2 me2 h => by cases h) 200000 (fun i => zyAll_iff hr i.val i.isLt) (fun i => (hck i.val i.isLt).1) (fun i => (hck i.val i.isLt).2.1) (fun i => (hck i.val i.isLt).2.2) ⟨0, by decide⟩ ⟨rfl, rfl, rfl, rfl⟩ ⟨by decide, by decide⟩ (fun i x0 E0 v E => xIfld18 i.val x0 E0 v E) (fun i x0 E0 v E => xMfld18 i.val x0 E0 v E) ?_ ?_ ?_
  · intro x0 E hx0 hT hΦ
    have hΦ : (xΦld18 B) x0 E := hΦ
    refine ⟨fun k p hp => ?_, ?_⟩
    · have hk : k < 3 := (List.getElem?_eq_some_iff.mp hp).1
      have hk : k = 0 ∨ k = 1 ∨ k = 2 := by omega
      rcases hk with rfl | rfl | rfl
      · have hp : some (0, 4294967295) = some p := hp
        cases hp
        show ((0 : Nat) : Int) ≤ 0 + 2147483648 ∧ 0 + 2147483648 ≤ ((4294967295 : Nat) : Int)
        omega
      · have hp : some (0, 4294967295) = some p := hp
        cases hp
        show ((0 : Nat) : Int) ≤ x0 0 + 2147483648 ∧ x0 0 + 2147483648 ≤ ((4294967295 : Nat) : Int)
        have hx := hx0 0
        omega
      · have hp : some (0, 4294967295) = some p := hp
        cases hp
        show ((0 : Nat) : Int) ≤ x0 1 + 2147483648 ∧ x0 1 + 2147483648 ≤ ((4294967295 : Nat) : Int)
        have hx := hx0 1
        omega
    · show (E = E ∧ (x0 0) = x0 0) ∧ (xE E 35 2 = xE E 35 2 ∧ xE E 35 3 = xE E 35 3)
      refine ⟨?_, ⟨rfl, rfl⟩⟩
      exact ⟨rfl, rfl⟩
  · intro x0 s Wg hRu hrx hT0 hΦ i v H hT hrv hInv hKc hFr0 hIH x hx ρ2 v2 N2 H2 locs lsB stA hAt hB hv hr2 hXs hag hfr hFr hT2 hRk
    rcases i with ⟨i, hi⟩
    have hi2 : i = 0 ∨ i = 1 ∨ i = 2 ∨ i = 3 := by omega
    rcases hi2 with rfl | rfl | rfl | rfl
    · have hx : x ∈ [zxfld18_zx0] := hx
      have hag : ∀ k, k < 3 → v2 k = v k := hag
      have hfr : xFr [] _ _ := hfr
      have hRk : xRk B [] _ := hRk
      have ex := List.mem_singleton.mp hx
      subst ex
      obtain ⟨hF, hBd, hM⟩ := hXs
      have r1 := hr2 1
      have g1 : v2 1 = v 1 := hag 1 (by decide)
      have e35_1 : xE (zyEl zymc B H2) 35 1 = xE (zyEl zymc B H) 35 1 := xFr_E hfr rfl
      have e35_2 : xE (zyEl zymc B H2) 35 2 = xE (zyEl zymc B H) 35 2 := xFr_E hfr rfl
      have e35_3 : xE (zyEl zymc B H2) 35 3 = xE (zyEl zymc B H) 35 3 := xFr_E hfr rfl
      have e19_2 : xE (zyEl zymc B H2) 19 2 = xE (zyEl zymc B H) 19 2 := xFr_E hfr rfl
      have e36 : ∀ i, xE (zyEl zymc B H2) 36 i = xE (zyEl zymc B H) 36 i := fun i => xFr_E hfr rfl
      have q36 : ∀ i, xE (zyEl zymc B H) 36 i = xE (zyEl zymc B s.heap) 36 i := fun i => xFr_E hFr0 rfl
      have e21 : ∀ i, xE (zyEl zymc B H2) 21 i = xE (zyEl zymc B H) 21 i := fun i => xFr_E hfr rfl
      have e22 : ∀ i, xE (zyEl zymc B H2) 22 i = xE (zyEl zymc B H) 22 i := fun i => xFr_E hfr rfl
      have hI : ((zyEl zymc B H) = (zyEl zymc B s.heap) ∧ (v 1) = x0 0) ∧ (xE (zyEl zymc B H) 35 2 = xE (zyEl zymc B s.heap) 35 2 ∧ xE (zyEl zymc B H) 35 3 = xE (zyEl zymc B s.heap) 35 3) := hInv
      obtain ⟨hI, hSm⟩ := hI
      have q35_1 : xE (zyEl zymc B H) 35 1 = xE (zyEl zymc B s.heap) 35 1 := by rw [hI.1]
      have q35_2 : xE (zyEl zymc B H) 35 2 = xE (zyEl zymc B s.heap) 35 2 := by rw [hI.1]
      have q35_3 : xE (zyEl zymc B H) 35 3 = xE (zyEl zymc B s.heap) 35 3 := by rw [hI.1]
      have q19_2 : xE (zyEl zymc B H) 19 2 = xE (zyEl zymc B s.heap) 19 2 := by rw [hI.1]
      have q21 : ∀ i, xE (zyEl zymc B H) 21 i = xE (zyEl zymc B s.heap) 21 i := fun i => by rw [hI.1]
      have q22 : ∀ i, xE (zyEl zymc B H) 22 i = xE (zyEl zymc B s.heap) 22 i := fun i => by rw [hI.1]
      refine xGo hIH hAt hB hv hFr ⟨1, by decide⟩ [0, 34359738369, 0] [0, (v2 1), 0] rfl ⟨by decide +kernel, ⟨rfl, by decide +kernel⟩, (xcs_c rfl (xcs_c rfl (xcs_c rfl xcs_n))), (xe_0 (xe_f (by omega) (xe_0 xe_n))), (xkq_r 0 1 1 rfl rfl rfl rfl rfl (by rw [xFr_n hfr, hI.1]; exact hΦ.1) (xkq_r 0 2 18 rfl rfl rfl rfl rfl (by rw [xFr_n hfr, hI.1]; exact hΦ.2) xkq_n))⟩ xst_n ?_ ?_
      · show ((zyEl zymc B H2) = (zyEl zymc B s.heap) ∧ ((v2 1) : Int) = x0 0) ∧ (xE (zyEl zymc B H2) 35 2 = xE (zyEl zymc B s.heap) 35 2 ∧ xE (zyEl zymc B H2) 35 3 = xE (zyEl zymc B s.heap) 35 3)
        refine ⟨?_, ?_⟩
        · skip
          exact ⟨(xFr_n hfr).trans hI.1, by omega⟩
        · omega
      · show 3 < 4
        omega
    · have hx : x ∈ [zxfld18_ax0] := hx
      have hag : ∀ k, k < 3 → v2 k = v k := hag
      have hfr : xFr [(0, 0, 0)] _ _ := hfr
      have hRk : xRk B [(1, 11), (2, 147)] _ := hRk
      have ex := List.mem_singleton.mp hx
      subst ex
      obtain ⟨hF, hBd, hM⟩ := hXs
      have g1 : v2 1 = v 1 := hag 1 (by decide)
      have b0 : ((2147483648 : Nat) : Int) ≤ (v2 1) + 2147483648 ∧ (v2 1) + 2147483648 ≤ ((2147484548 : Nat) : Int) := xXb hBd 0 rfl
      have b1 : ((2147483648 : Nat) : Int) ≤ (v2 3) + 2147483648 ∧ (v2 3) + 2147483648 ≤ ((2147484548 : Nat) : Int) := xXb hBd 1 rfl
      have f0 : 0 ≤ (v2 1) := xXf hF 0 rfl
      have f1 : (0 : Int) ≤ 1 ∧ xE (zyEl zymc B H) 35 1 = (v2 3) := xXf hF 1 rfl
      have f2 : (v2 1) ≤ (v2 3) := xXf hF 2 rfl
      have e35_1 : xE (zyEl zymc B H2) 35 1 = xE (zyEl zymc B H) 35 1 := xFr_E hfr rfl
      have e35_2 : xE (zyEl zymc B H2) 35 2 = xE (zyEl zymc B H) 35 2 := xFr_E hfr rfl
      have e35_3 : xE (zyEl zymc B H2) 35 3 = xE (zyEl zymc B H) 35 3 := xFr_E hfr rfl
      have e19_2 : xE (zyEl zymc B H2) 19 2 = xE (zyEl zymc B H) 19 2 := xFr_E hfr rfl
      have e36 : ∀ i, xE (zyEl zymc B H2) 36 i = xE (zyEl zymc B H) 36 i := fun i => xFr_E hfr rfl
      have q36 : ∀ i, xE (zyEl zymc B H) 36 i = xE (zyEl zymc B s.heap) 36 i := fun i => xFr_E hFr0 rfl
      have e21 : ∀ i, xE (zyEl zymc B H2) 21 i = xE (zyEl zymc B H) 21 i := fun i => xFr_E hfr rfl
      have e22 : ∀ i, xE (zyEl zymc B H2) 22 i = xE (zyEl zymc B H) 22 i := fun i => xFr_E hfr rfl
      have hI : ((zyEl zymc B H) = (zyEl zymc B s.heap) ∧ (v 1) = x0 0) ∧ (xE (zyEl zymc B H) 35 2 = xE (zyEl zymc B s.heap) 35 2 ∧ xE (zyEl zymc B H) 35 3 = xE (zyEl zymc B s.heap) 35 3) := hInv
      obtain ⟨hI, hSm⟩ := hI
      have q35_1 : xE (zyEl zymc B H) 35 1 = xE (zyEl zymc B s.heap) 35 1 := by rw [hI.1]
      have q35_2 : xE (zyEl zymc B H) 35 2 = xE (zyEl zymc B s.heap) 35 2 := by rw [hI.1]
      have q35_3 : xE (zyEl zymc B H) 35 3 = xE (zyEl zymc B s.heap) 35 3 := by rw [hI.1]
      have q19_2 : xE (zyEl zymc B H) 19 2 = xE (zyEl zymc B s.heap) 19 2 := by rw [hI.1]
      have q21 : ∀ i, xE (zyEl zymc B H) 21 i = xE (zyEl zymc B s.heap) 21 i := fun i => by rw [hI.1]
      have q22 : ∀ i, xE (zyEl zymc B H) 22 i = xE (zyEl zymc B s.heap) 22 i := fun i => by rw [hI.1]
      have o1 := xRk_g hRk 0 rfl
      have o2 := xRk_g hRk 1 rfl
      have o1 : (zyEl zymc B H2) 0 1 = some (.ref (zad B 1)) := o1
      have o2 : (zyEl zymc B H2) 0 2 = some (.ref (zad B 18)) := o2
      have tt : xE (zyEl zymc B H2) 36 = xE (zyEl zymc B s.heap) 36 := funext fun i => (e36 i).trans (q36 i)
      refine xCaq hRu hIH hAt hB hv hFr (hfra17 B) (ix := 101) (ax := 929) rfl rfl rfl hmefra17 ⟨_, rfl, rfl, by decide⟩ ⟨rfl, rfl, rfl⟩ (by decide) 34359738369 [] (v2 1) rfl (by decide +kernel) rfl (by decide +kernel) ?_ (fun H3 r hT3 hf3 hFr3 hr3 hΨ3 => ?_)
      · show xΦra17 (xfv [(v2 1)]) (zyEl zymc B H2)
        exact ⟨by show 0 ≤ (v2 1); omega, by show (v2 1) ≤ 900; omega⟩
      · have hΨ3 : xΨfra17S (xfv [(v2 1)]) (zyEl zymc B H2) (zyEl zymc B H3) r := hΨ3
        obtain ⟨hΨ3, hS3⟩ := hΨ3
        have hΨ3 : xΨra17 (xfv [(v2 1)]) (zyEl zymc B H2) (zyEl zymc B H3) r := hΨ3
        have hS3 : (¬ (r) = 0 → (xE (zyEl zymc B H3) 35 2 = 0 ∧ xE (zyEl zymc B H3) 35 3 = -1)) := hS3
        have d36 : ∀ i, xE (zyEl zymc B H3) 36 i = xE (zyEl zymc B H2) 36 i := fun i => xFr_E hf3 rfl
        have hx : xfv [(v2 1)] 0 = x0 0 := by show (v2 1) = _; omega
        obtain ⟨w1, w2, w3, w4⟩ := hΨ3
        rw [tt, hx] at w1 w3
        have hr01 := xOutA17_r w1
        refine ⟨⟨2, by decide⟩, [0, 0, 0], [0, 0, 0, r], rfl, ⟨by decide +kernel, ⟨rfl, by decide +kernel⟩, (xcs_c rfl (xcs_c rfl (xcs_c rfl xcs_n))), (xe_0 (xe_0 (xe_0 (xe_c (by omega) (by omega) rfl xe_n)))), (xkq_r 0 1 1 rfl rfl rfl rfl rfl ((hf3 0 1 rfl).trans o1) (xkq_r 0 2 18 rfl rfl rfl rfl rfl ((hf3 0 2 rfl).trans o2) xkq_n))⟩, (by rw [if_pos rfl]; exact ⟨3, [], rfl, by decide, rfl, xst_n⟩), ?_, ?_⟩
        · show ((0 ≤ x0 0 ∧ x0 0 ≤ xE (zyEl zymc B s.heap) 35 1) ∧ xOutA17 (pAll (xE (zyEl zymc B s.heap) 36) (x0 0)) (zyEl zymc B H3) (r : Int) ∧ xJk17 (zyEl zymc B s.heap) (zyEl zymc B H3) ∧ (∀ p S, pAll (xE (zyEl zymc B s.heap) 36) (x0 0) = .ok (p, S) → xGeo17 (zyEl zymc B H3) (S 0).toNat (S 1).toNat) ∧ xE (zyEl zymc B H3) 35 1 = 0) ∧ (¬ (r : Int) = 0 → (xE (zyEl zymc B H3) 35 2 = 0 ∧ xE (zyEl zymc B H3) 35 3 = -1))
          refine ⟨?_, ?_⟩
          · skip
            refine ⟨by omega, w1, fun i i0 i1 => ?_, w3, w4⟩
            have w := w2 i i0 i1
            rw [e21 i, q21 i, e22 i, q22 i] at w
            exact w
          · omega
        · show 2 < 3
          omega
    · have hx : x ∈ [zxfld18_bx0] := hx
      have hag : ∀ k, k < 4 → v2 k = v k := hag
      have hfr : xFr [(0, 0, 2)] _ _ := hfr
      have hRk : xRk B [(1, 147), (2, 11)] _ := hRk
      have ex := List.mem_singleton.mp hx
      subst ex
      obtain ⟨hF, hBd, hM⟩ := hXs
      have g3 : v2 3 = v 3 := hag 3 (by decide)
      have b0 : ((2147483649 : Nat) : Int) ≤ (v2 3) + 2147483648 ∧ (v2 3) + 2147483648 ≤ ((2147483649 : Nat) : Int) := xXb hBd 0 rfl
      have f0 : ¬ (v2 3) = 0 := xXf hF 0 rfl
      have e35_1 : xE (zyEl zymc B H2) 35 1 = xE (zyEl zymc B H) 35 1 := xFr_E hfr rfl
      have e35_2 : xE (zyEl zymc B H2) 35 2 = xE (zyEl zymc B H) 35 2 := xFr_E hfr rfl
      have e35_3 : xE (zyEl zymc B H2) 35 3 = xE (zyEl zymc B H) 35 3 := xFr_E hfr rfl
      have e19_2 : xE (zyEl zymc B H2) 19 2 = xE (zyEl zymc B H) 19 2 := xFr_E hfr rfl
      have e36 : ∀ i, xE (zyEl zymc B H2) 36 i = xE (zyEl zymc B H) 36 i := fun i => xFr_E hfr rfl
      have q36 : ∀ i, xE (zyEl zymc B H) 36 i = xE (zyEl zymc B s.heap) 36 i := fun i => xFr_E hFr0 rfl
      have e21 : ∀ i, xE (zyEl zymc B H2) 21 i = xE (zyEl zymc B H) 21 i := fun i => xFr_E hfr rfl
      have e22 : ∀ i, xE (zyEl zymc B H2) 22 i = xE (zyEl zymc B H) 22 i := fun i => xFr_E hfr rfl
      have hI : ((0 ≤ x0 0 ∧ x0 0 ≤ xE (zyEl zymc B s.heap) 35 1) ∧ xOutA17 (pAll (xE (zyEl zymc B s.heap) 36) (x0 0)) (zyEl zymc B H) (v 3) ∧ xJk17 (zyEl zymc B s.heap) (zyEl zymc B H) ∧ (∀ p S, pAll (xE (zyEl zymc B s.heap) 36) (x0 0) = .ok (p, S) → xGeo17 (zyEl zymc B H) (S 0).toNat (S 1).toNat) ∧ xE (zyEl zymc B H) 35 1 = 0) ∧ (¬ (v 3) = 0 → (xE (zyEl zymc B H) 35 2 = 0 ∧ xE (zyEl zymc B H) 35 3 = -1)) := hInv
      obtain ⟨hI, hSm⟩ := hI
      obtain ⟨i0, i1, ij, i2, i3⟩ := hI
      rw [show (v 3) = v2 3 by omega] at i1
      have o1 := xRk_g hRk 0 rfl
      have o2 := xRk_g hRk 1 rfl
      have o1 : (zyEl zymc B H2) 0 1 = some (.ref (zad B 18)) := o1
      have o2 : (zyEl zymc B H2) 0 2 = some (.ref (zad B 1)) := o2
      obtain ⟨pp, S, e1, e2⟩ := xOutA17_1 i1 (by omega)
      refine xCa hRu hIH hAt hB hv hFr (hfbg17 B) (ix := 82) (ax := 1377) rfl rfl rfl hmefbg17 ⟨_, rfl, rfl, by decide⟩ ⟨rfl, rfl, rfl⟩ (by decide) [] [] [] rfl ⟨rfl, rfl⟩ (by decide +kernel) xcs_n (by decide +kernel) ?_ (fun H3 r hT3 hf3 hFr3 hr3 hΨ3 => ?_)
      · show xΦ0 (xfv []) (zyEl zymc B H2)
        exact trivial
      · have hΨ3 : xΨ0 (xfv []) (zyEl zymc B H2) (zyEl zymc B H3) r := hΨ3
        have d35_1 : xE (zyEl zymc B H3) 35 1 = xE (zyEl zymc B H2) 35 1 := xFr_E hf3 rfl
        have d35_2 : xE (zyEl zymc B H3) 35 2 = xE (zyEl zymc B H2) 35 2 := xFr_E hf3 rfl
        have d35_3 : xE (zyEl zymc B H3) 35 3 = xE (zyEl zymc B H2) 35 3 := xFr_E hf3 rfl
        have d19_2 : xE (zyEl zymc B H3) 19 2 = xE (zyEl zymc B H2) 19 2 := xFr_E hf3 rfl
        have d36 : ∀ i, xE (zyEl zymc B H3) 36 i = xE (zyEl zymc B H2) 36 i := fun i => xFr_E hf3 rfl
        have d21 : ∀ i, xE (zyEl zymc B H3) 21 i = xE (zyEl zymc B H2) 21 i := fun i => xFr_E hf3 rfl
        have d22 : ∀ i, xE (zyEl zymc B H3) 22 i = xE (zyEl zymc B H2) 22 i := fun i => xFr_E hf3 rfl
        skip
        refine ⟨⟨3, by decide⟩, [0, 0, 0], [0, 0, 0], rfl, ⟨by decide +kernel, ⟨rfl, by decide +kernel⟩, (xcs_c rfl (xcs_c rfl (xcs_c rfl xcs_n))), (xe_0 (xe_0 (xe_0 xe_n))), (xkq_r 0 1 18 rfl rfl rfl rfl rfl ((hf3 0 1 rfl).trans o1) (xkq_r 0 2 1 rfl rfl rfl rfl rfl ((hf3 0 2 rfl).trans o2) xkq_n))⟩, (by rw [if_neg (by decide)]; exact xst_n), ?_, ?_⟩
        · show ((0 ≤ x0 0 ∧ x0 0 ≤ xE (zyEl zymc B s.heap) 35 1) ∧ ∃ p S, pAll (xE (zyEl zymc B s.heap) 36) (x0 0) = .ok (p, S) ∧ xAb17 (zyEl zymc B H3) S ∧ xGeo17 (zyEl zymc B H3) (S 0).toNat (S 1).toNat ∧ xJk17 (zyEl zymc B s.heap) (zyEl zymc B H3) ∧ xE (zyEl zymc B H3) 35 1 = 0) ∧ (xE (zyEl zymc B H3) 35 2 = 0 ∧ xE (zyEl zymc B H3) 35 3 = -1)
          refine ⟨?_, ?_⟩
          · skip
            exact ⟨i0, pp, S, e1, xAb17_bg e2 (xFr_trans (xFr_mono (by decide) hfr) (xFr_mono (by decide) hf3)), xGeo17_bg (i2 _ _ e1) (xFr_trans (xFr_mono (by decide) hfr) (xFr_mono (by decide) hf3)), fun i i0 i1 => by have w := ij i i0 i1; rw [d21 i, e21 i, d22 i, e22 i]; exact w, by omega⟩
          · omega
        · show 1 < 2
          omega
    · cases hx
  · intro x0 E0 E E2 hrx hT0 hΦ i v hT hrv hInv hKc hFr0 x hx v2 hr2 hXs hag hfr hFr hT2 hRk
    rcases i with ⟨i, hi⟩
    have hi2 : i = 0 ∨ i = 1 ∨ i = 2 ∨ i = 3 := by omega
    rcases hi2 with rfl | rfl | rfl | rfl
    · cases hx
    · have hx : x ∈ [zxfld18_ar0, zxfld18_ar1] := hx
      have hag : ∀ k, k < 3 → v2 k = v k := hag
      have hfr : xFr [(0, 0, 0)] _ _ := hfr
      have hRk : xRk B [(1, 11), (2, 147)] _ := hRk
      rcases List.mem_cons.mp hx with ex | hx
      · subst ex
        obtain ⟨hF, hBd, hM⟩ := hXs
        have g1 : v2 1 = v 1 := hag 1 (by decide)
        have b0 : ((0 : Nat) : Int) ≤ (v2 1) + 2147483648 ∧ (v2 1) + 2147483648 ≤ ((2147483647 : Nat) : Int) := xXb hBd 0 rfl
        have f0 : (v2 1) < 0 := xXf hF 0 rfl
        have m0 : xE E2 0 0 = 1 := xXm hM 0 rfl
        have e35_1 : xE E2 35 1 = xE E 35 1 := xFr_E hfr rfl
        have e35_2 : xE E2 35 2 = xE E 35 2 := xFr_E hfr rfl
        have e35_3 : xE E2 35 3 = xE E 35 3 := xFr_E hfr rfl
        have e19_2 : xE E2 19 2 = xE E 19 2 := xFr_E hfr rfl
        have e36 : ∀ i, xE E2 36 i = xE E 36 i := fun i => xFr_E hfr rfl
        have q36 : ∀ i, xE E 36 i = xE E0 36 i := fun i => xFr_E hFr0 rfl
        have e21 : ∀ i, xE E2 21 i = xE E 21 i := fun i => xFr_E hfr rfl
        have e22 : ∀ i, xE E2 22 i = xE E 22 i := fun i => xFr_E hfr rfl
        have hI : (E = E0 ∧ (v 1) = x0 0) ∧ (xE E 35 2 = xE E0 35 2 ∧ xE E 35 3 = xE E0 35 3) := hInv
        obtain ⟨hI, hSm⟩ := hI
        have q35_1 : xE E 35 1 = xE E0 35 1 := by rw [hI.1]
        have q35_2 : xE E 35 2 = xE E0 35 2 := by rw [hI.1]
        have q35_3 : xE E 35 3 = xE E0 35 3 := by rw [hI.1]
        have q19_2 : xE E 19 2 = xE E0 19 2 := by rw [hI.1]
        have q21 : ∀ i, xE E 21 i = xE E0 21 i := fun i => by rw [hI.1]
        have q22 : ∀ i, xE E 22 i = xE E0 22 i := fun i => by rw [hI.1]
        show (xΨfld18S B) x0 E0 E2 (-1)
        refine ⟨?_, ?_⟩
        · show (xΨld18 B) x0 E0 E2 (-1)
          have o1 := xRk_g hRk 0 rfl
          have o2 := xRk_g hRk 1 rfl
          have o1 : E2 0 1 = some (.ref (zad B 1)) := o1
          have o2 : E2 0 2 = some (.ref (zad B 18)) := o2
          unfold xΨld18
          rw [if_neg (by omega)]
          exact ⟨⟨by omega, by omega, by omega, o1, o2⟩, fun i i0 i1 => Or.inl ⟨by rw [e21 i, q21 i], by rw [e22 i, q22 i]⟩⟩
        · show ((0 ≤ x0 0 ∧ x0 0 ≤ xE E0 35 1 → ¬ ((-1)) = -1 → (xE E2 35 2 = 0 ∧ xE E2 35 3 = -1)) ∧ (¬ (0 ≤ x0 0 ∧ x0 0 ≤ xE E0 35 1) → (xE E2 35 2 = xE E0 35 2 ∧ xE E2 35 3 = xE E0 35 3)))
          omega
      · skip
        have ex := List.mem_singleton.mp hx
        subst ex
        obtain ⟨hF, hBd, hM⟩ := hXs
        have g1 : v2 1 = v 1 := hag 1 (by decide)
        have b0 : ((2147483649 : Nat) : Int) ≤ (v2 1) + 2147483648 ∧ (v2 1) + 2147483648 ≤ ((4294967295 : Nat) : Int) := xXb hBd 0 rfl
        have b1 : ((2147483648 : Nat) : Int) ≤ (v2 3) + 2147483648 ∧ (v2 3) + 2147483648 ≤ ((2147484548 : Nat) : Int) := xXb hBd 1 rfl
        have f0 : 0 ≤ (v2 1) := xXf hF 0 rfl
        have f1 : (0 : Int) ≤ 1 ∧ xE E 35 1 = (v2 3) := xXf hF 1 rfl
        have f2 : (v2 3) < (v2 1) := xXf hF 2 rfl
        have m0 : xE E2 0 0 = 1 := xXm hM 0 rfl
        have e35_1 : xE E2 35 1 = xE E 35 1 := xFr_E hfr rfl
        have e35_2 : xE E2 35 2 = xE E 35 2 := xFr_E hfr rfl
        have e35_3 : xE E2 35 3 = xE E 35 3 := xFr_E hfr rfl
        have e19_2 : xE E2 19 2 = xE E 19 2 := xFr_E hfr rfl
        have e36 : ∀ i, xE E2 36 i = xE E 36 i := fun i => xFr_E hfr rfl
        have q36 : ∀ i, xE E 36 i = xE E0 36 i := fun i => xFr_E hFr0 rfl
        have e21 : ∀ i, xE E2 21 i = xE E 21 i := fun i => xFr_E hfr rfl
        have e22 : ∀ i, xE E2 22 i = xE E 22 i := fun i => xFr_E hfr rfl
        have hI : (E = E0 ∧ (v 1) = x0 0) ∧ (xE E 35 2 = xE E0 35 2 ∧ xE E 35 3 = xE E0 35 3) := hInv
        obtain ⟨hI, hSm⟩ := hI
        have q35_1 : xE E 35 1 = xE E0 35 1 := by rw [hI.1]
        have q35_2 : xE E 35 2 = xE E0 35 2 := by rw [hI.1]
        have q35_3 : xE E 35 3 = xE E0 35 3 := by rw [hI.1]
        have q19_2 : xE E 19 2 = xE E0 19 2 := by rw [hI.1]
        have q21 : ∀ i, xE E 21 i = xE E0 21 i := fun i => by rw [hI.1]
        have q22 : ∀ i, xE E 22 i = xE E0 22 i := fun i => by rw [hI.1]
        show (xΨfld18S B) x0 E0 E2 (-1)
        refine ⟨?_, ?_⟩
        · show (xΨld18 B) x0 E0 E2 (-1)
          have o1 := xRk_g hRk 0 rfl
          have o2 := xRk_g hRk 1 rfl
          have o1 : E2 0 1 = some (.ref (zad B 1)) := o1
          have o2 : E2 0 2 = some (.ref (zad B 18)) := o2
          unfold xΨld18
          rw [if_neg (by omega)]
          exact ⟨⟨by omega, by omega, by omega, o1, o2⟩, fun i i0 i1 => Or.inl ⟨by rw [e21 i, q21 i], by rw [e22 i, q22 i]⟩⟩
        · show ((0 ≤ x0 0 ∧ x0 0 ≤ xE E0 35 1 → ¬ ((-1)) = -1 → (xE E2 35 2 = 0 ∧ xE E2 35 3 = -1)) ∧ (¬ (0 ≤ x0 0 ∧ x0 0 ≤ xE E0 35 1) → (xE E2 35 2 = xE E0 35 2 ∧ xE E2 35 3 = xE E0 35 3)))
          omega
    · have hx : x ∈ [zxfld18_br0] := hx
      have hag : ∀ k, k < 4 → v2 k = v k := hag
      have hfr : xFr [(0, 0, 2)] _ _ := hfr
      have hRk : xRk B [(1, 11), (2, 147)] _ := hRk
      have ex := List.mem_singleton.mp hx
      subst ex
      obtain ⟨hF, hBd, hM⟩ := hXs
      have g3 : v2 3 = v 3 := hag 3 (by decide)
      have b0 : ((2147483648 : Nat) : Int) ≤ (v2 3) + 2147483648 ∧ (v2 3) + 2147483648 ≤ ((2147483648 : Nat) : Int) := xXb hBd 0 rfl
      have f0 : (v2 3) = 0 := xXf hF 0 rfl
      have m0 : xE E2 0 0 = 9 := xXm hM 0 rfl
      have e35_1 : xE E2 35 1 = xE E 35 1 := xFr_E hfr rfl
      have e35_2 : xE E2 35 2 = xE E 35 2 := xFr_E hfr rfl
      have e35_3 : xE E2 35 3 = xE E 35 3 := xFr_E hfr rfl
      have e19_2 : xE E2 19 2 = xE E 19 2 := xFr_E hfr rfl
      have e36 : ∀ i, xE E2 36 i = xE E 36 i := fun i => xFr_E hfr rfl
      have q36 : ∀ i, xE E 36 i = xE E0 36 i := fun i => xFr_E hFr0 rfl
      have e21 : ∀ i, xE E2 21 i = xE E 21 i := fun i => xFr_E hfr rfl
      have e22 : ∀ i, xE E2 22 i = xE E 22 i := fun i => xFr_E hfr rfl
      have hI : ((0 ≤ x0 0 ∧ x0 0 ≤ xE E0 35 1) ∧ xOutA17 (pAll (xE E0 36) (x0 0)) E (v 3) ∧ xJk17 E0 E ∧ (∀ p S, pAll (xE E0 36) (x0 0) = .ok (p, S) → xGeo17 E (S 0).toNat (S 1).toNat) ∧ xE E 35 1 = 0) ∧ (¬ (v 3) = 0 → (xE E 35 2 = 0 ∧ xE E 35 3 = -1)) := hInv
      obtain ⟨hI, hSm⟩ := hI
      show (xΨfld18S B) x0 E0 E2 (-1)
      refine ⟨?_, ?_⟩
      · show (xΨld18 B) x0 E0 E2 (-1)
        obtain ⟨i0, i1, ij, i2, i3⟩ := hI
        rw [show (v 3) = v2 3 by omega] at i1
        have o1 := xRk_g hRk 0 rfl
        have o2 := xRk_g hRk 1 rfl
        have o1 : E2 0 1 = some (.ref (zad B 1)) := o1
        have o2 : E2 0 2 = some (.ref (zad B 18)) := o2
        obtain ⟨w, a, e1, e2, e3⟩ := xOutA17_0 i1 (by omega)
        unfold xΨld18
        rw [if_pos i0, e1]
        exact ⟨⟨⟨by omega, by omega, o1, o2, by omega, by omega⟩, by omega⟩, fun i i0 i1 => by have w := ij i i0 i1; rw [e21 i, e22 i]; exact w⟩
      · show ((0 ≤ x0 0 ∧ x0 0 ≤ xE E0 35 1 → ¬ ((-1)) = -1 → (xE E2 35 2 = 0 ∧ xE E2 35 3 = -1)) ∧ (¬ (0 ≤ x0 0 ∧ x0 0 ≤ xE E0 35 1) → (xE E2 35 2 = xE E0 35 2 ∧ xE E2 35 3 = xE E0 35 3)))
        omega
    · have hx : x ∈ [zxfld18_cr0] := hx
      have hag : ∀ k, k < 3 → v2 k = v k := hag
      have hfr : xFr [(0, 0, 0), (67, 0, 0), (37, 1, 1)] _ _ := hfr
      have hRk : xRk B [(1, 147), (2, 11)] _ := hRk
      have ex := List.mem_singleton.mp hx
      subst ex
      obtain ⟨hF, hBd, hM⟩ := hXs
      have b0 : ((2147483648 : Nat) : Int) ≤ (v2 3) + 2147483648 ∧ (v2 3) + 2147483648 ≤ ((2147483728 : Nat) : Int) := xXb hBd 0 rfl
      have f0 : (0 : Int) ≤ 2 ∧ xE E 19 2 = (v2 3) := xXf hF 0 rfl
      have m0 : xE E2 0 0 = 0 := xXm hM 0 rfl
      have m1 : xE E2 67 0 = 0 := xXm hM 1 rfl
      have m2 : xE E2 37 1 = 0 := xXm hM 2 rfl
      have e35_1 : xE E2 35 1 = xE E 35 1 := xFr_E hfr rfl
      have e35_2 : xE E2 35 2 = xE E 35 2 := xFr_E hfr rfl
      have e35_3 : xE E2 35 3 = xE E 35 3 := xFr_E hfr rfl
      have e19_2 : xE E2 19 2 = xE E 19 2 := xFr_E hfr rfl
      have e36 : ∀ i, xE E2 36 i = xE E 36 i := fun i => xFr_E hfr rfl
      have q36 : ∀ i, xE E 36 i = xE E0 36 i := fun i => xFr_E hFr0 rfl
      have e21 : ∀ i, xE E2 21 i = xE E 21 i := fun i => xFr_E hfr rfl
      have e22 : ∀ i, xE E2 22 i = xE E 22 i := fun i => xFr_E hfr rfl
      have hI : ((0 ≤ x0 0 ∧ x0 0 ≤ xE E0 35 1) ∧ ∃ p S, pAll (xE E0 36) (x0 0) = .ok (p, S) ∧ xAb17 E S ∧ xGeo17 E (S 0).toNat (S 1).toNat ∧ xJk17 E0 E ∧ xE E 35 1 = 0) ∧ (xE E 35 2 = 0 ∧ xE E 35 3 = -1) := hInv
      obtain ⟨hI, hSm⟩ := hI
      show (xΨfld18S B) x0 E0 E2 (v2 3)
      refine ⟨?_, ?_⟩
      · show (xΨld18 B) x0 E0 E2 (v2 3)
        obtain ⟨i0, pp, S, i1, i2, i3, ij, i4⟩ := hI
        have o1 := xRk_g hRk 0 rfl
        have o2 := xRk_g hRk 1 rfl
        have o1 : E2 0 1 = some (.ref (zad B 18)) := o1
        have o2 : E2 0 2 = some (.ref (zad B 1)) := o2
        have hs := i2.2.1.2.2.1
        unfold xΨld18
        rw [if_pos i0, i1]
        exact ⟨⟨⟨by omega, by omega, o1, o2, xAb17_bg i2 (xFr_mono (by decide) hfr), xGeo17_bg i3 (xFr_mono (by decide) hfr)⟩, by omega⟩, fun i i0 i1 => by have w := ij i i0 i1; rw [e21 i, e22 i]; exact w⟩
      · show ((0 ≤ x0 0 ∧ x0 0 ≤ xE E0 35 1 → ¬ ((v2 3)) = -1 → (xE E2 35 2 = 0 ∧ xE E2 35 3 = -1)) ∧ (¬ (0 ≤ x0 0 ∧ x0 0 ≤ xE E0 35 1) → (xE E2 35 2 = xE E0 35 2 ∧ xE E2 35 3 = xE E0 35 3)))
        omega
noncomputable def zxfld1_zx0 : zyXp := (0, [3, 34359738369, 13], [], [], [], [])
noncomputable def zpfld1_z : zyPh := (0, [3, 34359738369, 13], [(0, 4294967295), (0, 4294967295), (0, 4294967295)], [], [])
noncomputable def zxfld1_ax0 : zyXp := (30, [3, 13, 13], [11, 34359738369, 283], [(21, 0, 34359738369, 0), (24, 103079215105, 35, 8), (21, 0, 103079215105, 34359738369)], [(34359738369, 2147483648, 2147484548), (103079215105, 2147483648, 2147484548)], [])
noncomputable def zxfld1_ar0 : zyXp := (0, [], [34359738360], [(20, 0, 34359738369, 0)], [(34359738369, 0, 2147483647)], [(0, 8)])
noncomputable def zxfld1_ar1 : zyXp := (0, [], [34359738360], [(21, 0, 34359738369, 0), (24, 103079215105, 35, 8), (20, 0, 103079215105, 34359738369)], [(34359738369, 2147483649, 4294967295), (103079215105, 2147483648, 2147484548)], [(0, 8)])
noncomputable def zpfld1_a : zyPh := (0, [3, 34359738369, 13], [(0, 4294967295), (0, 4294967295), (0, 4294967295)], [(1, 147), (2, 11)], [])
noncomputable def zxfld1_bx0 : zyXp := (69, [3, 13, 13], [11, 315], [(23, 0, 103079215105, 0)], [(103079215105, 2147483649, 2147483649)], [])
noncomputable def zxfld1_br0 : zyXp := (0, [], [34359738360], [(22, 0, 103079215105, 0)], [(103079215105, 2147483648, 2147483648)], [(0, 72)])
noncomputable def zpfld1_b : zyPh := (33, [3, 13, 13], [(0, 4294967295), (0, 4294967295), (0, 4294967295), (2147483648, 2147483649)], [(1, 147), (2, 11)], [103079215105])
noncomputable def zxfld1_cr0 : zyXp := (0, [], [103079215105], [(24, 103079215105, 2, 16)], [(103079215105, 2147483648, 2147483728)], [(0, 0), (1097728, 0), (606209, 0)])
noncomputable def zpfld1_c : zyPh := (72, [3, 13, 13], [(0, 4294967295), (0, 4294967295), (0, 4294967295)], [(1, 11), (2, 147)], [])
noncomputable def zpfld1 (i : Nat) : zyPh := zif (Nat.beq i 0) (zpfld1_z) (zif (Nat.beq i 1) (zpfld1_a) (zif (Nat.beq i 2) (zpfld1_b) (zpfld1_c)))
noncomputable def zXfld1 (i : Nat) : List zyXp := zif (Nat.beq i 0) ([zxfld1_zx0]) (zif (Nat.beq i 1) ([zxfld1_ax0]) (zif (Nat.beq i 2) ([zxfld1_bx0]) ([])))
noncomputable def zRfld1 (i : Nat) : List zyXp := zif (Nat.beq i 0) ([]) (zif (Nat.beq i 1) ([zxfld1_ar0, zxfld1_ar1]) (zif (Nat.beq i 2) ([zxfld1_br0]) ([zxfld1_cr0])))
noncomputable def zFfld1 (i : Nat) : zyR := zif (Nat.beq i 0) ([]) (zif (Nat.beq i 1) ([(0, 0, 0)]) (zif (Nat.beq i 2) ([(0, 0, 2)]) ([(0, 0, 0), (67, 0, 0), (37, 1, 1)])))
noncomputable def zSfld1 (i : Nat) : Nat := zif (Nat.beq i 0) (0) (zif (Nat.beq i 1) (0) (zif (Nat.beq i 2) (0) (0)))
theorem xAb0_bg {E E2 : zyEm} {S : Int → Int} (h : xAb0 E S) (hf : xFr [(0, 0, 2), (67, 0, 0), (37, 1, 1), (39, 0, 1), (45, 1, 1), (40, 0, 7), (42, 0, 7)] E E2)   : xAb0 E2 S := by
  obtain ⟨a0, a1, a2, a3, a4, a5, a6⟩ := h
  refine ⟨a0, ?_, ?_, ?_, ?_, ?_, ?_⟩
  · rw [(show xE E2 2 0 = xE E 2 0 from xFr_E hf rfl), (show xE E2 2 1 = xE E 2 1 from xFr_E hf rfl), (show xE E2 2 2 = xE E 2 2 from xFr_E hf rfl), (show xE E2 2 3 = xE E 2 3 from xFr_E hf rfl)]
    exact a1
  · intro s s0 s1
    rw [(show xE E2 4 s = xE E 4 s from xFr_E hf rfl)]
    exact a2 s s0 s1
  · rw [(show xE E2 1 5 = xE E 1 5 from xFr_E hf rfl)]
    refine ⟨a3.1, fun k k0 k1 => ?_⟩
    rw [(show xE E2 14 k = xE E 14 k from xFr_E hf rfl), (show xE E2 15 k = xE E 15 k from xFr_E hf rfl)]
    exact a3.2 k k0 k1
  · intro k k0 k1
    rw [(show xE E2 10 k = xE E 10 k from xFr_E hf rfl), (show xE E2 11 k = xE E 11 k from xFr_E hf rfl), (show xE E2 12 k = xE E 12 k from xFr_E hf rfl), (show xE E2 13 k = xE E 13 k from xFr_E hf rfl)]
    exact a4 k k0 k1
  · rw [(show xE E2 1 8 = xE E 1 8 from xFr_E hf rfl), (show xE E2 16 1 = xE E 16 1 from xFr_E hf rfl)]
    exact a5
  · intro k k0 k1
    rw [(show xE E2 17 k = xE E 17 k from xFr_E hf rfl)]
    exact a6 k k0 k1
theorem xGeo0_bg {E E2 : zyEm} {r c : Nat} (h : xGeo0 E r c) (hf : xFr [(0, 0, 2), (67, 0, 0), (37, 1, 1), (39, 0, 1), (45, 1, 1), (40, 0, 7), (42, 0, 7)] E E2) : xGeo0 E2 r c := by
  refine ⟨fun s hs => ?_, fun g hg => ?_⟩
  · rw [(show xE E2 3 s = xE E 3 s from xFr_E hf rfl), (show xE E2 4 s = xE E 4 s from xFr_E hf rfl), (show xE E2 5 s = xE E 5 s from xFr_E hf rfl), (show xE E2 6 s = xE E 6 s from xFr_E hf rfl), (show xE E2 7 s = xE E 7 s from xFr_E hf rfl)]
    exact h.1 s hs
  · rw [(show xE E2 8 g = xE E 8 g from xFr_E hf rfl), (show xE E2 9 g = xE E 9 g from xFr_E hf rfl)]
    exact h.2 g hg
theorem xOutA0_0 {R : pR} {E2 : zyEm} {r : Int} (h : xOutA0 R E2 r) (hr : r = 0) : ∃ w a, R = .error (w, a) ∧ xE E2 35 2 = w ∧ xE E2 35 3 = a := by
  cases R with
  | error e => exact ⟨e.1, e.2, rfl, h.2⟩
  | ok x =>
    have h1 : r = 1 := h.1
    omega
theorem xOutA0_1 {R : pR} {E2 : zyEm} {r : Int} (h : xOutA0 R E2 r) (hr : ¬ r = 0) : ∃ p S, R = .ok (p, S) ∧ xAb0 E2 S := by
  cases R with
  | error e => exact absurd h.1 hr
  | ok x => exact ⟨x.1, x.2, rfl, h.2⟩
theorem xOutA0_r {R : pR} {E2 : zyEm} {r : Int} (h : xOutA0 R E2 r) : r = 0 ∨ r = 1 := by
  cases R with
  | error e => exact Or.inl h.1
  | ok x => exact Or.inr h.1
def xΦld1 (B : zCx) (_ : Nat → Int) (E : zyEm) : Prop := E 0 1 = some (.ref (zad B 18)) ∧ E 0 2 = some (.ref (zad B 1))
/-- load, spare at 1 -/
def xΨld1 (B : zCx) (x : Nat → Int) (E E2 : zyEm) (r : Int) : Prop := (if 0 ≤ x 0 ∧ x 0 ≤ xE E 35 1 then (match pAll (xE E 36) (x 0) with
  | .ok (_, S) => r = sN (S 0) (S 1) ∧ xE E2 0 0 = 0 ∧ E2 0 1 = some (.ref (zad B 1)) ∧ E2 0 2 = some (.ref (zad B 18)) ∧ xAb0 E2 S ∧ xGeo0 E2 (S 0).toNat (S 1).toNat
  | .error (w, a) => r = -1 ∧ xE E2 0 0 = 9 ∧ E2 0 1 = some (.ref (zad B 18)) ∧ E2 0 2 = some (.ref (zad B 1)) ∧ xE E2 35 2 = w ∧ xE E2 35 3 = a) ∧ xE E2 35 1 = 0
  else r = -1 ∧ xE E2 0 0 = 1 ∧ xE E2 35 1 = xE E 35 1 ∧ E2 0 1 = some (.ref (zad B 18)) ∧ E2 0 2 = some (.ref (zad B 1))) ∧ xJk0 E E2
def xΨfld1S (B : zCx) (x : Nat → Int) (E E2 : zyEm) (r : Int) : Prop := (xΨld1 B) x E E2 r ∧ ((0 ≤ x 0 ∧ x 0 ≤ xE E 35 1 → ¬ r = -1 → (xE E2 35 2 = 0 ∧ xE E2 35 3 = -1)) ∧ (¬ (0 ≤ x 0 ∧ x 0 ≤ xE E 35 1) → (xE E2 35 2 = xE E 35 2 ∧ xE E2 35 3 = xE E 35 3)))
noncomputable def fpfld1 : zyR := [(0, 0, 2), (67, 0, 0), (37, 1, 1), (39, 0, 1), (45, 1, 1), (40, 0, 7), (42, 0, 7), (35, 1, 8), (1, 5, 5), (1, 8, 8), (2, 0, 3), (3, 0, 79), (4, 0, 79), (5, 0, 79), (6, 0, 79), (7, 0, 79), (8, 0, 30), (9, 0, 30), (10, 0, 30), (11, 0, 30), (12, 0, 30), (13, 0, 30), (16, 1, 1), (17, 0, 59), (14, 0, 7), (15, 0, 7)]
noncomputable def rkxfld1 (i : Nat) : List (Nat × Nat) := zif (Nat.beq i 0) ([]) (zif (Nat.beq i 1) ([(1, 147), (2, 11)]) (zif (Nat.beq i 2) ([(1, 11), (2, 147)]) ([])))
noncomputable def rkrfld1 (i : Nat) : List (Nat × Nat) := zif (Nat.beq i 0) ([]) (zif (Nat.beq i 1) ([(1, 147), (2, 11)]) (zif (Nat.beq i 2) ([(1, 147), (2, 11)]) ([(1, 11), (2, 147)])))
theorem zyfld1_run : zyrR zymc zxi121 (121, 0, 0, 1, 0) 12 zpfld1 (fun _ _ => []) zFfld1 zSfld1 zXfld1 zRfld1 rkxfld1 rkrfld1 4 = true := by decide +kernel
theorem zyfld1_ck : zyAll (fun i => xsubR (zFfld1 i) fpfld1 && ((zXfld1 i).all xckX && (zRfld1 i).all (fun x => xckX x && xrtB true x))) 4 = true := by decide +kernel
def xIfld1 (i : Nat) (x0 : Nat → Int) (E0 : zyEm) (v : Nat → Int) (E : zyEm) : Prop := if i = 0 then ((E = E0 ∧ (v 1) = x0 0) ∧ (xE E 35 2 = xE E0 35 2 ∧ xE E 35 3 = xE E0 35 3)) else if i = 1 then ((E = E0 ∧ (v 1) = x0 0) ∧ (xE E 35 2 = xE E0 35 2 ∧ xE E 35 3 = xE E0 35 3)) else if i = 2 then (((0 ≤ x0 0 ∧ x0 0 ≤ xE E0 35 1) ∧ xOutA0 (pAll (xE E0 36) (x0 0)) E (v 3) ∧ xJk0 E0 E ∧ (∀ p S, pAll (xE E0 36) (x0 0) = .ok (p, S) → xGeo0 E (S 0).toNat (S 1).toNat) ∧ xE E 35 1 = 0) ∧ (¬ (v 3) = 0 → (xE E 35 2 = 0 ∧ xE E 35 3 = -1))) else (((0 ≤ x0 0 ∧ x0 0 ≤ xE E0 35 1) ∧ ∃ p S, pAll (xE E0 36) (x0 0) = .ok (p, S) ∧ xAb0 E S ∧ xGeo0 E (S 0).toNat (S 1).toNat ∧ xJk0 E0 E ∧ xE E 35 1 = 0) ∧ (xE E 35 2 = 0 ∧ xE E 35 3 = -1))
def xMfld1 (i : Nat) (x0 : Nat → Int) (E0 : zyEm) (v : Nat → Int) (E : zyEm) : Nat := if i = 0 then (4) else if i = 1 then (3) else if i = 2 then (2) else (1)
theorem xLd1 {l : Launch} {en : zEn} {me : zMe} (hen : zG zxMeta 121 = some en) (hme : zG zMeth 121 = some me) : ∀ B, xFcB l zymc B en me 12 [0] 1 fpfld1 true (xΦld1 B) (xΨfld1S B) := by
  have een : zG zxMeta 121 = some (zxi121, 2, 3, 10, 121, 0, 0, 1, 0) := rfl
  obtain ⟨me1, hme1, hOK⟩ := zall hen
  rw [hme] at hme1
  cases hme1
  rw [een] at hen
  cases hen
  have hr := zyfld1_run
  have hck := fun i hi => zyAll_iff zyfld1_ck i hi
  simp only [Bool.and_eq_true] at hck
  obtain ⟨mefra0, hmefra0, -⟩ := zall (show zG zxMeta 58 = some (zxi58, 3, 4, 5, 58, 0, 0, 2, 0) from rfl)
  have hfra0 := xRa0 (l := l) (show zG zxMeta 58 = some (zxi58, 3, 4, 5, 58, 0, 0, 2, 0) from rfl) hmefra0
  obtain ⟨mefbg0, hmefbg0, -⟩ := zall (show zG zxMeta 86 = some (zxi86, 2, 3, 7, 86, 0, 0, 0, 0) from rfl)
  have hfbg0 := xBg0 (l := l) (show zG zxMeta 86 = some (zxi86, 2, 3, 7, 86, 0, 0, 0, 0) from rfl) hmefbg0
  intro B
  refine xcutr (mi := zymc) (B := B) hOK rfl rfl (ι := Fin 4) (fun i => zpfld1 i.val) (fun _ _ => []) (fun i => zFfld1 i.val) (fun i => zSfld1 i.val) (fun i => zXfld1 i.val) (fun i => zRfld1 i.val) (fun i => rkxfld1 i.val) (fun i => rkrfld1 i.val) (fun i y2 ct en2 me2 h => by cases h) 200000 (fun i => zyAll_iff hr i.val i.isLt) (fun i => (hck i.val i.isLt).1) (fun i => (hck i.val i.isLt).2.1) (fun i => (hck i.val i.isLt).2.2) ⟨0, by decide⟩ ⟨rfl, rfl, rfl, rfl⟩ ⟨by decide, by decide⟩ (fun i x0 E0 v E => xIfld1 i.val x0 E0 v E) (fun i x0 E0 v E => xMfld1 i.val x0 E0 v E) ?_ ?_ ?_
  · intro x0 E hx0 hT hΦ
    have hΦ : (xΦld1 B) x0 E := hΦ
    refine ⟨fun k p hp => ?_, ?_⟩
    · have hk : k < 3 := (List.getElem?_eq_some_iff.mp hp).1
      have hk : k = 0 ∨ k = 1 ∨ k = 2 := by omega
      rcases hk with rfl | rfl | rfl
      · have hp : some (0, 4294967295) = some p := hp
        cases hp
        show ((0 : Nat) : Int) ≤ 0 + 2147483648 ∧ 0 + 2147483648 ≤ ((4294967295 : Nat) : Int)
        omega
      · have hp : some (0, 4294967295) = some p := hp
        cases hp
        show ((0 : Nat) : Int) ≤ x0 0 + 2147483648 ∧ x0 0 + 2147483648 ≤ ((4294967295 : Nat) : Int)
        have hx := hx0 0
        omega
      · have hp : some (0, 4294967295) = some p := hp
        cases hp
        show ((0 : Nat) : Int) ≤ x0 1 + 2147483648 ∧ x0 1 + 2147483648 ≤ ((4294967295 : Nat) : Int)
        have hx := hx0 1
        omega
    · show (E = E ∧ (x0 0) = x0 0) ∧ (xE E 35 2 = xE E 35 2 ∧ xE E 35 3 = xE E 35 3)
      refine ⟨?_, ⟨rfl, rfl⟩⟩
      exact ⟨rfl, rfl⟩
  · intro x0 s Wg hRu hrx hT0 hΦ i v H hT hrv hInv hKc hFr0 hIH x hx ρ2 v2 N2 H2 locs lsB stA hAt hB hv hr2 hXs hag hfr hFr hT2 hRk
    rcases i with ⟨i, hi⟩
    have hi2 : i = 0 ∨ i = 1 ∨ i = 2 ∨ i = 3 := by omega
    rcases hi2 with rfl | rfl | rfl | rfl
    · have hx : x ∈ [zxfld1_zx0] := hx
      have hag : ∀ k, k < 3 → v2 k = v k := hag
      have hfr : xFr [] _ _ := hfr
      have hRk : xRk B [] _ := hRk
      have ex := List.mem_singleton.mp hx
      subst ex
      obtain ⟨hF, hBd, hM⟩ := hXs
      have r1 := hr2 1
      have g1 : v2 1 = v 1 := hag 1 (by decide)
      have e35_1 : xE (zyEl zymc B H2) 35 1 = xE (zyEl zymc B H) 35 1 := xFr_E hfr rfl
      have e35_2 : xE (zyEl zymc B H2) 35 2 = xE (zyEl zymc B H) 35 2 := xFr_E hfr rfl
      have e35_3 : xE (zyEl zymc B H2) 35 3 = xE (zyEl zymc B H) 35 3 := xFr_E hfr rfl
      have e2_2 : xE (zyEl zymc B H2) 2 2 = xE (zyEl zymc B H) 2 2 := xFr_E hfr rfl
      have e36 : ∀ i, xE (zyEl zymc B H2) 36 i = xE (zyEl zymc B H) 36 i := fun i => xFr_E hfr rfl
      have q36 : ∀ i, xE (zyEl zymc B H) 36 i = xE (zyEl zymc B s.heap) 36 i := fun i => xFr_E hFr0 rfl
      have e4 : ∀ i, xE (zyEl zymc B H2) 4 i = xE (zyEl zymc B H) 4 i := fun i => xFr_E hfr rfl
      have e5 : ∀ i, xE (zyEl zymc B H2) 5 i = xE (zyEl zymc B H) 5 i := fun i => xFr_E hfr rfl
      have hI : ((zyEl zymc B H) = (zyEl zymc B s.heap) ∧ (v 1) = x0 0) ∧ (xE (zyEl zymc B H) 35 2 = xE (zyEl zymc B s.heap) 35 2 ∧ xE (zyEl zymc B H) 35 3 = xE (zyEl zymc B s.heap) 35 3) := hInv
      obtain ⟨hI, hSm⟩ := hI
      have q35_1 : xE (zyEl zymc B H) 35 1 = xE (zyEl zymc B s.heap) 35 1 := by rw [hI.1]
      have q35_2 : xE (zyEl zymc B H) 35 2 = xE (zyEl zymc B s.heap) 35 2 := by rw [hI.1]
      have q35_3 : xE (zyEl zymc B H) 35 3 = xE (zyEl zymc B s.heap) 35 3 := by rw [hI.1]
      have q2_2 : xE (zyEl zymc B H) 2 2 = xE (zyEl zymc B s.heap) 2 2 := by rw [hI.1]
      have q4 : ∀ i, xE (zyEl zymc B H) 4 i = xE (zyEl zymc B s.heap) 4 i := fun i => by rw [hI.1]
      have q5 : ∀ i, xE (zyEl zymc B H) 5 i = xE (zyEl zymc B s.heap) 5 i := fun i => by rw [hI.1]
      refine xGo hIH hAt hB hv hFr ⟨1, by decide⟩ [0, 34359738369, 0] [0, (v2 1), 0] rfl ⟨by decide +kernel, ⟨rfl, by decide +kernel⟩, (xcs_c rfl (xcs_c rfl (xcs_c rfl xcs_n))), (xe_0 (xe_f (by omega) (xe_0 xe_n))), (xkq_r 0 1 18 rfl rfl rfl rfl rfl (by rw [xFr_n hfr, hI.1]; exact hΦ.1) (xkq_r 0 2 1 rfl rfl rfl rfl rfl (by rw [xFr_n hfr, hI.1]; exact hΦ.2) xkq_n))⟩ xst_n ?_ ?_
      · show ((zyEl zymc B H2) = (zyEl zymc B s.heap) ∧ ((v2 1) : Int) = x0 0) ∧ (xE (zyEl zymc B H2) 35 2 = xE (zyEl zymc B s.heap) 35 2 ∧ xE (zyEl zymc B H2) 35 3 = xE (zyEl zymc B s.heap) 35 3)
        refine ⟨?_, ?_⟩
        · skip
          exact ⟨(xFr_n hfr).trans hI.1, by omega⟩
        · omega
      · show 3 < 4
        omega
    · have hx : x ∈ [zxfld1_ax0] := hx
      have hag : ∀ k, k < 3 → v2 k = v k := hag
      have hfr : xFr [(0, 0, 0)] _ _ := hfr
      have hRk : xRk B [(1, 147), (2, 11)] _ := hRk
      have ex := List.mem_singleton.mp hx
      subst ex
      obtain ⟨hF, hBd, hM⟩ := hXs
      have g1 : v2 1 = v 1 := hag 1 (by decide)
      have b0 : ((2147483648 : Nat) : Int) ≤ (v2 1) + 2147483648 ∧ (v2 1) + 2147483648 ≤ ((2147484548 : Nat) : Int) := xXb hBd 0 rfl
      have b1 : ((2147483648 : Nat) : Int) ≤ (v2 3) + 2147483648 ∧ (v2 3) + 2147483648 ≤ ((2147484548 : Nat) : Int) := xXb hBd 1 rfl
      have f0 : 0 ≤ (v2 1) := xXf hF 0 rfl
      have f1 : (0 : Int) ≤ 1 ∧ xE (zyEl zymc B H) 35 1 = (v2 3) := xXf hF 1 rfl
      have f2 : (v2 1) ≤ (v2 3) := xXf hF 2 rfl
      have e35_1 : xE (zyEl zymc B H2) 35 1 = xE (zyEl zymc B H) 35 1 := xFr_E hfr rfl
      have e35_2 : xE (zyEl zymc B H2) 35 2 = xE (zyEl zymc B H) 35 2 := xFr_E hfr rfl
      have e35_3 : xE (zyEl zymc B H2) 35 3 = xE (zyEl zymc B H) 35 3 := xFr_E hfr rfl
      have e2_2 : xE (zyEl zymc B H2) 2 2 = xE (zyEl zymc B H) 2 2 := xFr_E hfr rfl
      have e36 : ∀ i, xE (zyEl zymc B H2) 36 i = xE (zyEl zymc B H) 36 i := fun i => xFr_E hfr rfl
      have q36 : ∀ i, xE (zyEl zymc B H) 36 i = xE (zyEl zymc B s.heap) 36 i := fun i => xFr_E hFr0 rfl
      have e4 : ∀ i, xE (zyEl zymc B H2) 4 i = xE (zyEl zymc B H) 4 i := fun i => xFr_E hfr rfl
      have e5 : ∀ i, xE (zyEl zymc B H2) 5 i = xE (zyEl zymc B H) 5 i := fun i => xFr_E hfr rfl
      have hI : ((zyEl zymc B H) = (zyEl zymc B s.heap) ∧ (v 1) = x0 0) ∧ (xE (zyEl zymc B H) 35 2 = xE (zyEl zymc B s.heap) 35 2 ∧ xE (zyEl zymc B H) 35 3 = xE (zyEl zymc B s.heap) 35 3) := hInv
      obtain ⟨hI, hSm⟩ := hI
      have q35_1 : xE (zyEl zymc B H) 35 1 = xE (zyEl zymc B s.heap) 35 1 := by rw [hI.1]
      have q35_2 : xE (zyEl zymc B H) 35 2 = xE (zyEl zymc B s.heap) 35 2 := by rw [hI.1]
      have q35_3 : xE (zyEl zymc B H) 35 3 = xE (zyEl zymc B s.heap) 35 3 := by rw [hI.1]
      have q2_2 : xE (zyEl zymc B H) 2 2 = xE (zyEl zymc B s.heap) 2 2 := by rw [hI.1]
      have q4 : ∀ i, xE (zyEl zymc B H) 4 i = xE (zyEl zymc B s.heap) 4 i := fun i => by rw [hI.1]
      have q5 : ∀ i, xE (zyEl zymc B H) 5 i = xE (zyEl zymc B s.heap) 5 i := fun i => by rw [hI.1]
      have o1 := xRk_g hRk 0 rfl
      have o2 := xRk_g hRk 1 rfl
      have o1 : (zyEl zymc B H2) 0 1 = some (.ref (zad B 18)) := o1
      have o2 : (zyEl zymc B H2) 0 2 = some (.ref (zad B 1)) := o2
      have tt : xE (zyEl zymc B H2) 36 = xE (zyEl zymc B s.heap) 36 := funext fun i => (e36 i).trans (q36 i)
      refine xCaq hRu hIH hAt hB hv hFr (hfra0 B) (ix := 101) (ax := 929) rfl rfl rfl hmefra0 ⟨_, rfl, rfl, by decide⟩ ⟨rfl, rfl, rfl⟩ (by decide) 34359738369 [] (v2 1) rfl (by decide +kernel) rfl (by decide +kernel) ?_ (fun H3 r hT3 hf3 hFr3 hr3 hΨ3 => ?_)
      · show xΦra0 (xfv [(v2 1)]) (zyEl zymc B H2)
        exact ⟨by show 0 ≤ (v2 1); omega, by show (v2 1) ≤ 900; omega⟩
      · have hΨ3 : xΨfra0S (xfv [(v2 1)]) (zyEl zymc B H2) (zyEl zymc B H3) r := hΨ3
        obtain ⟨hΨ3, hS3⟩ := hΨ3
        have hΨ3 : xΨra0 (xfv [(v2 1)]) (zyEl zymc B H2) (zyEl zymc B H3) r := hΨ3
        have hS3 : (¬ (r) = 0 → (xE (zyEl zymc B H3) 35 2 = 0 ∧ xE (zyEl zymc B H3) 35 3 = -1)) := hS3
        have d36 : ∀ i, xE (zyEl zymc B H3) 36 i = xE (zyEl zymc B H2) 36 i := fun i => xFr_E hf3 rfl
        have hx : xfv [(v2 1)] 0 = x0 0 := by show (v2 1) = _; omega
        obtain ⟨w1, w2, w3, w4⟩ := hΨ3
        rw [tt, hx] at w1 w3
        have hr01 := xOutA0_r w1
        refine ⟨⟨2, by decide⟩, [0, 0, 0], [0, 0, 0, r], rfl, ⟨by decide +kernel, ⟨rfl, by decide +kernel⟩, (xcs_c rfl (xcs_c rfl (xcs_c rfl xcs_n))), (xe_0 (xe_0 (xe_0 (xe_c (by omega) (by omega) rfl xe_n)))), (xkq_r 0 1 18 rfl rfl rfl rfl rfl ((hf3 0 1 rfl).trans o1) (xkq_r 0 2 1 rfl rfl rfl rfl rfl ((hf3 0 2 rfl).trans o2) xkq_n))⟩, (by rw [if_pos rfl]; exact ⟨3, [], rfl, by decide, rfl, xst_n⟩), ?_, ?_⟩
        · show ((0 ≤ x0 0 ∧ x0 0 ≤ xE (zyEl zymc B s.heap) 35 1) ∧ xOutA0 (pAll (xE (zyEl zymc B s.heap) 36) (x0 0)) (zyEl zymc B H3) (r : Int) ∧ xJk0 (zyEl zymc B s.heap) (zyEl zymc B H3) ∧ (∀ p S, pAll (xE (zyEl zymc B s.heap) 36) (x0 0) = .ok (p, S) → xGeo0 (zyEl zymc B H3) (S 0).toNat (S 1).toNat) ∧ xE (zyEl zymc B H3) 35 1 = 0) ∧ (¬ (r : Int) = 0 → (xE (zyEl zymc B H3) 35 2 = 0 ∧ xE (zyEl zymc B H3) 35 3 = -1))
          refine ⟨?_, ?_⟩
          · skip
            refine ⟨by omega, w1, fun i i0 i1 => ?_, w3, w4⟩
            have w := w2 i i0 i1
            rw [e4 i, q4 i, e5 i, q5 i] at w
            exact w
          · omega
        · show 2 < 3
          omega
    · have hx : x ∈ [zxfld1_bx0] := hx
      have hag : ∀ k, k < 4 → v2 k = v k := hag
      have hfr : xFr [(0, 0, 2)] _ _ := hfr
      have hRk : xRk B [(1, 11), (2, 147)] _ := hRk
      have ex := List.mem_singleton.mp hx
      subst ex
      obtain ⟨hF, hBd, hM⟩ := hXs
      have g3 : v2 3 = v 3 := hag 3 (by decide)
      have b0 : ((2147483649 : Nat) : Int) ≤ (v2 3) + 2147483648 ∧ (v2 3) + 2147483648 ≤ ((2147483649 : Nat) : Int) := xXb hBd 0 rfl
      have f0 : ¬ (v2 3) = 0 := xXf hF 0 rfl
      have e35_1 : xE (zyEl zymc B H2) 35 1 = xE (zyEl zymc B H) 35 1 := xFr_E hfr rfl
      have e35_2 : xE (zyEl zymc B H2) 35 2 = xE (zyEl zymc B H) 35 2 := xFr_E hfr rfl
      have e35_3 : xE (zyEl zymc B H2) 35 3 = xE (zyEl zymc B H) 35 3 := xFr_E hfr rfl
      have e2_2 : xE (zyEl zymc B H2) 2 2 = xE (zyEl zymc B H) 2 2 := xFr_E hfr rfl
      have e36 : ∀ i, xE (zyEl zymc B H2) 36 i = xE (zyEl zymc B H) 36 i := fun i => xFr_E hfr rfl
      have q36 : ∀ i, xE (zyEl zymc B H) 36 i = xE (zyEl zymc B s.heap) 36 i := fun i => xFr_E hFr0 rfl
      have e4 : ∀ i, xE (zyEl zymc B H2) 4 i = xE (zyEl zymc B H) 4 i := fun i => xFr_E hfr rfl
      have e5 : ∀ i, xE (zyEl zymc B H2) 5 i = xE (zyEl zymc B H) 5 i := fun i => xFr_E hfr rfl
      have hI : ((0 ≤ x0 0 ∧ x0 0 ≤ xE (zyEl zymc B s.heap) 35 1) ∧ xOutA0 (pAll (xE (zyEl zymc B s.heap) 36) (x0 0)) (zyEl zymc B H) (v 3) ∧ xJk0 (zyEl zymc B s.heap) (zyEl zymc B H) ∧ (∀ p S, pAll (xE (zyEl zymc B s.heap) 36) (x0 0) = .ok (p, S) → xGeo0 (zyEl zymc B H) (S 0).toNat (S 1).toNat) ∧ xE (zyEl zymc B H) 35 1 = 0) ∧ (¬ (v 3) = 0 → (xE (zyEl zymc B H) 35 2 = 0 ∧ xE (zyEl zymc B H) 35 3 = -1)) := hInv
      obtain ⟨hI, hSm⟩ := hI
      obtain ⟨i0, i1, ij, i2, i3⟩ := hI
      rw [show (v 3) = v2 3 by omega] at i1
      have o1 := xRk_g hRk 0 rfl
      have o2 := xRk_g hRk 1 rfl
      have o1 : (zyEl zymc B H2) 0 1 = some (.ref (zad B 1)) := o1
      have o2 : (zyEl zymc B H2) 0 2 = some (.ref (zad B 18)) := o2
      obtain ⟨pp, S, e1, e2⟩ := xOutA0_1 i1 (by omega)
      refine xCa hRu hIH hAt hB hv hFr (hfbg0 B) (ix := 82) (ax := 1377) rfl rfl rfl hmefbg0 ⟨_, rfl, rfl, by decide⟩ ⟨rfl, rfl, rfl⟩ (by decide) [] [] [] rfl ⟨rfl, rfl⟩ (by decide +kernel) xcs_n (by decide +kernel) ?_ (fun H3 r hT3 hf3 hFr3 hr3 hΨ3 => ?_)
      · show xΦ0 (xfv []) (zyEl zymc B H2)
        exact trivial
      · have hΨ3 : xΨ0 (xfv []) (zyEl zymc B H2) (zyEl zymc B H3) r := hΨ3
        have d35_1 : xE (zyEl zymc B H3) 35 1 = xE (zyEl zymc B H2) 35 1 := xFr_E hf3 rfl
        have d35_2 : xE (zyEl zymc B H3) 35 2 = xE (zyEl zymc B H2) 35 2 := xFr_E hf3 rfl
        have d35_3 : xE (zyEl zymc B H3) 35 3 = xE (zyEl zymc B H2) 35 3 := xFr_E hf3 rfl
        have d2_2 : xE (zyEl zymc B H3) 2 2 = xE (zyEl zymc B H2) 2 2 := xFr_E hf3 rfl
        have d36 : ∀ i, xE (zyEl zymc B H3) 36 i = xE (zyEl zymc B H2) 36 i := fun i => xFr_E hf3 rfl
        have d4 : ∀ i, xE (zyEl zymc B H3) 4 i = xE (zyEl zymc B H2) 4 i := fun i => xFr_E hf3 rfl
        have d5 : ∀ i, xE (zyEl zymc B H3) 5 i = xE (zyEl zymc B H2) 5 i := fun i => xFr_E hf3 rfl
        skip
        refine ⟨⟨3, by decide⟩, [0, 0, 0], [0, 0, 0], rfl, ⟨by decide +kernel, ⟨rfl, by decide +kernel⟩, (xcs_c rfl (xcs_c rfl (xcs_c rfl xcs_n))), (xe_0 (xe_0 (xe_0 xe_n))), (xkq_r 0 1 1 rfl rfl rfl rfl rfl ((hf3 0 1 rfl).trans o1) (xkq_r 0 2 18 rfl rfl rfl rfl rfl ((hf3 0 2 rfl).trans o2) xkq_n))⟩, (by rw [if_neg (by decide)]; exact xst_n), ?_, ?_⟩
        · show ((0 ≤ x0 0 ∧ x0 0 ≤ xE (zyEl zymc B s.heap) 35 1) ∧ ∃ p S, pAll (xE (zyEl zymc B s.heap) 36) (x0 0) = .ok (p, S) ∧ xAb0 (zyEl zymc B H3) S ∧ xGeo0 (zyEl zymc B H3) (S 0).toNat (S 1).toNat ∧ xJk0 (zyEl zymc B s.heap) (zyEl zymc B H3) ∧ xE (zyEl zymc B H3) 35 1 = 0) ∧ (xE (zyEl zymc B H3) 35 2 = 0 ∧ xE (zyEl zymc B H3) 35 3 = -1)
          refine ⟨?_, ?_⟩
          · skip
            exact ⟨i0, pp, S, e1, xAb0_bg e2 (xFr_trans (xFr_mono (by decide) hfr) (xFr_mono (by decide) hf3)), xGeo0_bg (i2 _ _ e1) (xFr_trans (xFr_mono (by decide) hfr) (xFr_mono (by decide) hf3)), fun i i0 i1 => by have w := ij i i0 i1; rw [d4 i, e4 i, d5 i, e5 i]; exact w, by omega⟩
          · omega
        · show 1 < 2
          omega
    · cases hx
  · intro x0 E0 E E2 hrx hT0 hΦ i v hT hrv hInv hKc hFr0 x hx v2 hr2 hXs hag hfr hFr hT2 hRk
    rcases i with ⟨i, hi⟩
    have hi2 : i = 0 ∨ i = 1 ∨ i = 2 ∨ i = 3 := by omega
    rcases hi2 with rfl | rfl | rfl | rfl
    · cases hx
    · have hx : x ∈ [zxfld1_ar0, zxfld1_ar1] := hx
      have hag : ∀ k, k < 3 → v2 k = v k := hag
      have hfr : xFr [(0, 0, 0)] _ _ := hfr
      have hRk : xRk B [(1, 147), (2, 11)] _ := hRk
      rcases List.mem_cons.mp hx with ex | hx
      · subst ex
        obtain ⟨hF, hBd, hM⟩ := hXs
        have g1 : v2 1 = v 1 := hag 1 (by decide)
        have b0 : ((0 : Nat) : Int) ≤ (v2 1) + 2147483648 ∧ (v2 1) + 2147483648 ≤ ((2147483647 : Nat) : Int) := xXb hBd 0 rfl
        have f0 : (v2 1) < 0 := xXf hF 0 rfl
        have m0 : xE E2 0 0 = 1 := xXm hM 0 rfl
        have e35_1 : xE E2 35 1 = xE E 35 1 := xFr_E hfr rfl
        have e35_2 : xE E2 35 2 = xE E 35 2 := xFr_E hfr rfl
        have e35_3 : xE E2 35 3 = xE E 35 3 := xFr_E hfr rfl
        have e2_2 : xE E2 2 2 = xE E 2 2 := xFr_E hfr rfl
        have e36 : ∀ i, xE E2 36 i = xE E 36 i := fun i => xFr_E hfr rfl
        have q36 : ∀ i, xE E 36 i = xE E0 36 i := fun i => xFr_E hFr0 rfl
        have e4 : ∀ i, xE E2 4 i = xE E 4 i := fun i => xFr_E hfr rfl
        have e5 : ∀ i, xE E2 5 i = xE E 5 i := fun i => xFr_E hfr rfl
        have hI : (E = E0 ∧ (v 1) = x0 0) ∧ (xE E 35 2 = xE E0 35 2 ∧ xE E 35 3 = xE E0 35 3) := hInv
        obtain ⟨hI, hSm⟩ := hI
        have q35_1 : xE E 35 1 = xE E0 35 1 := by rw [hI.1]
        have q35_2 : xE E 35 2 = xE E0 35 2 := by rw [hI.1]
        have q35_3 : xE E 35 3 = xE E0 35 3 := by rw [hI.1]
        have q2_2 : xE E 2 2 = xE E0 2 2 := by rw [hI.1]
        have q4 : ∀ i, xE E 4 i = xE E0 4 i := fun i => by rw [hI.1]
        have q5 : ∀ i, xE E 5 i = xE E0 5 i := fun i => by rw [hI.1]
        show (xΨfld1S B) x0 E0 E2 (-1)
        refine ⟨?_, ?_⟩
        · show (xΨld1 B) x0 E0 E2 (-1)
          have o1 := xRk_g hRk 0 rfl
          have o2 := xRk_g hRk 1 rfl
          have o1 : E2 0 1 = some (.ref (zad B 18)) := o1
          have o2 : E2 0 2 = some (.ref (zad B 1)) := o2
          unfold xΨld1
          rw [if_neg (by omega)]
          exact ⟨⟨by omega, by omega, by omega, o1, o2⟩, fun i i0 i1 => Or.inl ⟨by rw [e4 i, q4 i], by rw [e5 i, q5 i]⟩⟩
        · show ((0 ≤ x0 0 ∧ x0 0 ≤ xE E0 35 1 → ¬ ((-1)) = -1 → (xE E2 35 2 = 0 ∧ xE E2 35 3 = -1)) ∧ (¬ (0 ≤ x0 0 ∧ x0 0 ≤ xE E0 35 1) → (xE E2 35 2 = xE E0 35 2 ∧ xE E2 35 3 = xE E0 35 3)))
          omega
      · skip
        have ex := List.mem_singleton.mp hx
        subst ex
        obtain ⟨hF, hBd, hM⟩ := hXs
        have g1 : v2 1 = v 1 := hag 1 (by decide)
        have b0 : ((2147483649 : Nat) : Int) ≤ (v2 1) + 2147483648 ∧ (v2 1) + 2147483648 ≤ ((4294967295 : Nat) : Int) := xXb hBd 0 rfl
        have b1 : ((2147483648 : Nat) : Int) ≤ (v2 3) + 2147483648 ∧ (v2 3) + 2147483648 ≤ ((2147484548 : Nat) : Int) := xXb hBd 1 rfl
        have f0 : 0 ≤ (v2 1) := xXf hF 0 rfl
        have f1 : (0 : Int) ≤ 1 ∧ xE E 35 1 = (v2 3) := xXf hF 1 rfl
        have f2 : (v2 3) < (v2 1) := xXf hF 2 rfl
        have m0 : xE E2 0 0 = 1 := xXm hM 0 rfl
        have e35_1 : xE E2 35 1 = xE E 35 1 := xFr_E hfr rfl
        have e35_2 : xE E2 35 2 = xE E 35 2 := xFr_E hfr rfl
        have e35_3 : xE E2 35 3 = xE E 35 3 := xFr_E hfr rfl
        have e2_2 : xE E2 2 2 = xE E 2 2 := xFr_E hfr rfl
        have e36 : ∀ i, xE E2 36 i = xE E 36 i := fun i => xFr_E hfr rfl
        have q36 : ∀ i, xE E 36 i = xE E0 36 i := fun i => xFr_E hFr0 rfl
        have e4 : ∀ i, xE E2 4 i = xE E 4 i := fun i => xFr_E hfr rfl
        have e5 : ∀ i, xE E2 5 i = xE E 5 i := fun i => xFr_E hfr rfl
        have hI : (E = E0 ∧ (v 1) = x0 0) ∧ (xE E 35 2 = xE E0 35 2 ∧ xE E 35 3 = xE E0 35 3) := hInv
        obtain ⟨hI, hSm⟩ := hI
        have q35_1 : xE E 35 1 = xE E0 35 1 := by rw [hI.1]
        have q35_2 : xE E 35 2 = xE E0 35 2 := by rw [hI.1]
        have q35_3 : xE E 35 3 = xE E0 35 3 := by rw [hI.1]
        have q2_2 : xE E 2 2 = xE E0 2 2 := by rw [hI.1]
        have q4 : ∀ i, xE E 4 i = xE E0 4 i := fun i => by rw [hI.1]
        have q5 : ∀ i, xE E 5 i = xE E0 5 i := fun i => by rw [hI.1]
        show (xΨfld1S B) x0 E0 E2 (-1)
        refine ⟨?_, ?_⟩
        · show (xΨld1 B) x0 E0 E2 (-1)
          have o1 := xRk_g hRk 0 rfl
          have o2 := xRk_g hRk 1 rfl
          have o1 : E2 0 1 = some (.ref (zad B 18)) := o1
          have o2 : E2 0 2 = some (.ref (zad B 1)) := o2
          unfold xΨld1
          rw [if_neg (by omega)]
          exact ⟨⟨by omega, by omega, by omega, o1, o2⟩, fun i i0 i1 => Or.inl ⟨by rw [e4 i, q4 i], by rw [e5 i, q5 i]⟩⟩
        · show ((0 ≤ x0 0 ∧ x0 0 ≤ xE E0 35 1 → ¬ ((-1)) = -1 → (xE E2 35 2 = 0 ∧ xE E2 35 3 = -1)) ∧ (¬ (0 ≤ x0 0 ∧ x0 0 ≤ xE E0 35 1) → (xE E2 35 2 = xE E0 35 2 ∧ xE E2 35 3 = xE E0 35 3)))
          omega
    · have hx : x ∈ [zxfld1_br0] := hx
      have hag : ∀ k, k < 4 → v2 k = v k := hag
      have hfr : xFr [(0, 0, 2)] _ _ := hfr
      have hRk : xRk B [(1, 147), (2, 11)] _ := hRk
      have ex := List.mem_singleton.mp hx
      subst ex
      obtain ⟨hF, hBd, hM⟩ := hXs
      have g3 : v2 3 = v 3 := hag 3 (by decide)
      have b0 : ((2147483648 : Nat) : Int) ≤ (v2 3) + 2147483648 ∧ (v2 3) + 2147483648 ≤ ((2147483648 : Nat) : Int) := xXb hBd 0 rfl
      have f0 : (v2 3) = 0 := xXf hF 0 rfl
      have m0 : xE E2 0 0 = 9 := xXm hM 0 rfl
      have e35_1 : xE E2 35 1 = xE E 35 1 := xFr_E hfr rfl
      have e35_2 : xE E2 35 2 = xE E 35 2 := xFr_E hfr rfl
      have e35_3 : xE E2 35 3 = xE E 35 3 := xFr_E hfr rfl
      have e2_2 : xE E2 2 2 = xE E 2 2 := xFr_E hfr rfl
      have e36 : ∀ i, xE E2 36 i = xE E 36 i := fun i => xFr_E hfr rfl
      have q36 : ∀ i, xE E 36 i = xE E0 36 i := fun i => xFr_E hFr0 rfl
      have e4 : ∀ i, xE E2 4 i = xE E 4 i := fun i => xFr_E hfr rfl
      have e5 : ∀ i, xE E2 5 i = xE E 5 i := fun i => xFr_E hfr rfl
      have hI : ((0 ≤ x0 0 ∧ x0 0 ≤ xE E0 35 1) ∧ xOutA0 (pAll (xE E0 36) (x0 0)) E (v 3) ∧ xJk0 E0 E ∧ (∀ p S, pAll (xE E0 36) (x0 0) = .ok (p, S) → xGeo0 E (S 0).toNat (S 1).toNat) ∧ xE E 35 1 = 0) ∧ (¬ (v 3) = 0 → (xE E 35 2 = 0 ∧ xE E 35 3 = -1)) := hInv
      obtain ⟨hI, hSm⟩ := hI
      show (xΨfld1S B) x0 E0 E2 (-1)
      refine ⟨?_, ?_⟩
      · show (xΨld1 B) x0 E0 E2 (-1)
        obtain ⟨i0, i1, ij, i2, i3⟩ := hI
        rw [show (v 3) = v2 3 by omega] at i1
        have o1 := xRk_g hRk 0 rfl
        have o2 := xRk_g hRk 1 rfl
        have o1 : E2 0 1 = some (.ref (zad B 18)) := o1
        have o2 : E2 0 2 = some (.ref (zad B 1)) := o2
        obtain ⟨w, a, e1, e2, e3⟩ := xOutA0_0 i1 (by omega)
        unfold xΨld1
        rw [if_pos i0, e1]
        exact ⟨⟨⟨by omega, by omega, o1, o2, by omega, by omega⟩, by omega⟩, fun i i0 i1 => by have w := ij i i0 i1; rw [e4 i, e5 i]; exact w⟩
      · show ((0 ≤ x0 0 ∧ x0 0 ≤ xE E0 35 1 → ¬ ((-1)) = -1 → (xE E2 35 2 = 0 ∧ xE E2 35 3 = -1)) ∧ (¬ (0 ≤ x0 0 ∧ x0 0 ≤ xE E0 35 1) → (xE E2 35 2 = xE E0 35 2 ∧ xE E2 35 3 = xE E0 35 3)))
        omega
    · have hx : x ∈ [zxfld1_cr0] := hx
      have hag : ∀ k, k < 3 → v2 k = v k := hag
      have hfr : xFr [(0, 0, 0), (67, 0, 0), (37, 1, 1)] _ _ := hfr
      have hRk : xRk B [(1, 11), (2, 147)] _ := hRk
      have ex := List.mem_singleton.mp hx
      subst ex
      obtain ⟨hF, hBd, hM⟩ := hXs
      have b0 : ((2147483648 : Nat) : Int) ≤ (v2 3) + 2147483648 ∧ (v2 3) + 2147483648 ≤ ((2147483728 : Nat) : Int) := xXb hBd 0 rfl
      have f0 : (0 : Int) ≤ 2 ∧ xE E 2 2 = (v2 3) := xXf hF 0 rfl
      have m0 : xE E2 0 0 = 0 := xXm hM 0 rfl
      have m1 : xE E2 67 0 = 0 := xXm hM 1 rfl
      have m2 : xE E2 37 1 = 0 := xXm hM 2 rfl
      have e35_1 : xE E2 35 1 = xE E 35 1 := xFr_E hfr rfl
      have e35_2 : xE E2 35 2 = xE E 35 2 := xFr_E hfr rfl
      have e35_3 : xE E2 35 3 = xE E 35 3 := xFr_E hfr rfl
      have e2_2 : xE E2 2 2 = xE E 2 2 := xFr_E hfr rfl
      have e36 : ∀ i, xE E2 36 i = xE E 36 i := fun i => xFr_E hfr rfl
      have q36 : ∀ i, xE E 36 i = xE E0 36 i := fun i => xFr_E hFr0 rfl
      have e4 : ∀ i, xE E2 4 i = xE E 4 i := fun i => xFr_E hfr rfl
      have e5 : ∀ i, xE E2 5 i = xE E 5 i := fun i => xFr_E hfr rfl
      have hI : ((0 ≤ x0 0 ∧ x0 0 ≤ xE E0 35 1) ∧ ∃ p S, pAll (xE E0 36) (x0 0) = .ok (p, S) ∧ xAb0 E S ∧ xGeo0 E (S 0).toNat (S 1).toNat ∧ xJk0 E0 E ∧ xE E 35 1 = 0) ∧ (xE E 35 2 = 0 ∧ xE E 35 3 = -1) := hInv
      obtain ⟨hI, hSm⟩ := hI
      show (xΨfld1S B) x0 E0 E2 (v2 3)
      refine ⟨?_, ?_⟩
      · show (xΨld1 B) x0 E0 E2 (v2 3)
        obtain ⟨i0, pp, S, i1, i2, i3, ij, i4⟩ := hI
        have o1 := xRk_g hRk 0 rfl
        have o2 := xRk_g hRk 1 rfl
        have o1 : E2 0 1 = some (.ref (zad B 1)) := o1
        have o2 : E2 0 2 = some (.ref (zad B 18)) := o2
        have hs := i2.2.1.2.2.1
        unfold xΨld1
        rw [if_pos i0, i1]
        exact ⟨⟨⟨by omega, by omega, o1, o2, xAb0_bg i2 (xFr_mono (by decide) hfr), xGeo0_bg i3 (xFr_mono (by decide) hfr)⟩, by omega⟩, fun i i0 i1 => by have w := ij i i0 i1; rw [e4 i, e5 i]; exact w⟩
      · show ((0 ≤ x0 0 ∧ x0 0 ≤ xE E0 35 1 → ¬ ((v2 3)) = -1 → (xE E2 35 2 = 0 ∧ xE E2 35 3 = -1)) ∧ (¬ (0 ≤ x0 0 ∧ x0 0 ≤ xE E0 35 1) → (xE E2 35 2 = xE E0 35 2 ∧ xE E2 35 3 = xE E0 35 3)))
        omega
