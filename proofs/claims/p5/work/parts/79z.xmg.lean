/-! THE CLASS: append (printed by m15.py) -/
noncomputable def zxfap_ax0 : zyXp := (3, [283, 34359738369, 192], [], [], [], [])
noncomputable def zpfap_a : zyPh := (0, [283, 34359738369, 13], [(0, 4294967295), (0, 4294967295), (0, 4294967295)], [], [])
noncomputable def zxfap_bx0 : zyXp := (28, [283, 34359738369, 68719476737], [137438953473, 103079215105, 291], [(21, 0, 68719476737, 0), (24, 103079215105, 35, 8), (20, 0, 103079215105, 7200), (9, 137438953473, 34359738369, 68719476737)], [(68719476737, 2147483648, 2147483672), (103079215105, 2147483648, 2147484547)], [])
noncomputable def zxfap_bx1 : zyXp := (3, [283, 34359738369, 103079215041], [], [(21, 0, 68719476737, 0), (24, 103079215105, 35, 8), (21, 0, 103079215105, 7200)], [(68719476737, 2147483648, 2147483672), (103079215105, 2147484548, 2147484548), (103079215041, 2147483640, 2147483664)], [])
noncomputable def zxfap_br0 : zyXp := (0, [], [], [(20, 0, 68719476737, 0)], [(68719476737, 2147483640, 2147483647)], [])
noncomputable def zpfap_b : zyPh := (3, [283, 34359738369, 68719476737], [(0, 4294967295), (0, 4294967295), (2147483640, 2147483672)], [], [])
noncomputable def zxfap_cx0 : zyXp := (3, [283, 34359738369, 103079215041], [], [], [(68719476737, 2147483648, 2147483672), (103079215105, 2147483648, 2147484547), (103079215041, 2147483640, 2147483664)], [(573441, 103079215113)])
noncomputable def zpfap_c : zyPh := (30, [283, 34359738369, 68719476737], [(0, 4294967295), (0, 4294967295), (2147483648, 2147483672), (2147483648, 2147484547)], [(573441, 103079215105)], [])
noncomputable def zpfap (i : Nat) : zyPh := zif (Nat.beq i 0) (zpfap_a) (zif (Nat.beq i 1) (zpfap_b) (zpfap_c))
noncomputable def zXfap (i : Nat) : List zyXp := zif (Nat.beq i 0) ([zxfap_ax0]) (zif (Nat.beq i 1) ([zxfap_bx0, zxfap_bx1]) ([zxfap_cx0]))
noncomputable def zRfap (i : Nat) : List zyXp := zif (Nat.beq i 0) ([]) (zif (Nat.beq i 1) ([zxfap_br0]) ([]))
noncomputable def zFfap (i : Nat) : zyR := zif (Nat.beq i 0) ([]) (zif (Nat.beq i 1) ([]) ([(35, 1, 1)]))
noncomputable def zSfap (i : Nat) : Nat := zif (Nat.beq i 0) (0) (zif (Nat.beq i 1) (0) (0))
def xΦfap (_ : Nat → Int) (E : zyEm) : Prop := xE E 35 1 ≤ 896
def xΨfap (x : Nat → Int) (E E2 : zyEm) (_ : Int) : Prop := xE E2 35 1 = xE E 35 1 + 4 ∧ (∀ k, 0 ≤ k → k < 4 → xE E2 36 (xE E 35 1 + k) = fby (x 0) k) ∧ (∀ k, 0 ≤ k → k < xE E 35 1 → xE E2 36 k = xE E 36 k)
noncomputable def fpfap : zyR := [(35, 1, 1), (36, 0, 899)]
theorem zyfap_run : zyrS zymc zxi57 (57, 0, 0, 0, 0) 1 zpfap (fun _ _ => []) zFfap zSfap zXfap zRfap 3 = true := by decide +kernel
theorem zyfap_ck : zyAll (fun i => xsubR (zFfap i) fpfap && ((zXfap i).all xckX && (zRfap i).all (fun x => xckX x && xrtB false x))) 3 = true := by decide +kernel
def xIfap (i : Nat) (x0 : Nat → Int) (E0 : zyEm) (v : Nat → Int) (E : zyEm) : Prop := if i = 0 then (E = E0 ∧ (v 1) = x0 0) else if i = 1 then ((v 1) = x0 0 ∧ (xE E0 35 1 ≤ 896) ∧ ∃ j : Int, (v 2) = 24 - 8 * j ∧ xE E 35 1 = xE E0 35 1 + j ∧ (0 ≤ j ∧ j ≤ 4) ∧ (∀ k, 0 ≤ k → k < j → xE E 36 (xE E0 35 1 + k) = fby (x0 0) k) ∧ (∀ k, 0 ≤ k → k < xE E0 35 1 → xE E 36 k = xE E0 36 k)) else ((v 1) = x0 0 ∧ (xE E0 35 1 ≤ 896) ∧ ∃ j : Int, (v 2) = 24 - 8 * j ∧ j ≤ 3 ∧ xE E 35 1 = xE E0 35 1 + j ∧ (0 ≤ j) ∧ (∀ k, 0 ≤ k → k < j + 1 → xE E 36 (xE E0 35 1 + k) = fby (x0 0) k) ∧ (∀ k, 0 ≤ k → k < xE E0 35 1 → xE E 36 k = xE E0 36 k))
def xMfap (i : Nat) (x0 : Nat → Int) (E0 : zyEm) (v : Nat → Int) (E : zyEm) : Nat := if i = 0 then (1000) else if i = 1 then (2 * (100 + (v 2)).toNat + 1) else (2 * (100 + (v 2)).toNat)
theorem xAp {l : Launch} {en : zEn} {me : zMe} (hen : zG zxMeta 57 = some en) (hme : zG zMeth 57 = some me) : xFc l zymc en me 1 [35] 1 fpfap false xΦfap xΨfap := by
  have een : zG zxMeta 57 = some (zxi57, 2, 3, 5, 57, 0, 0, 0, 0) := rfl
  obtain ⟨me1, hme1, hOK⟩ := zall hen
  rw [hme] at hme1
  cases hme1
  rw [een] at hen
  cases hen
  have hr := zyfap_run
  have hck := fun i hi => zyAll_iff zyfap_ck i hi
  simp only [Bool.and_eq_true] at hck
  intro B
  refine xcut (mi := zymc) (B := B) hOK rfl rfl (ι := Fin 3) (fun i => zpfap i.val) (fun _ _ => []) (fun i => zFfap i.val) (fun i => zSfap i.val) (fun i => zXfap i.val) (fun i => zRfap i.val) (fun i y2 ct en2 me2 h => by cases h) 200000 (fun i => zyAll_iff hr i.val i.isLt) (fun i => (hck i.val i.isLt).1) (fun i => (hck i.val i.isLt).2.1) (fun i => (hck i.val i.isLt).2.2) ⟨0, by decide⟩ ⟨rfl, rfl, rfl, rfl⟩ ⟨by decide, by decide⟩ (fun i x0 E0 v E => xIfap i.val x0 E0 v E) (fun i x0 E0 v E => xMfap i.val x0 E0 v E) ?_ ?_ ?_
  · intro x0 E hx0 hT hΦ
    have hΦ : xΦfap x0 E := hΦ
    refine ⟨fun k p hp => ?_, ?_⟩
    · have hk : k < 3 := (List.getElem?_eq_some_iff.mp hp).1
      have hk : k = 0 ∨ k = 1 ∨ k = 2 := by omega
      rcases hk with rfl | rfl | rfl
      · have hp : some (0, 4294967295) = some p := hp
        cases hp
        show ((0 : Nat) : Int) ≤ 0 + 2147483648 ∧ 0 + 2147483648 ≤ ((4294967295 : Nat) : Int)
        omega
      · have hp : some (0, 4294967295) = some p := hp
        cases hp
        show ((0 : Nat) : Int) ≤ x0 0 + 2147483648 ∧ x0 0 + 2147483648 ≤ ((4294967295 : Nat) : Int)
        have hx := hx0 0
        omega
      · have hp : some (0, 4294967295) = some p := hp
        cases hp
        show ((0 : Nat) : Int) ≤ x0 1 + 2147483648 ∧ x0 1 + 2147483648 ≤ ((4294967295 : Nat) : Int)
        have hx := hx0 1
        omega
    · show E = E ∧ (x0 0) = x0 0
      exact ⟨rfl, rfl⟩
  · intro x0 s Wg hRu hrx hT0 hΦ i v H hT hrv hInv hKc hFr0 hIH x hx ρ2 v2 N2 H2 locs lsB stA hAt hB hv hr2 hXs hag hfr hFr hT2
    rcases i with ⟨i, hi⟩
    have hi2 : i = 0 ∨ i = 1 ∨ i = 2 := by omega
    rcases hi2 with rfl | rfl | rfl
    · have hx : x ∈ [zxfap_ax0] := hx
      have hag : ∀ k, k < 3 → v2 k = v k := hag
      have hfr : xFr [] _ _ := hfr
      have ex := List.mem_singleton.mp hx
      subst ex
      obtain ⟨hF, hBd, hM⟩ := hXs
      have r1 := hr2 1
      have g1 : v2 1 = v 1 := hag 1 (by decide)
      have e35_1 : xE (zyEl zymc B H2) 35 1 = xE (zyEl zymc B H) 35 1 := xFr_E hfr rfl
      have e36 : ∀ i, xE (zyEl zymc B H2) 36 i = xE (zyEl zymc B H) 36 i := fun i => xFr_E hfr rfl
      have y35_1 : ((2147483648 : Nat) : Int) ≤ xE (zyEl zymc B s.heap) 35 1 + 2147483648 ∧ xE (zyEl zymc B s.heap) 35 1 + 2147483648 ≤ ((2147484548 : Nat) : Int) := xTyF hT0 35 1 1 rfl rfl rfl rfl rfl rfl
      have hI : (zyEl zymc B H) = (zyEl zymc B s.heap) ∧ (v 1) = x0 0 := hInv
      have q35_1 : xE (zyEl zymc B H) 35 1 = xE (zyEl zymc B s.heap) 35 1 := by rw [hI.1]
      have q36 : ∀ i, xE (zyEl zymc B H) 36 i = xE (zyEl zymc B s.heap) 36 i := fun i => by rw [hI.1]
      have hP : xE (zyEl zymc B s.heap) 35 1 ≤ 896 := hΦ
      refine xGo hIH hAt hB hv hFr ⟨1, by decide⟩ [0, 34359738369, 192] [0, (v2 1), 24] rfl ⟨by decide +kernel, ⟨rfl, by decide +kernel⟩, (xcs_c rfl (xcs_c rfl (xcs_c rfl xcs_n))), (xe_0 (xe_f (by omega) (xe_c (by omega) (by omega) rfl xe_n))), xkq_n⟩ xst_n ?_ ?_
      · show ((v2 1) : Int) = x0 0 ∧ (xE (zyEl zymc B s.heap) 35 1 ≤ 896) ∧ ∃ j : Int, (24 : Int) = 24 - 8 * j ∧ xE (zyEl zymc B H2) 35 1 = xE (zyEl zymc B s.heap) 35 1 + j ∧ (0 ≤ j ∧ j ≤ 4) ∧ (∀ k, 0 ≤ k → k < j → xE (zyEl zymc B H2) 36 (xE (zyEl zymc B s.heap) 35 1 + k) = fby (x0 0) k) ∧ (∀ k, 0 ≤ k → k < xE (zyEl zymc B s.heap) 35 1 → xE (zyEl zymc B H2) 36 k = xE (zyEl zymc B s.heap) 36 k)
        exact ⟨by omega, by omega, 0, by omega, by omega, by omega, fun k k0 k1 => by omega, fun k k0 k1 => (e36 k).trans (q36 k)⟩
      · show 2 * (100 + (24 : Int)).toNat + 1 < 1000
        omega
    · have hx : x ∈ [zxfap_bx0, zxfap_bx1] := hx
      have hag : ∀ k, k < 3 → v2 k = v k := hag
      have hfr : xFr [] _ _ := hfr
      rcases List.mem_cons.mp hx with ex | hx
      · subst ex
        obtain ⟨hF, hBd, hM⟩ := hXs
        have r1 := hr2 1
        have r4 := hr2 4
        have g1 : v2 1 = v 1 := hag 1 (by decide)
        have g2 : v2 2 = v 2 := hag 2 (by decide)
        have b0 : ((2147483648 : Nat) : Int) ≤ (v2 2) + 2147483648 ∧ (v2 2) + 2147483648 ≤ ((2147483672 : Nat) : Int) := xXb hBd 0 rfl
        have b1 : ((2147483648 : Nat) : Int) ≤ (v2 3) + 2147483648 ∧ (v2 3) + 2147483648 ≤ ((2147484547 : Nat) : Int) := xXb hBd 1 rfl
        have f0 : 0 ≤ (v2 2) := xXf hF 0 rfl
        have f1 : (0 : Int) ≤ 1 ∧ xE (zyEl zymc B H) 35 1 = (v2 3) := xXf hF 1 rfl
        have f2 : (v2 3) < 900 := xXf hF 2 rfl
        have f3 : (v2 4) = xop 9 (v2 1) (v2 2) := xXf hF 3 rfl
        have e35_1 : xE (zyEl zymc B H2) 35 1 = xE (zyEl zymc B H) 35 1 := xFr_E hfr rfl
        have e36 : ∀ i, xE (zyEl zymc B H2) 36 i = xE (zyEl zymc B H) 36 i := fun i => xFr_E hfr rfl
        have y35_1 : ((2147483648 : Nat) : Int) ≤ xE (zyEl zymc B s.heap) 35 1 + 2147483648 ∧ xE (zyEl zymc B s.heap) 35 1 + 2147483648 ≤ ((2147484548 : Nat) : Int) := xTyF hT0 35 1 1 rfl rfl rfl rfl rfl rfl
        have hI : (v 1) = x0 0 ∧ (xE (zyEl zymc B s.heap) 35 1 ≤ 896) ∧ ∃ j : Int, (v 2) = 24 - 8 * j ∧ xE (zyEl zymc B H) 35 1 = xE (zyEl zymc B s.heap) 35 1 + j ∧ (0 ≤ j ∧ j ≤ 4) ∧ (∀ k, 0 ≤ k → k < j → xE (zyEl zymc B H) 36 (xE (zyEl zymc B s.heap) 35 1 + k) = fby (x0 0) k) ∧ (∀ k, 0 ≤ k → k < xE (zyEl zymc B s.heap) 35 1 → xE (zyEl zymc B H) 36 k = xE (zyEl zymc B s.heap) 36 k) := hInv
        obtain ⟨i0, i1, j, i2, i3, i4, i5, i6⟩ := hI
        refine xSb hRu hIH hAt hB hv hFr 36 (ax := 0) (ax2 := 0) 137438953473 103079215105 (v2 4) (v2 3) rfl rfl rfl rfl rfl (by decide +kernel) rfl rfl (by omega) (by show (v2 3) < ((900 : Nat) : Int); omega) (fun r hr q1 q2 => by rw [List.mem_singleton.mp hr]; exact ⟨rfl, by show ((2147483520 : Nat) : Int) ≤ -128 + 2147483648; omega, by show (127 : Int) + 2147483648 ≤ ((2147483775 : Nat) : Int); omega⟩) (zyin_iff.mpr ⟨(36, 0, 899), by decide, rfl, Nat.zero_le _, by show Int.toNat (v2 3) ≤ 899; omega⟩) (fun H3 hT3 hst3 hne3 hfn3 hFr3 => ?_)
        have hfe3 : ∀ (a2 : Nat) (k2 : Int), ¬ a2 = 36 → xE (zyEl zymc B H3) a2 k2 = xE (zyEl zymc B H2) a2 k2 := fun a2 k2 hne => by unfold xE; rw [hfn3 a2 k2.toNat (fun z => hne z.1)]
        have d35_1 : xE (zyEl zymc B H3) 35 1 = xE (zyEl zymc B H2) 35 1 := hfe3 35 1 (fun z => absurd z (by decide))
        have z35_1 : ((2147483648 : Nat) : Int) ≤ xE (zyEl zymc B H3) 35 1 + 2147483648 ∧ xE (zyEl zymc B H3) 35 1 + 2147483648 ≤ ((2147484548 : Nat) : Int) := xTyF hT3 35 1 1 rfl rfl rfl rfl rfl rfl
        refine ⟨⟨2, by decide⟩, [0, 34359738369, 68719476737], [0, (v2 1), (v2 2), xE (zyEl zymc B H3) 35 1], rfl, ⟨by decide +kernel, ⟨rfl, by decide +kernel⟩, (xcs_c rfl (xcs_c rfl (xcs_c rfl xcs_n))), (xe_0 (xe_f (by omega) (xe_c (by omega) (by omega) rfl (xe_c (by omega) (by omega) rfl xe_n)))), (xkq_c hT3 35 1 (q := 1) rfl rfl rfl rfl rfl rfl rfl rfl rfl rfl rfl xkq_n)⟩, rfl, ?_, ?_⟩
        · show ((v2 1) : Int) = x0 0 ∧ (xE (zyEl zymc B s.heap) 35 1 ≤ 896) ∧ ∃ j : Int, ((v2 2) : Int) = 24 - 8 * j ∧ j ≤ 3 ∧ xE (zyEl zymc B H3) 35 1 = xE (zyEl zymc B s.heap) 35 1 + j ∧ (0 ≤ j) ∧ (∀ k, 0 ≤ k → k < j + 1 → xE (zyEl zymc B H3) 36 (xE (zyEl zymc B s.heap) 35 1 + k) = fby (x0 0) k) ∧ (∀ k, 0 ≤ k → k < xE (zyEl zymc B s.heap) 35 1 → xE (zyEl zymc B H3) 36 k = xE (zyEl zymc B s.heap) 36 k)
          refine ⟨by omega, by omega, j, by omega, by omega, by omega, by omega, fun k k0 k1 => ?_, fun k k0 k1 => ?_⟩
          · by_cases e : k = j
            · rw [e, show xE (zyEl zymc B s.heap) 35 1 + j = (v2 3) by omega, hst3]
              unfold fby
              rw [f3]
              congr 2 <;> omega
            · rw [hne3 36 _ (by omega) (fun z => e (by have := z.2; omega)), e36 _]
              exact i5 k k0 (by omega)
          · rw [hne3 36 _ k0 (fun z => by have := z.2; omega), e36 _]
            exact i6 k k0 k1
        · show 2 * (100 + ((v2 2) : Int)).toNat < 2 * (100 + (v 2)).toNat + 1
          omega
      · skip
        have ex := List.mem_singleton.mp hx
        subst ex
        obtain ⟨hF, hBd, hM⟩ := hXs
        have r1 := hr2 1
        have g1 : v2 1 = v 1 := hag 1 (by decide)
        have g2 : v2 2 = v 2 := hag 2 (by decide)
        have b0 : ((2147483648 : Nat) : Int) ≤ (v2 2) + 2147483648 ∧ (v2 2) + 2147483648 ≤ ((2147483672 : Nat) : Int) := xXb hBd 0 rfl
        have b1 : ((2147484548 : Nat) : Int) ≤ (v2 3) + 2147483648 ∧ (v2 3) + 2147483648 ≤ ((2147484548 : Nat) : Int) := xXb hBd 1 rfl
        have b2 : ((2147483640 : Nat) : Int) ≤ (v2 2 + (-8)) + 2147483648 ∧ (v2 2 + (-8)) + 2147483648 ≤ ((2147483664 : Nat) : Int) := xXb hBd 2 rfl
        have f0 : 0 ≤ (v2 2) := xXf hF 0 rfl
        have f1 : (0 : Int) ≤ 1 ∧ xE (zyEl zymc B H) 35 1 = (v2 3) := xXf hF 1 rfl
        have f2 : 900 ≤ (v2 3) := xXf hF 2 rfl
        have e35_1 : xE (zyEl zymc B H2) 35 1 = xE (zyEl zymc B H) 35 1 := xFr_E hfr rfl
        have e36 : ∀ i, xE (zyEl zymc B H2) 36 i = xE (zyEl zymc B H) 36 i := fun i => xFr_E hfr rfl
        have y35_1 : ((2147483648 : Nat) : Int) ≤ xE (zyEl zymc B s.heap) 35 1 + 2147483648 ∧ xE (zyEl zymc B s.heap) 35 1 + 2147483648 ≤ ((2147484548 : Nat) : Int) := xTyF hT0 35 1 1 rfl rfl rfl rfl rfl rfl
        have hI : (v 1) = x0 0 ∧ (xE (zyEl zymc B s.heap) 35 1 ≤ 896) ∧ ∃ j : Int, (v 2) = 24 - 8 * j ∧ xE (zyEl zymc B H) 35 1 = xE (zyEl zymc B s.heap) 35 1 + j ∧ (0 ≤ j ∧ j ≤ 4) ∧ (∀ k, 0 ≤ k → k < j → xE (zyEl zymc B H) 36 (xE (zyEl zymc B s.heap) 35 1 + k) = fby (x0 0) k) ∧ (∀ k, 0 ≤ k → k < xE (zyEl zymc B s.heap) 35 1 → xE (zyEl zymc B H) 36 k = xE (zyEl zymc B s.heap) 36 k) := hInv
        obtain ⟨i0, i1, j, i2, i3, i4, i5, i6⟩ := hI
        exfalso
        omega
    · have hx : x ∈ [zxfap_cx0] := hx
      have hag : ∀ k, k < 4 → v2 k = v k := hag
      have hfr : xFr [(35, 1, 1)] _ _ := hfr
      have ex := List.mem_singleton.mp hx
      subst ex
      obtain ⟨hF, hBd, hM⟩ := hXs
      have r1 := hr2 1
      have g1 : v2 1 = v 1 := hag 1 (by decide)
      have g2 : v2 2 = v 2 := hag 2 (by decide)
      have g3 : v2 3 = v 3 := hag 3 (by decide)
      have b0 : ((2147483648 : Nat) : Int) ≤ (v2 2) + 2147483648 ∧ (v2 2) + 2147483648 ≤ ((2147483672 : Nat) : Int) := xXb hBd 0 rfl
      have b1 : ((2147483648 : Nat) : Int) ≤ (v2 3) + 2147483648 ∧ (v2 3) + 2147483648 ≤ ((2147484547 : Nat) : Int) := xXb hBd 1 rfl
      have b2 : ((2147483640 : Nat) : Int) ≤ (v2 2 + (-8)) + 2147483648 ∧ (v2 2 + (-8)) + 2147483648 ≤ ((2147483664 : Nat) : Int) := xXb hBd 2 rfl
      have k0 : xE (zyEl zymc B H) 35 1 = v 3 := xKcf hKc 0 rfl rfl
      have m0 : xE (zyEl zymc B H2) 35 1 = (v2 3 + 1) := xXm hM 0 rfl
      have e36 : ∀ i, xE (zyEl zymc B H2) 36 i = xE (zyEl zymc B H) 36 i := fun i => xFr_E hfr rfl
      have y35_1 : ((2147483648 : Nat) : Int) ≤ xE (zyEl zymc B s.heap) 35 1 + 2147483648 ∧ xE (zyEl zymc B s.heap) 35 1 + 2147483648 ≤ ((2147484548 : Nat) : Int) := xTyF hT0 35 1 1 rfl rfl rfl rfl rfl rfl
      have hI : (v 1) = x0 0 ∧ (xE (zyEl zymc B s.heap) 35 1 ≤ 896) ∧ ∃ j : Int, (v 2) = 24 - 8 * j ∧ j ≤ 3 ∧ xE (zyEl zymc B H) 35 1 = xE (zyEl zymc B s.heap) 35 1 + j ∧ (0 ≤ j) ∧ (∀ k, 0 ≤ k → k < j + 1 → xE (zyEl zymc B H) 36 (xE (zyEl zymc B s.heap) 35 1 + k) = fby (x0 0) k) ∧ (∀ k, 0 ≤ k → k < xE (zyEl zymc B s.heap) 35 1 → xE (zyEl zymc B H) 36 k = xE (zyEl zymc B s.heap) 36 k) := hInv
      obtain ⟨i0, i1, j, i2, i3, i4, i5, i6, i7⟩ := hI
      refine xGo hIH hAt hB hv hFr ⟨1, by decide⟩ [0, 34359738369, 103079215041] [0, (v2 1), (v2 2 + (-8))] rfl ⟨by decide +kernel, ⟨rfl, by decide +kernel⟩, (xcs_c rfl (xcs_c rfl (xcs_c rfl xcs_n))), (xe_0 (xe_f (by omega) (xe_c (by omega) (by omega) rfl xe_n))), xkq_n⟩ xst_n ?_ ?_
      · show ((v2 1) : Int) = x0 0 ∧ (xE (zyEl zymc B s.heap) 35 1 ≤ 896) ∧ ∃ j : Int, ((v2 2 + (-8)) : Int) = 24 - 8 * j ∧ xE (zyEl zymc B H2) 35 1 = xE (zyEl zymc B s.heap) 35 1 + j ∧ (0 ≤ j ∧ j ≤ 4) ∧ (∀ k, 0 ≤ k → k < j → xE (zyEl zymc B H2) 36 (xE (zyEl zymc B s.heap) 35 1 + k) = fby (x0 0) k) ∧ (∀ k, 0 ≤ k → k < xE (zyEl zymc B s.heap) 35 1 → xE (zyEl zymc B H2) 36 k = xE (zyEl zymc B s.heap) 36 k)
        exact ⟨by omega, by omega, j + 1, by omega, by omega, by omega, fun k k0 k1 => (e36 _).trans (i6 k k0 k1), fun k k0 k1 => (e36 k).trans (i7 k k0 k1)⟩
      · show 2 * (100 + ((v2 2 + (-8)) : Int)).toNat + 1 < 2 * (100 + (v 2)).toNat
        omega
  · intro x0 E0 E E2 hrx hT0 hΦ i v hT hrv hInv hKc hFr0 x hx v2 hr2 hXs hag hfr hFr hT2
    rcases i with ⟨i, hi⟩
    have hi2 : i = 0 ∨ i = 1 ∨ i = 2 := by omega
    rcases hi2 with rfl | rfl | rfl
    · cases hx
    · have hx : x ∈ [zxfap_br0] := hx
      have hag : ∀ k, k < 3 → v2 k = v k := hag
      have hfr : xFr [] _ _ := hfr
      have ex := List.mem_singleton.mp hx
      subst ex
      obtain ⟨hF, hBd, hM⟩ := hXs
      have g1 : v2 1 = v 1 := hag 1 (by decide)
      have g2 : v2 2 = v 2 := hag 2 (by decide)
      have b0 : ((2147483640 : Nat) : Int) ≤ (v2 2) + 2147483648 ∧ (v2 2) + 2147483648 ≤ ((2147483647 : Nat) : Int) := xXb hBd 0 rfl
      have f0 : (v2 2) < 0 := xXf hF 0 rfl
      have e35_1 : xE E2 35 1 = xE E 35 1 := xFr_E hfr rfl
      have e36 : ∀ i, xE E2 36 i = xE E 36 i := fun i => xFr_E hfr rfl
      have y35_1 : ((2147483648 : Nat) : Int) ≤ xE E0 35 1 + 2147483648 ∧ xE E0 35 1 + 2147483648 ≤ ((2147484548 : Nat) : Int) := xTyF hT0 35 1 1 rfl rfl rfl rfl rfl rfl
      have hI : (v 1) = x0 0 ∧ (xE E0 35 1 ≤ 896) ∧ ∃ j : Int, (v 2) = 24 - 8 * j ∧ xE E 35 1 = xE E0 35 1 + j ∧ (0 ≤ j ∧ j ≤ 4) ∧ (∀ k, 0 ≤ k → k < j → xE E 36 (xE E0 35 1 + k) = fby (x0 0) k) ∧ (∀ k, 0 ≤ k → k < xE E0 35 1 → xE E 36 k = xE E0 36 k) := hInv
      show xΨfap x0 E0 E2 0
      obtain ⟨i0, i1, j, i2, i3, i4, i5, i6⟩ := hI
      have hj : j = 4 := by omega
      subst hj
      exact ⟨by omega, fun k k0 k1 => (e36 _).trans (i5 k k0 k1), fun k k0 k1 => (e36 k).trans (i6 k k0 k1)⟩
    · cases hx
