/-! THE CLASS: bit, faces, program, stick (printed by m32.py) -/
noncomputable def zxfcbt1_zx0 : zyXp := (0, [3, 34359738369, 68719476737], [], [], [], [])
noncomputable def zpfcbt1_z : zyPh := (0, [3, 34359738369, 68719476737], [(0, 4294967295), (0, 4294967295), (0, 4294967295)], [], [])
noncomputable def zxfcbt1_ar0 : zyXp := (0, [], [34359738360], [(20, 0, 68719476737, 0)], [(68719476737, 0, 2147483647)], [])
noncomputable def zxfcbt1_ar1 : zyXp := (0, [], [34359738360], [(21, 0, 68719476737, 0), (20, 0, 34359738369, 0)], [(34359738369, 0, 2147483647), (68719476737, 2147483648, 4294967295)], [])
noncomputable def zxfcbt1_ar2 : zyXp := (0, [], [240518168577], [(21, 0, 68719476737, 0), (21, 0, 34359738369, 0), (24, 103079215105, 2, 24), (20, 0, 34359738369, 103079215105), (24, 137438953473, 11, 34359738369), (20, 0, 68719476737, 137438953473), (24, 171798691841, 10, 34359738369), (9, 206158430209, 171798691841, 68719476737), (4, 240518168577, 206158430209, 8)], [(34359738369, 2147483648, 2147483678), (68719476737, 2147483648, 2147483651), (103079215105, 2147483649, 2147483679), (137438953473, 2147483649, 2147483652), (171798691841, 2147483648, 4294967295), (206158430209, 2147483648, 4294967295), (240518168577, 2147483648, 2147483649)], [])
noncomputable def zxfcbt1_ar3 : zyXp := (0, [], [34359738360], [(21, 0, 68719476737, 0), (21, 0, 34359738369, 0), (24, 103079215105, 2, 24), (20, 0, 34359738369, 103079215105), (24, 137438953473, 11, 34359738369), (21, 0, 68719476737, 137438953473)], [(34359738369, 2147483648, 2147483678), (68719476737, 2147483648, 4294967295), (103079215105, 2147483649, 2147483679), (137438953473, 2147483648, 2147483652)], [])
noncomputable def zxfcbt1_ar4 : zyXp := (0, [], [34359738360], [(21, 0, 68719476737, 0), (21, 0, 34359738369, 0), (24, 103079215105, 2, 24), (21, 0, 34359738369, 103079215105)], [(34359738369, 2147483648, 4294967295), (68719476737, 2147483648, 4294967295), (103079215105, 2147483648, 2147483679)], [])
noncomputable def zpfcbt1_a : zyPh := (0, [3, 34359738369, 68719476737], [(0, 4294967295), (0, 4294967295), (0, 4294967295)], [(1, 11)], [])
noncomputable def zpfcbt1 (i : Nat) : zyPh := zif (Nat.beq i 0) (zpfcbt1_z) (zpfcbt1_a)
noncomputable def zXfcbt1 (i : Nat) : List zyXp := zif (Nat.beq i 0) ([zxfcbt1_zx0]) ([])
noncomputable def zRfcbt1 (i : Nat) : List zyXp := zif (Nat.beq i 0) ([]) ([zxfcbt1_ar0, zxfcbt1_ar1, zxfcbt1_ar2, zxfcbt1_ar3, zxfcbt1_ar4])
noncomputable def zFfcbt1 (i : Nat) : zyR := zif (Nat.beq i 0) ([]) ([(0, 0, 0)])
noncomputable def zSfcbt1 (i : Nat) : Nat := zif (Nat.beq i 0) (0) (0)
def xΦpl1 (B : zCx) (_ : Nat → Int) (E : zyEm) : Prop := E 0 1 = some (.ref (zad B 1))
def xΨcbt1 (x : Nat → Int) (E _ : zyEm) (r : Int) : Prop := r = if 0 ≤ x 1 ∧ (0 ≤ x 0 ∧ x 0 < xE E 2 3) ∧ x 1 < xE E 11 (x 0) then xop 4 (xop 9 (xE E 10 (x 0)) (x 1)) 1 else -1
noncomputable def fpfcbt1 : zyR := [(0, 0, 0)]
theorem zyfcbt1_run : zyrS zymc zxi125 (125, 0, 0, 1, 0) 4 zpfcbt1 (fun _ _ => []) zFfcbt1 zSfcbt1 zXfcbt1 zRfcbt1 2 = true := by decide +kernel
theorem zyfcbt1_ck : zyAll (fun i => xsubR (zFfcbt1 i) fpfcbt1 && ((zXfcbt1 i).all xckX && (zRfcbt1 i).all (fun x => xckX x && xrtB true x))) 2 = true := by decide +kernel
def xIfcbt1 (i : Nat) (x0 : Nat → Int) (E0 : zyEm) (v : Nat → Int) (E : zyEm) : Prop := if i = 0 then (E = E0 ∧ (v 1) = x0 0 ∧ (v 2) = x0 1) else (E = E0 ∧ (v 1) = x0 0 ∧ (v 2) = x0 1)
def xMfcbt1 (i : Nat) (x0 : Nat → Int) (E0 : zyEm) (v : Nat → Int) (E : zyEm) : Nat := if i = 0 then (2) else (1)
theorem xCbt1 {l : Launch} {en : zEn} {me : zMe} (hen : zG zxMeta 125 = some en) (hme : zG zMeth 125 = some me) : ∀ B, xFcB l zymc B en me 4 [0] 2 fpfcbt1 true (xΦpl1 B) xΨcbt1 := by
  have een : zG zxMeta 125 = some (zxi125, 3, 3, 10, 125, 0, 0, 1, 0) := rfl
  obtain ⟨me1, hme1, hOK⟩ := zall hen
  rw [hme] at hme1
  cases hme1
  rw [een] at hen
  cases hen
  have hr := zyfcbt1_run
  have hck := fun i hi => zyAll_iff zyfcbt1_ck i hi
  simp only [Bool.and_eq_true] at hck
  intro B
  refine xcut (mi := zymc) (B := B) hOK rfl rfl (ι := Fin 2) (fun i => zpfcbt1 i.val) (fun _ _ => []) (fun i => zFfcbt1 i.val) (fun i => zSfcbt1 i.val) (fun i => zXfcbt1 i.val) (fun i => zRfcbt1 i.val) (fun i y2 ct en2 me2 h => by cases h) 200000 (fun i => zyAll_iff hr i.val i.isLt) (fun i => (hck i.val i.isLt).1) (fun i => (hck i.val i.isLt).2.1) (fun i => (hck i.val i.isLt).2.2) ⟨0, by decide⟩ ⟨rfl, rfl, rfl, rfl⟩ ⟨by decide, by decide⟩ (fun i x0 E0 v E => xIfcbt1 i.val x0 E0 v E) (fun i x0 E0 v E => xMfcbt1 i.val x0 E0 v E) ?_ ?_ ?_
  · intro x0 E hx0 hT hΦ
    have hΦ : (xΦpl1 B) x0 E := hΦ
    refine ⟨fun k p hp => ?_, ?_⟩
    · have hk : k < 3 := (List.getElem?_eq_some_iff.mp hp).1
      have hk : k = 0 ∨ k = 1 ∨ k = 2 := by omega
      rcases hk with rfl | rfl | rfl
      · have hp : some (0, 4294967295) = some p := hp
        cases hp
        show ((0 : Nat) : Int) ≤ 0 + 2147483648 ∧ 0 + 2147483648 ≤ ((4294967295 : Nat) : Int)
        omega
      · have hp : some (0, 4294967295) = some p := hp
        cases hp
        show ((0 : Nat) : Int) ≤ x0 0 + 2147483648 ∧ x0 0 + 2147483648 ≤ ((4294967295 : Nat) : Int)
        have hx := hx0 0
        omega
      · have hp : some (0, 4294967295) = some p := hp
        cases hp
        show ((0 : Nat) : Int) ≤ x0 1 + 2147483648 ∧ x0 1 + 2147483648 ≤ ((4294967295 : Nat) : Int)
        have hx := hx0 1
        omega
    · show E = E ∧ (x0 0) = x0 0 ∧ (x0 1) = x0 1
      exact ⟨rfl, rfl, rfl⟩
  · intro x0 s Wg hRu hrx hT0 hΦ i v H hT hrv hInv hKc hFr0 hIH x hx ρ2 v2 N2 H2 locs lsB stA hAt hB hv hr2 hXs hag hfr hFr hT2
    rcases i with ⟨i, hi⟩
    have hi2 : i = 0 ∨ i = 1 := by omega
    rcases hi2 with rfl | rfl
    · have hx : x ∈ [zxfcbt1_zx0] := hx
      have hag : ∀ k, k < 3 → v2 k = v k := hag
      have hfr : xFr [] _ _ := hfr
      have ex := List.mem_singleton.mp hx
      subst ex
      obtain ⟨hF, hBd, hM⟩ := hXs
      have r1 := hr2 1
      have r2 := hr2 2
      have g1 : v2 1 = v 1 := hag 1 (by decide)
      have g2 : v2 2 = v 2 := hag 2 (by decide)
      have e2_3 : xE (zyEl zymc B H2) 2 3 = xE (zyEl zymc B H) 2 3 := xFr_E hfr rfl
      have q2_3 : xE (zyEl zymc B H) 2 3 = xE (zyEl zymc B s.heap) 2 3 := xFr_E hFr0 rfl
      have e11 : ∀ i, xE (zyEl zymc B H2) 11 i = xE (zyEl zymc B H) 11 i := fun i => xFr_E hfr rfl
      have q11 : ∀ i, xE (zyEl zymc B H) 11 i = xE (zyEl zymc B s.heap) 11 i := fun i => xFr_E hFr0 rfl
      have e10 : ∀ i, xE (zyEl zymc B H2) 10 i = xE (zyEl zymc B H) 10 i := fun i => xFr_E hfr rfl
      have q10 : ∀ i, xE (zyEl zymc B H) 10 i = xE (zyEl zymc B s.heap) 10 i := fun i => xFr_E hFr0 rfl
      have hI : (zyEl zymc B H) = (zyEl zymc B s.heap) ∧ (v 1) = x0 0 ∧ (v 2) = x0 1 := hInv
      obtain ⟨hE, i1, i2⟩ := hI
      refine xGo hIH hAt hB hv hFr ⟨1, by decide⟩ [0, 34359738369, 68719476737] [0, (v2 1), (v2 2)] rfl ⟨by decide +kernel, ⟨rfl, by decide +kernel⟩, (xcs_c rfl (xcs_c rfl (xcs_c rfl xcs_n))), (xe_0 (xe_f (by omega) (xe_f (by omega) xe_n))), (xkq_r 0 1 1 rfl rfl rfl rfl rfl (by rw [xFr_n hfr, hE]; exact hΦ) xkq_n)⟩ xst_n ?_ ?_
      · show (zyEl zymc B H2) = (zyEl zymc B s.heap) ∧ ((v2 1) : Int) = x0 0 ∧ ((v2 2) : Int) = x0 1
        exact ⟨(xFr_n hfr).trans hE, by omega, by omega⟩
      · show 1 < 2
        omega
    · cases hx
  · intro x0 E0 E E2 hrx hT0 hΦ i v hT hrv hInv hKc hFr0 x hx v2 hr2 hXs hag hfr hFr hT2
    rcases i with ⟨i, hi⟩
    have hi2 : i = 0 ∨ i = 1 := by omega
    rcases hi2 with rfl | rfl
    · cases hx
    · have hx : x ∈ [zxfcbt1_ar0, zxfcbt1_ar1, zxfcbt1_ar2, zxfcbt1_ar3, zxfcbt1_ar4] := hx
      have hag : ∀ k, k < 3 → v2 k = v k := hag
      have hfr : xFr [(0, 0, 0)] _ _ := hfr
      rcases List.mem_cons.mp hx with ex | hx
      · subst ex
        obtain ⟨hF, hBd, hM⟩ := hXs
        have g1 : v2 1 = v 1 := hag 1 (by decide)
        have g2 : v2 2 = v 2 := hag 2 (by decide)
        have b0 : ((0 : Nat) : Int) ≤ (v2 2) + 2147483648 ∧ (v2 2) + 2147483648 ≤ ((2147483647 : Nat) : Int) := xXb hBd 0 rfl
        have f0 : (v2 2) < 0 := xXf hF 0 rfl
        have e2_3 : xE E2 2 3 = xE E 2 3 := xFr_E hfr rfl
        have q2_3 : xE E 2 3 = xE E0 2 3 := xFr_E hFr0 rfl
        have e11 : ∀ i, xE E2 11 i = xE E 11 i := fun i => xFr_E hfr rfl
        have q11 : ∀ i, xE E 11 i = xE E0 11 i := fun i => xFr_E hFr0 rfl
        have e10 : ∀ i, xE E2 10 i = xE E 10 i := fun i => xFr_E hfr rfl
        have q10 : ∀ i, xE E 10 i = xE E0 10 i := fun i => xFr_E hFr0 rfl
        have hI : E = E0 ∧ (v 1) = x0 0 ∧ (v 2) = x0 1 := hInv
        show xΨcbt1 x0 E0 E2 (-1)
        obtain ⟨hE, i1, i2⟩ := hI
        have hSW := q2_3
        unfold xΨcbt1
        rw [if_neg]
        rintro ⟨y1, ⟨y2, y3⟩, y4⟩
        omega
      · skip
        rcases List.mem_cons.mp hx with ex | hx
        · subst ex
          obtain ⟨hF, hBd, hM⟩ := hXs
          have g1 : v2 1 = v 1 := hag 1 (by decide)
          have g2 : v2 2 = v 2 := hag 2 (by decide)
          have b0 : ((0 : Nat) : Int) ≤ (v2 1) + 2147483648 ∧ (v2 1) + 2147483648 ≤ ((2147483647 : Nat) : Int) := xXb hBd 0 rfl
          have b1 : ((2147483648 : Nat) : Int) ≤ (v2 2) + 2147483648 ∧ (v2 2) + 2147483648 ≤ ((4294967295 : Nat) : Int) := xXb hBd 1 rfl
          have f0 : 0 ≤ (v2 2) := xXf hF 0 rfl
          have f1 : (v2 1) < 0 := xXf hF 1 rfl
          have e2_3 : xE E2 2 3 = xE E 2 3 := xFr_E hfr rfl
          have q2_3 : xE E 2 3 = xE E0 2 3 := xFr_E hFr0 rfl
          have e11 : ∀ i, xE E2 11 i = xE E 11 i := fun i => xFr_E hfr rfl
          have q11 : ∀ i, xE E 11 i = xE E0 11 i := fun i => xFr_E hFr0 rfl
          have e10 : ∀ i, xE E2 10 i = xE E 10 i := fun i => xFr_E hfr rfl
          have q10 : ∀ i, xE E 10 i = xE E0 10 i := fun i => xFr_E hFr0 rfl
          have hI : E = E0 ∧ (v 1) = x0 0 ∧ (v 2) = x0 1 := hInv
          show xΨcbt1 x0 E0 E2 (-1)
          obtain ⟨hE, i1, i2⟩ := hI
          have hSW := q2_3
          unfold xΨcbt1
          rw [if_neg]
          rintro ⟨y1, ⟨y2, y3⟩, y4⟩
          omega
        · skip
          rcases List.mem_cons.mp hx with ex | hx
          · subst ex
            obtain ⟨hF, hBd, hM⟩ := hXs
            have g1 : v2 1 = v 1 := hag 1 (by decide)
            have g2 : v2 2 = v 2 := hag 2 (by decide)
            have b0 : ((2147483648 : Nat) : Int) ≤ (v2 1) + 2147483648 ∧ (v2 1) + 2147483648 ≤ ((2147483678 : Nat) : Int) := xXb hBd 0 rfl
            have b1 : ((2147483648 : Nat) : Int) ≤ (v2 2) + 2147483648 ∧ (v2 2) + 2147483648 ≤ ((2147483651 : Nat) : Int) := xXb hBd 1 rfl
            have b2 : ((2147483649 : Nat) : Int) ≤ (v2 3) + 2147483648 ∧ (v2 3) + 2147483648 ≤ ((2147483679 : Nat) : Int) := xXb hBd 2 rfl
            have b3 : ((2147483649 : Nat) : Int) ≤ (v2 4) + 2147483648 ∧ (v2 4) + 2147483648 ≤ ((2147483652 : Nat) : Int) := xXb hBd 3 rfl
            have b4 : ((2147483648 : Nat) : Int) ≤ (v2 5) + 2147483648 ∧ (v2 5) + 2147483648 ≤ ((4294967295 : Nat) : Int) := xXb hBd 4 rfl
            have b5 : ((2147483648 : Nat) : Int) ≤ (v2 6) + 2147483648 ∧ (v2 6) + 2147483648 ≤ ((4294967295 : Nat) : Int) := xXb hBd 5 rfl
            have b6 : ((2147483648 : Nat) : Int) ≤ (v2 7) + 2147483648 ∧ (v2 7) + 2147483648 ≤ ((2147483649 : Nat) : Int) := xXb hBd 6 rfl
            have f0 : 0 ≤ (v2 2) := xXf hF 0 rfl
            have f1 : 0 ≤ (v2 1) := xXf hF 1 rfl
            have f2 : (0 : Int) ≤ 3 ∧ xE E 2 3 = (v2 3) := xXf hF 2 rfl
            have f3 : (v2 1) < (v2 3) := xXf hF 3 rfl
            have f4 : (0 : Int) ≤ (v2 1) ∧ xE E 11 (v2 1) = (v2 4) := xXf hF 4 rfl
            have f5 : (v2 2) < (v2 4) := xXf hF 5 rfl
            have f6 : (0 : Int) ≤ (v2 1) ∧ xE E 10 (v2 1) = (v2 5) := xXf hF 6 rfl
            have f7 : (v2 6) = xop 9 (v2 5) (v2 2) := xXf hF 7 rfl
            have f8 : (v2 7) = xop 4 (v2 6) 1 := xXf hF 8 rfl
            have e2_3 : xE E2 2 3 = xE E 2 3 := xFr_E hfr rfl
            have q2_3 : xE E 2 3 = xE E0 2 3 := xFr_E hFr0 rfl
            have e11 : ∀ i, xE E2 11 i = xE E 11 i := fun i => xFr_E hfr rfl
            have q11 : ∀ i, xE E 11 i = xE E0 11 i := fun i => xFr_E hFr0 rfl
            have e10 : ∀ i, xE E2 10 i = xE E 10 i := fun i => xFr_E hfr rfl
            have q10 : ∀ i, xE E 10 i = xE E0 10 i := fun i => xFr_E hFr0 rfl
            have hI : E = E0 ∧ (v 1) = x0 0 ∧ (v 2) = x0 1 := hInv
            show xΨcbt1 x0 E0 E2 (v2 7)
            obtain ⟨hE, i1, i2⟩ := hI
            have hSW := q2_3
            have c4 : xE E0 11 ((v2 1)) = (v2 4) := (q11 _).symm.trans f4.2
            rw [show (v2 1) = x0 0 by omega] at c4
            have c6 : xE E0 10 ((v2 1)) = (v2 5) := (q10 _).symm.trans f6.2
            rw [show (v2 1) = x0 0 by omega] at c6
            unfold xΨcbt1
            rw [if_pos ⟨by omega, ⟨by omega, by omega⟩, by omega⟩, c6, f8, f7, show (v2 2) = x0 1 by omega]
          · skip
            rcases List.mem_cons.mp hx with ex | hx
            · subst ex
              obtain ⟨hF, hBd, hM⟩ := hXs
              have g1 : v2 1 = v 1 := hag 1 (by decide)
              have g2 : v2 2 = v 2 := hag 2 (by decide)
              have b0 : ((2147483648 : Nat) : Int) ≤ (v2 1) + 2147483648 ∧ (v2 1) + 2147483648 ≤ ((2147483678 : Nat) : Int) := xXb hBd 0 rfl
              have b1 : ((2147483648 : Nat) : Int) ≤ (v2 2) + 2147483648 ∧ (v2 2) + 2147483648 ≤ ((4294967295 : Nat) : Int) := xXb hBd 1 rfl
              have b2 : ((2147483649 : Nat) : Int) ≤ (v2 3) + 2147483648 ∧ (v2 3) + 2147483648 ≤ ((2147483679 : Nat) : Int) := xXb hBd 2 rfl
              have b3 : ((2147483648 : Nat) : Int) ≤ (v2 4) + 2147483648 ∧ (v2 4) + 2147483648 ≤ ((2147483652 : Nat) : Int) := xXb hBd 3 rfl
              have f0 : 0 ≤ (v2 2) := xXf hF 0 rfl
              have f1 : 0 ≤ (v2 1) := xXf hF 1 rfl
              have f2 : (0 : Int) ≤ 3 ∧ xE E 2 3 = (v2 3) := xXf hF 2 rfl
              have f3 : (v2 1) < (v2 3) := xXf hF 3 rfl
              have f4 : (0 : Int) ≤ (v2 1) ∧ xE E 11 (v2 1) = (v2 4) := xXf hF 4 rfl
              have f5 : (v2 4) ≤ (v2 2) := xXf hF 5 rfl
              have e2_3 : xE E2 2 3 = xE E 2 3 := xFr_E hfr rfl
              have q2_3 : xE E 2 3 = xE E0 2 3 := xFr_E hFr0 rfl
              have e11 : ∀ i, xE E2 11 i = xE E 11 i := fun i => xFr_E hfr rfl
              have q11 : ∀ i, xE E 11 i = xE E0 11 i := fun i => xFr_E hFr0 rfl
              have e10 : ∀ i, xE E2 10 i = xE E 10 i := fun i => xFr_E hfr rfl
              have q10 : ∀ i, xE E 10 i = xE E0 10 i := fun i => xFr_E hFr0 rfl
              have hI : E = E0 ∧ (v 1) = x0 0 ∧ (v 2) = x0 1 := hInv
              show xΨcbt1 x0 E0 E2 (-1)
              obtain ⟨hE, i1, i2⟩ := hI
              have hSW := q2_3
              have c4 : xE E0 11 ((v2 1)) = (v2 4) := (q11 _).symm.trans f4.2
              rw [show (v2 1) = x0 0 by omega] at c4
              unfold xΨcbt1
              rw [if_neg]
              rintro ⟨y1, ⟨y2, y3⟩, y4⟩
              omega
            · skip
              have ex := List.mem_singleton.mp hx
              subst ex
              obtain ⟨hF, hBd, hM⟩ := hXs
              have g1 : v2 1 = v 1 := hag 1 (by decide)
              have g2 : v2 2 = v 2 := hag 2 (by decide)
              have b0 : ((2147483648 : Nat) : Int) ≤ (v2 1) + 2147483648 ∧ (v2 1) + 2147483648 ≤ ((4294967295 : Nat) : Int) := xXb hBd 0 rfl
              have b1 : ((2147483648 : Nat) : Int) ≤ (v2 2) + 2147483648 ∧ (v2 2) + 2147483648 ≤ ((4294967295 : Nat) : Int) := xXb hBd 1 rfl
              have b2 : ((2147483648 : Nat) : Int) ≤ (v2 3) + 2147483648 ∧ (v2 3) + 2147483648 ≤ ((2147483679 : Nat) : Int) := xXb hBd 2 rfl
              have f0 : 0 ≤ (v2 2) := xXf hF 0 rfl
              have f1 : 0 ≤ (v2 1) := xXf hF 1 rfl
              have f2 : (0 : Int) ≤ 3 ∧ xE E 2 3 = (v2 3) := xXf hF 2 rfl
              have f3 : (v2 3) ≤ (v2 1) := xXf hF 3 rfl
              have e2_3 : xE E2 2 3 = xE E 2 3 := xFr_E hfr rfl
              have q2_3 : xE E 2 3 = xE E0 2 3 := xFr_E hFr0 rfl
              have e11 : ∀ i, xE E2 11 i = xE E 11 i := fun i => xFr_E hfr rfl
              have q11 : ∀ i, xE E 11 i = xE E0 11 i := fun i => xFr_E hFr0 rfl
              have e10 : ∀ i, xE E2 10 i = xE E 10 i := fun i => xFr_E hfr rfl
              have q10 : ∀ i, xE E 10 i = xE E0 10 i := fun i => xFr_E hFr0 rfl
              have hI : E = E0 ∧ (v 1) = x0 0 ∧ (v 2) = x0 1 := hInv
              show xΨcbt1 x0 E0 E2 (-1)
              obtain ⟨hE, i1, i2⟩ := hI
              have hSW := q2_3
              unfold xΨcbt1
              rw [if_neg]
              rintro ⟨y1, ⟨y2, y3⟩, y4⟩
              omega
noncomputable def zxfcfs1_zx0 : zyXp := (0, [3, 34359738369, 13], [], [], [], [])
noncomputable def zpfcfs1_z : zyPh := (0, [3, 34359738369, 13], [(0, 4294967295), (0, 4294967295), (0, 4294967295)], [], [])
noncomputable def zxfcfs1_ar0 : zyXp := (0, [], [34359738360], [(20, 0, 34359738369, 0)], [(34359738369, 0, 2147483647)], [])
noncomputable def zxfcfs1_ar1 : zyXp := (0, [], [137438953473], [(21, 0, 34359738369, 0), (24, 103079215105, 2, 16), (20, 0, 34359738369, 103079215105), (24, 137438953473, 4, 34359738369), (23, 0, 137438953473, 34359738360)], [(34359738369, 2147483648, 2147483727), (103079215105, 2147483649, 2147483728), (137438953473, 2147483648, 2147483727)], [])
noncomputable def zxfcfs1_ar2 : zyXp := (0, [], [34359738360], [(21, 0, 34359738369, 0), (24, 103079215105, 2, 16), (20, 0, 34359738369, 103079215105), (24, 137438953473, 4, 34359738369), (22, 0, 137438953473, 34359738360)], [(34359738369, 2147483648, 2147483727), (103079215105, 2147483649, 2147483728), (137438953473, 2147483647, 2147483647)], [])
noncomputable def zxfcfs1_ar3 : zyXp := (0, [], [34359738360], [(21, 0, 34359738369, 0), (24, 103079215105, 2, 16), (21, 0, 34359738369, 103079215105)], [(34359738369, 2147483648, 4294967295), (103079215105, 2147483648, 2147483728)], [])
noncomputable def zpfcfs1_a : zyPh := (0, [3, 34359738369, 13], [(0, 4294967295), (0, 4294967295), (0, 4294967295)], [(1, 11)], [])
noncomputable def zpfcfs1 (i : Nat) : zyPh := zif (Nat.beq i 0) (zpfcfs1_z) (zpfcfs1_a)
noncomputable def zXfcfs1 (i : Nat) : List zyXp := zif (Nat.beq i 0) ([zxfcfs1_zx0]) ([])
noncomputable def zRfcfs1 (i : Nat) : List zyXp := zif (Nat.beq i 0) ([]) ([zxfcfs1_ar0, zxfcfs1_ar1, zxfcfs1_ar2, zxfcfs1_ar3])
noncomputable def zFfcfs1 (i : Nat) : zyR := zif (Nat.beq i 0) ([]) ([(0, 0, 0)])
noncomputable def zSfcfs1 (i : Nat) : Nat := zif (Nat.beq i 0) (0) (0)
def xΨcfs1 (x : Nat → Int) (E _ : zyEm) (r : Int) : Prop := r = if 0 ≤ x 0 ∧ x 0 < xE E 2 2 then xE E 4 (x 0) else -1
noncomputable def fpfcfs1 : zyR := [(0, 0, 0)]
theorem zyfcfs1_run : zyrS zymc zxi128 (128, 0, 0, 1, 0) 4 zpfcfs1 (fun _ _ => []) zFfcfs1 zSfcfs1 zXfcfs1 zRfcfs1 2 = true := by decide +kernel
theorem zyfcfs1_ck : zyAll (fun i => xsubR (zFfcfs1 i) fpfcfs1 && ((zXfcfs1 i).all xckX && (zRfcfs1 i).all (fun x => xckX x && xrtB true x))) 2 = true := by decide +kernel
def xIfcfs1 (i : Nat) (x0 : Nat → Int) (E0 : zyEm) (v : Nat → Int) (E : zyEm) : Prop := if i = 0 then (E = E0 ∧ (v 1) = x0 0) else (E = E0 ∧ (v 1) = x0 0)
def xMfcfs1 (i : Nat) (x0 : Nat → Int) (E0 : zyEm) (v : Nat → Int) (E : zyEm) : Nat := if i = 0 then (2) else (1)
theorem xCfs1 {l : Launch} {en : zEn} {me : zMe} (hen : zG zxMeta 128 = some en) (hme : zG zMeth 128 = some me) : ∀ B, xFcB l zymc B en me 4 [0] 1 fpfcfs1 true (xΦpl1 B) xΨcfs1 := by
  have een : zG zxMeta 128 = some (zxi128, 2, 3, 10, 128, 0, 0, 1, 0) := rfl
  obtain ⟨me1, hme1, hOK⟩ := zall hen
  rw [hme] at hme1
  cases hme1
  rw [een] at hen
  cases hen
  have hr := zyfcfs1_run
  have hck := fun i hi => zyAll_iff zyfcfs1_ck i hi
  simp only [Bool.and_eq_true] at hck
  intro B
  refine xcut (mi := zymc) (B := B) hOK rfl rfl (ι := Fin 2) (fun i => zpfcfs1 i.val) (fun _ _ => []) (fun i => zFfcfs1 i.val) (fun i => zSfcfs1 i.val) (fun i => zXfcfs1 i.val) (fun i => zRfcfs1 i.val) (fun i y2 ct en2 me2 h => by cases h) 200000 (fun i => zyAll_iff hr i.val i.isLt) (fun i => (hck i.val i.isLt).1) (fun i => (hck i.val i.isLt).2.1) (fun i => (hck i.val i.isLt).2.2) ⟨0, by decide⟩ ⟨rfl, rfl, rfl, rfl⟩ ⟨by decide, by decide⟩ (fun i x0 E0 v E => xIfcfs1 i.val x0 E0 v E) (fun i x0 E0 v E => xMfcfs1 i.val x0 E0 v E) ?_ ?_ ?_
  · intro x0 E hx0 hT hΦ
    have hΦ : (xΦpl1 B) x0 E := hΦ
    refine ⟨fun k p hp => ?_, ?_⟩
    · have hk : k < 3 := (List.getElem?_eq_some_iff.mp hp).1
      have hk : k = 0 ∨ k = 1 ∨ k = 2 := by omega
      rcases hk with rfl | rfl | rfl
      · have hp : some (0, 4294967295) = some p := hp
        cases hp
        show ((0 : Nat) : Int) ≤ 0 + 2147483648 ∧ 0 + 2147483648 ≤ ((4294967295 : Nat) : Int)
        omega
      · have hp : some (0, 4294967295) = some p := hp
        cases hp
        show ((0 : Nat) : Int) ≤ x0 0 + 2147483648 ∧ x0 0 + 2147483648 ≤ ((4294967295 : Nat) : Int)
        have hx := hx0 0
        omega
      · have hp : some (0, 4294967295) = some p := hp
        cases hp
        show ((0 : Nat) : Int) ≤ x0 1 + 2147483648 ∧ x0 1 + 2147483648 ≤ ((4294967295 : Nat) : Int)
        have hx := hx0 1
        omega
    · show E = E ∧ (x0 0) = x0 0
      exact ⟨rfl, rfl⟩
  · intro x0 s Wg hRu hrx hT0 hΦ i v H hT hrv hInv hKc hFr0 hIH x hx ρ2 v2 N2 H2 locs lsB stA hAt hB hv hr2 hXs hag hfr hFr hT2
    rcases i with ⟨i, hi⟩
    have hi2 : i = 0 ∨ i = 1 := by omega
    rcases hi2 with rfl | rfl
    · have hx : x ∈ [zxfcfs1_zx0] := hx
      have hag : ∀ k, k < 3 → v2 k = v k := hag
      have hfr : xFr [] _ _ := hfr
      have ex := List.mem_singleton.mp hx
      subst ex
      obtain ⟨hF, hBd, hM⟩ := hXs
      have r1 := hr2 1
      have g1 : v2 1 = v 1 := hag 1 (by decide)
      have e2_2 : xE (zyEl zymc B H2) 2 2 = xE (zyEl zymc B H) 2 2 := xFr_E hfr rfl
      have q2_2 : xE (zyEl zymc B H) 2 2 = xE (zyEl zymc B s.heap) 2 2 := xFr_E hFr0 rfl
      have e4 : ∀ i, xE (zyEl zymc B H2) 4 i = xE (zyEl zymc B H) 4 i := fun i => xFr_E hfr rfl
      have q4 : ∀ i, xE (zyEl zymc B H) 4 i = xE (zyEl zymc B s.heap) 4 i := fun i => xFr_E hFr0 rfl
      have hI : (zyEl zymc B H) = (zyEl zymc B s.heap) ∧ (v 1) = x0 0 := hInv
      obtain ⟨hE, i1⟩ := hI
      refine xGo hIH hAt hB hv hFr ⟨1, by decide⟩ [0, 34359738369, 0] [0, (v2 1), 0] rfl ⟨by decide +kernel, ⟨rfl, by decide +kernel⟩, (xcs_c rfl (xcs_c rfl (xcs_c rfl xcs_n))), (xe_0 (xe_f (by omega) (xe_0 xe_n))), (xkq_r 0 1 1 rfl rfl rfl rfl rfl (by rw [xFr_n hfr, hE]; exact hΦ) xkq_n)⟩ xst_n ?_ ?_
      · show (zyEl zymc B H2) = (zyEl zymc B s.heap) ∧ ((v2 1) : Int) = x0 0
        exact ⟨(xFr_n hfr).trans hE, by omega⟩
      · show 1 < 2
        omega
    · cases hx
  · intro x0 E0 E E2 hrx hT0 hΦ i v hT hrv hInv hKc hFr0 x hx v2 hr2 hXs hag hfr hFr hT2
    rcases i with ⟨i, hi⟩
    have hi2 : i = 0 ∨ i = 1 := by omega
    rcases hi2 with rfl | rfl
    · cases hx
    · have hx : x ∈ [zxfcfs1_ar0, zxfcfs1_ar1, zxfcfs1_ar2, zxfcfs1_ar3] := hx
      have hag : ∀ k, k < 3 → v2 k = v k := hag
      have hfr : xFr [(0, 0, 0)] _ _ := hfr
      rcases List.mem_cons.mp hx with ex | hx
      · subst ex
        obtain ⟨hF, hBd, hM⟩ := hXs
        have g1 : v2 1 = v 1 := hag 1 (by decide)
        have b0 : ((0 : Nat) : Int) ≤ (v2 1) + 2147483648 ∧ (v2 1) + 2147483648 ≤ ((2147483647 : Nat) : Int) := xXb hBd 0 rfl
        have f0 : (v2 1) < 0 := xXf hF 0 rfl
        have e2_2 : xE E2 2 2 = xE E 2 2 := xFr_E hfr rfl
        have q2_2 : xE E 2 2 = xE E0 2 2 := xFr_E hFr0 rfl
        have e4 : ∀ i, xE E2 4 i = xE E 4 i := fun i => xFr_E hfr rfl
        have q4 : ∀ i, xE E 4 i = xE E0 4 i := fun i => xFr_E hFr0 rfl
        have hI : E = E0 ∧ (v 1) = x0 0 := hInv
        show xΨcfs1 x0 E0 E2 (-1)
        obtain ⟨hE, i1⟩ := hI
        have hSW := q2_2
        unfold xΨcfs1
        rw [if_neg]
        rintro ⟨y2, y3⟩
        omega
      · skip
        rcases List.mem_cons.mp hx with ex | hx
        · subst ex
          obtain ⟨hF, hBd, hM⟩ := hXs
          have g1 : v2 1 = v 1 := hag 1 (by decide)
          have b0 : ((2147483648 : Nat) : Int) ≤ (v2 1) + 2147483648 ∧ (v2 1) + 2147483648 ≤ ((2147483727 : Nat) : Int) := xXb hBd 0 rfl
          have b1 : ((2147483649 : Nat) : Int) ≤ (v2 3) + 2147483648 ∧ (v2 3) + 2147483648 ≤ ((2147483728 : Nat) : Int) := xXb hBd 1 rfl
          have b2 : ((2147483648 : Nat) : Int) ≤ (v2 4) + 2147483648 ∧ (v2 4) + 2147483648 ≤ ((2147483727 : Nat) : Int) := xXb hBd 2 rfl
          have f0 : 0 ≤ (v2 1) := xXf hF 0 rfl
          have f1 : (0 : Int) ≤ 2 ∧ xE E 2 2 = (v2 3) := xXf hF 1 rfl
          have f2 : (v2 1) < (v2 3) := xXf hF 2 rfl
          have f3 : (0 : Int) ≤ (v2 1) ∧ xE E 4 (v2 1) = (v2 4) := xXf hF 3 rfl
          have f4 : ¬ (v2 4) = (-1) := xXf hF 4 rfl
          have e2_2 : xE E2 2 2 = xE E 2 2 := xFr_E hfr rfl
          have q2_2 : xE E 2 2 = xE E0 2 2 := xFr_E hFr0 rfl
          have e4 : ∀ i, xE E2 4 i = xE E 4 i := fun i => xFr_E hfr rfl
          have q4 : ∀ i, xE E 4 i = xE E0 4 i := fun i => xFr_E hFr0 rfl
          have hI : E = E0 ∧ (v 1) = x0 0 := hInv
          show xΨcfs1 x0 E0 E2 (v2 4)
          obtain ⟨hE, i1⟩ := hI
          have hSW := q2_2
          have c3 : xE E0 4 ((v2 1)) = (v2 4) := (q4 _).symm.trans f3.2
          rw [show (v2 1) = x0 0 by omega] at c3
          unfold xΨcfs1
          rw [if_pos ⟨by omega, by omega⟩]
          omega
        · skip
          rcases List.mem_cons.mp hx with ex | hx
          · subst ex
            obtain ⟨hF, hBd, hM⟩ := hXs
            have g1 : v2 1 = v 1 := hag 1 (by decide)
            have b0 : ((2147483648 : Nat) : Int) ≤ (v2 1) + 2147483648 ∧ (v2 1) + 2147483648 ≤ ((2147483727 : Nat) : Int) := xXb hBd 0 rfl
            have b1 : ((2147483649 : Nat) : Int) ≤ (v2 3) + 2147483648 ∧ (v2 3) + 2147483648 ≤ ((2147483728 : Nat) : Int) := xXb hBd 1 rfl
            have b2 : ((2147483647 : Nat) : Int) ≤ (v2 4) + 2147483648 ∧ (v2 4) + 2147483648 ≤ ((2147483647 : Nat) : Int) := xXb hBd 2 rfl
            have f0 : 0 ≤ (v2 1) := xXf hF 0 rfl
            have f1 : (0 : Int) ≤ 2 ∧ xE E 2 2 = (v2 3) := xXf hF 1 rfl
            have f2 : (v2 1) < (v2 3) := xXf hF 2 rfl
            have f3 : (0 : Int) ≤ (v2 1) ∧ xE E 4 (v2 1) = (v2 4) := xXf hF 3 rfl
            have f4 : (v2 4) = (-1) := xXf hF 4 rfl
            have e2_2 : xE E2 2 2 = xE E 2 2 := xFr_E hfr rfl
            have q2_2 : xE E 2 2 = xE E0 2 2 := xFr_E hFr0 rfl
            have e4 : ∀ i, xE E2 4 i = xE E 4 i := fun i => xFr_E hfr rfl
            have q4 : ∀ i, xE E 4 i = xE E0 4 i := fun i => xFr_E hFr0 rfl
            have hI : E = E0 ∧ (v 1) = x0 0 := hInv
            show xΨcfs1 x0 E0 E2 (-1)
            obtain ⟨hE, i1⟩ := hI
            have hSW := q2_2
            have c3 : xE E0 4 ((v2 1)) = (v2 4) := (q4 _).symm.trans f3.2
            rw [show (v2 1) = x0 0 by omega] at c3
            unfold xΨcfs1
            rw [if_pos ⟨by omega, by omega⟩]
            omega
          · skip
            have ex := List.mem_singleton.mp hx
            subst ex
            obtain ⟨hF, hBd, hM⟩ := hXs
            have g1 : v2 1 = v 1 := hag 1 (by decide)
            have b0 : ((2147483648 : Nat) : Int) ≤ (v2 1) + 2147483648 ∧ (v2 1) + 2147483648 ≤ ((4294967295 : Nat) : Int) := xXb hBd 0 rfl
            have b1 : ((2147483648 : Nat) : Int) ≤ (v2 3) + 2147483648 ∧ (v2 3) + 2147483648 ≤ ((2147483728 : Nat) : Int) := xXb hBd 1 rfl
            have f0 : 0 ≤ (v2 1) := xXf hF 0 rfl
            have f1 : (0 : Int) ≤ 2 ∧ xE E 2 2 = (v2 3) := xXf hF 1 rfl
            have f2 : (v2 3) ≤ (v2 1) := xXf hF 2 rfl
            have e2_2 : xE E2 2 2 = xE E 2 2 := xFr_E hfr rfl
            have q2_2 : xE E 2 2 = xE E0 2 2 := xFr_E hFr0 rfl
            have e4 : ∀ i, xE E2 4 i = xE E 4 i := fun i => xFr_E hfr rfl
            have q4 : ∀ i, xE E 4 i = xE E0 4 i := fun i => xFr_E hFr0 rfl
            have hI : E = E0 ∧ (v 1) = x0 0 := hInv
            show xΨcfs1 x0 E0 E2 (-1)
            obtain ⟨hE, i1⟩ := hI
            have hSW := q2_2
            unfold xΨcfs1
            rw [if_neg]
            rintro ⟨y2, y3⟩
            omega
noncomputable def zxfcpg1_zx0 : zyXp := (0, [3, 34359738369, 68719476737, 103079215105], [], [], [], [])
noncomputable def zpfcpg1_z : zyPh := (0, [3, 34359738369, 68719476737, 103079215105], [(0, 4294967295), (0, 4294967295), (0, 4294967295), (0, 4294967295)], [], [])
noncomputable def zxfcpg1_ax0 : zyXp := (72, [3, 34359738369, 68719476737, 103079215105], [], [(21, 0, 103079215105, 8), (21, 0, 32, 103079215105), (21, 0, 68719476737, 0), (9, 137438953473, 68719476737, 103079215105), (22, 0, 137438953473, 0), (21, 0, 34359738369, 0), (24, 171798691841, 2, 24), (20, 0, 34359738369, 171798691841), (24, 206158430209, 10, 34359738369), (23, 0, 206158430209, 68719476737)], [(34359738369, 2147483648, 2147483678), (68719476737, 2147483648, 4294967295), (103079215105, 2147483649, 2147483652), (137438953473, 2147483648, 2147483648), (171798691841, 2147483649, 2147483679), (206158430209, 2147483648, 4294967295)], [])
noncomputable def zxfcpg1_ax1 : zyXp := (72, [3, 34359738369, 68719476737, 103079215105], [], [(21, 0, 103079215105, 8), (21, 0, 32, 103079215105), (21, 0, 68719476737, 0), (9, 137438953473, 68719476737, 103079215105), (22, 0, 137438953473, 0), (21, 0, 34359738369, 0), (24, 171798691841, 2, 24), (20, 0, 34359738369, 171798691841), (24, 206158430209, 10, 34359738369), (22, 0, 206158430209, 68719476737), (24, 240518168577, 11, 34359738369), (23, 0, 240518168577, 103079215105)], [(34359738369, 2147483648, 2147483678), (68719476737, 2147483648, 4294967295), (103079215105, 2147483649, 2147483652), (137438953473, 2147483648, 2147483648), (171798691841, 2147483649, 2147483679), (206158430209, 2147483648, 4294967295), (240518168577, 2147483648, 2147483652)], [])
noncomputable def zxfcpg1_ar0 : zyXp := (0, [], [34359738360], [(20, 0, 103079215105, 8)], [(103079215105, 0, 2147483648)], [])
noncomputable def zxfcpg1_ar1 : zyXp := (0, [], [34359738360], [(21, 0, 103079215105, 8), (20, 0, 32, 103079215105)], [(103079215105, 2147483653, 4294967295)], [])
noncomputable def zxfcpg1_ar2 : zyXp := (0, [], [34359738360], [(21, 0, 103079215105, 8), (21, 0, 32, 103079215105), (20, 0, 68719476737, 0)], [(68719476737, 0, 2147483647), (103079215105, 2147483649, 2147483652)], [])
noncomputable def zxfcpg1_ar3 : zyXp := (0, [], [34359738360], [(21, 0, 103079215105, 8), (21, 0, 32, 103079215105), (21, 0, 68719476737, 0), (9, 137438953473, 68719476737, 103079215105), (23, 0, 137438953473, 0)], [(68719476737, 2147483648, 4294967295), (103079215105, 2147483649, 2147483652), (137438953473, 2147483649, 3221225471)], [])
noncomputable def zxfcpg1_ar4 : zyXp := (0, [], [34359738360], [(21, 0, 103079215105, 8), (21, 0, 32, 103079215105), (21, 0, 68719476737, 0), (9, 137438953473, 68719476737, 103079215105), (22, 0, 137438953473, 0), (20, 0, 34359738369, 0)], [(34359738369, 0, 2147483647), (68719476737, 2147483648, 4294967295), (103079215105, 2147483649, 2147483652), (137438953473, 2147483648, 2147483648)], [])
noncomputable def zxfcpg1_ar5 : zyXp := (0, [], [34359738360], [(21, 0, 103079215105, 8), (21, 0, 32, 103079215105), (21, 0, 68719476737, 0), (9, 137438953473, 68719476737, 103079215105), (22, 0, 137438953473, 0), (21, 0, 34359738369, 0), (24, 171798691841, 2, 24), (20, 0, 34359738369, 171798691841), (24, 206158430209, 10, 34359738369), (22, 0, 206158430209, 68719476737), (24, 240518168577, 11, 34359738369), (22, 0, 240518168577, 103079215105)], [(34359738369, 2147483648, 2147483678), (68719476737, 2147483648, 4294967295), (103079215105, 2147483649, 2147483652), (137438953473, 2147483648, 2147483648), (171798691841, 2147483649, 2147483679), (206158430209, 2147483648, 4294967295), (240518168577, 2147483648, 2147483652)], [])
noncomputable def zxfcpg1_ar6 : zyXp := (0, [], [34359738360], [(21, 0, 103079215105, 8), (21, 0, 32, 103079215105), (21, 0, 68719476737, 0), (9, 137438953473, 68719476737, 103079215105), (22, 0, 137438953473, 0), (21, 0, 34359738369, 0), (24, 171798691841, 2, 24), (21, 0, 34359738369, 171798691841)], [(34359738369, 2147483648, 4294967295), (68719476737, 2147483648, 4294967295), (103079215105, 2147483649, 2147483652), (137438953473, 2147483648, 2147483648), (171798691841, 2147483648, 2147483679)], [])
noncomputable def zpfcpg1_a : zyPh := (0, [3, 34359738369, 68719476737, 103079215105], [(0, 4294967295), (0, 4294967295), (0, 4294967295), (0, 4294967295)], [(1, 11)], [])
noncomputable def zxfcpg1_bx0 : zyXp := (72, [3, 34359738369, 68719476737, 103079215105], [], [], [(34359738369, 2147483648, 2147483678), (68719476737, 2147483648, 4294967295), (103079215105, 2147483649, 2147483652)], [])
noncomputable def zpfcpg1_b : zyPh := (72, [3, 34359738369, 68719476737, 103079215105], [(0, 4294967295), (2147483648, 2147483678), (2147483648, 4294967295), (2147483649, 2147483652)], [], [])
noncomputable def zxfcpg1_b2x0 : zyXp := (81, [3, 34359738369, 68719476737, 103079215105], [68719476737, 34359738369, 83], [], [(34359738369, 2147483648, 2147483678), (68719476737, 2147483648, 4294967295), (103079215105, 2147483649, 2147483652)], [])
noncomputable def zpfcpg1_b2 : zyPh := (72, [3, 34359738369, 68719476737, 103079215105], [(0, 4294967295), (2147483648, 2147483678), (2147483648, 4294967295), (2147483649, 2147483652)], [(1, 11)], [])
noncomputable def zxfcpg1_cx0 : zyXp := (91, [3, 13, 13, 103079215105], [103079215105, 34359738369, 91], [], [(34359738369, 2147483648, 2147483678), (103079215105, 2147483649, 2147483652)], [])
noncomputable def zpfcpg1_c : zyPh := (82, [3, 34359738369, 68719476737, 103079215105], [(0, 4294967295), (2147483648, 2147483678), (2147483648, 4294967295), (2147483649, 2147483652)], [(1, 11)], [])
noncomputable def zxfcpg1_dr0 : zyXp := (0, [], [103079215105], [], [(103079215105, 2147483649, 2147483652)], [])
noncomputable def zpfcpg1_d : zyPh := (92, [3, 13, 13, 103079215105], [(0, 4294967295), (0, 4294967295), (0, 4294967295), (2147483649, 2147483652)], [], [])
noncomputable def zpfcpg1 (i : Nat) : zyPh := zif (Nat.beq i 0) (zpfcpg1_z) (zif (Nat.beq i 1) (zpfcpg1_a) (zif (Nat.beq i 2) (zpfcpg1_b) (zif (Nat.beq i 3) (zpfcpg1_b2) (zif (Nat.beq i 4) (zpfcpg1_c) (zpfcpg1_d)))))
noncomputable def zXfcpg1 (i : Nat) : List zyXp := zif (Nat.beq i 0) ([zxfcpg1_zx0]) (zif (Nat.beq i 1) ([zxfcpg1_ax0, zxfcpg1_ax1]) (zif (Nat.beq i 2) ([zxfcpg1_bx0]) (zif (Nat.beq i 3) ([zxfcpg1_b2x0]) (zif (Nat.beq i 4) ([zxfcpg1_cx0]) ([])))))
noncomputable def zRfcpg1 (i : Nat) : List zyXp := zif (Nat.beq i 0) ([]) (zif (Nat.beq i 1) ([zxfcpg1_ar0, zxfcpg1_ar1, zxfcpg1_ar2, zxfcpg1_ar3, zxfcpg1_ar4, zxfcpg1_ar5, zxfcpg1_ar6]) (zif (Nat.beq i 2) ([]) (zif (Nat.beq i 3) ([]) (zif (Nat.beq i 4) ([]) ([zxfcpg1_dr0])))))
noncomputable def zFfcpg1 (i : Nat) : zyR := zif (Nat.beq i 0) ([]) (zif (Nat.beq i 1) ([(0, 0, 0)]) (zif (Nat.beq i 2) ([]) (zif (Nat.beq i 3) ([]) (zif (Nat.beq i 4) ([]) ([(0, 0, 0)])))))
noncomputable def zSfcpg1 (i : Nat) : Nat := zif (Nat.beq i 0) (0) (zif (Nat.beq i 1) (0) (zif (Nat.beq i 2) (0) (zif (Nat.beq i 3) (0) (zif (Nat.beq i 4) (0) (0)))))
def xVp1 (x : Nat → Int) (E : zyEm) : Prop := (1 ≤ x 2 ∧ x 2 ≤ 4) ∧ 0 ≤ x 1 ∧ xop 9 (x 1) (x 2) = 0 ∧ (0 ≤ x 0 ∧ x 0 < xE E 2 3) ∧ ¬ (xE E 10 (x 0) = x 1 ∧ xE E 11 (x 0) = x 2)
def xΨcpg1 (x : Nat → Int) (E E2 : zyEm) (r : Int) : Prop := (xVp1 x E → r = x 2 ∧ (∀ k, 0 ≤ k → xE E2 10 k = uS (xE E 10) (x 0) (x 1) k) ∧ ∀ k, 0 ≤ k → xE E2 11 k = uS (xE E 11) (x 0) (x 2) k) ∧ (¬ xVp1 x E → r = -1 ∧ (∀ k, xE E2 10 k = xE E 10 k) ∧ ∀ k, xE E2 11 k = xE E 11 k)
noncomputable def fpfcpg1 : zyR := [(0, 0, 0), (10, 0, 30), (11, 0, 30)]
theorem zyfcpg1_run : zyrS zymc zxi129 (129, 0, 0, 1, 0) 4 zpfcpg1 (fun _ _ => []) zFfcpg1 zSfcpg1 zXfcpg1 zRfcpg1 6 = true := by decide +kernel
theorem zyfcpg1_ck : zyAll (fun i => xsubR (zFfcpg1 i) fpfcpg1 && ((zXfcpg1 i).all xckX && (zRfcpg1 i).all (fun x => xckX x && xrtB true x))) 6 = true := by decide +kernel
def xIfcpg1 (i : Nat) (x0 : Nat → Int) (E0 : zyEm) (v : Nat → Int) (E : zyEm) : Prop := if i = 0 then (E = E0 ∧ (v 1) = x0 0 ∧ (v 2) = x0 1 ∧ (v 3) = x0 2) else if i = 1 then (E = E0 ∧ (v 1) = x0 0 ∧ (v 2) = x0 1 ∧ (v 3) = x0 2) else if i = 2 then (xVp1 x0 E0 ∧ (∀ k, 0 ≤ k → xE E 10 k = xE E0 10 k) ∧ (∀ k, 0 ≤ k → xE E 11 k = xE E0 11 k) ∧ (v 1) = x0 0 ∧ (v 2) = x0 1 ∧ (v 3) = x0 2) else if i = 3 then (xVp1 x0 E0 ∧ (∀ k, 0 ≤ k → xE E 10 k = xE E0 10 k) ∧ (∀ k, 0 ≤ k → xE E 11 k = xE E0 11 k) ∧ (v 1) = x0 0 ∧ (v 2) = x0 1 ∧ (v 3) = x0 2) else if i = 4 then (xVp1 x0 E0 ∧ (∀ k, 0 ≤ k → xE E 10 k = uS (xE E0 10) (x0 0) (x0 1) k) ∧ (∀ k, 0 ≤ k → xE E 11 k = xE E0 11 k) ∧ (v 1) = x0 0 ∧ (v 2) = x0 1 ∧ (v 3) = x0 2) else (xVp1 x0 E0 ∧ (∀ k, 0 ≤ k → xE E 10 k = uS (xE E0 10) (x0 0) (x0 1) k) ∧ (∀ k, 0 ≤ k → xE E 11 k = uS (xE E0 11) (x0 0) (x0 2) k) ∧ (v 3) = x0 2)
def xMfcpg1 (i : Nat) (x0 : Nat → Int) (E0 : zyEm) (v : Nat → Int) (E : zyEm) : Nat := if i = 0 then (9) else if i = 1 then (8) else if i = 2 then (7) else if i = 3 then (6) else if i = 4 then (5) else (4)
theorem xCpg1 {l : Launch} {en : zEn} {me : zMe} (hen : zG zxMeta 129 = some en) (hme : zG zMeth 129 = some me) : ∀ B, xFcB l zymc B en me 4 [0] 3 fpfcpg1 true (xΦpl1 B) xΨcpg1 := by
  have een : zG zxMeta 129 = some (zxi129, 4, 4, 10, 129, 0, 0, 1, 0) := rfl
  obtain ⟨me1, hme1, hOK⟩ := zall hen
  rw [hme] at hme1
  cases hme1
  rw [een] at hen
  cases hen
  have hr := zyfcpg1_run
  have hck := fun i hi => zyAll_iff zyfcpg1_ck i hi
  simp only [Bool.and_eq_true] at hck
  intro B
  refine xcut (mi := zymc) (B := B) hOK rfl rfl (ι := Fin 6) (fun i => zpfcpg1 i.val) (fun _ _ => []) (fun i => zFfcpg1 i.val) (fun i => zSfcpg1 i.val) (fun i => zXfcpg1 i.val) (fun i => zRfcpg1 i.val) (fun i y2 ct en2 me2 h => by cases h) 200000 (fun i => zyAll_iff hr i.val i.isLt) (fun i => (hck i.val i.isLt).1) (fun i => (hck i.val i.isLt).2.1) (fun i => (hck i.val i.isLt).2.2) ⟨0, by decide⟩ ⟨rfl, rfl, rfl, rfl⟩ ⟨by decide, by decide⟩ (fun i x0 E0 v E => xIfcpg1 i.val x0 E0 v E) (fun i x0 E0 v E => xMfcpg1 i.val x0 E0 v E) ?_ ?_ ?_
  · intro x0 E hx0 hT hΦ
    have hΦ : (xΦpl1 B) x0 E := hΦ
    refine ⟨fun k p hp => ?_, ?_⟩
    · have hk : k < 4 := (List.getElem?_eq_some_iff.mp hp).1
      have hk : k = 0 ∨ k = 1 ∨ k = 2 ∨ k = 3 := by omega
      rcases hk with rfl | rfl | rfl | rfl
      · have hp : some (0, 4294967295) = some p := hp
        cases hp
        show ((0 : Nat) : Int) ≤ 0 + 2147483648 ∧ 0 + 2147483648 ≤ ((4294967295 : Nat) : Int)
        omega
      · have hp : some (0, 4294967295) = some p := hp
        cases hp
        show ((0 : Nat) : Int) ≤ x0 0 + 2147483648 ∧ x0 0 + 2147483648 ≤ ((4294967295 : Nat) : Int)
        have hx := hx0 0
        omega
      · have hp : some (0, 4294967295) = some p := hp
        cases hp
        show ((0 : Nat) : Int) ≤ x0 1 + 2147483648 ∧ x0 1 + 2147483648 ≤ ((4294967295 : Nat) : Int)
        have hx := hx0 1
        omega
      · have hp : some (0, 4294967295) = some p := hp
        cases hp
        show ((0 : Nat) : Int) ≤ x0 2 + 2147483648 ∧ x0 2 + 2147483648 ≤ ((4294967295 : Nat) : Int)
        have hx := hx0 2
        omega
    · show E = E ∧ (x0 0) = x0 0 ∧ (x0 1) = x0 1 ∧ (x0 2) = x0 2
      exact ⟨rfl, rfl, rfl, rfl⟩
  · intro x0 s Wg hRu hrx hT0 hΦ i v H hT hrv hInv hKc hFr0 hIH x hx ρ2 v2 N2 H2 locs lsB stA hAt hB hv hr2 hXs hag hfr hFr hT2
    rcases i with ⟨i, hi⟩
    have hi2 : i = 0 ∨ i = 1 ∨ i = 2 ∨ i = 3 ∨ i = 4 ∨ i = 5 := by omega
    rcases hi2 with rfl | rfl | rfl | rfl | rfl | rfl
    · have hx : x ∈ [zxfcpg1_zx0] := hx
      have hag : ∀ k, k < 4 → v2 k = v k := hag
      have hfr : xFr [] _ _ := hfr
      have ex := List.mem_singleton.mp hx
      subst ex
      obtain ⟨hF, hBd, hM⟩ := hXs
      have r1 := hr2 1
      have r2 := hr2 2
      have r3 := hr2 3
      have g1 : v2 1 = v 1 := hag 1 (by decide)
      have g2 : v2 2 = v 2 := hag 2 (by decide)
      have g3 : v2 3 = v 3 := hag 3 (by decide)
      have e2_3 : xE (zyEl zymc B H2) 2 3 = xE (zyEl zymc B H) 2 3 := xFr_E hfr rfl
      have q2_3 : xE (zyEl zymc B H) 2 3 = xE (zyEl zymc B s.heap) 2 3 := xFr_E hFr0 rfl
      have e10 : ∀ i, xE (zyEl zymc B H2) 10 i = xE (zyEl zymc B H) 10 i := fun i => xFr_E hfr rfl
      have e11 : ∀ i, xE (zyEl zymc B H2) 11 i = xE (zyEl zymc B H) 11 i := fun i => xFr_E hfr rfl
      have hI : (zyEl zymc B H) = (zyEl zymc B s.heap) ∧ (v 1) = x0 0 ∧ (v 2) = x0 1 ∧ (v 3) = x0 2 := hInv
      have q10 : ∀ i, xE (zyEl zymc B H) 10 i = xE (zyEl zymc B s.heap) 10 i := fun i => by rw [hI.1]
      have q11 : ∀ i, xE (zyEl zymc B H) 11 i = xE (zyEl zymc B s.heap) 11 i := fun i => by rw [hI.1]
      obtain ⟨hE, i1, i2, i3⟩ := hI
      refine xGo hIH hAt hB hv hFr ⟨1, by decide⟩ [0, 34359738369, 68719476737, 103079215105] [0, (v2 1), (v2 2), (v2 3)] rfl ⟨by decide +kernel, ⟨rfl, by decide +kernel⟩, (xcs_c rfl (xcs_c rfl (xcs_c rfl (xcs_c rfl xcs_n)))), (xe_0 (xe_f (by omega) (xe_f (by omega) (xe_f (by omega) xe_n)))), (xkq_r 0 1 1 rfl rfl rfl rfl rfl (by rw [xFr_n hfr, hE]; exact hΦ) xkq_n)⟩ xst_n ?_ ?_
      · show (zyEl zymc B H2) = (zyEl zymc B s.heap) ∧ ((v2 1) : Int) = x0 0 ∧ ((v2 2) : Int) = x0 1 ∧ ((v2 3) : Int) = x0 2
        exact ⟨(xFr_n hfr).trans hE, by omega, by omega, by omega⟩
      · show 8 < 9
        omega
    · have hx : x ∈ [zxfcpg1_ax0, zxfcpg1_ax1] := hx
      have hag : ∀ k, k < 4 → v2 k = v k := hag
      have hfr : xFr [(0, 0, 0)] _ _ := hfr
      rcases List.mem_cons.mp hx with ex | hx
      · subst ex
        obtain ⟨hF, hBd, hM⟩ := hXs
        have g1 : v2 1 = v 1 := hag 1 (by decide)
        have g2 : v2 2 = v 2 := hag 2 (by decide)
        have g3 : v2 3 = v 3 := hag 3 (by decide)
        have b0 : ((2147483648 : Nat) : Int) ≤ (v2 1) + 2147483648 ∧ (v2 1) + 2147483648 ≤ ((2147483678 : Nat) : Int) := xXb hBd 0 rfl
        have b1 : ((2147483648 : Nat) : Int) ≤ (v2 2) + 2147483648 ∧ (v2 2) + 2147483648 ≤ ((4294967295 : Nat) : Int) := xXb hBd 1 rfl
        have b2 : ((2147483649 : Nat) : Int) ≤ (v2 3) + 2147483648 ∧ (v2 3) + 2147483648 ≤ ((2147483652 : Nat) : Int) := xXb hBd 2 rfl
        have b3 : ((2147483648 : Nat) : Int) ≤ (v2 4) + 2147483648 ∧ (v2 4) + 2147483648 ≤ ((2147483648 : Nat) : Int) := xXb hBd 3 rfl
        have b4 : ((2147483649 : Nat) : Int) ≤ (v2 5) + 2147483648 ∧ (v2 5) + 2147483648 ≤ ((2147483679 : Nat) : Int) := xXb hBd 4 rfl
        have b5 : ((2147483648 : Nat) : Int) ≤ (v2 6) + 2147483648 ∧ (v2 6) + 2147483648 ≤ ((4294967295 : Nat) : Int) := xXb hBd 5 rfl
        have f0 : 1 ≤ (v2 3) := xXf hF 0 rfl
        have f1 : (v2 3) ≤ 4 := xXf hF 1 rfl
        have f2 : 0 ≤ (v2 2) := xXf hF 2 rfl
        have f3 : (v2 4) = xop 9 (v2 2) (v2 3) := xXf hF 3 rfl
        have f4 : (v2 4) = 0 := xXf hF 4 rfl
        have f5 : 0 ≤ (v2 1) := xXf hF 5 rfl
        have f6 : (0 : Int) ≤ 3 ∧ xE (zyEl zymc B H) 2 3 = (v2 5) := xXf hF 6 rfl
        have f7 : (v2 1) < (v2 5) := xXf hF 7 rfl
        have f8 : (0 : Int) ≤ (v2 1) ∧ xE (zyEl zymc B H) 10 (v2 1) = (v2 6) := xXf hF 8 rfl
        have f9 : ¬ (v2 6) = (v2 2) := xXf hF 9 rfl
        have e2_3 : xE (zyEl zymc B H2) 2 3 = xE (zyEl zymc B H) 2 3 := xFr_E hfr rfl
        have q2_3 : xE (zyEl zymc B H) 2 3 = xE (zyEl zymc B s.heap) 2 3 := xFr_E hFr0 rfl
        have e10 : ∀ i, xE (zyEl zymc B H2) 10 i = xE (zyEl zymc B H) 10 i := fun i => xFr_E hfr rfl
        have e11 : ∀ i, xE (zyEl zymc B H2) 11 i = xE (zyEl zymc B H) 11 i := fun i => xFr_E hfr rfl
        have hI : (zyEl zymc B H) = (zyEl zymc B s.heap) ∧ (v 1) = x0 0 ∧ (v 2) = x0 1 ∧ (v 3) = x0 2 := hInv
        have q10 : ∀ i, xE (zyEl zymc B H) 10 i = xE (zyEl zymc B s.heap) 10 i := fun i => by rw [hI.1]
        have q11 : ∀ i, xE (zyEl zymc B H) 11 i = xE (zyEl zymc B s.heap) 11 i := fun i => by rw [hI.1]
        obtain ⟨hE, i1, i2, i3⟩ := hI
        have hSW := q2_3
        have c8 : xE (zyEl zymc B s.heap) 10 ((v2 1)) = (v2 6) := (q10 _).symm.trans f8.2
        rw [show (v2 1) = x0 0 by omega] at c8
        rw [show (v2 2) = x0 1 by omega, show (v2 3) = x0 2 by omega] at f3
        have hvl : xVp1 x0 (zyEl zymc B s.heap) := by
          unfold xVp1
          refine ⟨⟨by omega, by omega⟩, by omega, by omega, ⟨by omega, by omega⟩, ?_⟩
          rintro ⟨y1, y2⟩
          omega
        refine xGo hIH hAt hB hv hFr ⟨2, by decide⟩ [0, 34359738369, 68719476737, 103079215105] [0, (v2 1), (v2 2), (v2 3)] rfl ⟨by decide +kernel, ⟨rfl, by decide +kernel⟩, (xcs_c rfl (xcs_c rfl (xcs_c rfl (xcs_c rfl xcs_n)))), (xe_0 (xe_c (by omega) (by omega) rfl (xe_c (by omega) (by omega) rfl (xe_c (by omega) (by omega) rfl xe_n)))), xkq_n⟩ xst_n ?_ ?_
        · show xVp1 x0 (zyEl zymc B s.heap) ∧ (∀ k, 0 ≤ k → xE (zyEl zymc B H2) 10 k = xE (zyEl zymc B s.heap) 10 k) ∧ (∀ k, 0 ≤ k → xE (zyEl zymc B H2) 11 k = xE (zyEl zymc B s.heap) 11 k) ∧ ((v2 1) : Int) = x0 0 ∧ ((v2 2) : Int) = x0 1 ∧ ((v2 3) : Int) = x0 2
          exact ⟨hvl, fun k _ => (e10 k).trans (q10 k), fun k _ => (e11 k).trans (q11 k), by omega, by omega, by omega⟩
        · show 7 < 8
          omega
      · skip
        have ex := List.mem_singleton.mp hx
        subst ex
        obtain ⟨hF, hBd, hM⟩ := hXs
        have g1 : v2 1 = v 1 := hag 1 (by decide)
        have g2 : v2 2 = v 2 := hag 2 (by decide)
        have g3 : v2 3 = v 3 := hag 3 (by decide)
        have b0 : ((2147483648 : Nat) : Int) ≤ (v2 1) + 2147483648 ∧ (v2 1) + 2147483648 ≤ ((2147483678 : Nat) : Int) := xXb hBd 0 rfl
        have b1 : ((2147483648 : Nat) : Int) ≤ (v2 2) + 2147483648 ∧ (v2 2) + 2147483648 ≤ ((4294967295 : Nat) : Int) := xXb hBd 1 rfl
        have b2 : ((2147483649 : Nat) : Int) ≤ (v2 3) + 2147483648 ∧ (v2 3) + 2147483648 ≤ ((2147483652 : Nat) : Int) := xXb hBd 2 rfl
        have b3 : ((2147483648 : Nat) : Int) ≤ (v2 4) + 2147483648 ∧ (v2 4) + 2147483648 ≤ ((2147483648 : Nat) : Int) := xXb hBd 3 rfl
        have b4 : ((2147483649 : Nat) : Int) ≤ (v2 5) + 2147483648 ∧ (v2 5) + 2147483648 ≤ ((2147483679 : Nat) : Int) := xXb hBd 4 rfl
        have b5 : ((2147483648 : Nat) : Int) ≤ (v2 6) + 2147483648 ∧ (v2 6) + 2147483648 ≤ ((4294967295 : Nat) : Int) := xXb hBd 5 rfl
        have b6 : ((2147483648 : Nat) : Int) ≤ (v2 7) + 2147483648 ∧ (v2 7) + 2147483648 ≤ ((2147483652 : Nat) : Int) := xXb hBd 6 rfl
        have f0 : 1 ≤ (v2 3) := xXf hF 0 rfl
        have f1 : (v2 3) ≤ 4 := xXf hF 1 rfl
        have f2 : 0 ≤ (v2 2) := xXf hF 2 rfl
        have f3 : (v2 4) = xop 9 (v2 2) (v2 3) := xXf hF 3 rfl
        have f4 : (v2 4) = 0 := xXf hF 4 rfl
        have f5 : 0 ≤ (v2 1) := xXf hF 5 rfl
        have f6 : (0 : Int) ≤ 3 ∧ xE (zyEl zymc B H) 2 3 = (v2 5) := xXf hF 6 rfl
        have f7 : (v2 1) < (v2 5) := xXf hF 7 rfl
        have f8 : (0 : Int) ≤ (v2 1) ∧ xE (zyEl zymc B H) 10 (v2 1) = (v2 6) := xXf hF 8 rfl
        have f9 : (v2 6) = (v2 2) := xXf hF 9 rfl
        have f10 : (0 : Int) ≤ (v2 1) ∧ xE (zyEl zymc B H) 11 (v2 1) = (v2 7) := xXf hF 10 rfl
        have f11 : ¬ (v2 7) = (v2 3) := xXf hF 11 rfl
        have e2_3 : xE (zyEl zymc B H2) 2 3 = xE (zyEl zymc B H) 2 3 := xFr_E hfr rfl
        have q2_3 : xE (zyEl zymc B H) 2 3 = xE (zyEl zymc B s.heap) 2 3 := xFr_E hFr0 rfl
        have e10 : ∀ i, xE (zyEl zymc B H2) 10 i = xE (zyEl zymc B H) 10 i := fun i => xFr_E hfr rfl
        have e11 : ∀ i, xE (zyEl zymc B H2) 11 i = xE (zyEl zymc B H) 11 i := fun i => xFr_E hfr rfl
        have hI : (zyEl zymc B H) = (zyEl zymc B s.heap) ∧ (v 1) = x0 0 ∧ (v 2) = x0 1 ∧ (v 3) = x0 2 := hInv
        have q10 : ∀ i, xE (zyEl zymc B H) 10 i = xE (zyEl zymc B s.heap) 10 i := fun i => by rw [hI.1]
        have q11 : ∀ i, xE (zyEl zymc B H) 11 i = xE (zyEl zymc B s.heap) 11 i := fun i => by rw [hI.1]
        obtain ⟨hE, i1, i2, i3⟩ := hI
        have hSW := q2_3
        have c10 : xE (zyEl zymc B s.heap) 11 ((v2 1)) = (v2 7) := (q11 _).symm.trans f10.2
        rw [show (v2 1) = x0 0 by omega] at c10
        have c8 : xE (zyEl zymc B s.heap) 10 ((v2 1)) = (v2 6) := (q10 _).symm.trans f8.2
        rw [show (v2 1) = x0 0 by omega] at c8
        rw [show (v2 2) = x0 1 by omega, show (v2 3) = x0 2 by omega] at f3
        have hvl : xVp1 x0 (zyEl zymc B s.heap) := by
          unfold xVp1
          refine ⟨⟨by omega, by omega⟩, by omega, by omega, ⟨by omega, by omega⟩, ?_⟩
          rintro ⟨y1, y2⟩
          omega
        refine xGo hIH hAt hB hv hFr ⟨2, by decide⟩ [0, 34359738369, 68719476737, 103079215105] [0, (v2 1), (v2 2), (v2 3)] rfl ⟨by decide +kernel, ⟨rfl, by decide +kernel⟩, (xcs_c rfl (xcs_c rfl (xcs_c rfl (xcs_c rfl xcs_n)))), (xe_0 (xe_c (by omega) (by omega) rfl (xe_c (by omega) (by omega) rfl (xe_c (by omega) (by omega) rfl xe_n)))), xkq_n⟩ xst_n ?_ ?_
        · show xVp1 x0 (zyEl zymc B s.heap) ∧ (∀ k, 0 ≤ k → xE (zyEl zymc B H2) 10 k = xE (zyEl zymc B s.heap) 10 k) ∧ (∀ k, 0 ≤ k → xE (zyEl zymc B H2) 11 k = xE (zyEl zymc B s.heap) 11 k) ∧ ((v2 1) : Int) = x0 0 ∧ ((v2 2) : Int) = x0 1 ∧ ((v2 3) : Int) = x0 2
          exact ⟨hvl, fun k _ => (e10 k).trans (q10 k), fun k _ => (e11 k).trans (q11 k), by omega, by omega, by omega⟩
        · show 7 < 8
          omega
    · have hx : x ∈ [zxfcpg1_bx0] := hx
      have hag : ∀ k, k < 4 → v2 k = v k := hag
      have hfr : xFr [] _ _ := hfr
      have ex := List.mem_singleton.mp hx
      subst ex
      obtain ⟨hF, hBd, hM⟩ := hXs
      have g1 : v2 1 = v 1 := hag 1 (by decide)
      have g2 : v2 2 = v 2 := hag 2 (by decide)
      have g3 : v2 3 = v 3 := hag 3 (by decide)
      have b0 : ((2147483648 : Nat) : Int) ≤ (v2 1) + 2147483648 ∧ (v2 1) + 2147483648 ≤ ((2147483678 : Nat) : Int) := xXb hBd 0 rfl
      have b1 : ((2147483648 : Nat) : Int) ≤ (v2 2) + 2147483648 ∧ (v2 2) + 2147483648 ≤ ((4294967295 : Nat) : Int) := xXb hBd 1 rfl
      have b2 : ((2147483649 : Nat) : Int) ≤ (v2 3) + 2147483648 ∧ (v2 3) + 2147483648 ≤ ((2147483652 : Nat) : Int) := xXb hBd 2 rfl
      have e2_3 : xE (zyEl zymc B H2) 2 3 = xE (zyEl zymc B H) 2 3 := xFr_E hfr rfl
      have q2_3 : xE (zyEl zymc B H) 2 3 = xE (zyEl zymc B s.heap) 2 3 := xFr_E hFr0 rfl
      have e10 : ∀ i, xE (zyEl zymc B H2) 10 i = xE (zyEl zymc B H) 10 i := fun i => xFr_E hfr rfl
      have e11 : ∀ i, xE (zyEl zymc B H2) 11 i = xE (zyEl zymc B H) 11 i := fun i => xFr_E hfr rfl
      have hI : xVp1 x0 (zyEl zymc B s.heap) ∧ (∀ k, 0 ≤ k → xE (zyEl zymc B H) 10 k = xE (zyEl zymc B s.heap) 10 k) ∧ (∀ k, 0 ≤ k → xE (zyEl zymc B H) 11 k = xE (zyEl zymc B s.heap) 11 k) ∧ (v 1) = x0 0 ∧ (v 2) = x0 1 ∧ (v 3) = x0 2 := hInv
      obtain ⟨hvl, hc1, hc2, i1, i2, i3⟩ := hI
      refine xGo hIH hAt hB hv hFr ⟨3, by decide⟩ [0, 34359738369, 68719476737, 103079215105] [0, (v2 1), (v2 2), (v2 3)] rfl ⟨by decide +kernel, ⟨rfl, by decide +kernel⟩, (xcs_c rfl (xcs_c rfl (xcs_c rfl (xcs_c rfl xcs_n)))), (xe_0 (xe_c (by omega) (by omega) rfl (xe_c (by omega) (by omega) rfl (xe_c (by omega) (by omega) rfl xe_n)))), (xkq_r 0 1 1 rfl rfl rfl rfl rfl ((hfr 0 1 rfl).trans ((hFr0 0 1 rfl).trans hΦ)) xkq_n)⟩ xst_n ?_ ?_
      · show xVp1 x0 (zyEl zymc B s.heap) ∧ (∀ k, 0 ≤ k → xE (zyEl zymc B H2) 10 k = xE (zyEl zymc B s.heap) 10 k) ∧ (∀ k, 0 ≤ k → xE (zyEl zymc B H2) 11 k = xE (zyEl zymc B s.heap) 11 k) ∧ ((v2 1) : Int) = x0 0 ∧ ((v2 2) : Int) = x0 1 ∧ ((v2 3) : Int) = x0 2
        exact ⟨hvl, fun k k0 => (e10 k).trans (hc1 k k0), fun k k0 => (e11 k).trans (hc2 k k0), by omega, by omega, by omega⟩
      · show 6 < 7
        omega
    · have hx : x ∈ [zxfcpg1_b2x0] := hx
      have hag : ∀ k, k < 4 → v2 k = v k := hag
      have hfr : xFr [] _ _ := hfr
      have ex := List.mem_singleton.mp hx
      subst ex
      obtain ⟨hF, hBd, hM⟩ := hXs
      have g1 : v2 1 = v 1 := hag 1 (by decide)
      have g2 : v2 2 = v 2 := hag 2 (by decide)
      have g3 : v2 3 = v 3 := hag 3 (by decide)
      have b0 : ((2147483648 : Nat) : Int) ≤ (v2 1) + 2147483648 ∧ (v2 1) + 2147483648 ≤ ((2147483678 : Nat) : Int) := xXb hBd 0 rfl
      have b1 : ((2147483648 : Nat) : Int) ≤ (v2 2) + 2147483648 ∧ (v2 2) + 2147483648 ≤ ((4294967295 : Nat) : Int) := xXb hBd 1 rfl
      have b2 : ((2147483649 : Nat) : Int) ≤ (v2 3) + 2147483648 ∧ (v2 3) + 2147483648 ≤ ((2147483652 : Nat) : Int) := xXb hBd 2 rfl
      have e2_3 : xE (zyEl zymc B H2) 2 3 = xE (zyEl zymc B H) 2 3 := xFr_E hfr rfl
      have q2_3 : xE (zyEl zymc B H) 2 3 = xE (zyEl zymc B s.heap) 2 3 := xFr_E hFr0 rfl
      have e10 : ∀ i, xE (zyEl zymc B H2) 10 i = xE (zyEl zymc B H) 10 i := fun i => xFr_E hfr rfl
      have e11 : ∀ i, xE (zyEl zymc B H2) 11 i = xE (zyEl zymc B H) 11 i := fun i => xFr_E hfr rfl
      have hI : xVp1 x0 (zyEl zymc B s.heap) ∧ (∀ k, 0 ≤ k → xE (zyEl zymc B H) 10 k = xE (zyEl zymc B s.heap) 10 k) ∧ (∀ k, 0 ≤ k → xE (zyEl zymc B H) 11 k = xE (zyEl zymc B s.heap) 11 k) ∧ (v 1) = x0 0 ∧ (v 2) = x0 1 ∧ (v 3) = x0 2 := hInv
      obtain ⟨hvl, hc1, hc2, i1, i2, i3⟩ := hI
      refine xSt hRu hIH hAt hB hv hFr 10 (ax := 0) 68719476737 34359738369 (v2 2) (v2 1) rfl (Or.inl ⟨rfl, rfl⟩) rfl (by decide +kernel) rfl rfl (by omega) (by show (v2 1) < ((31 : Nat) : Int); omega) (fun r hr q1 q2 => by rw [List.mem_singleton.mp hr]; exact ⟨rfl, by show ((2147483648 : Nat) : Int) ≤ (v2 2) + 2147483648; omega, by show (v2 2) + 2147483648 ≤ ((4294967295 : Nat) : Int); omega⟩) (zyin_iff.mpr ⟨(10, 0, 30), by decide, rfl, (by show 0 ≤ Int.toNat (v2 1); omega), by show Int.toNat (v2 1) ≤ 30; omega⟩) (fun H3 hT3 hst3 hne3 hfn3 hFr3 => ?_)
      have hfe3 : ∀ (a2 : Nat) (k2 : Int), ¬ a2 = 10 → xE (zyEl zymc B H3) a2 k2 = xE (zyEl zymc B H2) a2 k2 := fun a2 k2 hne => by unfold xE; rw [hfn3 a2 k2.toNat (fun z => hne z.1)]
      have d2_3 : xE (zyEl zymc B H3) 2 3 = xE (zyEl zymc B H2) 2 3 := hfe3 2 3 (fun z => absurd z (by decide))
      refine ⟨⟨4, by decide⟩, [0, 34359738369, 68719476737, 103079215105], [0, (v2 1), (v2 2), (v2 3)], rfl, ⟨by decide +kernel, ⟨rfl, by decide +kernel⟩, (xcs_c rfl (xcs_c rfl (xcs_c rfl (xcs_c rfl xcs_n)))), (xe_0 (xe_c (by omega) (by omega) rfl (xe_c (by omega) (by omega) rfl (xe_c (by omega) (by omega) rfl xe_n)))), (xkq_r 0 1 1 rfl rfl rfl rfl rfl ((hfn3 0 1 (fun z => absurd z.1 (by decide))).trans ((hfr 0 1 rfl).trans ((hFr0 0 1 rfl).trans hΦ))) xkq_n)⟩, rfl, ?_, ?_⟩
      · show xVp1 x0 (zyEl zymc B s.heap) ∧ (∀ k, 0 ≤ k → xE (zyEl zymc B H3) 10 k = uS (xE (zyEl zymc B s.heap) 10) (x0 0) (x0 1) k) ∧ (∀ k, 0 ≤ k → xE (zyEl zymc B H3) 11 k = xE (zyEl zymc B s.heap) 11 k) ∧ ((v2 1) : Int) = x0 0 ∧ ((v2 2) : Int) = x0 1 ∧ ((v2 3) : Int) = x0 2
        refine ⟨hvl, fun k k0 => ?_, fun k k0 => ?_, by omega, by omega, by omega⟩
        · by_cases e : k = x0 0
          · rw [uS_e e, e, show x0 0 = (v2 1) by omega, hst3] <;> omega
          · rw [uS_n e, hne3 10 k k0 (fun z => e (by omega)), e10]
            exact hc1 k k0
        · rw [hfe3 11 k (by decide), e11]
          exact hc2 k k0
      · show 5 < 6
        omega
    · have hx : x ∈ [zxfcpg1_cx0] := hx
      have hag : ∀ k, k < 4 → v2 k = v k := hag
      have hfr : xFr [] _ _ := hfr
      have ex := List.mem_singleton.mp hx
      subst ex
      obtain ⟨hF, hBd, hM⟩ := hXs
      have g1 : v2 1 = v 1 := hag 1 (by decide)
      have g2 : v2 2 = v 2 := hag 2 (by decide)
      have g3 : v2 3 = v 3 := hag 3 (by decide)
      have b0 : ((2147483648 : Nat) : Int) ≤ (v2 1) + 2147483648 ∧ (v2 1) + 2147483648 ≤ ((2147483678 : Nat) : Int) := xXb hBd 0 rfl
      have b1 : ((2147483649 : Nat) : Int) ≤ (v2 3) + 2147483648 ∧ (v2 3) + 2147483648 ≤ ((2147483652 : Nat) : Int) := xXb hBd 1 rfl
      have e2_3 : xE (zyEl zymc B H2) 2 3 = xE (zyEl zymc B H) 2 3 := xFr_E hfr rfl
      have q2_3 : xE (zyEl zymc B H) 2 3 = xE (zyEl zymc B s.heap) 2 3 := xFr_E hFr0 rfl
      have e10 : ∀ i, xE (zyEl zymc B H2) 10 i = xE (zyEl zymc B H) 10 i := fun i => xFr_E hfr rfl
      have e11 : ∀ i, xE (zyEl zymc B H2) 11 i = xE (zyEl zymc B H) 11 i := fun i => xFr_E hfr rfl
      have hI : xVp1 x0 (zyEl zymc B s.heap) ∧ (∀ k, 0 ≤ k → xE (zyEl zymc B H) 10 k = uS (xE (zyEl zymc B s.heap) 10) (x0 0) (x0 1) k) ∧ (∀ k, 0 ≤ k → xE (zyEl zymc B H) 11 k = xE (zyEl zymc B s.heap) 11 k) ∧ (v 1) = x0 0 ∧ (v 2) = x0 1 ∧ (v 3) = x0 2 := hInv
      obtain ⟨hvl, hc1, hc2, i1, i2, i3⟩ := hI
      refine xSt hRu hIH hAt hB hv hFr 11 (ax := 0) 103079215105 34359738369 (v2 3) (v2 1) rfl (Or.inl ⟨rfl, rfl⟩) rfl (by decide +kernel) rfl rfl (by omega) (by show (v2 1) < ((31 : Nat) : Int); omega) (fun r hr q1 q2 => by rw [List.mem_singleton.mp hr]; exact ⟨rfl, by show ((2147483648 : Nat) : Int) ≤ (v2 3) + 2147483648; omega, by show (v2 3) + 2147483648 ≤ ((2147483652 : Nat) : Int); omega⟩) (zyin_iff.mpr ⟨(11, 0, 30), by decide, rfl, (by show 0 ≤ Int.toNat (v2 1); omega), by show Int.toNat (v2 1) ≤ 30; omega⟩) (fun H3 hT3 hst3 hne3 hfn3 hFr3 => ?_)
      have hfe3 : ∀ (a2 : Nat) (k2 : Int), ¬ a2 = 11 → xE (zyEl zymc B H3) a2 k2 = xE (zyEl zymc B H2) a2 k2 := fun a2 k2 hne => by unfold xE; rw [hfn3 a2 k2.toNat (fun z => hne z.1)]
      have d2_3 : xE (zyEl zymc B H3) 2 3 = xE (zyEl zymc B H2) 2 3 := hfe3 2 3 (fun z => absurd z (by decide))
      refine ⟨⟨5, by decide⟩, [0, 0, 0, 103079215105], [0, 0, 0, (v2 3)], rfl, ⟨by decide +kernel, ⟨rfl, by decide +kernel⟩, (xcs_c rfl (xcs_c rfl (xcs_c rfl (xcs_c rfl xcs_n)))), (xe_0 (xe_0 (xe_0 (xe_c (by omega) (by omega) rfl xe_n)))), xkq_n⟩, rfl, ?_, ?_⟩
      · show xVp1 x0 (zyEl zymc B s.heap) ∧ (∀ k, 0 ≤ k → xE (zyEl zymc B H3) 10 k = uS (xE (zyEl zymc B s.heap) 10) (x0 0) (x0 1) k) ∧ (∀ k, 0 ≤ k → xE (zyEl zymc B H3) 11 k = uS (xE (zyEl zymc B s.heap) 11) (x0 0) (x0 2) k) ∧ ((v2 3) : Int) = x0 2
        refine ⟨hvl, fun k k0 => ?_, fun k k0 => ?_, by omega⟩
        · rw [hfe3 10 k (by decide), e10]
          exact hc1 k k0
        · by_cases e : k = x0 0
          · rw [uS_e e, e, show x0 0 = (v2 1) by omega, hst3] <;> omega
          · rw [uS_n e, hne3 11 k k0 (fun z => e (by omega)), e11]
            exact hc2 k k0
      · show 4 < 5
        omega
    · cases hx
  · intro x0 E0 E E2 hrx hT0 hΦ i v hT hrv hInv hKc hFr0 x hx v2 hr2 hXs hag hfr hFr hT2
    rcases i with ⟨i, hi⟩
    have hi2 : i = 0 ∨ i = 1 ∨ i = 2 ∨ i = 3 ∨ i = 4 ∨ i = 5 := by omega
    rcases hi2 with rfl | rfl | rfl | rfl | rfl | rfl
    · cases hx
    · have hx : x ∈ [zxfcpg1_ar0, zxfcpg1_ar1, zxfcpg1_ar2, zxfcpg1_ar3, zxfcpg1_ar4, zxfcpg1_ar5, zxfcpg1_ar6] := hx
      have hag : ∀ k, k < 4 → v2 k = v k := hag
      have hfr : xFr [(0, 0, 0)] _ _ := hfr
      rcases List.mem_cons.mp hx with ex | hx
      · subst ex
        obtain ⟨hF, hBd, hM⟩ := hXs
        have g1 : v2 1 = v 1 := hag 1 (by decide)
        have g2 : v2 2 = v 2 := hag 2 (by decide)
        have g3 : v2 3 = v 3 := hag 3 (by decide)
        have b0 : ((0 : Nat) : Int) ≤ (v2 3) + 2147483648 ∧ (v2 3) + 2147483648 ≤ ((2147483648 : Nat) : Int) := xXb hBd 0 rfl
        have f0 : (v2 3) < 1 := xXf hF 0 rfl
        have e2_3 : xE E2 2 3 = xE E 2 3 := xFr_E hfr rfl
        have q2_3 : xE E 2 3 = xE E0 2 3 := xFr_E hFr0 rfl
        have e10 : ∀ i, xE E2 10 i = xE E 10 i := fun i => xFr_E hfr rfl
        have e11 : ∀ i, xE E2 11 i = xE E 11 i := fun i => xFr_E hfr rfl
        have hI : E = E0 ∧ (v 1) = x0 0 ∧ (v 2) = x0 1 ∧ (v 3) = x0 2 := hInv
        have q10 : ∀ i, xE E 10 i = xE E0 10 i := fun i => by rw [hI.1]
        have q11 : ∀ i, xE E 11 i = xE E0 11 i := fun i => by rw [hI.1]
        show xΨcpg1 x0 E0 E2 (-1)
        obtain ⟨hE, i1, i2, i3⟩ := hI
        have hSW := q2_3
        have hvl : ¬ xVp1 x0 E0 := by
          unfold xVp1
          rintro ⟨⟨y1, y2⟩, y3, y4, ⟨y5, y6⟩, y7⟩
          omega
        exact ⟨fun h => absurd h hvl, fun _ => ⟨by omega, fun k => (e10 k).trans (q10 k), fun k => (e11 k).trans (q11 k)⟩⟩
      · skip
        rcases List.mem_cons.mp hx with ex | hx
        · subst ex
          obtain ⟨hF, hBd, hM⟩ := hXs
          have g1 : v2 1 = v 1 := hag 1 (by decide)
          have g2 : v2 2 = v 2 := hag 2 (by decide)
          have g3 : v2 3 = v 3 := hag 3 (by decide)
          have b0 : ((2147483653 : Nat) : Int) ≤ (v2 3) + 2147483648 ∧ (v2 3) + 2147483648 ≤ ((4294967295 : Nat) : Int) := xXb hBd 0 rfl
          have f0 : 1 ≤ (v2 3) := xXf hF 0 rfl
          have f1 : 4 < (v2 3) := xXf hF 1 rfl
          have e2_3 : xE E2 2 3 = xE E 2 3 := xFr_E hfr rfl
          have q2_3 : xE E 2 3 = xE E0 2 3 := xFr_E hFr0 rfl
          have e10 : ∀ i, xE E2 10 i = xE E 10 i := fun i => xFr_E hfr rfl
          have e11 : ∀ i, xE E2 11 i = xE E 11 i := fun i => xFr_E hfr rfl
          have hI : E = E0 ∧ (v 1) = x0 0 ∧ (v 2) = x0 1 ∧ (v 3) = x0 2 := hInv
          have q10 : ∀ i, xE E 10 i = xE E0 10 i := fun i => by rw [hI.1]
          have q11 : ∀ i, xE E 11 i = xE E0 11 i := fun i => by rw [hI.1]
          show xΨcpg1 x0 E0 E2 (-1)
          obtain ⟨hE, i1, i2, i3⟩ := hI
          have hSW := q2_3
          have hvl : ¬ xVp1 x0 E0 := by
            unfold xVp1
            rintro ⟨⟨y1, y2⟩, y3, y4, ⟨y5, y6⟩, y7⟩
            omega
          exact ⟨fun h => absurd h hvl, fun _ => ⟨by omega, fun k => (e10 k).trans (q10 k), fun k => (e11 k).trans (q11 k)⟩⟩
        · skip
          rcases List.mem_cons.mp hx with ex | hx
          · subst ex
            obtain ⟨hF, hBd, hM⟩ := hXs
            have g1 : v2 1 = v 1 := hag 1 (by decide)
            have g2 : v2 2 = v 2 := hag 2 (by decide)
            have g3 : v2 3 = v 3 := hag 3 (by decide)
            have b0 : ((0 : Nat) : Int) ≤ (v2 2) + 2147483648 ∧ (v2 2) + 2147483648 ≤ ((2147483647 : Nat) : Int) := xXb hBd 0 rfl
            have b1 : ((2147483649 : Nat) : Int) ≤ (v2 3) + 2147483648 ∧ (v2 3) + 2147483648 ≤ ((2147483652 : Nat) : Int) := xXb hBd 1 rfl
            have f0 : 1 ≤ (v2 3) := xXf hF 0 rfl
            have f1 : (v2 3) ≤ 4 := xXf hF 1 rfl
            have f2 : (v2 2) < 0 := xXf hF 2 rfl
            have e2_3 : xE E2 2 3 = xE E 2 3 := xFr_E hfr rfl
            have q2_3 : xE E 2 3 = xE E0 2 3 := xFr_E hFr0 rfl
            have e10 : ∀ i, xE E2 10 i = xE E 10 i := fun i => xFr_E hfr rfl
            have e11 : ∀ i, xE E2 11 i = xE E 11 i := fun i => xFr_E hfr rfl
            have hI : E = E0 ∧ (v 1) = x0 0 ∧ (v 2) = x0 1 ∧ (v 3) = x0 2 := hInv
            have q10 : ∀ i, xE E 10 i = xE E0 10 i := fun i => by rw [hI.1]
            have q11 : ∀ i, xE E 11 i = xE E0 11 i := fun i => by rw [hI.1]
            show xΨcpg1 x0 E0 E2 (-1)
            obtain ⟨hE, i1, i2, i3⟩ := hI
            have hSW := q2_3
            have hvl : ¬ xVp1 x0 E0 := by
              unfold xVp1
              rintro ⟨⟨y1, y2⟩, y3, y4, ⟨y5, y6⟩, y7⟩
              omega
            exact ⟨fun h => absurd h hvl, fun _ => ⟨by omega, fun k => (e10 k).trans (q10 k), fun k => (e11 k).trans (q11 k)⟩⟩
          · skip
            rcases List.mem_cons.mp hx with ex | hx
            · subst ex
              obtain ⟨hF, hBd, hM⟩ := hXs
              have g1 : v2 1 = v 1 := hag 1 (by decide)
              have g2 : v2 2 = v 2 := hag 2 (by decide)
              have g3 : v2 3 = v 3 := hag 3 (by decide)
              have b0 : ((2147483648 : Nat) : Int) ≤ (v2 2) + 2147483648 ∧ (v2 2) + 2147483648 ≤ ((4294967295 : Nat) : Int) := xXb hBd 0 rfl
              have b1 : ((2147483649 : Nat) : Int) ≤ (v2 3) + 2147483648 ∧ (v2 3) + 2147483648 ≤ ((2147483652 : Nat) : Int) := xXb hBd 1 rfl
              have b2 : ((2147483649 : Nat) : Int) ≤ (v2 4) + 2147483648 ∧ (v2 4) + 2147483648 ≤ ((3221225471 : Nat) : Int) := xXb hBd 2 rfl
              have f0 : 1 ≤ (v2 3) := xXf hF 0 rfl
              have f1 : (v2 3) ≤ 4 := xXf hF 1 rfl
              have f2 : 0 ≤ (v2 2) := xXf hF 2 rfl
              have f3 : (v2 4) = xop 9 (v2 2) (v2 3) := xXf hF 3 rfl
              have f4 : ¬ (v2 4) = 0 := xXf hF 4 rfl
              have e2_3 : xE E2 2 3 = xE E 2 3 := xFr_E hfr rfl
              have q2_3 : xE E 2 3 = xE E0 2 3 := xFr_E hFr0 rfl
              have e10 : ∀ i, xE E2 10 i = xE E 10 i := fun i => xFr_E hfr rfl
              have e11 : ∀ i, xE E2 11 i = xE E 11 i := fun i => xFr_E hfr rfl
              have hI : E = E0 ∧ (v 1) = x0 0 ∧ (v 2) = x0 1 ∧ (v 3) = x0 2 := hInv
              have q10 : ∀ i, xE E 10 i = xE E0 10 i := fun i => by rw [hI.1]
              have q11 : ∀ i, xE E 11 i = xE E0 11 i := fun i => by rw [hI.1]
              show xΨcpg1 x0 E0 E2 (-1)
              obtain ⟨hE, i1, i2, i3⟩ := hI
              have hSW := q2_3
              rw [show (v2 2) = x0 1 by omega, show (v2 3) = x0 2 by omega] at f3
              have hvl : ¬ xVp1 x0 E0 := by
                unfold xVp1
                rintro ⟨⟨y1, y2⟩, y3, y4, ⟨y5, y6⟩, y7⟩
                omega
              exact ⟨fun h => absurd h hvl, fun _ => ⟨by omega, fun k => (e10 k).trans (q10 k), fun k => (e11 k).trans (q11 k)⟩⟩
            · skip
              rcases List.mem_cons.mp hx with ex | hx
              · subst ex
                obtain ⟨hF, hBd, hM⟩ := hXs
                have g1 : v2 1 = v 1 := hag 1 (by decide)
                have g2 : v2 2 = v 2 := hag 2 (by decide)
                have g3 : v2 3 = v 3 := hag 3 (by decide)
                have b0 : ((0 : Nat) : Int) ≤ (v2 1) + 2147483648 ∧ (v2 1) + 2147483648 ≤ ((2147483647 : Nat) : Int) := xXb hBd 0 rfl
                have b1 : ((2147483648 : Nat) : Int) ≤ (v2 2) + 2147483648 ∧ (v2 2) + 2147483648 ≤ ((4294967295 : Nat) : Int) := xXb hBd 1 rfl
                have b2 : ((2147483649 : Nat) : Int) ≤ (v2 3) + 2147483648 ∧ (v2 3) + 2147483648 ≤ ((2147483652 : Nat) : Int) := xXb hBd 2 rfl
                have b3 : ((2147483648 : Nat) : Int) ≤ (v2 4) + 2147483648 ∧ (v2 4) + 2147483648 ≤ ((2147483648 : Nat) : Int) := xXb hBd 3 rfl
                have f0 : 1 ≤ (v2 3) := xXf hF 0 rfl
                have f1 : (v2 3) ≤ 4 := xXf hF 1 rfl
                have f2 : 0 ≤ (v2 2) := xXf hF 2 rfl
                have f3 : (v2 4) = xop 9 (v2 2) (v2 3) := xXf hF 3 rfl
                have f4 : (v2 4) = 0 := xXf hF 4 rfl
                have f5 : (v2 1) < 0 := xXf hF 5 rfl
                have e2_3 : xE E2 2 3 = xE E 2 3 := xFr_E hfr rfl
                have q2_3 : xE E 2 3 = xE E0 2 3 := xFr_E hFr0 rfl
                have e10 : ∀ i, xE E2 10 i = xE E 10 i := fun i => xFr_E hfr rfl
                have e11 : ∀ i, xE E2 11 i = xE E 11 i := fun i => xFr_E hfr rfl
                have hI : E = E0 ∧ (v 1) = x0 0 ∧ (v 2) = x0 1 ∧ (v 3) = x0 2 := hInv
                have q10 : ∀ i, xE E 10 i = xE E0 10 i := fun i => by rw [hI.1]
                have q11 : ∀ i, xE E 11 i = xE E0 11 i := fun i => by rw [hI.1]
                show xΨcpg1 x0 E0 E2 (-1)
                obtain ⟨hE, i1, i2, i3⟩ := hI
                have hSW := q2_3
                rw [show (v2 2) = x0 1 by omega, show (v2 3) = x0 2 by omega] at f3
                have hvl : ¬ xVp1 x0 E0 := by
                  unfold xVp1
                  rintro ⟨⟨y1, y2⟩, y3, y4, ⟨y5, y6⟩, y7⟩
                  omega
                exact ⟨fun h => absurd h hvl, fun _ => ⟨by omega, fun k => (e10 k).trans (q10 k), fun k => (e11 k).trans (q11 k)⟩⟩
              · skip
                rcases List.mem_cons.mp hx with ex | hx
                · subst ex
                  obtain ⟨hF, hBd, hM⟩ := hXs
                  have g1 : v2 1 = v 1 := hag 1 (by decide)
                  have g2 : v2 2 = v 2 := hag 2 (by decide)
                  have g3 : v2 3 = v 3 := hag 3 (by decide)
                  have b0 : ((2147483648 : Nat) : Int) ≤ (v2 1) + 2147483648 ∧ (v2 1) + 2147483648 ≤ ((2147483678 : Nat) : Int) := xXb hBd 0 rfl
                  have b1 : ((2147483648 : Nat) : Int) ≤ (v2 2) + 2147483648 ∧ (v2 2) + 2147483648 ≤ ((4294967295 : Nat) : Int) := xXb hBd 1 rfl
                  have b2 : ((2147483649 : Nat) : Int) ≤ (v2 3) + 2147483648 ∧ (v2 3) + 2147483648 ≤ ((2147483652 : Nat) : Int) := xXb hBd 2 rfl
                  have b3 : ((2147483648 : Nat) : Int) ≤ (v2 4) + 2147483648 ∧ (v2 4) + 2147483648 ≤ ((2147483648 : Nat) : Int) := xXb hBd 3 rfl
                  have b4 : ((2147483649 : Nat) : Int) ≤ (v2 5) + 2147483648 ∧ (v2 5) + 2147483648 ≤ ((2147483679 : Nat) : Int) := xXb hBd 4 rfl
                  have b5 : ((2147483648 : Nat) : Int) ≤ (v2 6) + 2147483648 ∧ (v2 6) + 2147483648 ≤ ((4294967295 : Nat) : Int) := xXb hBd 5 rfl
                  have b6 : ((2147483648 : Nat) : Int) ≤ (v2 7) + 2147483648 ∧ (v2 7) + 2147483648 ≤ ((2147483652 : Nat) : Int) := xXb hBd 6 rfl
                  have f0 : 1 ≤ (v2 3) := xXf hF 0 rfl
                  have f1 : (v2 3) ≤ 4 := xXf hF 1 rfl
                  have f2 : 0 ≤ (v2 2) := xXf hF 2 rfl
                  have f3 : (v2 4) = xop 9 (v2 2) (v2 3) := xXf hF 3 rfl
                  have f4 : (v2 4) = 0 := xXf hF 4 rfl
                  have f5 : 0 ≤ (v2 1) := xXf hF 5 rfl
                  have f6 : (0 : Int) ≤ 3 ∧ xE E 2 3 = (v2 5) := xXf hF 6 rfl
                  have f7 : (v2 1) < (v2 5) := xXf hF 7 rfl
                  have f8 : (0 : Int) ≤ (v2 1) ∧ xE E 10 (v2 1) = (v2 6) := xXf hF 8 rfl
                  have f9 : (v2 6) = (v2 2) := xXf hF 9 rfl
                  have f10 : (0 : Int) ≤ (v2 1) ∧ xE E 11 (v2 1) = (v2 7) := xXf hF 10 rfl
                  have f11 : (v2 7) = (v2 3) := xXf hF 11 rfl
                  have e2_3 : xE E2 2 3 = xE E 2 3 := xFr_E hfr rfl
                  have q2_3 : xE E 2 3 = xE E0 2 3 := xFr_E hFr0 rfl
                  have e10 : ∀ i, xE E2 10 i = xE E 10 i := fun i => xFr_E hfr rfl
                  have e11 : ∀ i, xE E2 11 i = xE E 11 i := fun i => xFr_E hfr rfl
                  have hI : E = E0 ∧ (v 1) = x0 0 ∧ (v 2) = x0 1 ∧ (v 3) = x0 2 := hInv
                  have q10 : ∀ i, xE E 10 i = xE E0 10 i := fun i => by rw [hI.1]
                  have q11 : ∀ i, xE E 11 i = xE E0 11 i := fun i => by rw [hI.1]
                  show xΨcpg1 x0 E0 E2 (-1)
                  obtain ⟨hE, i1, i2, i3⟩ := hI
                  have hSW := q2_3
                  have c10 : xE E0 11 ((v2 1)) = (v2 7) := (q11 _).symm.trans f10.2
                  rw [show (v2 1) = x0 0 by omega] at c10
                  have c8 : xE E0 10 ((v2 1)) = (v2 6) := (q10 _).symm.trans f8.2
                  rw [show (v2 1) = x0 0 by omega] at c8
                  rw [show (v2 2) = x0 1 by omega, show (v2 3) = x0 2 by omega] at f3
                  have hvl : ¬ xVp1 x0 E0 := by
                    unfold xVp1
                    rintro ⟨⟨y1, y2⟩, y3, y4, ⟨y5, y6⟩, y7⟩
                    omega
                  exact ⟨fun h => absurd h hvl, fun _ => ⟨by omega, fun k => (e10 k).trans (q10 k), fun k => (e11 k).trans (q11 k)⟩⟩
                · skip
                  have ex := List.mem_singleton.mp hx
                  subst ex
                  obtain ⟨hF, hBd, hM⟩ := hXs
                  have g1 : v2 1 = v 1 := hag 1 (by decide)
                  have g2 : v2 2 = v 2 := hag 2 (by decide)
                  have g3 : v2 3 = v 3 := hag 3 (by decide)
                  have b0 : ((2147483648 : Nat) : Int) ≤ (v2 1) + 2147483648 ∧ (v2 1) + 2147483648 ≤ ((4294967295 : Nat) : Int) := xXb hBd 0 rfl
                  have b1 : ((2147483648 : Nat) : Int) ≤ (v2 2) + 2147483648 ∧ (v2 2) + 2147483648 ≤ ((4294967295 : Nat) : Int) := xXb hBd 1 rfl
                  have b2 : ((2147483649 : Nat) : Int) ≤ (v2 3) + 2147483648 ∧ (v2 3) + 2147483648 ≤ ((2147483652 : Nat) : Int) := xXb hBd 2 rfl
                  have b3 : ((2147483648 : Nat) : Int) ≤ (v2 4) + 2147483648 ∧ (v2 4) + 2147483648 ≤ ((2147483648 : Nat) : Int) := xXb hBd 3 rfl
                  have b4 : ((2147483648 : Nat) : Int) ≤ (v2 5) + 2147483648 ∧ (v2 5) + 2147483648 ≤ ((2147483679 : Nat) : Int) := xXb hBd 4 rfl
                  have f0 : 1 ≤ (v2 3) := xXf hF 0 rfl
                  have f1 : (v2 3) ≤ 4 := xXf hF 1 rfl
                  have f2 : 0 ≤ (v2 2) := xXf hF 2 rfl
                  have f3 : (v2 4) = xop 9 (v2 2) (v2 3) := xXf hF 3 rfl
                  have f4 : (v2 4) = 0 := xXf hF 4 rfl
                  have f5 : 0 ≤ (v2 1) := xXf hF 5 rfl
                  have f6 : (0 : Int) ≤ 3 ∧ xE E 2 3 = (v2 5) := xXf hF 6 rfl
                  have f7 : (v2 5) ≤ (v2 1) := xXf hF 7 rfl
                  have e2_3 : xE E2 2 3 = xE E 2 3 := xFr_E hfr rfl
                  have q2_3 : xE E 2 3 = xE E0 2 3 := xFr_E hFr0 rfl
                  have e10 : ∀ i, xE E2 10 i = xE E 10 i := fun i => xFr_E hfr rfl
                  have e11 : ∀ i, xE E2 11 i = xE E 11 i := fun i => xFr_E hfr rfl
                  have hI : E = E0 ∧ (v 1) = x0 0 ∧ (v 2) = x0 1 ∧ (v 3) = x0 2 := hInv
                  have q10 : ∀ i, xE E 10 i = xE E0 10 i := fun i => by rw [hI.1]
                  have q11 : ∀ i, xE E 11 i = xE E0 11 i := fun i => by rw [hI.1]
                  show xΨcpg1 x0 E0 E2 (-1)
                  obtain ⟨hE, i1, i2, i3⟩ := hI
                  have hSW := q2_3
                  rw [show (v2 2) = x0 1 by omega, show (v2 3) = x0 2 by omega] at f3
                  have hvl : ¬ xVp1 x0 E0 := by
                    unfold xVp1
                    rintro ⟨⟨y1, y2⟩, y3, y4, ⟨y5, y6⟩, y7⟩
                    omega
                  exact ⟨fun h => absurd h hvl, fun _ => ⟨by omega, fun k => (e10 k).trans (q10 k), fun k => (e11 k).trans (q11 k)⟩⟩
    · cases hx
    · cases hx
    · cases hx
    · have hx : x ∈ [zxfcpg1_dr0] := hx
      have hag : ∀ k, k < 4 → v2 k = v k := hag
      have hfr : xFr [(0, 0, 0)] _ _ := hfr
      have ex := List.mem_singleton.mp hx
      subst ex
      obtain ⟨hF, hBd, hM⟩ := hXs
      have g3 : v2 3 = v 3 := hag 3 (by decide)
      have b0 : ((2147483649 : Nat) : Int) ≤ (v2 3) + 2147483648 ∧ (v2 3) + 2147483648 ≤ ((2147483652 : Nat) : Int) := xXb hBd 0 rfl
      have e2_3 : xE E2 2 3 = xE E 2 3 := xFr_E hfr rfl
      have q2_3 : xE E 2 3 = xE E0 2 3 := xFr_E hFr0 rfl
      have e10 : ∀ i, xE E2 10 i = xE E 10 i := fun i => xFr_E hfr rfl
      have e11 : ∀ i, xE E2 11 i = xE E 11 i := fun i => xFr_E hfr rfl
      have hI : xVp1 x0 E0 ∧ (∀ k, 0 ≤ k → xE E 10 k = uS (xE E0 10) (x0 0) (x0 1) k) ∧ (∀ k, 0 ≤ k → xE E 11 k = uS (xE E0 11) (x0 0) (x0 2) k) ∧ (v 3) = x0 2 := hInv
      show xΨcpg1 x0 E0 E2 (v2 3)
      obtain ⟨hvl, hc1, hc2, i3⟩ := hI
      exact ⟨fun _ => ⟨by omega, fun k k0 => (e10 k).trans (hc1 k k0), fun k k0 => (e11 k).trans (hc2 k k0)⟩, fun h => absurd hvl h⟩
noncomputable def zxfcst1_zx0 : zyXp := (0, [3, 34359738369, 68719476737, 13], [], [], [], [])
noncomputable def zpfcst1_z : zyPh := (0, [3, 34359738369, 68719476737, 13], [(0, 4294967295), (0, 4294967295), (0, 4294967295), (0, 4294967295)], [], [])
noncomputable def zxfcst1_ax0 : zyXp := (50, [3, 34359738369, 68719476737, 171798691841], [], [(21, 0, 68719476737, 0), (21, 0, 16, 68719476737), (21, 0, 34359738369, 0), (24, 137438953473, 2, 24), (20, 0, 34359738369, 137438953473), (24, 171798691841, 12, 34359738369), (23, 0, 171798691841, 68719476737)], [(34359738369, 2147483648, 2147483678), (68719476737, 2147483648, 2147483650), (137438953473, 2147483649, 2147483679), (171798691841, 2147483648, 2147483650)], [])
noncomputable def zxfcst1_ar0 : zyXp := (0, [], [34359738360], [(20, 0, 68719476737, 0)], [(68719476737, 0, 2147483647)], [])
noncomputable def zxfcst1_ar1 : zyXp := (0, [], [34359738360], [(21, 0, 68719476737, 0), (20, 0, 16, 68719476737)], [(68719476737, 2147483651, 4294967295)], [])
noncomputable def zxfcst1_ar2 : zyXp := (0, [], [34359738360], [(21, 0, 68719476737, 0), (21, 0, 16, 68719476737), (20, 0, 34359738369, 0)], [(34359738369, 0, 2147483647), (68719476737, 2147483648, 2147483650)], [])
noncomputable def zxfcst1_ar3 : zyXp := (0, [], [34359738360], [(21, 0, 68719476737, 0), (21, 0, 16, 68719476737), (21, 0, 34359738369, 0), (24, 137438953473, 2, 24), (20, 0, 34359738369, 137438953473), (24, 171798691841, 12, 34359738369), (22, 0, 171798691841, 68719476737)], [(34359738369, 2147483648, 2147483678), (68719476737, 2147483648, 2147483650), (137438953473, 2147483649, 2147483679), (171798691841, 2147483648, 2147483650)], [])
noncomputable def zxfcst1_ar4 : zyXp := (0, [], [34359738360], [(21, 0, 68719476737, 0), (21, 0, 16, 68719476737), (21, 0, 34359738369, 0), (24, 137438953473, 2, 24), (21, 0, 34359738369, 137438953473)], [(34359738369, 2147483648, 4294967295), (68719476737, 2147483648, 2147483650), (137438953473, 2147483648, 2147483679)], [])
noncomputable def zpfcst1_a : zyPh := (0, [3, 34359738369, 68719476737, 13], [(0, 4294967295), (0, 4294967295), (0, 4294967295), (0, 4294967295)], [(1, 11)], [])
noncomputable def zxfcst1_bx0 : zyXp := (50, [3, 34359738369, 68719476737, 103079215105], [], [], [(34359738369, 2147483648, 2147483678), (68719476737, 2147483648, 2147483650)], [])
noncomputable def zpfcst1_b : zyPh := (50, [3, 34359738369, 68719476737, 103079215105], [(0, 4294967295), (2147483648, 2147483678), (2147483648, 2147483650), (0, 4294967295)], [], [])
noncomputable def zxfcst1_b2x0 : zyXp := (59, [3, 13, 13, 103079215105], [68719476737, 34359738369, 99], [], [(34359738369, 2147483648, 2147483678), (68719476737, 2147483648, 2147483650)], [])
noncomputable def zpfcst1_b2 : zyPh := (50, [3, 34359738369, 68719476737, 103079215105], [(0, 4294967295), (2147483648, 2147483678), (2147483648, 2147483650), (0, 4294967295)], [(1, 11)], [])
noncomputable def zxfcst1_cr0 : zyXp := (0, [], [103079215105], [], [], [])
noncomputable def zpfcst1_c : zyPh := (60, [3, 13, 13, 103079215105], [(0, 4294967295), (0, 4294967295), (0, 4294967295), (0, 4294967295)], [], [])
noncomputable def zpfcst1 (i : Nat) : zyPh := zif (Nat.beq i 0) (zpfcst1_z) (zif (Nat.beq i 1) (zpfcst1_a) (zif (Nat.beq i 2) (zpfcst1_b) (zif (Nat.beq i 3) (zpfcst1_b2) (zpfcst1_c))))
noncomputable def zXfcst1 (i : Nat) : List zyXp := zif (Nat.beq i 0) ([zxfcst1_zx0]) (zif (Nat.beq i 1) ([zxfcst1_ax0]) (zif (Nat.beq i 2) ([zxfcst1_bx0]) (zif (Nat.beq i 3) ([zxfcst1_b2x0]) ([]))))
noncomputable def zRfcst1 (i : Nat) : List zyXp := zif (Nat.beq i 0) ([]) (zif (Nat.beq i 1) ([zxfcst1_ar0, zxfcst1_ar1, zxfcst1_ar2, zxfcst1_ar3, zxfcst1_ar4]) (zif (Nat.beq i 2) ([]) (zif (Nat.beq i 3) ([]) ([zxfcst1_cr0]))))
noncomputable def zFfcst1 (i : Nat) : zyR := zif (Nat.beq i 0) ([]) (zif (Nat.beq i 1) ([(0, 0, 0)]) (zif (Nat.beq i 2) ([]) (zif (Nat.beq i 3) ([]) ([(0, 0, 0)]))))
noncomputable def zSfcst1 (i : Nat) : Nat := zif (Nat.beq i 0) (0) (zif (Nat.beq i 1) (0) (zif (Nat.beq i 2) (0) (zif (Nat.beq i 3) (0) (0))))
def xVs1 (x : Nat → Int) (E : zyEm) : Prop := (0 ≤ x 1 ∧ x 1 ≤ 2) ∧ (0 ≤ x 0 ∧ x 0 < xE E 2 3) ∧ ¬ xE E 12 (x 0) = x 1
def xΨcst1 (x : Nat → Int) (E E2 : zyEm) (r : Int) : Prop := (xVs1 x E → r = xE E 12 (x 0) ∧ ∀ k, 0 ≤ k → xE E2 12 k = uS (xE E 12) (x 0) (x 1) k) ∧ (¬ xVs1 x E → r = -1 ∧ ∀ k, xE E2 12 k = xE E 12 k)
noncomputable def fpfcst1 : zyR := [(0, 0, 0), (12, 0, 30)]
theorem zyfcst1_run : zyrS zymc zxi130 (130, 0, 0, 1, 0) 4 zpfcst1 (fun _ _ => []) zFfcst1 zSfcst1 zXfcst1 zRfcst1 5 = true := by decide +kernel
theorem zyfcst1_ck : zyAll (fun i => xsubR (zFfcst1 i) fpfcst1 && ((zXfcst1 i).all xckX && (zRfcst1 i).all (fun x => xckX x && xrtB true x))) 5 = true := by decide +kernel
def xIfcst1 (i : Nat) (x0 : Nat → Int) (E0 : zyEm) (v : Nat → Int) (E : zyEm) : Prop := if i = 0 then (E = E0 ∧ (v 1) = x0 0 ∧ (v 2) = x0 1) else if i = 1 then (E = E0 ∧ (v 1) = x0 0 ∧ (v 2) = x0 1) else if i = 2 then (xVs1 x0 E0 ∧ (∀ k, 0 ≤ k → xE E 12 k = xE E0 12 k) ∧ (v 1) = x0 0 ∧ (v 2) = x0 1 ∧ (v 3) = xE E0 12 (x0 0)) else if i = 3 then (xVs1 x0 E0 ∧ (∀ k, 0 ≤ k → xE E 12 k = xE E0 12 k) ∧ (v 1) = x0 0 ∧ (v 2) = x0 1 ∧ (v 3) = xE E0 12 (x0 0)) else (xVs1 x0 E0 ∧ (∀ k, 0 ≤ k → xE E 12 k = uS (xE E0 12) (x0 0) (x0 1) k) ∧ (v 3) = xE E0 12 (x0 0))
def xMfcst1 (i : Nat) (x0 : Nat → Int) (E0 : zyEm) (v : Nat → Int) (E : zyEm) : Nat := if i = 0 then (9) else if i = 1 then (8) else if i = 2 then (7) else if i = 3 then (6) else (5)
theorem xCst1 {l : Launch} {en : zEn} {me : zMe} (hen : zG zxMeta 130 = some en) (hme : zG zMeth 130 = some me) : ∀ B, xFcB l zymc B en me 4 [0] 2 fpfcst1 true (xΦpl1 B) xΨcst1 := by
  have een : zG zxMeta 130 = some (zxi130, 3, 4, 10, 130, 0, 0, 1, 0) := rfl
  obtain ⟨me1, hme1, hOK⟩ := zall hen
  rw [hme] at hme1
  cases hme1
  rw [een] at hen
  cases hen
  have hr := zyfcst1_run
  have hck := fun i hi => zyAll_iff zyfcst1_ck i hi
  simp only [Bool.and_eq_true] at hck
  intro B
  refine xcut (mi := zymc) (B := B) hOK rfl rfl (ι := Fin 5) (fun i => zpfcst1 i.val) (fun _ _ => []) (fun i => zFfcst1 i.val) (fun i => zSfcst1 i.val) (fun i => zXfcst1 i.val) (fun i => zRfcst1 i.val) (fun i y2 ct en2 me2 h => by cases h) 200000 (fun i => zyAll_iff hr i.val i.isLt) (fun i => (hck i.val i.isLt).1) (fun i => (hck i.val i.isLt).2.1) (fun i => (hck i.val i.isLt).2.2) ⟨0, by decide⟩ ⟨rfl, rfl, rfl, rfl⟩ ⟨by decide, by decide⟩ (fun i x0 E0 v E => xIfcst1 i.val x0 E0 v E) (fun i x0 E0 v E => xMfcst1 i.val x0 E0 v E) ?_ ?_ ?_
  · intro x0 E hx0 hT hΦ
    have hΦ : (xΦpl1 B) x0 E := hΦ
    refine ⟨fun k p hp => ?_, ?_⟩
    · have hk : k < 4 := (List.getElem?_eq_some_iff.mp hp).1
      have hk : k = 0 ∨ k = 1 ∨ k = 2 ∨ k = 3 := by omega
      rcases hk with rfl | rfl | rfl | rfl
      · have hp : some (0, 4294967295) = some p := hp
        cases hp
        show ((0 : Nat) : Int) ≤ 0 + 2147483648 ∧ 0 + 2147483648 ≤ ((4294967295 : Nat) : Int)
        omega
      · have hp : some (0, 4294967295) = some p := hp
        cases hp
        show ((0 : Nat) : Int) ≤ x0 0 + 2147483648 ∧ x0 0 + 2147483648 ≤ ((4294967295 : Nat) : Int)
        have hx := hx0 0
        omega
      · have hp : some (0, 4294967295) = some p := hp
        cases hp
        show ((0 : Nat) : Int) ≤ x0 1 + 2147483648 ∧ x0 1 + 2147483648 ≤ ((4294967295 : Nat) : Int)
        have hx := hx0 1
        omega
      · have hp : some (0, 4294967295) = some p := hp
        cases hp
        show ((0 : Nat) : Int) ≤ x0 2 + 2147483648 ∧ x0 2 + 2147483648 ≤ ((4294967295 : Nat) : Int)
        have hx := hx0 2
        omega
    · show E = E ∧ (x0 0) = x0 0 ∧ (x0 1) = x0 1
      exact ⟨rfl, rfl, rfl⟩
  · intro x0 s Wg hRu hrx hT0 hΦ i v H hT hrv hInv hKc hFr0 hIH x hx ρ2 v2 N2 H2 locs lsB stA hAt hB hv hr2 hXs hag hfr hFr hT2
    rcases i with ⟨i, hi⟩
    have hi2 : i = 0 ∨ i = 1 ∨ i = 2 ∨ i = 3 ∨ i = 4 := by omega
    rcases hi2 with rfl | rfl | rfl | rfl | rfl
    · have hx : x ∈ [zxfcst1_zx0] := hx
      have hag : ∀ k, k < 4 → v2 k = v k := hag
      have hfr : xFr [] _ _ := hfr
      have ex := List.mem_singleton.mp hx
      subst ex
      obtain ⟨hF, hBd, hM⟩ := hXs
      have r1 := hr2 1
      have r2 := hr2 2
      have g1 : v2 1 = v 1 := hag 1 (by decide)
      have g2 : v2 2 = v 2 := hag 2 (by decide)
      have e2_3 : xE (zyEl zymc B H2) 2 3 = xE (zyEl zymc B H) 2 3 := xFr_E hfr rfl
      have q2_3 : xE (zyEl zymc B H) 2 3 = xE (zyEl zymc B s.heap) 2 3 := xFr_E hFr0 rfl
      have e12 : ∀ i, xE (zyEl zymc B H2) 12 i = xE (zyEl zymc B H) 12 i := fun i => xFr_E hfr rfl
      have hI : (zyEl zymc B H) = (zyEl zymc B s.heap) ∧ (v 1) = x0 0 ∧ (v 2) = x0 1 := hInv
      have q12 : ∀ i, xE (zyEl zymc B H) 12 i = xE (zyEl zymc B s.heap) 12 i := fun i => by rw [hI.1]
      obtain ⟨hE, i1, i2⟩ := hI
      refine xGo hIH hAt hB hv hFr ⟨1, by decide⟩ [0, 34359738369, 68719476737, 0] [0, (v2 1), (v2 2), 0] rfl ⟨by decide +kernel, ⟨rfl, by decide +kernel⟩, (xcs_c rfl (xcs_c rfl (xcs_c rfl (xcs_c rfl xcs_n)))), (xe_0 (xe_f (by omega) (xe_f (by omega) (xe_0 xe_n)))), (xkq_r 0 1 1 rfl rfl rfl rfl rfl (by rw [xFr_n hfr, hE]; exact hΦ) xkq_n)⟩ xst_n ?_ ?_
      · show (zyEl zymc B H2) = (zyEl zymc B s.heap) ∧ ((v2 1) : Int) = x0 0 ∧ ((v2 2) : Int) = x0 1
        exact ⟨(xFr_n hfr).trans hE, by omega, by omega⟩
      · show 8 < 9
        omega
    · have hx : x ∈ [zxfcst1_ax0] := hx
      have hag : ∀ k, k < 4 → v2 k = v k := hag
      have hfr : xFr [(0, 0, 0)] _ _ := hfr
      have ex := List.mem_singleton.mp hx
      subst ex
      obtain ⟨hF, hBd, hM⟩ := hXs
      have g1 : v2 1 = v 1 := hag 1 (by decide)
      have g2 : v2 2 = v 2 := hag 2 (by decide)
      have b0 : ((2147483648 : Nat) : Int) ≤ (v2 1) + 2147483648 ∧ (v2 1) + 2147483648 ≤ ((2147483678 : Nat) : Int) := xXb hBd 0 rfl
      have b1 : ((2147483648 : Nat) : Int) ≤ (v2 2) + 2147483648 ∧ (v2 2) + 2147483648 ≤ ((2147483650 : Nat) : Int) := xXb hBd 1 rfl
      have b2 : ((2147483649 : Nat) : Int) ≤ (v2 4) + 2147483648 ∧ (v2 4) + 2147483648 ≤ ((2147483679 : Nat) : Int) := xXb hBd 2 rfl
      have b3 : ((2147483648 : Nat) : Int) ≤ (v2 5) + 2147483648 ∧ (v2 5) + 2147483648 ≤ ((2147483650 : Nat) : Int) := xXb hBd 3 rfl
      have f0 : 0 ≤ (v2 2) := xXf hF 0 rfl
      have f1 : (v2 2) ≤ 2 := xXf hF 1 rfl
      have f2 : 0 ≤ (v2 1) := xXf hF 2 rfl
      have f3 : (0 : Int) ≤ 3 ∧ xE (zyEl zymc B H) 2 3 = (v2 4) := xXf hF 3 rfl
      have f4 : (v2 1) < (v2 4) := xXf hF 4 rfl
      have f5 : (0 : Int) ≤ (v2 1) ∧ xE (zyEl zymc B H) 12 (v2 1) = (v2 5) := xXf hF 5 rfl
      have f6 : ¬ (v2 5) = (v2 2) := xXf hF 6 rfl
      have e2_3 : xE (zyEl zymc B H2) 2 3 = xE (zyEl zymc B H) 2 3 := xFr_E hfr rfl
      have q2_3 : xE (zyEl zymc B H) 2 3 = xE (zyEl zymc B s.heap) 2 3 := xFr_E hFr0 rfl
      have e12 : ∀ i, xE (zyEl zymc B H2) 12 i = xE (zyEl zymc B H) 12 i := fun i => xFr_E hfr rfl
      have hI : (zyEl zymc B H) = (zyEl zymc B s.heap) ∧ (v 1) = x0 0 ∧ (v 2) = x0 1 := hInv
      have q12 : ∀ i, xE (zyEl zymc B H) 12 i = xE (zyEl zymc B s.heap) 12 i := fun i => by rw [hI.1]
      obtain ⟨hE, i1, i2⟩ := hI
      have hSW := q2_3
      have c5 : xE (zyEl zymc B s.heap) 12 ((v2 1)) = (v2 5) := (q12 _).symm.trans f5.2
      rw [show (v2 1) = x0 0 by omega] at c5
      have hvl : xVs1 x0 (zyEl zymc B s.heap) := by
        unfold xVs1
        refine ⟨⟨by omega, by omega⟩, ⟨by omega, by omega⟩, ?_⟩
        intro y1
        omega
      refine xGo hIH hAt hB hv hFr ⟨2, by decide⟩ [0, 34359738369, 68719476737, 171798691841] [0, (v2 1), (v2 2), (v2 5)] rfl ⟨by decide +kernel, ⟨rfl, by decide +kernel⟩, (xcs_c rfl (xcs_c rfl (xcs_c rfl (xcs_c rfl xcs_n)))), (xe_0 (xe_c (by omega) (by omega) rfl (xe_c (by omega) (by omega) rfl (xe_f (by omega) xe_n)))), xkq_n⟩ xst_n ?_ ?_
      · show xVs1 x0 (zyEl zymc B s.heap) ∧ (∀ k, 0 ≤ k → xE (zyEl zymc B H2) 12 k = xE (zyEl zymc B s.heap) 12 k) ∧ ((v2 1) : Int) = x0 0 ∧ ((v2 2) : Int) = x0 1 ∧ ((v2 5) : Int) = xE (zyEl zymc B s.heap) 12 (x0 0)
        exact ⟨hvl, fun k _ => (e12 k).trans (q12 k), by omega, by omega, by omega⟩
      · show 7 < 8
        omega
    · have hx : x ∈ [zxfcst1_bx0] := hx
      have hag : ∀ k, k < 4 → v2 k = v k := hag
      have hfr : xFr [] _ _ := hfr
      have ex := List.mem_singleton.mp hx
      subst ex
      obtain ⟨hF, hBd, hM⟩ := hXs
      have r3 := hr2 3
      have g1 : v2 1 = v 1 := hag 1 (by decide)
      have g2 : v2 2 = v 2 := hag 2 (by decide)
      have g3 : v2 3 = v 3 := hag 3 (by decide)
      have b0 : ((2147483648 : Nat) : Int) ≤ (v2 1) + 2147483648 ∧ (v2 1) + 2147483648 ≤ ((2147483678 : Nat) : Int) := xXb hBd 0 rfl
      have b1 : ((2147483648 : Nat) : Int) ≤ (v2 2) + 2147483648 ∧ (v2 2) + 2147483648 ≤ ((2147483650 : Nat) : Int) := xXb hBd 1 rfl
      have e2_3 : xE (zyEl zymc B H2) 2 3 = xE (zyEl zymc B H) 2 3 := xFr_E hfr rfl
      have q2_3 : xE (zyEl zymc B H) 2 3 = xE (zyEl zymc B s.heap) 2 3 := xFr_E hFr0 rfl
      have e12 : ∀ i, xE (zyEl zymc B H2) 12 i = xE (zyEl zymc B H) 12 i := fun i => xFr_E hfr rfl
      have hI : xVs1 x0 (zyEl zymc B s.heap) ∧ (∀ k, 0 ≤ k → xE (zyEl zymc B H) 12 k = xE (zyEl zymc B s.heap) 12 k) ∧ (v 1) = x0 0 ∧ (v 2) = x0 1 ∧ (v 3) = xE (zyEl zymc B s.heap) 12 (x0 0) := hInv
      obtain ⟨hvl, hc1, i1, i2, i3⟩ := hI
      refine xGo hIH hAt hB hv hFr ⟨3, by decide⟩ [0, 34359738369, 68719476737, 103079215105] [0, (v2 1), (v2 2), (v2 3)] rfl ⟨by decide +kernel, ⟨rfl, by decide +kernel⟩, (xcs_c rfl (xcs_c rfl (xcs_c rfl (xcs_c rfl xcs_n)))), (xe_0 (xe_c (by omega) (by omega) rfl (xe_c (by omega) (by omega) rfl (xe_f (by omega) xe_n)))), (xkq_r 0 1 1 rfl rfl rfl rfl rfl ((hfr 0 1 rfl).trans ((hFr0 0 1 rfl).trans hΦ)) xkq_n)⟩ xst_n ?_ ?_
      · show xVs1 x0 (zyEl zymc B s.heap) ∧ (∀ k, 0 ≤ k → xE (zyEl zymc B H2) 12 k = xE (zyEl zymc B s.heap) 12 k) ∧ ((v2 1) : Int) = x0 0 ∧ ((v2 2) : Int) = x0 1 ∧ ((v2 3) : Int) = xE (zyEl zymc B s.heap) 12 (x0 0)
        exact ⟨hvl, fun k k0 => (e12 k).trans (hc1 k k0), by omega, by omega, by omega⟩
      · show 6 < 7
        omega
    · have hx : x ∈ [zxfcst1_b2x0] := hx
      have hag : ∀ k, k < 4 → v2 k = v k := hag
      have hfr : xFr [] _ _ := hfr
      have ex := List.mem_singleton.mp hx
      subst ex
      obtain ⟨hF, hBd, hM⟩ := hXs
      have r3 := hr2 3
      have g1 : v2 1 = v 1 := hag 1 (by decide)
      have g2 : v2 2 = v 2 := hag 2 (by decide)
      have g3 : v2 3 = v 3 := hag 3 (by decide)
      have b0 : ((2147483648 : Nat) : Int) ≤ (v2 1) + 2147483648 ∧ (v2 1) + 2147483648 ≤ ((2147483678 : Nat) : Int) := xXb hBd 0 rfl
      have b1 : ((2147483648 : Nat) : Int) ≤ (v2 2) + 2147483648 ∧ (v2 2) + 2147483648 ≤ ((2147483650 : Nat) : Int) := xXb hBd 1 rfl
      have e2_3 : xE (zyEl zymc B H2) 2 3 = xE (zyEl zymc B H) 2 3 := xFr_E hfr rfl
      have q2_3 : xE (zyEl zymc B H) 2 3 = xE (zyEl zymc B s.heap) 2 3 := xFr_E hFr0 rfl
      have e12 : ∀ i, xE (zyEl zymc B H2) 12 i = xE (zyEl zymc B H) 12 i := fun i => xFr_E hfr rfl
      have hI : xVs1 x0 (zyEl zymc B s.heap) ∧ (∀ k, 0 ≤ k → xE (zyEl zymc B H) 12 k = xE (zyEl zymc B s.heap) 12 k) ∧ (v 1) = x0 0 ∧ (v 2) = x0 1 ∧ (v 3) = xE (zyEl zymc B s.heap) 12 (x0 0) := hInv
      obtain ⟨hvl, hc1, i1, i2, i3⟩ := hI
      refine xSt hRu hIH hAt hB hv hFr 12 (ax := 0) 68719476737 34359738369 (v2 2) (v2 1) rfl (Or.inl ⟨rfl, rfl⟩) rfl (by decide +kernel) rfl rfl (by omega) (by show (v2 1) < ((31 : Nat) : Int); omega) (fun r hr q1 q2 => by rw [List.mem_singleton.mp hr]; exact ⟨rfl, by show ((2147483648 : Nat) : Int) ≤ (v2 2) + 2147483648; omega, by show (v2 2) + 2147483648 ≤ ((2147483650 : Nat) : Int); omega⟩) (zyin_iff.mpr ⟨(12, 0, 30), by decide, rfl, (by show 0 ≤ Int.toNat (v2 1); omega), by show Int.toNat (v2 1) ≤ 30; omega⟩) (fun H3 hT3 hst3 hne3 hfn3 hFr3 => ?_)
      have hfe3 : ∀ (a2 : Nat) (k2 : Int), ¬ a2 = 12 → xE (zyEl zymc B H3) a2 k2 = xE (zyEl zymc B H2) a2 k2 := fun a2 k2 hne => by unfold xE; rw [hfn3 a2 k2.toNat (fun z => hne z.1)]
      have d2_3 : xE (zyEl zymc B H3) 2 3 = xE (zyEl zymc B H2) 2 3 := hfe3 2 3 (fun z => absurd z (by decide))
      refine ⟨⟨4, by decide⟩, [0, 0, 0, 103079215105], [0, 0, 0, (v2 3)], rfl, ⟨by decide +kernel, ⟨rfl, by decide +kernel⟩, (xcs_c rfl (xcs_c rfl (xcs_c rfl (xcs_c rfl xcs_n)))), (xe_0 (xe_0 (xe_0 (xe_f (by omega) xe_n)))), xkq_n⟩, rfl, ?_, ?_⟩
      · show xVs1 x0 (zyEl zymc B s.heap) ∧ (∀ k, 0 ≤ k → xE (zyEl zymc B H3) 12 k = uS (xE (zyEl zymc B s.heap) 12) (x0 0) (x0 1) k) ∧ ((v2 3) : Int) = xE (zyEl zymc B s.heap) 12 (x0 0)
        refine ⟨hvl, fun k k0 => ?_, by omega⟩
        by_cases e : k = x0 0
        · rw [uS_e e, e, show x0 0 = (v2 1) by omega, hst3] <;> omega
        · rw [uS_n e, hne3 12 k k0 (fun z => e (by omega)), e12]
          exact hc1 k k0
      · show 5 < 6
        omega
    · cases hx
  · intro x0 E0 E E2 hrx hT0 hΦ i v hT hrv hInv hKc hFr0 x hx v2 hr2 hXs hag hfr hFr hT2
    rcases i with ⟨i, hi⟩
    have hi2 : i = 0 ∨ i = 1 ∨ i = 2 ∨ i = 3 ∨ i = 4 := by omega
    rcases hi2 with rfl | rfl | rfl | rfl | rfl
    · cases hx
    · have hx : x ∈ [zxfcst1_ar0, zxfcst1_ar1, zxfcst1_ar2, zxfcst1_ar3, zxfcst1_ar4] := hx
      have hag : ∀ k, k < 4 → v2 k = v k := hag
      have hfr : xFr [(0, 0, 0)] _ _ := hfr
      rcases List.mem_cons.mp hx with ex | hx
      · subst ex
        obtain ⟨hF, hBd, hM⟩ := hXs
        have g1 : v2 1 = v 1 := hag 1 (by decide)
        have g2 : v2 2 = v 2 := hag 2 (by decide)
        have b0 : ((0 : Nat) : Int) ≤ (v2 2) + 2147483648 ∧ (v2 2) + 2147483648 ≤ ((2147483647 : Nat) : Int) := xXb hBd 0 rfl
        have f0 : (v2 2) < 0 := xXf hF 0 rfl
        have e2_3 : xE E2 2 3 = xE E 2 3 := xFr_E hfr rfl
        have q2_3 : xE E 2 3 = xE E0 2 3 := xFr_E hFr0 rfl
        have e12 : ∀ i, xE E2 12 i = xE E 12 i := fun i => xFr_E hfr rfl
        have hI : E = E0 ∧ (v 1) = x0 0 ∧ (v 2) = x0 1 := hInv
        have q12 : ∀ i, xE E 12 i = xE E0 12 i := fun i => by rw [hI.1]
        show xΨcst1 x0 E0 E2 (-1)
        obtain ⟨hE, i1, i2⟩ := hI
        have hSW := q2_3
        have hvl : ¬ xVs1 x0 E0 := by
          unfold xVs1
          rintro ⟨⟨y1, y2⟩, ⟨y5, y6⟩, y7⟩
          omega
        exact ⟨fun h => absurd h hvl, fun _ => ⟨by omega, fun k => (e12 k).trans (q12 k)⟩⟩
      · skip
        rcases List.mem_cons.mp hx with ex | hx
        · subst ex
          obtain ⟨hF, hBd, hM⟩ := hXs
          have g1 : v2 1 = v 1 := hag 1 (by decide)
          have g2 : v2 2 = v 2 := hag 2 (by decide)
          have b0 : ((2147483651 : Nat) : Int) ≤ (v2 2) + 2147483648 ∧ (v2 2) + 2147483648 ≤ ((4294967295 : Nat) : Int) := xXb hBd 0 rfl
          have f0 : 0 ≤ (v2 2) := xXf hF 0 rfl
          have f1 : 2 < (v2 2) := xXf hF 1 rfl
          have e2_3 : xE E2 2 3 = xE E 2 3 := xFr_E hfr rfl
          have q2_3 : xE E 2 3 = xE E0 2 3 := xFr_E hFr0 rfl
          have e12 : ∀ i, xE E2 12 i = xE E 12 i := fun i => xFr_E hfr rfl
          have hI : E = E0 ∧ (v 1) = x0 0 ∧ (v 2) = x0 1 := hInv
          have q12 : ∀ i, xE E 12 i = xE E0 12 i := fun i => by rw [hI.1]
          show xΨcst1 x0 E0 E2 (-1)
          obtain ⟨hE, i1, i2⟩ := hI
          have hSW := q2_3
          have hvl : ¬ xVs1 x0 E0 := by
            unfold xVs1
            rintro ⟨⟨y1, y2⟩, ⟨y5, y6⟩, y7⟩
            omega
          exact ⟨fun h => absurd h hvl, fun _ => ⟨by omega, fun k => (e12 k).trans (q12 k)⟩⟩
        · skip
          rcases List.mem_cons.mp hx with ex | hx
          · subst ex
            obtain ⟨hF, hBd, hM⟩ := hXs
            have g1 : v2 1 = v 1 := hag 1 (by decide)
            have g2 : v2 2 = v 2 := hag 2 (by decide)
            have b0 : ((0 : Nat) : Int) ≤ (v2 1) + 2147483648 ∧ (v2 1) + 2147483648 ≤ ((2147483647 : Nat) : Int) := xXb hBd 0 rfl
            have b1 : ((2147483648 : Nat) : Int) ≤ (v2 2) + 2147483648 ∧ (v2 2) + 2147483648 ≤ ((2147483650 : Nat) : Int) := xXb hBd 1 rfl
            have f0 : 0 ≤ (v2 2) := xXf hF 0 rfl
            have f1 : (v2 2) ≤ 2 := xXf hF 1 rfl
            have f2 : (v2 1) < 0 := xXf hF 2 rfl
            have e2_3 : xE E2 2 3 = xE E 2 3 := xFr_E hfr rfl
            have q2_3 : xE E 2 3 = xE E0 2 3 := xFr_E hFr0 rfl
            have e12 : ∀ i, xE E2 12 i = xE E 12 i := fun i => xFr_E hfr rfl
            have hI : E = E0 ∧ (v 1) = x0 0 ∧ (v 2) = x0 1 := hInv
            have q12 : ∀ i, xE E 12 i = xE E0 12 i := fun i => by rw [hI.1]
            show xΨcst1 x0 E0 E2 (-1)
            obtain ⟨hE, i1, i2⟩ := hI
            have hSW := q2_3
            have hvl : ¬ xVs1 x0 E0 := by
              unfold xVs1
              rintro ⟨⟨y1, y2⟩, ⟨y5, y6⟩, y7⟩
              omega
            exact ⟨fun h => absurd h hvl, fun _ => ⟨by omega, fun k => (e12 k).trans (q12 k)⟩⟩
          · skip
            rcases List.mem_cons.mp hx with ex | hx
            · subst ex
              obtain ⟨hF, hBd, hM⟩ := hXs
              have g1 : v2 1 = v 1 := hag 1 (by decide)
              have g2 : v2 2 = v 2 := hag 2 (by decide)
              have b0 : ((2147483648 : Nat) : Int) ≤ (v2 1) + 2147483648 ∧ (v2 1) + 2147483648 ≤ ((2147483678 : Nat) : Int) := xXb hBd 0 rfl
              have b1 : ((2147483648 : Nat) : Int) ≤ (v2 2) + 2147483648 ∧ (v2 2) + 2147483648 ≤ ((2147483650 : Nat) : Int) := xXb hBd 1 rfl
              have b2 : ((2147483649 : Nat) : Int) ≤ (v2 4) + 2147483648 ∧ (v2 4) + 2147483648 ≤ ((2147483679 : Nat) : Int) := xXb hBd 2 rfl
              have b3 : ((2147483648 : Nat) : Int) ≤ (v2 5) + 2147483648 ∧ (v2 5) + 2147483648 ≤ ((2147483650 : Nat) : Int) := xXb hBd 3 rfl
              have f0 : 0 ≤ (v2 2) := xXf hF 0 rfl
              have f1 : (v2 2) ≤ 2 := xXf hF 1 rfl
              have f2 : 0 ≤ (v2 1) := xXf hF 2 rfl
              have f3 : (0 : Int) ≤ 3 ∧ xE E 2 3 = (v2 4) := xXf hF 3 rfl
              have f4 : (v2 1) < (v2 4) := xXf hF 4 rfl
              have f5 : (0 : Int) ≤ (v2 1) ∧ xE E 12 (v2 1) = (v2 5) := xXf hF 5 rfl
              have f6 : (v2 5) = (v2 2) := xXf hF 6 rfl
              have e2_3 : xE E2 2 3 = xE E 2 3 := xFr_E hfr rfl
              have q2_3 : xE E 2 3 = xE E0 2 3 := xFr_E hFr0 rfl
              have e12 : ∀ i, xE E2 12 i = xE E 12 i := fun i => xFr_E hfr rfl
              have hI : E = E0 ∧ (v 1) = x0 0 ∧ (v 2) = x0 1 := hInv
              have q12 : ∀ i, xE E 12 i = xE E0 12 i := fun i => by rw [hI.1]
              show xΨcst1 x0 E0 E2 (-1)
              obtain ⟨hE, i1, i2⟩ := hI
              have hSW := q2_3
              have c5 : xE E0 12 ((v2 1)) = (v2 5) := (q12 _).symm.trans f5.2
              rw [show (v2 1) = x0 0 by omega] at c5
              have hvl : ¬ xVs1 x0 E0 := by
                unfold xVs1
                rintro ⟨⟨y1, y2⟩, ⟨y5, y6⟩, y7⟩
                omega
              exact ⟨fun h => absurd h hvl, fun _ => ⟨by omega, fun k => (e12 k).trans (q12 k)⟩⟩
            · skip
              have ex := List.mem_singleton.mp hx
              subst ex
              obtain ⟨hF, hBd, hM⟩ := hXs
              have g1 : v2 1 = v 1 := hag 1 (by decide)
              have g2 : v2 2 = v 2 := hag 2 (by decide)
              have b0 : ((2147483648 : Nat) : Int) ≤ (v2 1) + 2147483648 ∧ (v2 1) + 2147483648 ≤ ((4294967295 : Nat) : Int) := xXb hBd 0 rfl
              have b1 : ((2147483648 : Nat) : Int) ≤ (v2 2) + 2147483648 ∧ (v2 2) + 2147483648 ≤ ((2147483650 : Nat) : Int) := xXb hBd 1 rfl
              have b2 : ((2147483648 : Nat) : Int) ≤ (v2 4) + 2147483648 ∧ (v2 4) + 2147483648 ≤ ((2147483679 : Nat) : Int) := xXb hBd 2 rfl
              have f0 : 0 ≤ (v2 2) := xXf hF 0 rfl
              have f1 : (v2 2) ≤ 2 := xXf hF 1 rfl
              have f2 : 0 ≤ (v2 1) := xXf hF 2 rfl
              have f3 : (0 : Int) ≤ 3 ∧ xE E 2 3 = (v2 4) := xXf hF 3 rfl
              have f4 : (v2 4) ≤ (v2 1) := xXf hF 4 rfl
              have e2_3 : xE E2 2 3 = xE E 2 3 := xFr_E hfr rfl
              have q2_3 : xE E 2 3 = xE E0 2 3 := xFr_E hFr0 rfl
              have e12 : ∀ i, xE E2 12 i = xE E 12 i := fun i => xFr_E hfr rfl
              have hI : E = E0 ∧ (v 1) = x0 0 ∧ (v 2) = x0 1 := hInv
              have q12 : ∀ i, xE E 12 i = xE E0 12 i := fun i => by rw [hI.1]
              show xΨcst1 x0 E0 E2 (-1)
              obtain ⟨hE, i1, i2⟩ := hI
              have hSW := q2_3
              have hvl : ¬ xVs1 x0 E0 := by
                unfold xVs1
                rintro ⟨⟨y1, y2⟩, ⟨y5, y6⟩, y7⟩
                omega
              exact ⟨fun h => absurd h hvl, fun _ => ⟨by omega, fun k => (e12 k).trans (q12 k)⟩⟩
    · cases hx
    · cases hx
    · have hx : x ∈ [zxfcst1_cr0] := hx
      have hag : ∀ k, k < 4 → v2 k = v k := hag
      have hfr : xFr [(0, 0, 0)] _ _ := hfr
      have ex := List.mem_singleton.mp hx
      subst ex
      obtain ⟨hF, hBd, hM⟩ := hXs
      have r3 := hr2 3
      have g3 : v2 3 = v 3 := hag 3 (by decide)
      have e2_3 : xE E2 2 3 = xE E 2 3 := xFr_E hfr rfl
      have q2_3 : xE E 2 3 = xE E0 2 3 := xFr_E hFr0 rfl
      have e12 : ∀ i, xE E2 12 i = xE E 12 i := fun i => xFr_E hfr rfl
      have hI : xVs1 x0 E0 ∧ (∀ k, 0 ≤ k → xE E 12 k = uS (xE E0 12) (x0 0) (x0 1) k) ∧ (v 3) = xE E0 12 (x0 0) := hInv
      show xΨcst1 x0 E0 E2 (v2 3)
      obtain ⟨hvl, hc1, i3⟩ := hI
      exact ⟨fun _ => ⟨by omega, fun k k0 => (e12 k).trans (hc1 k k0)⟩, fun h => absurd hvl h⟩
noncomputable def zxfcbt18_zx0 : zyXp := (0, [3, 34359738369, 68719476737], [], [], [], [])
noncomputable def zpfcbt18_z : zyPh := (0, [3, 34359738369, 68719476737], [(0, 4294967295), (0, 4294967295), (0, 4294967295)], [], [])
noncomputable def zxfcbt18_ar0 : zyXp := (0, [], [34359738360], [(20, 0, 68719476737, 0)], [(68719476737, 0, 2147483647)], [])
noncomputable def zxfcbt18_ar1 : zyXp := (0, [], [34359738360], [(21, 0, 68719476737, 0), (20, 0, 34359738369, 0)], [(34359738369, 0, 2147483647), (68719476737, 2147483648, 4294967295)], [])
noncomputable def zxfcbt18_ar2 : zyXp := (0, [], [240518168577], [(21, 0, 68719476737, 0), (21, 0, 34359738369, 0), (24, 103079215105, 19, 24), (20, 0, 34359738369, 103079215105), (24, 137438953473, 28, 34359738369), (20, 0, 68719476737, 137438953473), (24, 171798691841, 27, 34359738369), (9, 206158430209, 171798691841, 68719476737), (4, 240518168577, 206158430209, 8)], [(34359738369, 2147483648, 2147483678), (68719476737, 2147483648, 2147483651), (103079215105, 2147483649, 2147483679), (137438953473, 2147483649, 2147483652), (171798691841, 2147483648, 4294967295), (206158430209, 2147483648, 4294967295), (240518168577, 2147483648, 2147483649)], [])
noncomputable def zxfcbt18_ar3 : zyXp := (0, [], [34359738360], [(21, 0, 68719476737, 0), (21, 0, 34359738369, 0), (24, 103079215105, 19, 24), (20, 0, 34359738369, 103079215105), (24, 137438953473, 28, 34359738369), (21, 0, 68719476737, 137438953473)], [(34359738369, 2147483648, 2147483678), (68719476737, 2147483648, 4294967295), (103079215105, 2147483649, 2147483679), (137438953473, 2147483648, 2147483652)], [])
noncomputable def zxfcbt18_ar4 : zyXp := (0, [], [34359738360], [(21, 0, 68719476737, 0), (21, 0, 34359738369, 0), (24, 103079215105, 19, 24), (21, 0, 34359738369, 103079215105)], [(34359738369, 2147483648, 4294967295), (68719476737, 2147483648, 4294967295), (103079215105, 2147483648, 2147483679)], [])
noncomputable def zpfcbt18_a : zyPh := (0, [3, 34359738369, 68719476737], [(0, 4294967295), (0, 4294967295), (0, 4294967295)], [(1, 147)], [])
noncomputable def zpfcbt18 (i : Nat) : zyPh := zif (Nat.beq i 0) (zpfcbt18_z) (zpfcbt18_a)
noncomputable def zXfcbt18 (i : Nat) : List zyXp := zif (Nat.beq i 0) ([zxfcbt18_zx0]) ([])
noncomputable def zRfcbt18 (i : Nat) : List zyXp := zif (Nat.beq i 0) ([]) ([zxfcbt18_ar0, zxfcbt18_ar1, zxfcbt18_ar2, zxfcbt18_ar3, zxfcbt18_ar4])
noncomputable def zFfcbt18 (i : Nat) : zyR := zif (Nat.beq i 0) ([]) ([(0, 0, 0)])
noncomputable def zSfcbt18 (i : Nat) : Nat := zif (Nat.beq i 0) (0) (0)
def xΦpl18 (B : zCx) (_ : Nat → Int) (E : zyEm) : Prop := E 0 1 = some (.ref (zad B 18))
def xΨcbt18 (x : Nat → Int) (E _ : zyEm) (r : Int) : Prop := r = if 0 ≤ x 1 ∧ (0 ≤ x 0 ∧ x 0 < xE E 19 3) ∧ x 1 < xE E 28 (x 0) then xop 4 (xop 9 (xE E 27 (x 0)) (x 1)) 1 else -1
noncomputable def fpfcbt18 : zyR := [(0, 0, 0)]
theorem zyfcbt18_run : zyrS zymc zxi125 (125, 0, 0, 1, 0) 4 zpfcbt18 (fun _ _ => []) zFfcbt18 zSfcbt18 zXfcbt18 zRfcbt18 2 = true := by decide +kernel
theorem zyfcbt18_ck : zyAll (fun i => xsubR (zFfcbt18 i) fpfcbt18 && ((zXfcbt18 i).all xckX && (zRfcbt18 i).all (fun x => xckX x && xrtB true x))) 2 = true := by decide +kernel
def xIfcbt18 (i : Nat) (x0 : Nat → Int) (E0 : zyEm) (v : Nat → Int) (E : zyEm) : Prop := if i = 0 then (E = E0 ∧ (v 1) = x0 0 ∧ (v 2) = x0 1) else (E = E0 ∧ (v 1) = x0 0 ∧ (v 2) = x0 1)
def xMfcbt18 (i : Nat) (x0 : Nat → Int) (E0 : zyEm) (v : Nat → Int) (E : zyEm) : Nat := if i = 0 then (2) else (1)
theorem xCbt18 {l : Launch} {en : zEn} {me : zMe} (hen : zG zxMeta 125 = some en) (hme : zG zMeth 125 = some me) : ∀ B, xFcB l zymc B en me 4 [0] 2 fpfcbt18 true (xΦpl18 B) xΨcbt18 := by
  have een : zG zxMeta 125 = some (zxi125, 3, 3, 10, 125, 0, 0, 1, 0) := rfl
  obtain ⟨me1, hme1, hOK⟩ := zall hen
  rw [hme] at hme1
  cases hme1
  rw [een] at hen
  cases hen
  have hr := zyfcbt18_run
  have hck := fun i hi => zyAll_iff zyfcbt18_ck i hi
  simp only [Bool.and_eq_true] at hck
  intro B
  refine xcut (mi := zymc) (B := B) hOK rfl rfl (ι := Fin 2) (fun i => zpfcbt18 i.val) (fun _ _ => []) (fun i => zFfcbt18 i.val) (fun i => zSfcbt18 i.val) (fun i => zXfcbt18 i.val) (fun i => zRfcbt18 i.val) (fun i y2 ct en2 me2 h => by cases h) 200000 (fun i => zyAll_iff hr i.val i.isLt) (fun i => (hck i.val i.isLt).1) (fun i => (hck i.val i.isLt).2.1) (fun i => (hck i.val i.isLt).2.2) ⟨0, by decide⟩ ⟨rfl, rfl, rfl, rfl⟩ ⟨by decide, by decide⟩ (fun i x0 E0 v E => xIfcbt18 i.val x0 E0 v E) (fun i x0 E0 v E => xMfcbt18 i.val x0 E0 v E) ?_ ?_ ?_
  · intro x0 E hx0 hT hΦ
    have hΦ : (xΦpl18 B) x0 E := hΦ
    refine ⟨fun k p hp => ?_, ?_⟩
    · have hk : k < 3 := (List.getElem?_eq_some_iff.mp hp).1
      have hk : k = 0 ∨ k = 1 ∨ k = 2 := by omega
      rcases hk with rfl | rfl | rfl
      · have hp : some (0, 4294967295) = some p := hp
        cases hp
        show ((0 : Nat) : Int) ≤ 0 + 2147483648 ∧ 0 + 2147483648 ≤ ((4294967295 : Nat) : Int)
        omega
      · have hp : some (0, 4294967295) = some p := hp
        cases hp
        show ((0 : Nat) : Int) ≤ x0 0 + 2147483648 ∧ x0 0 + 2147483648 ≤ ((4294967295 : Nat) : Int)
        have hx := hx0 0
        omega
      · have hp : some (0, 4294967295) = some p := hp
        cases hp
        show ((0 : Nat) : Int) ≤ x0 1 + 2147483648 ∧ x0 1 + 2147483648 ≤ ((4294967295 : Nat) : Int)
        have hx := hx0 1
        omega
    · show E = E ∧ (x0 0) = x0 0 ∧ (x0 1) = x0 1
      exact ⟨rfl, rfl, rfl⟩
  · intro x0 s Wg hRu hrx hT0 hΦ i v H hT hrv hInv hKc hFr0 hIH x hx ρ2 v2 N2 H2 locs lsB stA hAt hB hv hr2 hXs hag hfr hFr hT2
    rcases i with ⟨i, hi⟩
    have hi2 : i = 0 ∨ i = 1 := by omega
    rcases hi2 with rfl | rfl
    · have hx : x ∈ [zxfcbt18_zx0] := hx
      have hag : ∀ k, k < 3 → v2 k = v k := hag
      have hfr : xFr [] _ _ := hfr
      have ex := List.mem_singleton.mp hx
      subst ex
      obtain ⟨hF, hBd, hM⟩ := hXs
      have r1 := hr2 1
      have r2 := hr2 2
      have g1 : v2 1 = v 1 := hag 1 (by decide)
      have g2 : v2 2 = v 2 := hag 2 (by decide)
      have e19_3 : xE (zyEl zymc B H2) 19 3 = xE (zyEl zymc B H) 19 3 := xFr_E hfr rfl
      have q19_3 : xE (zyEl zymc B H) 19 3 = xE (zyEl zymc B s.heap) 19 3 := xFr_E hFr0 rfl
      have e28 : ∀ i, xE (zyEl zymc B H2) 28 i = xE (zyEl zymc B H) 28 i := fun i => xFr_E hfr rfl
      have q28 : ∀ i, xE (zyEl zymc B H) 28 i = xE (zyEl zymc B s.heap) 28 i := fun i => xFr_E hFr0 rfl
      have e27 : ∀ i, xE (zyEl zymc B H2) 27 i = xE (zyEl zymc B H) 27 i := fun i => xFr_E hfr rfl
      have q27 : ∀ i, xE (zyEl zymc B H) 27 i = xE (zyEl zymc B s.heap) 27 i := fun i => xFr_E hFr0 rfl
      have hI : (zyEl zymc B H) = (zyEl zymc B s.heap) ∧ (v 1) = x0 0 ∧ (v 2) = x0 1 := hInv
      obtain ⟨hE, i1, i2⟩ := hI
      refine xGo hIH hAt hB hv hFr ⟨1, by decide⟩ [0, 34359738369, 68719476737] [0, (v2 1), (v2 2)] rfl ⟨by decide +kernel, ⟨rfl, by decide +kernel⟩, (xcs_c rfl (xcs_c rfl (xcs_c rfl xcs_n))), (xe_0 (xe_f (by omega) (xe_f (by omega) xe_n))), (xkq_r 0 1 18 rfl rfl rfl rfl rfl (by rw [xFr_n hfr, hE]; exact hΦ) xkq_n)⟩ xst_n ?_ ?_
      · show (zyEl zymc B H2) = (zyEl zymc B s.heap) ∧ ((v2 1) : Int) = x0 0 ∧ ((v2 2) : Int) = x0 1
        exact ⟨(xFr_n hfr).trans hE, by omega, by omega⟩
      · show 1 < 2
        omega
    · cases hx
  · intro x0 E0 E E2 hrx hT0 hΦ i v hT hrv hInv hKc hFr0 x hx v2 hr2 hXs hag hfr hFr hT2
    rcases i with ⟨i, hi⟩
    have hi2 : i = 0 ∨ i = 1 := by omega
    rcases hi2 with rfl | rfl
    · cases hx
    · have hx : x ∈ [zxfcbt18_ar0, zxfcbt18_ar1, zxfcbt18_ar2, zxfcbt18_ar3, zxfcbt18_ar4] := hx
      have hag : ∀ k, k < 3 → v2 k = v k := hag
      have hfr : xFr [(0, 0, 0)] _ _ := hfr
      rcases List.mem_cons.mp hx with ex | hx
      · subst ex
        obtain ⟨hF, hBd, hM⟩ := hXs
        have g1 : v2 1 = v 1 := hag 1 (by decide)
        have g2 : v2 2 = v 2 := hag 2 (by decide)
        have b0 : ((0 : Nat) : Int) ≤ (v2 2) + 2147483648 ∧ (v2 2) + 2147483648 ≤ ((2147483647 : Nat) : Int) := xXb hBd 0 rfl
        have f0 : (v2 2) < 0 := xXf hF 0 rfl
        have e19_3 : xE E2 19 3 = xE E 19 3 := xFr_E hfr rfl
        have q19_3 : xE E 19 3 = xE E0 19 3 := xFr_E hFr0 rfl
        have e28 : ∀ i, xE E2 28 i = xE E 28 i := fun i => xFr_E hfr rfl
        have q28 : ∀ i, xE E 28 i = xE E0 28 i := fun i => xFr_E hFr0 rfl
        have e27 : ∀ i, xE E2 27 i = xE E 27 i := fun i => xFr_E hfr rfl
        have q27 : ∀ i, xE E 27 i = xE E0 27 i := fun i => xFr_E hFr0 rfl
        have hI : E = E0 ∧ (v 1) = x0 0 ∧ (v 2) = x0 1 := hInv
        show xΨcbt18 x0 E0 E2 (-1)
        obtain ⟨hE, i1, i2⟩ := hI
        have hSW := q19_3
        unfold xΨcbt18
        rw [if_neg]
        rintro ⟨y1, ⟨y2, y3⟩, y4⟩
        omega
      · skip
        rcases List.mem_cons.mp hx with ex | hx
        · subst ex
          obtain ⟨hF, hBd, hM⟩ := hXs
          have g1 : v2 1 = v 1 := hag 1 (by decide)
          have g2 : v2 2 = v 2 := hag 2 (by decide)
          have b0 : ((0 : Nat) : Int) ≤ (v2 1) + 2147483648 ∧ (v2 1) + 2147483648 ≤ ((2147483647 : Nat) : Int) := xXb hBd 0 rfl
          have b1 : ((2147483648 : Nat) : Int) ≤ (v2 2) + 2147483648 ∧ (v2 2) + 2147483648 ≤ ((4294967295 : Nat) : Int) := xXb hBd 1 rfl
          have f0 : 0 ≤ (v2 2) := xXf hF 0 rfl
          have f1 : (v2 1) < 0 := xXf hF 1 rfl
          have e19_3 : xE E2 19 3 = xE E 19 3 := xFr_E hfr rfl
          have q19_3 : xE E 19 3 = xE E0 19 3 := xFr_E hFr0 rfl
          have e28 : ∀ i, xE E2 28 i = xE E 28 i := fun i => xFr_E hfr rfl
          have q28 : ∀ i, xE E 28 i = xE E0 28 i := fun i => xFr_E hFr0 rfl
          have e27 : ∀ i, xE E2 27 i = xE E 27 i := fun i => xFr_E hfr rfl
          have q27 : ∀ i, xE E 27 i = xE E0 27 i := fun i => xFr_E hFr0 rfl
          have hI : E = E0 ∧ (v 1) = x0 0 ∧ (v 2) = x0 1 := hInv
          show xΨcbt18 x0 E0 E2 (-1)
          obtain ⟨hE, i1, i2⟩ := hI
          have hSW := q19_3
          unfold xΨcbt18
          rw [if_neg]
          rintro ⟨y1, ⟨y2, y3⟩, y4⟩
          omega
        · skip
          rcases List.mem_cons.mp hx with ex | hx
          · subst ex
            obtain ⟨hF, hBd, hM⟩ := hXs
            have g1 : v2 1 = v 1 := hag 1 (by decide)
            have g2 : v2 2 = v 2 := hag 2 (by decide)
            have b0 : ((2147483648 : Nat) : Int) ≤ (v2 1) + 2147483648 ∧ (v2 1) + 2147483648 ≤ ((2147483678 : Nat) : Int) := xXb hBd 0 rfl
            have b1 : ((2147483648 : Nat) : Int) ≤ (v2 2) + 2147483648 ∧ (v2 2) + 2147483648 ≤ ((2147483651 : Nat) : Int) := xXb hBd 1 rfl
            have b2 : ((2147483649 : Nat) : Int) ≤ (v2 3) + 2147483648 ∧ (v2 3) + 2147483648 ≤ ((2147483679 : Nat) : Int) := xXb hBd 2 rfl
            have b3 : ((2147483649 : Nat) : Int) ≤ (v2 4) + 2147483648 ∧ (v2 4) + 2147483648 ≤ ((2147483652 : Nat) : Int) := xXb hBd 3 rfl
            have b4 : ((2147483648 : Nat) : Int) ≤ (v2 5) + 2147483648 ∧ (v2 5) + 2147483648 ≤ ((4294967295 : Nat) : Int) := xXb hBd 4 rfl
            have b5 : ((2147483648 : Nat) : Int) ≤ (v2 6) + 2147483648 ∧ (v2 6) + 2147483648 ≤ ((4294967295 : Nat) : Int) := xXb hBd 5 rfl
            have b6 : ((2147483648 : Nat) : Int) ≤ (v2 7) + 2147483648 ∧ (v2 7) + 2147483648 ≤ ((2147483649 : Nat) : Int) := xXb hBd 6 rfl
            have f0 : 0 ≤ (v2 2) := xXf hF 0 rfl
            have f1 : 0 ≤ (v2 1) := xXf hF 1 rfl
            have f2 : (0 : Int) ≤ 3 ∧ xE E 19 3 = (v2 3) := xXf hF 2 rfl
            have f3 : (v2 1) < (v2 3) := xXf hF 3 rfl
            have f4 : (0 : Int) ≤ (v2 1) ∧ xE E 28 (v2 1) = (v2 4) := xXf hF 4 rfl
            have f5 : (v2 2) < (v2 4) := xXf hF 5 rfl
            have f6 : (0 : Int) ≤ (v2 1) ∧ xE E 27 (v2 1) = (v2 5) := xXf hF 6 rfl
            have f7 : (v2 6) = xop 9 (v2 5) (v2 2) := xXf hF 7 rfl
            have f8 : (v2 7) = xop 4 (v2 6) 1 := xXf hF 8 rfl
            have e19_3 : xE E2 19 3 = xE E 19 3 := xFr_E hfr rfl
            have q19_3 : xE E 19 3 = xE E0 19 3 := xFr_E hFr0 rfl
            have e28 : ∀ i, xE E2 28 i = xE E 28 i := fun i => xFr_E hfr rfl
            have q28 : ∀ i, xE E 28 i = xE E0 28 i := fun i => xFr_E hFr0 rfl
            have e27 : ∀ i, xE E2 27 i = xE E 27 i := fun i => xFr_E hfr rfl
            have q27 : ∀ i, xE E 27 i = xE E0 27 i := fun i => xFr_E hFr0 rfl
            have hI : E = E0 ∧ (v 1) = x0 0 ∧ (v 2) = x0 1 := hInv
            show xΨcbt18 x0 E0 E2 (v2 7)
            obtain ⟨hE, i1, i2⟩ := hI
            have hSW := q19_3
            have c4 : xE E0 28 ((v2 1)) = (v2 4) := (q28 _).symm.trans f4.2
            rw [show (v2 1) = x0 0 by omega] at c4
            have c6 : xE E0 27 ((v2 1)) = (v2 5) := (q27 _).symm.trans f6.2
            rw [show (v2 1) = x0 0 by omega] at c6
            unfold xΨcbt18
            rw [if_pos ⟨by omega, ⟨by omega, by omega⟩, by omega⟩, c6, f8, f7, show (v2 2) = x0 1 by omega]
          · skip
            rcases List.mem_cons.mp hx with ex | hx
            · subst ex
              obtain ⟨hF, hBd, hM⟩ := hXs
              have g1 : v2 1 = v 1 := hag 1 (by decide)
              have g2 : v2 2 = v 2 := hag 2 (by decide)
              have b0 : ((2147483648 : Nat) : Int) ≤ (v2 1) + 2147483648 ∧ (v2 1) + 2147483648 ≤ ((2147483678 : Nat) : Int) := xXb hBd 0 rfl
              have b1 : ((2147483648 : Nat) : Int) ≤ (v2 2) + 2147483648 ∧ (v2 2) + 2147483648 ≤ ((4294967295 : Nat) : Int) := xXb hBd 1 rfl
              have b2 : ((2147483649 : Nat) : Int) ≤ (v2 3) + 2147483648 ∧ (v2 3) + 2147483648 ≤ ((2147483679 : Nat) : Int) := xXb hBd 2 rfl
              have b3 : ((2147483648 : Nat) : Int) ≤ (v2 4) + 2147483648 ∧ (v2 4) + 2147483648 ≤ ((2147483652 : Nat) : Int) := xXb hBd 3 rfl
              have f0 : 0 ≤ (v2 2) := xXf hF 0 rfl
              have f1 : 0 ≤ (v2 1) := xXf hF 1 rfl
              have f2 : (0 : Int) ≤ 3 ∧ xE E 19 3 = (v2 3) := xXf hF 2 rfl
              have f3 : (v2 1) < (v2 3) := xXf hF 3 rfl
              have f4 : (0 : Int) ≤ (v2 1) ∧ xE E 28 (v2 1) = (v2 4) := xXf hF 4 rfl
              have f5 : (v2 4) ≤ (v2 2) := xXf hF 5 rfl
              have e19_3 : xE E2 19 3 = xE E 19 3 := xFr_E hfr rfl
              have q19_3 : xE E 19 3 = xE E0 19 3 := xFr_E hFr0 rfl
              have e28 : ∀ i, xE E2 28 i = xE E 28 i := fun i => xFr_E hfr rfl
              have q28 : ∀ i, xE E 28 i = xE E0 28 i := fun i => xFr_E hFr0 rfl
              have e27 : ∀ i, xE E2 27 i = xE E 27 i := fun i => xFr_E hfr rfl
              have q27 : ∀ i, xE E 27 i = xE E0 27 i := fun i => xFr_E hFr0 rfl
              have hI : E = E0 ∧ (v 1) = x0 0 ∧ (v 2) = x0 1 := hInv
              show xΨcbt18 x0 E0 E2 (-1)
              obtain ⟨hE, i1, i2⟩ := hI
              have hSW := q19_3
              have c4 : xE E0 28 ((v2 1)) = (v2 4) := (q28 _).symm.trans f4.2
              rw [show (v2 1) = x0 0 by omega] at c4
              unfold xΨcbt18
              rw [if_neg]
              rintro ⟨y1, ⟨y2, y3⟩, y4⟩
              omega
            · skip
              have ex := List.mem_singleton.mp hx
              subst ex
              obtain ⟨hF, hBd, hM⟩ := hXs
              have g1 : v2 1 = v 1 := hag 1 (by decide)
              have g2 : v2 2 = v 2 := hag 2 (by decide)
              have b0 : ((2147483648 : Nat) : Int) ≤ (v2 1) + 2147483648 ∧ (v2 1) + 2147483648 ≤ ((4294967295 : Nat) : Int) := xXb hBd 0 rfl
              have b1 : ((2147483648 : Nat) : Int) ≤ (v2 2) + 2147483648 ∧ (v2 2) + 2147483648 ≤ ((4294967295 : Nat) : Int) := xXb hBd 1 rfl
              have b2 : ((2147483648 : Nat) : Int) ≤ (v2 3) + 2147483648 ∧ (v2 3) + 2147483648 ≤ ((2147483679 : Nat) : Int) := xXb hBd 2 rfl
              have f0 : 0 ≤ (v2 2) := xXf hF 0 rfl
              have f1 : 0 ≤ (v2 1) := xXf hF 1 rfl
              have f2 : (0 : Int) ≤ 3 ∧ xE E 19 3 = (v2 3) := xXf hF 2 rfl
              have f3 : (v2 3) ≤ (v2 1) := xXf hF 3 rfl
              have e19_3 : xE E2 19 3 = xE E 19 3 := xFr_E hfr rfl
              have q19_3 : xE E 19 3 = xE E0 19 3 := xFr_E hFr0 rfl
              have e28 : ∀ i, xE E2 28 i = xE E 28 i := fun i => xFr_E hfr rfl
              have q28 : ∀ i, xE E 28 i = xE E0 28 i := fun i => xFr_E hFr0 rfl
              have e27 : ∀ i, xE E2 27 i = xE E 27 i := fun i => xFr_E hfr rfl
              have q27 : ∀ i, xE E 27 i = xE E0 27 i := fun i => xFr_E hFr0 rfl
              have hI : E = E0 ∧ (v 1) = x0 0 ∧ (v 2) = x0 1 := hInv
              show xΨcbt18 x0 E0 E2 (-1)
              obtain ⟨hE, i1, i2⟩ := hI
              have hSW := q19_3
              unfold xΨcbt18
              rw [if_neg]
              rintro ⟨y1, ⟨y2, y3⟩, y4⟩
              omega
noncomputable def zxfcfs18_zx0 : zyXp := (0, [3, 34359738369, 13], [], [], [], [])
noncomputable def zpfcfs18_z : zyPh := (0, [3, 34359738369, 13], [(0, 4294967295), (0, 4294967295), (0, 4294967295)], [], [])
noncomputable def zxfcfs18_ar0 : zyXp := (0, [], [34359738360], [(20, 0, 34359738369, 0)], [(34359738369, 0, 2147483647)], [])
noncomputable def zxfcfs18_ar1 : zyXp := (0, [], [137438953473], [(21, 0, 34359738369, 0), (24, 103079215105, 19, 16), (20, 0, 34359738369, 103079215105), (24, 137438953473, 21, 34359738369), (23, 0, 137438953473, 34359738360)], [(34359738369, 2147483648, 2147483727), (103079215105, 2147483649, 2147483728), (137438953473, 2147483648, 2147483727)], [])
noncomputable def zxfcfs18_ar2 : zyXp := (0, [], [34359738360], [(21, 0, 34359738369, 0), (24, 103079215105, 19, 16), (20, 0, 34359738369, 103079215105), (24, 137438953473, 21, 34359738369), (22, 0, 137438953473, 34359738360)], [(34359738369, 2147483648, 2147483727), (103079215105, 2147483649, 2147483728), (137438953473, 2147483647, 2147483647)], [])
noncomputable def zxfcfs18_ar3 : zyXp := (0, [], [34359738360], [(21, 0, 34359738369, 0), (24, 103079215105, 19, 16), (21, 0, 34359738369, 103079215105)], [(34359738369, 2147483648, 4294967295), (103079215105, 2147483648, 2147483728)], [])
noncomputable def zpfcfs18_a : zyPh := (0, [3, 34359738369, 13], [(0, 4294967295), (0, 4294967295), (0, 4294967295)], [(1, 147)], [])
noncomputable def zpfcfs18 (i : Nat) : zyPh := zif (Nat.beq i 0) (zpfcfs18_z) (zpfcfs18_a)
noncomputable def zXfcfs18 (i : Nat) : List zyXp := zif (Nat.beq i 0) ([zxfcfs18_zx0]) ([])
noncomputable def zRfcfs18 (i : Nat) : List zyXp := zif (Nat.beq i 0) ([]) ([zxfcfs18_ar0, zxfcfs18_ar1, zxfcfs18_ar2, zxfcfs18_ar3])
noncomputable def zFfcfs18 (i : Nat) : zyR := zif (Nat.beq i 0) ([]) ([(0, 0, 0)])
noncomputable def zSfcfs18 (i : Nat) : Nat := zif (Nat.beq i 0) (0) (0)
def xΨcfs18 (x : Nat → Int) (E _ : zyEm) (r : Int) : Prop := r = if 0 ≤ x 0 ∧ x 0 < xE E 19 2 then xE E 21 (x 0) else -1
noncomputable def fpfcfs18 : zyR := [(0, 0, 0)]
theorem zyfcfs18_run : zyrS zymc zxi128 (128, 0, 0, 1, 0) 4 zpfcfs18 (fun _ _ => []) zFfcfs18 zSfcfs18 zXfcfs18 zRfcfs18 2 = true := by decide +kernel
theorem zyfcfs18_ck : zyAll (fun i => xsubR (zFfcfs18 i) fpfcfs18 && ((zXfcfs18 i).all xckX && (zRfcfs18 i).all (fun x => xckX x && xrtB true x))) 2 = true := by decide +kernel
def xIfcfs18 (i : Nat) (x0 : Nat → Int) (E0 : zyEm) (v : Nat → Int) (E : zyEm) : Prop := if i = 0 then (E = E0 ∧ (v 1) = x0 0) else (E = E0 ∧ (v 1) = x0 0)
def xMfcfs18 (i : Nat) (x0 : Nat → Int) (E0 : zyEm) (v : Nat → Int) (E : zyEm) : Nat := if i = 0 then (2) else (1)
theorem xCfs18 {l : Launch} {en : zEn} {me : zMe} (hen : zG zxMeta 128 = some en) (hme : zG zMeth 128 = some me) : ∀ B, xFcB l zymc B en me 4 [0] 1 fpfcfs18 true (xΦpl18 B) xΨcfs18 := by
  have een : zG zxMeta 128 = some (zxi128, 2, 3, 10, 128, 0, 0, 1, 0) := rfl
  obtain ⟨me1, hme1, hOK⟩ := zall hen
  rw [hme] at hme1
  cases hme1
  rw [een] at hen
  cases hen
  have hr := zyfcfs18_run
  have hck := fun i hi => zyAll_iff zyfcfs18_ck i hi
  simp only [Bool.and_eq_true] at hck
  intro B
  refine xcut (mi := zymc) (B := B) hOK rfl rfl (ι := Fin 2) (fun i => zpfcfs18 i.val) (fun _ _ => []) (fun i => zFfcfs18 i.val) (fun i => zSfcfs18 i.val) (fun i => zXfcfs18 i.val) (fun i => zRfcfs18 i.val) (fun i y2 ct en2 me2 h => by cases h) 200000 (fun i => zyAll_iff hr i.val i.isLt) (fun i => (hck i.val i.isLt).1) (fun i => (hck i.val i.isLt).2.1) (fun i => (hck i.val i.isLt).2.2) ⟨0, by decide⟩ ⟨rfl, rfl, rfl, rfl⟩ ⟨by decide, by decide⟩ (fun i x0 E0 v E => xIfcfs18 i.val x0 E0 v E) (fun i x0 E0 v E => xMfcfs18 i.val x0 E0 v E) ?_ ?_ ?_
  · intro x0 E hx0 hT hΦ
    have hΦ : (xΦpl18 B) x0 E := hΦ
    refine ⟨fun k p hp => ?_, ?_⟩
    · have hk : k < 3 := (List.getElem?_eq_some_iff.mp hp).1
      have hk : k = 0 ∨ k = 1 ∨ k = 2 := by omega
      rcases hk with rfl | rfl | rfl
      · have hp : some (0, 4294967295) = some p := hp
        cases hp
        show ((0 : Nat) : Int) ≤ 0 + 2147483648 ∧ 0 + 2147483648 ≤ ((4294967295 : Nat) : Int)
        omega
      · have hp : some (0, 4294967295) = some p := hp
        cases hp
        show ((0 : Nat) : Int) ≤ x0 0 + 2147483648 ∧ x0 0 + 2147483648 ≤ ((4294967295 : Nat) : Int)
        have hx := hx0 0
        omega
      · have hp : some (0, 4294967295) = some p := hp
        cases hp
        show ((0 : Nat) : Int) ≤ x0 1 + 2147483648 ∧ x0 1 + 2147483648 ≤ ((4294967295 : Nat) : Int)
        have hx := hx0 1
        omega
    · show E = E ∧ (x0 0) = x0 0
      exact ⟨rfl, rfl⟩
  · intro x0 s Wg hRu hrx hT0 hΦ i v H hT hrv hInv hKc hFr0 hIH x hx ρ2 v2 N2 H2 locs lsB stA hAt hB hv hr2 hXs hag hfr hFr hT2
    rcases i with ⟨i, hi⟩
    have hi2 : i = 0 ∨ i = 1 := by omega
    rcases hi2 with rfl | rfl
    · have hx : x ∈ [zxfcfs18_zx0] := hx
      have hag : ∀ k, k < 3 → v2 k = v k := hag
      have hfr : xFr [] _ _ := hfr
      have ex := List.mem_singleton.mp hx
      subst ex
      obtain ⟨hF, hBd, hM⟩ := hXs
      have r1 := hr2 1
      have g1 : v2 1 = v 1 := hag 1 (by decide)
      have e19_2 : xE (zyEl zymc B H2) 19 2 = xE (zyEl zymc B H) 19 2 := xFr_E hfr rfl
      have q19_2 : xE (zyEl zymc B H) 19 2 = xE (zyEl zymc B s.heap) 19 2 := xFr_E hFr0 rfl
      have e21 : ∀ i, xE (zyEl zymc B H2) 21 i = xE (zyEl zymc B H) 21 i := fun i => xFr_E hfr rfl
      have q21 : ∀ i, xE (zyEl zymc B H) 21 i = xE (zyEl zymc B s.heap) 21 i := fun i => xFr_E hFr0 rfl
      have hI : (zyEl zymc B H) = (zyEl zymc B s.heap) ∧ (v 1) = x0 0 := hInv
      obtain ⟨hE, i1⟩ := hI
      refine xGo hIH hAt hB hv hFr ⟨1, by decide⟩ [0, 34359738369, 0] [0, (v2 1), 0] rfl ⟨by decide +kernel, ⟨rfl, by decide +kernel⟩, (xcs_c rfl (xcs_c rfl (xcs_c rfl xcs_n))), (xe_0 (xe_f (by omega) (xe_0 xe_n))), (xkq_r 0 1 18 rfl rfl rfl rfl rfl (by rw [xFr_n hfr, hE]; exact hΦ) xkq_n)⟩ xst_n ?_ ?_
      · show (zyEl zymc B H2) = (zyEl zymc B s.heap) ∧ ((v2 1) : Int) = x0 0
        exact ⟨(xFr_n hfr).trans hE, by omega⟩
      · show 1 < 2
        omega
    · cases hx
  · intro x0 E0 E E2 hrx hT0 hΦ i v hT hrv hInv hKc hFr0 x hx v2 hr2 hXs hag hfr hFr hT2
    rcases i with ⟨i, hi⟩
    have hi2 : i = 0 ∨ i = 1 := by omega
    rcases hi2 with rfl | rfl
    · cases hx
    · have hx : x ∈ [zxfcfs18_ar0, zxfcfs18_ar1, zxfcfs18_ar2, zxfcfs18_ar3] := hx
      have hag : ∀ k, k < 3 → v2 k = v k := hag
      have hfr : xFr [(0, 0, 0)] _ _ := hfr
      rcases List.mem_cons.mp hx with ex | hx
      · subst ex
        obtain ⟨hF, hBd, hM⟩ := hXs
        have g1 : v2 1 = v 1 := hag 1 (by decide)
        have b0 : ((0 : Nat) : Int) ≤ (v2 1) + 2147483648 ∧ (v2 1) + 2147483648 ≤ ((2147483647 : Nat) : Int) := xXb hBd 0 rfl
        have f0 : (v2 1) < 0 := xXf hF 0 rfl
        have e19_2 : xE E2 19 2 = xE E 19 2 := xFr_E hfr rfl
        have q19_2 : xE E 19 2 = xE E0 19 2 := xFr_E hFr0 rfl
        have e21 : ∀ i, xE E2 21 i = xE E 21 i := fun i => xFr_E hfr rfl
        have q21 : ∀ i, xE E 21 i = xE E0 21 i := fun i => xFr_E hFr0 rfl
        have hI : E = E0 ∧ (v 1) = x0 0 := hInv
        show xΨcfs18 x0 E0 E2 (-1)
        obtain ⟨hE, i1⟩ := hI
        have hSW := q19_2
        unfold xΨcfs18
        rw [if_neg]
        rintro ⟨y2, y3⟩
        omega
      · skip
        rcases List.mem_cons.mp hx with ex | hx
        · subst ex
          obtain ⟨hF, hBd, hM⟩ := hXs
          have g1 : v2 1 = v 1 := hag 1 (by decide)
          have b0 : ((2147483648 : Nat) : Int) ≤ (v2 1) + 2147483648 ∧ (v2 1) + 2147483648 ≤ ((2147483727 : Nat) : Int) := xXb hBd 0 rfl
          have b1 : ((2147483649 : Nat) : Int) ≤ (v2 3) + 2147483648 ∧ (v2 3) + 2147483648 ≤ ((2147483728 : Nat) : Int) := xXb hBd 1 rfl
          have b2 : ((2147483648 : Nat) : Int) ≤ (v2 4) + 2147483648 ∧ (v2 4) + 2147483648 ≤ ((2147483727 : Nat) : Int) := xXb hBd 2 rfl
          have f0 : 0 ≤ (v2 1) := xXf hF 0 rfl
          have f1 : (0 : Int) ≤ 2 ∧ xE E 19 2 = (v2 3) := xXf hF 1 rfl
          have f2 : (v2 1) < (v2 3) := xXf hF 2 rfl
          have f3 : (0 : Int) ≤ (v2 1) ∧ xE E 21 (v2 1) = (v2 4) := xXf hF 3 rfl
          have f4 : ¬ (v2 4) = (-1) := xXf hF 4 rfl
          have e19_2 : xE E2 19 2 = xE E 19 2 := xFr_E hfr rfl
          have q19_2 : xE E 19 2 = xE E0 19 2 := xFr_E hFr0 rfl
          have e21 : ∀ i, xE E2 21 i = xE E 21 i := fun i => xFr_E hfr rfl
          have q21 : ∀ i, xE E 21 i = xE E0 21 i := fun i => xFr_E hFr0 rfl
          have hI : E = E0 ∧ (v 1) = x0 0 := hInv
          show xΨcfs18 x0 E0 E2 (v2 4)
          obtain ⟨hE, i1⟩ := hI
          have hSW := q19_2
          have c3 : xE E0 21 ((v2 1)) = (v2 4) := (q21 _).symm.trans f3.2
          rw [show (v2 1) = x0 0 by omega] at c3
          unfold xΨcfs18
          rw [if_pos ⟨by omega, by omega⟩]
          omega
        · skip
          rcases List.mem_cons.mp hx with ex | hx
          · subst ex
            obtain ⟨hF, hBd, hM⟩ := hXs
            have g1 : v2 1 = v 1 := hag 1 (by decide)
            have b0 : ((2147483648 : Nat) : Int) ≤ (v2 1) + 2147483648 ∧ (v2 1) + 2147483648 ≤ ((2147483727 : Nat) : Int) := xXb hBd 0 rfl
            have b1 : ((2147483649 : Nat) : Int) ≤ (v2 3) + 2147483648 ∧ (v2 3) + 2147483648 ≤ ((2147483728 : Nat) : Int) := xXb hBd 1 rfl
            have b2 : ((2147483647 : Nat) : Int) ≤ (v2 4) + 2147483648 ∧ (v2 4) + 2147483648 ≤ ((2147483647 : Nat) : Int) := xXb hBd 2 rfl
            have f0 : 0 ≤ (v2 1) := xXf hF 0 rfl
            have f1 : (0 : Int) ≤ 2 ∧ xE E 19 2 = (v2 3) := xXf hF 1 rfl
            have f2 : (v2 1) < (v2 3) := xXf hF 2 rfl
            have f3 : (0 : Int) ≤ (v2 1) ∧ xE E 21 (v2 1) = (v2 4) := xXf hF 3 rfl
            have f4 : (v2 4) = (-1) := xXf hF 4 rfl
            have e19_2 : xE E2 19 2 = xE E 19 2 := xFr_E hfr rfl
            have q19_2 : xE E 19 2 = xE E0 19 2 := xFr_E hFr0 rfl
            have e21 : ∀ i, xE E2 21 i = xE E 21 i := fun i => xFr_E hfr rfl
            have q21 : ∀ i, xE E 21 i = xE E0 21 i := fun i => xFr_E hFr0 rfl
            have hI : E = E0 ∧ (v 1) = x0 0 := hInv
            show xΨcfs18 x0 E0 E2 (-1)
            obtain ⟨hE, i1⟩ := hI
            have hSW := q19_2
            have c3 : xE E0 21 ((v2 1)) = (v2 4) := (q21 _).symm.trans f3.2
            rw [show (v2 1) = x0 0 by omega] at c3
            unfold xΨcfs18
            rw [if_pos ⟨by omega, by omega⟩]
            omega
          · skip
            have ex := List.mem_singleton.mp hx
            subst ex
            obtain ⟨hF, hBd, hM⟩ := hXs
            have g1 : v2 1 = v 1 := hag 1 (by decide)
            have b0 : ((2147483648 : Nat) : Int) ≤ (v2 1) + 2147483648 ∧ (v2 1) + 2147483648 ≤ ((4294967295 : Nat) : Int) := xXb hBd 0 rfl
            have b1 : ((2147483648 : Nat) : Int) ≤ (v2 3) + 2147483648 ∧ (v2 3) + 2147483648 ≤ ((2147483728 : Nat) : Int) := xXb hBd 1 rfl
            have f0 : 0 ≤ (v2 1) := xXf hF 0 rfl
            have f1 : (0 : Int) ≤ 2 ∧ xE E 19 2 = (v2 3) := xXf hF 1 rfl
            have f2 : (v2 3) ≤ (v2 1) := xXf hF 2 rfl
            have e19_2 : xE E2 19 2 = xE E 19 2 := xFr_E hfr rfl
            have q19_2 : xE E 19 2 = xE E0 19 2 := xFr_E hFr0 rfl
            have e21 : ∀ i, xE E2 21 i = xE E 21 i := fun i => xFr_E hfr rfl
            have q21 : ∀ i, xE E 21 i = xE E0 21 i := fun i => xFr_E hFr0 rfl
            have hI : E = E0 ∧ (v 1) = x0 0 := hInv
            show xΨcfs18 x0 E0 E2 (-1)
            obtain ⟨hE, i1⟩ := hI
            have hSW := q19_2
            unfold xΨcfs18
            rw [if_neg]
            rintro ⟨y2, y3⟩
            omega
noncomputable def zxfcpg18_zx0 : zyXp := (0, [3, 34359738369, 68719476737, 103079215105], [], [], [], [])
noncomputable def zpfcpg18_z : zyPh := (0, [3, 34359738369, 68719476737, 103079215105], [(0, 4294967295), (0, 4294967295), (0, 4294967295), (0, 4294967295)], [], [])
noncomputable def zxfcpg18_ax0 : zyXp := (72, [3, 34359738369, 68719476737, 103079215105], [], [(21, 0, 103079215105, 8), (21, 0, 32, 103079215105), (21, 0, 68719476737, 0), (9, 137438953473, 68719476737, 103079215105), (22, 0, 137438953473, 0), (21, 0, 34359738369, 0), (24, 171798691841, 19, 24), (20, 0, 34359738369, 171798691841), (24, 206158430209, 27, 34359738369), (23, 0, 206158430209, 68719476737)], [(34359738369, 2147483648, 2147483678), (68719476737, 2147483648, 4294967295), (103079215105, 2147483649, 2147483652), (137438953473, 2147483648, 2147483648), (171798691841, 2147483649, 2147483679), (206158430209, 2147483648, 4294967295)], [])
noncomputable def zxfcpg18_ax1 : zyXp := (72, [3, 34359738369, 68719476737, 103079215105], [], [(21, 0, 103079215105, 8), (21, 0, 32, 103079215105), (21, 0, 68719476737, 0), (9, 137438953473, 68719476737, 103079215105), (22, 0, 137438953473, 0), (21, 0, 34359738369, 0), (24, 171798691841, 19, 24), (20, 0, 34359738369, 171798691841), (24, 206158430209, 27, 34359738369), (22, 0, 206158430209, 68719476737), (24, 240518168577, 28, 34359738369), (23, 0, 240518168577, 103079215105)], [(34359738369, 2147483648, 2147483678), (68719476737, 2147483648, 4294967295), (103079215105, 2147483649, 2147483652), (137438953473, 2147483648, 2147483648), (171798691841, 2147483649, 2147483679), (206158430209, 2147483648, 4294967295), (240518168577, 2147483648, 2147483652)], [])
noncomputable def zxfcpg18_ar0 : zyXp := (0, [], [34359738360], [(20, 0, 103079215105, 8)], [(103079215105, 0, 2147483648)], [])
noncomputable def zxfcpg18_ar1 : zyXp := (0, [], [34359738360], [(21, 0, 103079215105, 8), (20, 0, 32, 103079215105)], [(103079215105, 2147483653, 4294967295)], [])
noncomputable def zxfcpg18_ar2 : zyXp := (0, [], [34359738360], [(21, 0, 103079215105, 8), (21, 0, 32, 103079215105), (20, 0, 68719476737, 0)], [(68719476737, 0, 2147483647), (103079215105, 2147483649, 2147483652)], [])
noncomputable def zxfcpg18_ar3 : zyXp := (0, [], [34359738360], [(21, 0, 103079215105, 8), (21, 0, 32, 103079215105), (21, 0, 68719476737, 0), (9, 137438953473, 68719476737, 103079215105), (23, 0, 137438953473, 0)], [(68719476737, 2147483648, 4294967295), (103079215105, 2147483649, 2147483652), (137438953473, 2147483649, 3221225471)], [])
noncomputable def zxfcpg18_ar4 : zyXp := (0, [], [34359738360], [(21, 0, 103079215105, 8), (21, 0, 32, 103079215105), (21, 0, 68719476737, 0), (9, 137438953473, 68719476737, 103079215105), (22, 0, 137438953473, 0), (20, 0, 34359738369, 0)], [(34359738369, 0, 2147483647), (68719476737, 2147483648, 4294967295), (103079215105, 2147483649, 2147483652), (137438953473, 2147483648, 2147483648)], [])
noncomputable def zxfcpg18_ar5 : zyXp := (0, [], [34359738360], [(21, 0, 103079215105, 8), (21, 0, 32, 103079215105), (21, 0, 68719476737, 0), (9, 137438953473, 68719476737, 103079215105), (22, 0, 137438953473, 0), (21, 0, 34359738369, 0), (24, 171798691841, 19, 24), (20, 0, 34359738369, 171798691841), (24, 206158430209, 27, 34359738369), (22, 0, 206158430209, 68719476737), (24, 240518168577, 28, 34359738369), (22, 0, 240518168577, 103079215105)], [(34359738369, 2147483648, 2147483678), (68719476737, 2147483648, 4294967295), (103079215105, 2147483649, 2147483652), (137438953473, 2147483648, 2147483648), (171798691841, 2147483649, 2147483679), (206158430209, 2147483648, 4294967295), (240518168577, 2147483648, 2147483652)], [])
noncomputable def zxfcpg18_ar6 : zyXp := (0, [], [34359738360], [(21, 0, 103079215105, 8), (21, 0, 32, 103079215105), (21, 0, 68719476737, 0), (9, 137438953473, 68719476737, 103079215105), (22, 0, 137438953473, 0), (21, 0, 34359738369, 0), (24, 171798691841, 19, 24), (21, 0, 34359738369, 171798691841)], [(34359738369, 2147483648, 4294967295), (68719476737, 2147483648, 4294967295), (103079215105, 2147483649, 2147483652), (137438953473, 2147483648, 2147483648), (171798691841, 2147483648, 2147483679)], [])
noncomputable def zpfcpg18_a : zyPh := (0, [3, 34359738369, 68719476737, 103079215105], [(0, 4294967295), (0, 4294967295), (0, 4294967295), (0, 4294967295)], [(1, 147)], [])
noncomputable def zxfcpg18_bx0 : zyXp := (72, [3, 34359738369, 68719476737, 103079215105], [], [], [(34359738369, 2147483648, 2147483678), (68719476737, 2147483648, 4294967295), (103079215105, 2147483649, 2147483652)], [])
noncomputable def zpfcpg18_b : zyPh := (72, [3, 34359738369, 68719476737, 103079215105], [(0, 4294967295), (2147483648, 2147483678), (2147483648, 4294967295), (2147483649, 2147483652)], [], [])
noncomputable def zxfcpg18_b2x0 : zyXp := (81, [3, 34359738369, 68719476737, 103079215105], [68719476737, 34359738369, 219], [], [(34359738369, 2147483648, 2147483678), (68719476737, 2147483648, 4294967295), (103079215105, 2147483649, 2147483652)], [])
noncomputable def zpfcpg18_b2 : zyPh := (72, [3, 34359738369, 68719476737, 103079215105], [(0, 4294967295), (2147483648, 2147483678), (2147483648, 4294967295), (2147483649, 2147483652)], [(1, 147)], [])
noncomputable def zxfcpg18_cx0 : zyXp := (91, [3, 13, 13, 103079215105], [103079215105, 34359738369, 227], [], [(34359738369, 2147483648, 2147483678), (103079215105, 2147483649, 2147483652)], [])
noncomputable def zpfcpg18_c : zyPh := (82, [3, 34359738369, 68719476737, 103079215105], [(0, 4294967295), (2147483648, 2147483678), (2147483648, 4294967295), (2147483649, 2147483652)], [(1, 147)], [])
noncomputable def zxfcpg18_dr0 : zyXp := (0, [], [103079215105], [], [(103079215105, 2147483649, 2147483652)], [])
noncomputable def zpfcpg18_d : zyPh := (92, [3, 13, 13, 103079215105], [(0, 4294967295), (0, 4294967295), (0, 4294967295), (2147483649, 2147483652)], [], [])
noncomputable def zpfcpg18 (i : Nat) : zyPh := zif (Nat.beq i 0) (zpfcpg18_z) (zif (Nat.beq i 1) (zpfcpg18_a) (zif (Nat.beq i 2) (zpfcpg18_b) (zif (Nat.beq i 3) (zpfcpg18_b2) (zif (Nat.beq i 4) (zpfcpg18_c) (zpfcpg18_d)))))
noncomputable def zXfcpg18 (i : Nat) : List zyXp := zif (Nat.beq i 0) ([zxfcpg18_zx0]) (zif (Nat.beq i 1) ([zxfcpg18_ax0, zxfcpg18_ax1]) (zif (Nat.beq i 2) ([zxfcpg18_bx0]) (zif (Nat.beq i 3) ([zxfcpg18_b2x0]) (zif (Nat.beq i 4) ([zxfcpg18_cx0]) ([])))))
noncomputable def zRfcpg18 (i : Nat) : List zyXp := zif (Nat.beq i 0) ([]) (zif (Nat.beq i 1) ([zxfcpg18_ar0, zxfcpg18_ar1, zxfcpg18_ar2, zxfcpg18_ar3, zxfcpg18_ar4, zxfcpg18_ar5, zxfcpg18_ar6]) (zif (Nat.beq i 2) ([]) (zif (Nat.beq i 3) ([]) (zif (Nat.beq i 4) ([]) ([zxfcpg18_dr0])))))
noncomputable def zFfcpg18 (i : Nat) : zyR := zif (Nat.beq i 0) ([]) (zif (Nat.beq i 1) ([(0, 0, 0)]) (zif (Nat.beq i 2) ([]) (zif (Nat.beq i 3) ([]) (zif (Nat.beq i 4) ([]) ([(0, 0, 0)])))))
noncomputable def zSfcpg18 (i : Nat) : Nat := zif (Nat.beq i 0) (0) (zif (Nat.beq i 1) (0) (zif (Nat.beq i 2) (0) (zif (Nat.beq i 3) (0) (zif (Nat.beq i 4) (0) (0)))))
def xVp18 (x : Nat → Int) (E : zyEm) : Prop := (1 ≤ x 2 ∧ x 2 ≤ 4) ∧ 0 ≤ x 1 ∧ xop 9 (x 1) (x 2) = 0 ∧ (0 ≤ x 0 ∧ x 0 < xE E 19 3) ∧ ¬ (xE E 27 (x 0) = x 1 ∧ xE E 28 (x 0) = x 2)
def xΨcpg18 (x : Nat → Int) (E E2 : zyEm) (r : Int) : Prop := (xVp18 x E → r = x 2 ∧ (∀ k, 0 ≤ k → xE E2 27 k = uS (xE E 27) (x 0) (x 1) k) ∧ ∀ k, 0 ≤ k → xE E2 28 k = uS (xE E 28) (x 0) (x 2) k) ∧ (¬ xVp18 x E → r = -1 ∧ (∀ k, xE E2 27 k = xE E 27 k) ∧ ∀ k, xE E2 28 k = xE E 28 k)
noncomputable def fpfcpg18 : zyR := [(0, 0, 0), (27, 0, 30), (28, 0, 30)]
theorem zyfcpg18_run : zyrS zymc zxi129 (129, 0, 0, 1, 0) 4 zpfcpg18 (fun _ _ => []) zFfcpg18 zSfcpg18 zXfcpg18 zRfcpg18 6 = true := by decide +kernel
theorem zyfcpg18_ck : zyAll (fun i => xsubR (zFfcpg18 i) fpfcpg18 && ((zXfcpg18 i).all xckX && (zRfcpg18 i).all (fun x => xckX x && xrtB true x))) 6 = true := by decide +kernel
def xIfcpg18 (i : Nat) (x0 : Nat → Int) (E0 : zyEm) (v : Nat → Int) (E : zyEm) : Prop := if i = 0 then (E = E0 ∧ (v 1) = x0 0 ∧ (v 2) = x0 1 ∧ (v 3) = x0 2) else if i = 1 then (E = E0 ∧ (v 1) = x0 0 ∧ (v 2) = x0 1 ∧ (v 3) = x0 2) else if i = 2 then (xVp18 x0 E0 ∧ (∀ k, 0 ≤ k → xE E 27 k = xE E0 27 k) ∧ (∀ k, 0 ≤ k → xE E 28 k = xE E0 28 k) ∧ (v 1) = x0 0 ∧ (v 2) = x0 1 ∧ (v 3) = x0 2) else if i = 3 then (xVp18 x0 E0 ∧ (∀ k, 0 ≤ k → xE E 27 k = xE E0 27 k) ∧ (∀ k, 0 ≤ k → xE E 28 k = xE E0 28 k) ∧ (v 1) = x0 0 ∧ (v 2) = x0 1 ∧ (v 3) = x0 2) else if i = 4 then (xVp18 x0 E0 ∧ (∀ k, 0 ≤ k → xE E 27 k = uS (xE E0 27) (x0 0) (x0 1) k) ∧ (∀ k, 0 ≤ k → xE E 28 k = xE E0 28 k) ∧ (v 1) = x0 0 ∧ (v 2) = x0 1 ∧ (v 3) = x0 2) else (xVp18 x0 E0 ∧ (∀ k, 0 ≤ k → xE E 27 k = uS (xE E0 27) (x0 0) (x0 1) k) ∧ (∀ k, 0 ≤ k → xE E 28 k = uS (xE E0 28) (x0 0) (x0 2) k) ∧ (v 3) = x0 2)
def xMfcpg18 (i : Nat) (x0 : Nat → Int) (E0 : zyEm) (v : Nat → Int) (E : zyEm) : Nat := if i = 0 then (9) else if i = 1 then (8) else if i = 2 then (7) else if i = 3 then (6) else if i = 4 then (5) else (4)
theorem xCpg18 {l : Launch} {en : zEn} {me : zMe} (hen : zG zxMeta 129 = some en) (hme : zG zMeth 129 = some me) : ∀ B, xFcB l zymc B en me 4 [0] 3 fpfcpg18 true (xΦpl18 B) xΨcpg18 := by
  have een : zG zxMeta 129 = some (zxi129, 4, 4, 10, 129, 0, 0, 1, 0) := rfl
  obtain ⟨me1, hme1, hOK⟩ := zall hen
  rw [hme] at hme1
  cases hme1
  rw [een] at hen
  cases hen
  have hr := zyfcpg18_run
  have hck := fun i hi => zyAll_iff zyfcpg18_ck i hi
  simp only [Bool.and_eq_true] at hck
  intro B
  refine xcut (mi := zymc) (B := B) hOK rfl rfl (ι := Fin 6) (fun i => zpfcpg18 i.val) (fun _ _ => []) (fun i => zFfcpg18 i.val) (fun i => zSfcpg18 i.val) (fun i => zXfcpg18 i.val) (fun i => zRfcpg18 i.val) (fun i y2 ct en2 me2 h => by cases h) 200000 (fun i => zyAll_iff hr i.val i.isLt) (fun i => (hck i.val i.isLt).1) (fun i => (hck i.val i.isLt).2.1) (fun i => (hck i.val i.isLt).2.2) ⟨0, by decide⟩ ⟨rfl, rfl, rfl, rfl⟩ ⟨by decide, by decide⟩ (fun i x0 E0 v E => xIfcpg18 i.val x0 E0 v E) (fun i x0 E0 v E => xMfcpg18 i.val x0 E0 v E) ?_ ?_ ?_
  · intro x0 E hx0 hT hΦ
    have hΦ : (xΦpl18 B) x0 E := hΦ
    refine ⟨fun k p hp => ?_, ?_⟩
    · have hk : k < 4 := (List.getElem?_eq_some_iff.mp hp).1
      have hk : k = 0 ∨ k = 1 ∨ k = 2 ∨ k = 3 := by omega
      rcases hk with rfl | rfl | rfl | rfl
      · have hp : some (0, 4294967295) = some p := hp
        cases hp
        show ((0 : Nat) : Int) ≤ 0 + 2147483648 ∧ 0 + 2147483648 ≤ ((4294967295 : Nat) : Int)
        omega
      · have hp : some (0, 4294967295) = some p := hp
        cases hp
        show ((0 : Nat) : Int) ≤ x0 0 + 2147483648 ∧ x0 0 + 2147483648 ≤ ((4294967295 : Nat) : Int)
        have hx := hx0 0
        omega
      · have hp : some (0, 4294967295) = some p := hp
        cases hp
        show ((0 : Nat) : Int) ≤ x0 1 + 2147483648 ∧ x0 1 + 2147483648 ≤ ((4294967295 : Nat) : Int)
        have hx := hx0 1
        omega
      · have hp : some (0, 4294967295) = some p := hp
        cases hp
        show ((0 : Nat) : Int) ≤ x0 2 + 2147483648 ∧ x0 2 + 2147483648 ≤ ((4294967295 : Nat) : Int)
        have hx := hx0 2
        omega
    · show E = E ∧ (x0 0) = x0 0 ∧ (x0 1) = x0 1 ∧ (x0 2) = x0 2
      exact ⟨rfl, rfl, rfl, rfl⟩
  · intro x0 s Wg hRu hrx hT0 hΦ i v H hT hrv hInv hKc hFr0 hIH x hx ρ2 v2 N2 H2 locs lsB stA hAt hB hv hr2 hXs hag hfr hFr hT2
    rcases i with ⟨i, hi⟩
    have hi2 : i = 0 ∨ i = 1 ∨ i = 2 ∨ i = 3 ∨ i = 4 ∨ i = 5 := by omega
    rcases hi2 with rfl | rfl | rfl | rfl | rfl | rfl
    · have hx : x ∈ [zxfcpg18_zx0] := hx
      have hag : ∀ k, k < 4 → v2 k = v k := hag
      have hfr : xFr [] _ _ := hfr
      have ex := List.mem_singleton.mp hx
      subst ex
      obtain ⟨hF, hBd, hM⟩ := hXs
      have r1 := hr2 1
      have r2 := hr2 2
      have r3 := hr2 3
      have g1 : v2 1 = v 1 := hag 1 (by decide)
      have g2 : v2 2 = v 2 := hag 2 (by decide)
      have g3 : v2 3 = v 3 := hag 3 (by decide)
      have e19_3 : xE (zyEl zymc B H2) 19 3 = xE (zyEl zymc B H) 19 3 := xFr_E hfr rfl
      have q19_3 : xE (zyEl zymc B H) 19 3 = xE (zyEl zymc B s.heap) 19 3 := xFr_E hFr0 rfl
      have e27 : ∀ i, xE (zyEl zymc B H2) 27 i = xE (zyEl zymc B H) 27 i := fun i => xFr_E hfr rfl
      have e28 : ∀ i, xE (zyEl zymc B H2) 28 i = xE (zyEl zymc B H) 28 i := fun i => xFr_E hfr rfl
      have hI : (zyEl zymc B H) = (zyEl zymc B s.heap) ∧ (v 1) = x0 0 ∧ (v 2) = x0 1 ∧ (v 3) = x0 2 := hInv
      have q27 : ∀ i, xE (zyEl zymc B H) 27 i = xE (zyEl zymc B s.heap) 27 i := fun i => by rw [hI.1]
      have q28 : ∀ i, xE (zyEl zymc B H) 28 i = xE (zyEl zymc B s.heap) 28 i := fun i => by rw [hI.1]
      obtain ⟨hE, i1, i2, i3⟩ := hI
      refine xGo hIH hAt hB hv hFr ⟨1, by decide⟩ [0, 34359738369, 68719476737, 103079215105] [0, (v2 1), (v2 2), (v2 3)] rfl ⟨by decide +kernel, ⟨rfl, by decide +kernel⟩, (xcs_c rfl (xcs_c rfl (xcs_c rfl (xcs_c rfl xcs_n)))), (xe_0 (xe_f (by omega) (xe_f (by omega) (xe_f (by omega) xe_n)))), (xkq_r 0 1 18 rfl rfl rfl rfl rfl (by rw [xFr_n hfr, hE]; exact hΦ) xkq_n)⟩ xst_n ?_ ?_
      · show (zyEl zymc B H2) = (zyEl zymc B s.heap) ∧ ((v2 1) : Int) = x0 0 ∧ ((v2 2) : Int) = x0 1 ∧ ((v2 3) : Int) = x0 2
        exact ⟨(xFr_n hfr).trans hE, by omega, by omega, by omega⟩
      · show 8 < 9
        omega
    · have hx : x ∈ [zxfcpg18_ax0, zxfcpg18_ax1] := hx
      have hag : ∀ k, k < 4 → v2 k = v k := hag
      have hfr : xFr [(0, 0, 0)] _ _ := hfr
      rcases List.mem_cons.mp hx with ex | hx
      · subst ex
        obtain ⟨hF, hBd, hM⟩ := hXs
        have g1 : v2 1 = v 1 := hag 1 (by decide)
        have g2 : v2 2 = v 2 := hag 2 (by decide)
        have g3 : v2 3 = v 3 := hag 3 (by decide)
        have b0 : ((2147483648 : Nat) : Int) ≤ (v2 1) + 2147483648 ∧ (v2 1) + 2147483648 ≤ ((2147483678 : Nat) : Int) := xXb hBd 0 rfl
        have b1 : ((2147483648 : Nat) : Int) ≤ (v2 2) + 2147483648 ∧ (v2 2) + 2147483648 ≤ ((4294967295 : Nat) : Int) := xXb hBd 1 rfl
        have b2 : ((2147483649 : Nat) : Int) ≤ (v2 3) + 2147483648 ∧ (v2 3) + 2147483648 ≤ ((2147483652 : Nat) : Int) := xXb hBd 2 rfl
        have b3 : ((2147483648 : Nat) : Int) ≤ (v2 4) + 2147483648 ∧ (v2 4) + 2147483648 ≤ ((2147483648 : Nat) : Int) := xXb hBd 3 rfl
        have b4 : ((2147483649 : Nat) : Int) ≤ (v2 5) + 2147483648 ∧ (v2 5) + 2147483648 ≤ ((2147483679 : Nat) : Int) := xXb hBd 4 rfl
        have b5 : ((2147483648 : Nat) : Int) ≤ (v2 6) + 2147483648 ∧ (v2 6) + 2147483648 ≤ ((4294967295 : Nat) : Int) := xXb hBd 5 rfl
        have f0 : 1 ≤ (v2 3) := xXf hF 0 rfl
        have f1 : (v2 3) ≤ 4 := xXf hF 1 rfl
        have f2 : 0 ≤ (v2 2) := xXf hF 2 rfl
        have f3 : (v2 4) = xop 9 (v2 2) (v2 3) := xXf hF 3 rfl
        have f4 : (v2 4) = 0 := xXf hF 4 rfl
        have f5 : 0 ≤ (v2 1) := xXf hF 5 rfl
        have f6 : (0 : Int) ≤ 3 ∧ xE (zyEl zymc B H) 19 3 = (v2 5) := xXf hF 6 rfl
        have f7 : (v2 1) < (v2 5) := xXf hF 7 rfl
        have f8 : (0 : Int) ≤ (v2 1) ∧ xE (zyEl zymc B H) 27 (v2 1) = (v2 6) := xXf hF 8 rfl
        have f9 : ¬ (v2 6) = (v2 2) := xXf hF 9 rfl
        have e19_3 : xE (zyEl zymc B H2) 19 3 = xE (zyEl zymc B H) 19 3 := xFr_E hfr rfl
        have q19_3 : xE (zyEl zymc B H) 19 3 = xE (zyEl zymc B s.heap) 19 3 := xFr_E hFr0 rfl
        have e27 : ∀ i, xE (zyEl zymc B H2) 27 i = xE (zyEl zymc B H) 27 i := fun i => xFr_E hfr rfl
        have e28 : ∀ i, xE (zyEl zymc B H2) 28 i = xE (zyEl zymc B H) 28 i := fun i => xFr_E hfr rfl
        have hI : (zyEl zymc B H) = (zyEl zymc B s.heap) ∧ (v 1) = x0 0 ∧ (v 2) = x0 1 ∧ (v 3) = x0 2 := hInv
        have q27 : ∀ i, xE (zyEl zymc B H) 27 i = xE (zyEl zymc B s.heap) 27 i := fun i => by rw [hI.1]
        have q28 : ∀ i, xE (zyEl zymc B H) 28 i = xE (zyEl zymc B s.heap) 28 i := fun i => by rw [hI.1]
        obtain ⟨hE, i1, i2, i3⟩ := hI
        have hSW := q19_3
        have c8 : xE (zyEl zymc B s.heap) 27 ((v2 1)) = (v2 6) := (q27 _).symm.trans f8.2
        rw [show (v2 1) = x0 0 by omega] at c8
        rw [show (v2 2) = x0 1 by omega, show (v2 3) = x0 2 by omega] at f3
        have hvl : xVp18 x0 (zyEl zymc B s.heap) := by
          unfold xVp18
          refine ⟨⟨by omega, by omega⟩, by omega, by omega, ⟨by omega, by omega⟩, ?_⟩
          rintro ⟨y1, y2⟩
          omega
        refine xGo hIH hAt hB hv hFr ⟨2, by decide⟩ [0, 34359738369, 68719476737, 103079215105] [0, (v2 1), (v2 2), (v2 3)] rfl ⟨by decide +kernel, ⟨rfl, by decide +kernel⟩, (xcs_c rfl (xcs_c rfl (xcs_c rfl (xcs_c rfl xcs_n)))), (xe_0 (xe_c (by omega) (by omega) rfl (xe_c (by omega) (by omega) rfl (xe_c (by omega) (by omega) rfl xe_n)))), xkq_n⟩ xst_n ?_ ?_
        · show xVp18 x0 (zyEl zymc B s.heap) ∧ (∀ k, 0 ≤ k → xE (zyEl zymc B H2) 27 k = xE (zyEl zymc B s.heap) 27 k) ∧ (∀ k, 0 ≤ k → xE (zyEl zymc B H2) 28 k = xE (zyEl zymc B s.heap) 28 k) ∧ ((v2 1) : Int) = x0 0 ∧ ((v2 2) : Int) = x0 1 ∧ ((v2 3) : Int) = x0 2
          exact ⟨hvl, fun k _ => (e27 k).trans (q27 k), fun k _ => (e28 k).trans (q28 k), by omega, by omega, by omega⟩
        · show 7 < 8
          omega
      · skip
        have ex := List.mem_singleton.mp hx
        subst ex
        obtain ⟨hF, hBd, hM⟩ := hXs
        have g1 : v2 1 = v 1 := hag 1 (by decide)
        have g2 : v2 2 = v 2 := hag 2 (by decide)
        have g3 : v2 3 = v 3 := hag 3 (by decide)
        have b0 : ((2147483648 : Nat) : Int) ≤ (v2 1) + 2147483648 ∧ (v2 1) + 2147483648 ≤ ((2147483678 : Nat) : Int) := xXb hBd 0 rfl
        have b1 : ((2147483648 : Nat) : Int) ≤ (v2 2) + 2147483648 ∧ (v2 2) + 2147483648 ≤ ((4294967295 : Nat) : Int) := xXb hBd 1 rfl
        have b2 : ((2147483649 : Nat) : Int) ≤ (v2 3) + 2147483648 ∧ (v2 3) + 2147483648 ≤ ((2147483652 : Nat) : Int) := xXb hBd 2 rfl
        have b3 : ((2147483648 : Nat) : Int) ≤ (v2 4) + 2147483648 ∧ (v2 4) + 2147483648 ≤ ((2147483648 : Nat) : Int) := xXb hBd 3 rfl
        have b4 : ((2147483649 : Nat) : Int) ≤ (v2 5) + 2147483648 ∧ (v2 5) + 2147483648 ≤ ((2147483679 : Nat) : Int) := xXb hBd 4 rfl
        have b5 : ((2147483648 : Nat) : Int) ≤ (v2 6) + 2147483648 ∧ (v2 6) + 2147483648 ≤ ((4294967295 : Nat) : Int) := xXb hBd 5 rfl
        have b6 : ((2147483648 : Nat) : Int) ≤ (v2 7) + 2147483648 ∧ (v2 7) + 2147483648 ≤ ((2147483652 : Nat) : Int) := xXb hBd 6 rfl
        have f0 : 1 ≤ (v2 3) := xXf hF 0 rfl
        have f1 : (v2 3) ≤ 4 := xXf hF 1 rfl
        have f2 : 0 ≤ (v2 2) := xXf hF 2 rfl
        have f3 : (v2 4) = xop 9 (v2 2) (v2 3) := xXf hF 3 rfl
        have f4 : (v2 4) = 0 := xXf hF 4 rfl
        have f5 : 0 ≤ (v2 1) := xXf hF 5 rfl
        have f6 : (0 : Int) ≤ 3 ∧ xE (zyEl zymc B H) 19 3 = (v2 5) := xXf hF 6 rfl
        have f7 : (v2 1) < (v2 5) := xXf hF 7 rfl
        have f8 : (0 : Int) ≤ (v2 1) ∧ xE (zyEl zymc B H) 27 (v2 1) = (v2 6) := xXf hF 8 rfl
        have f9 : (v2 6) = (v2 2) := xXf hF 9 rfl
        have f10 : (0 : Int) ≤ (v2 1) ∧ xE (zyEl zymc B H) 28 (v2 1) = (v2 7) := xXf hF 10 rfl
        have f11 : ¬ (v2 7) = (v2 3) := xXf hF 11 rfl
        have e19_3 : xE (zyEl zymc B H2) 19 3 = xE (zyEl zymc B H) 19 3 := xFr_E hfr rfl
        have q19_3 : xE (zyEl zymc B H) 19 3 = xE (zyEl zymc B s.heap) 19 3 := xFr_E hFr0 rfl
        have e27 : ∀ i, xE (zyEl zymc B H2) 27 i = xE (zyEl zymc B H) 27 i := fun i => xFr_E hfr rfl
        have e28 : ∀ i, xE (zyEl zymc B H2) 28 i = xE (zyEl zymc B H) 28 i := fun i => xFr_E hfr rfl
        have hI : (zyEl zymc B H) = (zyEl zymc B s.heap) ∧ (v 1) = x0 0 ∧ (v 2) = x0 1 ∧ (v 3) = x0 2 := hInv
        have q27 : ∀ i, xE (zyEl zymc B H) 27 i = xE (zyEl zymc B s.heap) 27 i := fun i => by rw [hI.1]
        have q28 : ∀ i, xE (zyEl zymc B H) 28 i = xE (zyEl zymc B s.heap) 28 i := fun i => by rw [hI.1]
        obtain ⟨hE, i1, i2, i3⟩ := hI
        have hSW := q19_3
        have c10 : xE (zyEl zymc B s.heap) 28 ((v2 1)) = (v2 7) := (q28 _).symm.trans f10.2
        rw [show (v2 1) = x0 0 by omega] at c10
        have c8 : xE (zyEl zymc B s.heap) 27 ((v2 1)) = (v2 6) := (q27 _).symm.trans f8.2
        rw [show (v2 1) = x0 0 by omega] at c8
        rw [show (v2 2) = x0 1 by omega, show (v2 3) = x0 2 by omega] at f3
        have hvl : xVp18 x0 (zyEl zymc B s.heap) := by
          unfold xVp18
          refine ⟨⟨by omega, by omega⟩, by omega, by omega, ⟨by omega, by omega⟩, ?_⟩
          rintro ⟨y1, y2⟩
          omega
        refine xGo hIH hAt hB hv hFr ⟨2, by decide⟩ [0, 34359738369, 68719476737, 103079215105] [0, (v2 1), (v2 2), (v2 3)] rfl ⟨by decide +kernel, ⟨rfl, by decide +kernel⟩, (xcs_c rfl (xcs_c rfl (xcs_c rfl (xcs_c rfl xcs_n)))), (xe_0 (xe_c (by omega) (by omega) rfl (xe_c (by omega) (by omega) rfl (xe_c (by omega) (by omega) rfl xe_n)))), xkq_n⟩ xst_n ?_ ?_
        · show xVp18 x0 (zyEl zymc B s.heap) ∧ (∀ k, 0 ≤ k → xE (zyEl zymc B H2) 27 k = xE (zyEl zymc B s.heap) 27 k) ∧ (∀ k, 0 ≤ k → xE (zyEl zymc B H2) 28 k = xE (zyEl zymc B s.heap) 28 k) ∧ ((v2 1) : Int) = x0 0 ∧ ((v2 2) : Int) = x0 1 ∧ ((v2 3) : Int) = x0 2
          exact ⟨hvl, fun k _ => (e27 k).trans (q27 k), fun k _ => (e28 k).trans (q28 k), by omega, by omega, by omega⟩
        · show 7 < 8
          omega
    · have hx : x ∈ [zxfcpg18_bx0] := hx
      have hag : ∀ k, k < 4 → v2 k = v k := hag
      have hfr : xFr [] _ _ := hfr
      have ex := List.mem_singleton.mp hx
      subst ex
      obtain ⟨hF, hBd, hM⟩ := hXs
      have g1 : v2 1 = v 1 := hag 1 (by decide)
      have g2 : v2 2 = v 2 := hag 2 (by decide)
      have g3 : v2 3 = v 3 := hag 3 (by decide)
      have b0 : ((2147483648 : Nat) : Int) ≤ (v2 1) + 2147483648 ∧ (v2 1) + 2147483648 ≤ ((2147483678 : Nat) : Int) := xXb hBd 0 rfl
      have b1 : ((2147483648 : Nat) : Int) ≤ (v2 2) + 2147483648 ∧ (v2 2) + 2147483648 ≤ ((4294967295 : Nat) : Int) := xXb hBd 1 rfl
      have b2 : ((2147483649 : Nat) : Int) ≤ (v2 3) + 2147483648 ∧ (v2 3) + 2147483648 ≤ ((2147483652 : Nat) : Int) := xXb hBd 2 rfl
      have e19_3 : xE (zyEl zymc B H2) 19 3 = xE (zyEl zymc B H) 19 3 := xFr_E hfr rfl
      have q19_3 : xE (zyEl zymc B H) 19 3 = xE (zyEl zymc B s.heap) 19 3 := xFr_E hFr0 rfl
      have e27 : ∀ i, xE (zyEl zymc B H2) 27 i = xE (zyEl zymc B H) 27 i := fun i => xFr_E hfr rfl
      have e28 : ∀ i, xE (zyEl zymc B H2) 28 i = xE (zyEl zymc B H) 28 i := fun i => xFr_E hfr rfl
      have hI : xVp18 x0 (zyEl zymc B s.heap) ∧ (∀ k, 0 ≤ k → xE (zyEl zymc B H) 27 k = xE (zyEl zymc B s.heap) 27 k) ∧ (∀ k, 0 ≤ k → xE (zyEl zymc B H) 28 k = xE (zyEl zymc B s.heap) 28 k) ∧ (v 1) = x0 0 ∧ (v 2) = x0 1 ∧ (v 3) = x0 2 := hInv
      obtain ⟨hvl, hc1, hc2, i1, i2, i3⟩ := hI
      refine xGo hIH hAt hB hv hFr ⟨3, by decide⟩ [0, 34359738369, 68719476737, 103079215105] [0, (v2 1), (v2 2), (v2 3)] rfl ⟨by decide +kernel, ⟨rfl, by decide +kernel⟩, (xcs_c rfl (xcs_c rfl (xcs_c rfl (xcs_c rfl xcs_n)))), (xe_0 (xe_c (by omega) (by omega) rfl (xe_c (by omega) (by omega) rfl (xe_c (by omega) (by omega) rfl xe_n)))), (xkq_r 0 1 18 rfl rfl rfl rfl rfl ((hfr 0 1 rfl).trans ((hFr0 0 1 rfl).trans hΦ)) xkq_n)⟩ xst_n ?_ ?_
      · show xVp18 x0 (zyEl zymc B s.heap) ∧ (∀ k, 0 ≤ k → xE (zyEl zymc B H2) 27 k = xE (zyEl zymc B s.heap) 27 k) ∧ (∀ k, 0 ≤ k → xE (zyEl zymc B H2) 28 k = xE (zyEl zymc B s.heap) 28 k) ∧ ((v2 1) : Int) = x0 0 ∧ ((v2 2) : Int) = x0 1 ∧ ((v2 3) : Int) = x0 2
        exact ⟨hvl, fun k k0 => (e27 k).trans (hc1 k k0), fun k k0 => (e28 k).trans (hc2 k k0), by omega, by omega, by omega⟩
      · show 6 < 7
        omega
    · have hx : x ∈ [zxfcpg18_b2x0] := hx
      have hag : ∀ k, k < 4 → v2 k = v k := hag
      have hfr : xFr [] _ _ := hfr
      have ex := List.mem_singleton.mp hx
      subst ex
      obtain ⟨hF, hBd, hM⟩ := hXs
      have g1 : v2 1 = v 1 := hag 1 (by decide)
      have g2 : v2 2 = v 2 := hag 2 (by decide)
      have g3 : v2 3 = v 3 := hag 3 (by decide)
      have b0 : ((2147483648 : Nat) : Int) ≤ (v2 1) + 2147483648 ∧ (v2 1) + 2147483648 ≤ ((2147483678 : Nat) : Int) := xXb hBd 0 rfl
      have b1 : ((2147483648 : Nat) : Int) ≤ (v2 2) + 2147483648 ∧ (v2 2) + 2147483648 ≤ ((4294967295 : Nat) : Int) := xXb hBd 1 rfl
      have b2 : ((2147483649 : Nat) : Int) ≤ (v2 3) + 2147483648 ∧ (v2 3) + 2147483648 ≤ ((2147483652 : Nat) : Int) := xXb hBd 2 rfl
      have e19_3 : xE (zyEl zymc B H2) 19 3 = xE (zyEl zymc B H) 19 3 := xFr_E hfr rfl
      have q19_3 : xE (zyEl zymc B H) 19 3 = xE (zyEl zymc B s.heap) 19 3 := xFr_E hFr0 rfl
      have e27 : ∀ i, xE (zyEl zymc B H2) 27 i = xE (zyEl zymc B H) 27 i := fun i => xFr_E hfr rfl
      have e28 : ∀ i, xE (zyEl zymc B H2) 28 i = xE (zyEl zymc B H) 28 i := fun i => xFr_E hfr rfl
      have hI : xVp18 x0 (zyEl zymc B s.heap) ∧ (∀ k, 0 ≤ k → xE (zyEl zymc B H) 27 k = xE (zyEl zymc B s.heap) 27 k) ∧ (∀ k, 0 ≤ k → xE (zyEl zymc B H) 28 k = xE (zyEl zymc B s.heap) 28 k) ∧ (v 1) = x0 0 ∧ (v 2) = x0 1 ∧ (v 3) = x0 2 := hInv
      obtain ⟨hvl, hc1, hc2, i1, i2, i3⟩ := hI
      refine xSt hRu hIH hAt hB hv hFr 27 (ax := 0) 68719476737 34359738369 (v2 2) (v2 1) rfl (Or.inl ⟨rfl, rfl⟩) rfl (by decide +kernel) rfl rfl (by omega) (by show (v2 1) < ((31 : Nat) : Int); omega) (fun r hr q1 q2 => by rw [List.mem_singleton.mp hr]; exact ⟨rfl, by show ((2147483648 : Nat) : Int) ≤ (v2 2) + 2147483648; omega, by show (v2 2) + 2147483648 ≤ ((4294967295 : Nat) : Int); omega⟩) (zyin_iff.mpr ⟨(27, 0, 30), by decide, rfl, (by show 0 ≤ Int.toNat (v2 1); omega), by show Int.toNat (v2 1) ≤ 30; omega⟩) (fun H3 hT3 hst3 hne3 hfn3 hFr3 => ?_)
      have hfe3 : ∀ (a2 : Nat) (k2 : Int), ¬ a2 = 27 → xE (zyEl zymc B H3) a2 k2 = xE (zyEl zymc B H2) a2 k2 := fun a2 k2 hne => by unfold xE; rw [hfn3 a2 k2.toNat (fun z => hne z.1)]
      have d19_3 : xE (zyEl zymc B H3) 19 3 = xE (zyEl zymc B H2) 19 3 := hfe3 19 3 (fun z => absurd z (by decide))
      refine ⟨⟨4, by decide⟩, [0, 34359738369, 68719476737, 103079215105], [0, (v2 1), (v2 2), (v2 3)], rfl, ⟨by decide +kernel, ⟨rfl, by decide +kernel⟩, (xcs_c rfl (xcs_c rfl (xcs_c rfl (xcs_c rfl xcs_n)))), (xe_0 (xe_c (by omega) (by omega) rfl (xe_c (by omega) (by omega) rfl (xe_c (by omega) (by omega) rfl xe_n)))), (xkq_r 0 1 18 rfl rfl rfl rfl rfl ((hfn3 0 1 (fun z => absurd z.1 (by decide))).trans ((hfr 0 1 rfl).trans ((hFr0 0 1 rfl).trans hΦ))) xkq_n)⟩, rfl, ?_, ?_⟩
      · show xVp18 x0 (zyEl zymc B s.heap) ∧ (∀ k, 0 ≤ k → xE (zyEl zymc B H3) 27 k = uS (xE (zyEl zymc B s.heap) 27) (x0 0) (x0 1) k) ∧ (∀ k, 0 ≤ k → xE (zyEl zymc B H3) 28 k = xE (zyEl zymc B s.heap) 28 k) ∧ ((v2 1) : Int) = x0 0 ∧ ((v2 2) : Int) = x0 1 ∧ ((v2 3) : Int) = x0 2
        refine ⟨hvl, fun k k0 => ?_, fun k k0 => ?_, by omega, by omega, by omega⟩
        · by_cases e : k = x0 0
          · rw [uS_e e, e, show x0 0 = (v2 1) by omega, hst3] <;> omega
          · rw [uS_n e, hne3 27 k k0 (fun z => e (by omega)), e27]
            exact hc1 k k0
        · rw [hfe3 28 k (by decide), e28]
          exact hc2 k k0
      · show 5 < 6
        omega
    · have hx : x ∈ [zxfcpg18_cx0] := hx
      have hag : ∀ k, k < 4 → v2 k = v k := hag
      have hfr : xFr [] _ _ := hfr
      have ex := List.mem_singleton.mp hx
      subst ex
      obtain ⟨hF, hBd, hM⟩ := hXs
      have g1 : v2 1 = v 1 := hag 1 (by decide)
      have g2 : v2 2 = v 2 := hag 2 (by decide)
      have g3 : v2 3 = v 3 := hag 3 (by decide)
      have b0 : ((2147483648 : Nat) : Int) ≤ (v2 1) + 2147483648 ∧ (v2 1) + 2147483648 ≤ ((2147483678 : Nat) : Int) := xXb hBd 0 rfl
      have b1 : ((2147483649 : Nat) : Int) ≤ (v2 3) + 2147483648 ∧ (v2 3) + 2147483648 ≤ ((2147483652 : Nat) : Int) := xXb hBd 1 rfl
      have e19_3 : xE (zyEl zymc B H2) 19 3 = xE (zyEl zymc B H) 19 3 := xFr_E hfr rfl
      have q19_3 : xE (zyEl zymc B H) 19 3 = xE (zyEl zymc B s.heap) 19 3 := xFr_E hFr0 rfl
      have e27 : ∀ i, xE (zyEl zymc B H2) 27 i = xE (zyEl zymc B H) 27 i := fun i => xFr_E hfr rfl
      have e28 : ∀ i, xE (zyEl zymc B H2) 28 i = xE (zyEl zymc B H) 28 i := fun i => xFr_E hfr rfl
      have hI : xVp18 x0 (zyEl zymc B s.heap) ∧ (∀ k, 0 ≤ k → xE (zyEl zymc B H) 27 k = uS (xE (zyEl zymc B s.heap) 27) (x0 0) (x0 1) k) ∧ (∀ k, 0 ≤ k → xE (zyEl zymc B H) 28 k = xE (zyEl zymc B s.heap) 28 k) ∧ (v 1) = x0 0 ∧ (v 2) = x0 1 ∧ (v 3) = x0 2 := hInv
      obtain ⟨hvl, hc1, hc2, i1, i2, i3⟩ := hI
      refine xSt hRu hIH hAt hB hv hFr 28 (ax := 0) 103079215105 34359738369 (v2 3) (v2 1) rfl (Or.inl ⟨rfl, rfl⟩) rfl (by decide +kernel) rfl rfl (by omega) (by show (v2 1) < ((31 : Nat) : Int); omega) (fun r hr q1 q2 => by rw [List.mem_singleton.mp hr]; exact ⟨rfl, by show ((2147483648 : Nat) : Int) ≤ (v2 3) + 2147483648; omega, by show (v2 3) + 2147483648 ≤ ((2147483652 : Nat) : Int); omega⟩) (zyin_iff.mpr ⟨(28, 0, 30), by decide, rfl, (by show 0 ≤ Int.toNat (v2 1); omega), by show Int.toNat (v2 1) ≤ 30; omega⟩) (fun H3 hT3 hst3 hne3 hfn3 hFr3 => ?_)
      have hfe3 : ∀ (a2 : Nat) (k2 : Int), ¬ a2 = 28 → xE (zyEl zymc B H3) a2 k2 = xE (zyEl zymc B H2) a2 k2 := fun a2 k2 hne => by unfold xE; rw [hfn3 a2 k2.toNat (fun z => hne z.1)]
      have d19_3 : xE (zyEl zymc B H3) 19 3 = xE (zyEl zymc B H2) 19 3 := hfe3 19 3 (fun z => absurd z (by decide))
      refine ⟨⟨5, by decide⟩, [0, 0, 0, 103079215105], [0, 0, 0, (v2 3)], rfl, ⟨by decide +kernel, ⟨rfl, by decide +kernel⟩, (xcs_c rfl (xcs_c rfl (xcs_c rfl (xcs_c rfl xcs_n)))), (xe_0 (xe_0 (xe_0 (xe_c (by omega) (by omega) rfl xe_n)))), xkq_n⟩, rfl, ?_, ?_⟩
      · show xVp18 x0 (zyEl zymc B s.heap) ∧ (∀ k, 0 ≤ k → xE (zyEl zymc B H3) 27 k = uS (xE (zyEl zymc B s.heap) 27) (x0 0) (x0 1) k) ∧ (∀ k, 0 ≤ k → xE (zyEl zymc B H3) 28 k = uS (xE (zyEl zymc B s.heap) 28) (x0 0) (x0 2) k) ∧ ((v2 3) : Int) = x0 2
        refine ⟨hvl, fun k k0 => ?_, fun k k0 => ?_, by omega⟩
        · rw [hfe3 27 k (by decide), e27]
          exact hc1 k k0
        · by_cases e : k = x0 0
          · rw [uS_e e, e, show x0 0 = (v2 1) by omega, hst3] <;> omega
          · rw [uS_n e, hne3 28 k k0 (fun z => e (by omega)), e28]
            exact hc2 k k0
      · show 4 < 5
        omega
    · cases hx
  · intro x0 E0 E E2 hrx hT0 hΦ i v hT hrv hInv hKc hFr0 x hx v2 hr2 hXs hag hfr hFr hT2
    rcases i with ⟨i, hi⟩
    have hi2 : i = 0 ∨ i = 1 ∨ i = 2 ∨ i = 3 ∨ i = 4 ∨ i = 5 := by omega
    rcases hi2 with rfl | rfl | rfl | rfl | rfl | rfl
    · cases hx
    · have hx : x ∈ [zxfcpg18_ar0, zxfcpg18_ar1, zxfcpg18_ar2, zxfcpg18_ar3, zxfcpg18_ar4, zxfcpg18_ar5, zxfcpg18_ar6] := hx
      have hag : ∀ k, k < 4 → v2 k = v k := hag
      have hfr : xFr [(0, 0, 0)] _ _ := hfr
      rcases List.mem_cons.mp hx with ex | hx
      · subst ex
        obtain ⟨hF, hBd, hM⟩ := hXs
        have g1 : v2 1 = v 1 := hag 1 (by decide)
        have g2 : v2 2 = v 2 := hag 2 (by decide)
        have g3 : v2 3 = v 3 := hag 3 (by decide)
        have b0 : ((0 : Nat) : Int) ≤ (v2 3) + 2147483648 ∧ (v2 3) + 2147483648 ≤ ((2147483648 : Nat) : Int) := xXb hBd 0 rfl
        have f0 : (v2 3) < 1 := xXf hF 0 rfl
        have e19_3 : xE E2 19 3 = xE E 19 3 := xFr_E hfr rfl
        have q19_3 : xE E 19 3 = xE E0 19 3 := xFr_E hFr0 rfl
        have e27 : ∀ i, xE E2 27 i = xE E 27 i := fun i => xFr_E hfr rfl
        have e28 : ∀ i, xE E2 28 i = xE E 28 i := fun i => xFr_E hfr rfl
        have hI : E = E0 ∧ (v 1) = x0 0 ∧ (v 2) = x0 1 ∧ (v 3) = x0 2 := hInv
        have q27 : ∀ i, xE E 27 i = xE E0 27 i := fun i => by rw [hI.1]
        have q28 : ∀ i, xE E 28 i = xE E0 28 i := fun i => by rw [hI.1]
        show xΨcpg18 x0 E0 E2 (-1)
        obtain ⟨hE, i1, i2, i3⟩ := hI
        have hSW := q19_3
        have hvl : ¬ xVp18 x0 E0 := by
          unfold xVp18
          rintro ⟨⟨y1, y2⟩, y3, y4, ⟨y5, y6⟩, y7⟩
          omega
        exact ⟨fun h => absurd h hvl, fun _ => ⟨by omega, fun k => (e27 k).trans (q27 k), fun k => (e28 k).trans (q28 k)⟩⟩
      · skip
        rcases List.mem_cons.mp hx with ex | hx
        · subst ex
          obtain ⟨hF, hBd, hM⟩ := hXs
          have g1 : v2 1 = v 1 := hag 1 (by decide)
          have g2 : v2 2 = v 2 := hag 2 (by decide)
          have g3 : v2 3 = v 3 := hag 3 (by decide)
          have b0 : ((2147483653 : Nat) : Int) ≤ (v2 3) + 2147483648 ∧ (v2 3) + 2147483648 ≤ ((4294967295 : Nat) : Int) := xXb hBd 0 rfl
          have f0 : 1 ≤ (v2 3) := xXf hF 0 rfl
          have f1 : 4 < (v2 3) := xXf hF 1 rfl
          have e19_3 : xE E2 19 3 = xE E 19 3 := xFr_E hfr rfl
          have q19_3 : xE E 19 3 = xE E0 19 3 := xFr_E hFr0 rfl
          have e27 : ∀ i, xE E2 27 i = xE E 27 i := fun i => xFr_E hfr rfl
          have e28 : ∀ i, xE E2 28 i = xE E 28 i := fun i => xFr_E hfr rfl
          have hI : E = E0 ∧ (v 1) = x0 0 ∧ (v 2) = x0 1 ∧ (v 3) = x0 2 := hInv
          have q27 : ∀ i, xE E 27 i = xE E0 27 i := fun i => by rw [hI.1]
          have q28 : ∀ i, xE E 28 i = xE E0 28 i := fun i => by rw [hI.1]
          show xΨcpg18 x0 E0 E2 (-1)
          obtain ⟨hE, i1, i2, i3⟩ := hI
          have hSW := q19_3
          have hvl : ¬ xVp18 x0 E0 := by
            unfold xVp18
            rintro ⟨⟨y1, y2⟩, y3, y4, ⟨y5, y6⟩, y7⟩
            omega
          exact ⟨fun h => absurd h hvl, fun _ => ⟨by omega, fun k => (e27 k).trans (q27 k), fun k => (e28 k).trans (q28 k)⟩⟩
        · skip
          rcases List.mem_cons.mp hx with ex | hx
          · subst ex
            obtain ⟨hF, hBd, hM⟩ := hXs
            have g1 : v2 1 = v 1 := hag 1 (by decide)
            have g2 : v2 2 = v 2 := hag 2 (by decide)
            have g3 : v2 3 = v 3 := hag 3 (by decide)
            have b0 : ((0 : Nat) : Int) ≤ (v2 2) + 2147483648 ∧ (v2 2) + 2147483648 ≤ ((2147483647 : Nat) : Int) := xXb hBd 0 rfl
            have b1 : ((2147483649 : Nat) : Int) ≤ (v2 3) + 2147483648 ∧ (v2 3) + 2147483648 ≤ ((2147483652 : Nat) : Int) := xXb hBd 1 rfl
            have f0 : 1 ≤ (v2 3) := xXf hF 0 rfl
            have f1 : (v2 3) ≤ 4 := xXf hF 1 rfl
            have f2 : (v2 2) < 0 := xXf hF 2 rfl
            have e19_3 : xE E2 19 3 = xE E 19 3 := xFr_E hfr rfl
            have q19_3 : xE E 19 3 = xE E0 19 3 := xFr_E hFr0 rfl
            have e27 : ∀ i, xE E2 27 i = xE E 27 i := fun i => xFr_E hfr rfl
            have e28 : ∀ i, xE E2 28 i = xE E 28 i := fun i => xFr_E hfr rfl
            have hI : E = E0 ∧ (v 1) = x0 0 ∧ (v 2) = x0 1 ∧ (v 3) = x0 2 := hInv
            have q27 : ∀ i, xE E 27 i = xE E0 27 i := fun i => by rw [hI.1]
            have q28 : ∀ i, xE E 28 i = xE E0 28 i := fun i => by rw [hI.1]
            show xΨcpg18 x0 E0 E2 (-1)
            obtain ⟨hE, i1, i2, i3⟩ := hI
            have hSW := q19_3
            have hvl : ¬ xVp18 x0 E0 := by
              unfold xVp18
              rintro ⟨⟨y1, y2⟩, y3, y4, ⟨y5, y6⟩, y7⟩
              omega
            exact ⟨fun h => absurd h hvl, fun _ => ⟨by omega, fun k => (e27 k).trans (q27 k), fun k => (e28 k).trans (q28 k)⟩⟩
          · skip
            rcases List.mem_cons.mp hx with ex | hx
            · subst ex
              obtain ⟨hF, hBd, hM⟩ := hXs
              have g1 : v2 1 = v 1 := hag 1 (by decide)
              have g2 : v2 2 = v 2 := hag 2 (by decide)
              have g3 : v2 3 = v 3 := hag 3 (by decide)
              have b0 : ((2147483648 : Nat) : Int) ≤ (v2 2) + 2147483648 ∧ (v2 2) + 2147483648 ≤ ((4294967295 : Nat) : Int) := xXb hBd 0 rfl
              have b1 : ((2147483649 : Nat) : Int) ≤ (v2 3) + 2147483648 ∧ (v2 3) + 2147483648 ≤ ((2147483652 : Nat) : Int) := xXb hBd 1 rfl
              have b2 : ((2147483649 : Nat) : Int) ≤ (v2 4) + 2147483648 ∧ (v2 4) + 2147483648 ≤ ((3221225471 : Nat) : Int) := xXb hBd 2 rfl
              have f0 : 1 ≤ (v2 3) := xXf hF 0 rfl
              have f1 : (v2 3) ≤ 4 := xXf hF 1 rfl
              have f2 : 0 ≤ (v2 2) := xXf hF 2 rfl
              have f3 : (v2 4) = xop 9 (v2 2) (v2 3) := xXf hF 3 rfl
              have f4 : ¬ (v2 4) = 0 := xXf hF 4 rfl
              have e19_3 : xE E2 19 3 = xE E 19 3 := xFr_E hfr rfl
              have q19_3 : xE E 19 3 = xE E0 19 3 := xFr_E hFr0 rfl
              have e27 : ∀ i, xE E2 27 i = xE E 27 i := fun i => xFr_E hfr rfl
              have e28 : ∀ i, xE E2 28 i = xE E 28 i := fun i => xFr_E hfr rfl
              have hI : E = E0 ∧ (v 1) = x0 0 ∧ (v 2) = x0 1 ∧ (v 3) = x0 2 := hInv
              have q27 : ∀ i, xE E 27 i = xE E0 27 i := fun i => by rw [hI.1]
              have q28 : ∀ i, xE E 28 i = xE E0 28 i := fun i => by rw [hI.1]
              show xΨcpg18 x0 E0 E2 (-1)
              obtain ⟨hE, i1, i2, i3⟩ := hI
              have hSW := q19_3
              rw [show (v2 2) = x0 1 by omega, show (v2 3) = x0 2 by omega] at f3
              have hvl : ¬ xVp18 x0 E0 := by
                unfold xVp18
                rintro ⟨⟨y1, y2⟩, y3, y4, ⟨y5, y6⟩, y7⟩
                omega
              exact ⟨fun h => absurd h hvl, fun _ => ⟨by omega, fun k => (e27 k).trans (q27 k), fun k => (e28 k).trans (q28 k)⟩⟩
            · skip
              rcases List.mem_cons.mp hx with ex | hx
              · subst ex
                obtain ⟨hF, hBd, hM⟩ := hXs
                have g1 : v2 1 = v 1 := hag 1 (by decide)
                have g2 : v2 2 = v 2 := hag 2 (by decide)
                have g3 : v2 3 = v 3 := hag 3 (by decide)
                have b0 : ((0 : Nat) : Int) ≤ (v2 1) + 2147483648 ∧ (v2 1) + 2147483648 ≤ ((2147483647 : Nat) : Int) := xXb hBd 0 rfl
                have b1 : ((2147483648 : Nat) : Int) ≤ (v2 2) + 2147483648 ∧ (v2 2) + 2147483648 ≤ ((4294967295 : Nat) : Int) := xXb hBd 1 rfl
                have b2 : ((2147483649 : Nat) : Int) ≤ (v2 3) + 2147483648 ∧ (v2 3) + 2147483648 ≤ ((2147483652 : Nat) : Int) := xXb hBd 2 rfl
                have b3 : ((2147483648 : Nat) : Int) ≤ (v2 4) + 2147483648 ∧ (v2 4) + 2147483648 ≤ ((2147483648 : Nat) : Int) := xXb hBd 3 rfl
                have f0 : 1 ≤ (v2 3) := xXf hF 0 rfl
                have f1 : (v2 3) ≤ 4 := xXf hF 1 rfl
                have f2 : 0 ≤ (v2 2) := xXf hF 2 rfl
                have f3 : (v2 4) = xop 9 (v2 2) (v2 3) := xXf hF 3 rfl
                have f4 : (v2 4) = 0 := xXf hF 4 rfl
                have f5 : (v2 1) < 0 := xXf hF 5 rfl
                have e19_3 : xE E2 19 3 = xE E 19 3 := xFr_E hfr rfl
                have q19_3 : xE E 19 3 = xE E0 19 3 := xFr_E hFr0 rfl
                have e27 : ∀ i, xE E2 27 i = xE E 27 i := fun i => xFr_E hfr rfl
                have e28 : ∀ i, xE E2 28 i = xE E 28 i := fun i => xFr_E hfr rfl
                have hI : E = E0 ∧ (v 1) = x0 0 ∧ (v 2) = x0 1 ∧ (v 3) = x0 2 := hInv
                have q27 : ∀ i, xE E 27 i = xE E0 27 i := fun i => by rw [hI.1]
                have q28 : ∀ i, xE E 28 i = xE E0 28 i := fun i => by rw [hI.1]
                show xΨcpg18 x0 E0 E2 (-1)
                obtain ⟨hE, i1, i2, i3⟩ := hI
                have hSW := q19_3
                rw [show (v2 2) = x0 1 by omega, show (v2 3) = x0 2 by omega] at f3
                have hvl : ¬ xVp18 x0 E0 := by
                  unfold xVp18
                  rintro ⟨⟨y1, y2⟩, y3, y4, ⟨y5, y6⟩, y7⟩
                  omega
                exact ⟨fun h => absurd h hvl, fun _ => ⟨by omega, fun k => (e27 k).trans (q27 k), fun k => (e28 k).trans (q28 k)⟩⟩
              · skip
                rcases List.mem_cons.mp hx with ex | hx
                · subst ex
                  obtain ⟨hF, hBd, hM⟩ := hXs
                  have g1 : v2 1 = v 1 := hag 1 (by decide)
                  have g2 : v2 2 = v 2 := hag 2 (by decide)
                  have g3 : v2 3 = v 3 := hag 3 (by decide)
                  have b0 : ((2147483648 : Nat) : Int) ≤ (v2 1) + 2147483648 ∧ (v2 1) + 2147483648 ≤ ((2147483678 : Nat) : Int) := xXb hBd 0 rfl
                  have b1 : ((2147483648 : Nat) : Int) ≤ (v2 2) + 2147483648 ∧ (v2 2) + 2147483648 ≤ ((4294967295 : Nat) : Int) := xXb hBd 1 rfl
                  have b2 : ((2147483649 : Nat) : Int) ≤ (v2 3) + 2147483648 ∧ (v2 3) + 2147483648 ≤ ((2147483652 : Nat) : Int) := xXb hBd 2 rfl
                  have b3 : ((2147483648 : Nat) : Int) ≤ (v2 4) + 2147483648 ∧ (v2 4) + 2147483648 ≤ ((2147483648 : Nat) : Int) := xXb hBd 3 rfl
                  have b4 : ((2147483649 : Nat) : Int) ≤ (v2 5) + 2147483648 ∧ (v2 5) + 2147483648 ≤ ((2147483679 : Nat) : Int) := xXb hBd 4 rfl
                  have b5 : ((2147483648 : Nat) : Int) ≤ (v2 6) + 2147483648 ∧ (v2 6) + 2147483648 ≤ ((4294967295 : Nat) : Int) := xXb hBd 5 rfl
                  have b6 : ((2147483648 : Nat) : Int) ≤ (v2 7) + 2147483648 ∧ (v2 7) + 2147483648 ≤ ((2147483652 : Nat) : Int) := xXb hBd 6 rfl
                  have f0 : 1 ≤ (v2 3) := xXf hF 0 rfl
                  have f1 : (v2 3) ≤ 4 := xXf hF 1 rfl
                  have f2 : 0 ≤ (v2 2) := xXf hF 2 rfl
                  have f3 : (v2 4) = xop 9 (v2 2) (v2 3) := xXf hF 3 rfl
                  have f4 : (v2 4) = 0 := xXf hF 4 rfl
                  have f5 : 0 ≤ (v2 1) := xXf hF 5 rfl
                  have f6 : (0 : Int) ≤ 3 ∧ xE E 19 3 = (v2 5) := xXf hF 6 rfl
                  have f7 : (v2 1) < (v2 5) := xXf hF 7 rfl
                  have f8 : (0 : Int) ≤ (v2 1) ∧ xE E 27 (v2 1) = (v2 6) := xXf hF 8 rfl
                  have f9 : (v2 6) = (v2 2) := xXf hF 9 rfl
                  have f10 : (0 : Int) ≤ (v2 1) ∧ xE E 28 (v2 1) = (v2 7) := xXf hF 10 rfl
                  have f11 : (v2 7) = (v2 3) := xXf hF 11 rfl
                  have e19_3 : xE E2 19 3 = xE E 19 3 := xFr_E hfr rfl
                  have q19_3 : xE E 19 3 = xE E0 19 3 := xFr_E hFr0 rfl
                  have e27 : ∀ i, xE E2 27 i = xE E 27 i := fun i => xFr_E hfr rfl
                  have e28 : ∀ i, xE E2 28 i = xE E 28 i := fun i => xFr_E hfr rfl
                  have hI : E = E0 ∧ (v 1) = x0 0 ∧ (v 2) = x0 1 ∧ (v 3) = x0 2 := hInv
                  have q27 : ∀ i, xE E 27 i = xE E0 27 i := fun i => by rw [hI.1]
                  have q28 : ∀ i, xE E 28 i = xE E0 28 i := fun i => by rw [hI.1]
                  show xΨcpg18 x0 E0 E2 (-1)
                  obtain ⟨hE, i1, i2, i3⟩ := hI
                  have hSW := q19_3
                  have c10 : xE E0 28 ((v2 1)) = (v2 7) := (q28 _).symm.trans f10.2
                  rw [show (v2 1) = x0 0 by omega] at c10
                  have c8 : xE E0 27 ((v2 1)) = (v2 6) := (q27 _).symm.trans f8.2
                  rw [show (v2 1) = x0 0 by omega] at c8
                  rw [show (v2 2) = x0 1 by omega, show (v2 3) = x0 2 by omega] at f3
                  have hvl : ¬ xVp18 x0 E0 := by
                    unfold xVp18
                    rintro ⟨⟨y1, y2⟩, y3, y4, ⟨y5, y6⟩, y7⟩
                    omega
                  exact ⟨fun h => absurd h hvl, fun _ => ⟨by omega, fun k => (e27 k).trans (q27 k), fun k => (e28 k).trans (q28 k)⟩⟩
                · skip
                  have ex := List.mem_singleton.mp hx
                  subst ex
                  obtain ⟨hF, hBd, hM⟩ := hXs
                  have g1 : v2 1 = v 1 := hag 1 (by decide)
                  have g2 : v2 2 = v 2 := hag 2 (by decide)
                  have g3 : v2 3 = v 3 := hag 3 (by decide)
                  have b0 : ((2147483648 : Nat) : Int) ≤ (v2 1) + 2147483648 ∧ (v2 1) + 2147483648 ≤ ((4294967295 : Nat) : Int) := xXb hBd 0 rfl
                  have b1 : ((2147483648 : Nat) : Int) ≤ (v2 2) + 2147483648 ∧ (v2 2) + 2147483648 ≤ ((4294967295 : Nat) : Int) := xXb hBd 1 rfl
                  have b2 : ((2147483649 : Nat) : Int) ≤ (v2 3) + 2147483648 ∧ (v2 3) + 2147483648 ≤ ((2147483652 : Nat) : Int) := xXb hBd 2 rfl
                  have b3 : ((2147483648 : Nat) : Int) ≤ (v2 4) + 2147483648 ∧ (v2 4) + 2147483648 ≤ ((2147483648 : Nat) : Int) := xXb hBd 3 rfl
                  have b4 : ((2147483648 : Nat) : Int) ≤ (v2 5) + 2147483648 ∧ (v2 5) + 2147483648 ≤ ((2147483679 : Nat) : Int) := xXb hBd 4 rfl
                  have f0 : 1 ≤ (v2 3) := xXf hF 0 rfl
                  have f1 : (v2 3) ≤ 4 := xXf hF 1 rfl
                  have f2 : 0 ≤ (v2 2) := xXf hF 2 rfl
                  have f3 : (v2 4) = xop 9 (v2 2) (v2 3) := xXf hF 3 rfl
                  have f4 : (v2 4) = 0 := xXf hF 4 rfl
                  have f5 : 0 ≤ (v2 1) := xXf hF 5 rfl
                  have f6 : (0 : Int) ≤ 3 ∧ xE E 19 3 = (v2 5) := xXf hF 6 rfl
                  have f7 : (v2 5) ≤ (v2 1) := xXf hF 7 rfl
                  have e19_3 : xE E2 19 3 = xE E 19 3 := xFr_E hfr rfl
                  have q19_3 : xE E 19 3 = xE E0 19 3 := xFr_E hFr0 rfl
                  have e27 : ∀ i, xE E2 27 i = xE E 27 i := fun i => xFr_E hfr rfl
                  have e28 : ∀ i, xE E2 28 i = xE E 28 i := fun i => xFr_E hfr rfl
                  have hI : E = E0 ∧ (v 1) = x0 0 ∧ (v 2) = x0 1 ∧ (v 3) = x0 2 := hInv
                  have q27 : ∀ i, xE E 27 i = xE E0 27 i := fun i => by rw [hI.1]
                  have q28 : ∀ i, xE E 28 i = xE E0 28 i := fun i => by rw [hI.1]
                  show xΨcpg18 x0 E0 E2 (-1)
                  obtain ⟨hE, i1, i2, i3⟩ := hI
                  have hSW := q19_3
                  rw [show (v2 2) = x0 1 by omega, show (v2 3) = x0 2 by omega] at f3
                  have hvl : ¬ xVp18 x0 E0 := by
                    unfold xVp18
                    rintro ⟨⟨y1, y2⟩, y3, y4, ⟨y5, y6⟩, y7⟩
                    omega
                  exact ⟨fun h => absurd h hvl, fun _ => ⟨by omega, fun k => (e27 k).trans (q27 k), fun k => (e28 k).trans (q28 k)⟩⟩
    · cases hx
    · cases hx
    · cases hx
    · have hx : x ∈ [zxfcpg18_dr0] := hx
      have hag : ∀ k, k < 4 → v2 k = v k := hag
      have hfr : xFr [(0, 0, 0)] _ _ := hfr
      have ex := List.mem_singleton.mp hx
      subst ex
      obtain ⟨hF, hBd, hM⟩ := hXs
      have g3 : v2 3 = v 3 := hag 3 (by decide)
      have b0 : ((2147483649 : Nat) : Int) ≤ (v2 3) + 2147483648 ∧ (v2 3) + 2147483648 ≤ ((2147483652 : Nat) : Int) := xXb hBd 0 rfl
      have e19_3 : xE E2 19 3 = xE E 19 3 := xFr_E hfr rfl
      have q19_3 : xE E 19 3 = xE E0 19 3 := xFr_E hFr0 rfl
      have e27 : ∀ i, xE E2 27 i = xE E 27 i := fun i => xFr_E hfr rfl
      have e28 : ∀ i, xE E2 28 i = xE E 28 i := fun i => xFr_E hfr rfl
      have hI : xVp18 x0 E0 ∧ (∀ k, 0 ≤ k → xE E 27 k = uS (xE E0 27) (x0 0) (x0 1) k) ∧ (∀ k, 0 ≤ k → xE E 28 k = uS (xE E0 28) (x0 0) (x0 2) k) ∧ (v 3) = x0 2 := hInv
      show xΨcpg18 x0 E0 E2 (v2 3)
      obtain ⟨hvl, hc1, hc2, i3⟩ := hI
      exact ⟨fun _ => ⟨by omega, fun k k0 => (e27 k).trans (hc1 k k0), fun k k0 => (e28 k).trans (hc2 k k0)⟩, fun h => absurd hvl h⟩
noncomputable def zxfcst18_zx0 : zyXp := (0, [3, 34359738369, 68719476737, 13], [], [], [], [])
noncomputable def zpfcst18_z : zyPh := (0, [3, 34359738369, 68719476737, 13], [(0, 4294967295), (0, 4294967295), (0, 4294967295), (0, 4294967295)], [], [])
noncomputable def zxfcst18_ax0 : zyXp := (50, [3, 34359738369, 68719476737, 171798691841], [], [(21, 0, 68719476737, 0), (21, 0, 16, 68719476737), (21, 0, 34359738369, 0), (24, 137438953473, 19, 24), (20, 0, 34359738369, 137438953473), (24, 171798691841, 29, 34359738369), (23, 0, 171798691841, 68719476737)], [(34359738369, 2147483648, 2147483678), (68719476737, 2147483648, 2147483650), (137438953473, 2147483649, 2147483679), (171798691841, 2147483648, 2147483650)], [])
noncomputable def zxfcst18_ar0 : zyXp := (0, [], [34359738360], [(20, 0, 68719476737, 0)], [(68719476737, 0, 2147483647)], [])
noncomputable def zxfcst18_ar1 : zyXp := (0, [], [34359738360], [(21, 0, 68719476737, 0), (20, 0, 16, 68719476737)], [(68719476737, 2147483651, 4294967295)], [])
noncomputable def zxfcst18_ar2 : zyXp := (0, [], [34359738360], [(21, 0, 68719476737, 0), (21, 0, 16, 68719476737), (20, 0, 34359738369, 0)], [(34359738369, 0, 2147483647), (68719476737, 2147483648, 2147483650)], [])
noncomputable def zxfcst18_ar3 : zyXp := (0, [], [34359738360], [(21, 0, 68719476737, 0), (21, 0, 16, 68719476737), (21, 0, 34359738369, 0), (24, 137438953473, 19, 24), (20, 0, 34359738369, 137438953473), (24, 171798691841, 29, 34359738369), (22, 0, 171798691841, 68719476737)], [(34359738369, 2147483648, 2147483678), (68719476737, 2147483648, 2147483650), (137438953473, 2147483649, 2147483679), (171798691841, 2147483648, 2147483650)], [])
noncomputable def zxfcst18_ar4 : zyXp := (0, [], [34359738360], [(21, 0, 68719476737, 0), (21, 0, 16, 68719476737), (21, 0, 34359738369, 0), (24, 137438953473, 19, 24), (21, 0, 34359738369, 137438953473)], [(34359738369, 2147483648, 4294967295), (68719476737, 2147483648, 2147483650), (137438953473, 2147483648, 2147483679)], [])
noncomputable def zpfcst18_a : zyPh := (0, [3, 34359738369, 68719476737, 13], [(0, 4294967295), (0, 4294967295), (0, 4294967295), (0, 4294967295)], [(1, 147)], [])
noncomputable def zxfcst18_bx0 : zyXp := (50, [3, 34359738369, 68719476737, 103079215105], [], [], [(34359738369, 2147483648, 2147483678), (68719476737, 2147483648, 2147483650)], [])
noncomputable def zpfcst18_b : zyPh := (50, [3, 34359738369, 68719476737, 103079215105], [(0, 4294967295), (2147483648, 2147483678), (2147483648, 2147483650), (0, 4294967295)], [], [])
noncomputable def zxfcst18_b2x0 : zyXp := (59, [3, 13, 13, 103079215105], [68719476737, 34359738369, 235], [], [(34359738369, 2147483648, 2147483678), (68719476737, 2147483648, 2147483650)], [])
noncomputable def zpfcst18_b2 : zyPh := (50, [3, 34359738369, 68719476737, 103079215105], [(0, 4294967295), (2147483648, 2147483678), (2147483648, 2147483650), (0, 4294967295)], [(1, 147)], [])
noncomputable def zxfcst18_cr0 : zyXp := (0, [], [103079215105], [], [], [])
noncomputable def zpfcst18_c : zyPh := (60, [3, 13, 13, 103079215105], [(0, 4294967295), (0, 4294967295), (0, 4294967295), (0, 4294967295)], [], [])
noncomputable def zpfcst18 (i : Nat) : zyPh := zif (Nat.beq i 0) (zpfcst18_z) (zif (Nat.beq i 1) (zpfcst18_a) (zif (Nat.beq i 2) (zpfcst18_b) (zif (Nat.beq i 3) (zpfcst18_b2) (zpfcst18_c))))
noncomputable def zXfcst18 (i : Nat) : List zyXp := zif (Nat.beq i 0) ([zxfcst18_zx0]) (zif (Nat.beq i 1) ([zxfcst18_ax0]) (zif (Nat.beq i 2) ([zxfcst18_bx0]) (zif (Nat.beq i 3) ([zxfcst18_b2x0]) ([]))))
noncomputable def zRfcst18 (i : Nat) : List zyXp := zif (Nat.beq i 0) ([]) (zif (Nat.beq i 1) ([zxfcst18_ar0, zxfcst18_ar1, zxfcst18_ar2, zxfcst18_ar3, zxfcst18_ar4]) (zif (Nat.beq i 2) ([]) (zif (Nat.beq i 3) ([]) ([zxfcst18_cr0]))))
noncomputable def zFfcst18 (i : Nat) : zyR := zif (Nat.beq i 0) ([]) (zif (Nat.beq i 1) ([(0, 0, 0)]) (zif (Nat.beq i 2) ([]) (zif (Nat.beq i 3) ([]) ([(0, 0, 0)]))))
noncomputable def zSfcst18 (i : Nat) : Nat := zif (Nat.beq i 0) (0) (zif (Nat.beq i 1) (0) (zif (Nat.beq i 2) (0) (zif (Nat.beq i 3) (0) (0))))
def xVs18 (x : Nat → Int) (E : zyEm) : Prop := (0 ≤ x 1 ∧ x 1 ≤ 2) ∧ (0 ≤ x 0 ∧ x 0 < xE E 19 3) ∧ ¬ xE E 29 (x 0) = x 1
def xΨcst18 (x : Nat → Int) (E E2 : zyEm) (r : Int) : Prop := (xVs18 x E → r = xE E 29 (x 0) ∧ ∀ k, 0 ≤ k → xE E2 29 k = uS (xE E 29) (x 0) (x 1) k) ∧ (¬ xVs18 x E → r = -1 ∧ ∀ k, xE E2 29 k = xE E 29 k)
noncomputable def fpfcst18 : zyR := [(0, 0, 0), (29, 0, 30)]
theorem zyfcst18_run : zyrS zymc zxi130 (130, 0, 0, 1, 0) 4 zpfcst18 (fun _ _ => []) zFfcst18 zSfcst18 zXfcst18 zRfcst18 5 = true := by decide +kernel
theorem zyfcst18_ck : zyAll (fun i => xsubR (zFfcst18 i) fpfcst18 && ((zXfcst18 i).all xckX && (zRfcst18 i).all (fun x => xckX x && xrtB true x))) 5 = true := by decide +kernel
def xIfcst18 (i : Nat) (x0 : Nat → Int) (E0 : zyEm) (v : Nat → Int) (E : zyEm) : Prop := if i = 0 then (E = E0 ∧ (v 1) = x0 0 ∧ (v 2) = x0 1) else if i = 1 then (E = E0 ∧ (v 1) = x0 0 ∧ (v 2) = x0 1) else if i = 2 then (xVs18 x0 E0 ∧ (∀ k, 0 ≤ k → xE E 29 k = xE E0 29 k) ∧ (v 1) = x0 0 ∧ (v 2) = x0 1 ∧ (v 3) = xE E0 29 (x0 0)) else if i = 3 then (xVs18 x0 E0 ∧ (∀ k, 0 ≤ k → xE E 29 k = xE E0 29 k) ∧ (v 1) = x0 0 ∧ (v 2) = x0 1 ∧ (v 3) = xE E0 29 (x0 0)) else (xVs18 x0 E0 ∧ (∀ k, 0 ≤ k → xE E 29 k = uS (xE E0 29) (x0 0) (x0 1) k) ∧ (v 3) = xE E0 29 (x0 0))
def xMfcst18 (i : Nat) (x0 : Nat → Int) (E0 : zyEm) (v : Nat → Int) (E : zyEm) : Nat := if i = 0 then (9) else if i = 1 then (8) else if i = 2 then (7) else if i = 3 then (6) else (5)
theorem xCst18 {l : Launch} {en : zEn} {me : zMe} (hen : zG zxMeta 130 = some en) (hme : zG zMeth 130 = some me) : ∀ B, xFcB l zymc B en me 4 [0] 2 fpfcst18 true (xΦpl18 B) xΨcst18 := by
  have een : zG zxMeta 130 = some (zxi130, 3, 4, 10, 130, 0, 0, 1, 0) := rfl
  obtain ⟨me1, hme1, hOK⟩ := zall hen
  rw [hme] at hme1
  cases hme1
  rw [een] at hen
  cases hen
  have hr := zyfcst18_run
  have hck := fun i hi => zyAll_iff zyfcst18_ck i hi
  simp only [Bool.and_eq_true] at hck
  intro B
  refine xcut (mi := zymc) (B := B) hOK rfl rfl (ι := Fin 5) (fun i => zpfcst18 i.val) (fun _ _ => []) (fun i => zFfcst18 i.val) (fun i => zSfcst18 i.val) (fun i => zXfcst18 i.val) (fun i => zRfcst18 i.val) (fun i y2 ct en2 me2 h => by cases h) 200000 (fun i => zyAll_iff hr i.val i.isLt) (fun i => (hck i.val i.isLt).1) (fun i => (hck i.val i.isLt).2.1) (fun i => (hck i.val i.isLt).2.2) ⟨0, by decide⟩ ⟨rfl, rfl, rfl, rfl⟩ ⟨by decide, by decide⟩ (fun i x0 E0 v E => xIfcst18 i.val x0 E0 v E) (fun i x0 E0 v E => xMfcst18 i.val x0 E0 v E) ?_ ?_ ?_
  · intro x0 E hx0 hT hΦ
    have hΦ : (xΦpl18 B) x0 E := hΦ
    refine ⟨fun k p hp => ?_, ?_⟩
    · have hk : k < 4 := (List.getElem?_eq_some_iff.mp hp).1
      have hk : k = 0 ∨ k = 1 ∨ k = 2 ∨ k = 3 := by omega
      rcases hk with rfl | rfl | rfl | rfl
      · have hp : some (0, 4294967295) = some p := hp
        cases hp
        show ((0 : Nat) : Int) ≤ 0 + 2147483648 ∧ 0 + 2147483648 ≤ ((4294967295 : Nat) : Int)
        omega
      · have hp : some (0, 4294967295) = some p := hp
        cases hp
        show ((0 : Nat) : Int) ≤ x0 0 + 2147483648 ∧ x0 0 + 2147483648 ≤ ((4294967295 : Nat) : Int)
        have hx := hx0 0
        omega
      · have hp : some (0, 4294967295) = some p := hp
        cases hp
        show ((0 : Nat) : Int) ≤ x0 1 + 2147483648 ∧ x0 1 + 2147483648 ≤ ((4294967295 : Nat) : Int)
        have hx := hx0 1
        omega
      · have hp : some (0, 4294967295) = some p := hp
        cases hp
        show ((0 : Nat) : Int) ≤ x0 2 + 2147483648 ∧ x0 2 + 2147483648 ≤ ((4294967295 : Nat) : Int)
        have hx := hx0 2
        omega
    · show E = E ∧ (x0 0) = x0 0 ∧ (x0 1) = x0 1
      exact ⟨rfl, rfl, rfl⟩
  · intro x0 s Wg hRu hrx hT0 hΦ i v H hT hrv hInv hKc hFr0 hIH x hx ρ2 v2 N2 H2 locs lsB stA hAt hB hv hr2 hXs hag hfr hFr hT2
    rcases i with ⟨i, hi⟩
    have hi2 : i = 0 ∨ i = 1 ∨ i = 2 ∨ i = 3 ∨ i = 4 := by omega
    rcases hi2 with rfl | rfl | rfl | rfl | rfl
    · have hx : x ∈ [zxfcst18_zx0] := hx
      have hag : ∀ k, k < 4 → v2 k = v k := hag
      have hfr : xFr [] _ _ := hfr
      have ex := List.mem_singleton.mp hx
      subst ex
      obtain ⟨hF, hBd, hM⟩ := hXs
      have r1 := hr2 1
      have r2 := hr2 2
      have g1 : v2 1 = v 1 := hag 1 (by decide)
      have g2 : v2 2 = v 2 := hag 2 (by decide)
      have e19_3 : xE (zyEl zymc B H2) 19 3 = xE (zyEl zymc B H) 19 3 := xFr_E hfr rfl
      have q19_3 : xE (zyEl zymc B H) 19 3 = xE (zyEl zymc B s.heap) 19 3 := xFr_E hFr0 rfl
      have e29 : ∀ i, xE (zyEl zymc B H2) 29 i = xE (zyEl zymc B H) 29 i := fun i => xFr_E hfr rfl
      have hI : (zyEl zymc B H) = (zyEl zymc B s.heap) ∧ (v 1) = x0 0 ∧ (v 2) = x0 1 := hInv
      have q29 : ∀ i, xE (zyEl zymc B H) 29 i = xE (zyEl zymc B s.heap) 29 i := fun i => by rw [hI.1]
      obtain ⟨hE, i1, i2⟩ := hI
      refine xGo hIH hAt hB hv hFr ⟨1, by decide⟩ [0, 34359738369, 68719476737, 0] [0, (v2 1), (v2 2), 0] rfl ⟨by decide +kernel, ⟨rfl, by decide +kernel⟩, (xcs_c rfl (xcs_c rfl (xcs_c rfl (xcs_c rfl xcs_n)))), (xe_0 (xe_f (by omega) (xe_f (by omega) (xe_0 xe_n)))), (xkq_r 0 1 18 rfl rfl rfl rfl rfl (by rw [xFr_n hfr, hE]; exact hΦ) xkq_n)⟩ xst_n ?_ ?_
      · show (zyEl zymc B H2) = (zyEl zymc B s.heap) ∧ ((v2 1) : Int) = x0 0 ∧ ((v2 2) : Int) = x0 1
        exact ⟨(xFr_n hfr).trans hE, by omega, by omega⟩
      · show 8 < 9
        omega
    · have hx : x ∈ [zxfcst18_ax0] := hx
      have hag : ∀ k, k < 4 → v2 k = v k := hag
      have hfr : xFr [(0, 0, 0)] _ _ := hfr
      have ex := List.mem_singleton.mp hx
      subst ex
      obtain ⟨hF, hBd, hM⟩ := hXs
      have g1 : v2 1 = v 1 := hag 1 (by decide)
      have g2 : v2 2 = v 2 := hag 2 (by decide)
      have b0 : ((2147483648 : Nat) : Int) ≤ (v2 1) + 2147483648 ∧ (v2 1) + 2147483648 ≤ ((2147483678 : Nat) : Int) := xXb hBd 0 rfl
      have b1 : ((2147483648 : Nat) : Int) ≤ (v2 2) + 2147483648 ∧ (v2 2) + 2147483648 ≤ ((2147483650 : Nat) : Int) := xXb hBd 1 rfl
      have b2 : ((2147483649 : Nat) : Int) ≤ (v2 4) + 2147483648 ∧ (v2 4) + 2147483648 ≤ ((2147483679 : Nat) : Int) := xXb hBd 2 rfl
      have b3 : ((2147483648 : Nat) : Int) ≤ (v2 5) + 2147483648 ∧ (v2 5) + 2147483648 ≤ ((2147483650 : Nat) : Int) := xXb hBd 3 rfl
      have f0 : 0 ≤ (v2 2) := xXf hF 0 rfl
      have f1 : (v2 2) ≤ 2 := xXf hF 1 rfl
      have f2 : 0 ≤ (v2 1) := xXf hF 2 rfl
      have f3 : (0 : Int) ≤ 3 ∧ xE (zyEl zymc B H) 19 3 = (v2 4) := xXf hF 3 rfl
      have f4 : (v2 1) < (v2 4) := xXf hF 4 rfl
      have f5 : (0 : Int) ≤ (v2 1) ∧ xE (zyEl zymc B H) 29 (v2 1) = (v2 5) := xXf hF 5 rfl
      have f6 : ¬ (v2 5) = (v2 2) := xXf hF 6 rfl
      have e19_3 : xE (zyEl zymc B H2) 19 3 = xE (zyEl zymc B H) 19 3 := xFr_E hfr rfl
      have q19_3 : xE (zyEl zymc B H) 19 3 = xE (zyEl zymc B s.heap) 19 3 := xFr_E hFr0 rfl
      have e29 : ∀ i, xE (zyEl zymc B H2) 29 i = xE (zyEl zymc B H) 29 i := fun i => xFr_E hfr rfl
      have hI : (zyEl zymc B H) = (zyEl zymc B s.heap) ∧ (v 1) = x0 0 ∧ (v 2) = x0 1 := hInv
      have q29 : ∀ i, xE (zyEl zymc B H) 29 i = xE (zyEl zymc B s.heap) 29 i := fun i => by rw [hI.1]
      obtain ⟨hE, i1, i2⟩ := hI
      have hSW := q19_3
      have c5 : xE (zyEl zymc B s.heap) 29 ((v2 1)) = (v2 5) := (q29 _).symm.trans f5.2
      rw [show (v2 1) = x0 0 by omega] at c5
      have hvl : xVs18 x0 (zyEl zymc B s.heap) := by
        unfold xVs18
        refine ⟨⟨by omega, by omega⟩, ⟨by omega, by omega⟩, ?_⟩
        intro y1
        omega
      refine xGo hIH hAt hB hv hFr ⟨2, by decide⟩ [0, 34359738369, 68719476737, 171798691841] [0, (v2 1), (v2 2), (v2 5)] rfl ⟨by decide +kernel, ⟨rfl, by decide +kernel⟩, (xcs_c rfl (xcs_c rfl (xcs_c rfl (xcs_c rfl xcs_n)))), (xe_0 (xe_c (by omega) (by omega) rfl (xe_c (by omega) (by omega) rfl (xe_f (by omega) xe_n)))), xkq_n⟩ xst_n ?_ ?_
      · show xVs18 x0 (zyEl zymc B s.heap) ∧ (∀ k, 0 ≤ k → xE (zyEl zymc B H2) 29 k = xE (zyEl zymc B s.heap) 29 k) ∧ ((v2 1) : Int) = x0 0 ∧ ((v2 2) : Int) = x0 1 ∧ ((v2 5) : Int) = xE (zyEl zymc B s.heap) 29 (x0 0)
        exact ⟨hvl, fun k _ => (e29 k).trans (q29 k), by omega, by omega, by omega⟩
      · show 7 < 8
        omega
    · have hx : x ∈ [zxfcst18_bx0] := hx
      have hag : ∀ k, k < 4 → v2 k = v k := hag
      have hfr : xFr [] _ _ := hfr
      have ex := List.mem_singleton.mp hx
      subst ex
      obtain ⟨hF, hBd, hM⟩ := hXs
      have r3 := hr2 3
      have g1 : v2 1 = v 1 := hag 1 (by decide)
      have g2 : v2 2 = v 2 := hag 2 (by decide)
      have g3 : v2 3 = v 3 := hag 3 (by decide)
      have b0 : ((2147483648 : Nat) : Int) ≤ (v2 1) + 2147483648 ∧ (v2 1) + 2147483648 ≤ ((2147483678 : Nat) : Int) := xXb hBd 0 rfl
      have b1 : ((2147483648 : Nat) : Int) ≤ (v2 2) + 2147483648 ∧ (v2 2) + 2147483648 ≤ ((2147483650 : Nat) : Int) := xXb hBd 1 rfl
      have e19_3 : xE (zyEl zymc B H2) 19 3 = xE (zyEl zymc B H) 19 3 := xFr_E hfr rfl
      have q19_3 : xE (zyEl zymc B H) 19 3 = xE (zyEl zymc B s.heap) 19 3 := xFr_E hFr0 rfl
      have e29 : ∀ i, xE (zyEl zymc B H2) 29 i = xE (zyEl zymc B H) 29 i := fun i => xFr_E hfr rfl
      have hI : xVs18 x0 (zyEl zymc B s.heap) ∧ (∀ k, 0 ≤ k → xE (zyEl zymc B H) 29 k = xE (zyEl zymc B s.heap) 29 k) ∧ (v 1) = x0 0 ∧ (v 2) = x0 1 ∧ (v 3) = xE (zyEl zymc B s.heap) 29 (x0 0) := hInv
      obtain ⟨hvl, hc1, i1, i2, i3⟩ := hI
      refine xGo hIH hAt hB hv hFr ⟨3, by decide⟩ [0, 34359738369, 68719476737, 103079215105] [0, (v2 1), (v2 2), (v2 3)] rfl ⟨by decide +kernel, ⟨rfl, by decide +kernel⟩, (xcs_c rfl (xcs_c rfl (xcs_c rfl (xcs_c rfl xcs_n)))), (xe_0 (xe_c (by omega) (by omega) rfl (xe_c (by omega) (by omega) rfl (xe_f (by omega) xe_n)))), (xkq_r 0 1 18 rfl rfl rfl rfl rfl ((hfr 0 1 rfl).trans ((hFr0 0 1 rfl).trans hΦ)) xkq_n)⟩ xst_n ?_ ?_
      · show xVs18 x0 (zyEl zymc B s.heap) ∧ (∀ k, 0 ≤ k → xE (zyEl zymc B H2) 29 k = xE (zyEl zymc B s.heap) 29 k) ∧ ((v2 1) : Int) = x0 0 ∧ ((v2 2) : Int) = x0 1 ∧ ((v2 3) : Int) = xE (zyEl zymc B s.heap) 29 (x0 0)
        exact ⟨hvl, fun k k0 => (e29 k).trans (hc1 k k0), by omega, by omega, by omega⟩
      · show 6 < 7
        omega
    · have hx : x ∈ [zxfcst18_b2x0] := hx
      have hag : ∀ k, k < 4 → v2 k = v k := hag
      have hfr : xFr [] _ _ := hfr
      have ex := List.mem_singleton.mp hx
      subst ex
      obtain ⟨hF, hBd, hM⟩ := hXs
      have r3 := hr2 3
      have g1 : v2 1 = v 1 := hag 1 (by decide)
      have g2 : v2 2 = v 2 := hag 2 (by decide)
      have g3 : v2 3 = v 3 := hag 3 (by decide)
      have b0 : ((2147483648 : Nat) : Int) ≤ (v2 1) + 2147483648 ∧ (v2 1) + 2147483648 ≤ ((2147483678 : Nat) : Int) := xXb hBd 0 rfl
      have b1 : ((2147483648 : Nat) : Int) ≤ (v2 2) + 2147483648 ∧ (v2 2) + 2147483648 ≤ ((2147483650 : Nat) : Int) := xXb hBd 1 rfl
      have e19_3 : xE (zyEl zymc B H2) 19 3 = xE (zyEl zymc B H) 19 3 := xFr_E hfr rfl
      have q19_3 : xE (zyEl zymc B H) 19 3 = xE (zyEl zymc B s.heap) 19 3 := xFr_E hFr0 rfl
      have e29 : ∀ i, xE (zyEl zymc B H2) 29 i = xE (zyEl zymc B H) 29 i := fun i => xFr_E hfr rfl
      have hI : xVs18 x0 (zyEl zymc B s.heap) ∧ (∀ k, 0 ≤ k → xE (zyEl zymc B H) 29 k = xE (zyEl zymc B s.heap) 29 k) ∧ (v 1) = x0 0 ∧ (v 2) = x0 1 ∧ (v 3) = xE (zyEl zymc B s.heap) 29 (x0 0) := hInv
      obtain ⟨hvl, hc1, i1, i2, i3⟩ := hI
      refine xSt hRu hIH hAt hB hv hFr 29 (ax := 0) 68719476737 34359738369 (v2 2) (v2 1) rfl (Or.inl ⟨rfl, rfl⟩) rfl (by decide +kernel) rfl rfl (by omega) (by show (v2 1) < ((31 : Nat) : Int); omega) (fun r hr q1 q2 => by rw [List.mem_singleton.mp hr]; exact ⟨rfl, by show ((2147483648 : Nat) : Int) ≤ (v2 2) + 2147483648; omega, by show (v2 2) + 2147483648 ≤ ((2147483650 : Nat) : Int); omega⟩) (zyin_iff.mpr ⟨(29, 0, 30), by decide, rfl, (by show 0 ≤ Int.toNat (v2 1); omega), by show Int.toNat (v2 1) ≤ 30; omega⟩) (fun H3 hT3 hst3 hne3 hfn3 hFr3 => ?_)
      have hfe3 : ∀ (a2 : Nat) (k2 : Int), ¬ a2 = 29 → xE (zyEl zymc B H3) a2 k2 = xE (zyEl zymc B H2) a2 k2 := fun a2 k2 hne => by unfold xE; rw [hfn3 a2 k2.toNat (fun z => hne z.1)]
      have d19_3 : xE (zyEl zymc B H3) 19 3 = xE (zyEl zymc B H2) 19 3 := hfe3 19 3 (fun z => absurd z (by decide))
      refine ⟨⟨4, by decide⟩, [0, 0, 0, 103079215105], [0, 0, 0, (v2 3)], rfl, ⟨by decide +kernel, ⟨rfl, by decide +kernel⟩, (xcs_c rfl (xcs_c rfl (xcs_c rfl (xcs_c rfl xcs_n)))), (xe_0 (xe_0 (xe_0 (xe_f (by omega) xe_n)))), xkq_n⟩, rfl, ?_, ?_⟩
      · show xVs18 x0 (zyEl zymc B s.heap) ∧ (∀ k, 0 ≤ k → xE (zyEl zymc B H3) 29 k = uS (xE (zyEl zymc B s.heap) 29) (x0 0) (x0 1) k) ∧ ((v2 3) : Int) = xE (zyEl zymc B s.heap) 29 (x0 0)
        refine ⟨hvl, fun k k0 => ?_, by omega⟩
        by_cases e : k = x0 0
        · rw [uS_e e, e, show x0 0 = (v2 1) by omega, hst3] <;> omega
        · rw [uS_n e, hne3 29 k k0 (fun z => e (by omega)), e29]
          exact hc1 k k0
      · show 5 < 6
        omega
    · cases hx
  · intro x0 E0 E E2 hrx hT0 hΦ i v hT hrv hInv hKc hFr0 x hx v2 hr2 hXs hag hfr hFr hT2
    rcases i with ⟨i, hi⟩
    have hi2 : i = 0 ∨ i = 1 ∨ i = 2 ∨ i = 3 ∨ i = 4 := by omega
    rcases hi2 with rfl | rfl | rfl | rfl | rfl
    · cases hx
    · have hx : x ∈ [zxfcst18_ar0, zxfcst18_ar1, zxfcst18_ar2, zxfcst18_ar3, zxfcst18_ar4] := hx
      have hag : ∀ k, k < 4 → v2 k = v k := hag
      have hfr : xFr [(0, 0, 0)] _ _ := hfr
      rcases List.mem_cons.mp hx with ex | hx
      · subst ex
        obtain ⟨hF, hBd, hM⟩ := hXs
        have g1 : v2 1 = v 1 := hag 1 (by decide)
        have g2 : v2 2 = v 2 := hag 2 (by decide)
        have b0 : ((0 : Nat) : Int) ≤ (v2 2) + 2147483648 ∧ (v2 2) + 2147483648 ≤ ((2147483647 : Nat) : Int) := xXb hBd 0 rfl
        have f0 : (v2 2) < 0 := xXf hF 0 rfl
        have e19_3 : xE E2 19 3 = xE E 19 3 := xFr_E hfr rfl
        have q19_3 : xE E 19 3 = xE E0 19 3 := xFr_E hFr0 rfl
        have e29 : ∀ i, xE E2 29 i = xE E 29 i := fun i => xFr_E hfr rfl
        have hI : E = E0 ∧ (v 1) = x0 0 ∧ (v 2) = x0 1 := hInv
        have q29 : ∀ i, xE E 29 i = xE E0 29 i := fun i => by rw [hI.1]
        show xΨcst18 x0 E0 E2 (-1)
        obtain ⟨hE, i1, i2⟩ := hI
        have hSW := q19_3
        have hvl : ¬ xVs18 x0 E0 := by
          unfold xVs18
          rintro ⟨⟨y1, y2⟩, ⟨y5, y6⟩, y7⟩
          omega
        exact ⟨fun h => absurd h hvl, fun _ => ⟨by omega, fun k => (e29 k).trans (q29 k)⟩⟩
      · skip
        rcases List.mem_cons.mp hx with ex | hx
        · subst ex
          obtain ⟨hF, hBd, hM⟩ := hXs
          have g1 : v2 1 = v 1 := hag 1 (by decide)
          have g2 : v2 2 = v 2 := hag 2 (by decide)
          have b0 : ((2147483651 : Nat) : Int) ≤ (v2 2) + 2147483648 ∧ (v2 2) + 2147483648 ≤ ((4294967295 : Nat) : Int) := xXb hBd 0 rfl
          have f0 : 0 ≤ (v2 2) := xXf hF 0 rfl
          have f1 : 2 < (v2 2) := xXf hF 1 rfl
          have e19_3 : xE E2 19 3 = xE E 19 3 := xFr_E hfr rfl
          have q19_3 : xE E 19 3 = xE E0 19 3 := xFr_E hFr0 rfl
          have e29 : ∀ i, xE E2 29 i = xE E 29 i := fun i => xFr_E hfr rfl
          have hI : E = E0 ∧ (v 1) = x0 0 ∧ (v 2) = x0 1 := hInv
          have q29 : ∀ i, xE E 29 i = xE E0 29 i := fun i => by rw [hI.1]
          show xΨcst18 x0 E0 E2 (-1)
          obtain ⟨hE, i1, i2⟩ := hI
          have hSW := q19_3
          have hvl : ¬ xVs18 x0 E0 := by
            unfold xVs18
            rintro ⟨⟨y1, y2⟩, ⟨y5, y6⟩, y7⟩
            omega
          exact ⟨fun h => absurd h hvl, fun _ => ⟨by omega, fun k => (e29 k).trans (q29 k)⟩⟩
        · skip
          rcases List.mem_cons.mp hx with ex | hx
          · subst ex
            obtain ⟨hF, hBd, hM⟩ := hXs
            have g1 : v2 1 = v 1 := hag 1 (by decide)
            have g2 : v2 2 = v 2 := hag 2 (by decide)
            have b0 : ((0 : Nat) : Int) ≤ (v2 1) + 2147483648 ∧ (v2 1) + 2147483648 ≤ ((2147483647 : Nat) : Int) := xXb hBd 0 rfl
            have b1 : ((2147483648 : Nat) : Int) ≤ (v2 2) + 2147483648 ∧ (v2 2) + 2147483648 ≤ ((2147483650 : Nat) : Int) := xXb hBd 1 rfl
            have f0 : 0 ≤ (v2 2) := xXf hF 0 rfl
            have f1 : (v2 2) ≤ 2 := xXf hF 1 rfl
            have f2 : (v2 1) < 0 := xXf hF 2 rfl
            have e19_3 : xE E2 19 3 = xE E 19 3 := xFr_E hfr rfl
            have q19_3 : xE E 19 3 = xE E0 19 3 := xFr_E hFr0 rfl
            have e29 : ∀ i, xE E2 29 i = xE E 29 i := fun i => xFr_E hfr rfl
            have hI : E = E0 ∧ (v 1) = x0 0 ∧ (v 2) = x0 1 := hInv
            have q29 : ∀ i, xE E 29 i = xE E0 29 i := fun i => by rw [hI.1]
            show xΨcst18 x0 E0 E2 (-1)
            obtain ⟨hE, i1, i2⟩ := hI
            have hSW := q19_3
            have hvl : ¬ xVs18 x0 E0 := by
              unfold xVs18
              rintro ⟨⟨y1, y2⟩, ⟨y5, y6⟩, y7⟩
              omega
            exact ⟨fun h => absurd h hvl, fun _ => ⟨by omega, fun k => (e29 k).trans (q29 k)⟩⟩
          · skip
            rcases List.mem_cons.mp hx with ex | hx
            · subst ex
              obtain ⟨hF, hBd, hM⟩ := hXs
              have g1 : v2 1 = v 1 := hag 1 (by decide)
              have g2 : v2 2 = v 2 := hag 2 (by decide)
              have b0 : ((2147483648 : Nat) : Int) ≤ (v2 1) + 2147483648 ∧ (v2 1) + 2147483648 ≤ ((2147483678 : Nat) : Int) := xXb hBd 0 rfl
              have b1 : ((2147483648 : Nat) : Int) ≤ (v2 2) + 2147483648 ∧ (v2 2) + 2147483648 ≤ ((2147483650 : Nat) : Int) := xXb hBd 1 rfl
              have b2 : ((2147483649 : Nat) : Int) ≤ (v2 4) + 2147483648 ∧ (v2 4) + 2147483648 ≤ ((2147483679 : Nat) : Int) := xXb hBd 2 rfl
              have b3 : ((2147483648 : Nat) : Int) ≤ (v2 5) + 2147483648 ∧ (v2 5) + 2147483648 ≤ ((2147483650 : Nat) : Int) := xXb hBd 3 rfl
              have f0 : 0 ≤ (v2 2) := xXf hF 0 rfl
              have f1 : (v2 2) ≤ 2 := xXf hF 1 rfl
              have f2 : 0 ≤ (v2 1) := xXf hF 2 rfl
              have f3 : (0 : Int) ≤ 3 ∧ xE E 19 3 = (v2 4) := xXf hF 3 rfl
              have f4 : (v2 1) < (v2 4) := xXf hF 4 rfl
              have f5 : (0 : Int) ≤ (v2 1) ∧ xE E 29 (v2 1) = (v2 5) := xXf hF 5 rfl
              have f6 : (v2 5) = (v2 2) := xXf hF 6 rfl
              have e19_3 : xE E2 19 3 = xE E 19 3 := xFr_E hfr rfl
              have q19_3 : xE E 19 3 = xE E0 19 3 := xFr_E hFr0 rfl
              have e29 : ∀ i, xE E2 29 i = xE E 29 i := fun i => xFr_E hfr rfl
              have hI : E = E0 ∧ (v 1) = x0 0 ∧ (v 2) = x0 1 := hInv
              have q29 : ∀ i, xE E 29 i = xE E0 29 i := fun i => by rw [hI.1]
              show xΨcst18 x0 E0 E2 (-1)
              obtain ⟨hE, i1, i2⟩ := hI
              have hSW := q19_3
              have c5 : xE E0 29 ((v2 1)) = (v2 5) := (q29 _).symm.trans f5.2
              rw [show (v2 1) = x0 0 by omega] at c5
              have hvl : ¬ xVs18 x0 E0 := by
                unfold xVs18
                rintro ⟨⟨y1, y2⟩, ⟨y5, y6⟩, y7⟩
                omega
              exact ⟨fun h => absurd h hvl, fun _ => ⟨by omega, fun k => (e29 k).trans (q29 k)⟩⟩
            · skip
              have ex := List.mem_singleton.mp hx
              subst ex
              obtain ⟨hF, hBd, hM⟩ := hXs
              have g1 : v2 1 = v 1 := hag 1 (by decide)
              have g2 : v2 2 = v 2 := hag 2 (by decide)
              have b0 : ((2147483648 : Nat) : Int) ≤ (v2 1) + 2147483648 ∧ (v2 1) + 2147483648 ≤ ((4294967295 : Nat) : Int) := xXb hBd 0 rfl
              have b1 : ((2147483648 : Nat) : Int) ≤ (v2 2) + 2147483648 ∧ (v2 2) + 2147483648 ≤ ((2147483650 : Nat) : Int) := xXb hBd 1 rfl
              have b2 : ((2147483648 : Nat) : Int) ≤ (v2 4) + 2147483648 ∧ (v2 4) + 2147483648 ≤ ((2147483679 : Nat) : Int) := xXb hBd 2 rfl
              have f0 : 0 ≤ (v2 2) := xXf hF 0 rfl
              have f1 : (v2 2) ≤ 2 := xXf hF 1 rfl
              have f2 : 0 ≤ (v2 1) := xXf hF 2 rfl
              have f3 : (0 : Int) ≤ 3 ∧ xE E 19 3 = (v2 4) := xXf hF 3 rfl
              have f4 : (v2 4) ≤ (v2 1) := xXf hF 4 rfl
              have e19_3 : xE E2 19 3 = xE E 19 3 := xFr_E hfr rfl
              have q19_3 : xE E 19 3 = xE E0 19 3 := xFr_E hFr0 rfl
              have e29 : ∀ i, xE E2 29 i = xE E 29 i := fun i => xFr_E hfr rfl
              have hI : E = E0 ∧ (v 1) = x0 0 ∧ (v 2) = x0 1 := hInv
              have q29 : ∀ i, xE E 29 i = xE E0 29 i := fun i => by rw [hI.1]
              show xΨcst18 x0 E0 E2 (-1)
              obtain ⟨hE, i1, i2⟩ := hI
              have hSW := q19_3
              have hvl : ¬ xVs18 x0 E0 := by
                unfold xVs18
                rintro ⟨⟨y1, y2⟩, ⟨y5, y6⟩, y7⟩
                omega
              exact ⟨fun h => absurd h hvl, fun _ => ⟨by omega, fun k => (e29 k).trans (q29 k)⟩⟩
    · cases hx
    · cases hx
    · have hx : x ∈ [zxfcst18_cr0] := hx
      have hag : ∀ k, k < 4 → v2 k = v k := hag
      have hfr : xFr [(0, 0, 0)] _ _ := hfr
      have ex := List.mem_singleton.mp hx
      subst ex
      obtain ⟨hF, hBd, hM⟩ := hXs
      have r3 := hr2 3
      have g3 : v2 3 = v 3 := hag 3 (by decide)
      have e19_3 : xE E2 19 3 = xE E 19 3 := xFr_E hfr rfl
      have q19_3 : xE E 19 3 = xE E0 19 3 := xFr_E hFr0 rfl
      have e29 : ∀ i, xE E2 29 i = xE E 29 i := fun i => xFr_E hfr rfl
      have hI : xVs18 x0 E0 ∧ (∀ k, 0 ≤ k → xE E 29 k = uS (xE E0 29) (x0 0) (x0 1) k) ∧ (v 3) = xE E0 29 (x0 0) := hInv
      show xΨcst18 x0 E0 E2 (v2 3)
      obtain ⟨hvl, hc1, i3⟩ := hI
      exact ⟨fun _ => ⟨by omega, fun k k0 => (e29 k).trans (hc1 k k0)⟩, fun h => absurd hvl h⟩
