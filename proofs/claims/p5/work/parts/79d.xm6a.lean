/-! THE CLASS reads: countFree, hasStartAt, addBobbin, add (printed by m6.py) -/
noncomputable def zxfcf0_ax0 : zyXp := (4, [11, 0, 0], [], [], [], [])
noncomputable def zpfcf0_a : zyPh := (0, [11, 13, 13], [(0, 4294967295), (0, 4294967295), (0, 4294967295)], [], [])
noncomputable def zxfcf0_bx0 : zyXp := (4, [11, 34359738377, 68719476745], [], [(24, 103079215105, 2, 24), (20, 0, 68719476737, 103079215105), (24, 137438953473, 13, 68719476737), (23, 0, 137438953473, 0)], [(34359738369, 2147483648, 2147483679), (68719476737, 2147483648, 2147483678), (103079215105, 2147483649, 2147483679), (137438953473, 2147483649, 2147483649), (34359738377, 2147483649, 2147483680), (68719476745, 2147483649, 2147483679)], [])
noncomputable def zxfcf0_bx1 : zyXp := (4, [11, 34359738369, 68719476745], [], [(24, 103079215105, 2, 24), (20, 0, 68719476737, 103079215105), (24, 137438953473, 13, 68719476737), (22, 0, 137438953473, 0)], [(34359738369, 2147483648, 2147483679), (68719476737, 2147483648, 2147483678), (103079215105, 2147483649, 2147483679), (137438953473, 2147483648, 2147483648), (68719476745, 2147483649, 2147483679)], [])
noncomputable def zxfcf0_br0 : zyXp := (0, [], [34359738369], [(24, 103079215105, 2, 24), (21, 0, 68719476737, 103079215105)], [(34359738369, 2147483648, 2147483679), (68719476737, 2147483648, 2147483679), (103079215105, 2147483648, 2147483679)], [])
noncomputable def zpfcf0_b : zyPh := (4, [11, 34359738369, 68719476737], [(0, 4294967295), (2147483648, 2147483679), (2147483648, 2147483679)], [], [])
noncomputable def zpfcf0 (i : Nat) : zyPh := zif (Nat.beq i 0) (zpfcf0_a) (zpfcf0_b)
noncomputable def zXfcf0 (i : Nat) : List zyXp := zif (Nat.beq i 0) ([zxfcf0_ax0]) ([zxfcf0_bx0, zxfcf0_bx1])
noncomputable def zRfcf0 (i : Nat) : List zyXp := zif (Nat.beq i 0) ([]) ([zxfcf0_br0])
noncomputable def zFfcf0 (i : Nat) : zyR := zif (Nat.beq i 0) ([]) ([])
noncomputable def zSfcf0 (i : Nat) : Nat := zif (Nat.beq i 0) (0) (0)
def xΦcf0 (_ : Nat → Int) (_ : zyEm) : Prop := True
def xΨcf0 (_ : Nat → Int) (E _ : zyEm) (r : Int) : Prop := (0 ≤ r ∧ r ≤ 31) ∧ ∀ S, xAb0 E S → r = pCnt S 104 (gN (S 0) (S 1)).toNat
noncomputable def fpfcf0 : zyR := []
theorem zyfcf0_run : zyrS zymc zxi35 (35, 0, 0, 1, 0) 1 zpfcf0 (fun _ _ => []) zFfcf0 zSfcf0 zXfcf0 zRfcf0 2 = true := by decide +kernel
theorem zyfcf0_ck : zyAll (fun i => xsubR (zFfcf0 i) fpfcf0 && ((zXfcf0 i).all xckX && (zRfcf0 i).all (fun x => xckX x && xrtB true x))) 2 = true := by decide +kernel
def xIfcf0 (i : Nat) (x0 : Nat → Int) (E0 : zyEm) (v : Nat → Int) (E : zyEm) : Prop := if i = 0 then (E = E0) else ((0 ≤ (v 2) ∧ (v 2) ≤ xE E0 2 3) ∧ (0 ≤ (v 1) ∧ (v 1) ≤ (v 2)) ∧ ∀ S, xAb0 E0 S → (v 1) = pCnt S 104 ((v 2)).toNat)
def xMfcf0 (i : Nat) (x0 : Nat → Int) (E0 : zyEm) (v : Nat → Int) (E : zyEm) : Nat := if i = 0 then (100) else ((99 - (v 2)).toNat)
theorem xCf0 {l : Launch} {en : zEn} {me : zMe} (hen : zG zxMeta 35 = some en) (hme : zG zMeth 35 = some me) : xFc l zymc en me 1 [1] 0 fpfcf0 true xΦcf0 xΨcf0 := by
  have een : zG zxMeta 35 = some (zxi35, 1, 3, 3, 35, 0, 0, 1, 0) := rfl
  obtain ⟨me1, hme1, hOK⟩ := zall hen
  rw [hme] at hme1
  cases hme1
  rw [een] at hen
  cases hen
  have hr := zyfcf0_run
  have hck := fun i hi => zyAll_iff zyfcf0_ck i hi
  simp only [Bool.and_eq_true] at hck
  intro B
  refine xcut (mi := zymc) (B := B) hOK rfl rfl (ι := Fin 2) (fun i => zpfcf0 i.val) (fun _ _ => []) (fun i => zFfcf0 i.val) (fun i => zSfcf0 i.val) (fun i => zXfcf0 i.val) (fun i => zRfcf0 i.val) (fun i y2 ct en2 me2 h => by cases h) 200000 (fun i => zyAll_iff hr i.val i.isLt) (fun i => (hck i.val i.isLt).1) (fun i => (hck i.val i.isLt).2.1) (fun i => (hck i.val i.isLt).2.2) ⟨0, by decide⟩ ⟨rfl, rfl, rfl, rfl⟩ ⟨by decide, by decide⟩ (fun i x0 E0 v E => xIfcf0 i.val x0 E0 v E) (fun i x0 E0 v E => xMfcf0 i.val x0 E0 v E) ?_ ?_ ?_
  · intro x0 E hx0 hT hΦ
    have hΦ : xΦcf0 x0 E := hΦ
    refine ⟨fun k p hp => ?_, ?_⟩
    · have hk : k < 3 := (List.getElem?_eq_some_iff.mp hp).1
      have hk : k = 0 ∨ k = 1 ∨ k = 2 := by omega
      rcases hk with rfl | rfl | rfl
      · have hp : some (0, 4294967295) = some p := hp
        cases hp
        show ((0 : Nat) : Int) ≤ 0 + 2147483648 ∧ 0 + 2147483648 ≤ ((4294967295 : Nat) : Int)
        omega
      · have hp : some (0, 4294967295) = some p := hp
        cases hp
        show ((0 : Nat) : Int) ≤ x0 0 + 2147483648 ∧ x0 0 + 2147483648 ≤ ((4294967295 : Nat) : Int)
        have hx := hx0 0
        omega
      · have hp : some (0, 4294967295) = some p := hp
        cases hp
        show ((0 : Nat) : Int) ≤ x0 1 + 2147483648 ∧ x0 1 + 2147483648 ≤ ((4294967295 : Nat) : Int)
        have hx := hx0 1
        omega
    · show E = E
      rfl
  · intro x0 s Wg hRu hrx hT0 hΦ i v H hT hrv hInv hKc hFr0 hIH x hx ρ2 v2 N2 H2 locs lsB stA hAt hB hv hr2 hXs hag hfr hFr hT2
    rcases i with ⟨i, hi⟩
    have hi2 : i = 0 ∨ i = 1 := by omega
    rcases hi2 with rfl | rfl
    · have hx : x ∈ [zxfcf0_ax0] := hx
      have hag : ∀ k, k < 3 → v2 k = v k := hag
      have hfr : xFr [] _ _ := hfr
      have ex := List.mem_singleton.mp hx
      subst ex
      obtain ⟨hF, hBd, hM⟩ := hXs
      have e2_3 : xE (zyEl zymc B H2) 2 3 = xE (zyEl zymc B H) 2 3 := xFr_E hfr rfl
      have q2_3 : xE (zyEl zymc B H) 2 3 = xE (zyEl zymc B s.heap) 2 3 := xFr_E hFr0 rfl
      have e13 : ∀ i, xE (zyEl zymc B H2) 13 i = xE (zyEl zymc B H) 13 i := fun i => xFr_E hfr rfl
      have q13 : ∀ i, xE (zyEl zymc B H) 13 i = xE (zyEl zymc B s.heap) 13 i := fun i => xFr_E hFr0 rfl
      have y2_3 : ((2147483648 : Nat) : Int) ≤ xE (zyEl zymc B s.heap) 2 3 + 2147483648 ∧ xE (zyEl zymc B s.heap) 2 3 + 2147483648 ≤ ((2147483679 : Nat) : Int) := xTyF hT0 2 3 3 rfl rfl rfl rfl rfl rfl
      have hI : (zyEl zymc B H) = (zyEl zymc B s.heap) := hInv
      refine xGo hIH hAt hB hv hFr ⟨1, by decide⟩ [0, 0, 0] [0, 0, 0] rfl ⟨by decide +kernel, ⟨rfl, by decide +kernel⟩, (xcs_c rfl (xcs_c rfl (xcs_c rfl xcs_n))), (xe_0 (xe_c (by omega) (by omega) rfl (xe_c (by omega) (by omega) rfl xe_n))), xkq_n⟩ xst_n ?_ ?_
      · show (0 ≤ (0 : Int) ∧ (0 : Int) ≤ xE (zyEl zymc B s.heap) 2 3) ∧ (0 ≤ (0 : Int) ∧ (0 : Int) ≤ (0 : Int)) ∧ ∀ S, xAb0 (zyEl zymc B s.heap) S → (0 : Int) = pCnt S 104 ((0 : Int)).toNat
        exact ⟨by omega, by omega, fun S hS => rfl⟩
      · show (99 - (0 : Int)).toNat < 100
        omega
    · have hx : x ∈ [zxfcf0_bx0, zxfcf0_bx1] := hx
      have hag : ∀ k, k < 3 → v2 k = v k := hag
      have hfr : xFr [] _ _ := hfr
      rcases List.mem_cons.mp hx with ex | hx
      · subst ex
        obtain ⟨hF, hBd, hM⟩ := hXs
        have g1 : v2 1 = v 1 := hag 1 (by decide)
        have g2 : v2 2 = v 2 := hag 2 (by decide)
        have b0 : ((2147483648 : Nat) : Int) ≤ (v2 1) + 2147483648 ∧ (v2 1) + 2147483648 ≤ ((2147483679 : Nat) : Int) := xXb hBd 0 rfl
        have b1 : ((2147483648 : Nat) : Int) ≤ (v2 2) + 2147483648 ∧ (v2 2) + 2147483648 ≤ ((2147483678 : Nat) : Int) := xXb hBd 1 rfl
        have b2 : ((2147483649 : Nat) : Int) ≤ (v2 3) + 2147483648 ∧ (v2 3) + 2147483648 ≤ ((2147483679 : Nat) : Int) := xXb hBd 2 rfl
        have b3 : ((2147483649 : Nat) : Int) ≤ (v2 4) + 2147483648 ∧ (v2 4) + 2147483648 ≤ ((2147483649 : Nat) : Int) := xXb hBd 3 rfl
        have b4 : ((2147483649 : Nat) : Int) ≤ (v2 1 + 1) + 2147483648 ∧ (v2 1 + 1) + 2147483648 ≤ ((2147483680 : Nat) : Int) := xXb hBd 4 rfl
        have b5 : ((2147483649 : Nat) : Int) ≤ (v2 2 + 1) + 2147483648 ∧ (v2 2 + 1) + 2147483648 ≤ ((2147483679 : Nat) : Int) := xXb hBd 5 rfl
        have f0 : (0 : Int) ≤ 3 ∧ xE (zyEl zymc B H) 2 3 = (v2 3) := xXf hF 0 rfl
        have f1 : (v2 2) < (v2 3) := xXf hF 1 rfl
        have f2 : (0 : Int) ≤ (v2 2) ∧ xE (zyEl zymc B H) 13 (v2 2) = (v2 4) := xXf hF 2 rfl
        have f3 : ¬ (v2 4) = 0 := xXf hF 3 rfl
        have e2_3 : xE (zyEl zymc B H2) 2 3 = xE (zyEl zymc B H) 2 3 := xFr_E hfr rfl
        have q2_3 : xE (zyEl zymc B H) 2 3 = xE (zyEl zymc B s.heap) 2 3 := xFr_E hFr0 rfl
        have e13 : ∀ i, xE (zyEl zymc B H2) 13 i = xE (zyEl zymc B H) 13 i := fun i => xFr_E hfr rfl
        have q13 : ∀ i, xE (zyEl zymc B H) 13 i = xE (zyEl zymc B s.heap) 13 i := fun i => xFr_E hFr0 rfl
        have y2_3 : ((2147483648 : Nat) : Int) ≤ xE (zyEl zymc B s.heap) 2 3 + 2147483648 ∧ xE (zyEl zymc B s.heap) 2 3 + 2147483648 ≤ ((2147483679 : Nat) : Int) := xTyF hT0 2 3 3 rfl rfl rfl rfl rfl rfl
        have hI : (0 ≤ (v 2) ∧ (v 2) ≤ xE (zyEl zymc B s.heap) 2 3) ∧ (0 ≤ (v 1) ∧ (v 1) ≤ (v 2)) ∧ ∀ S, xAb0 (zyEl zymc B s.heap) S → (v 1) = pCnt S 104 ((v 2)).toNat := hInv
        obtain ⟨i1, i2, i3⟩ := hI
        refine xGo hIH hAt hB hv hFr ⟨1, by decide⟩ [0, 34359738377, 68719476745] [0, (v2 1 + 1), (v2 2 + 1)] rfl ⟨by decide +kernel, ⟨rfl, by decide +kernel⟩, (xcs_c rfl (xcs_c rfl (xcs_c rfl xcs_n))), (xe_0 (xe_c (by omega) (by omega) rfl (xe_c (by omega) (by omega) rfl xe_n))), xkq_n⟩ xst_n ?_ ?_
        · show (0 ≤ ((v2 2 + 1) : Int) ∧ ((v2 2 + 1) : Int) ≤ xE (zyEl zymc B s.heap) 2 3) ∧ (0 ≤ ((v2 1 + 1) : Int) ∧ ((v2 1 + 1) : Int) ≤ ((v2 2 + 1) : Int)) ∧ ∀ S, xAb0 (zyEl zymc B s.heap) S → ((v2 1 + 1) : Int) = pCnt S 104 (((v2 2 + 1) : Int)).toNat
          refine ⟨by omega, by omega, fun S hS => ?_⟩
          have hc := (hS.2.2.2.2.1 (v2 2) (by omega) (by omega)).2.2.2
          have hf := q13 (v2 2)
          rw [pCnt_s (by omega), show (v2 2) = v 2 by omega, ← i3 S hS, ← show (v2 2) = v 2 by omega, if_pos (by omega)]
          omega
        · show (99 - ((v2 2 + 1) : Int)).toNat < (99 - (v 2)).toNat
          omega
      · skip
        have ex := List.mem_singleton.mp hx
        subst ex
        obtain ⟨hF, hBd, hM⟩ := hXs
        have g1 : v2 1 = v 1 := hag 1 (by decide)
        have g2 : v2 2 = v 2 := hag 2 (by decide)
        have b0 : ((2147483648 : Nat) : Int) ≤ (v2 1) + 2147483648 ∧ (v2 1) + 2147483648 ≤ ((2147483679 : Nat) : Int) := xXb hBd 0 rfl
        have b1 : ((2147483648 : Nat) : Int) ≤ (v2 2) + 2147483648 ∧ (v2 2) + 2147483648 ≤ ((2147483678 : Nat) : Int) := xXb hBd 1 rfl
        have b2 : ((2147483649 : Nat) : Int) ≤ (v2 3) + 2147483648 ∧ (v2 3) + 2147483648 ≤ ((2147483679 : Nat) : Int) := xXb hBd 2 rfl
        have b3 : ((2147483648 : Nat) : Int) ≤ (v2 4) + 2147483648 ∧ (v2 4) + 2147483648 ≤ ((2147483648 : Nat) : Int) := xXb hBd 3 rfl
        have b4 : ((2147483649 : Nat) : Int) ≤ (v2 2 + 1) + 2147483648 ∧ (v2 2 + 1) + 2147483648 ≤ ((2147483679 : Nat) : Int) := xXb hBd 4 rfl
        have f0 : (0 : Int) ≤ 3 ∧ xE (zyEl zymc B H) 2 3 = (v2 3) := xXf hF 0 rfl
        have f1 : (v2 2) < (v2 3) := xXf hF 1 rfl
        have f2 : (0 : Int) ≤ (v2 2) ∧ xE (zyEl zymc B H) 13 (v2 2) = (v2 4) := xXf hF 2 rfl
        have f3 : (v2 4) = 0 := xXf hF 3 rfl
        have e2_3 : xE (zyEl zymc B H2) 2 3 = xE (zyEl zymc B H) 2 3 := xFr_E hfr rfl
        have q2_3 : xE (zyEl zymc B H) 2 3 = xE (zyEl zymc B s.heap) 2 3 := xFr_E hFr0 rfl
        have e13 : ∀ i, xE (zyEl zymc B H2) 13 i = xE (zyEl zymc B H) 13 i := fun i => xFr_E hfr rfl
        have q13 : ∀ i, xE (zyEl zymc B H) 13 i = xE (zyEl zymc B s.heap) 13 i := fun i => xFr_E hFr0 rfl
        have y2_3 : ((2147483648 : Nat) : Int) ≤ xE (zyEl zymc B s.heap) 2 3 + 2147483648 ∧ xE (zyEl zymc B s.heap) 2 3 + 2147483648 ≤ ((2147483679 : Nat) : Int) := xTyF hT0 2 3 3 rfl rfl rfl rfl rfl rfl
        have hI : (0 ≤ (v 2) ∧ (v 2) ≤ xE (zyEl zymc B s.heap) 2 3) ∧ (0 ≤ (v 1) ∧ (v 1) ≤ (v 2)) ∧ ∀ S, xAb0 (zyEl zymc B s.heap) S → (v 1) = pCnt S 104 ((v 2)).toNat := hInv
        obtain ⟨i1, i2, i3⟩ := hI
        refine xGo hIH hAt hB hv hFr ⟨1, by decide⟩ [0, 34359738369, 68719476745] [0, (v2 1), (v2 2 + 1)] rfl ⟨by decide +kernel, ⟨rfl, by decide +kernel⟩, (xcs_c rfl (xcs_c rfl (xcs_c rfl xcs_n))), (xe_0 (xe_c (by omega) (by omega) rfl (xe_c (by omega) (by omega) rfl xe_n))), xkq_n⟩ xst_n ?_ ?_
        · show (0 ≤ ((v2 2 + 1) : Int) ∧ ((v2 2 + 1) : Int) ≤ xE (zyEl zymc B s.heap) 2 3) ∧ (0 ≤ ((v2 1) : Int) ∧ ((v2 1) : Int) ≤ ((v2 2 + 1) : Int)) ∧ ∀ S, xAb0 (zyEl zymc B s.heap) S → ((v2 1) : Int) = pCnt S 104 (((v2 2 + 1) : Int)).toNat
          refine ⟨by omega, by omega, fun S hS => ?_⟩
          have hc := (hS.2.2.2.2.1 (v2 2) (by omega) (by omega)).2.2.2
          have hf := q13 (v2 2)
          rw [pCnt_s (by omega), show (v2 2) = v 2 by omega, ← i3 S hS, ← show (v2 2) = v 2 by omega, if_neg (by omega)]
          omega
        · show (99 - ((v2 2 + 1) : Int)).toNat < (99 - (v 2)).toNat
          omega
  · intro x0 E0 E E2 hrx hT0 hΦ i v hT hrv hInv hKc hFr0 x hx v2 hr2 hXs hag hfr hFr hT2
    rcases i with ⟨i, hi⟩
    have hi2 : i = 0 ∨ i = 1 := by omega
    rcases hi2 with rfl | rfl
    · cases hx
    · have hx : x ∈ [zxfcf0_br0] := hx
      have hag : ∀ k, k < 3 → v2 k = v k := hag
      have hfr : xFr [] _ _ := hfr
      have ex := List.mem_singleton.mp hx
      subst ex
      obtain ⟨hF, hBd, hM⟩ := hXs
      have g1 : v2 1 = v 1 := hag 1 (by decide)
      have g2 : v2 2 = v 2 := hag 2 (by decide)
      have b0 : ((2147483648 : Nat) : Int) ≤ (v2 1) + 2147483648 ∧ (v2 1) + 2147483648 ≤ ((2147483679 : Nat) : Int) := xXb hBd 0 rfl
      have b1 : ((2147483648 : Nat) : Int) ≤ (v2 2) + 2147483648 ∧ (v2 2) + 2147483648 ≤ ((2147483679 : Nat) : Int) := xXb hBd 1 rfl
      have b2 : ((2147483648 : Nat) : Int) ≤ (v2 3) + 2147483648 ∧ (v2 3) + 2147483648 ≤ ((2147483679 : Nat) : Int) := xXb hBd 2 rfl
      have f0 : (0 : Int) ≤ 3 ∧ xE E 2 3 = (v2 3) := xXf hF 0 rfl
      have f1 : (v2 3) ≤ (v2 2) := xXf hF 1 rfl
      have e2_3 : xE E2 2 3 = xE E 2 3 := xFr_E hfr rfl
      have q2_3 : xE E 2 3 = xE E0 2 3 := xFr_E hFr0 rfl
      have e13 : ∀ i, xE E2 13 i = xE E 13 i := fun i => xFr_E hfr rfl
      have q13 : ∀ i, xE E 13 i = xE E0 13 i := fun i => xFr_E hFr0 rfl
      have y2_3 : ((2147483648 : Nat) : Int) ≤ xE E0 2 3 + 2147483648 ∧ xE E0 2 3 + 2147483648 ≤ ((2147483679 : Nat) : Int) := xTyF hT0 2 3 3 rfl rfl rfl rfl rfl rfl
      have hI : (0 ≤ (v 2) ∧ (v 2) ≤ xE E0 2 3) ∧ (0 ≤ (v 1) ∧ (v 1) ≤ (v 2)) ∧ ∀ S, xAb0 E0 S → (v 1) = pCnt S 104 ((v 2)).toNat := hInv
      show xΨcf0 x0 E0 E2 (v2 1)
      obtain ⟨i1, i2, i3⟩ := hI
      unfold xΨcf0
      refine ⟨by omega, fun S hS => ?_⟩
      rw [← hS.2.1.2.2.2, show xE E0 2 3 = v2 2 by omega, show (v2 1) = v 1 by omega, show (v2 2) = v 2 by omega]
      exact i3 S hS
noncomputable def zxfhs0_ax0 : zyXp := (2, [11, 34359738369, 0], [], [], [(34359738369, 2147483648, 2147483727)], [])
noncomputable def zpfhs0_a : zyPh := (0, [11, 34359738369, 13], [(0, 4294967295), (2147483648, 2147483727), (0, 4294967295)], [], [])
noncomputable def zxfhs0_bx0 : zyXp := (2, [11, 34359738369, 68719476745], [], [(24, 103079215105, 1, 40), (20, 0, 68719476737, 103079215105), (24, 137438953473, 14, 68719476737), (23, 0, 137438953473, 34359738369), (24, 171798691841, 4, 34359738369), (24, 206158430209, 14, 68719476737), (23, 0, 171798691841, 206158430209)], [(34359738369, 2147483648, 2147483727), (68719476737, 2147483648, 2147483655), (103079215105, 2147483649, 2147483656), (137438953473, 2147483648, 2147483727), (171798691841, 2147483647, 2147483727), (206158430209, 2147483648, 2147483727), (68719476745, 2147483649, 2147483656)], [])
noncomputable def zxfhs0_br0 : zyXp := (0, [], [8], [(24, 103079215105, 1, 40), (20, 0, 68719476737, 103079215105), (24, 137438953473, 14, 68719476737), (23, 0, 137438953473, 34359738369), (24, 171798691841, 4, 34359738369), (24, 206158430209, 14, 68719476737), (22, 0, 171798691841, 206158430209)], [(34359738369, 2147483648, 2147483727), (68719476737, 2147483648, 2147483655), (103079215105, 2147483649, 2147483656), (137438953473, 2147483648, 2147483727), (171798691841, 2147483647, 2147483727), (206158430209, 2147483648, 2147483727)], [])
noncomputable def zxfhs0_br1 : zyXp := (0, [], [8], [(24, 103079215105, 1, 40), (20, 0, 68719476737, 103079215105), (24, 137438953473, 14, 68719476737), (22, 0, 137438953473, 34359738369)], [(34359738369, 2147483648, 2147483727), (68719476737, 2147483648, 2147483655), (103079215105, 2147483649, 2147483656), (137438953473, 2147483648, 2147483727)], [])
noncomputable def zxfhs0_br2 : zyXp := (0, [], [0], [(24, 103079215105, 1, 40), (21, 0, 68719476737, 103079215105)], [(68719476737, 2147483648, 2147483656), (103079215105, 2147483648, 2147483656)], [])
noncomputable def zpfhs0_b : zyPh := (2, [11, 34359738369, 68719476737], [(0, 4294967295), (2147483648, 2147483727), (2147483648, 2147483656)], [], [])
noncomputable def zpfhs0 (i : Nat) : zyPh := zif (Nat.beq i 0) (zpfhs0_a) (zpfhs0_b)
noncomputable def zXfhs0 (i : Nat) : List zyXp := zif (Nat.beq i 0) ([zxfhs0_ax0]) ([zxfhs0_bx0])
noncomputable def zRfhs0 (i : Nat) : List zyXp := zif (Nat.beq i 0) ([]) ([zxfhs0_br0, zxfhs0_br1, zxfhs0_br2])
noncomputable def zFfhs0 (i : Nat) : zyR := zif (Nat.beq i 0) ([]) ([])
noncomputable def zSfhs0 (i : Nat) : Nat := zif (Nat.beq i 0) (0) (0)
def xΦhs0 (x : Nat → Int) (E : zyEm) : Prop := 0 ≤ x 0 ∧ x 0 < xE E 2 2
def xΨhs0 (x : Nat → Int) (E _ : zyEm) (r : Int) : Prop := (r = 0 ∨ r = 1) ∧ ∀ S, xAb0 E S → r = if pTak S (x 0) (pF (S 0) (S 1) (x 0)) (S 2).toNat = true then 1 else 0
noncomputable def fpfhs0 : zyR := []
theorem zyfhs0_run : zyrS zymc zxi34 (34, 0, 0, 2, 0) 1 zpfhs0 (fun _ _ => []) zFfhs0 zSfhs0 zXfhs0 zRfhs0 2 = true := by decide +kernel
theorem zyfhs0_ck : zyAll (fun i => xsubR (zFfhs0 i) fpfhs0 && ((zXfhs0 i).all xckX && (zRfhs0 i).all (fun x => xckX x && xrtB true x))) 2 = true := by decide +kernel
def xIfhs0 (i : Nat) (x0 : Nat → Int) (E0 : zyEm) (v : Nat → Int) (E : zyEm) : Prop := if i = 0 then (E = E0 ∧ (v 1) = x0 0) else ((0 ≤ (v 2) ∧ (v 2) ≤ xE E0 1 5) ∧ (v 1) = x0 0 ∧ ∀ S, xAb0 E0 S → pTak S (x0 0) (pF (S 0) (S 1) (x0 0)) ((v 2)).toNat = false)
def xMfhs0 (i : Nat) (x0 : Nat → Int) (E0 : zyEm) (v : Nat → Int) (E : zyEm) : Nat := if i = 0 then (100) else ((99 - (v 2)).toNat)
theorem xHs0 {l : Launch} {en : zEn} {me : zMe} (hen : zG zxMeta 34 = some en) (hme : zG zMeth 34 = some me) : xFc l zymc en me 1 [1] 1 fpfhs0 true xΦhs0 xΨhs0 := by
  have een : zG zxMeta 34 = some (zxi34, 2, 3, 3, 34, 0, 0, 2, 0) := rfl
  obtain ⟨me1, hme1, hOK⟩ := zall hen
  rw [hme] at hme1
  cases hme1
  rw [een] at hen
  cases hen
  have hr := zyfhs0_run
  have hck := fun i hi => zyAll_iff zyfhs0_ck i hi
  simp only [Bool.and_eq_true] at hck
  intro B
  refine xcut (mi := zymc) (B := B) hOK rfl rfl (ι := Fin 2) (fun i => zpfhs0 i.val) (fun _ _ => []) (fun i => zFfhs0 i.val) (fun i => zSfhs0 i.val) (fun i => zXfhs0 i.val) (fun i => zRfhs0 i.val) (fun i y2 ct en2 me2 h => by cases h) 200000 (fun i => zyAll_iff hr i.val i.isLt) (fun i => (hck i.val i.isLt).1) (fun i => (hck i.val i.isLt).2.1) (fun i => (hck i.val i.isLt).2.2) ⟨0, by decide⟩ ⟨rfl, rfl, rfl, rfl⟩ ⟨by decide, by decide⟩ (fun i x0 E0 v E => xIfhs0 i.val x0 E0 v E) (fun i x0 E0 v E => xMfhs0 i.val x0 E0 v E) ?_ ?_ ?_
  · intro x0 E hx0 hT hΦ
    have hΦ : xΦhs0 x0 E := hΦ
    refine ⟨fun k p hp => ?_, ?_⟩
    · have hk : k < 3 := (List.getElem?_eq_some_iff.mp hp).1
      have hk : k = 0 ∨ k = 1 ∨ k = 2 := by omega
      rcases hk with rfl | rfl | rfl
      · have hp : some (0, 4294967295) = some p := hp
        cases hp
        show ((0 : Nat) : Int) ≤ 0 + 2147483648 ∧ 0 + 2147483648 ≤ ((4294967295 : Nat) : Int)
        omega
      · have hp : some (2147483648, 2147483727) = some p := hp
        cases hp
        show ((2147483648 : Nat) : Int) ≤ x0 0 + 2147483648 ∧ x0 0 + 2147483648 ≤ ((2147483727 : Nat) : Int)
        have hx := hx0 0
        have hP := hΦ.1
        have hP2 := hΦ.2
        have hT2 := xTyF hT 2 2 2 rfl rfl rfl rfl rfl rfl
        have hT2 : ((2147483648 : Nat) : Int) ≤ xE E 2 2 + 2147483648 ∧ xE E 2 2 + 2147483648 ≤ ((2147483728 : Nat) : Int) := hT2
        omega
      · have hp : some (0, 4294967295) = some p := hp
        cases hp
        show ((0 : Nat) : Int) ≤ x0 1 + 2147483648 ∧ x0 1 + 2147483648 ≤ ((4294967295 : Nat) : Int)
        have hx := hx0 1
        omega
    · show E = E ∧ (x0 0) = x0 0
      exact ⟨rfl, rfl⟩
  · intro x0 s Wg hRu hrx hT0 hΦ i v H hT hrv hInv hKc hFr0 hIH x hx ρ2 v2 N2 H2 locs lsB stA hAt hB hv hr2 hXs hag hfr hFr hT2
    rcases i with ⟨i, hi⟩
    have hi2 : i = 0 ∨ i = 1 := by omega
    rcases hi2 with rfl | rfl
    · have hx : x ∈ [zxfhs0_ax0] := hx
      have hag : ∀ k, k < 3 → v2 k = v k := hag
      have hfr : xFr [] _ _ := hfr
      have ex := List.mem_singleton.mp hx
      subst ex
      obtain ⟨hF, hBd, hM⟩ := hXs
      have g1 : v2 1 = v 1 := hag 1 (by decide)
      have b0 : ((2147483648 : Nat) : Int) ≤ (v2 1) + 2147483648 ∧ (v2 1) + 2147483648 ≤ ((2147483727 : Nat) : Int) := xXb hBd 0 rfl
      have e1_5 : xE (zyEl zymc B H2) 1 5 = xE (zyEl zymc B H) 1 5 := xFr_E hfr rfl
      have q1_5 : xE (zyEl zymc B H) 1 5 = xE (zyEl zymc B s.heap) 1 5 := xFr_E hFr0 rfl
      have e2_2 : xE (zyEl zymc B H2) 2 2 = xE (zyEl zymc B H) 2 2 := xFr_E hfr rfl
      have q2_2 : xE (zyEl zymc B H) 2 2 = xE (zyEl zymc B s.heap) 2 2 := xFr_E hFr0 rfl
      have e14 : ∀ i, xE (zyEl zymc B H2) 14 i = xE (zyEl zymc B H) 14 i := fun i => xFr_E hfr rfl
      have q14 : ∀ i, xE (zyEl zymc B H) 14 i = xE (zyEl zymc B s.heap) 14 i := fun i => xFr_E hFr0 rfl
      have e4 : ∀ i, xE (zyEl zymc B H2) 4 i = xE (zyEl zymc B H) 4 i := fun i => xFr_E hfr rfl
      have q4 : ∀ i, xE (zyEl zymc B H) 4 i = xE (zyEl zymc B s.heap) 4 i := fun i => xFr_E hFr0 rfl
      have y1_5 : ((2147483648 : Nat) : Int) ≤ xE (zyEl zymc B s.heap) 1 5 + 2147483648 ∧ xE (zyEl zymc B s.heap) 1 5 + 2147483648 ≤ ((2147483656 : Nat) : Int) := xTyF hT0 1 5 5 rfl rfl rfl rfl rfl rfl
      have y2_2 : ((2147483648 : Nat) : Int) ≤ xE (zyEl zymc B s.heap) 2 2 + 2147483648 ∧ xE (zyEl zymc B s.heap) 2 2 + 2147483648 ≤ ((2147483728 : Nat) : Int) := xTyF hT0 2 2 2 rfl rfl rfl rfl rfl rfl
      have hI : (zyEl zymc B H) = (zyEl zymc B s.heap) ∧ (v 1) = x0 0 := hInv
      have hP := hΦ.1
      have hP2 := hΦ.2
      refine xGo hIH hAt hB hv hFr ⟨1, by decide⟩ [0, 34359738369, 0] [0, (v2 1), 0] rfl ⟨by decide +kernel, ⟨rfl, by decide +kernel⟩, (xcs_c rfl (xcs_c rfl (xcs_c rfl xcs_n))), (xe_0 (xe_c (by omega) (by omega) rfl (xe_c (by omega) (by omega) rfl xe_n))), xkq_n⟩ xst_n ?_ ?_
      · show (0 ≤ (0 : Int) ∧ (0 : Int) ≤ xE (zyEl zymc B s.heap) 1 5) ∧ ((v2 1) : Int) = x0 0 ∧ ∀ S, xAb0 (zyEl zymc B s.heap) S → pTak S (x0 0) (pF (S 0) (S 1) (x0 0)) ((0 : Int)).toNat = false
        exact ⟨by omega, by omega, fun S hS => rfl⟩
      · show (99 - (0 : Int)).toNat < 100
        omega
    · have hx : x ∈ [zxfhs0_bx0] := hx
      have hag : ∀ k, k < 3 → v2 k = v k := hag
      have hfr : xFr [] _ _ := hfr
      have ex := List.mem_singleton.mp hx
      subst ex
      obtain ⟨hF, hBd, hM⟩ := hXs
      have g1 : v2 1 = v 1 := hag 1 (by decide)
      have g2 : v2 2 = v 2 := hag 2 (by decide)
      have b0 : ((2147483648 : Nat) : Int) ≤ (v2 1) + 2147483648 ∧ (v2 1) + 2147483648 ≤ ((2147483727 : Nat) : Int) := xXb hBd 0 rfl
      have b1 : ((2147483648 : Nat) : Int) ≤ (v2 2) + 2147483648 ∧ (v2 2) + 2147483648 ≤ ((2147483655 : Nat) : Int) := xXb hBd 1 rfl
      have b2 : ((2147483649 : Nat) : Int) ≤ (v2 3) + 2147483648 ∧ (v2 3) + 2147483648 ≤ ((2147483656 : Nat) : Int) := xXb hBd 2 rfl
      have b3 : ((2147483648 : Nat) : Int) ≤ (v2 4) + 2147483648 ∧ (v2 4) + 2147483648 ≤ ((2147483727 : Nat) : Int) := xXb hBd 3 rfl
      have b4 : ((2147483647 : Nat) : Int) ≤ (v2 5) + 2147483648 ∧ (v2 5) + 2147483648 ≤ ((2147483727 : Nat) : Int) := xXb hBd 4 rfl
      have b5 : ((2147483648 : Nat) : Int) ≤ (v2 6) + 2147483648 ∧ (v2 6) + 2147483648 ≤ ((2147483727 : Nat) : Int) := xXb hBd 5 rfl
      have b6 : ((2147483649 : Nat) : Int) ≤ (v2 2 + 1) + 2147483648 ∧ (v2 2 + 1) + 2147483648 ≤ ((2147483656 : Nat) : Int) := xXb hBd 6 rfl
      have f0 : (0 : Int) ≤ 5 ∧ xE (zyEl zymc B H) 1 5 = (v2 3) := xXf hF 0 rfl
      have f1 : (v2 2) < (v2 3) := xXf hF 1 rfl
      have f2 : (0 : Int) ≤ (v2 2) ∧ xE (zyEl zymc B H) 14 (v2 2) = (v2 4) := xXf hF 2 rfl
      have f3 : ¬ (v2 4) = (v2 1) := xXf hF 3 rfl
      have f4 : (0 : Int) ≤ (v2 1) ∧ xE (zyEl zymc B H) 4 (v2 1) = (v2 5) := xXf hF 4 rfl
      have f5 : (0 : Int) ≤ (v2 2) ∧ xE (zyEl zymc B H) 14 (v2 2) = (v2 6) := xXf hF 5 rfl
      have f6 : ¬ (v2 5) = (v2 6) := xXf hF 6 rfl
      have e1_5 : xE (zyEl zymc B H2) 1 5 = xE (zyEl zymc B H) 1 5 := xFr_E hfr rfl
      have q1_5 : xE (zyEl zymc B H) 1 5 = xE (zyEl zymc B s.heap) 1 5 := xFr_E hFr0 rfl
      have e2_2 : xE (zyEl zymc B H2) 2 2 = xE (zyEl zymc B H) 2 2 := xFr_E hfr rfl
      have q2_2 : xE (zyEl zymc B H) 2 2 = xE (zyEl zymc B s.heap) 2 2 := xFr_E hFr0 rfl
      have e14 : ∀ i, xE (zyEl zymc B H2) 14 i = xE (zyEl zymc B H) 14 i := fun i => xFr_E hfr rfl
      have q14 : ∀ i, xE (zyEl zymc B H) 14 i = xE (zyEl zymc B s.heap) 14 i := fun i => xFr_E hFr0 rfl
      have e4 : ∀ i, xE (zyEl zymc B H2) 4 i = xE (zyEl zymc B H) 4 i := fun i => xFr_E hfr rfl
      have q4 : ∀ i, xE (zyEl zymc B H) 4 i = xE (zyEl zymc B s.heap) 4 i := fun i => xFr_E hFr0 rfl
      have y1_5 : ((2147483648 : Nat) : Int) ≤ xE (zyEl zymc B s.heap) 1 5 + 2147483648 ∧ xE (zyEl zymc B s.heap) 1 5 + 2147483648 ≤ ((2147483656 : Nat) : Int) := xTyF hT0 1 5 5 rfl rfl rfl rfl rfl rfl
      have y2_2 : ((2147483648 : Nat) : Int) ≤ xE (zyEl zymc B s.heap) 2 2 + 2147483648 ∧ xE (zyEl zymc B s.heap) 2 2 + 2147483648 ≤ ((2147483728 : Nat) : Int) := xTyF hT0 2 2 2 rfl rfl rfl rfl rfl rfl
      have hI : (0 ≤ (v 2) ∧ (v 2) ≤ xE (zyEl zymc B s.heap) 1 5) ∧ (v 1) = x0 0 ∧ ∀ S, xAb0 (zyEl zymc B s.heap) S → pTak S (x0 0) (pF (S 0) (S 1) (x0 0)) ((v 2)).toNat = false := hInv
      obtain ⟨i1, i2, i3⟩ := hI
      have hP := hΦ.1
      have hP2 := hΦ.2
      rw [show (v 2) = v2 2 by omega] at i3
      have w2 : xE (zyEl zymc B s.heap) 14 (v2 2) = (v2 4) := by have := q14 (v2 2); omega
      have w5 : xE (zyEl zymc B s.heap) 14 (v2 2) = (v2 6) := by have := q14 (v2 2); omega
      have w4 : xE (zyEl zymc B s.heap) 4 (x0 0) = (v2 5) := by rw [show x0 0 = (v2 1) by omega]; have := q4 ((v2 1)); omega
      refine xGo hIH hAt hB hv hFr ⟨1, by decide⟩ [0, 34359738369, 68719476745] [0, (v2 1), (v2 2 + 1)] rfl ⟨by decide +kernel, ⟨rfl, by decide +kernel⟩, (xcs_c rfl (xcs_c rfl (xcs_c rfl xcs_n))), (xe_0 (xe_c (by omega) (by omega) rfl (xe_c (by omega) (by omega) rfl xe_n))), xkq_n⟩ xst_n ?_ ?_
      · show (0 ≤ ((v2 2 + 1) : Int) ∧ ((v2 2 + 1) : Int) ≤ xE (zyEl zymc B s.heap) 1 5) ∧ ((v2 1) : Int) = x0 0 ∧ ∀ S, xAb0 (zyEl zymc B s.heap) S → pTak S (x0 0) (pF (S 0) (S 1) (x0 0)) (((v2 2 + 1) : Int)).toNat = false
        refine ⟨by omega, by omega, fun S hS => ?_⟩
        have hst := (hS.2.2.2.1.2 (v2 2) (by omega) (by have := hS.2.2.2.1.1; omega)).1
        have hfc := hS.2.2.1 (x0 0) hP (by have := hS.2.1.2.2.1; omega)
        rw [pTak_s (by omega), i3 S hS, Bool.false_or, Bool.or_eq_false_iff, decide_eq_false_iff_not, decide_eq_false_iff_not]
        omega
      · show (99 - ((v2 2 + 1) : Int)).toNat < (99 - (v 2)).toNat
        omega
  · intro x0 E0 E E2 hrx hT0 hΦ i v hT hrv hInv hKc hFr0 x hx v2 hr2 hXs hag hfr hFr hT2
    rcases i with ⟨i, hi⟩
    have hi2 : i = 0 ∨ i = 1 := by omega
    rcases hi2 with rfl | rfl
    · cases hx
    · have hx : x ∈ [zxfhs0_br0, zxfhs0_br1, zxfhs0_br2] := hx
      have hag : ∀ k, k < 3 → v2 k = v k := hag
      have hfr : xFr [] _ _ := hfr
      rcases List.mem_cons.mp hx with ex | hx
      · subst ex
        obtain ⟨hF, hBd, hM⟩ := hXs
        have g1 : v2 1 = v 1 := hag 1 (by decide)
        have g2 : v2 2 = v 2 := hag 2 (by decide)
        have b0 : ((2147483648 : Nat) : Int) ≤ (v2 1) + 2147483648 ∧ (v2 1) + 2147483648 ≤ ((2147483727 : Nat) : Int) := xXb hBd 0 rfl
        have b1 : ((2147483648 : Nat) : Int) ≤ (v2 2) + 2147483648 ∧ (v2 2) + 2147483648 ≤ ((2147483655 : Nat) : Int) := xXb hBd 1 rfl
        have b2 : ((2147483649 : Nat) : Int) ≤ (v2 3) + 2147483648 ∧ (v2 3) + 2147483648 ≤ ((2147483656 : Nat) : Int) := xXb hBd 2 rfl
        have b3 : ((2147483648 : Nat) : Int) ≤ (v2 4) + 2147483648 ∧ (v2 4) + 2147483648 ≤ ((2147483727 : Nat) : Int) := xXb hBd 3 rfl
        have b4 : ((2147483647 : Nat) : Int) ≤ (v2 5) + 2147483648 ∧ (v2 5) + 2147483648 ≤ ((2147483727 : Nat) : Int) := xXb hBd 4 rfl
        have b5 : ((2147483648 : Nat) : Int) ≤ (v2 6) + 2147483648 ∧ (v2 6) + 2147483648 ≤ ((2147483727 : Nat) : Int) := xXb hBd 5 rfl
        have f0 : (0 : Int) ≤ 5 ∧ xE E 1 5 = (v2 3) := xXf hF 0 rfl
        have f1 : (v2 2) < (v2 3) := xXf hF 1 rfl
        have f2 : (0 : Int) ≤ (v2 2) ∧ xE E 14 (v2 2) = (v2 4) := xXf hF 2 rfl
        have f3 : ¬ (v2 4) = (v2 1) := xXf hF 3 rfl
        have f4 : (0 : Int) ≤ (v2 1) ∧ xE E 4 (v2 1) = (v2 5) := xXf hF 4 rfl
        have f5 : (0 : Int) ≤ (v2 2) ∧ xE E 14 (v2 2) = (v2 6) := xXf hF 5 rfl
        have f6 : (v2 5) = (v2 6) := xXf hF 6 rfl
        have e1_5 : xE E2 1 5 = xE E 1 5 := xFr_E hfr rfl
        have q1_5 : xE E 1 5 = xE E0 1 5 := xFr_E hFr0 rfl
        have e2_2 : xE E2 2 2 = xE E 2 2 := xFr_E hfr rfl
        have q2_2 : xE E 2 2 = xE E0 2 2 := xFr_E hFr0 rfl
        have e14 : ∀ i, xE E2 14 i = xE E 14 i := fun i => xFr_E hfr rfl
        have q14 : ∀ i, xE E 14 i = xE E0 14 i := fun i => xFr_E hFr0 rfl
        have e4 : ∀ i, xE E2 4 i = xE E 4 i := fun i => xFr_E hfr rfl
        have q4 : ∀ i, xE E 4 i = xE E0 4 i := fun i => xFr_E hFr0 rfl
        have y1_5 : ((2147483648 : Nat) : Int) ≤ xE E0 1 5 + 2147483648 ∧ xE E0 1 5 + 2147483648 ≤ ((2147483656 : Nat) : Int) := xTyF hT0 1 5 5 rfl rfl rfl rfl rfl rfl
        have y2_2 : ((2147483648 : Nat) : Int) ≤ xE E0 2 2 + 2147483648 ∧ xE E0 2 2 + 2147483648 ≤ ((2147483728 : Nat) : Int) := xTyF hT0 2 2 2 rfl rfl rfl rfl rfl rfl
        have hI : (0 ≤ (v 2) ∧ (v 2) ≤ xE E0 1 5) ∧ (v 1) = x0 0 ∧ ∀ S, xAb0 E0 S → pTak S (x0 0) (pF (S 0) (S 1) (x0 0)) ((v 2)).toNat = false := hInv
        show xΨhs0 x0 E0 E2 1
        obtain ⟨i1, i2, i3⟩ := hI
        have hP := hΦ.1
        have hP2 := hΦ.2
        rw [show (v 2) = v2 2 by omega] at i3
        have w2 : xE E0 14 (v2 2) = (v2 4) := by have := q14 (v2 2); omega
        have w5 : xE E0 14 (v2 2) = (v2 6) := by have := q14 (v2 2); omega
        have w4 : xE E0 4 (x0 0) = (v2 5) := by rw [show x0 0 = (v2 1) by omega]; have := q4 ((v2 1)); omega
        unfold xΨhs0
        refine ⟨by omega, fun S hS => ?_⟩
        have hst := (hS.2.2.2.1.2 (v2 2) (by omega) (by have := hS.2.2.2.1.1; omega)).1
        have hfc := hS.2.2.1 (x0 0) hP (by have := hS.2.1.2.2.1; omega)
        have hb := hS.2.2.2.1.1
        have ht : pTak S (x0 0) (pF (S 0) (S 1) (x0 0)) (v2 2 + 1).toNat = true := by
          rw [pTak_s (by omega), Bool.or_eq_true, Bool.or_eq_true, decide_eq_true_eq, decide_eq_true_eq]
          right
          omega
        rw [if_pos (pTak_m (by omega) ht)]
      · skip
        rcases List.mem_cons.mp hx with ex | hx
        · subst ex
          obtain ⟨hF, hBd, hM⟩ := hXs
          have g1 : v2 1 = v 1 := hag 1 (by decide)
          have g2 : v2 2 = v 2 := hag 2 (by decide)
          have b0 : ((2147483648 : Nat) : Int) ≤ (v2 1) + 2147483648 ∧ (v2 1) + 2147483648 ≤ ((2147483727 : Nat) : Int) := xXb hBd 0 rfl
          have b1 : ((2147483648 : Nat) : Int) ≤ (v2 2) + 2147483648 ∧ (v2 2) + 2147483648 ≤ ((2147483655 : Nat) : Int) := xXb hBd 1 rfl
          have b2 : ((2147483649 : Nat) : Int) ≤ (v2 3) + 2147483648 ∧ (v2 3) + 2147483648 ≤ ((2147483656 : Nat) : Int) := xXb hBd 2 rfl
          have b3 : ((2147483648 : Nat) : Int) ≤ (v2 4) + 2147483648 ∧ (v2 4) + 2147483648 ≤ ((2147483727 : Nat) : Int) := xXb hBd 3 rfl
          have f0 : (0 : Int) ≤ 5 ∧ xE E 1 5 = (v2 3) := xXf hF 0 rfl
          have f1 : (v2 2) < (v2 3) := xXf hF 1 rfl
          have f2 : (0 : Int) ≤ (v2 2) ∧ xE E 14 (v2 2) = (v2 4) := xXf hF 2 rfl
          have f3 : (v2 4) = (v2 1) := xXf hF 3 rfl
          have e1_5 : xE E2 1 5 = xE E 1 5 := xFr_E hfr rfl
          have q1_5 : xE E 1 5 = xE E0 1 5 := xFr_E hFr0 rfl
          have e2_2 : xE E2 2 2 = xE E 2 2 := xFr_E hfr rfl
          have q2_2 : xE E 2 2 = xE E0 2 2 := xFr_E hFr0 rfl
          have e14 : ∀ i, xE E2 14 i = xE E 14 i := fun i => xFr_E hfr rfl
          have q14 : ∀ i, xE E 14 i = xE E0 14 i := fun i => xFr_E hFr0 rfl
          have e4 : ∀ i, xE E2 4 i = xE E 4 i := fun i => xFr_E hfr rfl
          have q4 : ∀ i, xE E 4 i = xE E0 4 i := fun i => xFr_E hFr0 rfl
          have y1_5 : ((2147483648 : Nat) : Int) ≤ xE E0 1 5 + 2147483648 ∧ xE E0 1 5 + 2147483648 ≤ ((2147483656 : Nat) : Int) := xTyF hT0 1 5 5 rfl rfl rfl rfl rfl rfl
          have y2_2 : ((2147483648 : Nat) : Int) ≤ xE E0 2 2 + 2147483648 ∧ xE E0 2 2 + 2147483648 ≤ ((2147483728 : Nat) : Int) := xTyF hT0 2 2 2 rfl rfl rfl rfl rfl rfl
          have hI : (0 ≤ (v 2) ∧ (v 2) ≤ xE E0 1 5) ∧ (v 1) = x0 0 ∧ ∀ S, xAb0 E0 S → pTak S (x0 0) (pF (S 0) (S 1) (x0 0)) ((v 2)).toNat = false := hInv
          show xΨhs0 x0 E0 E2 1
          obtain ⟨i1, i2, i3⟩ := hI
          have hP := hΦ.1
          have hP2 := hΦ.2
          rw [show (v 2) = v2 2 by omega] at i3
          have w2 : xE E0 14 (v2 2) = (v2 4) := by have := q14 (v2 2); omega
          unfold xΨhs0
          refine ⟨by omega, fun S hS => ?_⟩
          have hst := (hS.2.2.2.1.2 (v2 2) (by omega) (by have := hS.2.2.2.1.1; omega)).1
          have hfc := hS.2.2.1 (x0 0) hP (by have := hS.2.1.2.2.1; omega)
          have hb := hS.2.2.2.1.1
          have ht : pTak S (x0 0) (pF (S 0) (S 1) (x0 0)) (v2 2 + 1).toNat = true := by
            rw [pTak_s (by omega), Bool.or_eq_true, Bool.or_eq_true, decide_eq_true_eq, decide_eq_true_eq]
            right
            omega
          rw [if_pos (pTak_m (by omega) ht)]
        · skip
          have ex := List.mem_singleton.mp hx
          subst ex
          obtain ⟨hF, hBd, hM⟩ := hXs
          have g1 : v2 1 = v 1 := hag 1 (by decide)
          have g2 : v2 2 = v 2 := hag 2 (by decide)
          have b0 : ((2147483648 : Nat) : Int) ≤ (v2 2) + 2147483648 ∧ (v2 2) + 2147483648 ≤ ((2147483656 : Nat) : Int) := xXb hBd 0 rfl
          have b1 : ((2147483648 : Nat) : Int) ≤ (v2 3) + 2147483648 ∧ (v2 3) + 2147483648 ≤ ((2147483656 : Nat) : Int) := xXb hBd 1 rfl
          have f0 : (0 : Int) ≤ 5 ∧ xE E 1 5 = (v2 3) := xXf hF 0 rfl
          have f1 : (v2 3) ≤ (v2 2) := xXf hF 1 rfl
          have e1_5 : xE E2 1 5 = xE E 1 5 := xFr_E hfr rfl
          have q1_5 : xE E 1 5 = xE E0 1 5 := xFr_E hFr0 rfl
          have e2_2 : xE E2 2 2 = xE E 2 2 := xFr_E hfr rfl
          have q2_2 : xE E 2 2 = xE E0 2 2 := xFr_E hFr0 rfl
          have e14 : ∀ i, xE E2 14 i = xE E 14 i := fun i => xFr_E hfr rfl
          have q14 : ∀ i, xE E 14 i = xE E0 14 i := fun i => xFr_E hFr0 rfl
          have e4 : ∀ i, xE E2 4 i = xE E 4 i := fun i => xFr_E hfr rfl
          have q4 : ∀ i, xE E 4 i = xE E0 4 i := fun i => xFr_E hFr0 rfl
          have y1_5 : ((2147483648 : Nat) : Int) ≤ xE E0 1 5 + 2147483648 ∧ xE E0 1 5 + 2147483648 ≤ ((2147483656 : Nat) : Int) := xTyF hT0 1 5 5 rfl rfl rfl rfl rfl rfl
          have y2_2 : ((2147483648 : Nat) : Int) ≤ xE E0 2 2 + 2147483648 ∧ xE E0 2 2 + 2147483648 ≤ ((2147483728 : Nat) : Int) := xTyF hT0 2 2 2 rfl rfl rfl rfl rfl rfl
          have hI : (0 ≤ (v 2) ∧ (v 2) ≤ xE E0 1 5) ∧ (v 1) = x0 0 ∧ ∀ S, xAb0 E0 S → pTak S (x0 0) (pF (S 0) (S 1) (x0 0)) ((v 2)).toNat = false := hInv
          show xΨhs0 x0 E0 E2 0
          obtain ⟨i1, i2, i3⟩ := hI
          have hP := hΦ.1
          have hP2 := hΦ.2
          rw [show (v 2) = v2 2 by omega] at i3
          unfold xΨhs0
          refine ⟨by omega, fun S hS => ?_⟩
          have hb := hS.2.2.2.1.1
          rw [show S 2 = v2 2 by omega, i3 S hS]
          rfl
noncomputable def zxfab0_ax0 : zyXp := (9, [11, 34359738369], [34359738369, 68719476737, 115], [(24, 68719476737, 1, 40)], [(34359738369, 2147483648, 2147483727), (68719476737, 2147483648, 2147483656)], [])
noncomputable def zpfab0_a : zyPh := (0, [11, 34359738369], [(0, 4294967295), (2147483648, 2147483727)], [], [])
noncomputable def zxfab0_bx0 : zyXp := (19, [11, 34359738369], [34359738360, 68719476737, 123], [(24, 68719476737, 1, 40)], [(34359738369, 2147483648, 2147483727), (68719476737, 2147483648, 2147483656)], [])
noncomputable def zpfab0_b : zyPh := (10, [11, 34359738369], [(0, 4294967295), (2147483648, 2147483727)], [], [])
noncomputable def zxfab0_cr0 : zyXp := (0, [], [], [], [(68719476737, 2147483648, 2147483655)], [(16389, 68719476745)])
noncomputable def zpfab0_c : zyPh := (20, [11, 34359738369], [(0, 4294967295), (2147483648, 2147483727), (2147483648, 2147483655)], [(16389, 68719476737)], [])
noncomputable def zpfab0 (i : Nat) : zyPh := zif (Nat.beq i 0) (zpfab0_a) (zif (Nat.beq i 1) (zpfab0_b) (zpfab0_c))
noncomputable def zXfab0 (i : Nat) : List zyXp := zif (Nat.beq i 0) ([zxfab0_ax0]) (zif (Nat.beq i 1) ([zxfab0_bx0]) ([]))
noncomputable def zRfab0 (i : Nat) : List zyXp := zif (Nat.beq i 0) ([]) (zif (Nat.beq i 1) ([]) ([zxfab0_cr0]))
noncomputable def zFfab0 (i : Nat) : zyR := zif (Nat.beq i 0) ([]) (zif (Nat.beq i 1) ([]) ([(1, 5, 5)]))
noncomputable def zSfab0 (i : Nat) : Nat := zif (Nat.beq i 0) (0) (zif (Nat.beq i 1) (0) (0))
def xΦab0 (x : Nat → Int) (E : zyEm) : Prop := xE E 1 5 ≤ 7 ∧ 0 ≤ x 0 ∧ x 0 ≤ 79
def xΨab0 (x : Nat → Int) (E E2 : zyEm) (_ : Int) : Prop := xE E2 1 5 = xE E 1 5 + 1 ∧ xE E2 14 (xE E 1 5) = x 0 ∧ (∀ k, 0 ≤ k → ¬ k = xE E 1 5 → xE E2 14 k = xE E 14 k) ∧ xE E2 15 (xE E 1 5) = -1 ∧ (∀ k, 0 ≤ k → ¬ k = xE E 1 5 → xE E2 15 k = xE E 15 k)
noncomputable def fpfab0 : zyR := [(1, 5, 5), (14, 0, 7), (15, 0, 7)]
theorem zyfab0_run : zyrS zymc zxi32 (32, 0, 0, 0, 0) 1 zpfab0 (fun _ _ => []) zFfab0 zSfab0 zXfab0 zRfab0 3 = true := by decide +kernel
theorem zyfab0_ck : zyAll (fun i => xsubR (zFfab0 i) fpfab0 && ((zXfab0 i).all xckX && (zRfab0 i).all (fun x => xckX x && xrtB false x))) 3 = true := by decide +kernel
def xIfab0 (i : Nat) (x0 : Nat → Int) (E0 : zyEm) (v : Nat → Int) (E : zyEm) : Prop := if i = 0 then (E = E0 ∧ (v 1) = x0 0) else if i = 1 then ((0 ≤ (v 1) ∧ (v 1) ≤ 79) ∧ xE E 1 5 = (xE E0 1 5) ∧ (xE E0 1 5) ≤ 7 ∧ xE E 14 (xE E0 1 5) = x0 0 ∧ (∀ k, 0 ≤ k → ¬ k = (xE E0 1 5) → xE E 14 k = xE E0 14 k) ∧ (∀ k, xE E 15 k = xE E0 15 k)) else (xE E 1 5 = (xE E0 1 5) ∧ (xE E0 1 5) ≤ 7 ∧ xE E 14 (xE E0 1 5) = x0 0 ∧ (∀ k, 0 ≤ k → ¬ k = (xE E0 1 5) → xE E 14 k = xE E0 14 k) ∧ xE E 15 (xE E0 1 5) = -1 ∧ (∀ k, 0 ≤ k → ¬ k = (xE E0 1 5) → xE E 15 k = xE E0 15 k))
def xMfab0 (i : Nat) (x0 : Nat → Int) (E0 : zyEm) (v : Nat → Int) (E : zyEm) : Nat := if i = 0 then (3) else if i = 1 then (2) else (1)
theorem xAbb0 {l : Launch} {en : zEn} {me : zMe} (hen : zG zxMeta 32 = some en) (hme : zG zMeth 32 = some me) : xFc l zymc en me 1 [1] 1 fpfab0 false xΦab0 xΨab0 := by
  have een : zG zxMeta 32 = some (zxi32, 2, 2, 3, 32, 0, 0, 0, 0) := rfl
  obtain ⟨me1, hme1, hOK⟩ := zall hen
  rw [hme] at hme1
  cases hme1
  rw [een] at hen
  cases hen
  have hr := zyfab0_run
  have hck := fun i hi => zyAll_iff zyfab0_ck i hi
  simp only [Bool.and_eq_true] at hck
  intro B
  refine xcut (mi := zymc) (B := B) hOK rfl rfl (ι := Fin 3) (fun i => zpfab0 i.val) (fun _ _ => []) (fun i => zFfab0 i.val) (fun i => zSfab0 i.val) (fun i => zXfab0 i.val) (fun i => zRfab0 i.val) (fun i y2 ct en2 me2 h => by cases h) 200000 (fun i => zyAll_iff hr i.val i.isLt) (fun i => (hck i.val i.isLt).1) (fun i => (hck i.val i.isLt).2.1) (fun i => (hck i.val i.isLt).2.2) ⟨0, by decide⟩ ⟨rfl, rfl, rfl, rfl⟩ ⟨by decide, by decide⟩ (fun i x0 E0 v E => xIfab0 i.val x0 E0 v E) (fun i x0 E0 v E => xMfab0 i.val x0 E0 v E) ?_ ?_ ?_
  · intro x0 E hx0 hT hΦ
    have hΦ : xΦab0 x0 E := hΦ
    refine ⟨fun k p hp => ?_, ?_⟩
    · have hk : k < 2 := (List.getElem?_eq_some_iff.mp hp).1
      have hk : k = 0 ∨ k = 1 := by omega
      rcases hk with rfl | rfl
      · have hp : some (0, 4294967295) = some p := hp
        cases hp
        show ((0 : Nat) : Int) ≤ 0 + 2147483648 ∧ 0 + 2147483648 ≤ ((4294967295 : Nat) : Int)
        omega
      · have hp : some (2147483648, 2147483727) = some p := hp
        cases hp
        show ((2147483648 : Nat) : Int) ≤ x0 0 + 2147483648 ∧ x0 0 + 2147483648 ≤ ((2147483727 : Nat) : Int)
        have hx := hx0 0
        have hP := hΦ.2
        omega
    · show E = E ∧ (x0 0) = x0 0
      exact ⟨rfl, rfl⟩
  · intro x0 s Wg hRu hrx hT0 hΦ i v H hT hrv hInv hKc hFr0 hIH x hx ρ2 v2 N2 H2 locs lsB stA hAt hB hv hr2 hXs hag hfr hFr hT2
    rcases i with ⟨i, hi⟩
    have hi2 : i = 0 ∨ i = 1 ∨ i = 2 := by omega
    rcases hi2 with rfl | rfl | rfl
    · have hx : x ∈ [zxfab0_ax0] := hx
      have hag : ∀ k, k < 2 → v2 k = v k := hag
      have hfr : xFr [] _ _ := hfr
      have ex := List.mem_singleton.mp hx
      subst ex
      obtain ⟨hF, hBd, hM⟩ := hXs
      have g1 : v2 1 = v 1 := hag 1 (by decide)
      have b0 : ((2147483648 : Nat) : Int) ≤ (v2 1) + 2147483648 ∧ (v2 1) + 2147483648 ≤ ((2147483727 : Nat) : Int) := xXb hBd 0 rfl
      have b1 : ((2147483648 : Nat) : Int) ≤ (v2 2) + 2147483648 ∧ (v2 2) + 2147483648 ≤ ((2147483656 : Nat) : Int) := xXb hBd 1 rfl
      have f0 : (0 : Int) ≤ 5 ∧ xE (zyEl zymc B H) 1 5 = (v2 2) := xXf hF 0 rfl
      have e1_5 : xE (zyEl zymc B H2) 1 5 = xE (zyEl zymc B H) 1 5 := xFr_E hfr rfl
      have e14 : ∀ i, xE (zyEl zymc B H2) 14 i = xE (zyEl zymc B H) 14 i := fun i => xFr_E hfr rfl
      have e15 : ∀ i, xE (zyEl zymc B H2) 15 i = xE (zyEl zymc B H) 15 i := fun i => xFr_E hfr rfl
      have y1_5 : ((2147483648 : Nat) : Int) ≤ xE (zyEl zymc B s.heap) 1 5 + 2147483648 ∧ xE (zyEl zymc B s.heap) 1 5 + 2147483648 ≤ ((2147483656 : Nat) : Int) := xTyF hT0 1 5 5 rfl rfl rfl rfl rfl rfl
      have hI : (zyEl zymc B H) = (zyEl zymc B s.heap) ∧ (v 1) = x0 0 := hInv
      have q1_5 : xE (zyEl zymc B H) 1 5 = xE (zyEl zymc B s.heap) 1 5 := by rw [hI.1]
      have q14 : ∀ i, xE (zyEl zymc B H) 14 i = xE (zyEl zymc B s.heap) 14 i := fun i => by rw [hI.1]
      have q15 : ∀ i, xE (zyEl zymc B H) 15 i = xE (zyEl zymc B s.heap) 15 i := fun i => by rw [hI.1]
      have hP := hΦ.1
      refine xSt hRu hIH hAt hB hv hFr 14 (ax := 0) 34359738369 68719476737 (v2 1) (v2 2) rfl (Or.inl ⟨rfl, rfl⟩) rfl (by decide +kernel) rfl rfl (by omega) (by show (v2 2) < ((8 : Nat) : Int); omega) (fun r hr q1 q2 => by rw [List.mem_singleton.mp hr]; exact ⟨rfl, by show ((2147483648 : Nat) : Int) ≤ (v2 1) + 2147483648; omega, by show (v2 1) + 2147483648 ≤ ((2147483727 : Nat) : Int); omega⟩) (zyin_iff.mpr ⟨(14, 0, 7), by decide, rfl, Nat.zero_le _, by show Int.toNat (v2 2) ≤ 7; omega⟩) (fun H3 hT3 hst3 hne3 hfn3 hFr3 => ?_)
      have hfe3 : ∀ (a2 : Nat) (k2 : Int), ¬ a2 = 14 → xE (zyEl zymc B H3) a2 k2 = xE (zyEl zymc B H2) a2 k2 := fun a2 k2 hne => by unfold xE; rw [hfn3 a2 k2.toNat (fun z => hne z.1)]
      have d1_5 : xE (zyEl zymc B H3) 1 5 = xE (zyEl zymc B H2) 1 5 := hfe3 1 5 (fun z => absurd z (by decide))
      refine ⟨⟨1, by decide⟩, [0, 34359738369], [0, (v2 1)], rfl, ⟨by decide +kernel, ⟨rfl, by decide +kernel⟩, (xcs_c rfl (xcs_c rfl xcs_n)), (xe_0 (xe_c (by omega) (by omega) rfl xe_n)), xkq_n⟩, rfl, ?_, ?_⟩
      · show (0 ≤ ((v2 1) : Int) ∧ ((v2 1) : Int) ≤ 79) ∧ xE (zyEl zymc B H3) 1 5 = (xE (zyEl zymc B s.heap) 1 5) ∧ (xE (zyEl zymc B s.heap) 1 5) ≤ 7 ∧ xE (zyEl zymc B H3) 14 (xE (zyEl zymc B s.heap) 1 5) = x0 0 ∧ (∀ k, 0 ≤ k → ¬ k = (xE (zyEl zymc B s.heap) 1 5) → xE (zyEl zymc B H3) 14 k = xE (zyEl zymc B s.heap) 14 k) ∧ (∀ k, xE (zyEl zymc B H3) 15 k = xE (zyEl zymc B s.heap) 15 k)
        rw [show (v2 2) = xE (zyEl zymc B s.heap) 1 5 by omega] at hst3 hne3
        exact ⟨by omega, by omega, by omega, hst3.trans (by omega), fun k k0 k1 => (hne3 14 k k0 (fun z => k1 z.2)).trans ((e14 k).trans (q14 k)), fun k => (hfe3 15 k (fun z => absurd z (by decide))).trans ((e15 k).trans (q15 k))⟩
      · show 2 < 3
        omega
    · have hx : x ∈ [zxfab0_bx0] := hx
      have hag : ∀ k, k < 2 → v2 k = v k := hag
      have hfr : xFr [] _ _ := hfr
      have ex := List.mem_singleton.mp hx
      subst ex
      obtain ⟨hF, hBd, hM⟩ := hXs
      have g1 : v2 1 = v 1 := hag 1 (by decide)
      have b0 : ((2147483648 : Nat) : Int) ≤ (v2 1) + 2147483648 ∧ (v2 1) + 2147483648 ≤ ((2147483727 : Nat) : Int) := xXb hBd 0 rfl
      have b1 : ((2147483648 : Nat) : Int) ≤ (v2 2) + 2147483648 ∧ (v2 2) + 2147483648 ≤ ((2147483656 : Nat) : Int) := xXb hBd 1 rfl
      have f0 : (0 : Int) ≤ 5 ∧ xE (zyEl zymc B H) 1 5 = (v2 2) := xXf hF 0 rfl
      have e1_5 : xE (zyEl zymc B H2) 1 5 = xE (zyEl zymc B H) 1 5 := xFr_E hfr rfl
      have e14 : ∀ i, xE (zyEl zymc B H2) 14 i = xE (zyEl zymc B H) 14 i := fun i => xFr_E hfr rfl
      have e15 : ∀ i, xE (zyEl zymc B H2) 15 i = xE (zyEl zymc B H) 15 i := fun i => xFr_E hfr rfl
      have y1_5 : ((2147483648 : Nat) : Int) ≤ xE (zyEl zymc B s.heap) 1 5 + 2147483648 ∧ xE (zyEl zymc B s.heap) 1 5 + 2147483648 ≤ ((2147483656 : Nat) : Int) := xTyF hT0 1 5 5 rfl rfl rfl rfl rfl rfl
      have hI : (0 ≤ (v 1) ∧ (v 1) ≤ 79) ∧ xE (zyEl zymc B H) 1 5 = (xE (zyEl zymc B s.heap) 1 5) ∧ (xE (zyEl zymc B s.heap) 1 5) ≤ 7 ∧ xE (zyEl zymc B H) 14 (xE (zyEl zymc B s.heap) 1 5) = x0 0 ∧ (∀ k, 0 ≤ k → ¬ k = (xE (zyEl zymc B s.heap) 1 5) → xE (zyEl zymc B H) 14 k = xE (zyEl zymc B s.heap) 14 k) ∧ (∀ k, xE (zyEl zymc B H) 15 k = xE (zyEl zymc B s.heap) 15 k) := hInv
      obtain ⟨i1, i2, i3, i4, i5, i6⟩ := hI
      refine xSt hRu hIH hAt hB hv hFr 15 (ax := 0) 34359738360 68719476737 (-1) (v2 2) rfl (Or.inl ⟨rfl, rfl⟩) rfl (by decide +kernel) rfl rfl (by omega) (by show (v2 2) < ((8 : Nat) : Int); omega) (fun r hr q1 q2 => by rw [List.mem_singleton.mp hr]; exact ⟨rfl, by show ((2147483647 : Nat) : Int) ≤ (-1) + 2147483648; omega, by show (-1) + 2147483648 ≤ ((2147483727 : Nat) : Int); omega⟩) (zyin_iff.mpr ⟨(15, 0, 7), by decide, rfl, Nat.zero_le _, by show Int.toNat (v2 2) ≤ 7; omega⟩) (fun H3 hT3 hst3 hne3 hfn3 hFr3 => ?_)
      have hfe3 : ∀ (a2 : Nat) (k2 : Int), ¬ a2 = 15 → xE (zyEl zymc B H3) a2 k2 = xE (zyEl zymc B H2) a2 k2 := fun a2 k2 hne => by unfold xE; rw [hfn3 a2 k2.toNat (fun z => hne z.1)]
      have d1_5 : xE (zyEl zymc B H3) 1 5 = xE (zyEl zymc B H2) 1 5 := hfe3 1 5 (fun z => absurd z (by decide))
      have z1_5 : ((2147483648 : Nat) : Int) ≤ xE (zyEl zymc B H3) 1 5 + 2147483648 ∧ xE (zyEl zymc B H3) 1 5 + 2147483648 ≤ ((2147483656 : Nat) : Int) := xTyF hT3 1 5 5 rfl rfl rfl rfl rfl rfl
      refine ⟨⟨2, by decide⟩, [0, 34359738369], [0, (v2 1), xE (zyEl zymc B H3) 1 5], rfl, ⟨by decide +kernel, ⟨rfl, by decide +kernel⟩, (xcs_c rfl (xcs_c rfl xcs_n)), (xe_0 (xe_c (by omega) (by omega) rfl (xe_c (by omega) (by omega) rfl xe_n))), (xkq_c hT3 1 5 (q := 5) rfl rfl rfl rfl rfl rfl rfl rfl rfl rfl rfl xkq_n)⟩, rfl, ?_, ?_⟩
      · show xE (zyEl zymc B H3) 1 5 = (xE (zyEl zymc B s.heap) 1 5) ∧ (xE (zyEl zymc B s.heap) 1 5) ≤ 7 ∧ xE (zyEl zymc B H3) 14 (xE (zyEl zymc B s.heap) 1 5) = x0 0 ∧ (∀ k, 0 ≤ k → ¬ k = (xE (zyEl zymc B s.heap) 1 5) → xE (zyEl zymc B H3) 14 k = xE (zyEl zymc B s.heap) 14 k) ∧ xE (zyEl zymc B H3) 15 (xE (zyEl zymc B s.heap) 1 5) = -1 ∧ (∀ k, 0 ≤ k → ¬ k = (xE (zyEl zymc B s.heap) 1 5) → xE (zyEl zymc B H3) 15 k = xE (zyEl zymc B s.heap) 15 k)
        rw [show (v2 2) = xE (zyEl zymc B s.heap) 1 5 by omega] at hst3 hne3
        exact ⟨by omega, by omega, (hfe3 14 _ (fun z => absurd z (by decide))).trans ((e14 _).trans i4), fun k k0 k1 => (hfe3 14 k (fun z => absurd z (by decide))).trans ((e14 k).trans (i5 k k0 k1)), hst3, fun k k0 k1 => (hne3 15 k k0 (fun z => k1 z.2)).trans ((e15 k).trans (i6 k))⟩
      · show 1 < 2
        omega
    · cases hx
  · intro x0 E0 E E2 hrx hT0 hΦ i v hT hrv hInv hKc hFr0 x hx v2 hr2 hXs hag hfr hFr hT2
    rcases i with ⟨i, hi⟩
    have hi2 : i = 0 ∨ i = 1 ∨ i = 2 := by omega
    rcases hi2 with rfl | rfl | rfl
    · cases hx
    · cases hx
    · have hx : x ∈ [zxfab0_cr0] := hx
      have hag : ∀ k, k < 3 → v2 k = v k := hag
      have hfr : xFr [(1, 5, 5)] _ _ := hfr
      have ex := List.mem_singleton.mp hx
      subst ex
      obtain ⟨hF, hBd, hM⟩ := hXs
      have g1 : v2 1 = v 1 := hag 1 (by decide)
      have g2 : v2 2 = v 2 := hag 2 (by decide)
      have b0 : ((2147483648 : Nat) : Int) ≤ (v2 2) + 2147483648 ∧ (v2 2) + 2147483648 ≤ ((2147483655 : Nat) : Int) := xXb hBd 0 rfl
      have k0 : xE E 1 5 = v 2 := xKcf hKc 0 rfl rfl
      have m0 : xE E2 1 5 = (v2 2 + 1) := xXm hM 0 rfl
      have e14 : ∀ i, xE E2 14 i = xE E 14 i := fun i => xFr_E hfr rfl
      have e15 : ∀ i, xE E2 15 i = xE E 15 i := fun i => xFr_E hfr rfl
      have y1_5 : ((2147483648 : Nat) : Int) ≤ xE E0 1 5 + 2147483648 ∧ xE E0 1 5 + 2147483648 ≤ ((2147483656 : Nat) : Int) := xTyF hT0 1 5 5 rfl rfl rfl rfl rfl rfl
      have hI : xE E 1 5 = (xE E0 1 5) ∧ (xE E0 1 5) ≤ 7 ∧ xE E 14 (xE E0 1 5) = x0 0 ∧ (∀ k, 0 ≤ k → ¬ k = (xE E0 1 5) → xE E 14 k = xE E0 14 k) ∧ xE E 15 (xE E0 1 5) = -1 ∧ (∀ k, 0 ≤ k → ¬ k = (xE E0 1 5) → xE E 15 k = xE E0 15 k) := hInv
      show xΨab0 x0 E0 E2 0
      obtain ⟨i1, i2, i3, i4, i5, i6⟩ := hI
      unfold xΨab0
      exact ⟨by omega, (e14 _).trans i3, fun k k0 k1 => (e14 k).trans (i4 k k0 k1), (e15 _).trans i5, fun k k0 k1 => (e15 k).trans (i6 k k0 k1)⟩
noncomputable def zxfwa0_zx0 : zyXp := (0, [131, 34359738369], [], [], [(34359738369, 2147483641, 2147483655)], [])
noncomputable def zpfwa0_z : zyPh := (0, [131, 34359738369], [(0, 4294967295), (2147483641, 2147483655)], [], [])
noncomputable def zxfwa0_ax0 : zyXp := (21, [131, 34359738369], [34359738369, 68719476737, 139], [(20, 0, 68719476737, 480)], [(34359738369, 2147483641, 2147483655), (68719476737, 2147483648, 2147483707)], [(262145, 68719476737)])
noncomputable def zxfwa0_ar0 : zyXp := (0, [], [], [(21, 0, 68719476737, 480)], [(68719476737, 2147483708, 2147483708)], [(262145, 488)])
noncomputable def zpfwa0_a : zyPh := (0, [131, 34359738369], [(0, 4294967295), (2147483641, 2147483655), (2147483648, 2147483708)], [(262145, 68719476737)], [])
noncomputable def zxfwa0_br0 : zyXp := (0, [], [], [], [(68719476737, 2147483648, 2147483707)], [(262145, 68719476745)])
noncomputable def zpfwa0_b : zyPh := (22, [131, 34359738369], [(0, 4294967295), (2147483641, 2147483655), (2147483648, 2147483707)], [(262145, 68719476737)], [])
noncomputable def zpfwa0 (i : Nat) : zyPh := zif (Nat.beq i 0) (zpfwa0_z) (zif (Nat.beq i 1) (zpfwa0_a) (zpfwa0_b))
noncomputable def zXfwa0 (i : Nat) : List zyXp := zif (Nat.beq i 0) ([zxfwa0_zx0]) (zif (Nat.beq i 1) ([zxfwa0_ax0]) ([]))
noncomputable def zRfwa0 (i : Nat) : List zyXp := zif (Nat.beq i 0) ([]) (zif (Nat.beq i 1) ([zxfwa0_ar0]) ([zxfwa0_br0]))
noncomputable def zFfwa0 (i : Nat) : zyR := zif (Nat.beq i 0) ([]) (zif (Nat.beq i 1) ([(16, 1, 1)]) ([(16, 1, 1)]))
noncomputable def zSfwa0 (i : Nat) : Nat := zif (Nat.beq i 0) (0) (zif (Nat.beq i 1) (0) (0))
def xΦwa0 (x : Nat → Int) (E : zyEm) : Prop := xE E 16 1 ≤ 60 ∧ -7 ≤ x 0 ∧ x 0 ≤ 7
def xΨwa0 (x : Nat → Int) (E E2 : zyEm) (_ : Int) : Prop := xE E2 16 1 = xE E 16 1 + 1 ∧ (xE E 16 1 < 60 → xE E2 17 (xE E 16 1) = x 0) ∧ (∀ k, 0 ≤ k → ¬ k = xE E 16 1 → xE E2 17 k = xE E 17 k)
noncomputable def fpfwa0 : zyR := [(16, 1, 1), (17, 0, 59)]
theorem zyfwa0_run : zyrS zymc zxi107 (107, 0, 0, 0, 0) 1 zpfwa0 (fun _ _ => []) zFfwa0 zSfwa0 zXfwa0 zRfwa0 3 = true := by decide +kernel
theorem zyfwa0_ck : zyAll (fun i => xsubR (zFfwa0 i) fpfwa0 && ((zXfwa0 i).all xckX && (zRfwa0 i).all (fun x => xckX x && xrtB false x))) 3 = true := by decide +kernel
def xIfwa0 (i : Nat) (x0 : Nat → Int) (E0 : zyEm) (v : Nat → Int) (E : zyEm) : Prop := if i = 0 then (E = E0 ∧ (v 1) = x0 0) else if i = 1 then ((v 1) = x0 0 ∧ xE E 16 1 = (xE E0 16 1) ∧ (xE E0 16 1) ≤ 60 ∧ (∀ k, xE E 17 k = xE E0 17 k)) else (xE E 16 1 = (xE E0 16 1) ∧ (xE E0 16 1) < 60 ∧ xE E 17 (xE E0 16 1) = x0 0 ∧ (∀ k, 0 ≤ k → ¬ k = (xE E0 16 1) → xE E 17 k = xE E0 17 k))
def xMfwa0 (i : Nat) (x0 : Nat → Int) (E0 : zyEm) (v : Nat → Int) (E : zyEm) : Nat := if i = 0 then (3) else if i = 1 then (2) else (1)
theorem xWa0 {l : Launch} {en : zEn} {me : zMe} (hen : zG zxMeta 107 = some en) (hme : zG zMeth 107 = some me) : xFc l zymc en me 1 [16] 1 fpfwa0 false xΦwa0 xΨwa0 := by
  have een : zG zxMeta 107 = some (zxi107, 2, 2, 9, 107, 0, 0, 0, 0) := rfl
  obtain ⟨me1, hme1, hOK⟩ := zall hen
  rw [hme] at hme1
  cases hme1
  rw [een] at hen
  cases hen
  have hr := zyfwa0_run
  have hck := fun i hi => zyAll_iff zyfwa0_ck i hi
  simp only [Bool.and_eq_true] at hck
  intro B
  refine xcut (mi := zymc) (B := B) hOK rfl rfl (ι := Fin 3) (fun i => zpfwa0 i.val) (fun _ _ => []) (fun i => zFfwa0 i.val) (fun i => zSfwa0 i.val) (fun i => zXfwa0 i.val) (fun i => zRfwa0 i.val) (fun i y2 ct en2 me2 h => by cases h) 200000 (fun i => zyAll_iff hr i.val i.isLt) (fun i => (hck i.val i.isLt).1) (fun i => (hck i.val i.isLt).2.1) (fun i => (hck i.val i.isLt).2.2) ⟨0, by decide⟩ ⟨rfl, rfl, rfl, rfl⟩ ⟨by decide, by decide⟩ (fun i x0 E0 v E => xIfwa0 i.val x0 E0 v E) (fun i x0 E0 v E => xMfwa0 i.val x0 E0 v E) ?_ ?_ ?_
  · intro x0 E hx0 hT hΦ
    have hΦ : xΦwa0 x0 E := hΦ
    refine ⟨fun k p hp => ?_, ?_⟩
    · have hk : k < 2 := (List.getElem?_eq_some_iff.mp hp).1
      have hk : k = 0 ∨ k = 1 := by omega
      rcases hk with rfl | rfl
      · have hp : some (0, 4294967295) = some p := hp
        cases hp
        show ((0 : Nat) : Int) ≤ 0 + 2147483648 ∧ 0 + 2147483648 ≤ ((4294967295 : Nat) : Int)
        omega
      · have hp : some (2147483641, 2147483655) = some p := hp
        cases hp
        show ((2147483641 : Nat) : Int) ≤ x0 0 + 2147483648 ∧ x0 0 + 2147483648 ≤ ((2147483655 : Nat) : Int)
        have hx := hx0 0
        have hP := hΦ.2
        omega
    · show E = E ∧ (x0 0) = x0 0
      exact ⟨rfl, rfl⟩
  · intro x0 s Wg hRu hrx hT0 hΦ i v H hT hrv hInv hKc hFr0 hIH x hx ρ2 v2 N2 H2 locs lsB stA hAt hB hv hr2 hXs hag hfr hFr hT2
    rcases i with ⟨i, hi⟩
    have hi2 : i = 0 ∨ i = 1 ∨ i = 2 := by omega
    rcases hi2 with rfl | rfl | rfl
    · have hx : x ∈ [zxfwa0_zx0] := hx
      have hag : ∀ k, k < 2 → v2 k = v k := hag
      have hfr : xFr [] _ _ := hfr
      have ex := List.mem_singleton.mp hx
      subst ex
      obtain ⟨hF, hBd, hM⟩ := hXs
      have g1 : v2 1 = v 1 := hag 1 (by decide)
      have b0 : ((2147483641 : Nat) : Int) ≤ (v2 1) + 2147483648 ∧ (v2 1) + 2147483648 ≤ ((2147483655 : Nat) : Int) := xXb hBd 0 rfl
      have e16_1 : xE (zyEl zymc B H2) 16 1 = xE (zyEl zymc B H) 16 1 := xFr_E hfr rfl
      have e17 : ∀ i, xE (zyEl zymc B H2) 17 i = xE (zyEl zymc B H) 17 i := fun i => xFr_E hfr rfl
      have y16_1 : ((2147483648 : Nat) : Int) ≤ xE (zyEl zymc B s.heap) 16 1 + 2147483648 ∧ xE (zyEl zymc B s.heap) 16 1 + 2147483648 ≤ ((2147483709 : Nat) : Int) := xTyF hT0 16 1 1 rfl rfl rfl rfl rfl rfl
      have hI : (zyEl zymc B H) = (zyEl zymc B s.heap) ∧ (v 1) = x0 0 := hInv
      have q16_1 : xE (zyEl zymc B H) 16 1 = xE (zyEl zymc B s.heap) 16 1 := by rw [hI.1]
      have q17 : ∀ i, xE (zyEl zymc B H) 17 i = xE (zyEl zymc B s.heap) 17 i := fun i => by rw [hI.1]
      have hP := hΦ.1
      have z16_1 : ((2147483648 : Nat) : Int) ≤ xE (zyEl zymc B H2) 16 1 + 2147483648 ∧ xE (zyEl zymc B H2) 16 1 + 2147483648 ≤ ((2147483709 : Nat) : Int) := xTyF hT2 16 1 1 rfl rfl rfl rfl rfl rfl
      refine xGo hIH hAt hB hv hFr ⟨1, by decide⟩ [0, 34359738369] [0, (v2 1), xE (zyEl zymc B H2) 16 1] rfl ⟨by decide +kernel, ⟨rfl, by decide +kernel⟩, (xcs_c rfl (xcs_c rfl xcs_n)), (xe_0 (xe_c (by omega) (by omega) rfl (xe_c (by omega) (by omega) rfl xe_n))), (xkq_c hT2 16 1 (q := 1) rfl rfl rfl rfl rfl rfl rfl rfl rfl rfl rfl xkq_n)⟩ xst_n ?_ ?_
      · show ((v2 1) : Int) = x0 0 ∧ xE (zyEl zymc B H2) 16 1 = (xE (zyEl zymc B s.heap) 16 1) ∧ (xE (zyEl zymc B s.heap) 16 1) ≤ 60 ∧ (∀ k, xE (zyEl zymc B H2) 17 k = xE (zyEl zymc B s.heap) 17 k)
        exact ⟨by omega, by omega, by omega, fun k => (e17 k).trans (q17 k)⟩
      · show 2 < 3
        omega
    · have hx : x ∈ [zxfwa0_ax0] := hx
      have hag : ∀ k, k < 3 → v2 k = v k := hag
      have hfr : xFr [(16, 1, 1)] _ _ := hfr
      have ex := List.mem_singleton.mp hx
      subst ex
      obtain ⟨hF, hBd, hM⟩ := hXs
      have g1 : v2 1 = v 1 := hag 1 (by decide)
      have g2 : v2 2 = v 2 := hag 2 (by decide)
      have b0 : ((2147483641 : Nat) : Int) ≤ (v2 1) + 2147483648 ∧ (v2 1) + 2147483648 ≤ ((2147483655 : Nat) : Int) := xXb hBd 0 rfl
      have b1 : ((2147483648 : Nat) : Int) ≤ (v2 2) + 2147483648 ∧ (v2 2) + 2147483648 ≤ ((2147483707 : Nat) : Int) := xXb hBd 1 rfl
      have k0 : xE (zyEl zymc B H) 16 1 = v 2 := xKcf hKc 0 rfl rfl
      have f0 : (v2 2) < 60 := xXf hF 0 rfl
      have m0 : xE (zyEl zymc B H2) 16 1 = (v2 2) := xXm hM 0 rfl
      have e17 : ∀ i, xE (zyEl zymc B H2) 17 i = xE (zyEl zymc B H) 17 i := fun i => xFr_E hfr rfl
      have y16_1 : ((2147483648 : Nat) : Int) ≤ xE (zyEl zymc B s.heap) 16 1 + 2147483648 ∧ xE (zyEl zymc B s.heap) 16 1 + 2147483648 ≤ ((2147483709 : Nat) : Int) := xTyF hT0 16 1 1 rfl rfl rfl rfl rfl rfl
      have hI : (v 1) = x0 0 ∧ xE (zyEl zymc B H) 16 1 = (xE (zyEl zymc B s.heap) 16 1) ∧ (xE (zyEl zymc B s.heap) 16 1) ≤ 60 ∧ (∀ k, xE (zyEl zymc B H) 17 k = xE (zyEl zymc B s.heap) 17 k) := hInv
      obtain ⟨i1, i2, i3, i4⟩ := hI
      refine xSt hRu hIH hAt hB hv hFr 17 (ax := 0) 34359738369 68719476737 (v2 1) (v2 2) rfl (Or.inl ⟨rfl, rfl⟩) rfl (by decide +kernel) rfl rfl (by omega) (by show (v2 2) < ((60 : Nat) : Int); omega) (fun r hr q1 q2 => by rw [List.mem_singleton.mp hr]; exact ⟨rfl, by show ((2147483641 : Nat) : Int) ≤ (v2 1) + 2147483648; omega, by show (v2 1) + 2147483648 ≤ ((2147483655 : Nat) : Int); omega⟩) (zyin_iff.mpr ⟨(17, 0, 59), by decide, rfl, Nat.zero_le _, by show Int.toNat (v2 2) ≤ 59; omega⟩) (fun H3 hT3 hst3 hne3 hfn3 hFr3 => ?_)
      have hfe3 : ∀ (a2 : Nat) (k2 : Int), ¬ a2 = 17 → xE (zyEl zymc B H3) a2 k2 = xE (zyEl zymc B H2) a2 k2 := fun a2 k2 hne => by unfold xE; rw [hfn3 a2 k2.toNat (fun z => hne z.1)]
      have d16_1 : xE (zyEl zymc B H3) 16 1 = xE (zyEl zymc B H2) 16 1 := hfe3 16 1 (fun z => absurd z (by decide))
      have z16_1 : ((2147483648 : Nat) : Int) ≤ xE (zyEl zymc B H3) 16 1 + 2147483648 ∧ xE (zyEl zymc B H3) 16 1 + 2147483648 ≤ ((2147483709 : Nat) : Int) := xTyF hT3 16 1 1 rfl rfl rfl rfl rfl rfl
      refine ⟨⟨2, by decide⟩, [0, 34359738369], [0, (v2 1), xE (zyEl zymc B H3) 16 1], rfl, ⟨by decide +kernel, ⟨rfl, by decide +kernel⟩, (xcs_c rfl (xcs_c rfl xcs_n)), (xe_0 (xe_c (by omega) (by omega) rfl (xe_c (by omega) (by omega) rfl xe_n))), (xkq_c hT3 16 1 (q := 1) rfl rfl rfl rfl rfl rfl rfl rfl rfl rfl rfl xkq_n)⟩, rfl, ?_, ?_⟩
      · show xE (zyEl zymc B H3) 16 1 = (xE (zyEl zymc B s.heap) 16 1) ∧ (xE (zyEl zymc B s.heap) 16 1) < 60 ∧ xE (zyEl zymc B H3) 17 (xE (zyEl zymc B s.heap) 16 1) = x0 0 ∧ (∀ k, 0 ≤ k → ¬ k = (xE (zyEl zymc B s.heap) 16 1) → xE (zyEl zymc B H3) 17 k = xE (zyEl zymc B s.heap) 17 k)
        rw [show (v2 2) = xE (zyEl zymc B s.heap) 16 1 by omega] at hst3 hne3
        exact ⟨by omega, by omega, hst3.trans (by omega), fun k k0 k1 => (hne3 17 k k0 (fun z => k1 z.2)).trans ((e17 k).trans (i4 k))⟩
      · show 1 < 2
        omega
    · cases hx
  · intro x0 E0 E E2 hrx hT0 hΦ i v hT hrv hInv hKc hFr0 x hx v2 hr2 hXs hag hfr hFr hT2
    rcases i with ⟨i, hi⟩
    have hi2 : i = 0 ∨ i = 1 ∨ i = 2 := by omega
    rcases hi2 with rfl | rfl | rfl
    · cases hx
    · have hx : x ∈ [zxfwa0_ar0] := hx
      have hag : ∀ k, k < 3 → v2 k = v k := hag
      have hfr : xFr [(16, 1, 1)] _ _ := hfr
      have ex := List.mem_singleton.mp hx
      subst ex
      obtain ⟨hF, hBd, hM⟩ := hXs
      have g1 : v2 1 = v 1 := hag 1 (by decide)
      have g2 : v2 2 = v 2 := hag 2 (by decide)
      have b0 : ((2147483708 : Nat) : Int) ≤ (v2 2) + 2147483648 ∧ (v2 2) + 2147483648 ≤ ((2147483708 : Nat) : Int) := xXb hBd 0 rfl
      have k0 : xE E 16 1 = v 2 := xKcf hKc 0 rfl rfl
      have f0 : 60 ≤ (v2 2) := xXf hF 0 rfl
      have m0 : xE E2 16 1 = 61 := xXm hM 0 rfl
      have e17 : ∀ i, xE E2 17 i = xE E 17 i := fun i => xFr_E hfr rfl
      have y16_1 : ((2147483648 : Nat) : Int) ≤ xE E0 16 1 + 2147483648 ∧ xE E0 16 1 + 2147483648 ≤ ((2147483709 : Nat) : Int) := xTyF hT0 16 1 1 rfl rfl rfl rfl rfl rfl
      have hI : (v 1) = x0 0 ∧ xE E 16 1 = (xE E0 16 1) ∧ (xE E0 16 1) ≤ 60 ∧ (∀ k, xE E 17 k = xE E0 17 k) := hInv
      show xΨwa0 x0 E0 E2 0
      obtain ⟨i1, i2, i3, i4⟩ := hI
      unfold xΨwa0
      exact ⟨by omega, fun h => by omega, fun k k0 k1 => (e17 k).trans (i4 k)⟩
    · have hx : x ∈ [zxfwa0_br0] := hx
      have hag : ∀ k, k < 3 → v2 k = v k := hag
      have hfr : xFr [(16, 1, 1)] _ _ := hfr
      have ex := List.mem_singleton.mp hx
      subst ex
      obtain ⟨hF, hBd, hM⟩ := hXs
      have g1 : v2 1 = v 1 := hag 1 (by decide)
      have g2 : v2 2 = v 2 := hag 2 (by decide)
      have b0 : ((2147483648 : Nat) : Int) ≤ (v2 2) + 2147483648 ∧ (v2 2) + 2147483648 ≤ ((2147483707 : Nat) : Int) := xXb hBd 0 rfl
      have k0 : xE E 16 1 = v 2 := xKcf hKc 0 rfl rfl
      have m0 : xE E2 16 1 = (v2 2 + 1) := xXm hM 0 rfl
      have e17 : ∀ i, xE E2 17 i = xE E 17 i := fun i => xFr_E hfr rfl
      have y16_1 : ((2147483648 : Nat) : Int) ≤ xE E0 16 1 + 2147483648 ∧ xE E0 16 1 + 2147483648 ≤ ((2147483709 : Nat) : Int) := xTyF hT0 16 1 1 rfl rfl rfl rfl rfl rfl
      have hI : xE E 16 1 = (xE E0 16 1) ∧ (xE E0 16 1) < 60 ∧ xE E 17 (xE E0 16 1) = x0 0 ∧ (∀ k, 0 ≤ k → ¬ k = (xE E0 16 1) → xE E 17 k = xE E0 17 k) := hInv
      show xΨwa0 x0 E0 E2 0
      obtain ⟨i1, i2, i3, i4⟩ := hI
      unfold xΨwa0
      exact ⟨by omega, fun h => (e17 _).trans i3, fun k k0 k1 => (e17 k).trans (i4 k k0 k1)⟩
