/-! THE CLASS reads: countFree, hasStartAt, addBobbin, add (printed by m6.py) -/
noncomputable def zxfcf17_ax0 : zyXp := (4, [147, 0, 0], [], [], [], [])
noncomputable def zpfcf17_a : zyPh := (0, [147, 13, 13], [(0, 4294967295), (0, 4294967295), (0, 4294967295)], [], [])
noncomputable def zxfcf17_bx0 : zyXp := (4, [147, 34359738377, 68719476745], [], [(24, 103079215105, 19, 24), (20, 0, 68719476737, 103079215105), (24, 137438953473, 30, 68719476737), (23, 0, 137438953473, 0)], [(34359738369, 2147483648, 2147483679), (68719476737, 2147483648, 2147483678), (103079215105, 2147483649, 2147483679), (137438953473, 2147483649, 2147483649), (34359738377, 2147483649, 2147483680), (68719476745, 2147483649, 2147483679)], [])
noncomputable def zxfcf17_bx1 : zyXp := (4, [147, 34359738369, 68719476745], [], [(24, 103079215105, 19, 24), (20, 0, 68719476737, 103079215105), (24, 137438953473, 30, 68719476737), (22, 0, 137438953473, 0)], [(34359738369, 2147483648, 2147483679), (68719476737, 2147483648, 2147483678), (103079215105, 2147483649, 2147483679), (137438953473, 2147483648, 2147483648), (68719476745, 2147483649, 2147483679)], [])
noncomputable def zxfcf17_br0 : zyXp := (0, [], [34359738369], [(24, 103079215105, 19, 24), (21, 0, 68719476737, 103079215105)], [(34359738369, 2147483648, 2147483679), (68719476737, 2147483648, 2147483679), (103079215105, 2147483648, 2147483679)], [])
noncomputable def zpfcf17_b : zyPh := (4, [147, 34359738369, 68719476737], [(0, 4294967295), (2147483648, 2147483679), (2147483648, 2147483679)], [], [])
noncomputable def zpfcf17 (i : Nat) : zyPh := zif (Nat.beq i 0) (zpfcf17_a) (zpfcf17_b)
noncomputable def zXfcf17 (i : Nat) : List zyXp := zif (Nat.beq i 0) ([zxfcf17_ax0]) ([zxfcf17_bx0, zxfcf17_bx1])
noncomputable def zRfcf17 (i : Nat) : List zyXp := zif (Nat.beq i 0) ([]) ([zxfcf17_br0])
noncomputable def zFfcf17 (i : Nat) : zyR := zif (Nat.beq i 0) ([]) ([])
noncomputable def zSfcf17 (i : Nat) : Nat := zif (Nat.beq i 0) (0) (0)
def xΦcf17 (_ : Nat → Int) (_ : zyEm) : Prop := True
def xΨcf17 (_ : Nat → Int) (E _ : zyEm) (r : Int) : Prop := (0 ≤ r ∧ r ≤ 31) ∧ ∀ S, xAb17 E S → r = pCnt S 104 (gN (S 0) (S 1)).toNat
noncomputable def fpfcf17 : zyR := []
theorem zyfcf17_run : zyrS zymc zxi35 (35, 0, 0, 1, 0) 1 zpfcf17 (fun _ _ => []) zFfcf17 zSfcf17 zXfcf17 zRfcf17 2 = true := by decide +kernel
theorem zyfcf17_ck : zyAll (fun i => xsubR (zFfcf17 i) fpfcf17 && ((zXfcf17 i).all xckX && (zRfcf17 i).all (fun x => xckX x && xrtB true x))) 2 = true := by decide +kernel
def xIfcf17 (i : Nat) (x0 : Nat → Int) (E0 : zyEm) (v : Nat → Int) (E : zyEm) : Prop := if i = 0 then (E = E0) else ((0 ≤ (v 2) ∧ (v 2) ≤ xE E0 19 3) ∧ (0 ≤ (v 1) ∧ (v 1) ≤ (v 2)) ∧ ∀ S, xAb17 E0 S → (v 1) = pCnt S 104 ((v 2)).toNat)
def xMfcf17 (i : Nat) (x0 : Nat → Int) (E0 : zyEm) (v : Nat → Int) (E : zyEm) : Nat := if i = 0 then (100) else ((99 - (v 2)).toNat)
theorem xCf17 {l : Launch} {en : zEn} {me : zMe} (hen : zG zxMeta 35 = some en) (hme : zG zMeth 35 = some me) : xFc l zymc en me 1 [18] 0 fpfcf17 true xΦcf17 xΨcf17 := by
  have een : zG zxMeta 35 = some (zxi35, 1, 3, 3, 35, 0, 0, 1, 0) := rfl
  obtain ⟨me1, hme1, hOK⟩ := zall hen
  rw [hme] at hme1
  cases hme1
  rw [een] at hen
  cases hen
  have hr := zyfcf17_run
  have hck := fun i hi => zyAll_iff zyfcf17_ck i hi
  simp only [Bool.and_eq_true] at hck
  intro B
  refine xcut (mi := zymc) (B := B) hOK rfl rfl (ι := Fin 2) (fun i => zpfcf17 i.val) (fun _ _ => []) (fun i => zFfcf17 i.val) (fun i => zSfcf17 i.val) (fun i => zXfcf17 i.val) (fun i => zRfcf17 i.val) (fun i y2 ct en2 me2 h => by cases h) 200000 (fun i => zyAll_iff hr i.val i.isLt) (fun i => (hck i.val i.isLt).1) (fun i => (hck i.val i.isLt).2.1) (fun i => (hck i.val i.isLt).2.2) ⟨0, by decide⟩ ⟨rfl, rfl, rfl, rfl⟩ ⟨by decide, by decide⟩ (fun i x0 E0 v E => xIfcf17 i.val x0 E0 v E) (fun i x0 E0 v E => xMfcf17 i.val x0 E0 v E) ?_ ?_ ?_
  · intro x0 E hx0 hT hΦ
    have hΦ : xΦcf17 x0 E := hΦ
    refine ⟨fun k p hp => ?_, ?_⟩
    · have hk : k < 3 := (List.getElem?_eq_some_iff.mp hp).1
      have hk : k = 0 ∨ k = 1 ∨ k = 2 := by omega
      rcases hk with rfl | rfl | rfl
      · have hp : some (0, 4294967295) = some p := hp
        cases hp
        show ((0 : Nat) : Int) ≤ 0 + 2147483648 ∧ 0 + 2147483648 ≤ ((4294967295 : Nat) : Int)
        omega
      · have hp : some (0, 4294967295) = some p := hp
        cases hp
        show ((0 : Nat) : Int) ≤ x0 0 + 2147483648 ∧ x0 0 + 2147483648 ≤ ((4294967295 : Nat) : Int)
        have hx := hx0 0
        omega
      · have hp : some (0, 4294967295) = some p := hp
        cases hp
        show ((0 : Nat) : Int) ≤ x0 1 + 2147483648 ∧ x0 1 + 2147483648 ≤ ((4294967295 : Nat) : Int)
        have hx := hx0 1
        omega
    · show E = E
      rfl
  · intro x0 s Wg hRu hrx hT0 hΦ i v H hT hrv hInv hKc hFr0 hIH x hx ρ2 v2 N2 H2 locs lsB stA hAt hB hv hr2 hXs hag hfr hFr hT2
    rcases i with ⟨i, hi⟩
    have hi2 : i = 0 ∨ i = 1 := by omega
    rcases hi2 with rfl | rfl
    · have hx : x ∈ [zxfcf17_ax0] := hx
      have hag : ∀ k, k < 3 → v2 k = v k := hag
      have hfr : xFr [] _ _ := hfr
      have ex := List.mem_singleton.mp hx
      subst ex
      obtain ⟨hF, hBd, hM⟩ := hXs
      have e19_3 : xE (zyEl zymc B H2) 19 3 = xE (zyEl zymc B H) 19 3 := xFr_E hfr rfl
      have q19_3 : xE (zyEl zymc B H) 19 3 = xE (zyEl zymc B s.heap) 19 3 := xFr_E hFr0 rfl
      have e30 : ∀ i, xE (zyEl zymc B H2) 30 i = xE (zyEl zymc B H) 30 i := fun i => xFr_E hfr rfl
      have q30 : ∀ i, xE (zyEl zymc B H) 30 i = xE (zyEl zymc B s.heap) 30 i := fun i => xFr_E hFr0 rfl
      have y19_3 : ((2147483648 : Nat) : Int) ≤ xE (zyEl zymc B s.heap) 19 3 + 2147483648 ∧ xE (zyEl zymc B s.heap) 19 3 + 2147483648 ≤ ((2147483679 : Nat) : Int) := xTyF hT0 19 3 3 rfl rfl rfl rfl rfl rfl
      have hI : (zyEl zymc B H) = (zyEl zymc B s.heap) := hInv
      refine xGo hIH hAt hB hv hFr ⟨1, by decide⟩ [0, 0, 0] [0, 0, 0] rfl ⟨by decide +kernel, ⟨rfl, by decide +kernel⟩, (xcs_c rfl (xcs_c rfl (xcs_c rfl xcs_n))), (xe_0 (xe_c (by omega) (by omega) rfl (xe_c (by omega) (by omega) rfl xe_n))), xkq_n⟩ xst_n ?_ ?_
      · show (0 ≤ (0 : Int) ∧ (0 : Int) ≤ xE (zyEl zymc B s.heap) 19 3) ∧ (0 ≤ (0 : Int) ∧ (0 : Int) ≤ (0 : Int)) ∧ ∀ S, xAb17 (zyEl zymc B s.heap) S → (0 : Int) = pCnt S 104 ((0 : Int)).toNat
        exact ⟨by omega, by omega, fun S hS => rfl⟩
      · show (99 - (0 : Int)).toNat < 100
        omega
    · have hx : x ∈ [zxfcf17_bx0, zxfcf17_bx1] := hx
      have hag : ∀ k, k < 3 → v2 k = v k := hag
      have hfr : xFr [] _ _ := hfr
      rcases List.mem_cons.mp hx with ex | hx
      · subst ex
        obtain ⟨hF, hBd, hM⟩ := hXs
        have g1 : v2 1 = v 1 := hag 1 (by decide)
        have g2 : v2 2 = v 2 := hag 2 (by decide)
        have b0 : ((2147483648 : Nat) : Int) ≤ (v2 1) + 2147483648 ∧ (v2 1) + 2147483648 ≤ ((2147483679 : Nat) : Int) := xXb hBd 0 rfl
        have b1 : ((2147483648 : Nat) : Int) ≤ (v2 2) + 2147483648 ∧ (v2 2) + 2147483648 ≤ ((2147483678 : Nat) : Int) := xXb hBd 1 rfl
        have b2 : ((2147483649 : Nat) : Int) ≤ (v2 3) + 2147483648 ∧ (v2 3) + 2147483648 ≤ ((2147483679 : Nat) : Int) := xXb hBd 2 rfl
        have b3 : ((2147483649 : Nat) : Int) ≤ (v2 4) + 2147483648 ∧ (v2 4) + 2147483648 ≤ ((2147483649 : Nat) : Int) := xXb hBd 3 rfl
        have b4 : ((2147483649 : Nat) : Int) ≤ (v2 1 + 1) + 2147483648 ∧ (v2 1 + 1) + 2147483648 ≤ ((2147483680 : Nat) : Int) := xXb hBd 4 rfl
        have b5 : ((2147483649 : Nat) : Int) ≤ (v2 2 + 1) + 2147483648 ∧ (v2 2 + 1) + 2147483648 ≤ ((2147483679 : Nat) : Int) := xXb hBd 5 rfl
        have f0 : (0 : Int) ≤ 3 ∧ xE (zyEl zymc B H) 19 3 = (v2 3) := xXf hF 0 rfl
        have f1 : (v2 2) < (v2 3) := xXf hF 1 rfl
        have f2 : (0 : Int) ≤ (v2 2) ∧ xE (zyEl zymc B H) 30 (v2 2) = (v2 4) := xXf hF 2 rfl
        have f3 : ¬ (v2 4) = 0 := xXf hF 3 rfl
        have e19_3 : xE (zyEl zymc B H2) 19 3 = xE (zyEl zymc B H) 19 3 := xFr_E hfr rfl
        have q19_3 : xE (zyEl zymc B H) 19 3 = xE (zyEl zymc B s.heap) 19 3 := xFr_E hFr0 rfl
        have e30 : ∀ i, xE (zyEl zymc B H2) 30 i = xE (zyEl zymc B H) 30 i := fun i => xFr_E hfr rfl
        have q30 : ∀ i, xE (zyEl zymc B H) 30 i = xE (zyEl zymc B s.heap) 30 i := fun i => xFr_E hFr0 rfl
        have y19_3 : ((2147483648 : Nat) : Int) ≤ xE (zyEl zymc B s.heap) 19 3 + 2147483648 ∧ xE (zyEl zymc B s.heap) 19 3 + 2147483648 ≤ ((2147483679 : Nat) : Int) := xTyF hT0 19 3 3 rfl rfl rfl rfl rfl rfl
        have hI : (0 ≤ (v 2) ∧ (v 2) ≤ xE (zyEl zymc B s.heap) 19 3) ∧ (0 ≤ (v 1) ∧ (v 1) ≤ (v 2)) ∧ ∀ S, xAb17 (zyEl zymc B s.heap) S → (v 1) = pCnt S 104 ((v 2)).toNat := hInv
        obtain ⟨i1, i2, i3⟩ := hI
        refine xGo hIH hAt hB hv hFr ⟨1, by decide⟩ [0, 34359738377, 68719476745] [0, (v2 1 + 1), (v2 2 + 1)] rfl ⟨by decide +kernel, ⟨rfl, by decide +kernel⟩, (xcs_c rfl (xcs_c rfl (xcs_c rfl xcs_n))), (xe_0 (xe_c (by omega) (by omega) rfl (xe_c (by omega) (by omega) rfl xe_n))), xkq_n⟩ xst_n ?_ ?_
        · show (0 ≤ ((v2 2 + 1) : Int) ∧ ((v2 2 + 1) : Int) ≤ xE (zyEl zymc B s.heap) 19 3) ∧ (0 ≤ ((v2 1 + 1) : Int) ∧ ((v2 1 + 1) : Int) ≤ ((v2 2 + 1) : Int)) ∧ ∀ S, xAb17 (zyEl zymc B s.heap) S → ((v2 1 + 1) : Int) = pCnt S 104 (((v2 2 + 1) : Int)).toNat
          refine ⟨by omega, by omega, fun S hS => ?_⟩
          have hc := (hS.2.2.2.2.1 (v2 2) (by omega) (by omega)).2.2.2
          have hf := q30 (v2 2)
          rw [pCnt_s (by omega), show (v2 2) = v 2 by omega, ← i3 S hS, ← show (v2 2) = v 2 by omega, if_pos (by omega)]
          omega
        · show (99 - ((v2 2 + 1) : Int)).toNat < (99 - (v 2)).toNat
          omega
      · skip
        have ex := List.mem_singleton.mp hx
        subst ex
        obtain ⟨hF, hBd, hM⟩ := hXs
        have g1 : v2 1 = v 1 := hag 1 (by decide)
        have g2 : v2 2 = v 2 := hag 2 (by decide)
        have b0 : ((2147483648 : Nat) : Int) ≤ (v2 1) + 2147483648 ∧ (v2 1) + 2147483648 ≤ ((2147483679 : Nat) : Int) := xXb hBd 0 rfl
        have b1 : ((2147483648 : Nat) : Int) ≤ (v2 2) + 2147483648 ∧ (v2 2) + 2147483648 ≤ ((2147483678 : Nat) : Int) := xXb hBd 1 rfl
        have b2 : ((2147483649 : Nat) : Int) ≤ (v2 3) + 2147483648 ∧ (v2 3) + 2147483648 ≤ ((2147483679 : Nat) : Int) := xXb hBd 2 rfl
        have b3 : ((2147483648 : Nat) : Int) ≤ (v2 4) + 2147483648 ∧ (v2 4) + 2147483648 ≤ ((2147483648 : Nat) : Int) := xXb hBd 3 rfl
        have b4 : ((2147483649 : Nat) : Int) ≤ (v2 2 + 1) + 2147483648 ∧ (v2 2 + 1) + 2147483648 ≤ ((2147483679 : Nat) : Int) := xXb hBd 4 rfl
        have f0 : (0 : Int) ≤ 3 ∧ xE (zyEl zymc B H) 19 3 = (v2 3) := xXf hF 0 rfl
        have f1 : (v2 2) < (v2 3) := xXf hF 1 rfl
        have f2 : (0 : Int) ≤ (v2 2) ∧ xE (zyEl zymc B H) 30 (v2 2) = (v2 4) := xXf hF 2 rfl
        have f3 : (v2 4) = 0 := xXf hF 3 rfl
        have e19_3 : xE (zyEl zymc B H2) 19 3 = xE (zyEl zymc B H) 19 3 := xFr_E hfr rfl
        have q19_3 : xE (zyEl zymc B H) 19 3 = xE (zyEl zymc B s.heap) 19 3 := xFr_E hFr0 rfl
        have e30 : ∀ i, xE (zyEl zymc B H2) 30 i = xE (zyEl zymc B H) 30 i := fun i => xFr_E hfr rfl
        have q30 : ∀ i, xE (zyEl zymc B H) 30 i = xE (zyEl zymc B s.heap) 30 i := fun i => xFr_E hFr0 rfl
        have y19_3 : ((2147483648 : Nat) : Int) ≤ xE (zyEl zymc B s.heap) 19 3 + 2147483648 ∧ xE (zyEl zymc B s.heap) 19 3 + 2147483648 ≤ ((2147483679 : Nat) : Int) := xTyF hT0 19 3 3 rfl rfl rfl rfl rfl rfl
        have hI : (0 ≤ (v 2) ∧ (v 2) ≤ xE (zyEl zymc B s.heap) 19 3) ∧ (0 ≤ (v 1) ∧ (v 1) ≤ (v 2)) ∧ ∀ S, xAb17 (zyEl zymc B s.heap) S → (v 1) = pCnt S 104 ((v 2)).toNat := hInv
        obtain ⟨i1, i2, i3⟩ := hI
        refine xGo hIH hAt hB hv hFr ⟨1, by decide⟩ [0, 34359738369, 68719476745] [0, (v2 1), (v2 2 + 1)] rfl ⟨by decide +kernel, ⟨rfl, by decide +kernel⟩, (xcs_c rfl (xcs_c rfl (xcs_c rfl xcs_n))), (xe_0 (xe_c (by omega) (by omega) rfl (xe_c (by omega) (by omega) rfl xe_n))), xkq_n⟩ xst_n ?_ ?_
        · show (0 ≤ ((v2 2 + 1) : Int) ∧ ((v2 2 + 1) : Int) ≤ xE (zyEl zymc B s.heap) 19 3) ∧ (0 ≤ ((v2 1) : Int) ∧ ((v2 1) : Int) ≤ ((v2 2 + 1) : Int)) ∧ ∀ S, xAb17 (zyEl zymc B s.heap) S → ((v2 1) : Int) = pCnt S 104 (((v2 2 + 1) : Int)).toNat
          refine ⟨by omega, by omega, fun S hS => ?_⟩
          have hc := (hS.2.2.2.2.1 (v2 2) (by omega) (by omega)).2.2.2
          have hf := q30 (v2 2)
          rw [pCnt_s (by omega), show (v2 2) = v 2 by omega, ← i3 S hS, ← show (v2 2) = v 2 by omega, if_neg (by omega)]
          omega
        · show (99 - ((v2 2 + 1) : Int)).toNat < (99 - (v 2)).toNat
          omega
  · intro x0 E0 E E2 hrx hT0 hΦ i v hT hrv hInv hKc hFr0 x hx v2 hr2 hXs hag hfr hFr hT2
    rcases i with ⟨i, hi⟩
    have hi2 : i = 0 ∨ i = 1 := by omega
    rcases hi2 with rfl | rfl
    · cases hx
    · have hx : x ∈ [zxfcf17_br0] := hx
      have hag : ∀ k, k < 3 → v2 k = v k := hag
      have hfr : xFr [] _ _ := hfr
      have ex := List.mem_singleton.mp hx
      subst ex
      obtain ⟨hF, hBd, hM⟩ := hXs
      have g1 : v2 1 = v 1 := hag 1 (by decide)
      have g2 : v2 2 = v 2 := hag 2 (by decide)
      have b0 : ((2147483648 : Nat) : Int) ≤ (v2 1) + 2147483648 ∧ (v2 1) + 2147483648 ≤ ((2147483679 : Nat) : Int) := xXb hBd 0 rfl
      have b1 : ((2147483648 : Nat) : Int) ≤ (v2 2) + 2147483648 ∧ (v2 2) + 2147483648 ≤ ((2147483679 : Nat) : Int) := xXb hBd 1 rfl
      have b2 : ((2147483648 : Nat) : Int) ≤ (v2 3) + 2147483648 ∧ (v2 3) + 2147483648 ≤ ((2147483679 : Nat) : Int) := xXb hBd 2 rfl
      have f0 : (0 : Int) ≤ 3 ∧ xE E 19 3 = (v2 3) := xXf hF 0 rfl
      have f1 : (v2 3) ≤ (v2 2) := xXf hF 1 rfl
      have e19_3 : xE E2 19 3 = xE E 19 3 := xFr_E hfr rfl
      have q19_3 : xE E 19 3 = xE E0 19 3 := xFr_E hFr0 rfl
      have e30 : ∀ i, xE E2 30 i = xE E 30 i := fun i => xFr_E hfr rfl
      have q30 : ∀ i, xE E 30 i = xE E0 30 i := fun i => xFr_E hFr0 rfl
      have y19_3 : ((2147483648 : Nat) : Int) ≤ xE E0 19 3 + 2147483648 ∧ xE E0 19 3 + 2147483648 ≤ ((2147483679 : Nat) : Int) := xTyF hT0 19 3 3 rfl rfl rfl rfl rfl rfl
      have hI : (0 ≤ (v 2) ∧ (v 2) ≤ xE E0 19 3) ∧ (0 ≤ (v 1) ∧ (v 1) ≤ (v 2)) ∧ ∀ S, xAb17 E0 S → (v 1) = pCnt S 104 ((v 2)).toNat := hInv
      show xΨcf17 x0 E0 E2 (v2 1)
      obtain ⟨i1, i2, i3⟩ := hI
      unfold xΨcf17
      refine ⟨by omega, fun S hS => ?_⟩
      rw [← hS.2.1.2.2.2, show xE E0 19 3 = v2 2 by omega, show (v2 1) = v 1 by omega, show (v2 2) = v 2 by omega]
      exact i3 S hS
noncomputable def zxfhs17_ax0 : zyXp := (2, [147, 34359738369, 0], [], [], [(34359738369, 2147483648, 2147483727)], [])
noncomputable def zpfhs17_a : zyPh := (0, [147, 34359738369, 13], [(0, 4294967295), (2147483648, 2147483727), (0, 4294967295)], [], [])
noncomputable def zxfhs17_bx0 : zyXp := (2, [147, 34359738369, 68719476745], [], [(24, 103079215105, 18, 40), (20, 0, 68719476737, 103079215105), (24, 137438953473, 31, 68719476737), (23, 0, 137438953473, 34359738369), (24, 171798691841, 21, 34359738369), (24, 206158430209, 31, 68719476737), (23, 0, 171798691841, 206158430209)], [(34359738369, 2147483648, 2147483727), (68719476737, 2147483648, 2147483655), (103079215105, 2147483649, 2147483656), (137438953473, 2147483648, 2147483727), (171798691841, 2147483647, 2147483727), (206158430209, 2147483648, 2147483727), (68719476745, 2147483649, 2147483656)], [])
noncomputable def zxfhs17_br0 : zyXp := (0, [], [8], [(24, 103079215105, 18, 40), (20, 0, 68719476737, 103079215105), (24, 137438953473, 31, 68719476737), (23, 0, 137438953473, 34359738369), (24, 171798691841, 21, 34359738369), (24, 206158430209, 31, 68719476737), (22, 0, 171798691841, 206158430209)], [(34359738369, 2147483648, 2147483727), (68719476737, 2147483648, 2147483655), (103079215105, 2147483649, 2147483656), (137438953473, 2147483648, 2147483727), (171798691841, 2147483647, 2147483727), (206158430209, 2147483648, 2147483727)], [])
noncomputable def zxfhs17_br1 : zyXp := (0, [], [8], [(24, 103079215105, 18, 40), (20, 0, 68719476737, 103079215105), (24, 137438953473, 31, 68719476737), (22, 0, 137438953473, 34359738369)], [(34359738369, 2147483648, 2147483727), (68719476737, 2147483648, 2147483655), (103079215105, 2147483649, 2147483656), (137438953473, 2147483648, 2147483727)], [])
noncomputable def zxfhs17_br2 : zyXp := (0, [], [0], [(24, 103079215105, 18, 40), (21, 0, 68719476737, 103079215105)], [(68719476737, 2147483648, 2147483656), (103079215105, 2147483648, 2147483656)], [])
noncomputable def zpfhs17_b : zyPh := (2, [147, 34359738369, 68719476737], [(0, 4294967295), (2147483648, 2147483727), (2147483648, 2147483656)], [], [])
noncomputable def zpfhs17 (i : Nat) : zyPh := zif (Nat.beq i 0) (zpfhs17_a) (zpfhs17_b)
noncomputable def zXfhs17 (i : Nat) : List zyXp := zif (Nat.beq i 0) ([zxfhs17_ax0]) ([zxfhs17_bx0])
noncomputable def zRfhs17 (i : Nat) : List zyXp := zif (Nat.beq i 0) ([]) ([zxfhs17_br0, zxfhs17_br1, zxfhs17_br2])
noncomputable def zFfhs17 (i : Nat) : zyR := zif (Nat.beq i 0) ([]) ([])
noncomputable def zSfhs17 (i : Nat) : Nat := zif (Nat.beq i 0) (0) (0)
def xΦhs17 (x : Nat → Int) (E : zyEm) : Prop := 0 ≤ x 0 ∧ x 0 < xE E 19 2
def xΨhs17 (x : Nat → Int) (E _ : zyEm) (r : Int) : Prop := (r = 0 ∨ r = 1) ∧ ∀ S, xAb17 E S → r = if pTak S (x 0) (pF (S 0) (S 1) (x 0)) (S 2).toNat = true then 1 else 0
noncomputable def fpfhs17 : zyR := []
theorem zyfhs17_run : zyrS zymc zxi34 (34, 0, 0, 2, 0) 1 zpfhs17 (fun _ _ => []) zFfhs17 zSfhs17 zXfhs17 zRfhs17 2 = true := by decide +kernel
theorem zyfhs17_ck : zyAll (fun i => xsubR (zFfhs17 i) fpfhs17 && ((zXfhs17 i).all xckX && (zRfhs17 i).all (fun x => xckX x && xrtB true x))) 2 = true := by decide +kernel
def xIfhs17 (i : Nat) (x0 : Nat → Int) (E0 : zyEm) (v : Nat → Int) (E : zyEm) : Prop := if i = 0 then (E = E0 ∧ (v 1) = x0 0) else ((0 ≤ (v 2) ∧ (v 2) ≤ xE E0 18 5) ∧ (v 1) = x0 0 ∧ ∀ S, xAb17 E0 S → pTak S (x0 0) (pF (S 0) (S 1) (x0 0)) ((v 2)).toNat = false)
def xMfhs17 (i : Nat) (x0 : Nat → Int) (E0 : zyEm) (v : Nat → Int) (E : zyEm) : Nat := if i = 0 then (100) else ((99 - (v 2)).toNat)
theorem xHs17 {l : Launch} {en : zEn} {me : zMe} (hen : zG zxMeta 34 = some en) (hme : zG zMeth 34 = some me) : xFc l zymc en me 1 [18] 1 fpfhs17 true xΦhs17 xΨhs17 := by
  have een : zG zxMeta 34 = some (zxi34, 2, 3, 3, 34, 0, 0, 2, 0) := rfl
  obtain ⟨me1, hme1, hOK⟩ := zall hen
  rw [hme] at hme1
  cases hme1
  rw [een] at hen
  cases hen
  have hr := zyfhs17_run
  have hck := fun i hi => zyAll_iff zyfhs17_ck i hi
  simp only [Bool.and_eq_true] at hck
  intro B
  refine xcut (mi := zymc) (B := B) hOK rfl rfl (ι := Fin 2) (fun i => zpfhs17 i.val) (fun _ _ => []) (fun i => zFfhs17 i.val) (fun i => zSfhs17 i.val) (fun i => zXfhs17 i.val) (fun i => zRfhs17 i.val) (fun i y2 ct en2 me2 h => by cases h) 200000 (fun i => zyAll_iff hr i.val i.isLt) (fun i => (hck i.val i.isLt).1) (fun i => (hck i.val i.isLt).2.1) (fun i => (hck i.val i.isLt).2.2) ⟨0, by decide⟩ ⟨rfl, rfl, rfl, rfl⟩ ⟨by decide, by decide⟩ (fun i x0 E0 v E => xIfhs17 i.val x0 E0 v E) (fun i x0 E0 v E => xMfhs17 i.val x0 E0 v E) ?_ ?_ ?_
  · intro x0 E hx0 hT hΦ
    have hΦ : xΦhs17 x0 E := hΦ
    refine ⟨fun k p hp => ?_, ?_⟩
    · have hk : k < 3 := (List.getElem?_eq_some_iff.mp hp).1
      have hk : k = 0 ∨ k = 1 ∨ k = 2 := by omega
      rcases hk with rfl | rfl | rfl
      · have hp : some (0, 4294967295) = some p := hp
        cases hp
        show ((0 : Nat) : Int) ≤ 0 + 2147483648 ∧ 0 + 2147483648 ≤ ((4294967295 : Nat) : Int)
        omega
      · have hp : some (2147483648, 2147483727) = some p := hp
        cases hp
        show ((2147483648 : Nat) : Int) ≤ x0 0 + 2147483648 ∧ x0 0 + 2147483648 ≤ ((2147483727 : Nat) : Int)
        have hx := hx0 0
        have hP := hΦ.1
        have hP2 := hΦ.2
        have hT2 := xTyF hT 19 2 2 rfl rfl rfl rfl rfl rfl
        have hT2 : ((2147483648 : Nat) : Int) ≤ xE E 19 2 + 2147483648 ∧ xE E 19 2 + 2147483648 ≤ ((2147483728 : Nat) : Int) := hT2
        omega
      · have hp : some (0, 4294967295) = some p := hp
        cases hp
        show ((0 : Nat) : Int) ≤ x0 1 + 2147483648 ∧ x0 1 + 2147483648 ≤ ((4294967295 : Nat) : Int)
        have hx := hx0 1
        omega
    · show E = E ∧ (x0 0) = x0 0
      exact ⟨rfl, rfl⟩
  · intro x0 s Wg hRu hrx hT0 hΦ i v H hT hrv hInv hKc hFr0 hIH x hx ρ2 v2 N2 H2 locs lsB stA hAt hB hv hr2 hXs hag hfr hFr hT2
    rcases i with ⟨i, hi⟩
    have hi2 : i = 0 ∨ i = 1 := by omega
    rcases hi2 with rfl | rfl
    · have hx : x ∈ [zxfhs17_ax0] := hx
      have hag : ∀ k, k < 3 → v2 k = v k := hag
      have hfr : xFr [] _ _ := hfr
      have ex := List.mem_singleton.mp hx
      subst ex
      obtain ⟨hF, hBd, hM⟩ := hXs
      have g1 : v2 1 = v 1 := hag 1 (by decide)
      have b0 : ((2147483648 : Nat) : Int) ≤ (v2 1) + 2147483648 ∧ (v2 1) + 2147483648 ≤ ((2147483727 : Nat) : Int) := xXb hBd 0 rfl
      have e18_5 : xE (zyEl zymc B H2) 18 5 = xE (zyEl zymc B H) 18 5 := xFr_E hfr rfl
      have q18_5 : xE (zyEl zymc B H) 18 5 = xE (zyEl zymc B s.heap) 18 5 := xFr_E hFr0 rfl
      have e19_2 : xE (zyEl zymc B H2) 19 2 = xE (zyEl zymc B H) 19 2 := xFr_E hfr rfl
      have q19_2 : xE (zyEl zymc B H) 19 2 = xE (zyEl zymc B s.heap) 19 2 := xFr_E hFr0 rfl
      have e31 : ∀ i, xE (zyEl zymc B H2) 31 i = xE (zyEl zymc B H) 31 i := fun i => xFr_E hfr rfl
      have q31 : ∀ i, xE (zyEl zymc B H) 31 i = xE (zyEl zymc B s.heap) 31 i := fun i => xFr_E hFr0 rfl
      have e21 : ∀ i, xE (zyEl zymc B H2) 21 i = xE (zyEl zymc B H) 21 i := fun i => xFr_E hfr rfl
      have q21 : ∀ i, xE (zyEl zymc B H) 21 i = xE (zyEl zymc B s.heap) 21 i := fun i => xFr_E hFr0 rfl
      have y18_5 : ((2147483648 : Nat) : Int) ≤ xE (zyEl zymc B s.heap) 18 5 + 2147483648 ∧ xE (zyEl zymc B s.heap) 18 5 + 2147483648 ≤ ((2147483656 : Nat) : Int) := xTyF hT0 18 5 5 rfl rfl rfl rfl rfl rfl
      have y19_2 : ((2147483648 : Nat) : Int) ≤ xE (zyEl zymc B s.heap) 19 2 + 2147483648 ∧ xE (zyEl zymc B s.heap) 19 2 + 2147483648 ≤ ((2147483728 : Nat) : Int) := xTyF hT0 19 2 2 rfl rfl rfl rfl rfl rfl
      have hI : (zyEl zymc B H) = (zyEl zymc B s.heap) ∧ (v 1) = x0 0 := hInv
      have hP := hΦ.1
      have hP2 := hΦ.2
      refine xGo hIH hAt hB hv hFr ⟨1, by decide⟩ [0, 34359738369, 0] [0, (v2 1), 0] rfl ⟨by decide +kernel, ⟨rfl, by decide +kernel⟩, (xcs_c rfl (xcs_c rfl (xcs_c rfl xcs_n))), (xe_0 (xe_c (by omega) (by omega) rfl (xe_c (by omega) (by omega) rfl xe_n))), xkq_n⟩ xst_n ?_ ?_
      · show (0 ≤ (0 : Int) ∧ (0 : Int) ≤ xE (zyEl zymc B s.heap) 18 5) ∧ ((v2 1) : Int) = x0 0 ∧ ∀ S, xAb17 (zyEl zymc B s.heap) S → pTak S (x0 0) (pF (S 0) (S 1) (x0 0)) ((0 : Int)).toNat = false
        exact ⟨by omega, by omega, fun S hS => rfl⟩
      · show (99 - (0 : Int)).toNat < 100
        omega
    · have hx : x ∈ [zxfhs17_bx0] := hx
      have hag : ∀ k, k < 3 → v2 k = v k := hag
      have hfr : xFr [] _ _ := hfr
      have ex := List.mem_singleton.mp hx
      subst ex
      obtain ⟨hF, hBd, hM⟩ := hXs
      have g1 : v2 1 = v 1 := hag 1 (by decide)
      have g2 : v2 2 = v 2 := hag 2 (by decide)
      have b0 : ((2147483648 : Nat) : Int) ≤ (v2 1) + 2147483648 ∧ (v2 1) + 2147483648 ≤ ((2147483727 : Nat) : Int) := xXb hBd 0 rfl
      have b1 : ((2147483648 : Nat) : Int) ≤ (v2 2) + 2147483648 ∧ (v2 2) + 2147483648 ≤ ((2147483655 : Nat) : Int) := xXb hBd 1 rfl
      have b2 : ((2147483649 : Nat) : Int) ≤ (v2 3) + 2147483648 ∧ (v2 3) + 2147483648 ≤ ((2147483656 : Nat) : Int) := xXb hBd 2 rfl
      have b3 : ((2147483648 : Nat) : Int) ≤ (v2 4) + 2147483648 ∧ (v2 4) + 2147483648 ≤ ((2147483727 : Nat) : Int) := xXb hBd 3 rfl
      have b4 : ((2147483647 : Nat) : Int) ≤ (v2 5) + 2147483648 ∧ (v2 5) + 2147483648 ≤ ((2147483727 : Nat) : Int) := xXb hBd 4 rfl
      have b5 : ((2147483648 : Nat) : Int) ≤ (v2 6) + 2147483648 ∧ (v2 6) + 2147483648 ≤ ((2147483727 : Nat) : Int) := xXb hBd 5 rfl
      have b6 : ((2147483649 : Nat) : Int) ≤ (v2 2 + 1) + 2147483648 ∧ (v2 2 + 1) + 2147483648 ≤ ((2147483656 : Nat) : Int) := xXb hBd 6 rfl
      have f0 : (0 : Int) ≤ 5 ∧ xE (zyEl zymc B H) 18 5 = (v2 3) := xXf hF 0 rfl
      have f1 : (v2 2) < (v2 3) := xXf hF 1 rfl
      have f2 : (0 : Int) ≤ (v2 2) ∧ xE (zyEl zymc B H) 31 (v2 2) = (v2 4) := xXf hF 2 rfl
      have f3 : ¬ (v2 4) = (v2 1) := xXf hF 3 rfl
      have f4 : (0 : Int) ≤ (v2 1) ∧ xE (zyEl zymc B H) 21 (v2 1) = (v2 5) := xXf hF 4 rfl
      have f5 : (0 : Int) ≤ (v2 2) ∧ xE (zyEl zymc B H) 31 (v2 2) = (v2 6) := xXf hF 5 rfl
      have f6 : ¬ (v2 5) = (v2 6) := xXf hF 6 rfl
      have e18_5 : xE (zyEl zymc B H2) 18 5 = xE (zyEl zymc B H) 18 5 := xFr_E hfr rfl
      have q18_5 : xE (zyEl zymc B H) 18 5 = xE (zyEl zymc B s.heap) 18 5 := xFr_E hFr0 rfl
      have e19_2 : xE (zyEl zymc B H2) 19 2 = xE (zyEl zymc B H) 19 2 := xFr_E hfr rfl
      have q19_2 : xE (zyEl zymc B H) 19 2 = xE (zyEl zymc B s.heap) 19 2 := xFr_E hFr0 rfl
      have e31 : ∀ i, xE (zyEl zymc B H2) 31 i = xE (zyEl zymc B H) 31 i := fun i => xFr_E hfr rfl
      have q31 : ∀ i, xE (zyEl zymc B H) 31 i = xE (zyEl zymc B s.heap) 31 i := fun i => xFr_E hFr0 rfl
      have e21 : ∀ i, xE (zyEl zymc B H2) 21 i = xE (zyEl zymc B H) 21 i := fun i => xFr_E hfr rfl
      have q21 : ∀ i, xE (zyEl zymc B H) 21 i = xE (zyEl zymc B s.heap) 21 i := fun i => xFr_E hFr0 rfl
      have y18_5 : ((2147483648 : Nat) : Int) ≤ xE (zyEl zymc B s.heap) 18 5 + 2147483648 ∧ xE (zyEl zymc B s.heap) 18 5 + 2147483648 ≤ ((2147483656 : Nat) : Int) := xTyF hT0 18 5 5 rfl rfl rfl rfl rfl rfl
      have y19_2 : ((2147483648 : Nat) : Int) ≤ xE (zyEl zymc B s.heap) 19 2 + 2147483648 ∧ xE (zyEl zymc B s.heap) 19 2 + 2147483648 ≤ ((2147483728 : Nat) : Int) := xTyF hT0 19 2 2 rfl rfl rfl rfl rfl rfl
      have hI : (0 ≤ (v 2) ∧ (v 2) ≤ xE (zyEl zymc B s.heap) 18 5) ∧ (v 1) = x0 0 ∧ ∀ S, xAb17 (zyEl zymc B s.heap) S → pTak S (x0 0) (pF (S 0) (S 1) (x0 0)) ((v 2)).toNat = false := hInv
      obtain ⟨i1, i2, i3⟩ := hI
      have hP := hΦ.1
      have hP2 := hΦ.2
      rw [show (v 2) = v2 2 by omega] at i3
      have w2 : xE (zyEl zymc B s.heap) 31 (v2 2) = (v2 4) := by have := q31 (v2 2); omega
      have w5 : xE (zyEl zymc B s.heap) 31 (v2 2) = (v2 6) := by have := q31 (v2 2); omega
      have w4 : xE (zyEl zymc B s.heap) 21 (x0 0) = (v2 5) := by rw [show x0 0 = (v2 1) by omega]; have := q21 ((v2 1)); omega
      refine xGo hIH hAt hB hv hFr ⟨1, by decide⟩ [0, 34359738369, 68719476745] [0, (v2 1), (v2 2 + 1)] rfl ⟨by decide +kernel, ⟨rfl, by decide +kernel⟩, (xcs_c rfl (xcs_c rfl (xcs_c rfl xcs_n))), (xe_0 (xe_c (by omega) (by omega) rfl (xe_c (by omega) (by omega) rfl xe_n))), xkq_n⟩ xst_n ?_ ?_
      · show (0 ≤ ((v2 2 + 1) : Int) ∧ ((v2 2 + 1) : Int) ≤ xE (zyEl zymc B s.heap) 18 5) ∧ ((v2 1) : Int) = x0 0 ∧ ∀ S, xAb17 (zyEl zymc B s.heap) S → pTak S (x0 0) (pF (S 0) (S 1) (x0 0)) (((v2 2 + 1) : Int)).toNat = false
        refine ⟨by omega, by omega, fun S hS => ?_⟩
        have hst := (hS.2.2.2.1.2 (v2 2) (by omega) (by have := hS.2.2.2.1.1; omega)).1
        have hfc := hS.2.2.1 (x0 0) hP (by have := hS.2.1.2.2.1; omega)
        rw [pTak_s (by omega), i3 S hS, Bool.false_or, Bool.or_eq_false_iff, decide_eq_false_iff_not, decide_eq_false_iff_not]
        omega
      · show (99 - ((v2 2 + 1) : Int)).toNat < (99 - (v 2)).toNat
        omega
  · intro x0 E0 E E2 hrx hT0 hΦ i v hT hrv hInv hKc hFr0 x hx v2 hr2 hXs hag hfr hFr hT2
    rcases i with ⟨i, hi⟩
    have hi2 : i = 0 ∨ i = 1 := by omega
    rcases hi2 with rfl | rfl
    · cases hx
    · have hx : x ∈ [zxfhs17_br0, zxfhs17_br1, zxfhs17_br2] := hx
      have hag : ∀ k, k < 3 → v2 k = v k := hag
      have hfr : xFr [] _ _ := hfr
      rcases List.mem_cons.mp hx with ex | hx
      · subst ex
        obtain ⟨hF, hBd, hM⟩ := hXs
        have g1 : v2 1 = v 1 := hag 1 (by decide)
        have g2 : v2 2 = v 2 := hag 2 (by decide)
        have b0 : ((2147483648 : Nat) : Int) ≤ (v2 1) + 2147483648 ∧ (v2 1) + 2147483648 ≤ ((2147483727 : Nat) : Int) := xXb hBd 0 rfl
        have b1 : ((2147483648 : Nat) : Int) ≤ (v2 2) + 2147483648 ∧ (v2 2) + 2147483648 ≤ ((2147483655 : Nat) : Int) := xXb hBd 1 rfl
        have b2 : ((2147483649 : Nat) : Int) ≤ (v2 3) + 2147483648 ∧ (v2 3) + 2147483648 ≤ ((2147483656 : Nat) : Int) := xXb hBd 2 rfl
        have b3 : ((2147483648 : Nat) : Int) ≤ (v2 4) + 2147483648 ∧ (v2 4) + 2147483648 ≤ ((2147483727 : Nat) : Int) := xXb hBd 3 rfl
        have b4 : ((2147483647 : Nat) : Int) ≤ (v2 5) + 2147483648 ∧ (v2 5) + 2147483648 ≤ ((2147483727 : Nat) : Int) := xXb hBd 4 rfl
        have b5 : ((2147483648 : Nat) : Int) ≤ (v2 6) + 2147483648 ∧ (v2 6) + 2147483648 ≤ ((2147483727 : Nat) : Int) := xXb hBd 5 rfl
        have f0 : (0 : Int) ≤ 5 ∧ xE E 18 5 = (v2 3) := xXf hF 0 rfl
        have f1 : (v2 2) < (v2 3) := xXf hF 1 rfl
        have f2 : (0 : Int) ≤ (v2 2) ∧ xE E 31 (v2 2) = (v2 4) := xXf hF 2 rfl
        have f3 : ¬ (v2 4) = (v2 1) := xXf hF 3 rfl
        have f4 : (0 : Int) ≤ (v2 1) ∧ xE E 21 (v2 1) = (v2 5) := xXf hF 4 rfl
        have f5 : (0 : Int) ≤ (v2 2) ∧ xE E 31 (v2 2) = (v2 6) := xXf hF 5 rfl
        have f6 : (v2 5) = (v2 6) := xXf hF 6 rfl
        have e18_5 : xE E2 18 5 = xE E 18 5 := xFr_E hfr rfl
        have q18_5 : xE E 18 5 = xE E0 18 5 := xFr_E hFr0 rfl
        have e19_2 : xE E2 19 2 = xE E 19 2 := xFr_E hfr rfl
        have q19_2 : xE E 19 2 = xE E0 19 2 := xFr_E hFr0 rfl
        have e31 : ∀ i, xE E2 31 i = xE E 31 i := fun i => xFr_E hfr rfl
        have q31 : ∀ i, xE E 31 i = xE E0 31 i := fun i => xFr_E hFr0 rfl
        have e21 : ∀ i, xE E2 21 i = xE E 21 i := fun i => xFr_E hfr rfl
        have q21 : ∀ i, xE E 21 i = xE E0 21 i := fun i => xFr_E hFr0 rfl
        have y18_5 : ((2147483648 : Nat) : Int) ≤ xE E0 18 5 + 2147483648 ∧ xE E0 18 5 + 2147483648 ≤ ((2147483656 : Nat) : Int) := xTyF hT0 18 5 5 rfl rfl rfl rfl rfl rfl
        have y19_2 : ((2147483648 : Nat) : Int) ≤ xE E0 19 2 + 2147483648 ∧ xE E0 19 2 + 2147483648 ≤ ((2147483728 : Nat) : Int) := xTyF hT0 19 2 2 rfl rfl rfl rfl rfl rfl
        have hI : (0 ≤ (v 2) ∧ (v 2) ≤ xE E0 18 5) ∧ (v 1) = x0 0 ∧ ∀ S, xAb17 E0 S → pTak S (x0 0) (pF (S 0) (S 1) (x0 0)) ((v 2)).toNat = false := hInv
        show xΨhs17 x0 E0 E2 1
        obtain ⟨i1, i2, i3⟩ := hI
        have hP := hΦ.1
        have hP2 := hΦ.2
        rw [show (v 2) = v2 2 by omega] at i3
        have w2 : xE E0 31 (v2 2) = (v2 4) := by have := q31 (v2 2); omega
        have w5 : xE E0 31 (v2 2) = (v2 6) := by have := q31 (v2 2); omega
        have w4 : xE E0 21 (x0 0) = (v2 5) := by rw [show x0 0 = (v2 1) by omega]; have := q21 ((v2 1)); omega
        unfold xΨhs17
        refine ⟨by omega, fun S hS => ?_⟩
        have hst := (hS.2.2.2.1.2 (v2 2) (by omega) (by have := hS.2.2.2.1.1; omega)).1
        have hfc := hS.2.2.1 (x0 0) hP (by have := hS.2.1.2.2.1; omega)
        have hb := hS.2.2.2.1.1
        have ht : pTak S (x0 0) (pF (S 0) (S 1) (x0 0)) (v2 2 + 1).toNat = true := by
          rw [pTak_s (by omega), Bool.or_eq_true, Bool.or_eq_true, decide_eq_true_eq, decide_eq_true_eq]
          right
          omega
        rw [if_pos (pTak_m (by omega) ht)]
      · skip
        rcases List.mem_cons.mp hx with ex | hx
        · subst ex
          obtain ⟨hF, hBd, hM⟩ := hXs
          have g1 : v2 1 = v 1 := hag 1 (by decide)
          have g2 : v2 2 = v 2 := hag 2 (by decide)
          have b0 : ((2147483648 : Nat) : Int) ≤ (v2 1) + 2147483648 ∧ (v2 1) + 2147483648 ≤ ((2147483727 : Nat) : Int) := xXb hBd 0 rfl
          have b1 : ((2147483648 : Nat) : Int) ≤ (v2 2) + 2147483648 ∧ (v2 2) + 2147483648 ≤ ((2147483655 : Nat) : Int) := xXb hBd 1 rfl
          have b2 : ((2147483649 : Nat) : Int) ≤ (v2 3) + 2147483648 ∧ (v2 3) + 2147483648 ≤ ((2147483656 : Nat) : Int) := xXb hBd 2 rfl
          have b3 : ((2147483648 : Nat) : Int) ≤ (v2 4) + 2147483648 ∧ (v2 4) + 2147483648 ≤ ((2147483727 : Nat) : Int) := xXb hBd 3 rfl
          have f0 : (0 : Int) ≤ 5 ∧ xE E 18 5 = (v2 3) := xXf hF 0 rfl
          have f1 : (v2 2) < (v2 3) := xXf hF 1 rfl
          have f2 : (0 : Int) ≤ (v2 2) ∧ xE E 31 (v2 2) = (v2 4) := xXf hF 2 rfl
          have f3 : (v2 4) = (v2 1) := xXf hF 3 rfl
          have e18_5 : xE E2 18 5 = xE E 18 5 := xFr_E hfr rfl
          have q18_5 : xE E 18 5 = xE E0 18 5 := xFr_E hFr0 rfl
          have e19_2 : xE E2 19 2 = xE E 19 2 := xFr_E hfr rfl
          have q19_2 : xE E 19 2 = xE E0 19 2 := xFr_E hFr0 rfl
          have e31 : ∀ i, xE E2 31 i = xE E 31 i := fun i => xFr_E hfr rfl
          have q31 : ∀ i, xE E 31 i = xE E0 31 i := fun i => xFr_E hFr0 rfl
          have e21 : ∀ i, xE E2 21 i = xE E 21 i := fun i => xFr_E hfr rfl
          have q21 : ∀ i, xE E 21 i = xE E0 21 i := fun i => xFr_E hFr0 rfl
          have y18_5 : ((2147483648 : Nat) : Int) ≤ xE E0 18 5 + 2147483648 ∧ xE E0 18 5 + 2147483648 ≤ ((2147483656 : Nat) : Int) := xTyF hT0 18 5 5 rfl rfl rfl rfl rfl rfl
          have y19_2 : ((2147483648 : Nat) : Int) ≤ xE E0 19 2 + 2147483648 ∧ xE E0 19 2 + 2147483648 ≤ ((2147483728 : Nat) : Int) := xTyF hT0 19 2 2 rfl rfl rfl rfl rfl rfl
          have hI : (0 ≤ (v 2) ∧ (v 2) ≤ xE E0 18 5) ∧ (v 1) = x0 0 ∧ ∀ S, xAb17 E0 S → pTak S (x0 0) (pF (S 0) (S 1) (x0 0)) ((v 2)).toNat = false := hInv
          show xΨhs17 x0 E0 E2 1
          obtain ⟨i1, i2, i3⟩ := hI
          have hP := hΦ.1
          have hP2 := hΦ.2
          rw [show (v 2) = v2 2 by omega] at i3
          have w2 : xE E0 31 (v2 2) = (v2 4) := by have := q31 (v2 2); omega
          unfold xΨhs17
          refine ⟨by omega, fun S hS => ?_⟩
          have hst := (hS.2.2.2.1.2 (v2 2) (by omega) (by have := hS.2.2.2.1.1; omega)).1
          have hfc := hS.2.2.1 (x0 0) hP (by have := hS.2.1.2.2.1; omega)
          have hb := hS.2.2.2.1.1
          have ht : pTak S (x0 0) (pF (S 0) (S 1) (x0 0)) (v2 2 + 1).toNat = true := by
            rw [pTak_s (by omega), Bool.or_eq_true, Bool.or_eq_true, decide_eq_true_eq, decide_eq_true_eq]
            right
            omega
          rw [if_pos (pTak_m (by omega) ht)]
        · skip
          have ex := List.mem_singleton.mp hx
          subst ex
          obtain ⟨hF, hBd, hM⟩ := hXs
          have g1 : v2 1 = v 1 := hag 1 (by decide)
          have g2 : v2 2 = v 2 := hag 2 (by decide)
          have b0 : ((2147483648 : Nat) : Int) ≤ (v2 2) + 2147483648 ∧ (v2 2) + 2147483648 ≤ ((2147483656 : Nat) : Int) := xXb hBd 0 rfl
          have b1 : ((2147483648 : Nat) : Int) ≤ (v2 3) + 2147483648 ∧ (v2 3) + 2147483648 ≤ ((2147483656 : Nat) : Int) := xXb hBd 1 rfl
          have f0 : (0 : Int) ≤ 5 ∧ xE E 18 5 = (v2 3) := xXf hF 0 rfl
          have f1 : (v2 3) ≤ (v2 2) := xXf hF 1 rfl
          have e18_5 : xE E2 18 5 = xE E 18 5 := xFr_E hfr rfl
          have q18_5 : xE E 18 5 = xE E0 18 5 := xFr_E hFr0 rfl
          have e19_2 : xE E2 19 2 = xE E 19 2 := xFr_E hfr rfl
          have q19_2 : xE E 19 2 = xE E0 19 2 := xFr_E hFr0 rfl
          have e31 : ∀ i, xE E2 31 i = xE E 31 i := fun i => xFr_E hfr rfl
          have q31 : ∀ i, xE E 31 i = xE E0 31 i := fun i => xFr_E hFr0 rfl
          have e21 : ∀ i, xE E2 21 i = xE E 21 i := fun i => xFr_E hfr rfl
          have q21 : ∀ i, xE E 21 i = xE E0 21 i := fun i => xFr_E hFr0 rfl
          have y18_5 : ((2147483648 : Nat) : Int) ≤ xE E0 18 5 + 2147483648 ∧ xE E0 18 5 + 2147483648 ≤ ((2147483656 : Nat) : Int) := xTyF hT0 18 5 5 rfl rfl rfl rfl rfl rfl
          have y19_2 : ((2147483648 : Nat) : Int) ≤ xE E0 19 2 + 2147483648 ∧ xE E0 19 2 + 2147483648 ≤ ((2147483728 : Nat) : Int) := xTyF hT0 19 2 2 rfl rfl rfl rfl rfl rfl
          have hI : (0 ≤ (v 2) ∧ (v 2) ≤ xE E0 18 5) ∧ (v 1) = x0 0 ∧ ∀ S, xAb17 E0 S → pTak S (x0 0) (pF (S 0) (S 1) (x0 0)) ((v 2)).toNat = false := hInv
          show xΨhs17 x0 E0 E2 0
          obtain ⟨i1, i2, i3⟩ := hI
          have hP := hΦ.1
          have hP2 := hΦ.2
          rw [show (v 2) = v2 2 by omega] at i3
          unfold xΨhs17
          refine ⟨by omega, fun S hS => ?_⟩
          have hb := hS.2.2.2.1.1
          rw [show S 2 = v2 2 by omega, i3 S hS]
          rfl
noncomputable def zxfab17_ax0 : zyXp := (9, [147, 34359738369], [34359738369, 68719476737, 251], [(24, 68719476737, 18, 40)], [(34359738369, 2147483648, 2147483727), (68719476737, 2147483648, 2147483656)], [])
noncomputable def zpfab17_a : zyPh := (0, [147, 34359738369], [(0, 4294967295), (2147483648, 2147483727)], [], [])
noncomputable def zxfab17_bx0 : zyXp := (19, [147, 34359738369], [34359738360, 68719476737, 259], [(24, 68719476737, 18, 40)], [(34359738369, 2147483648, 2147483727), (68719476737, 2147483648, 2147483656)], [])
noncomputable def zpfab17_b : zyPh := (10, [147, 34359738369], [(0, 4294967295), (2147483648, 2147483727)], [], [])
noncomputable def zxfab17_cr0 : zyXp := (0, [], [], [], [(68719476737, 2147483648, 2147483655)], [(294917, 68719476745)])
noncomputable def zpfab17_c : zyPh := (20, [147, 34359738369], [(0, 4294967295), (2147483648, 2147483727), (2147483648, 2147483655)], [(294917, 68719476737)], [])
noncomputable def zpfab17 (i : Nat) : zyPh := zif (Nat.beq i 0) (zpfab17_a) (zif (Nat.beq i 1) (zpfab17_b) (zpfab17_c))
noncomputable def zXfab17 (i : Nat) : List zyXp := zif (Nat.beq i 0) ([zxfab17_ax0]) (zif (Nat.beq i 1) ([zxfab17_bx0]) ([]))
noncomputable def zRfab17 (i : Nat) : List zyXp := zif (Nat.beq i 0) ([]) (zif (Nat.beq i 1) ([]) ([zxfab17_cr0]))
noncomputable def zFfab17 (i : Nat) : zyR := zif (Nat.beq i 0) ([]) (zif (Nat.beq i 1) ([]) ([(18, 5, 5)]))
noncomputable def zSfab17 (i : Nat) : Nat := zif (Nat.beq i 0) (0) (zif (Nat.beq i 1) (0) (0))
def xΦab17 (x : Nat → Int) (E : zyEm) : Prop := xE E 18 5 ≤ 7 ∧ 0 ≤ x 0 ∧ x 0 ≤ 79
def xΨab17 (x : Nat → Int) (E E2 : zyEm) (_ : Int) : Prop := xE E2 18 5 = xE E 18 5 + 1 ∧ xE E2 31 (xE E 18 5) = x 0 ∧ (∀ k, 0 ≤ k → ¬ k = xE E 18 5 → xE E2 31 k = xE E 31 k) ∧ xE E2 32 (xE E 18 5) = -1 ∧ (∀ k, 0 ≤ k → ¬ k = xE E 18 5 → xE E2 32 k = xE E 32 k)
noncomputable def fpfab17 : zyR := [(18, 5, 5), (31, 0, 7), (32, 0, 7)]
theorem zyfab17_run : zyrS zymc zxi32 (32, 0, 0, 0, 0) 1 zpfab17 (fun _ _ => []) zFfab17 zSfab17 zXfab17 zRfab17 3 = true := by decide +kernel
theorem zyfab17_ck : zyAll (fun i => xsubR (zFfab17 i) fpfab17 && ((zXfab17 i).all xckX && (zRfab17 i).all (fun x => xckX x && xrtB false x))) 3 = true := by decide +kernel
def xIfab17 (i : Nat) (x0 : Nat → Int) (E0 : zyEm) (v : Nat → Int) (E : zyEm) : Prop := if i = 0 then (E = E0 ∧ (v 1) = x0 0) else if i = 1 then ((0 ≤ (v 1) ∧ (v 1) ≤ 79) ∧ xE E 18 5 = (xE E0 18 5) ∧ (xE E0 18 5) ≤ 7 ∧ xE E 31 (xE E0 18 5) = x0 0 ∧ (∀ k, 0 ≤ k → ¬ k = (xE E0 18 5) → xE E 31 k = xE E0 31 k) ∧ (∀ k, xE E 32 k = xE E0 32 k)) else (xE E 18 5 = (xE E0 18 5) ∧ (xE E0 18 5) ≤ 7 ∧ xE E 31 (xE E0 18 5) = x0 0 ∧ (∀ k, 0 ≤ k → ¬ k = (xE E0 18 5) → xE E 31 k = xE E0 31 k) ∧ xE E 32 (xE E0 18 5) = -1 ∧ (∀ k, 0 ≤ k → ¬ k = (xE E0 18 5) → xE E 32 k = xE E0 32 k))
def xMfab17 (i : Nat) (x0 : Nat → Int) (E0 : zyEm) (v : Nat → Int) (E : zyEm) : Nat := if i = 0 then (3) else if i = 1 then (2) else (1)
theorem xAbb17 {l : Launch} {en : zEn} {me : zMe} (hen : zG zxMeta 32 = some en) (hme : zG zMeth 32 = some me) : xFc l zymc en me 1 [18] 1 fpfab17 false xΦab17 xΨab17 := by
  have een : zG zxMeta 32 = some (zxi32, 2, 2, 3, 32, 0, 0, 0, 0) := rfl
  obtain ⟨me1, hme1, hOK⟩ := zall hen
  rw [hme] at hme1
  cases hme1
  rw [een] at hen
  cases hen
  have hr := zyfab17_run
  have hck := fun i hi => zyAll_iff zyfab17_ck i hi
  simp only [Bool.and_eq_true] at hck
  intro B
  refine xcut (mi := zymc) (B := B) hOK rfl rfl (ι := Fin 3) (fun i => zpfab17 i.val) (fun _ _ => []) (fun i => zFfab17 i.val) (fun i => zSfab17 i.val) (fun i => zXfab17 i.val) (fun i => zRfab17 i.val) (fun i y2 ct en2 me2 h => by cases h) 200000 (fun i => zyAll_iff hr i.val i.isLt) (fun i => (hck i.val i.isLt).1) (fun i => (hck i.val i.isLt).2.1) (fun i => (hck i.val i.isLt).2.2) ⟨0, by decide⟩ ⟨rfl, rfl, rfl, rfl⟩ ⟨by decide, by decide⟩ (fun i x0 E0 v E => xIfab17 i.val x0 E0 v E) (fun i x0 E0 v E => xMfab17 i.val x0 E0 v E) ?_ ?_ ?_
  · intro x0 E hx0 hT hΦ
    have hΦ : xΦab17 x0 E := hΦ
    refine ⟨fun k p hp => ?_, ?_⟩
    · have hk : k < 2 := (List.getElem?_eq_some_iff.mp hp).1
      have hk : k = 0 ∨ k = 1 := by omega
      rcases hk with rfl | rfl
      · have hp : some (0, 4294967295) = some p := hp
        cases hp
        show ((0 : Nat) : Int) ≤ 0 + 2147483648 ∧ 0 + 2147483648 ≤ ((4294967295 : Nat) : Int)
        omega
      · have hp : some (2147483648, 2147483727) = some p := hp
        cases hp
        show ((2147483648 : Nat) : Int) ≤ x0 0 + 2147483648 ∧ x0 0 + 2147483648 ≤ ((2147483727 : Nat) : Int)
        have hx := hx0 0
        have hP := hΦ.2
        omega
    · show E = E ∧ (x0 0) = x0 0
      exact ⟨rfl, rfl⟩
  · intro x0 s Wg hRu hrx hT0 hΦ i v H hT hrv hInv hKc hFr0 hIH x hx ρ2 v2 N2 H2 locs lsB stA hAt hB hv hr2 hXs hag hfr hFr hT2
    rcases i with ⟨i, hi⟩
    have hi2 : i = 0 ∨ i = 1 ∨ i = 2 := by omega
    rcases hi2 with rfl | rfl | rfl
    · have hx : x ∈ [zxfab17_ax0] := hx
      have hag : ∀ k, k < 2 → v2 k = v k := hag
      have hfr : xFr [] _ _ := hfr
      have ex := List.mem_singleton.mp hx
      subst ex
      obtain ⟨hF, hBd, hM⟩ := hXs
      have g1 : v2 1 = v 1 := hag 1 (by decide)
      have b0 : ((2147483648 : Nat) : Int) ≤ (v2 1) + 2147483648 ∧ (v2 1) + 2147483648 ≤ ((2147483727 : Nat) : Int) := xXb hBd 0 rfl
      have b1 : ((2147483648 : Nat) : Int) ≤ (v2 2) + 2147483648 ∧ (v2 2) + 2147483648 ≤ ((2147483656 : Nat) : Int) := xXb hBd 1 rfl
      have f0 : (0 : Int) ≤ 5 ∧ xE (zyEl zymc B H) 18 5 = (v2 2) := xXf hF 0 rfl
      have e18_5 : xE (zyEl zymc B H2) 18 5 = xE (zyEl zymc B H) 18 5 := xFr_E hfr rfl
      have e31 : ∀ i, xE (zyEl zymc B H2) 31 i = xE (zyEl zymc B H) 31 i := fun i => xFr_E hfr rfl
      have e32 : ∀ i, xE (zyEl zymc B H2) 32 i = xE (zyEl zymc B H) 32 i := fun i => xFr_E hfr rfl
      have y18_5 : ((2147483648 : Nat) : Int) ≤ xE (zyEl zymc B s.heap) 18 5 + 2147483648 ∧ xE (zyEl zymc B s.heap) 18 5 + 2147483648 ≤ ((2147483656 : Nat) : Int) := xTyF hT0 18 5 5 rfl rfl rfl rfl rfl rfl
      have hI : (zyEl zymc B H) = (zyEl zymc B s.heap) ∧ (v 1) = x0 0 := hInv
      have q18_5 : xE (zyEl zymc B H) 18 5 = xE (zyEl zymc B s.heap) 18 5 := by rw [hI.1]
      have q31 : ∀ i, xE (zyEl zymc B H) 31 i = xE (zyEl zymc B s.heap) 31 i := fun i => by rw [hI.1]
      have q32 : ∀ i, xE (zyEl zymc B H) 32 i = xE (zyEl zymc B s.heap) 32 i := fun i => by rw [hI.1]
      have hP := hΦ.1
      refine xSt hRu hIH hAt hB hv hFr 31 (ax := 0) 34359738369 68719476737 (v2 1) (v2 2) rfl (Or.inl ⟨rfl, rfl⟩) rfl (by decide +kernel) rfl rfl (by omega) (by show (v2 2) < ((8 : Nat) : Int); omega) (fun r hr q1 q2 => by rw [List.mem_singleton.mp hr]; exact ⟨rfl, by show ((2147483648 : Nat) : Int) ≤ (v2 1) + 2147483648; omega, by show (v2 1) + 2147483648 ≤ ((2147483727 : Nat) : Int); omega⟩) (zyin_iff.mpr ⟨(31, 0, 7), by decide, rfl, Nat.zero_le _, by show Int.toNat (v2 2) ≤ 7; omega⟩) (fun H3 hT3 hst3 hne3 hfn3 hFr3 => ?_)
      have hfe3 : ∀ (a2 : Nat) (k2 : Int), ¬ a2 = 31 → xE (zyEl zymc B H3) a2 k2 = xE (zyEl zymc B H2) a2 k2 := fun a2 k2 hne => by unfold xE; rw [hfn3 a2 k2.toNat (fun z => hne z.1)]
      have d18_5 : xE (zyEl zymc B H3) 18 5 = xE (zyEl zymc B H2) 18 5 := hfe3 18 5 (fun z => absurd z (by decide))
      refine ⟨⟨1, by decide⟩, [0, 34359738369], [0, (v2 1)], rfl, ⟨by decide +kernel, ⟨rfl, by decide +kernel⟩, (xcs_c rfl (xcs_c rfl xcs_n)), (xe_0 (xe_c (by omega) (by omega) rfl xe_n)), xkq_n⟩, rfl, ?_, ?_⟩
      · show (0 ≤ ((v2 1) : Int) ∧ ((v2 1) : Int) ≤ 79) ∧ xE (zyEl zymc B H3) 18 5 = (xE (zyEl zymc B s.heap) 18 5) ∧ (xE (zyEl zymc B s.heap) 18 5) ≤ 7 ∧ xE (zyEl zymc B H3) 31 (xE (zyEl zymc B s.heap) 18 5) = x0 0 ∧ (∀ k, 0 ≤ k → ¬ k = (xE (zyEl zymc B s.heap) 18 5) → xE (zyEl zymc B H3) 31 k = xE (zyEl zymc B s.heap) 31 k) ∧ (∀ k, xE (zyEl zymc B H3) 32 k = xE (zyEl zymc B s.heap) 32 k)
        rw [show (v2 2) = xE (zyEl zymc B s.heap) 18 5 by omega] at hst3 hne3
        exact ⟨by omega, by omega, by omega, hst3.trans (by omega), fun k k0 k1 => (hne3 31 k k0 (fun z => k1 z.2)).trans ((e31 k).trans (q31 k)), fun k => (hfe3 32 k (fun z => absurd z (by decide))).trans ((e32 k).trans (q32 k))⟩
      · show 2 < 3
        omega
    · have hx : x ∈ [zxfab17_bx0] := hx
      have hag : ∀ k, k < 2 → v2 k = v k := hag
      have hfr : xFr [] _ _ := hfr
      have ex := List.mem_singleton.mp hx
      subst ex
      obtain ⟨hF, hBd, hM⟩ := hXs
      have g1 : v2 1 = v 1 := hag 1 (by decide)
      have b0 : ((2147483648 : Nat) : Int) ≤ (v2 1) + 2147483648 ∧ (v2 1) + 2147483648 ≤ ((2147483727 : Nat) : Int) := xXb hBd 0 rfl
      have b1 : ((2147483648 : Nat) : Int) ≤ (v2 2) + 2147483648 ∧ (v2 2) + 2147483648 ≤ ((2147483656 : Nat) : Int) := xXb hBd 1 rfl
      have f0 : (0 : Int) ≤ 5 ∧ xE (zyEl zymc B H) 18 5 = (v2 2) := xXf hF 0 rfl
      have e18_5 : xE (zyEl zymc B H2) 18 5 = xE (zyEl zymc B H) 18 5 := xFr_E hfr rfl
      have e31 : ∀ i, xE (zyEl zymc B H2) 31 i = xE (zyEl zymc B H) 31 i := fun i => xFr_E hfr rfl
      have e32 : ∀ i, xE (zyEl zymc B H2) 32 i = xE (zyEl zymc B H) 32 i := fun i => xFr_E hfr rfl
      have y18_5 : ((2147483648 : Nat) : Int) ≤ xE (zyEl zymc B s.heap) 18 5 + 2147483648 ∧ xE (zyEl zymc B s.heap) 18 5 + 2147483648 ≤ ((2147483656 : Nat) : Int) := xTyF hT0 18 5 5 rfl rfl rfl rfl rfl rfl
      have hI : (0 ≤ (v 1) ∧ (v 1) ≤ 79) ∧ xE (zyEl zymc B H) 18 5 = (xE (zyEl zymc B s.heap) 18 5) ∧ (xE (zyEl zymc B s.heap) 18 5) ≤ 7 ∧ xE (zyEl zymc B H) 31 (xE (zyEl zymc B s.heap) 18 5) = x0 0 ∧ (∀ k, 0 ≤ k → ¬ k = (xE (zyEl zymc B s.heap) 18 5) → xE (zyEl zymc B H) 31 k = xE (zyEl zymc B s.heap) 31 k) ∧ (∀ k, xE (zyEl zymc B H) 32 k = xE (zyEl zymc B s.heap) 32 k) := hInv
      obtain ⟨i1, i2, i3, i4, i5, i6⟩ := hI
      refine xSt hRu hIH hAt hB hv hFr 32 (ax := 0) 34359738360 68719476737 (-1) (v2 2) rfl (Or.inl ⟨rfl, rfl⟩) rfl (by decide +kernel) rfl rfl (by omega) (by show (v2 2) < ((8 : Nat) : Int); omega) (fun r hr q1 q2 => by rw [List.mem_singleton.mp hr]; exact ⟨rfl, by show ((2147483647 : Nat) : Int) ≤ (-1) + 2147483648; omega, by show (-1) + 2147483648 ≤ ((2147483727 : Nat) : Int); omega⟩) (zyin_iff.mpr ⟨(32, 0, 7), by decide, rfl, Nat.zero_le _, by show Int.toNat (v2 2) ≤ 7; omega⟩) (fun H3 hT3 hst3 hne3 hfn3 hFr3 => ?_)
      have hfe3 : ∀ (a2 : Nat) (k2 : Int), ¬ a2 = 32 → xE (zyEl zymc B H3) a2 k2 = xE (zyEl zymc B H2) a2 k2 := fun a2 k2 hne => by unfold xE; rw [hfn3 a2 k2.toNat (fun z => hne z.1)]
      have d18_5 : xE (zyEl zymc B H3) 18 5 = xE (zyEl zymc B H2) 18 5 := hfe3 18 5 (fun z => absurd z (by decide))
      have z18_5 : ((2147483648 : Nat) : Int) ≤ xE (zyEl zymc B H3) 18 5 + 2147483648 ∧ xE (zyEl zymc B H3) 18 5 + 2147483648 ≤ ((2147483656 : Nat) : Int) := xTyF hT3 18 5 5 rfl rfl rfl rfl rfl rfl
      refine ⟨⟨2, by decide⟩, [0, 34359738369], [0, (v2 1), xE (zyEl zymc B H3) 18 5], rfl, ⟨by decide +kernel, ⟨rfl, by decide +kernel⟩, (xcs_c rfl (xcs_c rfl xcs_n)), (xe_0 (xe_c (by omega) (by omega) rfl (xe_c (by omega) (by omega) rfl xe_n))), (xkq_c hT3 18 5 (q := 5) rfl rfl rfl rfl rfl rfl rfl rfl rfl rfl rfl xkq_n)⟩, rfl, ?_, ?_⟩
      · show xE (zyEl zymc B H3) 18 5 = (xE (zyEl zymc B s.heap) 18 5) ∧ (xE (zyEl zymc B s.heap) 18 5) ≤ 7 ∧ xE (zyEl zymc B H3) 31 (xE (zyEl zymc B s.heap) 18 5) = x0 0 ∧ (∀ k, 0 ≤ k → ¬ k = (xE (zyEl zymc B s.heap) 18 5) → xE (zyEl zymc B H3) 31 k = xE (zyEl zymc B s.heap) 31 k) ∧ xE (zyEl zymc B H3) 32 (xE (zyEl zymc B s.heap) 18 5) = -1 ∧ (∀ k, 0 ≤ k → ¬ k = (xE (zyEl zymc B s.heap) 18 5) → xE (zyEl zymc B H3) 32 k = xE (zyEl zymc B s.heap) 32 k)
        rw [show (v2 2) = xE (zyEl zymc B s.heap) 18 5 by omega] at hst3 hne3
        exact ⟨by omega, by omega, (hfe3 31 _ (fun z => absurd z (by decide))).trans ((e31 _).trans i4), fun k k0 k1 => (hfe3 31 k (fun z => absurd z (by decide))).trans ((e31 k).trans (i5 k k0 k1)), hst3, fun k k0 k1 => (hne3 32 k k0 (fun z => k1 z.2)).trans ((e32 k).trans (i6 k))⟩
      · show 1 < 2
        omega
    · cases hx
  · intro x0 E0 E E2 hrx hT0 hΦ i v hT hrv hInv hKc hFr0 x hx v2 hr2 hXs hag hfr hFr hT2
    rcases i with ⟨i, hi⟩
    have hi2 : i = 0 ∨ i = 1 ∨ i = 2 := by omega
    rcases hi2 with rfl | rfl | rfl
    · cases hx
    · cases hx
    · have hx : x ∈ [zxfab17_cr0] := hx
      have hag : ∀ k, k < 3 → v2 k = v k := hag
      have hfr : xFr [(18, 5, 5)] _ _ := hfr
      have ex := List.mem_singleton.mp hx
      subst ex
      obtain ⟨hF, hBd, hM⟩ := hXs
      have g1 : v2 1 = v 1 := hag 1 (by decide)
      have g2 : v2 2 = v 2 := hag 2 (by decide)
      have b0 : ((2147483648 : Nat) : Int) ≤ (v2 2) + 2147483648 ∧ (v2 2) + 2147483648 ≤ ((2147483655 : Nat) : Int) := xXb hBd 0 rfl
      have k0 : xE E 18 5 = v 2 := xKcf hKc 0 rfl rfl
      have m0 : xE E2 18 5 = (v2 2 + 1) := xXm hM 0 rfl
      have e31 : ∀ i, xE E2 31 i = xE E 31 i := fun i => xFr_E hfr rfl
      have e32 : ∀ i, xE E2 32 i = xE E 32 i := fun i => xFr_E hfr rfl
      have y18_5 : ((2147483648 : Nat) : Int) ≤ xE E0 18 5 + 2147483648 ∧ xE E0 18 5 + 2147483648 ≤ ((2147483656 : Nat) : Int) := xTyF hT0 18 5 5 rfl rfl rfl rfl rfl rfl
      have hI : xE E 18 5 = (xE E0 18 5) ∧ (xE E0 18 5) ≤ 7 ∧ xE E 31 (xE E0 18 5) = x0 0 ∧ (∀ k, 0 ≤ k → ¬ k = (xE E0 18 5) → xE E 31 k = xE E0 31 k) ∧ xE E 32 (xE E0 18 5) = -1 ∧ (∀ k, 0 ≤ k → ¬ k = (xE E0 18 5) → xE E 32 k = xE E0 32 k) := hInv
      show xΨab17 x0 E0 E2 0
      obtain ⟨i1, i2, i3, i4, i5, i6⟩ := hI
      unfold xΨab17
      exact ⟨by omega, (e31 _).trans i3, fun k k0 k1 => (e31 k).trans (i4 k k0 k1), (e32 _).trans i5, fun k k0 k1 => (e32 k).trans (i6 k k0 k1)⟩
noncomputable def zxfwa17_zx0 : zyXp := (0, [267, 34359738369], [], [], [(34359738369, 2147483641, 2147483655)], [])
noncomputable def zpfwa17_z : zyPh := (0, [267, 34359738369], [(0, 4294967295), (2147483641, 2147483655)], [], [])
noncomputable def zxfwa17_ax0 : zyXp := (21, [267, 34359738369], [34359738369, 68719476737, 275], [(20, 0, 68719476737, 480)], [(34359738369, 2147483641, 2147483655), (68719476737, 2147483648, 2147483707)], [(540673, 68719476737)])
noncomputable def zxfwa17_ar0 : zyXp := (0, [], [], [(21, 0, 68719476737, 480)], [(68719476737, 2147483708, 2147483708)], [(540673, 488)])
noncomputable def zpfwa17_a : zyPh := (0, [267, 34359738369], [(0, 4294967295), (2147483641, 2147483655), (2147483648, 2147483708)], [(540673, 68719476737)], [])
noncomputable def zxfwa17_br0 : zyXp := (0, [], [], [], [(68719476737, 2147483648, 2147483707)], [(540673, 68719476745)])
noncomputable def zpfwa17_b : zyPh := (22, [267, 34359738369], [(0, 4294967295), (2147483641, 2147483655), (2147483648, 2147483707)], [(540673, 68719476737)], [])
noncomputable def zpfwa17 (i : Nat) : zyPh := zif (Nat.beq i 0) (zpfwa17_z) (zif (Nat.beq i 1) (zpfwa17_a) (zpfwa17_b))
noncomputable def zXfwa17 (i : Nat) : List zyXp := zif (Nat.beq i 0) ([zxfwa17_zx0]) (zif (Nat.beq i 1) ([zxfwa17_ax0]) ([]))
noncomputable def zRfwa17 (i : Nat) : List zyXp := zif (Nat.beq i 0) ([]) (zif (Nat.beq i 1) ([zxfwa17_ar0]) ([zxfwa17_br0]))
noncomputable def zFfwa17 (i : Nat) : zyR := zif (Nat.beq i 0) ([]) (zif (Nat.beq i 1) ([(33, 1, 1)]) ([(33, 1, 1)]))
noncomputable def zSfwa17 (i : Nat) : Nat := zif (Nat.beq i 0) (0) (zif (Nat.beq i 1) (0) (0))
def xΦwa17 (x : Nat → Int) (E : zyEm) : Prop := xE E 33 1 ≤ 60 ∧ -7 ≤ x 0 ∧ x 0 ≤ 7
def xΨwa17 (x : Nat → Int) (E E2 : zyEm) (_ : Int) : Prop := xE E2 33 1 = xE E 33 1 + 1 ∧ (xE E 33 1 < 60 → xE E2 34 (xE E 33 1) = x 0) ∧ (∀ k, 0 ≤ k → ¬ k = xE E 33 1 → xE E2 34 k = xE E 34 k)
noncomputable def fpfwa17 : zyR := [(33, 1, 1), (34, 0, 59)]
theorem zyfwa17_run : zyrS zymc zxi107 (107, 0, 0, 0, 0) 1 zpfwa17 (fun _ _ => []) zFfwa17 zSfwa17 zXfwa17 zRfwa17 3 = true := by decide +kernel
theorem zyfwa17_ck : zyAll (fun i => xsubR (zFfwa17 i) fpfwa17 && ((zXfwa17 i).all xckX && (zRfwa17 i).all (fun x => xckX x && xrtB false x))) 3 = true := by decide +kernel
def xIfwa17 (i : Nat) (x0 : Nat → Int) (E0 : zyEm) (v : Nat → Int) (E : zyEm) : Prop := if i = 0 then (E = E0 ∧ (v 1) = x0 0) else if i = 1 then ((v 1) = x0 0 ∧ xE E 33 1 = (xE E0 33 1) ∧ (xE E0 33 1) ≤ 60 ∧ (∀ k, xE E 34 k = xE E0 34 k)) else (xE E 33 1 = (xE E0 33 1) ∧ (xE E0 33 1) < 60 ∧ xE E 34 (xE E0 33 1) = x0 0 ∧ (∀ k, 0 ≤ k → ¬ k = (xE E0 33 1) → xE E 34 k = xE E0 34 k))
def xMfwa17 (i : Nat) (x0 : Nat → Int) (E0 : zyEm) (v : Nat → Int) (E : zyEm) : Nat := if i = 0 then (3) else if i = 1 then (2) else (1)
theorem xWa17 {l : Launch} {en : zEn} {me : zMe} (hen : zG zxMeta 107 = some en) (hme : zG zMeth 107 = some me) : xFc l zymc en me 1 [33] 1 fpfwa17 false xΦwa17 xΨwa17 := by
  have een : zG zxMeta 107 = some (zxi107, 2, 2, 9, 107, 0, 0, 0, 0) := rfl
  obtain ⟨me1, hme1, hOK⟩ := zall hen
  rw [hme] at hme1
  cases hme1
  rw [een] at hen
  cases hen
  have hr := zyfwa17_run
  have hck := fun i hi => zyAll_iff zyfwa17_ck i hi
  simp only [Bool.and_eq_true] at hck
  intro B
  refine xcut (mi := zymc) (B := B) hOK rfl rfl (ι := Fin 3) (fun i => zpfwa17 i.val) (fun _ _ => []) (fun i => zFfwa17 i.val) (fun i => zSfwa17 i.val) (fun i => zXfwa17 i.val) (fun i => zRfwa17 i.val) (fun i y2 ct en2 me2 h => by cases h) 200000 (fun i => zyAll_iff hr i.val i.isLt) (fun i => (hck i.val i.isLt).1) (fun i => (hck i.val i.isLt).2.1) (fun i => (hck i.val i.isLt).2.2) ⟨0, by decide⟩ ⟨rfl, rfl, rfl, rfl⟩ ⟨by decide, by decide⟩ (fun i x0 E0 v E => xIfwa17 i.val x0 E0 v E) (fun i x0 E0 v E => xMfwa17 i.val x0 E0 v E) ?_ ?_ ?_
  · intro x0 E hx0 hT hΦ
    have hΦ : xΦwa17 x0 E := hΦ
    refine ⟨fun k p hp => ?_, ?_⟩
    · have hk : k < 2 := (List.getElem?_eq_some_iff.mp hp).1
      have hk : k = 0 ∨ k = 1 := by omega
      rcases hk with rfl | rfl
      · have hp : some (0, 4294967295) = some p := hp
        cases hp
        show ((0 : Nat) : Int) ≤ 0 + 2147483648 ∧ 0 + 2147483648 ≤ ((4294967295 : Nat) : Int)
        omega
      · have hp : some (2147483641, 2147483655) = some p := hp
        cases hp
        show ((2147483641 : Nat) : Int) ≤ x0 0 + 2147483648 ∧ x0 0 + 2147483648 ≤ ((2147483655 : Nat) : Int)
        have hx := hx0 0
        have hP := hΦ.2
        omega
    · show E = E ∧ (x0 0) = x0 0
      exact ⟨rfl, rfl⟩
  · intro x0 s Wg hRu hrx hT0 hΦ i v H hT hrv hInv hKc hFr0 hIH x hx ρ2 v2 N2 H2 locs lsB stA hAt hB hv hr2 hXs hag hfr hFr hT2
    rcases i with ⟨i, hi⟩
    have hi2 : i = 0 ∨ i = 1 ∨ i = 2 := by omega
    rcases hi2 with rfl | rfl | rfl
    · have hx : x ∈ [zxfwa17_zx0] := hx
      have hag : ∀ k, k < 2 → v2 k = v k := hag
      have hfr : xFr [] _ _ := hfr
      have ex := List.mem_singleton.mp hx
      subst ex
      obtain ⟨hF, hBd, hM⟩ := hXs
      have g1 : v2 1 = v 1 := hag 1 (by decide)
      have b0 : ((2147483641 : Nat) : Int) ≤ (v2 1) + 2147483648 ∧ (v2 1) + 2147483648 ≤ ((2147483655 : Nat) : Int) := xXb hBd 0 rfl
      have e33_1 : xE (zyEl zymc B H2) 33 1 = xE (zyEl zymc B H) 33 1 := xFr_E hfr rfl
      have e34 : ∀ i, xE (zyEl zymc B H2) 34 i = xE (zyEl zymc B H) 34 i := fun i => xFr_E hfr rfl
      have y33_1 : ((2147483648 : Nat) : Int) ≤ xE (zyEl zymc B s.heap) 33 1 + 2147483648 ∧ xE (zyEl zymc B s.heap) 33 1 + 2147483648 ≤ ((2147483709 : Nat) : Int) := xTyF hT0 33 1 1 rfl rfl rfl rfl rfl rfl
      have hI : (zyEl zymc B H) = (zyEl zymc B s.heap) ∧ (v 1) = x0 0 := hInv
      have q33_1 : xE (zyEl zymc B H) 33 1 = xE (zyEl zymc B s.heap) 33 1 := by rw [hI.1]
      have q34 : ∀ i, xE (zyEl zymc B H) 34 i = xE (zyEl zymc B s.heap) 34 i := fun i => by rw [hI.1]
      have hP := hΦ.1
      have z33_1 : ((2147483648 : Nat) : Int) ≤ xE (zyEl zymc B H2) 33 1 + 2147483648 ∧ xE (zyEl zymc B H2) 33 1 + 2147483648 ≤ ((2147483709 : Nat) : Int) := xTyF hT2 33 1 1 rfl rfl rfl rfl rfl rfl
      refine xGo hIH hAt hB hv hFr ⟨1, by decide⟩ [0, 34359738369] [0, (v2 1), xE (zyEl zymc B H2) 33 1] rfl ⟨by decide +kernel, ⟨rfl, by decide +kernel⟩, (xcs_c rfl (xcs_c rfl xcs_n)), (xe_0 (xe_c (by omega) (by omega) rfl (xe_c (by omega) (by omega) rfl xe_n))), (xkq_c hT2 33 1 (q := 1) rfl rfl rfl rfl rfl rfl rfl rfl rfl rfl rfl xkq_n)⟩ xst_n ?_ ?_
      · show ((v2 1) : Int) = x0 0 ∧ xE (zyEl zymc B H2) 33 1 = (xE (zyEl zymc B s.heap) 33 1) ∧ (xE (zyEl zymc B s.heap) 33 1) ≤ 60 ∧ (∀ k, xE (zyEl zymc B H2) 34 k = xE (zyEl zymc B s.heap) 34 k)
        exact ⟨by omega, by omega, by omega, fun k => (e34 k).trans (q34 k)⟩
      · show 2 < 3
        omega
    · have hx : x ∈ [zxfwa17_ax0] := hx
      have hag : ∀ k, k < 3 → v2 k = v k := hag
      have hfr : xFr [(33, 1, 1)] _ _ := hfr
      have ex := List.mem_singleton.mp hx
      subst ex
      obtain ⟨hF, hBd, hM⟩ := hXs
      have g1 : v2 1 = v 1 := hag 1 (by decide)
      have g2 : v2 2 = v 2 := hag 2 (by decide)
      have b0 : ((2147483641 : Nat) : Int) ≤ (v2 1) + 2147483648 ∧ (v2 1) + 2147483648 ≤ ((2147483655 : Nat) : Int) := xXb hBd 0 rfl
      have b1 : ((2147483648 : Nat) : Int) ≤ (v2 2) + 2147483648 ∧ (v2 2) + 2147483648 ≤ ((2147483707 : Nat) : Int) := xXb hBd 1 rfl
      have k0 : xE (zyEl zymc B H) 33 1 = v 2 := xKcf hKc 0 rfl rfl
      have f0 : (v2 2) < 60 := xXf hF 0 rfl
      have m0 : xE (zyEl zymc B H2) 33 1 = (v2 2) := xXm hM 0 rfl
      have e34 : ∀ i, xE (zyEl zymc B H2) 34 i = xE (zyEl zymc B H) 34 i := fun i => xFr_E hfr rfl
      have y33_1 : ((2147483648 : Nat) : Int) ≤ xE (zyEl zymc B s.heap) 33 1 + 2147483648 ∧ xE (zyEl zymc B s.heap) 33 1 + 2147483648 ≤ ((2147483709 : Nat) : Int) := xTyF hT0 33 1 1 rfl rfl rfl rfl rfl rfl
      have hI : (v 1) = x0 0 ∧ xE (zyEl zymc B H) 33 1 = (xE (zyEl zymc B s.heap) 33 1) ∧ (xE (zyEl zymc B s.heap) 33 1) ≤ 60 ∧ (∀ k, xE (zyEl zymc B H) 34 k = xE (zyEl zymc B s.heap) 34 k) := hInv
      obtain ⟨i1, i2, i3, i4⟩ := hI
      refine xSt hRu hIH hAt hB hv hFr 34 (ax := 0) 34359738369 68719476737 (v2 1) (v2 2) rfl (Or.inl ⟨rfl, rfl⟩) rfl (by decide +kernel) rfl rfl (by omega) (by show (v2 2) < ((60 : Nat) : Int); omega) (fun r hr q1 q2 => by rw [List.mem_singleton.mp hr]; exact ⟨rfl, by show ((2147483641 : Nat) : Int) ≤ (v2 1) + 2147483648; omega, by show (v2 1) + 2147483648 ≤ ((2147483655 : Nat) : Int); omega⟩) (zyin_iff.mpr ⟨(34, 0, 59), by decide, rfl, Nat.zero_le _, by show Int.toNat (v2 2) ≤ 59; omega⟩) (fun H3 hT3 hst3 hne3 hfn3 hFr3 => ?_)
      have hfe3 : ∀ (a2 : Nat) (k2 : Int), ¬ a2 = 34 → xE (zyEl zymc B H3) a2 k2 = xE (zyEl zymc B H2) a2 k2 := fun a2 k2 hne => by unfold xE; rw [hfn3 a2 k2.toNat (fun z => hne z.1)]
      have d33_1 : xE (zyEl zymc B H3) 33 1 = xE (zyEl zymc B H2) 33 1 := hfe3 33 1 (fun z => absurd z (by decide))
      have z33_1 : ((2147483648 : Nat) : Int) ≤ xE (zyEl zymc B H3) 33 1 + 2147483648 ∧ xE (zyEl zymc B H3) 33 1 + 2147483648 ≤ ((2147483709 : Nat) : Int) := xTyF hT3 33 1 1 rfl rfl rfl rfl rfl rfl
      refine ⟨⟨2, by decide⟩, [0, 34359738369], [0, (v2 1), xE (zyEl zymc B H3) 33 1], rfl, ⟨by decide +kernel, ⟨rfl, by decide +kernel⟩, (xcs_c rfl (xcs_c rfl xcs_n)), (xe_0 (xe_c (by omega) (by omega) rfl (xe_c (by omega) (by omega) rfl xe_n))), (xkq_c hT3 33 1 (q := 1) rfl rfl rfl rfl rfl rfl rfl rfl rfl rfl rfl xkq_n)⟩, rfl, ?_, ?_⟩
      · show xE (zyEl zymc B H3) 33 1 = (xE (zyEl zymc B s.heap) 33 1) ∧ (xE (zyEl zymc B s.heap) 33 1) < 60 ∧ xE (zyEl zymc B H3) 34 (xE (zyEl zymc B s.heap) 33 1) = x0 0 ∧ (∀ k, 0 ≤ k → ¬ k = (xE (zyEl zymc B s.heap) 33 1) → xE (zyEl zymc B H3) 34 k = xE (zyEl zymc B s.heap) 34 k)
        rw [show (v2 2) = xE (zyEl zymc B s.heap) 33 1 by omega] at hst3 hne3
        exact ⟨by omega, by omega, hst3.trans (by omega), fun k k0 k1 => (hne3 34 k k0 (fun z => k1 z.2)).trans ((e34 k).trans (i4 k))⟩
      · show 1 < 2
        omega
    · cases hx
  · intro x0 E0 E E2 hrx hT0 hΦ i v hT hrv hInv hKc hFr0 x hx v2 hr2 hXs hag hfr hFr hT2
    rcases i with ⟨i, hi⟩
    have hi2 : i = 0 ∨ i = 1 ∨ i = 2 := by omega
    rcases hi2 with rfl | rfl | rfl
    · cases hx
    · have hx : x ∈ [zxfwa17_ar0] := hx
      have hag : ∀ k, k < 3 → v2 k = v k := hag
      have hfr : xFr [(33, 1, 1)] _ _ := hfr
      have ex := List.mem_singleton.mp hx
      subst ex
      obtain ⟨hF, hBd, hM⟩ := hXs
      have g1 : v2 1 = v 1 := hag 1 (by decide)
      have g2 : v2 2 = v 2 := hag 2 (by decide)
      have b0 : ((2147483708 : Nat) : Int) ≤ (v2 2) + 2147483648 ∧ (v2 2) + 2147483648 ≤ ((2147483708 : Nat) : Int) := xXb hBd 0 rfl
      have k0 : xE E 33 1 = v 2 := xKcf hKc 0 rfl rfl
      have f0 : 60 ≤ (v2 2) := xXf hF 0 rfl
      have m0 : xE E2 33 1 = 61 := xXm hM 0 rfl
      have e34 : ∀ i, xE E2 34 i = xE E 34 i := fun i => xFr_E hfr rfl
      have y33_1 : ((2147483648 : Nat) : Int) ≤ xE E0 33 1 + 2147483648 ∧ xE E0 33 1 + 2147483648 ≤ ((2147483709 : Nat) : Int) := xTyF hT0 33 1 1 rfl rfl rfl rfl rfl rfl
      have hI : (v 1) = x0 0 ∧ xE E 33 1 = (xE E0 33 1) ∧ (xE E0 33 1) ≤ 60 ∧ (∀ k, xE E 34 k = xE E0 34 k) := hInv
      show xΨwa17 x0 E0 E2 0
      obtain ⟨i1, i2, i3, i4⟩ := hI
      unfold xΨwa17
      exact ⟨by omega, fun h => by omega, fun k k0 k1 => (e34 k).trans (i4 k)⟩
    · have hx : x ∈ [zxfwa17_br0] := hx
      have hag : ∀ k, k < 3 → v2 k = v k := hag
      have hfr : xFr [(33, 1, 1)] _ _ := hfr
      have ex := List.mem_singleton.mp hx
      subst ex
      obtain ⟨hF, hBd, hM⟩ := hXs
      have g1 : v2 1 = v 1 := hag 1 (by decide)
      have g2 : v2 2 = v 2 := hag 2 (by decide)
      have b0 : ((2147483648 : Nat) : Int) ≤ (v2 2) + 2147483648 ∧ (v2 2) + 2147483648 ≤ ((2147483707 : Nat) : Int) := xXb hBd 0 rfl
      have k0 : xE E 33 1 = v 2 := xKcf hKc 0 rfl rfl
      have m0 : xE E2 33 1 = (v2 2 + 1) := xXm hM 0 rfl
      have e34 : ∀ i, xE E2 34 i = xE E 34 i := fun i => xFr_E hfr rfl
      have y33_1 : ((2147483648 : Nat) : Int) ≤ xE E0 33 1 + 2147483648 ∧ xE E0 33 1 + 2147483648 ≤ ((2147483709 : Nat) : Int) := xTyF hT0 33 1 1 rfl rfl rfl rfl rfl rfl
      have hI : xE E 33 1 = (xE E0 33 1) ∧ (xE E0 33 1) < 60 ∧ xE E 34 (xE E0 33 1) = x0 0 ∧ (∀ k, 0 ≤ k → ¬ k = (xE E0 33 1) → xE E 34 k = xE E0 34 k) := hInv
      show xΨwa17 x0 E0 E2 0
      obtain ⟨i1, i2, i3, i4⟩ := hI
      unfold xΨwa17
      exact ⟨by omega, fun h => (e34 _).trans i3, fun k k0 k1 => (e34 k).trans (i4 k k0 k1)⟩
