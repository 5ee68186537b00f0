section
/-! THE CLASS reads: countFree, hasStartAt, addBobbin, add (printed by m6.py) -/
noncomputable def zxfcf17_ax0 : zyXp := (4, [147, 0, 0], [], [], [], [])
noncomputable def zpfcf17_a : zyPh := (0, [147, 13, 13], [(0, 4294967295), (0, 4294967295), (0, 4294967295)], [], [])
noncomputable def zxfcf17_bx0 : zyXp := (4, [147, 34359738377, 68719476745], [], [(24, 103079215105, 19, 24), (20, 0, 68719476737, 103079215105), (24, 137438953473, 30, 68719476737), (23, 0, 137438953473, 0)], [(34359738369, 2147483648, 2147483679), (68719476737, 2147483648, 2147483678), (103079215105, 2147483649, 2147483679), (137438953473, 2147483649, 2147483649), (34359738377, 2147483649, 2147483680), (68719476745, 2147483649, 2147483679)], [])
noncomputable def zxfcf17_bx1 : zyXp := (4, [147, 34359738369, 68719476745], [], [(24, 103079215105, 19, 24), (20, 0, 68719476737, 103079215105), (24, 137438953473, 30, 68719476737), (22, 0, 137438953473, 0)], [(34359738369, 2147483648, 2147483679), (68719476737, 2147483648, 2147483678), (103079215105, 2147483649, 2147483679), (137438953473, 2147483648, 2147483648), (68719476745, 2147483649, 2147483679)], [])
noncomputable def zxfcf17_br0 : zyXp := (0, [], [34359738369], [(24, 103079215105, 19, 24), (21, 0, 68719476737, 103079215105)], [(34359738369, 2147483648, 2147483679), (68719476737, 2147483648, 2147483679), (103079215105, 2147483648, 2147483679)], [])
noncomputable def zpfcf17_b : zyPh := (4, [147, 34359738369, 68719476737], [(0, 4294967295), (2147483648, 2147483679), (2147483648, 2147483679)], [], [])
noncomputable def zpfcf17 (i : Nat) : zyPh := zif (Nat.beq i 0) (zpfcf17_a) (zpfcf17_b)
noncomputable def zXfcf17 (i : Nat) : List zyXp := zif (Nat.beq i 0) ([zxfcf17_ax0]) ([zxfcf17_bx0, zxfcf17_bx1])
noncomputable def zRfcf17 (i : Nat) : List zyXp := zif (Nat.beq i 0) ([]) ([zxfcf17_br0])
noncomputable def zFfcf17 (i : Nat) : zyR := zif (Nat.beq i 0) ([]) ([])
noncomputable def zSfcf17 (i : Nat) : Nat := zif (Nat.beq i 0) (0) (0)
def xΦcf17 (_ : Nat → Int) (_ : zyEm) : Prop := True
def xΨcf17 (_ : Nat → Int) (E _ : zyEm) (r : Int) : Prop := (0 ≤ r ∧ r ≤ 31) ∧ ∀ S, xAb17 E S → r = pCnt S 104 (gN (S 0) (S 1)).toNat
noncomputable def fpfcf17 : zyR := []
theorem zyfcf17_run : zyrS zymc zxi35 (35, 0, 0, 1, 0) 1 zpfcf17 (fun _ _ => []) zFfcf17 zSfcf17 zXfcf17 zRfcf17 2 = true := by decide +kernel
theorem zyfcf17_ck : zyAll (fun i => xsubR (zFfcf17 i) fpfcf17 && ((zXfcf17 i).all xckX && (zRfcf17 i).all (fun x => xckX x && xrtB true x))) 2 = true := by decide +kernel
def xIfcf17 (i : Nat) (x0 : Nat → Int) (E0 : zyEm) (v : Nat → Int) (E : zyEm) : Prop := if i = 0 then (E = E0) else ((0 ≤ (v 2) ∧ (v 2) ≤ xE E0 19 3) ∧ (0 ≤ (v 1) ∧ (v 1) ≤ (v 2)) ∧ ∀ S, xAb17 E0 S → (v 1) = pCnt S 104 ((v 2)).toNat)
def xMfcf17 (i : Nat) (x0 : Nat → Int) (E0 : zyEm) (v : Nat → Int) (E : zyEm) : Nat := if i = 0 then (100) else ((99 - (v 2)).toNat)
theorem xCf17 {l : Launch} {en : zEn} {me : zMe} (hen : zG zxMeta 35 = some en) (hme : zG zMeth 35 = some me) : xFc l zymc en me 1 [18] 0 fpfcf17 true xΦcf17 xΨcf17 := by
  have een : zG zxMeta 35 = some (zxi35, 1, 3, 3, 35, 0, 0, 1, 0) := rfl
  obtain ⟨me1, hme1, hOK⟩ := zall hen
  rw [hme] at hme1
  cases hme1
  rw [een] at hen
  cases hen
  have hr := zyfcf17_run
  have hck := fun i hi => zyAll_iff zyfcf17_ck i hi
  simp only [Bool.and_eq_true] at hck
  intro B
  refine xcut (mi := zymc) (B := B) hOK rfl rfl (ι := Fin 2) (fun i => zpfcf17 i.val) (fun _ _ => []) (fun i => zFfcf17 i.val) (fun i => zSfcf17 i.val) (fun i => zXfcf17 i.val) (fun i => zRfcf17 i.val) (fun i y2 ct en2 me2 h => by cases h) 200000 (fun i => zyAll_iff hr i.val i.isLt) (fun i => (hck i.val i.isLt).1) (fun i => (hck i.val i.isLt).2.1) (fun i => (hck i.val i.isLt).2.2) ⟨0, by decide⟩ ⟨rfl, rfl, rfl, rfl⟩ ⟨by decide, by decide⟩ (fun i x0 E0 v E => xIfcf17 i.val x0 E0 v E) (fun i x0 E0 v E => xMfcf17 i.val x0 E0 v E) ?_ ?_ ?_
  · intro x0 E hx0 hT hΦ
    have hΦ : xΦcf17 x0 E := hΦ
    refine ⟨fun k p hp => ?_, ?_⟩
    · have hk : k < 3 := (List.getElem?_eq_some_iff.mp hp).1
      have hk : k = 0 ∨ k = 1 ∨ k = 2 := by omega
      rcases hk with rfl | rfl | rfl
      · have hp : some (0, 4294967295) = some p := hp
        cases hp
        show ((0 : Nat) : Int) ≤ 0 + 2147483648 ∧ 0 + 2147483648 ≤ ((4294967295 : Nat) : Int)
        omega
      · have hp : some (0, 4294967295) = some p := hp
        cases hp
        show ((0 : Nat) : Int) ≤ x0 0 + 2147483648 ∧ x0 0 + 2147483648 ≤ ((4294967295 : Nat) : Int)
        have hx := hx0 0
        omega
      · have hp : some (0, 4294967295) = some p := hp
        cases hp
        show ((0 : Nat) : Int) ≤ x0 1 + 2147483648 ∧ x0 1 + 2147483648 ≤ ((4294967295 : Nat) : Int)
        have hx := hx0 1
        omega
    · show E = E
      rfl
  · intro x0 s Wg hRu hrx hT0 hΦ i v H hT hrv hInv hKc hFr0 hIH x hx ρ2 v2 N2 H2 locs lsB stA hAt hB hv hr2 hXs hag hfr hFr hT2
    rcases i with ⟨i, hi⟩
    have hi2 : i = 0 ∨ i = 1 := by omega
    rcases hi2 with rfl | rfl
    · have hx : x ∈ [zxfcf17_ax0] := hx
      have hag : ∀ k, k < 3 → v2 k = v k := hag
      have hfr : xFr [] _ _ := hfr
      have ex := List.mem_singleton.mp hx
      subst ex
      obtain ⟨hF, hBd, hM⟩ := hXs
      have e19_3 : xE (zyEl zymc B H2) 19 3 = xE (zyEl zymc B H) 19 3 := xFr_E hfr rfl
      have q19_3 : xE (zyEl zymc B H) 19 3 = xE (zyEl zymc B s.heap) 19 3 := xFr_E hFr0 rfl
      have e30 : ∀ i, xE (zyEl zymc B H2) 30 i = xE (zyEl zymc B H) 30 i := fun i => xFr_E hfr rfl
      have q30 : ∀ i, xE (zyEl zymc B H) 30 i = xE (zyEl zymc B s.heap) 30 i := fun i => xFr_E hFr0 rfl
      have y19_3 : ((2147483648 : Nat) : Int) ≤ xE (zyEl zymc B s.heap) 19 3 + 2147483648 ∧ xE (zyEl zymc B s.heap) 19 3 + 2147483648 ≤ ((2147483679 : Nat) : Int) := xTyF hT0 19 3 3 rfl rfl rfl rfl rfl rfl
      have hI : (zyEl zymc B H) = (zyEl zymc B s.heap) := hInv
      refine xGo hIH hAt hB hv hFr ⟨1, by decide⟩ [0, 0, 0] [0, 0, 0] rfl ⟨by decide +kernel, ⟨rfl, by decide +kernel⟩, (xcs_c rfl (xcs_c rfl (xcs_c rfl xcs_n))), (xe_0 (xe_c (by omega) (by omega) rfl (xe_c (by omega) (by omega) rfl xe_n))), xkq_n⟩ xst_n ?_ ?_
      · show (0 ≤ (0 : Int) ∧ (0 : Int) ≤ xE (zyEl zymc B s.heap) 19 3) ∧ (0 ≤ (0 : Int) ∧ (0 : Int) ≤ (0 : Int)) ∧ ∀ S, xAb17 (zyEl zymc B s.heap) S → (0 : Int) = pCnt S 104 ((0 : Int)).toNat
        exact ⟨by omega, by omega, fun S hS => rfl⟩
      · show (99 - (0 : Int)).toNat < 100
        omega
    · have hx : x ∈ [zxfcf17_bx0, zxfcf17_bx1] := hx
      have hag : ∀ k, k < 3 → v2 k = v k := hag
      have hfr : xFr [] _ _ := hfr
      rcases List.mem_cons.mp hx with ex | hx
      · subst ex
        obtain ⟨hF, hBd, hM⟩ := hXs
        have g1 : v2 1 = v 1 := hag 1 (by decide)
        have g2 : v2 2 = v 2 := hag 2 (by decide)
        have b0 : ((2147483648 : Nat) : Int) ≤ (v2 1) + 2147483648 ∧ (v2 1) + 2147483648 ≤ ((2147483679 : Nat) : Int) := xXb hBd 0 rfl
        have b1 : ((2147483648 : Nat) : Int) ≤ (v2 2) + 2147483648 ∧ (v2 2) + 2147483648 ≤ ((2147483678 : Nat) : Int) := xXb hBd 1 rfl
        have b2 : ((2147483649 : Nat) : Int) ≤ (v2 3) + 2147483648 ∧ (v2 3) + 2147483648 ≤ ((2147483679 : Nat) : Int) := xXb hBd 2 rfl
        have b3 : ((2147483649 : Nat) : Int) ≤ (v2 4) + 2147483648 ∧ (v2 4) + 2147483648 ≤ ((2147483649 : Nat) : Int) := xXb hBd 3 rfl
        have b4 : ((2147483649 : Nat) : Int) ≤ (v2 1 + 1) + 2147483648 ∧ (v2 1 + 1) + 2147483648 ≤ ((2147483680 : Nat) : Int) := xXb hBd 4 rfl
        have b5 : ((2147483649 : Nat) : Int) ≤ (v2 2 + 1) + 2147483648 ∧ (v2 2 + 1) + 2147483648 ≤ ((2147483679 : Nat) : Int) := xXb hBd 5 rfl
        have f0 : (0 : Int) ≤ 3 ∧ xE (zyEl zymc B H) 19 3 = (v2 3) := xXf hF 0 rfl
        have f1 : (v2 2) < (v2 3) := xXf hF 1 rfl
        have f2 : (0 : Int) ≤ (v2 2) ∧ xE (zyEl zymc B H) 30 (v2 2) = (v2 4) := xXf hF 2 rfl
        have f3 : ¬ (v2 4) = 0 := xXf hF 3 rfl
        have e19_3 : xE (zyEl zymc B H2) 19 3 = xE (zyEl zymc B H) 19 3 := xFr_E hfr rfl
        have q19_3 : xE (zyEl zymc B H) 19 3 = xE (zyEl zymc B s.heap) 19 3 := xFr_E hFr0 rfl
        have e30 : ∀ i, xE (zyEl zymc B H2) 30 i = xE (zyEl zymc B H) 30 i := fun i => xFr_E hfr rfl
        have q30 : ∀ i, xE (zyEl zymc B H) 30 i = xE (zyEl zymc B s.heap) 30 i := fun i => xFr_E hFr0 rfl
        have y19_3 : ((2147483648 : Nat) : Int) ≤ xE (zyEl zymc B s.heap) 19 3 + 2147483648 ∧ xE (zyEl zymc B s.heap) 19 3 + 2147483648 ≤ ((2147483679 : Nat) : Int) := xTyF hT0 19 3 3 rfl rfl rfl rfl rfl rfl
        have hI : (0 ≤ (v 2) ∧ (v 2) ≤ xE (zyEl zymc B s.heap) 19 3) ∧ (0 ≤ (v 1) ∧ (v 1) ≤ (v 2)) ∧ ∀ S, xAb17 (zyEl zymc B s.heap) S → (v 1) = pCnt S 104 ((v 2)).toNat := hInv
        obtain ⟨i1, i2, i3⟩ := hI
        refine xGo hIH hAt hB hv hFr ⟨1, by decide⟩ [0, 34359738377, 68719476745] [0, (v2 1 + 1), (v2 2 + 1)] rfl ⟨by decide +kernel, ⟨rfl, by decide +kernel⟩, (xcs_c rfl (xcs_c rfl (xcs_c rfl xcs_n))), (xe_0 (xe_c (by omega) (by omega) rfl (xe_c (by omega) (by omega) rfl xe_n))), xkq_n⟩ xst_n ?_ ?_
        · show (0 ≤ ((v2 2 + 1) : Int) ∧ ((v2 2 + 1) : Int) ≤ xE (zyEl zymc B s.heap) 19 3) ∧ (0 ≤ ((v2 1 + 1) : Int) ∧ ((v2 1 + 1) : Int) ≤ ((v2 2 + 1) : Int)) ∧ ∀ S, xAb17 (zyEl zymc B s.heap) S → ((v2 1 + 1) : Int) = pCnt S 104 (((v2 2 + 1) : Int)).toNat
          refine ⟨by omega, by omega, fun S hS => ?_⟩
          have hc := (hS.2.2.2.2.1 (v2 2) (by omega) (by omega)).2.2.2
          have hf := q30 (v2 2)
          rw [pCnt_s (by omega), show (v2 2) = v 2 by omega, ← i3 S hS, ← show (v2 2) = v 2 by omega, if_pos (by omega)]
          omega
        · show (99 - ((v2 2 + 1) : Int)).toNat < (99 - (v 2)).toNat
          omega
      · skip
        have ex := List.mem_singleton.mp hx
        subst ex
        obtain ⟨hF, hBd, hM⟩ := hXs
        have g1 : v2 1 = v 1 := hag 1 (by decide)
        have g2 : v2 2 = v 2 := hag 2 (by decide)
        have b0 : ((2147483648 : Nat) : Int) ≤ (v2 1) + 2147483648 ∧ (v2 1) + 2147483648 ≤ ((2147483679 : Nat) : Int) := xXb hBd 0 rfl
        have b1 : ((2147483648 : Nat) : Int) ≤ (v2 2) + 2147483648 ∧ (v2 2) + 2147483648 ≤ ((2147483678 : Nat) : Int) := xXb hBd 1 rfl
        have b2 : ((2147483649 : Nat) : Int) ≤ (v2 3) + 2147483648 ∧ (v2 3) + 2147483648 ≤ ((2147483679 : Nat) : Int) := xXb hBd 2 rfl
        have b3 : ((2147483648 : Nat) : Int) ≤ (v2 4) + 2147483648 ∧ (v2 4) + 2147483648 ≤ ((2147483648 : Nat) : Int) := xXb hBd 3 rfl
        have b4 : ((2147483649 : Nat) : Int) ≤ (v2 2 + 1) + 2147483648 ∧ (v2 2 + 1) + 2147483648 ≤ ((2147483679 : Nat) : Int) := xXb hBd 4 rfl
        have f0 : (0 : Int) ≤ 3 ∧ xE (zyEl zymc B H) 19 3 = (v2 3) := xXf hF 0 rfl
        have f1 : (v2 2) < (v2 3) := xXf hF 1 rfl
        have f2 : (0 : Int) ≤ (v2 2) ∧ xE (zyEl zymc B H) 30 (v2 2) = (v2 4) := xXf hF 2 rfl
        have f3 : (v2 4) = 0 := xXf hF 3 rfl
        have e19_3 : xE (zyEl zymc B H2) 19 3 = xE (zyEl zymc B H) 19 3 := xFr_E hfr rfl
        have q19_3 : xE (zyEl zymc B H) 19 3 = xE (zyEl zymc B s.heap) 19 3 := xFr_E hFr0 rfl
        have e30 : ∀ i, xE (zyEl zymc B H2) 30 i = xE (zyEl zymc B H) 30 i := fun i => xFr_E hfr rfl
        have q30 : ∀ i, xE (zyEl zymc B H) 30 i = xE (zyEl zymc B s.heap) 30 i := fun i => xFr_E hFr0 rfl
        have y19_3 : ((2147483648 : Nat) : Int) ≤ xE (zyEl zymc B s.heap) 19 3 + 2147483648 ∧ xE (zyEl zymc B s.heap) 19 3 + 2147483648 ≤ ((2147483679 : Nat) : Int) := xTyF hT0 19 3 3 rfl rfl rfl rfl rfl rfl
        have hI : (0 ≤ (v 2) ∧ (v 2) ≤ xE (zyEl zymc B s.heap) 19 3) ∧ (0 ≤ (v 1) ∧ (v 1) ≤ (v 2)) ∧ ∀ S, xAb17 (zyEl zymc B s.heap) S → (v 1) = pCnt S 104 ((v 2)).toNat := hInv
        obtain ⟨i1, i2, i3⟩ := hI
        refine xGo hIH hAt hB hv hFr ⟨1, by decide⟩ [0, 34359738369, 68719476745] [0, (v2 1), (v2 2 + 1)] rfl ⟨by decide +kernel, ⟨rfl, by decide +kernel⟩, (xcs_c rfl (xcs_c rfl (xcs_c rfl xcs_n))), (xe_0 (xe_c (by omega) (by omega) rfl (xe_c (by omega) (by omega) rfl xe_n))), xkq_n⟩ xst_n ?_ ?_
        · show (0 ≤ ((v2 2 + 1) : Int) ∧ ((v2 2 + 1) : Int) ≤ xE (zyEl zymc B s.heap) 19 3) ∧ (0 ≤ ((v2 1) : Int) ∧ ((v2 1) : Int) ≤ ((v2 2 + 1) : Int)) ∧ ∀ S, xAb17 (zyEl zymc B s.heap) S → ((v2 1) : Int) = pCnt S 104 (((v2 2 + 1) : Int)).toNat
          refine ⟨by omega, by omega, fun S hS => ?_⟩
          have hc := (hS.2.2.2.2.1 (v2 2) (by omega) (by omega)).2.2.2
          have hf := q30 (v2 2)
          rw [pCnt_s (by omega), show (v2 2) = v 2 by omega, ← i3 S hS, ← show (v2 2) = v 2 by omega, if_neg (by omega)]
          omega
        · show (99 - ((v2 2 + 1) : Int)).toNat < (99 - (v 2)).toNat
          omega
  · intro x0 E0 E E2 hrx hT0 hΦ i v hT hrv hInv hKc hFr0 x hx v2 hr2 hXs hag hfr hFr hT2
    rcases i with ⟨i, hi⟩
    have hi2 : i = 0 ∨ i = 1 := by omega
    rcases hi2 with rfl | rfl
    · cases hx
    · have hx : x ∈ [zxfcf17_br0] := hx
      have hag : ∀ k, k < 3 → v2 k = v k := hag
      have hfr : xFr [] _ _ := hfr
      have ex := List.mem_singleton.mp hx
      subst ex
      obtain ⟨hF, hBd, hM⟩ := hXs
      have g1 : v2 1 = v 1 := hag 1 (by decide)
      have g2 : v2 2 = v 2 := hag 2 (by decide)
      have b0 : ((2147483648 : Nat) : Int) ≤ (v2 1) + 2147483648 ∧ (v2 1) + 2147483648 ≤ ((2147483679 : Nat) : Int) := xXb hBd 0 rfl
      have b1 : ((2147483648 : Nat) : Int) ≤ (v2 2) + 2147483648 ∧ (v2 2) + 2147483648 ≤ ((2147483679 : Nat) : Int) := xXb hBd 1 rfl
      have b2 : ((2147483648 : Nat) : Int) ≤ (v2 3) + 2147483648 ∧ (v2 3) + 2147483648 ≤ ((2147483679 : Nat) : Int) := xXb hBd 2 rfl
      have f0 : (0 : Int) ≤ 3 ∧ xE E 19 3 = (v2 3) := xXf hF 0 rfl
      have f1 : (v2 3) ≤ (v2 2) := xXf hF 1 rfl
      have e19_3 : xE E2 19 3 = xE E 19 3 := xFr_E hfr rfl
      have q19_3 : xE E 19 3 = xE E0 19 3 := xFr_E hFr0 rfl
      have e30 : ∀ i, xE E2 30 i = xE E 30 i := fun i => xFr_E hfr rfl
      have q30 : ∀ i, xE E 30 i = xE E0 30 i := fun i => xFr_E hFr0 rfl
      have y19_3 : ((2147483648 : Nat) : Int) ≤ xE E0 19 3 + 2147483648 ∧ xE E0 19 3 + 2147483648 ≤ ((2147483679 : Nat) : Int) := xTyF hT0 19 3 3 rfl rfl rfl rfl rfl rfl
      have hI : (0 ≤ (v 2) ∧ (v 2) ≤ xE E0 19 3) ∧ (0 ≤ (v 1) ∧ (v 1) ≤ (v 2)) ∧ ∀ S, xAb17 E0 S → (v 1) = pCnt S 104 ((v 2)).toNat := hInv
      show xΨcf17 x0 E0 E2 (v2 1)
      obtain ⟨i1, i2, i3⟩ := hI
      unfold xΨcf17
      refine ⟨by omega, fun S hS => ?_⟩
      rw [← hS.2.1.2.2.2, show xE E0 19 3 = v2 2 by omega, show (v2 1) = v 1 by omega, show (v2 2) = v 2 by omega]
      exact i3 S hS
noncomputable def zxfhs17_ax0 : zyXp := (2, [147, 34359738369, 0], [], [], [(34359738369, 2147483648, 2147483727)], [])
noncomputable def zpfhs17_a : zyPh := (0, [147, 34359738369, 13], [(0, 4294967295), (2147483648, 2147483727), (0, 4294967295)], [], [])
noncomputable def zxfhs17_bx0 : zyXp := (2, [147, 34359738369, 68719476745], [], [(24, 103079215105, 18, 40), (20, 0, 68719476737, 103079215105), (24, 137438953473, 31, 68719476737), (23, 0, 137438953473, 34359738369), (24, 171798691841, 21, 34359738369), (24, 206158430209, 31, 68719476737), (23, 0, 171798691841, 206158430209)], [(34359738369, 2147483648, 2147483727), (68719476737, 2147483648, 2147483655), (103079215105, 2147483649, 2147483656), (137438953473, 2147483648, 2147483727), (171798691841, 2147483647, 2147483727), (206158430209, 2147483648, 2147483727), (68719476745, 2147483649, 2147483656)], [])
noncomputable def zxfhs17_br0 : zyXp := (0, [], [8], [(24, 103079215105, 18, 40), (20, 0, 68719476737, 103079215105), (24, 137438953473, 31, 68719476737), (23, 0, 137438953473, 34359738369), (24, 171798691841, 21, 34359738369), (24, 206158430209, 31, 68719476737), (22, 0, 171798691841, 206158430209)], [(34359738369, 2147483648, 2147483727), (68719476737, 2147483648, 2147483655), (103079215105, 2147483649, 2147483656), (137438953473, 2147483648, 2147483727), (171798691841, 2147483647, 2147483727), (206158430209, 2147483648, 2147483727)], [])
noncomputable def zxfhs17_br1 : zyXp := (0, [], [8], [(24, 103079215105, 18, 40), (20, 0, 68719476737, 103079215105), (24, 137438953473, 31, 68719476737), (22, 0, 137438953473, 34359738369)], [(34359738369, 2147483648, 2147483727), (68719476737, 2147483648, 2147483655), (103079215105, 2147483649, 2147483656), (137438953473, 2147483648, 2147483727)], [])
noncomputable def zxfhs17_br2 : zyXp := (0, [], [0], [(24, 103079215105, 18, 40), (21, 0, 68719476737, 103079215105)], [(68719476737, 2147483648, 2147483656), (103079215105, 2147483648, 2147483656)], [])
noncomputable def zpfhs17_b : zyPh := (2, [147, 34359738369, 68719476737], [(0, 4294967295), (2147483648, 2147483727), (2147483648, 2147483656)], [], [])
noncomputable def zpfhs17 (i : Nat) : zyPh := zif (Nat.beq i 0) (zpfhs17_a) (zpfhs17_b)
noncomputable def zXfhs17 (i : Nat) : List zyXp := zif (Nat.beq i 0) ([zxfhs17_ax0]) ([zxfhs17_bx0])
noncomputable def zRfhs17 (i : Nat) : List zyXp := zif (Nat.beq i 0) ([]) ([zxfhs17_br0, zxfhs17_br1, zxfhs17_br2])
noncomputable def zFfhs17 (i : Nat) : zyR := zif (Nat.beq i 0) ([]) ([])
noncomputable def zSfhs17 (i : Nat) : Nat := zif (Nat.beq i 0) (0) (0)
def xΦhs17 (x : Nat → Int) (E : zyEm) : Prop := 0 ≤ x 0 ∧ x 0 < xE E 19 2
def xΨhs17 (x : Nat → Int) (E _ : zyEm) (r : Int) : Prop := (r = 0 ∨ r = 1) ∧ ∀ S, xAb17 E S → r = if pTak S (x 0) (pF (S 0) (S 1) (x 0)) (S 2).toNat = true then 1 else 0
noncomputable def fpfhs17 : zyR := []
theorem zyfhs17_run : zyrS zymc zxi34 (34, 0, 0, 2, 0) 1 zpfhs17 (fun _ _ => []) zFfhs17 zSfhs17 zXfhs17 zRfhs17 2 = true := by decide +kernel
theorem zyfhs17_ck : zyAll (fun i => xsubR (zFfhs17 i) fpfhs17 && ((zXfhs17 i).all xckX && (zRfhs17 i).all (fun x => xckX x && xrtB true x))) 2 = true := by decide +kernel
def xIfhs17 (i : Nat) (x0 : Nat → Int) (E0 : zyEm) (v : Nat → Int) (E : zyEm) : Prop := if i = 0 then (E = E0 ∧ (v 1) = x0 0) else ((0 ≤ (v 2) ∧ (v 2) ≤ xE E0 18 5) ∧ (v 1) = x0 0 ∧ ∀ S, xAb17 E0 S → pTak S (x0 0) (pF (S 0) (S 1) (x0 0)) ((v 2)).toNat = false)
def xMfhs17 (i : Nat) (x0 : Nat → Int) (E0 : zyEm) (v : Nat → Int) (E : zyEm) : Nat := if i = 0 then (100) else ((99 - (v 2)).toNat)
theorem xHs17 {l : Launch} {en : zEn} {me : zMe} (hen : zG zxMeta 34 = some en) (hme : zG zMeth 34 = some me) : xFc l zymc en me 1 [18] 1 fpfhs17 true xΦhs17 xΨhs17 := by
  have een : zG zxMeta 34 = some (zxi34, 2, 3, 3, 34, 0, 0, 2, 0) := rfl
  obtain ⟨me1, hme1, hOK⟩ := zall hen
  rw [hme] at hme1
  cases hme1
  rw [een] at hen
  cases hen
  have hr := zyfhs17_run
  have hck := fun i hi => zyAll_iff zyfhs17_ck i hi
  simp only [Bool.and_eq_true] at hck
  intro B
  refine xcut (mi := zymc) (B := B) hOK rfl rfl (ι := Fin 2) (fun i => zpfhs17 i.val) (fun _ _ => []) (fun i => zFfhs17 i.val) (fun i => zSfhs17 i.val) (fun i => zXfhs17 i.val) (fun i => zRfhs17 i.val) (fun i y2 ct en2 me2 h => by cases h) 200000 (fun i => zyAll_iff hr i.val i.isLt) (fun i => (hck i.val i.isLt).1) (fun i => (hck i.val i.isLt).2.1) (fun i => (hck i.val i.isLt).2.2) ⟨0, by decide⟩ ⟨rfl, rfl, rfl, rfl⟩ ⟨by decide, by decide⟩ (fun i x0 E0 v E => xIfhs17 i.val x0 E0 v E) (fun i x0 E0 v E => xMfhs17 i.val x0 E0 v E) ?_ ?_ ?_
  · intro x0 E hx0 hT hΦ
    have hΦ : xΦhs17 x0 E := hΦ
    refine ⟨fun k p hp => ?_, ?_⟩
    · have hk : k < 3 := (List.getElem?_eq_some_iff.mp hp).1
      have hk : k = 0 ∨ k = 1 ∨ k = 2 := by omega
      rcases hk with rfl | rfl | rfl
      · have hp : some (0, 4294967295) = some p := hp
        cases hp
        show ((0 : Nat) : Int) ≤ 0 + 2147483648 ∧ 0 + 2147483648 ≤ ((4294967295 : Nat) : Int)
        omega
      · have hp : some (2147483648, 2147483727) = some p := hp
        cases hp
        show ((2147483648 : Nat) : Int) ≤ x0 0 + 2147483648 ∧ x0 0 + 2147483648 ≤ ((2147483727 : Nat) : Int)
        have hx := hx0 0
        have hP := hΦ.1
        have hP2 := hΦ.2
        have hT2 := xTyF hT 19 2 2 rfl rfl rfl rfl rfl rfl
        have hT2 : ((2147483648 : Nat) : Int) ≤ xE E 19 2 + 2147483648 ∧ xE E 19 2 + 2147483648 ≤ ((2147483728 : Nat) : Int) := hT2
        omega
      · have hp : some (0, 4294967295) = some p := hp
        cases hp
        show ((0 : Nat) : Int) ≤ x0 1 + 2147483648 ∧ x0 1 + 2147483648 ≤ ((4294967295 : Nat) : Int)
        have hx := hx0 1
        omega
    · show E = E ∧ (x0 0) = x0 0
      exact ⟨rfl, rfl⟩
  · intro x0 s Wg hRu hrx hT0 hΦ i v H hT hrv hInv hKc hFr0 hIH x hx ρ2 v2 N2 H2 locs lsB stA hAt hB hv hr2 hXs hag hfr hFr hT2
    rcases i with ⟨i, hi⟩
    have hi2 : i = 0 ∨ i = 1 := by omega
    rcases hi2 with rfl | rfl
    · have hx : x ∈ [zxfhs17_ax0] := hx
      have hag : ∀ k, k < 3 → v2 k = v k := hag
      have hfr : xFr [] _ _ := hfr
      have ex := List.mem_singleton.mp hx
      subst ex
      obtain ⟨hF, hBd, hM⟩ := hXs
      have g1 : v2 1 = v 1 := hag 1 (by decide)
      have b0 : ((2147483648 : Nat) : Int) ≤ (v2 1) + 2147483648 ∧ (v2 1) + 2147483648 ≤ ((2147483727 : Nat) : Int) := xXb hBd 0 rfl
      have e18_5 : xE (zyEl zymc B H2) 18 5 = xE (zyEl zymc B H) 18 5 := xFr_E hfr rfl
      have q18_5 : xE (zyEl zymc B H) 18 5 = xE (zyEl zymc B s.heap) 18 5 := xFr_E hFr0 rfl
      have e19_2 : xE (zyEl zymc B H2) 19 2 = xE (zyEl zymc B H) 19 2 := xFr_E hfr rfl
      have q19_2 : xE (zyEl zymc B H) 19 2 = xE (zyEl zymc B s.heap) 19 2 := xFr_E hFr0 rfl
      have e31 : ∀ i, xE (zyEl zymc B H2) 31 i = xE (zyEl zymc B H) 31 i := fun i => xFr_E hfr rfl
      have q31 : ∀ i, xE (zyEl zymc B H) 31 i = xE (zyEl zymc B s.heap) 31 i := fun i => xFr_E hFr0 rfl
      have e21 : ∀ i, xE (zyEl zymc B H2) 21 i = xE (zyEl zymc B H) 21 i := fun i => xFr_E hfr rfl
      have q21 : ∀ i, xE (zyEl zymc B H) 21 i = xE (zyEl zymc B s.heap) 21 i := fun i => xFr_E hFr0 rfl
      have y18_5 : ((2147483648 : Nat) : Int) ≤ xE (zyEl zymc B s.heap) 18 5 + 2147483648 ∧ xE (zyEl zymc B s.heap) 18 5 + 2147483648 ≤ ((2147483656 : Nat) : Int) := xTyF hT0 18 5 5 rfl rfl rfl rfl rfl rfl
      have y19_2 : ((2147483648 : Nat) : Int) ≤ xE (zyEl zymc B s.heap) 19 2 + 2147483648 ∧ xE (zyEl zymc B s.heap) 19 2 + 2147483648 ≤ ((2147483728 : Nat) : Int) := xTyF hT0 19 2 2 rfl rfl rfl rfl rfl rfl
      have hI : (zyEl zymc B H) = (zyEl zymc B s.heap) ∧ (v 1) = x0 0 := hInv
      have hP := hΦ.1
      have hP2 := hΦ.2
      refine xGo hIH hAt hB hv hFr ⟨1, by decide⟩ [0, 34359738369, 0] [0, (v2 1), 0] rfl ⟨by decide +kernel, ⟨rfl, by decide +kernel⟩, (xcs_c rfl (xcs_c rfl (xcs_c rfl xcs_n))), (xe_0 (xe_c (by omega) (by omega) rfl (xe_c (by omega) (by omega) rfl xe_n))), xkq_n⟩ xst_n ?_ ?_
      · show (0 ≤ (0 : Int) ∧ (0 : Int) ≤ xE (zyEl zymc B s.heap) 18 5) ∧ ((v2 1) : Int) = x0 0 ∧ ∀ S, xAb17 (zyEl zymc B s.heap) S → pTak S (x0 0) (pF (S 0) (S 1) (x0 0)) ((0 : Int)).toNat = false
        exact ⟨by omega, by omega, fun S hS => rfl⟩
      · show (99 - (0 : Int)).toNat < 100
        omega
    · have hx : x ∈ [zxfhs17_bx0] := hx
      have hag : ∀ k, k < 3 → v2 k = v k := hag
      have hfr : xFr [] _ _ := hfr
      have ex := List.mem_singleton.mp hx
      subst ex
      obtain ⟨hF, hBd, hM⟩ := hXs
      have g1 : v2 1 = v 1 := hag 1 (by decide)
      have g2 : v2 2 = v 2 := hag 2 (by decide)
      have b0 : ((2147483648 : Nat) : Int) ≤ (v2 1) + 2147483648 ∧ (v2 1) + 2147483648 ≤ ((2147483727 : Nat) : Int) := xXb hBd 0 rfl
      have b1 : ((2147483648 : Nat) : Int) ≤ (v2 2) + 2147483648 ∧ (v2 2) + 2147483648 ≤ ((2147483655 : Nat) : Int) := xXb hBd 1 rfl
      have b2 : ((2147483649 : Nat) : Int) ≤ (v2 3) + 2147483648 ∧ (v2 3) + 2147483648 ≤ ((2147483656 : Nat) : Int) := xXb hBd 2 rfl
      have b3 : ((2147483648 : Nat) : Int) ≤ (v2 4) + 2147483648 ∧ (v2 4) + 2147483648 ≤ ((2147483727 : Nat) : Int) := xXb hBd 3 rfl
      have b4 : ((2147483647 : Nat) : Int) ≤ (v2 5) + 2147483648 ∧ (v2 5) + 2147483648 ≤ ((2147483727 : Nat) : Int) := xXb hBd 4 rfl
      have b5 : ((2147483648 : Nat) : Int) ≤ (v2 6) + 2147483648 ∧ (v2 6) + 2147483648 ≤ ((2147483727 : Nat) : Int) := xXb hBd 5 rfl
      have b6 : ((2147483649 : Nat) : Int) ≤ (v2 2 + 1) + 2147483648 ∧ (v2 2 + 1) + 2147483648 ≤ ((2147483656 : Nat) : Int) := xXb hBd 6 rfl
      have f0 : (0 : Int) ≤ 5 ∧ xE (zyEl zymc B H) 18 5 = (v2 3) := xXf hF 0 rfl
      have f1 : (v2 2) < (v2 3) := xXf hF 1 rfl
      have f2 : (0 : Int) ≤ (v2 2) ∧ xE (zyEl zymc B H) 31 (v2 2) = (v2 4) := xXf hF 2 rfl
      have f3 : ¬ (v2 4) = (v2 1) := xXf hF 3 rfl
      have f4 : (0 : Int) ≤ (v2 1) ∧ xE (zyEl zymc B H) 21 (v2 1) = (v2 5) := xXf hF 4 rfl
      have f5 : (0 : Int) ≤ (v2 2) ∧ xE (zyEl zymc B H) 31 (v2 2) = (v2 6) := xXf hF 5 rfl
      have f6 : ¬ (v2 5) = (v2 6) := xXf hF 6 rfl
      have e18_5 : xE (zyEl zymc B H2) 18 5 = xE (zyEl zymc B H) 18 5 := xFr_E hfr rfl
      have q18_5 : xE (zyEl zymc B H) 18 5 = xE (zyEl zymc B s.heap) 18 5 := xFr_E hFr0 rfl
      have e19_2 : xE (zyEl zymc B H2) 19 2 = xE (zyEl zymc B H) 19 2 := xFr_E hfr rfl
      have q19_2 : xE (zyEl zymc B H) 19 2 = xE (zyEl zymc B s.heap) 19 2 := xFr_E hFr0 rfl
      have e31 : ∀ i, xE (zyEl zymc B H2) 31 i = xE (zyEl zymc B H) 31 i := fun i => xFr_E hfr rfl
      have q31 : ∀ i, xE (zyEl zymc B H) 31 i = xE (zyEl zymc B s.heap) 31 i := fun i => xFr_E hFr0 rfl
      have e21 : ∀ i, xE (zyEl zymc B H2) 21 i = xE (zyEl zymc B H) 21 i := fun i => xFr_E hfr rfl
      have q21 : ∀ i, xE (zyEl zymc B H) 21 i = xE (zyEl zymc B s.heap) 21 i := fun i => xFr_E hFr0 rfl
      have y18_5 : ((2147483648 : Nat) : Int) ≤ xE (zyEl zymc B s.heap) 18 5 + 2147483648 ∧ xE (zyEl zymc B s.heap) 18 5 + 2147483648 ≤ ((2147483656 : Nat) : Int) := xTyF hT0 18 5 5 rfl rfl rfl rfl rfl rfl
      have y19_2 : ((2147483648 : Nat) : Int) ≤ xE (zyEl zymc B s.heap) 19 2 + 2147483648 ∧ xE (zyEl zymc B s.heap) 19 2 + 2147483648 ≤ ((2147483728 : Nat) : Int) := xTyF hT0 19 2 2 rfl rfl rfl rfl rfl rfl
      have hI : (0 ≤ (v 2) ∧ (v 2) ≤ xE (zyEl zymc B s.heap) 18 5) ∧ (v 1) = x0 0 ∧ ∀ S, xAb17 (zyEl zymc B s.heap) S → pTak S (x0 0) (pF (S 0) (S 1) (x0 0)) ((v 2)).toNat = false := hInv
      obtain ⟨i1, i2, i3⟩ := hI
      have hP := hΦ.1
      have hP2 := hΦ.2
      rw [show (v 2) = v2 2 by omega] at i3
      have w2 : xE (zyEl zymc B s.heap) 31 (v2 2) = (v2 4) := by have := q31 (v2 2); omega
      have w5 : xE (zyEl zymc B s.heap) 31 (v2 2) = (v2 6) := by have := q31 (v2 2); omega
      have w4 : xE (zyEl zymc B s.heap) 21 (x0 0) = (v2 5) := by rw [show x0 0 = (v2 1) by omega]; have := q21 ((v2 1)); omega
      refine xGo hIH hAt hB hv hFr ⟨1, by decide⟩ [0, 34359738369, 68719476745] [0, (v2 1), (v2 2 + 1)] rfl ⟨by decide +kernel, ⟨rfl, by decide +kernel⟩, (xcs_c rfl (xcs_c rfl (xcs_c rfl xcs_n))), (xe_0 (xe_c (by omega) (by omega) rfl (xe_c (by omega) (by omega) rfl xe_n))), xkq_n⟩ xst_n ?_ ?_
      · show (0 ≤ ((v2 2 + 1) : Int) ∧ ((v2 2 + 1) : Int) ≤ xE (zyEl zymc B s.heap) 18 5) ∧ ((v2 1) : Int) = x0 0 ∧ ∀ S, xAb17 (zyEl zymc B s.heap) S → pTak S (x0 0) (pF (S 0) (S 1) (x0 0)) (((v2 2 + 1) : Int)).toNat = false
        refine ⟨by omega, by omega, fun S hS => ?_⟩
        have hst := (hS.2.2.2.1.2 (v2 2) (by omega) (by have := hS.2.2.2.1.1; omega)).1
        have hfc := hS.2.2.1 (x0 0) hP (by have := hS.2.1.2.2.1; omega)
        rw [pTak_s (by omega), i3 S hS, Bool.false_or, Bool.or_eq_false_iff, decide_eq_false_iff_not, decide_eq_false_iff_not]
        omega
      · show (99 - ((v2 2 + 1) : Int)).toNat < (99 - (v 2)).toNat
        omega
  · intro x0 E0 E E2 hrx hT0 hΦ i v hT hrv hInv hKc hFr0 x hx v2 hr2 hXs hag hfr hFr hT2
    rcases i with ⟨i, hi⟩
    have hi2 : i = 0 ∨ i = 1 := by omega
    rcases hi2 with rfl | rfl
    · cases hx
    · have hx : x ∈ [zxfhs17_br0, zxfhs17_br1, zxfhs17_br2] := hx
      have hag : ∀ k, k < 3 → v2 k = v k := hag
      have hfr : xFr [] _ _ := hfr
      rcases List.mem_cons.mp hx with ex | hx
      · subst ex
        obtain ⟨hF, hBd, hM⟩ := hXs
        have g1 : v2 1 = v 1 := hag 1 (by decide)
        have g2 : v2 2 = v 2 := hag 2 (by decide)
        have b0 : ((2147483648 : Nat) : Int) ≤ (v2 1) + 2147483648 ∧ (v2 1) + 2147483648 ≤ ((2147483727 : Nat) : Int) := xXb hBd 0 rfl
        have b1 : ((2147483648 : Nat) : Int) ≤ (v2 2) + 2147483648 ∧ (v2 2) + 2147483648 ≤ ((2147483655 : Nat) : Int) := xXb hBd 1 rfl
        have b2 : ((2147483649 : Nat) : Int) ≤ (v2 3) + 2147483648 ∧ (v2 3) + 2147483648 ≤ ((2147483656 : Nat) : Int) := xXb hBd 2 rfl
        have b3 : ((2147483648 : Nat) : Int) ≤ (v2 4) + 2147483648 ∧ (v2 4) + 2147483648 ≤ ((2147483727 : Nat) : Int) := xXb hBd 3 rfl
        have b4 : ((2147483647 : Nat) : Int) ≤ (v2 5) + 2147483648 ∧ (v2 5) + 2147483648 ≤ ((2147483727 : Nat) : Int) := xXb hBd 4 rfl
        have b5 : ((2147483648 : Nat) : Int) ≤ (v2 6) + 2147483648 ∧ (v2 6) + 2147483648 ≤ ((2147483727 : Nat) : Int) := xXb hBd 5 rfl
        have f0 : (0 : Int) ≤ 5 ∧ xE E 18 5 = (v2 3) := xXf hF 0 rfl
        have f1 : (v2 2) < (v2 3) := xXf hF 1 rfl
        have f2 : (0 : Int) ≤ (v2 2) ∧ xE E 31 (v2 2) = (v2 4) := xXf hF 2 rfl
        have f3 : ¬ (v2 4) = (v2 1) := xXf hF 3 rfl
        have f4 : (0 : Int) ≤ (v2 1) ∧ xE E 21 (v2 1) = (v2 5) := xXf hF 4 rfl
        have f5 : (0 : Int) ≤ (v2 2) ∧ xE E 31 (v2 2) = (v2 6) := xXf hF 5 rfl
        have f6 : (v2 5) = (v2 6) := xXf hF 6 rfl
        have e18_5 : xE E2 18 5 = xE E 18 5 := xFr_E hfr rfl
        have q18_5 : xE E 18 5 = xE E0 18 5 := xFr_E hFr0 rfl
        have e19_2 : xE E2 19 2 = xE E 19 2 := xFr_E hfr rfl
        have q19_2 : xE E 19 2 = xE E0 19 2 := xFr_E hFr0 rfl
        have e31 : ∀ i, xE E2 31 i = xE E 31 i := fun i => xFr_E hfr rfl
        have q31 : ∀ i, xE E 31 i = xE E0 31 i := fun i => xFr_E hFr0 rfl
        have e21 : ∀ i, xE E2 21 i = xE E 21 i := fun i => xFr_E hfr rfl
        have q21 : ∀ i, xE E 21 i = xE E0 21 i := fun i => xFr_E hFr0 rfl
        have y18_5 : ((2147483648 : Nat) : Int) ≤ xE E0 18 5 + 2147483648 ∧ xE E0 18 5 + 2147483648 ≤ ((2147483656 : Nat) : Int) := xTyF hT0 18 5 5 rfl rfl rfl rfl rfl rfl
        have y19_2 : ((2147483648 : Nat) : Int) ≤ xE E0 19 2 + 2147483648 ∧ xE E0 19 2 + 2147483648 ≤ ((2147483728 : Nat) : Int) := xTyF hT0 19 2 2 rfl rfl rfl rfl rfl rfl
        have hI : (0 ≤ (v 2) ∧ (v 2) ≤ xE E0 18 5) ∧ (v 1) = x0 0 ∧ ∀ S, xAb17 E0 S → pTak S (x0 0) (pF (S 0) (S 1) (x0 0)) ((v 2)).toNat = false := hInv
        show xΨhs17 x0 E0 E2 1
        obtain ⟨i1, i2, i3⟩ := hI
        have hP := hΦ.1
        have hP2 := hΦ.2
        rw [show (v 2) = v2 2 by omega] at i3
        have w2 : xE E0 31 (v2 2) = (v2 4) := by have := q31 (v2 2); omega
        have w5 : xE E0 31 (v2 2) = (v2 6) := by have := q31 (v2 2); omega
        have w4 : xE E0 21 (x0 0) = (v2 5) := by rw [show x0 0 = (v2 1) by omega]; have := q21 ((v2 1)); omega
        unfold xΨhs17
        refine ⟨by omega, fun S hS => ?_⟩
        have hst := (hS.2.2.2.1.2 (v2 2) (by omega) (by have := hS.2.2.2.1.1; omega)).1
        have hfc := hS.2.2.1 (x0 0) hP (by have := hS.2.1.2.2.1; omega)
        have hb := hS.2.2.2.1.1
        have ht : pTak S (x0 0) (pF (S 0) (S 1) (x0 0)) (v2 2 + 1).toNat = true := by
          rw [pTak_s (by omega), Bool.or_eq_true, Bool.or_eq_true, decide_eq_true_eq, decide_eq_true_eq]
          right
          omega
        rw [if_pos (pTak_m (by omega) ht)]
      · skip
        rcases List.mem_cons.mp hx with ex | hx
        · subst ex
          obtain ⟨hF, hBd, hM⟩ := hXs
          have g1 : v2 1 = v 1 := hag 1 (by decide)
          have g2 : v2 2 = v 2 := hag 2 (by decide)
          have b0 : ((2147483648 : Nat) : Int) ≤ (v2 1) + 2147483648 ∧ (v2 1) + 2147483648 ≤ ((2147483727 : Nat) : Int) := xXb hBd 0 rfl
          have b1 : ((2147483648 : Nat) : Int) ≤ (v2 2) + 2147483648 ∧ (v2 2) + 2147483648 ≤ ((2147483655 : Nat) : Int) := xXb hBd 1 rfl
          have b2 : ((2147483649 : Nat) : Int) ≤ (v2 3) + 2147483648 ∧ (v2 3) + 2147483648 ≤ ((2147483656 : Nat) : Int) := xXb hBd 2 rfl
          have b3 : ((2147483648 : Nat) : Int) ≤ (v2 4) + 2147483648 ∧ (v2 4) + 2147483648 ≤ ((2147483727 : Nat) : Int) := xXb hBd 3 rfl
          have f0 : (0 : Int) ≤ 5 ∧ xE E 18 5 = (v2 3) := xXf hF 0 rfl
          have f1 : (v2 2) < (v2 3) := xXf hF 1 rfl
          have f2 : (0 : Int) ≤ (v2 2) ∧ xE E 31 (v2 2) = (v2 4) := xXf hF 2 rfl
          have f3 : (v2 4) = (v2 1) := xXf hF 3 rfl
          have e18_5 : xE E2 18 5 = xE E 18 5 := xFr_E hfr rfl
          have q18_5 : xE E 18 5 = xE E0 18 5 := xFr_E hFr0 rfl
          have e19_2 : xE E2 19 2 = xE E 19 2 := xFr_E hfr rfl
          have q19_2 : xE E 19 2 = xE E0 19 2 := xFr_E hFr0 rfl
          have e31 : ∀ i, xE E2 31 i = xE E 31 i := fun i => xFr_E hfr rfl
          have q31 : ∀ i, xE E 31 i = xE E0 31 i := fun i => xFr_E hFr0 rfl
          have e21 : ∀ i, xE E2 21 i = xE E 21 i := fun i => xFr_E hfr rfl
          have q21 : ∀ i, xE E 21 i = xE E0 21 i := fun i => xFr_E hFr0 rfl
          have y18_5 : ((2147483648 : Nat) : Int) ≤ xE E0 18 5 + 2147483648 ∧ xE E0 18 5 + 2147483648 ≤ ((2147483656 : Nat) : Int) := xTyF hT0 18 5 5 rfl rfl rfl rfl rfl rfl
          have y19_2 : ((2147483648 : Nat) : Int) ≤ xE E0 19 2 + 2147483648 ∧ xE E0 19 2 + 2147483648 ≤ ((2147483728 : Nat) : Int) := xTyF hT0 19 2 2 rfl rfl rfl rfl rfl rfl
          have hI : (0 ≤ (v 2) ∧ (v 2) ≤ xE E0 18 5) ∧ (v 1) = x0 0 ∧ ∀ S, xAb17 E0 S → pTak S (x0 0) (pF (S 0) (S 1) (x0 0)) ((v 2)).toNat = false := hInv
          show xΨhs17 x0 E0 E2 1
          obtain ⟨i1, i2, i3⟩ := hI
          have hP := hΦ.1
          have hP2 := hΦ.2
          rw [show (v 2) = v2 2 by omega] at i3
          have w2 : xE E0 31 (v2 2) = (v2 4) := by have := q31 (v2 2); omega
          unfold xΨhs17
          refine ⟨by omega, fun S hS => ?_⟩
          have hst := (hS.2.2.2.1.2 (v2 2) (by omega) (by have := hS.2.2.2.1.1; omega)).1
          have hfc := hS.2.2.1 (x0 0) hP (by have := hS.2.1.2.2.1; omega)
          have hb := hS.2.2.2.1.1
          have ht : pTak S (x0 0) (pF (S 0) (S 1) (x0 0)) (v2 2 + 1).toNat = true := by
            rw [pTak_s (by omega), Bool.or_eq_true, Bool.or_eq_true, decide_eq_true_eq, decide_eq_true_eq]
            right
            omega
          rw [if_pos (pTak_m (by omega) ht)]
        · skip
          have ex := List.mem_singleton.mp hx
          subst ex
          obtain ⟨hF, hBd, hM⟩ := hXs
          have g1 : v2 1 = v 1 := hag 1 (by decide)
          have g2 : v2 2 = v 2 := hag 2 (by decide)
          have b0 : ((2147483648 : Nat) : Int) ≤ (v2 2) + 2147483648 ∧ (v2 2) + 2147483648 ≤ ((2147483656 : Nat) : Int) := xXb hBd 0 rfl
          have b1 : ((2147483648 : Nat) : Int) ≤ (v2 3) + 2147483648 ∧ (v2 3) + 2147483648 ≤ ((2147483656 : Nat) : Int) := xXb hBd 1 rfl
          have f0 : (0 : Int) ≤ 5 ∧ xE E 18 5 = (v2 3) := xXf hF 0 rfl
          have f1 : (v2 3) ≤ (v2 2) := xXf hF 1 rfl
          have e18_5 : xE E2 18 5 = xE E 18 5 := xFr_E hfr rfl
          have q18_5 : xE E 18 5 = xE E0 18 5 := xFr_E hFr0 rfl
          have e19_2 : xE E2 19 2 = xE E 19 2 := xFr_E hfr rfl
          have q19_2 : xE E 19 2 = xE E0 19 2 := xFr_E hFr0 rfl
          have e31 : ∀ i, xE E2 31 i = xE E 31 i := fun i => xFr_E hfr rfl
          have q31 : ∀ i, xE E 31 i = xE E0 31 i := fun i => xFr_E hFr0 rfl
          have e21 : ∀ i, xE E2 21 i = xE E 21 i := fun i => xFr_E hfr rfl
          have q21 : ∀ i, xE E 21 i = xE E0 21 i := fun i => xFr_E hFr0 rfl
          have y18_5 : ((2147483648 : Nat) : Int) ≤ xE E0 18 5 + 2147483648 ∧ xE E0 18 5 + 2147483648 ≤ ((2147483656 : Nat) : Int) := xTyF hT0 18 5 5 rfl rfl rfl rfl rfl rfl
          have y19_2 : ((2147483648 : Nat) : Int) ≤ xE E0 19 2 + 2147483648 ∧ xE E0 19 2 + 2147483648 ≤ ((2147483728 : Nat) : Int) := xTyF hT0 19 2 2 rfl rfl rfl rfl rfl rfl
          have hI : (0 ≤ (v 2) ∧ (v 2) ≤ xE E0 18 5) ∧ (v 1) = x0 0 ∧ ∀ S, xAb17 E0 S → pTak S (x0 0) (pF (S 0) (S 1) (x0 0)) ((v 2)).toNat = false := hInv
          show xΨhs17 x0 E0 E2 0
          obtain ⟨i1, i2, i3⟩ := hI
          have hP := hΦ.1
          have hP2 := hΦ.2
          rw [show (v 2) = v2 2 by omega] at i3
          unfold xΨhs17
          refine ⟨by omega, fun S hS => ?_⟩
          have hb := hS.2.2.2.1.1
          rw [show S 2 = v2 2 by omega, i3 S hS]
          rfl
noncomputable def zxfab17_ax0 : zyXp := (9, [147, 34359738369], [34359738369, 68719476737, 251], [(24, 68719476737, 18, 40)], [(34359738369, 2147483648, 2147483727), (68719476737, 2147483648, 2147483656)], [])
noncomputable def zpfab17_a : zyPh := (0, [147, 34359738369], [(0, 4294967295), (2147483648, 2147483727)], [], [])
noncomputable def zxfab17_bx0 : zyXp := (19, [147, 34359738369], [34359738360, 68719476737, 259], [(24, 68719476737, 18, 40)], [(34359738369, 2147483648, 2147483727), (68719476737, 2147483648, 2147483656)], [])
noncomputable def zpfab17_b : zyPh := (10, [147, 34359738369], [(0, 4294967295), (2147483648, 2147483727)], [], [])
noncomputable def zxfab17_cr0 : zyXp := (0, [], [], [], [(68719476737, 2147483648, 2147483655)], [(294917, 68719476745)])
noncomputable def zpfab17_c : zyPh := (20, [147, 34359738369], [(0, 4294967295), (2147483648, 2147483727), (2147483648, 2147483655)], [(294917, 68719476737)], [])
noncomputable def zpfab17 (i : Nat) : zyPh := zif (Nat.beq i 0) (zpfab17_a) (zif (Nat.beq i 1) (zpfab17_b) (zpfab17_c))
noncomputable def zXfab17 (i : Nat) : List zyXp := zif (Nat.beq i 0) ([zxfab17_ax0]) (zif (Nat.beq i 1) ([zxfab17_bx0]) ([]))
noncomputable def zRfab17 (i : Nat) : List zyXp := zif (Nat.beq i 0) ([]) (zif (Nat.beq i 1) ([]) ([zxfab17_cr0]))
noncomputable def zFfab17 (i : Nat) : zyR := zif (Nat.beq i 0) ([]) (zif (Nat.beq i 1) ([]) ([(18, 5, 5)]))
noncomputable def zSfab17 (i : Nat) : Nat := zif (Nat.beq i 0) (0) (zif (Nat.beq i 1) (0) (0))
def xΦab17 (x : Nat → Int) (E : zyEm) : Prop := xE E 18 5 ≤ 7 ∧ 0 ≤ x 0 ∧ x 0 ≤ 79
def xΨab17 (x : Nat → Int) (E E2 : zyEm) (_ : Int) : Prop := xE E2 18 5 = xE E 18 5 + 1 ∧ xE E2 31 (xE E 18 5) = x 0 ∧ (∀ k, 0 ≤ k → ¬ k = xE E 18 5 → xE E2 31 k = xE E 31 k) ∧ xE E2 32 (xE E 18 5) = -1 ∧ (∀ k, 0 ≤ k → ¬ k = xE E 18 5 → xE E2 32 k = xE E 32 k)
noncomputable def fpfab17 : zyR := [(18, 5, 5), (31, 0, 7), (32, 0, 7)]
theorem zyfab17_run : zyrS zymc zxi32 (32, 0, 0, 0, 0) 1 zpfab17 (fun _ _ => []) zFfab17 zSfab17 zXfab17 zRfab17 3 = true := by decide +kernel
theorem zyfab17_ck : zyAll (fun i => xsubR (zFfab17 i) fpfab17 && ((zXfab17 i).all xckX && (zRfab17 i).all (fun x => xckX x && xrtB false x))) 3 = true := by decide +kernel
def xIfab17 (i : Nat) (x0 : Nat → Int) (E0 : zyEm) (v : Nat → Int) (E : zyEm) : Prop := if i = 0 then (E = E0 ∧ (v 1) = x0 0) else if i = 1 then ((0 ≤ (v 1) ∧ (v 1) ≤ 79) ∧ xE E 18 5 = (xE E0 18 5) ∧ (xE E0 18 5) ≤ 7 ∧ xE E 31 (xE E0 18 5) = x0 0 ∧ (∀ k, 0 ≤ k → ¬ k = (xE E0 18 5) → xE E 31 k = xE E0 31 k) ∧ (∀ k, xE E 32 k = xE E0 32 k)) else (xE E 18 5 = (xE E0 18 5) ∧ (xE E0 18 5) ≤ 7 ∧ xE E 31 (xE E0 18 5) = x0 0 ∧ (∀ k, 0 ≤ k → ¬ k = (xE E0 18 5) → xE E 31 k = xE E0 31 k) ∧ xE E 32 (xE E0 18 5) = -1 ∧ (∀ k, 0 ≤ k → ¬ k = (xE E0 18 5) → xE E 32 k = xE E0 32 k))
def xMfab17 (i : Nat) (x0 : Nat → Int) (E0 : zyEm) (v : Nat → Int) (E : zyEm) : Nat := if i = 0 then (3) else if i = 1 then (2) else (1)
theorem xAbb17 {l : Launch} {en : zEn} {me : zMe} (hen : zG zxMeta 32 = some en) (hme : zG zMeth 32 = some me) : xFc l zymc en me 1 [18] 1 fpfab17 false xΦab17 xΨab17 := by
  have een : zG zxMeta 32 = some (zxi32, 2, 2, 3, 32, 0, 0, 0, 0) := rfl
  obtain ⟨me1, hme1, hOK⟩ := zall hen
  rw [hme] at hme1
  cases hme1
  rw [een] at hen
  cases hen
  have hr := zyfab17_run
  have hck := fun i hi => zyAll_iff zyfab17_ck i hi
  simp only [Bool.and_eq_true] at hck
  intro B
  refine xcut (mi := zymc) (B := B) hOK rfl rfl (ι := Fin 3) (fun i => zpfab17 i.val) (fun _ _ => []) (fun i => zFfab17 i.val) (fun i => zSfab17 i.val) (fun i => zXfab17 i.val) (fun i => zRfab17 i.val) (fun i y2 ct en2 me2 h => by cases h) 200000 (fun i => zyAll_iff hr i.val i.isLt) (fun i => (hck i.val i.isLt).1) (fun i => (hck i.val i.isLt).2.1) (fun i => (hck i.val i.isLt).2.2) ⟨0, by decide⟩ ⟨rfl, rfl, rfl, rfl⟩ ⟨by decide, by decide⟩ (fun i x0 E0 v E => xIfab17 i.val x0 E0 v E) (fun i x0 E0 v E => xMfab17 i.val x0 E0 v E) ?_ ?_ ?_
  · intro x0 E hx0 hT hΦ
    have hΦ : xΦab17 x0 E := hΦ
    refine ⟨fun k p hp => ?_, ?_⟩
    · have hk : k < 2 := (List.getElem?_eq_some_iff.mp hp).1
      have hk : k = 0 ∨ k = 1 := by omega
      rcases hk with rfl | rfl
      · have hp : some (0, 4294967295) = some p := hp
        cases hp
        show ((0 : Nat) : Int) ≤ 0 + 2147483648 ∧ 0 + 2147483648 ≤ ((4294967295 : Nat) : Int)
        omega
      · have hp : some (2147483648, 2147483727) = some p := hp
        cases hp
        show ((2147483648 : Nat) : Int) ≤ x0 0 + 2147483648 ∧ x0 0 + 2147483648 ≤ ((2147483727 : Nat) : Int)
        have hx := hx0 0
        have hP := hΦ.2
        omega
    · show E = E ∧ (x0 0) = x0 0
      exact ⟨rfl, rfl⟩
  · intro x0 s Wg hRu hrx hT0 hΦ i v H hT hrv hInv hKc hFr0 hIH x hx ρ2 v2 N2 H2 locs lsB stA hAt hB hv hr2 hXs hag hfr hFr hT2
    rcases i with ⟨i, hi⟩
    have hi2 : i = 0 ∨ i = 1 ∨ i = 2 := by omega
    rcases hi2 with rfl | rfl | rfl
    · have hx : x ∈ [zxfab17_ax0] := hx
      have hag : ∀ k, k < 2 → v2 k = v k := hag
      have hfr : xFr [] _ _ := hfr
      have ex := List.mem_singleton.mp hx
      subst ex
      obtain ⟨hF, hBd, hM⟩ := hXs
      have g1 : v2 1 = v 1 := hag 1 (by decide)
      have b0 : ((2147483648 : Nat) : Int) ≤ (v2 1) + 2147483648 ∧ (v2 1) + 2147483648 ≤ ((2147483727 : Nat) : Int) := xXb hBd 0 rfl
      have b1 : ((2147483648 : Nat) : Int) ≤ (v2 2) + 2147483648 ∧ (v2 2) + 2147483648 ≤ ((2147483656 : Nat) : Int) := xXb hBd 1 rfl
      have f0 : (0 : Int) ≤ 5 ∧ xE (zyEl zymc B H) 18 5 = (v2 2) := xXf hF 0 rfl
      have e18_5 : xE (zyEl zymc B H2) 18 5 = xE (zyEl zymc B H) 18 5 := xFr_E hfr rfl
      have e31 : ∀ i, xE (zyEl zymc B H2) 31 i = xE (zyEl zymc B H) 31 i := fun i => xFr_E hfr rfl
      have e32 : ∀ i, xE (zyEl zymc B H2) 32 i = xE (zyEl zymc B H) 32 i := fun i => xFr_E hfr rfl
      have y18_5 : ((2147483648 : Nat) : Int) ≤ xE (zyEl zymc B s.heap) 18 5 + 2147483648 ∧ xE (zyEl zymc B s.heap) 18 5 + 2147483648 ≤ ((2147483656 : Nat) : Int) := xTyF hT0 18 5 5 rfl rfl rfl rfl rfl rfl
      have hI : (zyEl zymc B H) = (zyEl zymc B s.heap) ∧ (v 1) = x0 0 := hInv
      have q18_5 : xE (zyEl zymc B H) 18 5 = xE (zyEl zymc B s.heap) 18 5 := by rw [hI.1]
      have q31 : ∀ i, xE (zyEl zymc B H) 31 i = xE (zyEl zymc B s.heap) 31 i := fun i => by rw [hI.1]
      have q32 : ∀ i, xE (zyEl zymc B H) 32 i = xE (zyEl zymc B s.heap) 32 i := fun i => by rw [hI.1]
      have hP := hΦ.1
      refine xSt hRu hIH hAt hB hv hFr 31 (ax := 0) 34359738369 68719476737 (v2 1) (v2 2) rfl (Or.inl ⟨rfl, rfl⟩) rfl (by decide +kernel) rfl rfl (by omega) (by show (v2 2) < ((8 : Nat) : Int); omega) (fun r hr q1 q2 => by rw [List.mem_singleton.mp hr]; exact ⟨rfl, by show ((2147483648 : Nat) : Int) ≤ (v2 1) + 2147483648; omega, by show (v2 1) + 2147483648 ≤ ((2147483727 : Nat) : Int); omega⟩) (zyin_iff.mpr ⟨(31, 0, 7), by decide, rfl, Nat.zero_le _, by show Int.toNat (v2 2) ≤ 7; omega⟩) (fun H3 hT3 hst3 hne3 hfn3 hFr3 => ?_)
      have hfe3 : ∀ (a2 : Nat) (k2 : Int), ¬ a2 = 31 → xE (zyEl zymc B H3) a2 k2 = xE (zyEl zymc B H2) a2 k2 := fun a2 k2 hne => by unfold xE; rw [hfn3 a2 k2.toNat (fun z => hne z.1)]
      have d18_5 : xE (zyEl zymc B H3) 18 5 = xE (zyEl zymc B H2) 18 5 := hfe3 18 5 (fun z => absurd z (by decide))
      refine ⟨⟨1, by decide⟩, [0, 34359738369], [0, (v2 1)], rfl, ⟨by decide +kernel, ⟨rfl, by decide +kernel⟩, (xcs_c rfl (xcs_c rfl xcs_n)), (xe_0 (xe_c (by omega) (by omega) rfl xe_n)), xkq_n⟩, rfl, ?_, ?_⟩
      · show (0 ≤ ((v2 1) : Int) ∧ ((v2 1) : Int) ≤ 79) ∧ xE (zyEl zymc B H3) 18 5 = (xE (zyEl zymc B s.heap) 18 5) ∧ (xE (zyEl zymc B s.heap) 18 5) ≤ 7 ∧ xE (zyEl zymc B H3) 31 (xE (zyEl zymc B s.heap) 18 5) = x0 0 ∧ (∀ k, 0 ≤ k → ¬ k = (xE (zyEl zymc B s.heap) 18 5) → xE (zyEl zymc B H3) 31 k = xE (zyEl zymc B s.heap) 31 k) ∧ (∀ k, xE (zyEl zymc B H3) 32 k = xE (zyEl zymc B s.heap) 32 k)
        rw [show (v2 2) = xE (zyEl zymc B s.heap) 18 5 by omega] at hst3 hne3
        exact ⟨by omega, by omega, by omega, hst3.trans (by omega), fun k k0 k1 => (hne3 31 k k0 (fun z => k1 z.2)).trans ((e31 k).trans (q31 k)), fun k => (hfe3 32 k (fun z => absurd z (by decide))).trans ((e32 k).trans (q32 k))⟩
      · show 2 < 3
        omega
    · have hx : x ∈ [zxfab17_bx0] := hx
      have hag : ∀ k, k < 2 → v2 k = v k := hag
      have hfr : xFr [] _ _ := hfr
      have ex := List.mem_singleton.mp hx
      subst ex
      obtain ⟨hF, hBd, hM⟩ := hXs
      have g1 : v2 1 = v 1 := hag 1 (by decide)
      have b0 : ((2147483648 : Nat) : Int) ≤ (v2 1) + 2147483648 ∧ (v2 1) + 2147483648 ≤ ((2147483727 : Nat) : Int) := xXb hBd 0 rfl
      have b1 : ((2147483648 : Nat) : Int) ≤ (v2 2) + 2147483648 ∧ (v2 2) + 2147483648 ≤ ((2147483656 : Nat) : Int) := xXb hBd 1 rfl
      have f0 : (0 : Int) ≤ 5 ∧ xE (zyEl zymc B H) 18 5 = (v2 2) := xXf hF 0 rfl
      have e18_5 : xE (zyEl zymc B H2) 18 5 = xE (zyEl zymc B H) 18 5 := xFr_E hfr rfl
      have e31 : ∀ i, xE (zyEl zymc B H2) 31 i = xE (zyEl zymc B H) 31 i := fun i => xFr_E hfr rfl
      have e32 : ∀ i, xE (zyEl zymc B H2) 32 i = xE (zyEl zymc B H) 32 i := fun i => xFr_E hfr rfl
      have y18_5 : ((2147483648 : Nat) : Int) ≤ xE (zyEl zymc B s.heap) 18 5 + 2147483648 ∧ xE (zyEl zymc B s.heap) 18 5 + 2147483648 ≤ ((2147483656 : Nat) : Int) := xTyF hT0 18 5 5 rfl rfl rfl rfl rfl rfl
      have hI : (0 ≤ (v 1) ∧ (v 1) ≤ 79) ∧ xE (zyEl zymc B H) 18 5 = (xE (zyEl zymc B s.heap) 18 5) ∧ (xE (zyEl zymc B s.heap) 18 5) ≤ 7 ∧ xE (zyEl zymc B H) 31 (xE (zyEl zymc B s.heap) 18 5) = x0 0 ∧ (∀ k, 0 ≤ k → ¬ k = (xE (zyEl zymc B s.heap) 18 5) → xE (zyEl zymc B H) 31 k = xE (zyEl zymc B s.heap) 31 k) ∧ (∀ k, xE (zyEl zymc B H) 32 k = xE (zyEl zymc B s.heap) 32 k) := hInv
      obtain ⟨i1, i2, i3, i4, i5, i6⟩ := hI
      refine xSt hRu hIH hAt hB hv hFr 32 (ax := 0) 34359738360 68719476737 (-1) (v2 2) rfl (Or.inl ⟨rfl, rfl⟩) rfl (by decide +kernel) rfl rfl (by omega) (by show (v2 2) < ((8 : Nat) : Int); omega) (fun r hr q1 q2 => by rw [List.mem_singleton.mp hr]; exact ⟨rfl, by show ((2147483647 : Nat) : Int) ≤ (-1) + 2147483648; omega, by show (-1) + 2147483648 ≤ ((2147483727 : Nat) : Int); omega⟩) (zyin_iff.mpr ⟨(32, 0, 7), by decide, rfl, Nat.zero_le _, by show Int.toNat (v2 2) ≤ 7; omega⟩) (fun H3 hT3 hst3 hne3 hfn3 hFr3 => ?_)
      have hfe3 : ∀ (a2 : Nat) (k2 : Int), ¬ a2 = 32 → xE (zyEl zymc B H3) a2 k2 = xE (zyEl zymc B H2) a2 k2 := fun a2 k2 hne => by unfold xE; rw [hfn3 a2 k2.toNat (fun z => hne z.1)]
      have d18_5 : xE (zyEl zymc B H3) 18 5 = xE (zyEl zymc B H2) 18 5 := hfe3 18 5 (fun z => absurd z (by decide))
      have z18_5 : ((2147483648 : Nat) : Int) ≤ xE (zyEl zymc B H3) 18 5 + 2147483648 ∧ xE (zyEl zymc B H3) 18 5 + 2147483648 ≤ ((2147483656 : Nat) : Int) := xTyF hT3 18 5 5 rfl rfl rfl rfl rfl rfl
      refine ⟨⟨2, by decide⟩, [0, 34359738369], [0, (v2 1), xE (zyEl zymc B H3) 18 5], rfl, ⟨by decide +kernel, ⟨rfl, by decide +kernel⟩, (xcs_c rfl (xcs_c rfl xcs_n)), (xe_0 (xe_c (by omega) (by omega) rfl (xe_c (by omega) (by omega) rfl xe_n))), (xkq_c hT3 18 5 (q := 5) rfl rfl rfl rfl rfl rfl rfl rfl rfl rfl rfl xkq_n)⟩, rfl, ?_, ?_⟩
      · show xE (zyEl zymc B H3) 18 5 = (xE (zyEl zymc B s.heap) 18 5) ∧ (xE (zyEl zymc B s.heap) 18 5) ≤ 7 ∧ xE (zyEl zymc B H3) 31 (xE (zyEl zymc B s.heap) 18 5) = x0 0 ∧ (∀ k, 0 ≤ k → ¬ k = (xE (zyEl zymc B s.heap) 18 5) → xE (zyEl zymc B H3) 31 k = xE (zyEl zymc B s.heap) 31 k) ∧ xE (zyEl zymc B H3) 32 (xE (zyEl zymc B s.heap) 18 5) = -1 ∧ (∀ k, 0 ≤ k → ¬ k = (xE (zyEl zymc B s.heap) 18 5) → xE (zyEl zymc B H3) 32 k = xE (zyEl zymc B s.heap) 32 k)
        rw [show (v2 2) = xE (zyEl zymc B s.heap) 18 5 by omega] at hst3 hne3
        exact ⟨by omega, by omega, (hfe3 31 _ (fun z => absurd z (by decide))).trans ((e31 _).trans i4), fun k k0 k1 => (hfe3 31 k (fun z => absurd z (by decide))).trans ((e31 k).trans (i5 k k0 k1)), hst3, fun k k0 k1 => (hne3 32 k k0 (fun z => k1 z.2)).trans ((e32 k).trans (i6 k))⟩
      · show 1 < 2
        omega
    · cases hx
  · intro x0 E0 E E2 hrx hT0 hΦ i v hT hrv hInv hKc hFr0 x hx v2 hr2 hXs hag hfr hFr hT2
    rcases i with ⟨i, hi⟩
    have hi2 : i = 0 ∨ i = 1 ∨ i = 2 := by omega
    rcases hi2 with rfl | rfl | rfl
    · cases hx
    · cases hx
    · have hx : x ∈ [zxfab17_cr0] := hx
      have hag : ∀ k, k < 3 → v2 k = v k := hag
      have hfr : xFr [(18, 5, 5)] _ _ := hfr
      have ex := List.mem_singleton.mp hx
      subst ex
      obtain ⟨hF, hBd, hM⟩ := hXs
      have g1 : v2 1 = v 1 := hag 1 (by decide)
      have g2 : v2 2 = v 2 := hag 2 (by decide)
      have b0 : ((2147483648 : Nat) : Int) ≤ (v2 2) + 2147483648 ∧ (v2 2) + 2147483648 ≤ ((2147483655 : Nat) : Int) := xXb hBd 0 rfl
      have k0 : xE E 18 5 = v 2 := xKcf hKc 0 rfl rfl
      have m0 : xE E2 18 5 = (v2 2 + 1) := xXm hM 0 rfl
      have e31 : ∀ i, xE E2 31 i = xE E 31 i := fun i => xFr_E hfr rfl
      have e32 : ∀ i, xE E2 32 i = xE E 32 i := fun i => xFr_E hfr rfl
      have y18_5 : ((2147483648 : Nat) : Int) ≤ xE E0 18 5 + 2147483648 ∧ xE E0 18 5 + 2147483648 ≤ ((2147483656 : Nat) : Int) := xTyF hT0 18 5 5 rfl rfl rfl rfl rfl rfl
      have hI : xE E 18 5 = (xE E0 18 5) ∧ (xE E0 18 5) ≤ 7 ∧ xE E 31 (xE E0 18 5) = x0 0 ∧ (∀ k, 0 ≤ k → ¬ k = (xE E0 18 5) → xE E 31 k = xE E0 31 k) ∧ xE E 32 (xE E0 18 5) = -1 ∧ (∀ k, 0 ≤ k → ¬ k = (xE E0 18 5) → xE E 32 k = xE E0 32 k) := hInv
      show xΨab17 x0 E0 E2 0
      obtain ⟨i1, i2, i3, i4, i5, i6⟩ := hI
      unfold xΨab17
      exact ⟨by omega, (e31 _).trans i3, fun k k0 k1 => (e31 k).trans (i4 k k0 k1), (e32 _).trans i5, fun k k0 k1 => (e32 k).trans (i6 k k0 k1)⟩
noncomputable def zxfwa17_zx0 : zyXp := (0, [267, 34359738369], [], [], [(34359738369, 2147483641, 2147483655)], [])
noncomputable def zpfwa17_z : zyPh := (0, [267, 34359738369], [(0, 4294967295), (2147483641, 2147483655)], [], [])
noncomputable def zxfwa17_ax0 : zyXp := (21, [267, 34359738369], [34359738369, 68719476737, 275], [(20, 0, 68719476737, 480)], [(34359738369, 2147483641, 2147483655), (68719476737, 2147483648, 2147483707)], [(540673, 68719476737)])
noncomputable def zxfwa17_ar0 : zyXp := (0, [], [], [(21, 0, 68719476737, 480)], [(68719476737, 2147483708, 2147483708)], [(540673, 488)])
noncomputable def zpfwa17_a : zyPh := (0, [267, 34359738369], [(0, 4294967295), (2147483641, 2147483655), (2147483648, 2147483708)], [(540673, 68719476737)], [])
noncomputable def zxfwa17_br0 : zyXp := (0, [], [], [], [(68719476737, 2147483648, 2147483707)], [(540673, 68719476745)])
noncomputable def zpfwa17_b : zyPh := (22, [267, 34359738369], [(0, 4294967295), (2147483641, 2147483655), (2147483648, 2147483707)], [(540673, 68719476737)], [])
noncomputable def zpfwa17 (i : Nat) : zyPh := zif (Nat.beq i 0) (zpfwa17_z) (zif (Nat.beq i 1) (zpfwa17_a) (zpfwa17_b))
noncomputable def zXfwa17 (i : Nat) : List zyXp := zif (Nat.beq i 0) ([zxfwa17_zx0]) (zif (Nat.beq i 1) ([zxfwa17_ax0]) ([]))
noncomputable def zRfwa17 (i : Nat) : List zyXp := zif (Nat.beq i 0) ([]) (zif (Nat.beq i 1) ([zxfwa17_ar0]) ([zxfwa17_br0]))
noncomputable def zFfwa17 (i : Nat) : zyR := zif (Nat.beq i 0) ([]) (zif (Nat.beq i 1) ([(33, 1, 1)]) ([(33, 1, 1)]))
noncomputable def zSfwa17 (i : Nat) : Nat := zif (Nat.beq i 0) (0) (zif (Nat.beq i 1) (0) (0))
def xΦwa17 (x : Nat → Int) (E : zyEm) : Prop := xE E 33 1 ≤ 60 ∧ -7 ≤ x 0 ∧ x 0 ≤ 7
def xΨwa17 (x : Nat → Int) (E E2 : zyEm) (_ : Int) : Prop := xE E2 33 1 = xE E 33 1 + 1 ∧ (xE E 33 1 < 60 → xE E2 34 (xE E 33 1) = x 0) ∧ (∀ k, 0 ≤ k → ¬ k = xE E 33 1 → xE E2 34 k = xE E 34 k)
noncomputable def fpfwa17 : zyR := [(33, 1, 1), (34, 0, 59)]
theorem zyfwa17_run : zyrS zymc zxi107 (107, 0, 0, 0, 0) 1 zpfwa17 (fun _ _ => []) zFfwa17 zSfwa17 zXfwa17 zRfwa17 3 = true := by decide +kernel
theorem zyfwa17_ck : zyAll (fun i => xsubR (zFfwa17 i) fpfwa17 && ((zXfwa17 i).all xckX && (zRfwa17 i).all (fun x => xckX x && xrtB false x))) 3 = true := by decide +kernel
def xIfwa17 (i : Nat) (x0 : Nat → Int) (E0 : zyEm) (v : Nat → Int) (E : zyEm) : Prop := if i = 0 then (E = E0 ∧ (v 1) = x0 0) else if i = 1 then ((v 1) = x0 0 ∧ xE E 33 1 = (xE E0 33 1) ∧ (xE E0 33 1) ≤ 60 ∧ (∀ k, xE E 34 k = xE E0 34 k)) else (xE E 33 1 = (xE E0 33 1) ∧ (xE E0 33 1) < 60 ∧ xE E 34 (xE E0 33 1) = x0 0 ∧ (∀ k, 0 ≤ k → ¬ k = (xE E0 33 1) → xE E 34 k = xE E0 34 k))
def xMfwa17 (i : Nat) (x0 : Nat → Int) (E0 : zyEm) (v : Nat → Int) (E : zyEm) : Nat := if i = 0 then (3) else if i = 1 then (2) else (1)
theorem xWa17 {l : Launch} {en : zEn} {me : zMe} (hen : zG zxMeta 107 = some en) (hme : zG zMeth 107 = some me) : xFc l zymc en me 1 [33] 1 fpfwa17 false xΦwa17 xΨwa17 := by
  have een : zG zxMeta 107 = some (zxi107, 2, 2, 9, 107, 0, 0, 0, 0) := rfl
  obtain ⟨me1, hme1, hOK⟩ := zall hen
  rw [hme] at hme1
  cases hme1
  rw [een] at hen
  cases hen
  have hr := zyfwa17_run
  have hck := fun i hi => zyAll_iff zyfwa17_ck i hi
  simp only [Bool.and_eq_true] at hck
  intro B
  refine xcut (mi := zymc) (B := B) hOK rfl rfl (ι := Fin 3) (fun i => zpfwa17 i.val) (fun _ _ => []) (fun i => zFfwa17 i.val) (fun i => zSfwa17 i.val) (fun i => zXfwa17 i.val) (fun i => zRfwa17 i.val) (fun i y2 ct en2 me2 h => by cases h) 200000 (fun i => zyAll_iff hr i.val i.isLt) (fun i => (hck i.val i.isLt).1) (fun i => (hck i.val i.isLt).2.1) (fun i => (hck i.val i.isLt).2.2) ⟨0, by decide⟩ ⟨rfl, rfl, rfl, rfl⟩ ⟨by decide, by decide⟩ (fun i x0 E0 v E => xIfwa17 i.val x0 E0 v E) (fun i x0 E0 v E => xMfwa17 i.val x0 E0 v E) ?_ ?_ ?_
  · intro x0 E hx0 hT hΦ
    have hΦ : xΦwa17 x0 E := hΦ
    refine ⟨fun k p hp => ?_, ?_⟩
    · have hk : k < 2 := (List.getElem?_eq_some_iff.mp hp).1
      have hk : k = 0 ∨ k = 1 := by omega
      rcases hk with rfl | rfl
      · have hp : some (0, 4294967295) = some p := hp
        cases hp
        show ((0 : Nat) : Int) ≤ 0 + 2147483648 ∧ 0 + 2147483648 ≤ ((4294967295 : Nat) : Int)
        omega
      · have hp : some (2147483641, 2147483655) = some p := hp
        cases hp
        show ((2147483641 : Nat) : Int) ≤ x0 0 + 2147483648 ∧ x0 0 + 2147483648 ≤ ((2147483655 : Nat) : Int)
        have hx := hx0 0
        have hP := hΦ.2
        omega
    · show E = E ∧ (x0 0) = x0 0
      exact ⟨rfl, rfl⟩
  · intro x0 s Wg hRu hrx hT0 hΦ i v H hT hrv hInv hKc hFr0 hIH x hx ρ2 v2 N2 H2 locs lsB stA hAt hB hv hr2 hXs hag hfr hFr hT2
    rcases i with ⟨i, hi⟩
    have hi2 : i = 0 ∨ i = 1 ∨ i = 2 := by omega
    rcases hi2 with rfl | rfl | rfl
    · have hx : x ∈ [zxfwa17_zx0] := hx
      have hag : ∀ k, k < 2 → v2 k = v k := hag
      have hfr : xFr [] _ _ := hfr
      have ex := List.mem_singleton.mp hx
      subst ex
      obtain ⟨hF, hBd, hM⟩ := hXs
      have g1 : v2 1 = v 1 := hag 1 (by decide)
      have b0 : ((2147483641 : Nat) : Int) ≤ (v2 1) + 2147483648 ∧ (v2 1) + 2147483648 ≤ ((2147483655 : Nat) : Int) := xXb hBd 0 rfl
      have e33_1 : xE (zyEl zymc B H2) 33 1 = xE (zyEl zymc B H) 33 1 := xFr_E hfr rfl
      have e34 : ∀ i, xE (zyEl zymc B H2) 34 i = xE (zyEl zymc B H) 34 i := fun i => xFr_E hfr rfl
      have y33_1 : ((2147483648 : Nat) : Int) ≤ xE (zyEl zymc B s.heap) 33 1 + 2147483648 ∧ xE (zyEl zymc B s.heap) 33 1 + 2147483648 ≤ ((2147483709 : Nat) : Int) := xTyF hT0 33 1 1 rfl rfl rfl rfl rfl rfl
      have hI : (zyEl zymc B H) = (zyEl zymc B s.heap) ∧ (v 1) = x0 0 := hInv
      have q33_1 : xE (zyEl zymc B H) 33 1 = xE (zyEl zymc B s.heap) 33 1 := by rw [hI.1]
      have q34 : ∀ i, xE (zyEl zymc B H) 34 i = xE (zyEl zymc B s.heap) 34 i := fun i => by rw [hI.1]
      have hP := hΦ.1
      have z33_1 : ((2147483648 : Nat) : Int) ≤ xE (zyEl zymc B H2) 33 1 + 2147483648 ∧ xE (zyEl zymc B H2) 33 1 + 2147483648 ≤ ((2147483709 : Nat) : Int) := xTyF hT2 33 1 1 rfl rfl rfl rfl rfl rfl
      refine xGo hIH hAt hB hv hFr ⟨1, by decide⟩ [0, 34359738369] [0, (v2 1), xE (zyEl zymc B H2) 33 1] rfl ⟨by decide +kernel, ⟨rfl, by decide +kernel⟩, (xcs_c rfl (xcs_c rfl xcs_n)), (xe_0 (xe_c (by omega) (by omega) rfl (xe_c (by omega) (by omega) rfl xe_n))), (xkq_c hT2 33 1 (q := 1) rfl rfl rfl rfl rfl rfl rfl rfl rfl rfl rfl xkq_n)⟩ xst_n ?_ ?_
      · show ((v2 1) : Int) = x0 0 ∧ xE (zyEl zymc B H2) 33 1 = (xE (zyEl zymc B s.heap) 33 1) ∧ (xE (zyEl zymc B s.heap) 33 1) ≤ 60 ∧ (∀ k, xE (zyEl zymc B H2) 34 k = xE (zyEl zymc B s.heap) 34 k)
        exact ⟨by omega, by omega, by omega, fun k => (e34 k).trans (q34 k)⟩
      · show 2 < 3
        omega
    · have hx : x ∈ [zxfwa17_ax0] := hx
      have hag : ∀ k, k < 3 → v2 k = v k := hag
      have hfr : xFr [(33, 1, 1)] _ _ := hfr
      have ex := List.mem_singleton.mp hx
      subst ex
      obtain ⟨hF, hBd, hM⟩ := hXs
      have g1 : v2 1 = v 1 := hag 1 (by decide)
      have g2 : v2 2 = v 2 := hag 2 (by decide)
      have b0 : ((2147483641 : Nat) : Int) ≤ (v2 1) + 2147483648 ∧ (v2 1) + 2147483648 ≤ ((2147483655 : Nat) : Int) := xXb hBd 0 rfl
      have b1 : ((2147483648 : Nat) : Int) ≤ (v2 2) + 2147483648 ∧ (v2 2) + 2147483648 ≤ ((2147483707 : Nat) : Int) := xXb hBd 1 rfl
      have k0 : xE (zyEl zymc B H) 33 1 = v 2 := xKcf hKc 0 rfl rfl
      have f0 : (v2 2) < 60 := xXf hF 0 rfl
      have m0 : xE (zyEl zymc B H2) 33 1 = (v2 2) := xXm hM 0 rfl
      have e34 : ∀ i, xE (zyEl zymc B H2) 34 i = xE (zyEl zymc B H) 34 i := fun i => xFr_E hfr rfl
      have y33_1 : ((2147483648 : Nat) : Int) ≤ xE (zyEl zymc B s.heap) 33 1 + 2147483648 ∧ xE (zyEl zymc B s.heap) 33 1 + 2147483648 ≤ ((2147483709 : Nat) : Int) := xTyF hT0 33 1 1 rfl rfl rfl rfl rfl rfl
      have hI : (v 1) = x0 0 ∧ xE (zyEl zymc B H) 33 1 = (xE (zyEl zymc B s.heap) 33 1) ∧ (xE (zyEl zymc B s.heap) 33 1) ≤ 60 ∧ (∀ k, xE (zyEl zymc B H) 34 k = xE (zyEl zymc B s.heap) 34 k) := hInv
      obtain ⟨i1, i2, i3, i4⟩ := hI
      refine xSt hRu hIH hAt hB hv hFr 34 (ax := 0) 34359738369 68719476737 (v2 1) (v2 2) rfl (Or.inl ⟨rfl, rfl⟩) rfl (by decide +kernel) rfl rfl (by omega) (by show (v2 2) < ((60 : Nat) : Int); omega) (fun r hr q1 q2 => by rw [List.mem_singleton.mp hr]; exact ⟨rfl, by show ((2147483641 : Nat) : Int) ≤ (v2 1) + 2147483648; omega, by show (v2 1) + 2147483648 ≤ ((2147483655 : Nat) : Int); omega⟩) (zyin_iff.mpr ⟨(34, 0, 59), by decide, rfl, Nat.zero_le _, by show Int.toNat (v2 2) ≤ 59; omega⟩) (fun H3 hT3 hst3 hne3 hfn3 hFr3 => ?_)
      have hfe3 : ∀ (a2 : Nat) (k2 : Int), ¬ a2 = 34 → xE (zyEl zymc B H3) a2 k2 = xE (zyEl zymc B H2) a2 k2 := fun a2 k2 hne => by unfold xE; rw [hfn3 a2 k2.toNat (fun z => hne z.1)]
      have d33_1 : xE (zyEl zymc B H3) 33 1 = xE (zyEl zymc B H2) 33 1 := hfe3 33 1 (fun z => absurd z (by decide))
      have z33_1 : ((2147483648 : Nat) : Int) ≤ xE (zyEl zymc B H3) 33 1 + 2147483648 ∧ xE (zyEl zymc B H3) 33 1 + 2147483648 ≤ ((2147483709 : Nat) : Int) := xTyF hT3 33 1 1 rfl rfl rfl rfl rfl rfl
      refine ⟨⟨2, by decide⟩, [0, 34359738369], [0, (v2 1), xE (zyEl zymc B H3) 33 1], rfl, ⟨by decide +kernel, ⟨rfl, by decide +kernel⟩, (xcs_c rfl (xcs_c rfl xcs_n)), (xe_0 (xe_c (by omega) (by omega) rfl (xe_c (by omega) (by omega) rfl xe_n))), (xkq_c hT3 33 1 (q := 1) rfl rfl rfl rfl rfl rfl rfl rfl rfl rfl rfl xkq_n)⟩, rfl, ?_, ?_⟩
      · show xE (zyEl zymc B H3) 33 1 = (xE (zyEl zymc B s.heap) 33 1) ∧ (xE (zyEl zymc B s.heap) 33 1) < 60 ∧ xE (zyEl zymc B H3) 34 (xE (zyEl zymc B s.heap) 33 1) = x0 0 ∧ (∀ k, 0 ≤ k → ¬ k = (xE (zyEl zymc B s.heap) 33 1) → xE (zyEl zymc B H3) 34 k = xE (zyEl zymc B s.heap) 34 k)
        rw [show (v2 2) = xE (zyEl zymc B s.heap) 33 1 by omega] at hst3 hne3
        exact ⟨by omega, by omega, hst3.trans (by omega), fun k k0 k1 => (hne3 34 k k0 (fun z => k1 z.2)).trans ((e34 k).trans (i4 k))⟩
      · show 1 < 2
        omega
    · cases hx
  · intro x0 E0 E E2 hrx hT0 hΦ i v hT hrv hInv hKc hFr0 x hx v2 hr2 hXs hag hfr hFr hT2
    rcases i with ⟨i, hi⟩
    have hi2 : i = 0 ∨ i = 1 ∨ i = 2 := by omega
    rcases hi2 with rfl | rfl | rfl
    · cases hx
    · have hx : x ∈ [zxfwa17_ar0] := hx
      have hag : ∀ k, k < 3 → v2 k = v k := hag
      have hfr : xFr [(33, 1, 1)] _ _ := hfr
      have ex := List.mem_singleton.mp hx
      subst ex
      obtain ⟨hF, hBd, hM⟩ := hXs
      have g1 : v2 1 = v 1 := hag 1 (by decide)
      have g2 : v2 2 = v 2 := hag 2 (by decide)
      have b0 : ((2147483708 : Nat) : Int) ≤ (v2 2) + 2147483648 ∧ (v2 2) + 2147483648 ≤ ((2147483708 : Nat) : Int) := xXb hBd 0 rfl
      have k0 : xE E 33 1 = v 2 := xKcf hKc 0 rfl rfl
      have f0 : 60 ≤ (v2 2) := xXf hF 0 rfl
      have m0 : xE E2 33 1 = 61 := xXm hM 0 rfl
      have e34 : ∀ i, xE E2 34 i = xE E 34 i := fun i => xFr_E hfr rfl
      have y33_1 : ((2147483648 : Nat) : Int) ≤ xE E0 33 1 + 2147483648 ∧ xE E0 33 1 + 2147483648 ≤ ((2147483709 : Nat) : Int) := xTyF hT0 33 1 1 rfl rfl rfl rfl rfl rfl
      have hI : (v 1) = x0 0 ∧ xE E 33 1 = (xE E0 33 1) ∧ (xE E0 33 1) ≤ 60 ∧ (∀ k, xE E 34 k = xE E0 34 k) := hInv
      show xΨwa17 x0 E0 E2 0
      obtain ⟨i1, i2, i3, i4⟩ := hI
      unfold xΨwa17
      exact ⟨by omega, fun h => by omega, fun k k0 k1 => (e34 k).trans (i4 k)⟩
    · have hx : x ∈ [zxfwa17_br0] := hx
      have hag : ∀ k, k < 3 → v2 k = v k := hag
      have hfr : xFr [(33, 1, 1)] _ _ := hfr
      have ex := List.mem_singleton.mp hx
      subst ex
      obtain ⟨hF, hBd, hM⟩ := hXs
      have g1 : v2 1 = v 1 := hag 1 (by decide)
      have g2 : v2 2 = v 2 := hag 2 (by decide)
      have b0 : ((2147483648 : Nat) : Int) ≤ (v2 2) + 2147483648 ∧ (v2 2) + 2147483648 ≤ ((2147483707 : Nat) : Int) := xXb hBd 0 rfl
      have k0 : xE E 33 1 = v 2 := xKcf hKc 0 rfl rfl
      have m0 : xE E2 33 1 = (v2 2 + 1) := xXm hM 0 rfl
      have e34 : ∀ i, xE E2 34 i = xE E 34 i := fun i => xFr_E hfr rfl
      have y33_1 : ((2147483648 : Nat) : Int) ≤ xE E0 33 1 + 2147483648 ∧ xE E0 33 1 + 2147483648 ≤ ((2147483709 : Nat) : Int) := xTyF hT0 33 1 1 rfl rfl rfl rfl rfl rfl
      have hI : xE E 33 1 = (xE E0 33 1) ∧ (xE E0 33 1) < 60 ∧ xE E 34 (xE E0 33 1) = x0 0 ∧ (∀ k, 0 ≤ k → ¬ k = (xE E0 33 1) → xE E 34 k = xE E0 34 k) := hInv
      show xΨwa17 x0 E0 E2 0
      obtain ⟨i1, i2, i3, i4⟩ := hI
      unfold xΨwa17
      exact ⟨by omega, fun h => (e34 _).trans i3, fun k k0 k1 => (e34 k).trans (i4 k k0 k1)⟩
end
section
/-! THE CLASS reads: stuck, free, place (printed by m8.py) -/
noncomputable def zxfrk17_ax0 : zyXp := (11, [283, 147, 13], [137438953465, 0, 283], [(24, 103079215105, 19, 24)], [(103079215105, 2147483648, 2147483679), (137438953465, 2147483647, 2147483678)], [])
noncomputable def zpfrk17_a : zyPh := (0, [283, 147, 13], [(0, 4294967295), (0, 4294967295), (0, 4294967295)], [], [])
noncomputable def zxfrk17_bx0 : zyXp := (25, [283, 147, 137438953473], [283], [(23, 0, 103079215105, 0), (24, 137438953473, 35, 64)], [(103079215105, 2147483649, 2147483649)], [])
noncomputable def zxfrk17_br0 : zyXp := (0, [], [0], [(22, 0, 103079215105, 0)], [(103079215105, 2147483648, 2147483648)], [])
noncomputable def zpfrk17_b : zyPh := (14, [283, 147, 13], [(0, 4294967295), (0, 4294967295), (0, 4294967295), (2147483648, 2147483649)], [], [103079215105])
noncomputable def zxfrk17_cx0 : zyXp := (31, [283, 147, 68719476737], [800035, 283], [], [(68719476737, 2147483648, 2147483678)], [])
noncomputable def zpfrk17_c : zyPh := (28, [283, 147, 68719476737], [(0, 4294967295), (0, 4294967295), (2147483648, 2147483678)], [], [])
noncomputable def zxfrk17_dx0 : zyXp := (43, [283, 147, 68719476737], [16, 68719476737, 235], [(23, 0, 103079215105, 0)], [(68719476737, 2147483648, 2147483678), (103079215105, 2147483649, 2147483649)], [])
noncomputable def zxfrk17_dx1 : zyXp := (50, [283, 147, 68719476737], [800043, 283], [(22, 0, 103079215105, 0)], [(68719476737, 2147483648, 2147483678), (103079215105, 2147483648, 2147483648)], [])
noncomputable def zpfrk17_d : zyPh := (34, [283, 147, 68719476737], [(0, 4294967295), (0, 4294967295), (2147483648, 2147483678), (2147483648, 2147483649)], [], [103079215105])
noncomputable def zxfrk17_ex0 : zyXp := (62, [283, 147, 68719476737], [8, 68719476737, 235], [(23, 0, 103079215105, 0)], [(68719476737, 2147483648, 2147483678), (103079215105, 2147483649, 2147483649)], [])
noncomputable def zxfrk17_er0 : zyXp := (0, [], [0], [(22, 0, 103079215105, 0), (24, 137438953473, 35, 56), (23, 0, 137438953473, 8), (24, 171798691841, 35, 40)], [(103079215105, 2147483648, 2147483648), (137438953473, 2147483650, 2147483653), (171798691841, 2147483648, 2147484548)], [(573442, 16), (573443, 171798691841)])
noncomputable def zxfrk17_er1 : zyXp := (0, [], [0], [(22, 0, 103079215105, 0), (24, 137438953473, 35, 56), (23, 0, 137438953473, 8), (24, 171798691841, 35, 40)], [(103079215105, 2147483648, 2147483648), (137438953473, 2147483648, 2147483648), (171798691841, 2147483648, 2147484548)], [(573442, 16), (573443, 171798691841)])
noncomputable def zxfrk17_er2 : zyXp := (0, [], [0], [(22, 0, 103079215105, 0), (24, 137438953473, 35, 56), (22, 0, 137438953473, 8), (24, 171798691841, 35, 40)], [(103079215105, 2147483648, 2147483648), (137438953473, 2147483649, 2147483649), (171798691841, 2147483648, 2147484548)], [(573442, 8), (573443, 171798691841)])
noncomputable def zpfrk17_e : zyPh := (53, [283, 147, 68719476737], [(0, 4294967295), (0, 4294967295), (2147483648, 2147483678), (2147483648, 2147483649)], [], [103079215105])
noncomputable def zxfrk17_fx0 : zyXp := (76, [283, 147, 68719476737], [283], [], [(68719476737, 2147483648, 2147483678)], [])
noncomputable def zpfrk17_f : zyPh := (44, [283, 147, 68719476737], [(0, 4294967295), (0, 4294967295), (2147483648, 2147483678)], [], [])
noncomputable def zxfrk17_gx0 : zyXp := (76, [283, 147, 68719476737], [283], [], [(68719476737, 2147483648, 2147483678)], [])
noncomputable def zpfrk17_g : zyPh := (63, [283, 147, 68719476737], [(0, 4294967295), (0, 4294967295), (2147483648, 2147483678)], [], [])
noncomputable def zxfrk17_hr0 : zyXp := (0, [], [103079215105], [], [(103079215105, 2147483648, 2147483649)], [])
noncomputable def zpfrk17_h : zyPh := (79, [283, 147, 68719476737], [(0, 4294967295), (0, 4294967295), (2147483648, 2147483678), (2147483648, 2147483649)], [], [103079215105])
noncomputable def zpfrk17 (i : Nat) : zyPh := zif (Nat.beq i 0) (zpfrk17_a) (zif (Nat.beq i 1) (zpfrk17_b) (zif (Nat.beq i 2) (zpfrk17_c) (zif (Nat.beq i 3) (zpfrk17_d) (zif (Nat.beq i 4) (zpfrk17_e) (zif (Nat.beq i 5) (zpfrk17_f) (zif (Nat.beq i 6) (zpfrk17_g) (zpfrk17_h)))))))
noncomputable def zXfrk17 (i : Nat) : List zyXp := zif (Nat.beq i 0) ([zxfrk17_ax0]) (zif (Nat.beq i 1) ([zxfrk17_bx0]) (zif (Nat.beq i 2) ([zxfrk17_cx0]) (zif (Nat.beq i 3) ([zxfrk17_dx0, zxfrk17_dx1]) (zif (Nat.beq i 4) ([zxfrk17_ex0]) (zif (Nat.beq i 5) ([zxfrk17_fx0]) (zif (Nat.beq i 6) ([zxfrk17_gx0]) ([])))))))
noncomputable def zRfrk17 (i : Nat) : List zyXp := zif (Nat.beq i 0) ([]) (zif (Nat.beq i 1) ([zxfrk17_br0]) (zif (Nat.beq i 2) ([]) (zif (Nat.beq i 3) ([]) (zif (Nat.beq i 4) ([zxfrk17_er0, zxfrk17_er1, zxfrk17_er2]) (zif (Nat.beq i 5) ([]) (zif (Nat.beq i 6) ([]) ([zxfrk17_hr0])))))))
noncomputable def zFfrk17 (i : Nat) : zyR := zif (Nat.beq i 0) ([]) (zif (Nat.beq i 1) ([]) (zif (Nat.beq i 2) ([]) (zif (Nat.beq i 3) ([]) (zif (Nat.beq i 4) ([(35, 2, 3)]) (zif (Nat.beq i 5) ([]) (zif (Nat.beq i 6) ([]) ([])))))))
noncomputable def zSfrk17 (i : Nat) : Nat := zif (Nat.beq i 0) (0) (zif (Nat.beq i 1) (0) (zif (Nat.beq i 2) (0) (zif (Nat.beq i 3) (0) (zif (Nat.beq i 4) (0) (zif (Nat.beq i 5) (0) (zif (Nat.beq i 6) (0) (0)))))))
def xΨfrk17 (_ : Nat → Int) (E E2 : zyEm) (r : Int) : Prop := ∀ S, xAb17 E S → xOut17 (pBind (pStuck (xE E 36) (xE E 35 4) (xE E 35 6) S) (pSem (xE E 36) (xE E 35 4))) E2 r
noncomputable def fpfrk17 : zyR := [(35, 2, 3), (35, 5, 8), (29, 0, 30)]
theorem zyfrk17_run : zyrS zymc zxi64 (64, 0, 0, 2, 0) 8 zpfrk17 (fun _ _ => []) zFfrk17 zSfrk17 zXfrk17 zRfrk17 8 = true := by decide +kernel
theorem zyfrk17_ck : zyAll (fun i => xsubR (zFfrk17 i) fpfrk17 && ((zXfrk17 i).all xckX && (zRfrk17 i).all (fun x => xckX x && xrtB true x))) 8 = true := by decide +kernel
def xIfrk17 (i : Nat) (x0 : Nat → Int) (E0 : zyEm) (v : Nat → Int) (E : zyEm) : Prop := if i = 0 then (E = E0) else if i = 1 then (xTN (xE E0 36) (xE E0 35 4) (xE E0 35 6) 0 (xE E0 19 3 - 1) E (v 3) ∧ (∀ k, xE E 29 k = xE E0 29 k)) else if i = 2 then ((0 ≤ (v 2) ∧ (v 2) < xE E0 19 3) ∧ ∃ p1, p1 ≤ (xE E0 35 4) ∧ (∀ S, xAb17 E0 S → pStuck (xE E0 36) (xE E0 35 4) (xE E0 35 6) S = (if tW (xE E0 36) (xE E0 35 4) p1 [111, 112, 101, 110] = true then .ok (tNx (xE E0 36) (xE E0 35 4) p1, uS S (72 + (v 2)) 2) else if tW (xE E0 36) (xE E0 35 4) p1 [115, 104, 117, 116] = true then .ok (tNx (xE E0 36) (xE E0 35 4) p1, uS S (72 + (v 2)) 1) else .error (pMis (xE E0 36) (xE E0 35 4) p1, tFr (xE E0 36) (xE E0 35 4) p1))) ∧ xAD (xE E0 36) (xE E0 35 4) p1 E ∧ (∀ k, xE E 29 k = xE E0 29 k)) else if i = 3 then ((0 ≤ (v 2) ∧ (v 2) < xE E0 19 3) ∧ ∃ p1, p1 ≤ (xE E0 35 4) ∧ (∀ S, xAb17 E0 S → pStuck (xE E0 36) (xE E0 35 4) (xE E0 35 6) S = (if tW (xE E0 36) (xE E0 35 4) p1 [111, 112, 101, 110] = true then .ok (tNx (xE E0 36) (xE E0 35 4) p1, uS S (72 + (v 2)) 2) else if tW (xE E0 36) (xE E0 35 4) p1 [115, 104, 117, 116] = true then .ok (tNx (xE E0 36) (xE E0 35 4) p1, uS S (72 + (v 2)) 1) else .error (pMis (xE E0 36) (xE E0 35 4) p1, tFr (xE E0 36) (xE E0 35 4) p1))) ∧ ((v 3) = if tW (xE E0 36) (xE E0 35 4) p1 [111, 112, 101, 110] = true then 1 else 0) ∧ xAD (xE E0 36) (xE E0 35 4) p1 E ∧ (∀ k, xE E 29 k = xE E0 29 k)) else if i = 4 then ((0 ≤ (v 2) ∧ (v 2) < xE E0 19 3) ∧ ∃ p1, p1 ≤ (xE E0 35 4) ∧ (∀ S, xAb17 E0 S → pStuck (xE E0 36) (xE E0 35 4) (xE E0 35 6) S = (if tW (xE E0 36) (xE E0 35 4) p1 [111, 112, 101, 110] = true then .ok (tNx (xE E0 36) (xE E0 35 4) p1, uS S (72 + (v 2)) 2) else if tW (xE E0 36) (xE E0 35 4) p1 [115, 104, 117, 116] = true then .ok (tNx (xE E0 36) (xE E0 35 4) p1, uS S (72 + (v 2)) 1) else .error (pMis (xE E0 36) (xE E0 35 4) p1, tFr (xE E0 36) (xE E0 35 4) p1))) ∧ (tW (xE E0 36) (xE E0 35 4) p1 [111, 112, 101, 110] = false ∧ (v 3) = if tW (xE E0 36) (xE E0 35 4) p1 [115, 104, 117, 116] = true then 1 else 0) ∧ xAD (xE E0 36) (xE E0 35 4) p1 E ∧ (∀ k, xE E 29 k = xE E0 29 k)) else if i = 5 then ((0 ≤ (v 2) ∧ (v 2) < xE E0 19 3) ∧ xE E 35 6 ≤ (xE E0 35 4) ∧ (∀ S, xAb17 E0 S → pStuck (xE E0 36) (xE E0 35 4) (xE E0 35 6) S = .ok (xE E 35 6, uS S (72 + (v 2)) 2)) ∧ xE E 29 (v 2) = 2 ∧ (∀ k, 0 ≤ k → ¬ k = (v 2) → xE E 29 k = xE E0 29 k)) else if i = 6 then ((0 ≤ (v 2) ∧ (v 2) < xE E0 19 3) ∧ xE E 35 6 ≤ (xE E0 35 4) ∧ (∀ S, xAb17 E0 S → pStuck (xE E0 36) (xE E0 35 4) (xE E0 35 6) S = .ok (xE E 35 6, uS S (72 + (v 2)) 1)) ∧ xE E 29 (v 2) = 1 ∧ (∀ k, 0 ≤ k → ¬ k = (v 2) → xE E 29 k = xE E0 29 k)) else (∃ g how p2, (0 ≤ g ∧ g < xE E0 19 3) ∧ (∀ S, xAb17 E0 S → pStuck (xE E0 36) (xE E0 35 4) (xE E0 35 6) S = .ok (p2, uS S (72 + g) how)) ∧ xE E 29 g = how ∧ (∀ k, 0 ≤ k → ¬ k = g → xE E 29 k = xE E0 29 k) ∧ xTS (xE E0 36) (xE E0 35 4) p2 E (v 3))
def xMfrk17 (i : Nat) (x0 : Nat → Int) (E0 : zyEm) (v : Nat → Int) (E : zyEm) : Nat := if i = 0 then (20) else if i = 1 then (19) else if i = 2 then (18) else if i = 3 then (17) else if i = 4 then (16) else if i = 5 then (15) else if i = 6 then (14) else (13)
theorem xRk17 {l : Launch} {en : zEn} {me : zMe} (hen : zG zxMeta 64 = some en) (hme : zG zMeth 64 = some me) : xFc l zymc en me 8 [35, 18] 0 fpfrk17 true xΦrd17 xΨfrk17 := by
  have een : zG zxMeta 64 = some (zxi64, 2, 3, 5, 64, 0, 0, 2, 0) := rfl
  obtain ⟨me1, hme1, hOK⟩ := zall hen
  rw [hme] at hme1
  cases hme1
  rw [een] at hen
  cases hen
  have hr := zyfrk17_run
  have hck := fun i hi => zyAll_iff zyfrk17_ck i hi
  simp only [Bool.and_eq_true] at hck
  obtain ⟨meftn, hmeftn, -⟩ := zall (show zG zxMeta 69 = some (zxi69, 3, 3, 5, 69, 0, 0, 2, 0) from rfl)
  have hftn := xTn (l := l) (show zG zxMeta 69 = some (zxi69, 3, 3, 5, 69, 0, 0, 2, 0) from rfl) hmeftn
  obtain ⟨mefad, hmefad, -⟩ := zall (show zG zxMeta 73 = some (zxi73, 1, 1, 5, 73, 0, 0, 0, 0) from rfl)
  have hfad := xAd (l := l) (show zG zxMeta 73 = some (zxi73, 1, 1, 5, 73, 0, 0, 0, 0) from rfl) hmefad
  obtain ⟨mefts, hmefts, -⟩ := zall (show zG zxMeta 68 = some (zxi68, 1, 1, 5, 68, 0, 0, 2, 0) from rfl)
  have hfts := xTs (l := l) (show zG zxMeta 68 = some (zxi68, 1, 1, 5, 68, 0, 0, 2, 0) from rfl) hmefts
  obtain ⟨mefwop, hmefwop, -⟩ := zall (show zG zxMeta 72 = some (zxi72, 2, 3, 5, 72, 0, 0, 2, 0) from rfl)
  have hfwop := xWopen (l := l) (show zG zxMeta 72 = some (zxi72, 2, 3, 5, 72, 0, 0, 2, 0) from rfl) hmefwop
  obtain ⟨mefwsh, hmefwsh, -⟩ := zall (show zG zxMeta 72 = some (zxi72, 2, 3, 5, 72, 0, 0, 2, 0) from rfl)
  have hfwsh := xWshut (l := l) (show zG zxMeta 72 = some (zxi72, 2, 3, 5, 72, 0, 0, 2, 0) from rfl) hmefwsh
  intro B
  refine xcut (mi := zymc) (B := B) hOK rfl rfl (ι := Fin 8) (fun i => zpfrk17 i.val) (fun _ _ => []) (fun i => zFfrk17 i.val) (fun i => zSfrk17 i.val) (fun i => zXfrk17 i.val) (fun i => zRfrk17 i.val) (fun i y2 ct en2 me2 h => by cases h) 200000 (fun i => zyAll_iff hr i.val i.isLt) (fun i => (hck i.val i.isLt).1) (fun i => (hck i.val i.isLt).2.1) (fun i => (hck i.val i.isLt).2.2) ⟨0, by decide⟩ ⟨rfl, rfl, rfl, rfl⟩ ⟨by decide, by decide⟩ (fun i x0 E0 v E => xIfrk17 i.val x0 E0 v E) (fun i x0 E0 v E => xMfrk17 i.val x0 E0 v E) ?_ ?_ ?_
  · intro x0 E hx0 hT hΦ
    have hΦ : xΦrd17 x0 E := hΦ
    refine ⟨fun k p hp => ?_, ?_⟩
    · have hk : k < 3 := (List.getElem?_eq_some_iff.mp hp).1
      have hk : k = 0 ∨ k = 1 ∨ k = 2 := by omega
      rcases hk with rfl | rfl | rfl
      · have hp : some (0, 4294967295) = some p := hp
        cases hp
        show ((0 : Nat) : Int) ≤ 0 + 2147483648 ∧ 0 + 2147483648 ≤ ((4294967295 : Nat) : Int)
        omega
      · have hp : some (0, 4294967295) = some p := hp
        cases hp
        show ((0 : Nat) : Int) ≤ 0 + 2147483648 ∧ 0 + 2147483648 ≤ ((4294967295 : Nat) : Int)
        omega
      · have hp : some (0, 4294967295) = some p := hp
        cases hp
        show ((0 : Nat) : Int) ≤ x0 0 + 2147483648 ∧ x0 0 + 2147483648 ≤ ((4294967295 : Nat) : Int)
        have hx := hx0 0
        omega
    · show E = E
      rfl
  · intro x0 s Wg hRu hrx hT0 hΦ i v H hT hrv hInv hKc hFr0 hIH x hx ρ2 v2 N2 H2 locs lsB stA hAt hB hv hr2 hXs hag hfr hFr hT2
    rcases i with ⟨i, hi⟩
    have hi2 : i = 0 ∨ i = 1 ∨ i = 2 ∨ i = 3 ∨ i = 4 ∨ i = 5 ∨ i = 6 ∨ i = 7 := by omega
    rcases hi2 with rfl | rfl | rfl | rfl | rfl | rfl | rfl | rfl
    · have hx : x ∈ [zxfrk17_ax0] := hx
      have hag : ∀ k, k < 3 → v2 k = v k := hag
      have hfr : xFr [] _ _ := hfr
      have ex := List.mem_singleton.mp hx
      subst ex
      obtain ⟨hF, hBd, hM⟩ := hXs
      have b0 : ((2147483648 : Nat) : Int) ≤ (v2 3) + 2147483648 ∧ (v2 3) + 2147483648 ≤ ((2147483679 : Nat) : Int) := xXb hBd 0 rfl
      have b1 : ((2147483647 : Nat) : Int) ≤ (v2 3 + (-1)) + 2147483648 ∧ (v2 3 + (-1)) + 2147483648 ≤ ((2147483678 : Nat) : Int) := xXb hBd 1 rfl
      have f0 : (0 : Int) ≤ 3 ∧ xE (zyEl zymc B H) 19 3 = (v2 3) := xXf hF 0 rfl
      have e35_4 : xE (zyEl zymc B H2) 35 4 = xE (zyEl zymc B H) 35 4 := xFr_E hfr rfl
      have q35_4 : xE (zyEl zymc B H) 35 4 = xE (zyEl zymc B s.heap) 35 4 := xFr_E hFr0 rfl
      have e35_5 : xE (zyEl zymc B H2) 35 5 = xE (zyEl zymc B H) 35 5 := xFr_E hfr rfl
      have e35_6 : xE (zyEl zymc B H2) 35 6 = xE (zyEl zymc B H) 35 6 := xFr_E hfr rfl
      have e35_7 : xE (zyEl zymc B H2) 35 7 = xE (zyEl zymc B H) 35 7 := xFr_E hfr rfl
      have e35_8 : xE (zyEl zymc B H2) 35 8 = xE (zyEl zymc B H) 35 8 := xFr_E hfr rfl
      have e35_2 : xE (zyEl zymc B H2) 35 2 = xE (zyEl zymc B H) 35 2 := xFr_E hfr rfl
      have e35_3 : xE (zyEl zymc B H2) 35 3 = xE (zyEl zymc B H) 35 3 := xFr_E hfr rfl
      have e19_3 : xE (zyEl zymc B H2) 19 3 = xE (zyEl zymc B H) 19 3 := xFr_E hfr rfl
      have q19_3 : xE (zyEl zymc B H) 19 3 = xE (zyEl zymc B s.heap) 19 3 := xFr_E hFr0 rfl
      have e36 : ∀ i, xE (zyEl zymc B H2) 36 i = xE (zyEl zymc B H) 36 i := fun i => xFr_E hfr rfl
      have q36 : ∀ i, xE (zyEl zymc B H) 36 i = xE (zyEl zymc B s.heap) 36 i := fun i => xFr_E hFr0 rfl
      have e29 : ∀ i, xE (zyEl zymc B H2) 29 i = xE (zyEl zymc B H) 29 i := fun i => xFr_E hfr rfl
      have y19_3 : ((2147483648 : Nat) : Int) ≤ xE (zyEl zymc B s.heap) 19 3 + 2147483648 ∧ xE (zyEl zymc B s.heap) 19 3 + 2147483648 ≤ ((2147483679 : Nat) : Int) := xTyF hT0 19 3 3 rfl rfl rfl rfl rfl rfl
      have hI : (zyEl zymc B H) = (zyEl zymc B s.heap) := hInv
      have q35_5 : xE (zyEl zymc B H) 35 5 = xE (zyEl zymc B s.heap) 35 5 := by rw [hI]
      have q35_6 : xE (zyEl zymc B H) 35 6 = xE (zyEl zymc B s.heap) 35 6 := by rw [hI]
      have q35_7 : xE (zyEl zymc B H) 35 7 = xE (zyEl zymc B s.heap) 35 7 := by rw [hI]
      have q35_8 : xE (zyEl zymc B H) 35 8 = xE (zyEl zymc B s.heap) 35 8 := by rw [hI]
      have q35_2 : xE (zyEl zymc B H) 35 2 = xE (zyEl zymc B s.heap) 35 2 := by rw [hI]
      have q35_3 : xE (zyEl zymc B H) 35 3 = xE (zyEl zymc B s.heap) 35 3 := by rw [hI]
      have q29 : ∀ i, xE (zyEl zymc B H) 29 i = xE (zyEl zymc B s.heap) 29 i := fun i => by rw [hI]
      have tt : xE (zyEl zymc B H2) 36 = xE (zyEl zymc B s.heap) 36 := funext fun i => (e36 i).trans (q36 i)
      have tn : xE (zyEl zymc B H2) 35 4 = xE (zyEl zymc B s.heap) 35 4 := by omega
      refine xCa hRu hIH hAt hB hv hFr (hftn B) (ix := 60) (ax := 1104) rfl rfl rfl hmeftn ⟨_, rfl, rfl, by decide⟩ ⟨rfl, rfl, rfl⟩ (by decide) [0, 137438953465] [] [0, (v2 3 + (-1))] rfl ⟨rfl, rfl⟩ (by decide +kernel) (xcs_c rfl (xcs_c rfl xcs_n)) (by decide +kernel) ?_ (fun H3 r hT3 hf3 hFr3 hr3 hΨ3 => ?_)
      · show xΦad (xfv [0, (v2 3 + (-1))]) (zyEl zymc B H2)
        have hP := hΦ.1
        unfold xΦad
        omega
      · have hΨ3 : xΨtn (xfv [0, (v2 3 + (-1))]) (zyEl zymc B H2) (zyEl zymc B H3) r := hΨ3
        have d35_4 : xE (zyEl zymc B H3) 35 4 = xE (zyEl zymc B H2) 35 4 := xFr_E hf3 rfl
        have d19_3 : xE (zyEl zymc B H3) 19 3 = xE (zyEl zymc B H2) 19 3 := xFr_E hf3 rfl
        have d36 : ∀ i, xE (zyEl zymc B H3) 36 i = xE (zyEl zymc B H2) 36 i := fun i => xFr_E hf3 rfl
        have d29 : ∀ i, xE (zyEl zymc B H3) 29 i = xE (zyEl zymc B H2) 29 i := fun i => xFr_E hf3 rfl
        unfold xΨtn at hΨ3
        rw [tt, tn, show xE (zyEl zymc B H2) 35 6 = xE (zyEl zymc B s.heap) 35 6 by omega, show xfv [0, (v2 3 + (-1))] 1 = xE (zyEl zymc B s.heap) 19 3 - 1 by show (v2 3 + (-1)) = _; omega] at hΨ3
        have hr01 := xtn_r hΨ3
        refine ⟨⟨1, by decide⟩, [0, 0, 0], [0, 0, 0, r], rfl, ⟨by decide +kernel, ⟨rfl, by decide +kernel⟩, (xcs_c rfl (xcs_c rfl (xcs_c rfl xcs_n))), (xe_0 (xe_0 (xe_0 (xe_c (by omega) (by omega) rfl xe_n)))), xkq_n⟩, (by rw [if_pos rfl]; exact ⟨3, [], rfl, by decide, rfl, xst_n⟩), ?_, ?_⟩
        · show xTN (xE (zyEl zymc B s.heap) 36) (xE (zyEl zymc B s.heap) 35 4) (xE (zyEl zymc B s.heap) 35 6) 0 (xE (zyEl zymc B s.heap) 19 3 - 1) (zyEl zymc B H3) (r : Int) ∧ (∀ k, xE (zyEl zymc B H3) 29 k = xE (zyEl zymc B s.heap) 29 k)
          exact ⟨hΨ3, fun k => by rw [d29 k, e29 k, q29 k]⟩
        · show 19 < 20
          omega
    · have hx : x ∈ [zxfrk17_bx0] := hx
      have hag : ∀ k, k < 4 → v2 k = v k := hag
      have hfr : xFr [] _ _ := hfr
      have ex := List.mem_singleton.mp hx
      subst ex
      obtain ⟨hF, hBd, hM⟩ := hXs
      have r4 := hr2 4
      have g3 : v2 3 = v 3 := hag 3 (by decide)
      have b0 : ((2147483649 : Nat) : Int) ≤ (v2 3) + 2147483648 ∧ (v2 3) + 2147483648 ≤ ((2147483649 : Nat) : Int) := xXb hBd 0 rfl
      have f0 : ¬ (v2 3) = 0 := xXf hF 0 rfl
      have f1 : (0 : Int) ≤ 8 ∧ xE (zyEl zymc B H) 35 8 = (v2 4) := xXf hF 1 rfl
      have e35_4 : xE (zyEl zymc B H2) 35 4 = xE (zyEl zymc B H) 35 4 := xFr_E hfr rfl
      have q35_4 : xE (zyEl zymc B H) 35 4 = xE (zyEl zymc B s.heap) 35 4 := xFr_E hFr0 rfl
      have e35_5 : xE (zyEl zymc B H2) 35 5 = xE (zyEl zymc B H) 35 5 := xFr_E hfr rfl
      have e35_6 : xE (zyEl zymc B H2) 35 6 = xE (zyEl zymc B H) 35 6 := xFr_E hfr rfl
      have e35_7 : xE (zyEl zymc B H2) 35 7 = xE (zyEl zymc B H) 35 7 := xFr_E hfr rfl
      have e35_8 : xE (zyEl zymc B H2) 35 8 = xE (zyEl zymc B H) 35 8 := xFr_E hfr rfl
      have e35_2 : xE (zyEl zymc B H2) 35 2 = xE (zyEl zymc B H) 35 2 := xFr_E hfr rfl
      have e35_3 : xE (zyEl zymc B H2) 35 3 = xE (zyEl zymc B H) 35 3 := xFr_E hfr rfl
      have e19_3 : xE (zyEl zymc B H2) 19 3 = xE (zyEl zymc B H) 19 3 := xFr_E hfr rfl
      have q19_3 : xE (zyEl zymc B H) 19 3 = xE (zyEl zymc B s.heap) 19 3 := xFr_E hFr0 rfl
      have e36 : ∀ i, xE (zyEl zymc B H2) 36 i = xE (zyEl zymc B H) 36 i := fun i => xFr_E hfr rfl
      have q36 : ∀ i, xE (zyEl zymc B H) 36 i = xE (zyEl zymc B s.heap) 36 i := fun i => xFr_E hFr0 rfl
      have e29 : ∀ i, xE (zyEl zymc B H2) 29 i = xE (zyEl zymc B H) 29 i := fun i => xFr_E hfr rfl
      have y19_3 : ((2147483648 : Nat) : Int) ≤ xE (zyEl zymc B s.heap) 19 3 + 2147483648 ∧ xE (zyEl zymc B s.heap) 19 3 + 2147483648 ≤ ((2147483679 : Nat) : Int) := xTyF hT0 19 3 3 rfl rfl rfl rfl rfl rfl
      have hI : xTN (xE (zyEl zymc B s.heap) 36) (xE (zyEl zymc B s.heap) 35 4) (xE (zyEl zymc B s.heap) 35 6) 0 (xE (zyEl zymc B s.heap) 19 3 - 1) (zyEl zymc B H) (v 3) ∧ (∀ k, xE (zyEl zymc B H) 29 k = xE (zyEl zymc B s.heap) 29 k) := hInv
      obtain ⟨i1, j0⟩ := hI
      have tt : xE (zyEl zymc B H2) 36 = xE (zyEl zymc B s.heap) 36 := funext fun i => (e36 i).trans (q36 i)
      have tn : xE (zyEl zymc B H2) 35 4 = xE (zyEl zymc B s.heap) 35 4 := by omega
      obtain ⟨c1, c2, c3, c4, c5, c6, c7⟩ := xtn_1 i1 (by omega)
      have hPos := hΦ.1
      have hb := tNx_b (T := xE (zyEl zymc B s.heap) 36) (n := xE (zyEl zymc B s.heap) 35 4) (p := xE (zyEl zymc B s.heap) 35 6) hPos
      refine xCa hRu hIH hAt hB hv hFr (hfad B) (ix := 35) (ax := 1168) rfl rfl rfl hmefad ⟨_, rfl, rfl, by decide⟩ ⟨rfl, rfl, rfl⟩ (by decide) [] [] [] rfl ⟨rfl, rfl⟩ (by decide +kernel) xcs_n (by decide +kernel) ?_ (fun H3 r hT3 hf3 hFr3 hr3 hΨ3 => ?_)
      · show xΦad (xfv []) (zyEl zymc B H2)
        unfold xΦad
        omega
      · have hΨ3 : xΨad (xfv []) (zyEl zymc B H2) (zyEl zymc B H3) r := hΨ3
        have d35_4 : xE (zyEl zymc B H3) 35 4 = xE (zyEl zymc B H2) 35 4 := xFr_E hf3 rfl
        have d35_2 : xE (zyEl zymc B H3) 35 2 = xE (zyEl zymc B H2) 35 2 := xFr_E hf3 rfl
        have d35_3 : xE (zyEl zymc B H3) 35 3 = xE (zyEl zymc B H2) 35 3 := xFr_E hf3 rfl
        have d19_3 : xE (zyEl zymc B H3) 19 3 = xE (zyEl zymc B H2) 19 3 := xFr_E hf3 rfl
        have d36 : ∀ i, xE (zyEl zymc B H3) 36 i = xE (zyEl zymc B H2) 36 i := fun i => xFr_E hf3 rfl
        have d29 : ∀ i, xE (zyEl zymc B H3) 29 i = xE (zyEl zymc B H2) 29 i := fun i => xFr_E hf3 rfl
        unfold xΨad at hΨ3
        rw [tt, tn] at hΨ3
        refine ⟨⟨2, by decide⟩, [0, 0, 137438953473], [0, 0, (v2 4)], rfl, ⟨by decide +kernel, ⟨rfl, by decide +kernel⟩, (xcs_c rfl (xcs_c rfl (xcs_c rfl xcs_n))), (xe_0 (xe_0 (xe_c (by omega) (by omega) rfl xe_n))), xkq_n⟩, (by rw [if_neg (by decide)]; exact xst_n), ?_, ?_⟩
        · show (0 ≤ ((v2 4) : Int) ∧ ((v2 4) : Int) < xE (zyEl zymc B s.heap) 19 3) ∧ ∃ p1, p1 ≤ (xE (zyEl zymc B s.heap) 35 4) ∧ (∀ S, xAb17 (zyEl zymc B s.heap) S → pStuck (xE (zyEl zymc B s.heap) 36) (xE (zyEl zymc B s.heap) 35 4) (xE (zyEl zymc B s.heap) 35 6) S = (if tW (xE (zyEl zymc B s.heap) 36) (xE (zyEl zymc B s.heap) 35 4) p1 [111, 112, 101, 110] = true then .ok (tNx (xE (zyEl zymc B s.heap) 36) (xE (zyEl zymc B s.heap) 35 4) p1, uS S (72 + ((v2 4) : Int)) 2) else if tW (xE (zyEl zymc B s.heap) 36) (xE (zyEl zymc B s.heap) 35 4) p1 [115, 104, 117, 116] = true then .ok (tNx (xE (zyEl zymc B s.heap) 36) (xE (zyEl zymc B s.heap) 35 4) p1, uS S (72 + ((v2 4) : Int)) 1) else .error (pMis (xE (zyEl zymc B s.heap) 36) (xE (zyEl zymc B s.heap) 35 4) p1, tFr (xE (zyEl zymc B s.heap) 36) (xE (zyEl zymc B s.heap) 35 4) p1))) ∧ xAD (xE (zyEl zymc B s.heap) 36) (xE (zyEl zymc B s.heap) 35 4) p1 (zyEl zymc B H3) ∧ (∀ k, xE (zyEl zymc B H3) 29 k = xE (zyEl zymc B s.heap) 29 k)
          refine ⟨by omega, xE (zyEl zymc B H2) 35 6, by omega, fun S hS => ?_, hΨ3, fun k => by rw [d29 k, e29 k, j0 k]⟩
          unfold pStuck
          rw [← hS.2.1.2.2.2, c7, show xE (zyEl zymc B H2) 35 6 = xE (zyEl zymc B H) 35 6 by omega, show xE (zyEl zymc B H) 35 8 = (v2 4) by omega]
        · show 18 < 19
          omega
    · have hx : x ∈ [zxfrk17_cx0] := hx
      have hag : ∀ k, k < 3 → v2 k = v k := hag
      have hfr : xFr [] _ _ := hfr
      have ex := List.mem_singleton.mp hx
      subst ex
      obtain ⟨hF, hBd, hM⟩ := hXs
      have g2 : v2 2 = v 2 := hag 2 (by decide)
      have b0 : ((2147483648 : Nat) : Int) ≤ (v2 2) + 2147483648 ∧ (v2 2) + 2147483648 ≤ ((2147483678 : Nat) : Int) := xXb hBd 0 rfl
      have e35_4 : xE (zyEl zymc B H2) 35 4 = xE (zyEl zymc B H) 35 4 := xFr_E hfr rfl
      have q35_4 : xE (zyEl zymc B H) 35 4 = xE (zyEl zymc B s.heap) 35 4 := xFr_E hFr0 rfl
      have e35_5 : xE (zyEl zymc B H2) 35 5 = xE (zyEl zymc B H) 35 5 := xFr_E hfr rfl
      have e35_6 : xE (zyEl zymc B H2) 35 6 = xE (zyEl zymc B H) 35 6 := xFr_E hfr rfl
      have e35_7 : xE (zyEl zymc B H2) 35 7 = xE (zyEl zymc B H) 35 7 := xFr_E hfr rfl
      have e35_8 : xE (zyEl zymc B H2) 35 8 = xE (zyEl zymc B H) 35 8 := xFr_E hfr rfl
      have e35_2 : xE (zyEl zymc B H2) 35 2 = xE (zyEl zymc B H) 35 2 := xFr_E hfr rfl
      have e35_3 : xE (zyEl zymc B H2) 35 3 = xE (zyEl zymc B H) 35 3 := xFr_E hfr rfl
      have e19_3 : xE (zyEl zymc B H2) 19 3 = xE (zyEl zymc B H) 19 3 := xFr_E hfr rfl
      have q19_3 : xE (zyEl zymc B H) 19 3 = xE (zyEl zymc B s.heap) 19 3 := xFr_E hFr0 rfl
      have e36 : ∀ i, xE (zyEl zymc B H2) 36 i = xE (zyEl zymc B H) 36 i := fun i => xFr_E hfr rfl
      have q36 : ∀ i, xE (zyEl zymc B H) 36 i = xE (zyEl zymc B s.heap) 36 i := fun i => xFr_E hFr0 rfl
      have e29 : ∀ i, xE (zyEl zymc B H2) 29 i = xE (zyEl zymc B H) 29 i := fun i => xFr_E hfr rfl
      have y19_3 : ((2147483648 : Nat) : Int) ≤ xE (zyEl zymc B s.heap) 19 3 + 2147483648 ∧ xE (zyEl zymc B s.heap) 19 3 + 2147483648 ≤ ((2147483679 : Nat) : Int) := xTyF hT0 19 3 3 rfl rfl rfl rfl rfl rfl
      have hI : (0 ≤ (v 2) ∧ (v 2) < xE (zyEl zymc B s.heap) 19 3) ∧ ∃ p1, p1 ≤ (xE (zyEl zymc B s.heap) 35 4) ∧ (∀ S, xAb17 (zyEl zymc B s.heap) S → pStuck (xE (zyEl zymc B s.heap) 36) (xE (zyEl zymc B s.heap) 35 4) (xE (zyEl zymc B s.heap) 35 6) S = (if tW (xE (zyEl zymc B s.heap) 36) (xE (zyEl zymc B s.heap) 35 4) p1 [111, 112, 101, 110] = true then .ok (tNx (xE (zyEl zymc B s.heap) 36) (xE (zyEl zymc B s.heap) 35 4) p1, uS S (72 + (v 2)) 2) else if tW (xE (zyEl zymc B s.heap) 36) (xE (zyEl zymc B s.heap) 35 4) p1 [115, 104, 117, 116] = true then .ok (tNx (xE (zyEl zymc B s.heap) 36) (xE (zyEl zymc B s.heap) 35 4) p1, uS S (72 + (v 2)) 1) else .error (pMis (xE (zyEl zymc B s.heap) 36) (xE (zyEl zymc B s.heap) 35 4) p1, tFr (xE (zyEl zymc B s.heap) 36) (xE (zyEl zymc B s.heap) 35 4) p1))) ∧ xAD (xE (zyEl zymc B s.heap) 36) (xE (zyEl zymc B s.heap) 35 4) p1 (zyEl zymc B H) ∧ (∀ k, xE (zyEl zymc B H) 29 k = xE (zyEl zymc B s.heap) 29 k) := hInv
      have tt : xE (zyEl zymc B H2) 36 = xE (zyEl zymc B s.heap) 36 := funext fun i => (e36 i).trans (q36 i)
      have tn : xE (zyEl zymc B H2) 35 4 = xE (zyEl zymc B s.heap) 35 4 := by omega
      obtain ⟨i1, p1, i0, i2, ⟨i4, i5, i6, i7⟩, j0⟩ := hI
      rw [show (v 2) = v2 2 by omega] at i2
      refine xCa hRu hIH hAt hB hv hFr (hfwop B) (ix := 48) (ax := 1152) rfl rfl rfl hmefwop ⟨_, rfl, rfl, by decide⟩ ⟨rfl, rfl, rfl⟩ (by decide) [] [] [] rfl ⟨rfl, rfl⟩ (by decide +kernel) xcs_n (by decide +kernel) ?_ (fun H3 r hT3 hf3 hFr3 hr3 hΨ3 => ?_)
      · show xΦ0 (xfv []) (zyEl zymc B H2)
        exact trivial
      · have hΨ3 : xΨfwop (xfv []) (zyEl zymc B H2) (zyEl zymc B H3) r := hΨ3
        have d35_4 : xE (zyEl zymc B H3) 35 4 = xE (zyEl zymc B H2) 35 4 := xFr_E hf3 rfl
        have d35_5 : xE (zyEl zymc B H3) 35 5 = xE (zyEl zymc B H2) 35 5 := xFr_E hf3 rfl
        have d35_6 : xE (zyEl zymc B H3) 35 6 = xE (zyEl zymc B H2) 35 6 := xFr_E hf3 rfl
        have d35_7 : xE (zyEl zymc B H3) 35 7 = xE (zyEl zymc B H2) 35 7 := xFr_E hf3 rfl
        have d35_8 : xE (zyEl zymc B H3) 35 8 = xE (zyEl zymc B H2) 35 8 := xFr_E hf3 rfl
        have d35_2 : xE (zyEl zymc B H3) 35 2 = xE (zyEl zymc B H2) 35 2 := xFr_E hf3 rfl
        have d35_3 : xE (zyEl zymc B H3) 35 3 = xE (zyEl zymc B H2) 35 3 := xFr_E hf3 rfl
        have d19_3 : xE (zyEl zymc B H3) 19 3 = xE (zyEl zymc B H2) 19 3 := xFr_E hf3 rfl
        have d36 : ∀ i, xE (zyEl zymc B H3) 36 i = xE (zyEl zymc B H2) 36 i := fun i => xFr_E hf3 rfl
        have d29 : ∀ i, xE (zyEl zymc B H3) 29 i = xE (zyEl zymc B H2) 29 i := fun i => xFr_E hf3 rfl
        unfold xΨfwop at hΨ3
        rw [show xE (zyEl zymc B H2) 36 = xE (zyEl zymc B s.heap) 36 from funext fun i => (e36 i).trans (q36 i), show xE (zyEl zymc B H2) 35 7 = tKd (xE (zyEl zymc B s.heap) 36) (xE (zyEl zymc B s.heap) 35 4) p1 by omega, show xE (zyEl zymc B H2) 35 5 = tFr (xE (zyEl zymc B s.heap) 36) (xE (zyEl zymc B s.heap) 35 4) p1 by omega, show xE (zyEl zymc B H2) 35 6 = tNx (xE (zyEl zymc B s.heap) 36) (xE (zyEl zymc B s.heap) 35 4) p1 by omega] at hΨ3
        have hΨ3 : r = if tW (xE (zyEl zymc B s.heap) 36) (xE (zyEl zymc B s.heap) 35 4) p1 [111, 112, 101, 110] = true then 1 else 0 := hΨ3
        have hr01 : r = 0 ∨ r = 1 := by
          rw [hΨ3]
          split <;> omega
        have hEE3 := xFr_n hf3
        refine ⟨⟨3, by decide⟩, [0, 0, 68719476737], [0, 0, (v2 2), r], rfl, ⟨by decide +kernel, ⟨rfl, by decide +kernel⟩, (xcs_c rfl (xcs_c rfl (xcs_c rfl xcs_n))), (xe_0 (xe_0 (xe_c (by omega) (by omega) rfl (xe_c (by omega) (by omega) rfl xe_n)))), xkq_n⟩, (by rw [if_pos rfl]; exact ⟨3, [], rfl, by decide, rfl, xst_n⟩), ?_, ?_⟩
        · show (0 ≤ ((v2 2) : Int) ∧ ((v2 2) : Int) < xE (zyEl zymc B s.heap) 19 3) ∧ ∃ p1, p1 ≤ (xE (zyEl zymc B s.heap) 35 4) ∧ (∀ S, xAb17 (zyEl zymc B s.heap) S → pStuck (xE (zyEl zymc B s.heap) 36) (xE (zyEl zymc B s.heap) 35 4) (xE (zyEl zymc B s.heap) 35 6) S = (if tW (xE (zyEl zymc B s.heap) 36) (xE (zyEl zymc B s.heap) 35 4) p1 [111, 112, 101, 110] = true then .ok (tNx (xE (zyEl zymc B s.heap) 36) (xE (zyEl zymc B s.heap) 35 4) p1, uS S (72 + ((v2 2) : Int)) 2) else if tW (xE (zyEl zymc B s.heap) 36) (xE (zyEl zymc B s.heap) 35 4) p1 [115, 104, 117, 116] = true then .ok (tNx (xE (zyEl zymc B s.heap) 36) (xE (zyEl zymc B s.heap) 35 4) p1, uS S (72 + ((v2 2) : Int)) 1) else .error (pMis (xE (zyEl zymc B s.heap) 36) (xE (zyEl zymc B s.heap) 35 4) p1, tFr (xE (zyEl zymc B s.heap) 36) (xE (zyEl zymc B s.heap) 35 4) p1))) ∧ ((r : Int) = if tW (xE (zyEl zymc B s.heap) 36) (xE (zyEl zymc B s.heap) 35 4) p1 [111, 112, 101, 110] = true then 1 else 0) ∧ xAD (xE (zyEl zymc B s.heap) 36) (xE (zyEl zymc B s.heap) 35 4) p1 (zyEl zymc B H3) ∧ (∀ k, xE (zyEl zymc B H3) 29 k = xE (zyEl zymc B s.heap) 29 k)
          rw [hEE3]
          exact ⟨by omega, p1, i0, i2, hΨ3, ⟨by omega, by omega, by omega, fun h => by have := i7 h; omega⟩, fun k => by rw [e29 k, j0 k]⟩
        · show 17 < 18
          omega
    · have hx : x ∈ [zxfrk17_dx0, zxfrk17_dx1] := hx
      have hag : ∀ k, k < 4 → v2 k = v k := hag
      have hfr : xFr [] _ _ := hfr
      rcases List.mem_cons.mp hx with ex | hx
      · subst ex
        obtain ⟨hF, hBd, hM⟩ := hXs
        have g2 : v2 2 = v 2 := hag 2 (by decide)
        have g3 : v2 3 = v 3 := hag 3 (by decide)
        have b0 : ((2147483648 : Nat) : Int) ≤ (v2 2) + 2147483648 ∧ (v2 2) + 2147483648 ≤ ((2147483678 : Nat) : Int) := xXb hBd 0 rfl
        have b1 : ((2147483649 : Nat) : Int) ≤ (v2 3) + 2147483648 ∧ (v2 3) + 2147483648 ≤ ((2147483649 : Nat) : Int) := xXb hBd 1 rfl
        have f0 : ¬ (v2 3) = 0 := xXf hF 0 rfl
        have e35_4 : xE (zyEl zymc B H2) 35 4 = xE (zyEl zymc B H) 35 4 := xFr_E hfr rfl
        have q35_4 : xE (zyEl zymc B H) 35 4 = xE (zyEl zymc B s.heap) 35 4 := xFr_E hFr0 rfl
        have e35_5 : xE (zyEl zymc B H2) 35 5 = xE (zyEl zymc B H) 35 5 := xFr_E hfr rfl
        have e35_6 : xE (zyEl zymc B H2) 35 6 = xE (zyEl zymc B H) 35 6 := xFr_E hfr rfl
        have e35_7 : xE (zyEl zymc B H2) 35 7 = xE (zyEl zymc B H) 35 7 := xFr_E hfr rfl
        have e35_8 : xE (zyEl zymc B H2) 35 8 = xE (zyEl zymc B H) 35 8 := xFr_E hfr rfl
        have e35_2 : xE (zyEl zymc B H2) 35 2 = xE (zyEl zymc B H) 35 2 := xFr_E hfr rfl
        have e35_3 : xE (zyEl zymc B H2) 35 3 = xE (zyEl zymc B H) 35 3 := xFr_E hfr rfl
        have e19_3 : xE (zyEl zymc B H2) 19 3 = xE (zyEl zymc B H) 19 3 := xFr_E hfr rfl
        have q19_3 : xE (zyEl zymc B H) 19 3 = xE (zyEl zymc B s.heap) 19 3 := xFr_E hFr0 rfl
        have e36 : ∀ i, xE (zyEl zymc B H2) 36 i = xE (zyEl zymc B H) 36 i := fun i => xFr_E hfr rfl
        have q36 : ∀ i, xE (zyEl zymc B H) 36 i = xE (zyEl zymc B s.heap) 36 i := fun i => xFr_E hFr0 rfl
        have e29 : ∀ i, xE (zyEl zymc B H2) 29 i = xE (zyEl zymc B H) 29 i := fun i => xFr_E hfr rfl
        have y19_3 : ((2147483648 : Nat) : Int) ≤ xE (zyEl zymc B s.heap) 19 3 + 2147483648 ∧ xE (zyEl zymc B s.heap) 19 3 + 2147483648 ≤ ((2147483679 : Nat) : Int) := xTyF hT0 19 3 3 rfl rfl rfl rfl rfl rfl
        have hI : (0 ≤ (v 2) ∧ (v 2) < xE (zyEl zymc B s.heap) 19 3) ∧ ∃ p1, p1 ≤ (xE (zyEl zymc B s.heap) 35 4) ∧ (∀ S, xAb17 (zyEl zymc B s.heap) S → pStuck (xE (zyEl zymc B s.heap) 36) (xE (zyEl zymc B s.heap) 35 4) (xE (zyEl zymc B s.heap) 35 6) S = (if tW (xE (zyEl zymc B s.heap) 36) (xE (zyEl zymc B s.heap) 35 4) p1 [111, 112, 101, 110] = true then .ok (tNx (xE (zyEl zymc B s.heap) 36) (xE (zyEl zymc B s.heap) 35 4) p1, uS S (72 + (v 2)) 2) else if tW (xE (zyEl zymc B s.heap) 36) (xE (zyEl zymc B s.heap) 35 4) p1 [115, 104, 117, 116] = true then .ok (tNx (xE (zyEl zymc B s.heap) 36) (xE (zyEl zymc B s.heap) 35 4) p1, uS S (72 + (v 2)) 1) else .error (pMis (xE (zyEl zymc B s.heap) 36) (xE (zyEl zymc B s.heap) 35 4) p1, tFr (xE (zyEl zymc B s.heap) 36) (xE (zyEl zymc B s.heap) 35 4) p1))) ∧ ((v 3) = if tW (xE (zyEl zymc B s.heap) 36) (xE (zyEl zymc B s.heap) 35 4) p1 [111, 112, 101, 110] = true then 1 else 0) ∧ xAD (xE (zyEl zymc B s.heap) 36) (xE (zyEl zymc B s.heap) 35 4) p1 (zyEl zymc B H) ∧ (∀ k, xE (zyEl zymc B H) 29 k = xE (zyEl zymc B s.heap) 29 k) := hInv
        obtain ⟨i1, p1, i0, i2, i3, ⟨i4, i5, i6, i7⟩, j0⟩ := hI
        rw [show (v 2) = v2 2 by omega] at i2
        have hb := tNx_b (T := xE (zyEl zymc B s.heap) 36) (n := xE (zyEl zymc B s.heap) 35 4) (p := p1) i0
        have hw : tW (xE (zyEl zymc B s.heap) 36) (xE (zyEl zymc B s.heap) 35 4) p1 [111, 112, 101, 110] = true := by
          by_cases h : tW (xE (zyEl zymc B s.heap) 36) (xE (zyEl zymc B s.heap) 35 4) p1 [111, 112, 101, 110] = true
          · exact h
          · rw [if_neg h] at i3
            omega
        refine xSt hRu hIH hAt hB hv hFr 29 (ax := 0) 16 68719476737 2 (v2 2) rfl (Or.inl ⟨rfl, rfl⟩) rfl (by decide +kernel) rfl rfl (by omega) (by show (v2 2) < ((31 : Nat) : Int); omega) (fun r hr q1 q2 => by rw [List.mem_singleton.mp hr]; exact ⟨rfl, by show ((2147483648 : Nat) : Int) ≤ 2 + 2147483648; omega, by show 2 + 2147483648 ≤ ((2147483650 : Nat) : Int); omega⟩) (zyin_iff.mpr ⟨(29, 0, 30), by decide, rfl, Nat.zero_le _, by show Int.toNat (v2 2) ≤ 30; omega⟩) (fun H3 hT3 hst3 hne3 hfn3 hFr3 => ?_)
        have hfe3 : ∀ (a2 : Nat) (k2 : Int), ¬ a2 = 29 → xE (zyEl zymc B H3) a2 k2 = xE (zyEl zymc B H2) a2 k2 := fun a2 k2 hne => by unfold xE; rw [hfn3 a2 k2.toNat (fun z => hne z.1)]
        have d35_4 : xE (zyEl zymc B H3) 35 4 = xE (zyEl zymc B H2) 35 4 := hfe3 35 4 (fun z => absurd z (by decide))
        have d35_5 : xE (zyEl zymc B H3) 35 5 = xE (zyEl zymc B H2) 35 5 := hfe3 35 5 (fun z => absurd z (by decide))
        have d35_6 : xE (zyEl zymc B H3) 35 6 = xE (zyEl zymc B H2) 35 6 := hfe3 35 6 (fun z => absurd z (by decide))
        have d35_7 : xE (zyEl zymc B H3) 35 7 = xE (zyEl zymc B H2) 35 7 := hfe3 35 7 (fun z => absurd z (by decide))
        have d35_8 : xE (zyEl zymc B H3) 35 8 = xE (zyEl zymc B H2) 35 8 := hfe3 35 8 (fun z => absurd z (by decide))
        have d35_2 : xE (zyEl zymc B H3) 35 2 = xE (zyEl zymc B H2) 35 2 := hfe3 35 2 (fun z => absurd z (by decide))
        have d35_3 : xE (zyEl zymc B H3) 35 3 = xE (zyEl zymc B H2) 35 3 := hfe3 35 3 (fun z => absurd z (by decide))
        have d19_3 : xE (zyEl zymc B H3) 19 3 = xE (zyEl zymc B H2) 19 3 := hfe3 19 3 (fun z => absurd z (by decide))
        refine ⟨⟨5, by decide⟩, [0, 0, 68719476737], [0, 0, (v2 2)], rfl, ⟨by decide +kernel, ⟨rfl, by decide +kernel⟩, (xcs_c rfl (xcs_c rfl (xcs_c rfl xcs_n))), (xe_0 (xe_0 (xe_c (by omega) (by omega) rfl xe_n))), xkq_n⟩, rfl, ?_, ?_⟩
        · show (0 ≤ ((v2 2) : Int) ∧ ((v2 2) : Int) < xE (zyEl zymc B s.heap) 19 3) ∧ xE (zyEl zymc B H3) 35 6 ≤ (xE (zyEl zymc B s.heap) 35 4) ∧ (∀ S, xAb17 (zyEl zymc B s.heap) S → pStuck (xE (zyEl zymc B s.heap) 36) (xE (zyEl zymc B s.heap) 35 4) (xE (zyEl zymc B s.heap) 35 6) S = .ok (xE (zyEl zymc B H3) 35 6, uS S (72 + ((v2 2) : Int)) 2)) ∧ xE (zyEl zymc B H3) 29 ((v2 2) : Int) = 2 ∧ (∀ k, 0 ≤ k → ¬ k = ((v2 2) : Int) → xE (zyEl zymc B H3) 29 k = xE (zyEl zymc B s.heap) 29 k)
          refine ⟨by omega, by omega, fun S hS => ?_, hst3, fun k k0 k1 => (hne3 29 k k0 (fun z => k1 z.2)).trans ((e29 k).trans (j0 k))⟩
          rw [i2 S hS, if_pos hw, show xE (zyEl zymc B H3) 35 6 = tNx (xE (zyEl zymc B s.heap) 36) (xE (zyEl zymc B s.heap) 35 4) p1 by omega]
        · show 15 < 17
          omega
      · skip
        have ex := List.mem_singleton.mp hx
        subst ex
        obtain ⟨hF, hBd, hM⟩ := hXs
        have g2 : v2 2 = v 2 := hag 2 (by decide)
        have g3 : v2 3 = v 3 := hag 3 (by decide)
        have b0 : ((2147483648 : Nat) : Int) ≤ (v2 2) + 2147483648 ∧ (v2 2) + 2147483648 ≤ ((2147483678 : Nat) : Int) := xXb hBd 0 rfl
        have b1 : ((2147483648 : Nat) : Int) ≤ (v2 3) + 2147483648 ∧ (v2 3) + 2147483648 ≤ ((2147483648 : Nat) : Int) := xXb hBd 1 rfl
        have f0 : (v2 3) = 0 := xXf hF 0 rfl
        have e35_4 : xE (zyEl zymc B H2) 35 4 = xE (zyEl zymc B H) 35 4 := xFr_E hfr rfl
        have q35_4 : xE (zyEl zymc B H) 35 4 = xE (zyEl zymc B s.heap) 35 4 := xFr_E hFr0 rfl
        have e35_5 : xE (zyEl zymc B H2) 35 5 = xE (zyEl zymc B H) 35 5 := xFr_E hfr rfl
        have e35_6 : xE (zyEl zymc B H2) 35 6 = xE (zyEl zymc B H) 35 6 := xFr_E hfr rfl
        have e35_7 : xE (zyEl zymc B H2) 35 7 = xE (zyEl zymc B H) 35 7 := xFr_E hfr rfl
        have e35_8 : xE (zyEl zymc B H2) 35 8 = xE (zyEl zymc B H) 35 8 := xFr_E hfr rfl
        have e35_2 : xE (zyEl zymc B H2) 35 2 = xE (zyEl zymc B H) 35 2 := xFr_E hfr rfl
        have e35_3 : xE (zyEl zymc B H2) 35 3 = xE (zyEl zymc B H) 35 3 := xFr_E hfr rfl
        have e19_3 : xE (zyEl zymc B H2) 19 3 = xE (zyEl zymc B H) 19 3 := xFr_E hfr rfl
        have q19_3 : xE (zyEl zymc B H) 19 3 = xE (zyEl zymc B s.heap) 19 3 := xFr_E hFr0 rfl
        have e36 : ∀ i, xE (zyEl zymc B H2) 36 i = xE (zyEl zymc B H) 36 i := fun i => xFr_E hfr rfl
        have q36 : ∀ i, xE (zyEl zymc B H) 36 i = xE (zyEl zymc B s.heap) 36 i := fun i => xFr_E hFr0 rfl
        have e29 : ∀ i, xE (zyEl zymc B H2) 29 i = xE (zyEl zymc B H) 29 i := fun i => xFr_E hfr rfl
        have y19_3 : ((2147483648 : Nat) : Int) ≤ xE (zyEl zymc B s.heap) 19 3 + 2147483648 ∧ xE (zyEl zymc B s.heap) 19 3 + 2147483648 ≤ ((2147483679 : Nat) : Int) := xTyF hT0 19 3 3 rfl rfl rfl rfl rfl rfl
        have hI : (0 ≤ (v 2) ∧ (v 2) < xE (zyEl zymc B s.heap) 19 3) ∧ ∃ p1, p1 ≤ (xE (zyEl zymc B s.heap) 35 4) ∧ (∀ S, xAb17 (zyEl zymc B s.heap) S → pStuck (xE (zyEl zymc B s.heap) 36) (xE (zyEl zymc B s.heap) 35 4) (xE (zyEl zymc B s.heap) 35 6) S = (if tW (xE (zyEl zymc B s.heap) 36) (xE (zyEl zymc B s.heap) 35 4) p1 [111, 112, 101, 110] = true then .ok (tNx (xE (zyEl zymc B s.heap) 36) (xE (zyEl zymc B s.heap) 35 4) p1, uS S (72 + (v 2)) 2) else if tW (xE (zyEl zymc B s.heap) 36) (xE (zyEl zymc B s.heap) 35 4) p1 [115, 104, 117, 116] = true then .ok (tNx (xE (zyEl zymc B s.heap) 36) (xE (zyEl zymc B s.heap) 35 4) p1, uS S (72 + (v 2)) 1) else .error (pMis (xE (zyEl zymc B s.heap) 36) (xE (zyEl zymc B s.heap) 35 4) p1, tFr (xE (zyEl zymc B s.heap) 36) (xE (zyEl zymc B s.heap) 35 4) p1))) ∧ ((v 3) = if tW (xE (zyEl zymc B s.heap) 36) (xE (zyEl zymc B s.heap) 35 4) p1 [111, 112, 101, 110] = true then 1 else 0) ∧ xAD (xE (zyEl zymc B s.heap) 36) (xE (zyEl zymc B s.heap) 35 4) p1 (zyEl zymc B H) ∧ (∀ k, xE (zyEl zymc B H) 29 k = xE (zyEl zymc B s.heap) 29 k) := hInv
        have tt : xE (zyEl zymc B H2) 36 = xE (zyEl zymc B s.heap) 36 := funext fun i => (e36 i).trans (q36 i)
        have tn : xE (zyEl zymc B H2) 35 4 = xE (zyEl zymc B s.heap) 35 4 := by omega
        obtain ⟨i1, p1, i0, i2, i3, ⟨i4, i5, i6, i7⟩, j0⟩ := hI
        rw [show (v 2) = v2 2 by omega] at i2
        have hb := tNx_b (T := xE (zyEl zymc B s.heap) 36) (n := xE (zyEl zymc B s.heap) 35 4) (p := p1) i0
        have hw : tW (xE (zyEl zymc B s.heap) 36) (xE (zyEl zymc B s.heap) 35 4) p1 [111, 112, 101, 110] = false := by
          rw [Bool.eq_false_iff]
          intro h
          rw [if_pos h] at i3
          omega
        refine xCa hRu hIH hAt hB hv hFr (hfwsh B) (ix := 48) (ax := 1152) rfl rfl rfl hmefwsh ⟨_, rfl, rfl, by decide⟩ ⟨rfl, rfl, rfl⟩ (by decide) [] [] [] rfl ⟨rfl, rfl⟩ (by decide +kernel) xcs_n (by decide +kernel) ?_ (fun H3 r hT3 hf3 hFr3 hr3 hΨ3 => ?_)
        · show xΦ0 (xfv []) (zyEl zymc B H2)
          exact trivial
        · have hΨ3 : xΨfwsh (xfv []) (zyEl zymc B H2) (zyEl zymc B H3) r := hΨ3
          have d35_4 : xE (zyEl zymc B H3) 35 4 = xE (zyEl zymc B H2) 35 4 := xFr_E hf3 rfl
          have d35_5 : xE (zyEl zymc B H3) 35 5 = xE (zyEl zymc B H2) 35 5 := xFr_E hf3 rfl
          have d35_6 : xE (zyEl zymc B H3) 35 6 = xE (zyEl zymc B H2) 35 6 := xFr_E hf3 rfl
          have d35_7 : xE (zyEl zymc B H3) 35 7 = xE (zyEl zymc B H2) 35 7 := xFr_E hf3 rfl
          have d35_8 : xE (zyEl zymc B H3) 35 8 = xE (zyEl zymc B H2) 35 8 := xFr_E hf3 rfl
          have d35_2 : xE (zyEl zymc B H3) 35 2 = xE (zyEl zymc B H2) 35 2 := xFr_E hf3 rfl
          have d35_3 : xE (zyEl zymc B H3) 35 3 = xE (zyEl zymc B H2) 35 3 := xFr_E hf3 rfl
          have d19_3 : xE (zyEl zymc B H3) 19 3 = xE (zyEl zymc B H2) 19 3 := xFr_E hf3 rfl
          have d36 : ∀ i, xE (zyEl zymc B H3) 36 i = xE (zyEl zymc B H2) 36 i := fun i => xFr_E hf3 rfl
          have d29 : ∀ i, xE (zyEl zymc B H3) 29 i = xE (zyEl zymc B H2) 29 i := fun i => xFr_E hf3 rfl
          unfold xΨfwsh at hΨ3
          rw [show xE (zyEl zymc B H2) 36 = xE (zyEl zymc B s.heap) 36 from funext fun i => (e36 i).trans (q36 i), show xE (zyEl zymc B H2) 35 7 = tKd (xE (zyEl zymc B s.heap) 36) (xE (zyEl zymc B s.heap) 35 4) p1 by omega, show xE (zyEl zymc B H2) 35 5 = tFr (xE (zyEl zymc B s.heap) 36) (xE (zyEl zymc B s.heap) 35 4) p1 by omega, show xE (zyEl zymc B H2) 35 6 = tNx (xE (zyEl zymc B s.heap) 36) (xE (zyEl zymc B s.heap) 35 4) p1 by omega] at hΨ3
          have hΨ3 : r = if tW (xE (zyEl zymc B s.heap) 36) (xE (zyEl zymc B s.heap) 35 4) p1 [115, 104, 117, 116] = true then 1 else 0 := hΨ3
          have hr01 : r = 0 ∨ r = 1 := by
            rw [hΨ3]
            split <;> omega
          have hEE3 := xFr_n hf3
          refine ⟨⟨4, by decide⟩, [0, 0, 68719476737], [0, 0, (v2 2), r], rfl, ⟨by decide +kernel, ⟨rfl, by decide +kernel⟩, (xcs_c rfl (xcs_c rfl (xcs_c rfl xcs_n))), (xe_0 (xe_0 (xe_c (by omega) (by omega) rfl (xe_c (by omega) (by omega) rfl xe_n)))), xkq_n⟩, (by rw [if_pos rfl]; exact ⟨3, [], rfl, by decide, rfl, xst_n⟩), ?_, ?_⟩
          · show (0 ≤ ((v2 2) : Int) ∧ ((v2 2) : Int) < xE (zyEl zymc B s.heap) 19 3) ∧ ∃ p1, p1 ≤ (xE (zyEl zymc B s.heap) 35 4) ∧ (∀ S, xAb17 (zyEl zymc B s.heap) S → pStuck (xE (zyEl zymc B s.heap) 36) (xE (zyEl zymc B s.heap) 35 4) (xE (zyEl zymc B s.heap) 35 6) S = (if tW (xE (zyEl zymc B s.heap) 36) (xE (zyEl zymc B s.heap) 35 4) p1 [111, 112, 101, 110] = true then .ok (tNx (xE (zyEl zymc B s.heap) 36) (xE (zyEl zymc B s.heap) 35 4) p1, uS S (72 + ((v2 2) : Int)) 2) else if tW (xE (zyEl zymc B s.heap) 36) (xE (zyEl zymc B s.heap) 35 4) p1 [115, 104, 117, 116] = true then .ok (tNx (xE (zyEl zymc B s.heap) 36) (xE (zyEl zymc B s.heap) 35 4) p1, uS S (72 + ((v2 2) : Int)) 1) else .error (pMis (xE (zyEl zymc B s.heap) 36) (xE (zyEl zymc B s.heap) 35 4) p1, tFr (xE (zyEl zymc B s.heap) 36) (xE (zyEl zymc B s.heap) 35 4) p1))) ∧ (tW (xE (zyEl zymc B s.heap) 36) (xE (zyEl zymc B s.heap) 35 4) p1 [111, 112, 101, 110] = false ∧ (r : Int) = if tW (xE (zyEl zymc B s.heap) 36) (xE (zyEl zymc B s.heap) 35 4) p1 [115, 104, 117, 116] = true then 1 else 0) ∧ xAD (xE (zyEl zymc B s.heap) 36) (xE (zyEl zymc B s.heap) 35 4) p1 (zyEl zymc B H3) ∧ (∀ k, xE (zyEl zymc B H3) 29 k = xE (zyEl zymc B s.heap) 29 k)
            rw [hEE3]
            exact ⟨by omega, p1, i0, i2, ⟨hw, hΨ3⟩, ⟨by omega, by omega, by omega, fun h => by have := i7 h; omega⟩, fun k => by rw [e29 k, j0 k]⟩
          · show 16 < 17
            omega
    · have hx : x ∈ [zxfrk17_ex0] := hx
      have hag : ∀ k, k < 4 → v2 k = v k := hag
      have hfr : xFr [(35, 2, 3)] _ _ := hfr
      have ex := List.mem_singleton.mp hx
      subst ex
      obtain ⟨hF, hBd, hM⟩ := hXs
      have g2 : v2 2 = v 2 := hag 2 (by decide)
      have g3 : v2 3 = v 3 := hag 3 (by decide)
      have b0 : ((2147483648 : Nat) : Int) ≤ (v2 2) + 2147483648 ∧ (v2 2) + 2147483648 ≤ ((2147483678 : Nat) : Int) := xXb hBd 0 rfl
      have b1 : ((2147483649 : Nat) : Int) ≤ (v2 3) + 2147483648 ∧ (v2 3) + 2147483648 ≤ ((2147483649 : Nat) : Int) := xXb hBd 1 rfl
      have f0 : ¬ (v2 3) = 0 := xXf hF 0 rfl
      have e35_4 : xE (zyEl zymc B H2) 35 4 = xE (zyEl zymc B H) 35 4 := xFr_E hfr rfl
      have q35_4 : xE (zyEl zymc B H) 35 4 = xE (zyEl zymc B s.heap) 35 4 := xFr_E hFr0 rfl
      have e35_5 : xE (zyEl zymc B H2) 35 5 = xE (zyEl zymc B H) 35 5 := xFr_E hfr rfl
      have e35_6 : xE (zyEl zymc B H2) 35 6 = xE (zyEl zymc B H) 35 6 := xFr_E hfr rfl
      have e35_7 : xE (zyEl zymc B H2) 35 7 = xE (zyEl zymc B H) 35 7 := xFr_E hfr rfl
      have e35_8 : xE (zyEl zymc B H2) 35 8 = xE (zyEl zymc B H) 35 8 := xFr_E hfr rfl
      have e19_3 : xE (zyEl zymc B H2) 19 3 = xE (zyEl zymc B H) 19 3 := xFr_E hfr rfl
      have q19_3 : xE (zyEl zymc B H) 19 3 = xE (zyEl zymc B s.heap) 19 3 := xFr_E hFr0 rfl
      have e36 : ∀ i, xE (zyEl zymc B H2) 36 i = xE (zyEl zymc B H) 36 i := fun i => xFr_E hfr rfl
      have q36 : ∀ i, xE (zyEl zymc B H) 36 i = xE (zyEl zymc B s.heap) 36 i := fun i => xFr_E hFr0 rfl
      have e29 : ∀ i, xE (zyEl zymc B H2) 29 i = xE (zyEl zymc B H) 29 i := fun i => xFr_E hfr rfl
      have y19_3 : ((2147483648 : Nat) : Int) ≤ xE (zyEl zymc B s.heap) 19 3 + 2147483648 ∧ xE (zyEl zymc B s.heap) 19 3 + 2147483648 ≤ ((2147483679 : Nat) : Int) := xTyF hT0 19 3 3 rfl rfl rfl rfl rfl rfl
      have hI : (0 ≤ (v 2) ∧ (v 2) < xE (zyEl zymc B s.heap) 19 3) ∧ ∃ p1, p1 ≤ (xE (zyEl zymc B s.heap) 35 4) ∧ (∀ S, xAb17 (zyEl zymc B s.heap) S → pStuck (xE (zyEl zymc B s.heap) 36) (xE (zyEl zymc B s.heap) 35 4) (xE (zyEl zymc B s.heap) 35 6) S = (if tW (xE (zyEl zymc B s.heap) 36) (xE (zyEl zymc B s.heap) 35 4) p1 [111, 112, 101, 110] = true then .ok (tNx (xE (zyEl zymc B s.heap) 36) (xE (zyEl zymc B s.heap) 35 4) p1, uS S (72 + (v 2)) 2) else if tW (xE (zyEl zymc B s.heap) 36) (xE (zyEl zymc B s.heap) 35 4) p1 [115, 104, 117, 116] = true then .ok (tNx (xE (zyEl zymc B s.heap) 36) (xE (zyEl zymc B s.heap) 35 4) p1, uS S (72 + (v 2)) 1) else .error (pMis (xE (zyEl zymc B s.heap) 36) (xE (zyEl zymc B s.heap) 35 4) p1, tFr (xE (zyEl zymc B s.heap) 36) (xE (zyEl zymc B s.heap) 35 4) p1))) ∧ (tW (xE (zyEl zymc B s.heap) 36) (xE (zyEl zymc B s.heap) 35 4) p1 [111, 112, 101, 110] = false ∧ (v 3) = if tW (xE (zyEl zymc B s.heap) 36) (xE (zyEl zymc B s.heap) 35 4) p1 [115, 104, 117, 116] = true then 1 else 0) ∧ xAD (xE (zyEl zymc B s.heap) 36) (xE (zyEl zymc B s.heap) 35 4) p1 (zyEl zymc B H) ∧ (∀ k, xE (zyEl zymc B H) 29 k = xE (zyEl zymc B s.heap) 29 k) := hInv
      obtain ⟨i1, p1, i0, i2, ⟨iw, i3⟩, ⟨i4, i5, i6, i7⟩, j0⟩ := hI
      rw [show (v 2) = v2 2 by omega] at i2
      have hb := tNx_b (T := xE (zyEl zymc B s.heap) 36) (n := xE (zyEl zymc B s.heap) 35 4) (p := p1) i0
      have hw : tW (xE (zyEl zymc B s.heap) 36) (xE (zyEl zymc B s.heap) 35 4) p1 [115, 104, 117, 116] = true := by
        by_cases h : tW (xE (zyEl zymc B s.heap) 36) (xE (zyEl zymc B s.heap) 35 4) p1 [115, 104, 117, 116] = true
        · exact h
        · rw [if_neg h] at i3
          omega
      refine xSt hRu hIH hAt hB hv hFr 29 (ax := 0) 8 68719476737 1 (v2 2) rfl (Or.inl ⟨rfl, rfl⟩) rfl (by decide +kernel) rfl rfl (by omega) (by show (v2 2) < ((31 : Nat) : Int); omega) (fun r hr q1 q2 => by rw [List.mem_singleton.mp hr]; exact ⟨rfl, by show ((2147483648 : Nat) : Int) ≤ 1 + 2147483648; omega, by show 1 + 2147483648 ≤ ((2147483650 : Nat) : Int); omega⟩) (zyin_iff.mpr ⟨(29, 0, 30), by decide, rfl, Nat.zero_le _, by show Int.toNat (v2 2) ≤ 30; omega⟩) (fun H3 hT3 hst3 hne3 hfn3 hFr3 => ?_)
      have hfe3 : ∀ (a2 : Nat) (k2 : Int), ¬ a2 = 29 → xE (zyEl zymc B H3) a2 k2 = xE (zyEl zymc B H2) a2 k2 := fun a2 k2 hne => by unfold xE; rw [hfn3 a2 k2.toNat (fun z => hne z.1)]
      have d35_4 : xE (zyEl zymc B H3) 35 4 = xE (zyEl zymc B H2) 35 4 := hfe3 35 4 (fun z => absurd z (by decide))
      have d35_5 : xE (zyEl zymc B H3) 35 5 = xE (zyEl zymc B H2) 35 5 := hfe3 35 5 (fun z => absurd z (by decide))
      have d35_6 : xE (zyEl zymc B H3) 35 6 = xE (zyEl zymc B H2) 35 6 := hfe3 35 6 (fun z => absurd z (by decide))
      have d35_7 : xE (zyEl zymc B H3) 35 7 = xE (zyEl zymc B H2) 35 7 := hfe3 35 7 (fun z => absurd z (by decide))
      have d35_8 : xE (zyEl zymc B H3) 35 8 = xE (zyEl zymc B H2) 35 8 := hfe3 35 8 (fun z => absurd z (by decide))
      have d35_2 : xE (zyEl zymc B H3) 35 2 = xE (zyEl zymc B H2) 35 2 := hfe3 35 2 (fun z => absurd z (by decide))
      have d35_3 : xE (zyEl zymc B H3) 35 3 = xE (zyEl zymc B H2) 35 3 := hfe3 35 3 (fun z => absurd z (by decide))
      have d19_3 : xE (zyEl zymc B H3) 19 3 = xE (zyEl zymc B H2) 19 3 := hfe3 19 3 (fun z => absurd z (by decide))
      refine ⟨⟨6, by decide⟩, [0, 0, 68719476737], [0, 0, (v2 2)], rfl, ⟨by decide +kernel, ⟨rfl, by decide +kernel⟩, (xcs_c rfl (xcs_c rfl (xcs_c rfl xcs_n))), (xe_0 (xe_0 (xe_c (by omega) (by omega) rfl xe_n))), xkq_n⟩, rfl, ?_, ?_⟩
      · show (0 ≤ ((v2 2) : Int) ∧ ((v2 2) : Int) < xE (zyEl zymc B s.heap) 19 3) ∧ xE (zyEl zymc B H3) 35 6 ≤ (xE (zyEl zymc B s.heap) 35 4) ∧ (∀ S, xAb17 (zyEl zymc B s.heap) S → pStuck (xE (zyEl zymc B s.heap) 36) (xE (zyEl zymc B s.heap) 35 4) (xE (zyEl zymc B s.heap) 35 6) S = .ok (xE (zyEl zymc B H3) 35 6, uS S (72 + ((v2 2) : Int)) 1)) ∧ xE (zyEl zymc B H3) 29 ((v2 2) : Int) = 1 ∧ (∀ k, 0 ≤ k → ¬ k = ((v2 2) : Int) → xE (zyEl zymc B H3) 29 k = xE (zyEl zymc B s.heap) 29 k)
        refine ⟨by omega, by omega, fun S hS => ?_, hst3, fun k k0 k1 => (hne3 29 k k0 (fun z => k1 z.2)).trans ((e29 k).trans (j0 k))⟩
        rw [i2 S hS, iw, if_neg (by decide), if_pos hw, show xE (zyEl zymc B H3) 35 6 = tNx (xE (zyEl zymc B s.heap) 36) (xE (zyEl zymc B s.heap) 35 4) p1 by omega]
      · show 14 < 16
        omega
    · have hx : x ∈ [zxfrk17_fx0] := hx
      have hag : ∀ k, k < 3 → v2 k = v k := hag
      have hfr : xFr [] _ _ := hfr
      have ex := List.mem_singleton.mp hx
      subst ex
      obtain ⟨hF, hBd, hM⟩ := hXs
      have g2 : v2 2 = v 2 := hag 2 (by decide)
      have b0 : ((2147483648 : Nat) : Int) ≤ (v2 2) + 2147483648 ∧ (v2 2) + 2147483648 ≤ ((2147483678 : Nat) : Int) := xXb hBd 0 rfl
      have e35_4 : xE (zyEl zymc B H2) 35 4 = xE (zyEl zymc B H) 35 4 := xFr_E hfr rfl
      have q35_4 : xE (zyEl zymc B H) 35 4 = xE (zyEl zymc B s.heap) 35 4 := xFr_E hFr0 rfl
      have e35_5 : xE (zyEl zymc B H2) 35 5 = xE (zyEl zymc B H) 35 5 := xFr_E hfr rfl
      have e35_6 : xE (zyEl zymc B H2) 35 6 = xE (zyEl zymc B H) 35 6 := xFr_E hfr rfl
      have e35_7 : xE (zyEl zymc B H2) 35 7 = xE (zyEl zymc B H) 35 7 := xFr_E hfr rfl
      have e35_8 : xE (zyEl zymc B H2) 35 8 = xE (zyEl zymc B H) 35 8 := xFr_E hfr rfl
      have e35_2 : xE (zyEl zymc B H2) 35 2 = xE (zyEl zymc B H) 35 2 := xFr_E hfr rfl
      have e35_3 : xE (zyEl zymc B H2) 35 3 = xE (zyEl zymc B H) 35 3 := xFr_E hfr rfl
      have e19_3 : xE (zyEl zymc B H2) 19 3 = xE (zyEl zymc B H) 19 3 := xFr_E hfr rfl
      have q19_3 : xE (zyEl zymc B H) 19 3 = xE (zyEl zymc B s.heap) 19 3 := xFr_E hFr0 rfl
      have e36 : ∀ i, xE (zyEl zymc B H2) 36 i = xE (zyEl zymc B H) 36 i := fun i => xFr_E hfr rfl
      have q36 : ∀ i, xE (zyEl zymc B H) 36 i = xE (zyEl zymc B s.heap) 36 i := fun i => xFr_E hFr0 rfl
      have e29 : ∀ i, xE (zyEl zymc B H2) 29 i = xE (zyEl zymc B H) 29 i := fun i => xFr_E hfr rfl
      have y19_3 : ((2147483648 : Nat) : Int) ≤ xE (zyEl zymc B s.heap) 19 3 + 2147483648 ∧ xE (zyEl zymc B s.heap) 19 3 + 2147483648 ≤ ((2147483679 : Nat) : Int) := xTyF hT0 19 3 3 rfl rfl rfl rfl rfl rfl
      have hI : (0 ≤ (v 2) ∧ (v 2) < xE (zyEl zymc B s.heap) 19 3) ∧ xE (zyEl zymc B H) 35 6 ≤ (xE (zyEl zymc B s.heap) 35 4) ∧ (∀ S, xAb17 (zyEl zymc B s.heap) S → pStuck (xE (zyEl zymc B s.heap) 36) (xE (zyEl zymc B s.heap) 35 4) (xE (zyEl zymc B s.heap) 35 6) S = .ok (xE (zyEl zymc B H) 35 6, uS S (72 + (v 2)) 2)) ∧ xE (zyEl zymc B H) 29 (v 2) = 2 ∧ (∀ k, 0 ≤ k → ¬ k = (v 2) → xE (zyEl zymc B H) 29 k = xE (zyEl zymc B s.heap) 29 k) := hInv
      have tt : xE (zyEl zymc B H2) 36 = xE (zyEl zymc B s.heap) 36 := funext fun i => (e36 i).trans (q36 i)
      have tn : xE (zyEl zymc B H2) 35 4 = xE (zyEl zymc B s.heap) 35 4 := by omega
      obtain ⟨i1, i0, i2, i3, i4⟩ := hI
      rw [show (v 2) = v2 2 by omega] at i2 i3 i4
      refine xCa hRu hIH hAt hB hv hFr (hfts B) (ix := 73) (ax := 1088) rfl rfl rfl hmefts ⟨_, rfl, rfl, by decide⟩ ⟨rfl, rfl, rfl⟩ (by decide) [] [] [] rfl ⟨rfl, rfl⟩ (by decide +kernel) xcs_n (by decide +kernel) ?_ (fun H3 r hT3 hf3 hFr3 hr3 hΨ3 => ?_)
      · show xΦad (xfv []) (zyEl zymc B H2)
        unfold xΦad
        omega
      · have hΨ3 : xΨts (xfv []) (zyEl zymc B H2) (zyEl zymc B H3) r := hΨ3
        have d35_4 : xE (zyEl zymc B H3) 35 4 = xE (zyEl zymc B H2) 35 4 := xFr_E hf3 rfl
        have d19_3 : xE (zyEl zymc B H3) 19 3 = xE (zyEl zymc B H2) 19 3 := xFr_E hf3 rfl
        have d36 : ∀ i, xE (zyEl zymc B H3) 36 i = xE (zyEl zymc B H2) 36 i := fun i => xFr_E hf3 rfl
        have d29 : ∀ i, xE (zyEl zymc B H3) 29 i = xE (zyEl zymc B H2) 29 i := fun i => xFr_E hf3 rfl
        unfold xΨts at hΨ3
        rw [tt, tn] at hΨ3
        have hr01 := xts_r hΨ3
        refine ⟨⟨7, by decide⟩, [0, 0, 68719476737], [0, 0, (v2 2), r], rfl, ⟨by decide +kernel, ⟨rfl, by decide +kernel⟩, (xcs_c rfl (xcs_c rfl (xcs_c rfl xcs_n))), (xe_0 (xe_0 (xe_c (by omega) (by omega) rfl (xe_c (by omega) (by omega) rfl xe_n)))), xkq_n⟩, (by rw [if_pos rfl]; exact ⟨3, [], rfl, by decide, rfl, xst_n⟩), ?_, ?_⟩
        · show ∃ g how p2, (0 ≤ g ∧ g < xE (zyEl zymc B s.heap) 19 3) ∧ (∀ S, xAb17 (zyEl zymc B s.heap) S → pStuck (xE (zyEl zymc B s.heap) 36) (xE (zyEl zymc B s.heap) 35 4) (xE (zyEl zymc B s.heap) 35 6) S = .ok (p2, uS S (72 + g) how)) ∧ xE (zyEl zymc B H3) 29 g = how ∧ (∀ k, 0 ≤ k → ¬ k = g → xE (zyEl zymc B H3) 29 k = xE (zyEl zymc B s.heap) 29 k) ∧ xTS (xE (zyEl zymc B s.heap) 36) (xE (zyEl zymc B s.heap) 35 4) p2 (zyEl zymc B H3) (r : Int)
          exact ⟨v2 2, 2, xE (zyEl zymc B H2) 35 6, by omega, fun S hS => by rw [i2 S hS, show xE (zyEl zymc B H) 35 6 = xE (zyEl zymc B H2) 35 6 by omega], (d29 _).trans ((e29 _).trans i3), fun k k0 k1 => (d29 k).trans ((e29 k).trans (i4 k k0 k1)), hΨ3⟩
        · show 13 < 15
          omega
    · have hx : x ∈ [zxfrk17_gx0] := hx
      have hag : ∀ k, k < 3 → v2 k = v k := hag
      have hfr : xFr [] _ _ := hfr
      have ex := List.mem_singleton.mp hx
      subst ex
      obtain ⟨hF, hBd, hM⟩ := hXs
      have g2 : v2 2 = v 2 := hag 2 (by decide)
      have b0 : ((2147483648 : Nat) : Int) ≤ (v2 2) + 2147483648 ∧ (v2 2) + 2147483648 ≤ ((2147483678 : Nat) : Int) := xXb hBd 0 rfl
      have e35_4 : xE (zyEl zymc B H2) 35 4 = xE (zyEl zymc B H) 35 4 := xFr_E hfr rfl
      have q35_4 : xE (zyEl zymc B H) 35 4 = xE (zyEl zymc B s.heap) 35 4 := xFr_E hFr0 rfl
      have e35_5 : xE (zyEl zymc B H2) 35 5 = xE (zyEl zymc B H) 35 5 := xFr_E hfr rfl
      have e35_6 : xE (zyEl zymc B H2) 35 6 = xE (zyEl zymc B H) 35 6 := xFr_E hfr rfl
      have e35_7 : xE (zyEl zymc B H2) 35 7 = xE (zyEl zymc B H) 35 7 := xFr_E hfr rfl
      have e35_8 : xE (zyEl zymc B H2) 35 8 = xE (zyEl zymc B H) 35 8 := xFr_E hfr rfl
      have e35_2 : xE (zyEl zymc B H2) 35 2 = xE (zyEl zymc B H) 35 2 := xFr_E hfr rfl
      have e35_3 : xE (zyEl zymc B H2) 35 3 = xE (zyEl zymc B H) 35 3 := xFr_E hfr rfl
      have e19_3 : xE (zyEl zymc B H2) 19 3 = xE (zyEl zymc B H) 19 3 := xFr_E hfr rfl
      have q19_3 : xE (zyEl zymc B H) 19 3 = xE (zyEl zymc B s.heap) 19 3 := xFr_E hFr0 rfl
      have e36 : ∀ i, xE (zyEl zymc B H2) 36 i = xE (zyEl zymc B H) 36 i := fun i => xFr_E hfr rfl
      have q36 : ∀ i, xE (zyEl zymc B H) 36 i = xE (zyEl zymc B s.heap) 36 i := fun i => xFr_E hFr0 rfl
      have e29 : ∀ i, xE (zyEl zymc B H2) 29 i = xE (zyEl zymc B H) 29 i := fun i => xFr_E hfr rfl
      have y19_3 : ((2147483648 : Nat) : Int) ≤ xE (zyEl zymc B s.heap) 19 3 + 2147483648 ∧ xE (zyEl zymc B s.heap) 19 3 + 2147483648 ≤ ((2147483679 : Nat) : Int) := xTyF hT0 19 3 3 rfl rfl rfl rfl rfl rfl
      have hI : (0 ≤ (v 2) ∧ (v 2) < xE (zyEl zymc B s.heap) 19 3) ∧ xE (zyEl zymc B H) 35 6 ≤ (xE (zyEl zymc B s.heap) 35 4) ∧ (∀ S, xAb17 (zyEl zymc B s.heap) S → pStuck (xE (zyEl zymc B s.heap) 36) (xE (zyEl zymc B s.heap) 35 4) (xE (zyEl zymc B s.heap) 35 6) S = .ok (xE (zyEl zymc B H) 35 6, uS S (72 + (v 2)) 1)) ∧ xE (zyEl zymc B H) 29 (v 2) = 1 ∧ (∀ k, 0 ≤ k → ¬ k = (v 2) → xE (zyEl zymc B H) 29 k = xE (zyEl zymc B s.heap) 29 k) := hInv
      have tt : xE (zyEl zymc B H2) 36 = xE (zyEl zymc B s.heap) 36 := funext fun i => (e36 i).trans (q36 i)
      have tn : xE (zyEl zymc B H2) 35 4 = xE (zyEl zymc B s.heap) 35 4 := by omega
      obtain ⟨i1, i0, i2, i3, i4⟩ := hI
      rw [show (v 2) = v2 2 by omega] at i2 i3 i4
      refine xCa hRu hIH hAt hB hv hFr (hfts B) (ix := 73) (ax := 1088) rfl rfl rfl hmefts ⟨_, rfl, rfl, by decide⟩ ⟨rfl, rfl, rfl⟩ (by decide) [] [] [] rfl ⟨rfl, rfl⟩ (by decide +kernel) xcs_n (by decide +kernel) ?_ (fun H3 r hT3 hf3 hFr3 hr3 hΨ3 => ?_)
      · show xΦad (xfv []) (zyEl zymc B H2)
        unfold xΦad
        omega
      · have hΨ3 : xΨts (xfv []) (zyEl zymc B H2) (zyEl zymc B H3) r := hΨ3
        have d35_4 : xE (zyEl zymc B H3) 35 4 = xE (zyEl zymc B H2) 35 4 := xFr_E hf3 rfl
        have d19_3 : xE (zyEl zymc B H3) 19 3 = xE (zyEl zymc B H2) 19 3 := xFr_E hf3 rfl
        have d36 : ∀ i, xE (zyEl zymc B H3) 36 i = xE (zyEl zymc B H2) 36 i := fun i => xFr_E hf3 rfl
        have d29 : ∀ i, xE (zyEl zymc B H3) 29 i = xE (zyEl zymc B H2) 29 i := fun i => xFr_E hf3 rfl
        unfold xΨts at hΨ3
        rw [tt, tn] at hΨ3
        have hr01 := xts_r hΨ3
        refine ⟨⟨7, by decide⟩, [0, 0, 68719476737], [0, 0, (v2 2), r], rfl, ⟨by decide +kernel, ⟨rfl, by decide +kernel⟩, (xcs_c rfl (xcs_c rfl (xcs_c rfl xcs_n))), (xe_0 (xe_0 (xe_c (by omega) (by omega) rfl (xe_c (by omega) (by omega) rfl xe_n)))), xkq_n⟩, (by rw [if_pos rfl]; exact ⟨3, [], rfl, by decide, rfl, xst_n⟩), ?_, ?_⟩
        · show ∃ g how p2, (0 ≤ g ∧ g < xE (zyEl zymc B s.heap) 19 3) ∧ (∀ S, xAb17 (zyEl zymc B s.heap) S → pStuck (xE (zyEl zymc B s.heap) 36) (xE (zyEl zymc B s.heap) 35 4) (xE (zyEl zymc B s.heap) 35 6) S = .ok (p2, uS S (72 + g) how)) ∧ xE (zyEl zymc B H3) 29 g = how ∧ (∀ k, 0 ≤ k → ¬ k = g → xE (zyEl zymc B H3) 29 k = xE (zyEl zymc B s.heap) 29 k) ∧ xTS (xE (zyEl zymc B s.heap) 36) (xE (zyEl zymc B s.heap) 35 4) p2 (zyEl zymc B H3) (r : Int)
          exact ⟨v2 2, 1, xE (zyEl zymc B H2) 35 6, by omega, fun S hS => by rw [i2 S hS, show xE (zyEl zymc B H) 35 6 = xE (zyEl zymc B H2) 35 6 by omega], (d29 _).trans ((e29 _).trans i3), fun k k0 k1 => (d29 k).trans ((e29 k).trans (i4 k k0 k1)), hΨ3⟩
        · show 13 < 14
          omega
    · cases hx
  · intro x0 E0 E E2 hrx hT0 hΦ i v hT hrv hInv hKc hFr0 x hx v2 hr2 hXs hag hfr hFr hT2
    rcases i with ⟨i, hi⟩
    have hi2 : i = 0 ∨ i = 1 ∨ i = 2 ∨ i = 3 ∨ i = 4 ∨ i = 5 ∨ i = 6 ∨ i = 7 := by omega
    rcases hi2 with rfl | rfl | rfl | rfl | rfl | rfl | rfl | rfl
    · cases hx
    · have hx : x ∈ [zxfrk17_br0] := hx
      have hag : ∀ k, k < 4 → v2 k = v k := hag
      have hfr : xFr [] _ _ := hfr
      have ex := List.mem_singleton.mp hx
      subst ex
      obtain ⟨hF, hBd, hM⟩ := hXs
      have g3 : v2 3 = v 3 := hag 3 (by decide)
      have b0 : ((2147483648 : Nat) : Int) ≤ (v2 3) + 2147483648 ∧ (v2 3) + 2147483648 ≤ ((2147483648 : Nat) : Int) := xXb hBd 0 rfl
      have f0 : (v2 3) = 0 := xXf hF 0 rfl
      have e35_4 : xE E2 35 4 = xE E 35 4 := xFr_E hfr rfl
      have q35_4 : xE E 35 4 = xE E0 35 4 := xFr_E hFr0 rfl
      have e35_5 : xE E2 35 5 = xE E 35 5 := xFr_E hfr rfl
      have e35_6 : xE E2 35 6 = xE E 35 6 := xFr_E hfr rfl
      have e35_7 : xE E2 35 7 = xE E 35 7 := xFr_E hfr rfl
      have e35_8 : xE E2 35 8 = xE E 35 8 := xFr_E hfr rfl
      have e35_2 : xE E2 35 2 = xE E 35 2 := xFr_E hfr rfl
      have e35_3 : xE E2 35 3 = xE E 35 3 := xFr_E hfr rfl
      have e19_3 : xE E2 19 3 = xE E 19 3 := xFr_E hfr rfl
      have q19_3 : xE E 19 3 = xE E0 19 3 := xFr_E hFr0 rfl
      have e36 : ∀ i, xE E2 36 i = xE E 36 i := fun i => xFr_E hfr rfl
      have q36 : ∀ i, xE E 36 i = xE E0 36 i := fun i => xFr_E hFr0 rfl
      have e29 : ∀ i, xE E2 29 i = xE E 29 i := fun i => xFr_E hfr rfl
      have y19_3 : ((2147483648 : Nat) : Int) ≤ xE E0 19 3 + 2147483648 ∧ xE E0 19 3 + 2147483648 ≤ ((2147483679 : Nat) : Int) := xTyF hT0 19 3 3 rfl rfl rfl rfl rfl rfl
      have hI : xTN (xE E0 36) (xE E0 35 4) (xE E0 35 6) 0 (xE E0 19 3 - 1) E (v 3) ∧ (∀ k, xE E 29 k = xE E0 29 k) := hInv
      show xΨfrk17 x0 E0 E2 0
      obtain ⟨i1, j0⟩ := hI
      have hz : (v 3) = 0 := by omega
      intro S hS
      have e : pStuck (xE E0 36) (xE E0 35 4) (xE E0 35 6) S = Except.error (xE E 35 2, xE E 35 3) := by unfold pStuck; rw [← hS.2.1.2.2.2]; exact xtn_0 i1 hz _
      show xOut17 (pBind (pStuck (xE E0 36) (xE E0 35 4) (xE E0 35 6) S) (pSem (xE E0 36) (xE E0 35 4))) E2 0
      rw [e]
      exact xOut17_e (by omega) (by omega) (by omega)
    · cases hx
    · cases hx
    · have hx : x ∈ [zxfrk17_er0, zxfrk17_er1, zxfrk17_er2] := hx
      have hag : ∀ k, k < 4 → v2 k = v k := hag
      have hfr : xFr [(35, 2, 3)] _ _ := hfr
      rcases List.mem_cons.mp hx with ex | hx
      · subst ex
        obtain ⟨hF, hBd, hM⟩ := hXs
        have g2 : v2 2 = v 2 := hag 2 (by decide)
        have g3 : v2 3 = v 3 := hag 3 (by decide)
        have b0 : ((2147483648 : Nat) : Int) ≤ (v2 3) + 2147483648 ∧ (v2 3) + 2147483648 ≤ ((2147483648 : Nat) : Int) := xXb hBd 0 rfl
        have b1 : ((2147483650 : Nat) : Int) ≤ (v2 4) + 2147483648 ∧ (v2 4) + 2147483648 ≤ ((2147483653 : Nat) : Int) := xXb hBd 1 rfl
        have b2 : ((2147483648 : Nat) : Int) ≤ (v2 5) + 2147483648 ∧ (v2 5) + 2147483648 ≤ ((2147484548 : Nat) : Int) := xXb hBd 2 rfl
        have f0 : (v2 3) = 0 := xXf hF 0 rfl
        have f1 : (0 : Int) ≤ 7 ∧ xE E 35 7 = (v2 4) := xXf hF 1 rfl
        have f2 : ¬ (v2 4) = 1 := xXf hF 2 rfl
        have f3 : (0 : Int) ≤ 5 ∧ xE E 35 5 = (v2 5) := xXf hF 3 rfl
        have m0 : xE E2 35 2 = 2 := xXm hM 0 rfl
        have m1 : xE E2 35 3 = (v2 5) := xXm hM 1 rfl
        have e35_4 : xE E2 35 4 = xE E 35 4 := xFr_E hfr rfl
        have q35_4 : xE E 35 4 = xE E0 35 4 := xFr_E hFr0 rfl
        have e35_5 : xE E2 35 5 = xE E 35 5 := xFr_E hfr rfl
        have e35_6 : xE E2 35 6 = xE E 35 6 := xFr_E hfr rfl
        have e35_7 : xE E2 35 7 = xE E 35 7 := xFr_E hfr rfl
        have e35_8 : xE E2 35 8 = xE E 35 8 := xFr_E hfr rfl
        have e19_3 : xE E2 19 3 = xE E 19 3 := xFr_E hfr rfl
        have q19_3 : xE E 19 3 = xE E0 19 3 := xFr_E hFr0 rfl
        have e36 : ∀ i, xE E2 36 i = xE E 36 i := fun i => xFr_E hfr rfl
        have q36 : ∀ i, xE E 36 i = xE E0 36 i := fun i => xFr_E hFr0 rfl
        have e29 : ∀ i, xE E2 29 i = xE E 29 i := fun i => xFr_E hfr rfl
        have y19_3 : ((2147483648 : Nat) : Int) ≤ xE E0 19 3 + 2147483648 ∧ xE E0 19 3 + 2147483648 ≤ ((2147483679 : Nat) : Int) := xTyF hT0 19 3 3 rfl rfl rfl rfl rfl rfl
        have hI : (0 ≤ (v 2) ∧ (v 2) < xE E0 19 3) ∧ ∃ p1, p1 ≤ (xE E0 35 4) ∧ (∀ S, xAb17 E0 S → pStuck (xE E0 36) (xE E0 35 4) (xE E0 35 6) S = (if tW (xE E0 36) (xE E0 35 4) p1 [111, 112, 101, 110] = true then .ok (tNx (xE E0 36) (xE E0 35 4) p1, uS S (72 + (v 2)) 2) else if tW (xE E0 36) (xE E0 35 4) p1 [115, 104, 117, 116] = true then .ok (tNx (xE E0 36) (xE E0 35 4) p1, uS S (72 + (v 2)) 1) else .error (pMis (xE E0 36) (xE E0 35 4) p1, tFr (xE E0 36) (xE E0 35 4) p1))) ∧ (tW (xE E0 36) (xE E0 35 4) p1 [111, 112, 101, 110] = false ∧ (v 3) = if tW (xE E0 36) (xE E0 35 4) p1 [115, 104, 117, 116] = true then 1 else 0) ∧ xAD (xE E0 36) (xE E0 35 4) p1 E ∧ (∀ k, xE E 29 k = xE E0 29 k) := hInv
        show xΨfrk17 x0 E0 E2 0
        obtain ⟨i1, p1, i0, i2, ⟨iw, i3⟩, ⟨i4, i5, i6, i7⟩, j0⟩ := hI
        rw [show (v 2) = v2 2 by omega] at i2
        have hb := tNx_b (T := xE E0 36) (n := xE E0 35 4) (p := p1) i0
        have hw : tW (xE E0 36) (xE E0 35 4) p1 [115, 104, 117, 116] = false := by
          rw [Bool.eq_false_iff]
          intro h
          rw [if_pos h] at i3
          omega
        have hm : pMis (xE E0 36) (xE E0 35 4) p1 = 2 := by unfold pMis; rw [if_neg (by omega)]
        intro S hS
        have e : pStuck (xE E0 36) (xE E0 35 4) (xE E0 35 6) S = Except.error (pMis (xE E0 36) (xE E0 35 4) p1, tFr (xE E0 36) (xE E0 35 4) p1) := by rw [i2 S hS, iw, hw, if_neg (by decide), if_neg (by decide)]
        show xOut17 (pBind (pStuck (xE E0 36) (xE E0 35 4) (xE E0 35 6) S) (pSem (xE E0 36) (xE E0 35 4))) E2 0
        rw [e]
        exact xOut17_e (by omega) (by omega) (by omega)
      · skip
        rcases List.mem_cons.mp hx with ex | hx
        · subst ex
          obtain ⟨hF, hBd, hM⟩ := hXs
          have g2 : v2 2 = v 2 := hag 2 (by decide)
          have g3 : v2 3 = v 3 := hag 3 (by decide)
          have b0 : ((2147483648 : Nat) : Int) ≤ (v2 3) + 2147483648 ∧ (v2 3) + 2147483648 ≤ ((2147483648 : Nat) : Int) := xXb hBd 0 rfl
          have b1 : ((2147483648 : Nat) : Int) ≤ (v2 4) + 2147483648 ∧ (v2 4) + 2147483648 ≤ ((2147483648 : Nat) : Int) := xXb hBd 1 rfl
          have b2 : ((2147483648 : Nat) : Int) ≤ (v2 5) + 2147483648 ∧ (v2 5) + 2147483648 ≤ ((2147484548 : Nat) : Int) := xXb hBd 2 rfl
          have f0 : (v2 3) = 0 := xXf hF 0 rfl
          have f1 : (0 : Int) ≤ 7 ∧ xE E 35 7 = (v2 4) := xXf hF 1 rfl
          have f2 : ¬ (v2 4) = 1 := xXf hF 2 rfl
          have f3 : (0 : Int) ≤ 5 ∧ xE E 35 5 = (v2 5) := xXf hF 3 rfl
          have m0 : xE E2 35 2 = 2 := xXm hM 0 rfl
          have m1 : xE E2 35 3 = (v2 5) := xXm hM 1 rfl
          have e35_4 : xE E2 35 4 = xE E 35 4 := xFr_E hfr rfl
          have q35_4 : xE E 35 4 = xE E0 35 4 := xFr_E hFr0 rfl
          have e35_5 : xE E2 35 5 = xE E 35 5 := xFr_E hfr rfl
          have e35_6 : xE E2 35 6 = xE E 35 6 := xFr_E hfr rfl
          have e35_7 : xE E2 35 7 = xE E 35 7 := xFr_E hfr rfl
          have e35_8 : xE E2 35 8 = xE E 35 8 := xFr_E hfr rfl
          have e19_3 : xE E2 19 3 = xE E 19 3 := xFr_E hfr rfl
          have q19_3 : xE E 19 3 = xE E0 19 3 := xFr_E hFr0 rfl
          have e36 : ∀ i, xE E2 36 i = xE E 36 i := fun i => xFr_E hfr rfl
          have q36 : ∀ i, xE E 36 i = xE E0 36 i := fun i => xFr_E hFr0 rfl
          have e29 : ∀ i, xE E2 29 i = xE E 29 i := fun i => xFr_E hfr rfl
          have y19_3 : ((2147483648 : Nat) : Int) ≤ xE E0 19 3 + 2147483648 ∧ xE E0 19 3 + 2147483648 ≤ ((2147483679 : Nat) : Int) := xTyF hT0 19 3 3 rfl rfl rfl rfl rfl rfl
          have hI : (0 ≤ (v 2) ∧ (v 2) < xE E0 19 3) ∧ ∃ p1, p1 ≤ (xE E0 35 4) ∧ (∀ S, xAb17 E0 S → pStuck (xE E0 36) (xE E0 35 4) (xE E0 35 6) S = (if tW (xE E0 36) (xE E0 35 4) p1 [111, 112, 101, 110] = true then .ok (tNx (xE E0 36) (xE E0 35 4) p1, uS S (72 + (v 2)) 2) else if tW (xE E0 36) (xE E0 35 4) p1 [115, 104, 117, 116] = true then .ok (tNx (xE E0 36) (xE E0 35 4) p1, uS S (72 + (v 2)) 1) else .error (pMis (xE E0 36) (xE E0 35 4) p1, tFr (xE E0 36) (xE E0 35 4) p1))) ∧ (tW (xE E0 36) (xE E0 35 4) p1 [111, 112, 101, 110] = false ∧ (v 3) = if tW (xE E0 36) (xE E0 35 4) p1 [115, 104, 117, 116] = true then 1 else 0) ∧ xAD (xE E0 36) (xE E0 35 4) p1 E ∧ (∀ k, xE E 29 k = xE E0 29 k) := hInv
          show xΨfrk17 x0 E0 E2 0
          obtain ⟨i1, p1, i0, i2, ⟨iw, i3⟩, ⟨i4, i5, i6, i7⟩, j0⟩ := hI
          rw [show (v 2) = v2 2 by omega] at i2
          have hb := tNx_b (T := xE E0 36) (n := xE E0 35 4) (p := p1) i0
          have hw : tW (xE E0 36) (xE E0 35 4) p1 [115, 104, 117, 116] = false := by
            rw [Bool.eq_false_iff]
            intro h
            rw [if_pos h] at i3
            omega
          have hm : pMis (xE E0 36) (xE E0 35 4) p1 = 2 := by unfold pMis; rw [if_neg (by omega)]
          intro S hS
          have e : pStuck (xE E0 36) (xE E0 35 4) (xE E0 35 6) S = Except.error (pMis (xE E0 36) (xE E0 35 4) p1, tFr (xE E0 36) (xE E0 35 4) p1) := by rw [i2 S hS, iw, hw, if_neg (by decide), if_neg (by decide)]
          show xOut17 (pBind (pStuck (xE E0 36) (xE E0 35 4) (xE E0 35 6) S) (pSem (xE E0 36) (xE E0 35 4))) E2 0
          rw [e]
          exact xOut17_e (by omega) (by omega) (by omega)
        · skip
          have ex := List.mem_singleton.mp hx
          subst ex
          obtain ⟨hF, hBd, hM⟩ := hXs
          have g2 : v2 2 = v 2 := hag 2 (by decide)
          have g3 : v2 3 = v 3 := hag 3 (by decide)
          have b0 : ((2147483648 : Nat) : Int) ≤ (v2 3) + 2147483648 ∧ (v2 3) + 2147483648 ≤ ((2147483648 : Nat) : Int) := xXb hBd 0 rfl
          have b1 : ((2147483649 : Nat) : Int) ≤ (v2 4) + 2147483648 ∧ (v2 4) + 2147483648 ≤ ((2147483649 : Nat) : Int) := xXb hBd 1 rfl
          have b2 : ((2147483648 : Nat) : Int) ≤ (v2 5) + 2147483648 ∧ (v2 5) + 2147483648 ≤ ((2147484548 : Nat) : Int) := xXb hBd 2 rfl
          have f0 : (v2 3) = 0 := xXf hF 0 rfl
          have f1 : (0 : Int) ≤ 7 ∧ xE E 35 7 = (v2 4) := xXf hF 1 rfl
          have f2 : (v2 4) = 1 := xXf hF 2 rfl
          have f3 : (0 : Int) ≤ 5 ∧ xE E 35 5 = (v2 5) := xXf hF 3 rfl
          have m0 : xE E2 35 2 = 1 := xXm hM 0 rfl
          have m1 : xE E2 35 3 = (v2 5) := xXm hM 1 rfl
          have e35_4 : xE E2 35 4 = xE E 35 4 := xFr_E hfr rfl
          have q35_4 : xE E 35 4 = xE E0 35 4 := xFr_E hFr0 rfl
          have e35_5 : xE E2 35 5 = xE E 35 5 := xFr_E hfr rfl
          have e35_6 : xE E2 35 6 = xE E 35 6 := xFr_E hfr rfl
          have e35_7 : xE E2 35 7 = xE E 35 7 := xFr_E hfr rfl
          have e35_8 : xE E2 35 8 = xE E 35 8 := xFr_E hfr rfl
          have e19_3 : xE E2 19 3 = xE E 19 3 := xFr_E hfr rfl
          have q19_3 : xE E 19 3 = xE E0 19 3 := xFr_E hFr0 rfl
          have e36 : ∀ i, xE E2 36 i = xE E 36 i := fun i => xFr_E hfr rfl
          have q36 : ∀ i, xE E 36 i = xE E0 36 i := fun i => xFr_E hFr0 rfl
          have e29 : ∀ i, xE E2 29 i = xE E 29 i := fun i => xFr_E hfr rfl
          have y19_3 : ((2147483648 : Nat) : Int) ≤ xE E0 19 3 + 2147483648 ∧ xE E0 19 3 + 2147483648 ≤ ((2147483679 : Nat) : Int) := xTyF hT0 19 3 3 rfl rfl rfl rfl rfl rfl
          have hI : (0 ≤ (v 2) ∧ (v 2) < xE E0 19 3) ∧ ∃ p1, p1 ≤ (xE E0 35 4) ∧ (∀ S, xAb17 E0 S → pStuck (xE E0 36) (xE E0 35 4) (xE E0 35 6) S = (if tW (xE E0 36) (xE E0 35 4) p1 [111, 112, 101, 110] = true then .ok (tNx (xE E0 36) (xE E0 35 4) p1, uS S (72 + (v 2)) 2) else if tW (xE E0 36) (xE E0 35 4) p1 [115, 104, 117, 116] = true then .ok (tNx (xE E0 36) (xE E0 35 4) p1, uS S (72 + (v 2)) 1) else .error (pMis (xE E0 36) (xE E0 35 4) p1, tFr (xE E0 36) (xE E0 35 4) p1))) ∧ (tW (xE E0 36) (xE E0 35 4) p1 [111, 112, 101, 110] = false ∧ (v 3) = if tW (xE E0 36) (xE E0 35 4) p1 [115, 104, 117, 116] = true then 1 else 0) ∧ xAD (xE E0 36) (xE E0 35 4) p1 E ∧ (∀ k, xE E 29 k = xE E0 29 k) := hInv
          show xΨfrk17 x0 E0 E2 0
          obtain ⟨i1, p1, i0, i2, ⟨iw, i3⟩, ⟨i4, i5, i6, i7⟩, j0⟩ := hI
          rw [show (v 2) = v2 2 by omega] at i2
          have hb := tNx_b (T := xE E0 36) (n := xE E0 35 4) (p := p1) i0
          have hw : tW (xE E0 36) (xE E0 35 4) p1 [115, 104, 117, 116] = false := by
            rw [Bool.eq_false_iff]
            intro h
            rw [if_pos h] at i3
            omega
          have hm : pMis (xE E0 36) (xE E0 35 4) p1 = 1 := by unfold pMis; rw [if_pos (by omega)]
          intro S hS
          have e : pStuck (xE E0 36) (xE E0 35 4) (xE E0 35 6) S = Except.error (pMis (xE E0 36) (xE E0 35 4) p1, tFr (xE E0 36) (xE E0 35 4) p1) := by rw [i2 S hS, iw, hw, if_neg (by decide), if_neg (by decide)]
          show xOut17 (pBind (pStuck (xE E0 36) (xE E0 35 4) (xE E0 35 6) S) (pSem (xE E0 36) (xE E0 35 4))) E2 0
          rw [e]
          exact xOut17_e (by omega) (by omega) (by omega)
    · cases hx
    · cases hx
    · have hx : x ∈ [zxfrk17_hr0] := hx
      have hag : ∀ k, k < 4 → v2 k = v k := hag
      have hfr : xFr [] _ _ := hfr
      have ex := List.mem_singleton.mp hx
      subst ex
      obtain ⟨hF, hBd, hM⟩ := hXs
      have g2 : v2 2 = v 2 := hag 2 (by decide)
      have g3 : v2 3 = v 3 := hag 3 (by decide)
      have b0 : ((2147483648 : Nat) : Int) ≤ (v2 3) + 2147483648 ∧ (v2 3) + 2147483648 ≤ ((2147483649 : Nat) : Int) := xXb hBd 0 rfl
      have e35_4 : xE E2 35 4 = xE E 35 4 := xFr_E hfr rfl
      have q35_4 : xE E 35 4 = xE E0 35 4 := xFr_E hFr0 rfl
      have e35_5 : xE E2 35 5 = xE E 35 5 := xFr_E hfr rfl
      have e35_6 : xE E2 35 6 = xE E 35 6 := xFr_E hfr rfl
      have e35_7 : xE E2 35 7 = xE E 35 7 := xFr_E hfr rfl
      have e35_8 : xE E2 35 8 = xE E 35 8 := xFr_E hfr rfl
      have e35_2 : xE E2 35 2 = xE E 35 2 := xFr_E hfr rfl
      have e35_3 : xE E2 35 3 = xE E 35 3 := xFr_E hfr rfl
      have e19_3 : xE E2 19 3 = xE E 19 3 := xFr_E hfr rfl
      have q19_3 : xE E 19 3 = xE E0 19 3 := xFr_E hFr0 rfl
      have e36 : ∀ i, xE E2 36 i = xE E 36 i := fun i => xFr_E hfr rfl
      have q36 : ∀ i, xE E 36 i = xE E0 36 i := fun i => xFr_E hFr0 rfl
      have e29 : ∀ i, xE E2 29 i = xE E 29 i := fun i => xFr_E hfr rfl
      have y19_3 : ((2147483648 : Nat) : Int) ≤ xE E0 19 3 + 2147483648 ∧ xE E0 19 3 + 2147483648 ≤ ((2147483679 : Nat) : Int) := xTyF hT0 19 3 3 rfl rfl rfl rfl rfl rfl
      have hI : ∃ g how p2, (0 ≤ g ∧ g < xE E0 19 3) ∧ (∀ S, xAb17 E0 S → pStuck (xE E0 36) (xE E0 35 4) (xE E0 35 6) S = .ok (p2, uS S (72 + g) how)) ∧ xE E 29 g = how ∧ (∀ k, 0 ≤ k → ¬ k = g → xE E 29 k = xE E0 29 k) ∧ xTS (xE E0 36) (xE E0 35 4) p2 E (v 3) := hInv
      show xΨfrk17 x0 E0 E2 (v2 3)
      obtain ⟨g, how, p2, i1, i2, i3, i4, i5⟩ := hI
      have hE2 := xFr_n hfr
      subst hE2
      rw [show (v 3) = v2 3 by omega] at i5
      intro S hS
      show xOut17 (pBind (pStuck (xE E0 36) (xE E0 35 4) (xE E0 35 6) S) (pSem (xE E0 36) (xE E0 35 4))) E2 (v2 3)
      rw [i2 S hS]
      have hN := hS.2.1.2.2.2
      by_cases hz : v2 3 = 0
      · show xOut17 (pSem (xE E0 36) (xE E0 35 4) p2 _) E2 (v2 3)
        rw [xts_0 i5 hz]
        exact xOut17_f hz rfl rfl
      · obtain ⟨c1, c2, c3⟩ := xts_1 i5 hz (uS S (72 + g) how)
        show xOut17 (pSem (xE E0 36) (xE E0 35 4) p2 (uS S (72 + g) how)) E2 (v2 3)
        rw [c3]
        exact xOut17_k c1 rfl (xAb17_sk ⟨by omega, by omega⟩ i3 i4 hS hFr0)
noncomputable def zxfrf17_ax0 : zyXp := (1, [283, 147], [147], [], [], [])
noncomputable def zpfrf17_a : zyPh := (0, [283, 147], [(0, 4294967295), (0, 4294967295)], [], [])
noncomputable def zxfrf17_bx0 : zyXp := (27, [283, 147], [137438953465, 0, 283], [(20, 0, 68719476737, 48), (24, 103079215105, 19, 24)], [(68719476737, 2147483648, 2147483653), (103079215105, 2147483648, 2147483679), (137438953465, 2147483647, 2147483678)], [])
noncomputable def zxfrf17_br0 : zyXp := (0, [], [0], [(21, 0, 68719476737, 48), (24, 103079215105, 35, 40)], [(68719476737, 2147483654, 2147483679), (103079215105, 2147483648, 2147484548)], [(573442, 48), (573443, 103079215105)])
noncomputable def zpfrf17_b : zyPh := (4, [283, 147], [(0, 4294967295), (0, 4294967295), (2147483648, 2147483679)], [], [68719476737])
noncomputable def zxfrf17_cx0 : zyXp := (44, [283, 147], [8, 103079215105, 243], [(23, 0, 68719476737, 0), (24, 103079215105, 35, 64)], [(68719476737, 2147483649, 2147483649)], [])
noncomputable def zxfrf17_cr0 : zyXp := (0, [], [0], [(22, 0, 68719476737, 0)], [(68719476737, 2147483648, 2147483648)], [])
noncomputable def zpfrf17_c : zyPh := (30, [283, 147], [(0, 4294967295), (0, 4294967295), (2147483648, 2147483649)], [], [68719476737])
noncomputable def zxfrf17_dx0 : zyXp := (46, [283, 147], [283], [], [], [])
noncomputable def zpfrf17_d : zyPh := (45, [283, 147], [(0, 4294967295), (0, 4294967295)], [], [])
noncomputable def zxfrf17_er0 : zyXp := (0, [], [68719476737], [], [(68719476737, 2147483648, 2147483649)], [])
noncomputable def zpfrf17_e : zyPh := (49, [283, 147], [(0, 4294967295), (0, 4294967295), (2147483648, 2147483649)], [], [68719476737])
noncomputable def zpfrf17 (i : Nat) : zyPh := zif (Nat.beq i 0) (zpfrf17_a) (zif (Nat.beq i 1) (zpfrf17_b) (zif (Nat.beq i 2) (zpfrf17_c) (zif (Nat.beq i 3) (zpfrf17_d) (zpfrf17_e))))
noncomputable def zXfrf17 (i : Nat) : List zyXp := zif (Nat.beq i 0) ([zxfrf17_ax0]) (zif (Nat.beq i 1) ([zxfrf17_bx0]) (zif (Nat.beq i 2) ([zxfrf17_cx0]) (zif (Nat.beq i 3) ([zxfrf17_dx0]) ([]))))
noncomputable def zRfrf17 (i : Nat) : List zyXp := zif (Nat.beq i 0) ([]) (zif (Nat.beq i 1) ([zxfrf17_br0]) (zif (Nat.beq i 2) ([zxfrf17_cr0]) (zif (Nat.beq i 3) ([]) ([zxfrf17_er0]))))
noncomputable def zFfrf17 (i : Nat) : zyR := zif (Nat.beq i 0) ([]) (zif (Nat.beq i 1) ([(35, 2, 3)]) (zif (Nat.beq i 2) ([]) (zif (Nat.beq i 3) ([]) ([]))))
noncomputable def zSfrf17 (i : Nat) : Nat := zif (Nat.beq i 0) (0) (zif (Nat.beq i 1) (0) (zif (Nat.beq i 2) (0) (zif (Nat.beq i 3) (0) (0))))
def xΨfrf17 (_ : Nat → Int) (E E2 : zyEm) (r : Int) : Prop := ∀ S q0, xAb17 E S → tFr (xE E 36) (xE E 35 4) q0 = xE E 35 5 → xOut17 (pBind (pFree (xE E 36) (xE E 35 4) q0 (xE E 35 6) S) (pSem (xE E 36) (xE E 35 4))) E2 r
noncomputable def fpfrf17 : zyR := [(35, 2, 3), (35, 5, 8), (30, 0, 30)]
theorem zyfrf17_run : zyrS zymc zxi65 (65, 0, 0, 2, 0) 5 zpfrf17 (fun _ _ => []) zFfrf17 zSfrf17 zXfrf17 zRfrf17 5 = true := by decide +kernel
theorem zyfrf17_ck : zyAll (fun i => xsubR (zFfrf17 i) fpfrf17 && ((zXfrf17 i).all xckX && (zRfrf17 i).all (fun x => xckX x && xrtB true x))) 5 = true := by decide +kernel
def xIfrf17 (i : Nat) (x0 : Nat → Int) (E0 : zyEm) (v : Nat → Int) (E : zyEm) : Prop := if i = 0 then (E = E0) else if i = 1 then ((∀ S, xAb17 E0 S → (v 2) = pCnt S 104 (gN (S 0) (S 1)).toNat) ∧ (xE E 35 2 = xE E0 35 2 ∧ xE E 35 3 = xE E0 35 3 ∧ xE E 35 5 = xE E0 35 5 ∧ xE E 35 6 = xE E0 35 6) ∧ (∀ k, xE E 30 k = xE E0 30 k)) else if i = 2 then ((∀ S, xAb17 E0 S → pCnt S 104 (gN (S 0) (S 1)).toNat < 6) ∧ xTN (xE E0 36) (xE E0 35 4) (xE E0 35 6) 0 (xE E0 19 3 - 1) E (v 2) ∧ (∀ k, xE E 30 k = xE E0 30 k)) else if i = 3 then (∃ g, (0 ≤ g ∧ g < xE E0 19 3) ∧ xE E 35 6 ≤ (xE E0 35 4) ∧ (∀ S, xAb17 E0 S → ∀ q0, pFree (xE E0 36) (xE E0 35 4) q0 (xE E0 35 6) S = .ok (xE E 35 6, uS S (104 + g) 1)) ∧ xE E 30 g = 1 ∧ (∀ k, 0 ≤ k → ¬ k = g → xE E 30 k = xE E0 30 k)) else (∃ g p2, (0 ≤ g ∧ g < xE E0 19 3) ∧ (∀ S, xAb17 E0 S → ∀ q0, pFree (xE E0 36) (xE E0 35 4) q0 (xE E0 35 6) S = .ok (p2, uS S (104 + g) 1)) ∧ xE E 30 g = 1 ∧ (∀ k, 0 ≤ k → ¬ k = g → xE E 30 k = xE E0 30 k) ∧ xTS (xE E0 36) (xE E0 35 4) p2 E (v 2))
def xMfrf17 (i : Nat) (x0 : Nat → Int) (E0 : zyEm) (v : Nat → Int) (E : zyEm) : Nat := if i = 0 then (20) else if i = 1 then (19) else if i = 2 then (18) else if i = 3 then (17) else (16)
theorem xRf17 {l : Launch} {en : zEn} {me : zMe} (hen : zG zxMeta 65 = some en) (hme : zG zMeth 65 = some me) : xFc l zymc en me 5 [35, 18] 0 fpfrf17 true xΦrd17 xΨfrf17 := by
  have een : zG zxMeta 65 = some (zxi65, 2, 2, 5, 65, 0, 0, 2, 0) := rfl
  obtain ⟨me1, hme1, hOK⟩ := zall hen
  rw [hme] at hme1
  cases hme1
  rw [een] at hen
  cases hen
  have hr := zyfrf17_run
  have hck := fun i hi => zyAll_iff zyfrf17_ck i hi
  simp only [Bool.and_eq_true] at hck
  obtain ⟨meftn, hmeftn, -⟩ := zall (show zG zxMeta 69 = some (zxi69, 3, 3, 5, 69, 0, 0, 2, 0) from rfl)
  have hftn := xTn (l := l) (show zG zxMeta 69 = some (zxi69, 3, 3, 5, 69, 0, 0, 2, 0) from rfl) hmeftn
  obtain ⟨mefts, hmefts, -⟩ := zall (show zG zxMeta 68 = some (zxi68, 1, 1, 5, 68, 0, 0, 2, 0) from rfl)
  have hfts := xTs (l := l) (show zG zxMeta 68 = some (zxi68, 1, 1, 5, 68, 0, 0, 2, 0) from rfl) hmefts
  obtain ⟨mefcf17, hmefcf17, -⟩ := zall (show zG zxMeta 35 = some (zxi35, 1, 3, 3, 35, 0, 0, 1, 0) from rfl)
  have hfcf17 := xCf17 (l := l) (show zG zxMeta 35 = some (zxi35, 1, 3, 3, 35, 0, 0, 1, 0) from rfl) hmefcf17
  intro B
  refine xcut (mi := zymc) (B := B) hOK rfl rfl (ι := Fin 5) (fun i => zpfrf17 i.val) (fun _ _ => []) (fun i => zFfrf17 i.val) (fun i => zSfrf17 i.val) (fun i => zXfrf17 i.val) (fun i => zRfrf17 i.val) (fun i y2 ct en2 me2 h => by cases h) 200000 (fun i => zyAll_iff hr i.val i.isLt) (fun i => (hck i.val i.isLt).1) (fun i => (hck i.val i.isLt).2.1) (fun i => (hck i.val i.isLt).2.2) ⟨0, by decide⟩ ⟨rfl, rfl, rfl, rfl⟩ ⟨by decide, by decide⟩ (fun i x0 E0 v E => xIfrf17 i.val x0 E0 v E) (fun i x0 E0 v E => xMfrf17 i.val x0 E0 v E) ?_ ?_ ?_
  · intro x0 E hx0 hT hΦ
    have hΦ : xΦrd17 x0 E := hΦ
    refine ⟨fun k p hp => ?_, ?_⟩
    · have hk : k < 2 := (List.getElem?_eq_some_iff.mp hp).1
      have hk : k = 0 ∨ k = 1 := by omega
      rcases hk with rfl | rfl
      · have hp : some (0, 4294967295) = some p := hp
        cases hp
        show ((0 : Nat) : Int) ≤ 0 + 2147483648 ∧ 0 + 2147483648 ≤ ((4294967295 : Nat) : Int)
        omega
      · have hp : some (0, 4294967295) = some p := hp
        cases hp
        show ((0 : Nat) : Int) ≤ 0 + 2147483648 ∧ 0 + 2147483648 ≤ ((4294967295 : Nat) : Int)
        omega
    · show E = E
      rfl
  · intro x0 s Wg hRu hrx hT0 hΦ i v H hT hrv hInv hKc hFr0 hIH x hx ρ2 v2 N2 H2 locs lsB stA hAt hB hv hr2 hXs hag hfr hFr hT2
    rcases i with ⟨i, hi⟩
    have hi2 : i = 0 ∨ i = 1 ∨ i = 2 ∨ i = 3 ∨ i = 4 := by omega
    rcases hi2 with rfl | rfl | rfl | rfl | rfl
    · have hx : x ∈ [zxfrf17_ax0] := hx
      have hag : ∀ k, k < 2 → v2 k = v k := hag
      have hfr : xFr [] _ _ := hfr
      have ex := List.mem_singleton.mp hx
      subst ex
      obtain ⟨hF, hBd, hM⟩ := hXs
      have e35_4 : xE (zyEl zymc B H2) 35 4 = xE (zyEl zymc B H) 35 4 := xFr_E hfr rfl
      have q35_4 : xE (zyEl zymc B H) 35 4 = xE (zyEl zymc B s.heap) 35 4 := xFr_E hFr0 rfl
      have e35_5 : xE (zyEl zymc B H2) 35 5 = xE (zyEl zymc B H) 35 5 := xFr_E hfr rfl
      have e35_6 : xE (zyEl zymc B H2) 35 6 = xE (zyEl zymc B H) 35 6 := xFr_E hfr rfl
      have e35_7 : xE (zyEl zymc B H2) 35 7 = xE (zyEl zymc B H) 35 7 := xFr_E hfr rfl
      have e35_8 : xE (zyEl zymc B H2) 35 8 = xE (zyEl zymc B H) 35 8 := xFr_E hfr rfl
      have e35_2 : xE (zyEl zymc B H2) 35 2 = xE (zyEl zymc B H) 35 2 := xFr_E hfr rfl
      have e35_3 : xE (zyEl zymc B H2) 35 3 = xE (zyEl zymc B H) 35 3 := xFr_E hfr rfl
      have e19_3 : xE (zyEl zymc B H2) 19 3 = xE (zyEl zymc B H) 19 3 := xFr_E hfr rfl
      have q19_3 : xE (zyEl zymc B H) 19 3 = xE (zyEl zymc B s.heap) 19 3 := xFr_E hFr0 rfl
      have e36 : ∀ i, xE (zyEl zymc B H2) 36 i = xE (zyEl zymc B H) 36 i := fun i => xFr_E hfr rfl
      have q36 : ∀ i, xE (zyEl zymc B H) 36 i = xE (zyEl zymc B s.heap) 36 i := fun i => xFr_E hFr0 rfl
      have e30 : ∀ i, xE (zyEl zymc B H2) 30 i = xE (zyEl zymc B H) 30 i := fun i => xFr_E hfr rfl
      have y19_3 : ((2147483648 : Nat) : Int) ≤ xE (zyEl zymc B s.heap) 19 3 + 2147483648 ∧ xE (zyEl zymc B s.heap) 19 3 + 2147483648 ≤ ((2147483679 : Nat) : Int) := xTyF hT0 19 3 3 rfl rfl rfl rfl rfl rfl
      have hI : (zyEl zymc B H) = (zyEl zymc B s.heap) := hInv
      have q35_5 : xE (zyEl zymc B H) 35 5 = xE (zyEl zymc B s.heap) 35 5 := by rw [hI]
      have q35_6 : xE (zyEl zymc B H) 35 6 = xE (zyEl zymc B s.heap) 35 6 := by rw [hI]
      have q35_7 : xE (zyEl zymc B H) 35 7 = xE (zyEl zymc B s.heap) 35 7 := by rw [hI]
      have q35_8 : xE (zyEl zymc B H) 35 8 = xE (zyEl zymc B s.heap) 35 8 := by rw [hI]
      have q35_2 : xE (zyEl zymc B H) 35 2 = xE (zyEl zymc B s.heap) 35 2 := by rw [hI]
      have q35_3 : xE (zyEl zymc B H) 35 3 = xE (zyEl zymc B s.heap) 35 3 := by rw [hI]
      have q30 : ∀ i, xE (zyEl zymc B H) 30 i = xE (zyEl zymc B s.heap) 30 i := fun i => by rw [hI]
      refine xCa hRu hIH hAt hB hv hFr (hfcf17 B) (ix := 144) (ax := 561) rfl rfl rfl hmefcf17 ⟨_, rfl, rfl, by decide⟩ ⟨rfl, rfl, rfl⟩ (by decide) [] [] [] rfl ⟨rfl, rfl⟩ (by decide +kernel) xcs_n (by decide +kernel) ?_ (fun H3 r hT3 hf3 hFr3 hr3 hΨ3 => ?_)
      · show xΦcf17 (xfv []) (zyEl zymc B H2)
        exact trivial
      · have hΨ3 : xΨcf17 (xfv []) (zyEl zymc B H2) (zyEl zymc B H3) r := hΨ3
        have d35_4 : xE (zyEl zymc B H3) 35 4 = xE (zyEl zymc B H2) 35 4 := xFr_E hf3 rfl
        have d35_5 : xE (zyEl zymc B H3) 35 5 = xE (zyEl zymc B H2) 35 5 := xFr_E hf3 rfl
        have d35_6 : xE (zyEl zymc B H3) 35 6 = xE (zyEl zymc B H2) 35 6 := xFr_E hf3 rfl
        have d35_7 : xE (zyEl zymc B H3) 35 7 = xE (zyEl zymc B H2) 35 7 := xFr_E hf3 rfl
        have d35_8 : xE (zyEl zymc B H3) 35 8 = xE (zyEl zymc B H2) 35 8 := xFr_E hf3 rfl
        have d35_2 : xE (zyEl zymc B H3) 35 2 = xE (zyEl zymc B H2) 35 2 := xFr_E hf3 rfl
        have d35_3 : xE (zyEl zymc B H3) 35 3 = xE (zyEl zymc B H2) 35 3 := xFr_E hf3 rfl
        have d19_3 : xE (zyEl zymc B H3) 19 3 = xE (zyEl zymc B H2) 19 3 := xFr_E hf3 rfl
        have d36 : ∀ i, xE (zyEl zymc B H3) 36 i = xE (zyEl zymc B H2) 36 i := fun i => xFr_E hf3 rfl
        have d30 : ∀ i, xE (zyEl zymc B H3) 30 i = xE (zyEl zymc B H2) 30 i := fun i => xFr_E hf3 rfl
        obtain ⟨w1, w2⟩ := hΨ3
        have hEE3 := xFr_n hf3
        have hE20 : (zyEl zymc B H2) = (zyEl zymc B s.heap) := (xFr_n hfr).trans hI
        rw [hE20] at w2
        refine ⟨⟨1, by decide⟩, [0, 0], [0, 0, r], rfl, ⟨by decide +kernel, ⟨rfl, by decide +kernel⟩, (xcs_c rfl (xcs_c rfl xcs_n)), (xe_0 (xe_0 (xe_c (by omega) (by omega) rfl xe_n))), xkq_n⟩, (by rw [if_pos rfl]; exact ⟨2, [], rfl, by decide, rfl, xst_n⟩), ?_, ?_⟩
        · show (∀ S, xAb17 (zyEl zymc B s.heap) S → (r : Int) = pCnt S 104 (gN (S 0) (S 1)).toNat) ∧ (xE (zyEl zymc B H3) 35 2 = xE (zyEl zymc B s.heap) 35 2 ∧ xE (zyEl zymc B H3) 35 3 = xE (zyEl zymc B s.heap) 35 3 ∧ xE (zyEl zymc B H3) 35 5 = xE (zyEl zymc B s.heap) 35 5 ∧ xE (zyEl zymc B H3) 35 6 = xE (zyEl zymc B s.heap) 35 6) ∧ (∀ k, xE (zyEl zymc B H3) 30 k = xE (zyEl zymc B s.heap) 30 k)
          rw [hEE3]
          exact ⟨w2, by omega, fun k => by rw [hE20]⟩
        · show 19 < 20
          omega
    · have hx : x ∈ [zxfrf17_bx0] := hx
      have hag : ∀ k, k < 3 → v2 k = v k := hag
      have hfr : xFr [(35, 2, 3)] _ _ := hfr
      have ex := List.mem_singleton.mp hx
      subst ex
      obtain ⟨hF, hBd, hM⟩ := hXs
      have g2 : v2 2 = v 2 := hag 2 (by decide)
      have b0 : ((2147483648 : Nat) : Int) ≤ (v2 2) + 2147483648 ∧ (v2 2) + 2147483648 ≤ ((2147483653 : Nat) : Int) := xXb hBd 0 rfl
      have b1 : ((2147483648 : Nat) : Int) ≤ (v2 3) + 2147483648 ∧ (v2 3) + 2147483648 ≤ ((2147483679 : Nat) : Int) := xXb hBd 1 rfl
      have b2 : ((2147483647 : Nat) : Int) ≤ (v2 3 + (-1)) + 2147483648 ∧ (v2 3 + (-1)) + 2147483648 ≤ ((2147483678 : Nat) : Int) := xXb hBd 2 rfl
      have f0 : (v2 2) < 6 := xXf hF 0 rfl
      have f1 : (0 : Int) ≤ 3 ∧ xE (zyEl zymc B H) 19 3 = (v2 3) := xXf hF 1 rfl
      have e35_4 : xE (zyEl zymc B H2) 35 4 = xE (zyEl zymc B H) 35 4 := xFr_E hfr rfl
      have q35_4 : xE (zyEl zymc B H) 35 4 = xE (zyEl zymc B s.heap) 35 4 := xFr_E hFr0 rfl
      have e35_5 : xE (zyEl zymc B H2) 35 5 = xE (zyEl zymc B H) 35 5 := xFr_E hfr rfl
      have e35_6 : xE (zyEl zymc B H2) 35 6 = xE (zyEl zymc B H) 35 6 := xFr_E hfr rfl
      have e35_7 : xE (zyEl zymc B H2) 35 7 = xE (zyEl zymc B H) 35 7 := xFr_E hfr rfl
      have e35_8 : xE (zyEl zymc B H2) 35 8 = xE (zyEl zymc B H) 35 8 := xFr_E hfr rfl
      have e19_3 : xE (zyEl zymc B H2) 19 3 = xE (zyEl zymc B H) 19 3 := xFr_E hfr rfl
      have q19_3 : xE (zyEl zymc B H) 19 3 = xE (zyEl zymc B s.heap) 19 3 := xFr_E hFr0 rfl
      have e36 : ∀ i, xE (zyEl zymc B H2) 36 i = xE (zyEl zymc B H) 36 i := fun i => xFr_E hfr rfl
      have q36 : ∀ i, xE (zyEl zymc B H) 36 i = xE (zyEl zymc B s.heap) 36 i := fun i => xFr_E hFr0 rfl
      have e30 : ∀ i, xE (zyEl zymc B H2) 30 i = xE (zyEl zymc B H) 30 i := fun i => xFr_E hfr rfl
      have y19_3 : ((2147483648 : Nat) : Int) ≤ xE (zyEl zymc B s.heap) 19 3 + 2147483648 ∧ xE (zyEl zymc B s.heap) 19 3 + 2147483648 ≤ ((2147483679 : Nat) : Int) := xTyF hT0 19 3 3 rfl rfl rfl rfl rfl rfl
      have hI : (∀ S, xAb17 (zyEl zymc B s.heap) S → (v 2) = pCnt S 104 (gN (S 0) (S 1)).toNat) ∧ (xE (zyEl zymc B H) 35 2 = xE (zyEl zymc B s.heap) 35 2 ∧ xE (zyEl zymc B H) 35 3 = xE (zyEl zymc B s.heap) 35 3 ∧ xE (zyEl zymc B H) 35 5 = xE (zyEl zymc B s.heap) 35 5 ∧ xE (zyEl zymc B H) 35 6 = xE (zyEl zymc B s.heap) 35 6) ∧ (∀ k, xE (zyEl zymc B H) 30 k = xE (zyEl zymc B s.heap) 30 k) := hInv
      have tt : xE (zyEl zymc B H2) 36 = xE (zyEl zymc B s.heap) 36 := funext fun i => (e36 i).trans (q36 i)
      have tn : xE (zyEl zymc B H2) 35 4 = xE (zyEl zymc B s.heap) 35 4 := by omega
      obtain ⟨i1, i2, j0⟩ := hI
      refine xCa hRu hIH hAt hB hv hFr (hftn B) (ix := 60) (ax := 1104) rfl rfl rfl hmeftn ⟨_, rfl, rfl, by decide⟩ ⟨rfl, rfl, rfl⟩ (by decide) [0, 137438953465] [] [0, (v2 3 + (-1))] rfl ⟨rfl, rfl⟩ (by decide +kernel) (xcs_c rfl (xcs_c rfl xcs_n)) (by decide +kernel) ?_ (fun H3 r hT3 hf3 hFr3 hr3 hΨ3 => ?_)
      · show xΦad (xfv [0, (v2 3 + (-1))]) (zyEl zymc B H2)
        have hP := hΦ.1
        unfold xΦad
        omega
      · have hΨ3 : xΨtn (xfv [0, (v2 3 + (-1))]) (zyEl zymc B H2) (zyEl zymc B H3) r := hΨ3
        have d35_4 : xE (zyEl zymc B H3) 35 4 = xE (zyEl zymc B H2) 35 4 := xFr_E hf3 rfl
        have d19_3 : xE (zyEl zymc B H3) 19 3 = xE (zyEl zymc B H2) 19 3 := xFr_E hf3 rfl
        have d36 : ∀ i, xE (zyEl zymc B H3) 36 i = xE (zyEl zymc B H2) 36 i := fun i => xFr_E hf3 rfl
        have d30 : ∀ i, xE (zyEl zymc B H3) 30 i = xE (zyEl zymc B H2) 30 i := fun i => xFr_E hf3 rfl
        unfold xΨtn at hΨ3
        rw [tt, tn, show xE (zyEl zymc B H2) 35 6 = xE (zyEl zymc B s.heap) 35 6 by omega, show xfv [0, (v2 3 + (-1))] 1 = xE (zyEl zymc B s.heap) 19 3 - 1 by show (v2 3 + (-1)) = _; omega] at hΨ3
        have hr01 := xtn_r hΨ3
        refine ⟨⟨2, by decide⟩, [0, 0], [0, 0, r], rfl, ⟨by decide +kernel, ⟨rfl, by decide +kernel⟩, (xcs_c rfl (xcs_c rfl xcs_n)), (xe_0 (xe_0 (xe_c (by omega) (by omega) rfl xe_n))), xkq_n⟩, (by rw [if_pos rfl]; exact ⟨2, [], rfl, by decide, rfl, xst_n⟩), ?_, ?_⟩
        · show (∀ S, xAb17 (zyEl zymc B s.heap) S → pCnt S 104 (gN (S 0) (S 1)).toNat < 6) ∧ xTN (xE (zyEl zymc B s.heap) 36) (xE (zyEl zymc B s.heap) 35 4) (xE (zyEl zymc B s.heap) 35 6) 0 (xE (zyEl zymc B s.heap) 19 3 - 1) (zyEl zymc B H3) (r : Int) ∧ (∀ k, xE (zyEl zymc B H3) 30 k = xE (zyEl zymc B s.heap) 30 k)
          exact ⟨fun S hS => by have := i1 S hS; omega, hΨ3, fun k => by rw [d30 k, e30 k, j0 k]⟩
        · show 18 < 19
          omega
    · have hx : x ∈ [zxfrf17_cx0] := hx
      have hag : ∀ k, k < 3 → v2 k = v k := hag
      have hfr : xFr [] _ _ := hfr
      have ex := List.mem_singleton.mp hx
      subst ex
      obtain ⟨hF, hBd, hM⟩ := hXs
      have r3 := hr2 3
      have g2 : v2 2 = v 2 := hag 2 (by decide)
      have b0 : ((2147483649 : Nat) : Int) ≤ (v2 2) + 2147483648 ∧ (v2 2) + 2147483648 ≤ ((2147483649 : Nat) : Int) := xXb hBd 0 rfl
      have f0 : ¬ (v2 2) = 0 := xXf hF 0 rfl
      have f1 : (0 : Int) ≤ 8 ∧ xE (zyEl zymc B H) 35 8 = (v2 3) := xXf hF 1 rfl
      have e35_4 : xE (zyEl zymc B H2) 35 4 = xE (zyEl zymc B H) 35 4 := xFr_E hfr rfl
      have q35_4 : xE (zyEl zymc B H) 35 4 = xE (zyEl zymc B s.heap) 35 4 := xFr_E hFr0 rfl
      have e35_5 : xE (zyEl zymc B H2) 35 5 = xE (zyEl zymc B H) 35 5 := xFr_E hfr rfl
      have e35_6 : xE (zyEl zymc B H2) 35 6 = xE (zyEl zymc B H) 35 6 := xFr_E hfr rfl
      have e35_7 : xE (zyEl zymc B H2) 35 7 = xE (zyEl zymc B H) 35 7 := xFr_E hfr rfl
      have e35_8 : xE (zyEl zymc B H2) 35 8 = xE (zyEl zymc B H) 35 8 := xFr_E hfr rfl
      have e35_2 : xE (zyEl zymc B H2) 35 2 = xE (zyEl zymc B H) 35 2 := xFr_E hfr rfl
      have e35_3 : xE (zyEl zymc B H2) 35 3 = xE (zyEl zymc B H) 35 3 := xFr_E hfr rfl
      have e19_3 : xE (zyEl zymc B H2) 19 3 = xE (zyEl zymc B H) 19 3 := xFr_E hfr rfl
      have q19_3 : xE (zyEl zymc B H) 19 3 = xE (zyEl zymc B s.heap) 19 3 := xFr_E hFr0 rfl
      have e36 : ∀ i, xE (zyEl zymc B H2) 36 i = xE (zyEl zymc B H) 36 i := fun i => xFr_E hfr rfl
      have q36 : ∀ i, xE (zyEl zymc B H) 36 i = xE (zyEl zymc B s.heap) 36 i := fun i => xFr_E hFr0 rfl
      have e30 : ∀ i, xE (zyEl zymc B H2) 30 i = xE (zyEl zymc B H) 30 i := fun i => xFr_E hfr rfl
      have y19_3 : ((2147483648 : Nat) : Int) ≤ xE (zyEl zymc B s.heap) 19 3 + 2147483648 ∧ xE (zyEl zymc B s.heap) 19 3 + 2147483648 ≤ ((2147483679 : Nat) : Int) := xTyF hT0 19 3 3 rfl rfl rfl rfl rfl rfl
      have hI : (∀ S, xAb17 (zyEl zymc B s.heap) S → pCnt S 104 (gN (S 0) (S 1)).toNat < 6) ∧ xTN (xE (zyEl zymc B s.heap) 36) (xE (zyEl zymc B s.heap) 35 4) (xE (zyEl zymc B s.heap) 35 6) 0 (xE (zyEl zymc B s.heap) 19 3 - 1) (zyEl zymc B H) (v 2) ∧ (∀ k, xE (zyEl zymc B H) 30 k = xE (zyEl zymc B s.heap) 30 k) := hInv
      obtain ⟨i1, i2, j0⟩ := hI
      rw [show (v 2) = v2 2 by omega] at i2
      obtain ⟨c1, c2, c3, c4, c5, c6, c7⟩ := xtn_1 i2 (by omega)
      have hPos := hΦ.1
      have hb := tNx_b (T := xE (zyEl zymc B s.heap) 36) (n := xE (zyEl zymc B s.heap) 35 4) (p := xE (zyEl zymc B s.heap) 35 6) hPos
      refine xSt hRu hIH hAt hB hv hFr 30 (ax := 0) 8 103079215105 1 (v2 3) rfl (Or.inr (Or.inr ⟨rfl, rfl, by omega, by omega⟩)) rfl (by decide +kernel) rfl rfl (by omega) (by show (v2 3) < ((31 : Nat) : Int); omega) (fun r hr q1 q2 => by rw [List.mem_singleton.mp hr]; exact ⟨rfl, by show ((2147483648 : Nat) : Int) ≤ 1 + 2147483648; omega, by show 1 + 2147483648 ≤ ((2147483649 : Nat) : Int); omega⟩) (zyin_iff.mpr ⟨(30, 0, 30), by decide, rfl, Nat.zero_le _, by show Int.toNat (v2 3) ≤ 30; omega⟩) (fun H3 hT3 hst3 hne3 hfn3 hFr3 => ?_)
      have hfe3 : ∀ (a2 : Nat) (k2 : Int), ¬ a2 = 30 → xE (zyEl zymc B H3) a2 k2 = xE (zyEl zymc B H2) a2 k2 := fun a2 k2 hne => by unfold xE; rw [hfn3 a2 k2.toNat (fun z => hne z.1)]
      have d35_4 : xE (zyEl zymc B H3) 35 4 = xE (zyEl zymc B H2) 35 4 := hfe3 35 4 (fun z => absurd z (by decide))
      have d35_5 : xE (zyEl zymc B H3) 35 5 = xE (zyEl zymc B H2) 35 5 := hfe3 35 5 (fun z => absurd z (by decide))
      have d35_6 : xE (zyEl zymc B H3) 35 6 = xE (zyEl zymc B H2) 35 6 := hfe3 35 6 (fun z => absurd z (by decide))
      have d35_7 : xE (zyEl zymc B H3) 35 7 = xE (zyEl zymc B H2) 35 7 := hfe3 35 7 (fun z => absurd z (by decide))
      have d35_8 : xE (zyEl zymc B H3) 35 8 = xE (zyEl zymc B H2) 35 8 := hfe3 35 8 (fun z => absurd z (by decide))
      have d35_2 : xE (zyEl zymc B H3) 35 2 = xE (zyEl zymc B H2) 35 2 := hfe3 35 2 (fun z => absurd z (by decide))
      have d35_3 : xE (zyEl zymc B H3) 35 3 = xE (zyEl zymc B H2) 35 3 := hfe3 35 3 (fun z => absurd z (by decide))
      have d19_3 : xE (zyEl zymc B H3) 19 3 = xE (zyEl zymc B H2) 19 3 := hfe3 19 3 (fun z => absurd z (by decide))
      refine ⟨⟨3, by decide⟩, [0, 0], [0, 0], rfl, ⟨by decide +kernel, ⟨rfl, by decide +kernel⟩, (xcs_c rfl (xcs_c rfl xcs_n)), (xe_0 (xe_0 xe_n)), xkq_n⟩, rfl, ?_, ?_⟩
      · show ∃ g, (0 ≤ g ∧ g < xE (zyEl zymc B s.heap) 19 3) ∧ xE (zyEl zymc B H3) 35 6 ≤ (xE (zyEl zymc B s.heap) 35 4) ∧ (∀ S, xAb17 (zyEl zymc B s.heap) S → ∀ q0, pFree (xE (zyEl zymc B s.heap) 36) (xE (zyEl zymc B s.heap) 35 4) q0 (xE (zyEl zymc B s.heap) 35 6) S = .ok (xE (zyEl zymc B H3) 35 6, uS S (104 + g) 1)) ∧ xE (zyEl zymc B H3) 30 g = 1 ∧ (∀ k, 0 ≤ k → ¬ k = g → xE (zyEl zymc B H3) 30 k = xE (zyEl zymc B s.heap) 30 k)
        refine ⟨(v2 3), by omega, by omega, fun S hS q0 => ?_, hst3, fun k k0 k1 => (hne3 30 k k0 (fun z => k1 z.2)).trans ((e30 k).trans (j0 k))⟩
        have h1 := i1 S hS
        unfold pFree
        rw [if_neg (by omega), ← hS.2.1.2.2.2, c7, show xE (zyEl zymc B H3) 35 6 = xE (zyEl zymc B H) 35 6 by omega, show xE (zyEl zymc B H) 35 8 = (v2 3) by omega]
      · show 17 < 18
        omega
    · have hx : x ∈ [zxfrf17_dx0] := hx
      have hag : ∀ k, k < 2 → v2 k = v k := hag
      have hfr : xFr [] _ _ := hfr
      have ex := List.mem_singleton.mp hx
      subst ex
      obtain ⟨hF, hBd, hM⟩ := hXs
      have e35_4 : xE (zyEl zymc B H2) 35 4 = xE (zyEl zymc B H) 35 4 := xFr_E hfr rfl
      have q35_4 : xE (zyEl zymc B H) 35 4 = xE (zyEl zymc B s.heap) 35 4 := xFr_E hFr0 rfl
      have e35_5 : xE (zyEl zymc B H2) 35 5 = xE (zyEl zymc B H) 35 5 := xFr_E hfr rfl
      have e35_6 : xE (zyEl zymc B H2) 35 6 = xE (zyEl zymc B H) 35 6 := xFr_E hfr rfl
      have e35_7 : xE (zyEl zymc B H2) 35 7 = xE (zyEl zymc B H) 35 7 := xFr_E hfr rfl
      have e35_8 : xE (zyEl zymc B H2) 35 8 = xE (zyEl zymc B H) 35 8 := xFr_E hfr rfl
      have e35_2 : xE (zyEl zymc B H2) 35 2 = xE (zyEl zymc B H) 35 2 := xFr_E hfr rfl
      have e35_3 : xE (zyEl zymc B H2) 35 3 = xE (zyEl zymc B H) 35 3 := xFr_E hfr rfl
      have e19_3 : xE (zyEl zymc B H2) 19 3 = xE (zyEl zymc B H) 19 3 := xFr_E hfr rfl
      have q19_3 : xE (zyEl zymc B H) 19 3 = xE (zyEl zymc B s.heap) 19 3 := xFr_E hFr0 rfl
      have e36 : ∀ i, xE (zyEl zymc B H2) 36 i = xE (zyEl zymc B H) 36 i := fun i => xFr_E hfr rfl
      have q36 : ∀ i, xE (zyEl zymc B H) 36 i = xE (zyEl zymc B s.heap) 36 i := fun i => xFr_E hFr0 rfl
      have e30 : ∀ i, xE (zyEl zymc B H2) 30 i = xE (zyEl zymc B H) 30 i := fun i => xFr_E hfr rfl
      have y19_3 : ((2147483648 : Nat) : Int) ≤ xE (zyEl zymc B s.heap) 19 3 + 2147483648 ∧ xE (zyEl zymc B s.heap) 19 3 + 2147483648 ≤ ((2147483679 : Nat) : Int) := xTyF hT0 19 3 3 rfl rfl rfl rfl rfl rfl
      have hI : ∃ g, (0 ≤ g ∧ g < xE (zyEl zymc B s.heap) 19 3) ∧ xE (zyEl zymc B H) 35 6 ≤ (xE (zyEl zymc B s.heap) 35 4) ∧ (∀ S, xAb17 (zyEl zymc B s.heap) S → ∀ q0, pFree (xE (zyEl zymc B s.heap) 36) (xE (zyEl zymc B s.heap) 35 4) q0 (xE (zyEl zymc B s.heap) 35 6) S = .ok (xE (zyEl zymc B H) 35 6, uS S (104 + g) 1)) ∧ xE (zyEl zymc B H) 30 g = 1 ∧ (∀ k, 0 ≤ k → ¬ k = g → xE (zyEl zymc B H) 30 k = xE (zyEl zymc B s.heap) 30 k) := hInv
      have tt : xE (zyEl zymc B H2) 36 = xE (zyEl zymc B s.heap) 36 := funext fun i => (e36 i).trans (q36 i)
      have tn : xE (zyEl zymc B H2) 35 4 = xE (zyEl zymc B s.heap) 35 4 := by omega
      obtain ⟨g, i1, i0, i2, i3, i4⟩ := hI
      refine xCa hRu hIH hAt hB hv hFr (hfts B) (ix := 73) (ax := 1088) rfl rfl rfl hmefts ⟨_, rfl, rfl, by decide⟩ ⟨rfl, rfl, rfl⟩ (by decide) [] [] [] rfl ⟨rfl, rfl⟩ (by decide +kernel) xcs_n (by decide +kernel) ?_ (fun H3 r hT3 hf3 hFr3 hr3 hΨ3 => ?_)
      · show xΦad (xfv []) (zyEl zymc B H2)
        unfold xΦad
        omega
      · have hΨ3 : xΨts (xfv []) (zyEl zymc B H2) (zyEl zymc B H3) r := hΨ3
        have d35_4 : xE (zyEl zymc B H3) 35 4 = xE (zyEl zymc B H2) 35 4 := xFr_E hf3 rfl
        have d19_3 : xE (zyEl zymc B H3) 19 3 = xE (zyEl zymc B H2) 19 3 := xFr_E hf3 rfl
        have d36 : ∀ i, xE (zyEl zymc B H3) 36 i = xE (zyEl zymc B H2) 36 i := fun i => xFr_E hf3 rfl
        have d30 : ∀ i, xE (zyEl zymc B H3) 30 i = xE (zyEl zymc B H2) 30 i := fun i => xFr_E hf3 rfl
        unfold xΨts at hΨ3
        rw [tt, tn] at hΨ3
        have hr01 := xts_r hΨ3
        refine ⟨⟨4, by decide⟩, [0, 0], [0, 0, r], rfl, ⟨by decide +kernel, ⟨rfl, by decide +kernel⟩, (xcs_c rfl (xcs_c rfl xcs_n)), (xe_0 (xe_0 (xe_c (by omega) (by omega) rfl xe_n))), xkq_n⟩, (by rw [if_pos rfl]; exact ⟨2, [], rfl, by decide, rfl, xst_n⟩), ?_, ?_⟩
        · show ∃ g p2, (0 ≤ g ∧ g < xE (zyEl zymc B s.heap) 19 3) ∧ (∀ S, xAb17 (zyEl zymc B s.heap) S → ∀ q0, pFree (xE (zyEl zymc B s.heap) 36) (xE (zyEl zymc B s.heap) 35 4) q0 (xE (zyEl zymc B s.heap) 35 6) S = .ok (p2, uS S (104 + g) 1)) ∧ xE (zyEl zymc B H3) 30 g = 1 ∧ (∀ k, 0 ≤ k → ¬ k = g → xE (zyEl zymc B H3) 30 k = xE (zyEl zymc B s.heap) 30 k) ∧ xTS (xE (zyEl zymc B s.heap) 36) (xE (zyEl zymc B s.heap) 35 4) p2 (zyEl zymc B H3) (r : Int)
          exact ⟨g, xE (zyEl zymc B H2) 35 6, by omega, fun S hS q0 => by rw [i2 S hS q0, show xE (zyEl zymc B H) 35 6 = xE (zyEl zymc B H2) 35 6 by omega], (d30 _).trans ((e30 _).trans i3), fun k k0 k1 => (d30 k).trans ((e30 k).trans (i4 k k0 k1)), hΨ3⟩
        · show 16 < 17
          omega
    · cases hx
  · intro x0 E0 E E2 hrx hT0 hΦ i v hT hrv hInv hKc hFr0 x hx v2 hr2 hXs hag hfr hFr hT2
    rcases i with ⟨i, hi⟩
    have hi2 : i = 0 ∨ i = 1 ∨ i = 2 ∨ i = 3 ∨ i = 4 := by omega
    rcases hi2 with rfl | rfl | rfl | rfl | rfl
    · cases hx
    · have hx : x ∈ [zxfrf17_br0] := hx
      have hag : ∀ k, k < 3 → v2 k = v k := hag
      have hfr : xFr [(35, 2, 3)] _ _ := hfr
      have ex := List.mem_singleton.mp hx
      subst ex
      obtain ⟨hF, hBd, hM⟩ := hXs
      have g2 : v2 2 = v 2 := hag 2 (by decide)
      have b0 : ((2147483654 : Nat) : Int) ≤ (v2 2) + 2147483648 ∧ (v2 2) + 2147483648 ≤ ((2147483679 : Nat) : Int) := xXb hBd 0 rfl
      have b1 : ((2147483648 : Nat) : Int) ≤ (v2 3) + 2147483648 ∧ (v2 3) + 2147483648 ≤ ((2147484548 : Nat) : Int) := xXb hBd 1 rfl
      have f0 : 6 ≤ (v2 2) := xXf hF 0 rfl
      have f1 : (0 : Int) ≤ 5 ∧ xE E 35 5 = (v2 3) := xXf hF 1 rfl
      have m0 : xE E2 35 2 = 6 := xXm hM 0 rfl
      have m1 : xE E2 35 3 = (v2 3) := xXm hM 1 rfl
      have e35_4 : xE E2 35 4 = xE E 35 4 := xFr_E hfr rfl
      have q35_4 : xE E 35 4 = xE E0 35 4 := xFr_E hFr0 rfl
      have e35_5 : xE E2 35 5 = xE E 35 5 := xFr_E hfr rfl
      have e35_6 : xE E2 35 6 = xE E 35 6 := xFr_E hfr rfl
      have e35_7 : xE E2 35 7 = xE E 35 7 := xFr_E hfr rfl
      have e35_8 : xE E2 35 8 = xE E 35 8 := xFr_E hfr rfl
      have e19_3 : xE E2 19 3 = xE E 19 3 := xFr_E hfr rfl
      have q19_3 : xE E 19 3 = xE E0 19 3 := xFr_E hFr0 rfl
      have e36 : ∀ i, xE E2 36 i = xE E 36 i := fun i => xFr_E hfr rfl
      have q36 : ∀ i, xE E 36 i = xE E0 36 i := fun i => xFr_E hFr0 rfl
      have e30 : ∀ i, xE E2 30 i = xE E 30 i := fun i => xFr_E hfr rfl
      have y19_3 : ((2147483648 : Nat) : Int) ≤ xE E0 19 3 + 2147483648 ∧ xE E0 19 3 + 2147483648 ≤ ((2147483679 : Nat) : Int) := xTyF hT0 19 3 3 rfl rfl rfl rfl rfl rfl
      have hI : (∀ S, xAb17 E0 S → (v 2) = pCnt S 104 (gN (S 0) (S 1)).toNat) ∧ (xE E 35 2 = xE E0 35 2 ∧ xE E 35 3 = xE E0 35 3 ∧ xE E 35 5 = xE E0 35 5 ∧ xE E 35 6 = xE E0 35 6) ∧ (∀ k, xE E 30 k = xE E0 30 k) := hInv
      show xΨfrf17 x0 E0 E2 0
      obtain ⟨i1, i2, j0⟩ := hI
      intro S q0 hS hq
      have h1 := i1 S hS
      show xOut17 (pBind (pFree (xE E0 36) (xE E0 35 4) q0 (xE E0 35 6) S) (pSem (xE E0 36) (xE E0 35 4))) E2 0
      unfold pFree
      rw [if_pos (by omega)]
      exact xOut17_e rfl (by omega) (by omega)
    · have hx : x ∈ [zxfrf17_cr0] := hx
      have hag : ∀ k, k < 3 → v2 k = v k := hag
      have hfr : xFr [] _ _ := hfr
      have ex := List.mem_singleton.mp hx
      subst ex
      obtain ⟨hF, hBd, hM⟩ := hXs
      have g2 : v2 2 = v 2 := hag 2 (by decide)
      have b0 : ((2147483648 : Nat) : Int) ≤ (v2 2) + 2147483648 ∧ (v2 2) + 2147483648 ≤ ((2147483648 : Nat) : Int) := xXb hBd 0 rfl
      have f0 : (v2 2) = 0 := xXf hF 0 rfl
      have e35_4 : xE E2 35 4 = xE E 35 4 := xFr_E hfr rfl
      have q35_4 : xE E 35 4 = xE E0 35 4 := xFr_E hFr0 rfl
      have e35_5 : xE E2 35 5 = xE E 35 5 := xFr_E hfr rfl
      have e35_6 : xE E2 35 6 = xE E 35 6 := xFr_E hfr rfl
      have e35_7 : xE E2 35 7 = xE E 35 7 := xFr_E hfr rfl
      have e35_8 : xE E2 35 8 = xE E 35 8 := xFr_E hfr rfl
      have e35_2 : xE E2 35 2 = xE E 35 2 := xFr_E hfr rfl
      have e35_3 : xE E2 35 3 = xE E 35 3 := xFr_E hfr rfl
      have e19_3 : xE E2 19 3 = xE E 19 3 := xFr_E hfr rfl
      have q19_3 : xE E 19 3 = xE E0 19 3 := xFr_E hFr0 rfl
      have e36 : ∀ i, xE E2 36 i = xE E 36 i := fun i => xFr_E hfr rfl
      have q36 : ∀ i, xE E 36 i = xE E0 36 i := fun i => xFr_E hFr0 rfl
      have e30 : ∀ i, xE E2 30 i = xE E 30 i := fun i => xFr_E hfr rfl
      have y19_3 : ((2147483648 : Nat) : Int) ≤ xE E0 19 3 + 2147483648 ∧ xE E0 19 3 + 2147483648 ≤ ((2147483679 : Nat) : Int) := xTyF hT0 19 3 3 rfl rfl rfl rfl rfl rfl
      have hI : (∀ S, xAb17 E0 S → pCnt S 104 (gN (S 0) (S 1)).toNat < 6) ∧ xTN (xE E0 36) (xE E0 35 4) (xE E0 35 6) 0 (xE E0 19 3 - 1) E (v 2) ∧ (∀ k, xE E 30 k = xE E0 30 k) := hInv
      show xΨfrf17 x0 E0 E2 0
      obtain ⟨i1, i2, j0⟩ := hI
      rw [show (v 2) = v2 2 by omega] at i2
      have hz : (v2 2) = 0 := by omega
      intro S q0 hS hq
      have h1 := i1 S hS
      have e : pFree (xE E0 36) (xE E0 35 4) q0 (xE E0 35 6) S = Except.error (xE E 35 2, xE E 35 3) := by unfold pFree; rw [if_neg (by omega), ← hS.2.1.2.2.2]; exact xtn_0 i2 hz _
      show xOut17 (pBind (pFree (xE E0 36) (xE E0 35 4) q0 (xE E0 35 6) S) (pSem (xE E0 36) (xE E0 35 4))) E2 0
      rw [e]
      exact xOut17_e rfl (by omega) (by omega)
    · cases hx
    · have hx : x ∈ [zxfrf17_er0] := hx
      have hag : ∀ k, k < 3 → v2 k = v k := hag
      have hfr : xFr [] _ _ := hfr
      have ex := List.mem_singleton.mp hx
      subst ex
      obtain ⟨hF, hBd, hM⟩ := hXs
      have g2 : v2 2 = v 2 := hag 2 (by decide)
      have b0 : ((2147483648 : Nat) : Int) ≤ (v2 2) + 2147483648 ∧ (v2 2) + 2147483648 ≤ ((2147483649 : Nat) : Int) := xXb hBd 0 rfl
      have e35_4 : xE E2 35 4 = xE E 35 4 := xFr_E hfr rfl
      have q35_4 : xE E 35 4 = xE E0 35 4 := xFr_E hFr0 rfl
      have e35_5 : xE E2 35 5 = xE E 35 5 := xFr_E hfr rfl
      have e35_6 : xE E2 35 6 = xE E 35 6 := xFr_E hfr rfl
      have e35_7 : xE E2 35 7 = xE E 35 7 := xFr_E hfr rfl
      have e35_8 : xE E2 35 8 = xE E 35 8 := xFr_E hfr rfl
      have e35_2 : xE E2 35 2 = xE E 35 2 := xFr_E hfr rfl
      have e35_3 : xE E2 35 3 = xE E 35 3 := xFr_E hfr rfl
      have e19_3 : xE E2 19 3 = xE E 19 3 := xFr_E hfr rfl
      have q19_3 : xE E 19 3 = xE E0 19 3 := xFr_E hFr0 rfl
      have e36 : ∀ i, xE E2 36 i = xE E 36 i := fun i => xFr_E hfr rfl
      have q36 : ∀ i, xE E 36 i = xE E0 36 i := fun i => xFr_E hFr0 rfl
      have e30 : ∀ i, xE E2 30 i = xE E 30 i := fun i => xFr_E hfr rfl
      have y19_3 : ((2147483648 : Nat) : Int) ≤ xE E0 19 3 + 2147483648 ∧ xE E0 19 3 + 2147483648 ≤ ((2147483679 : Nat) : Int) := xTyF hT0 19 3 3 rfl rfl rfl rfl rfl rfl
      have hI : ∃ g p2, (0 ≤ g ∧ g < xE E0 19 3) ∧ (∀ S, xAb17 E0 S → ∀ q0, pFree (xE E0 36) (xE E0 35 4) q0 (xE E0 35 6) S = .ok (p2, uS S (104 + g) 1)) ∧ xE E 30 g = 1 ∧ (∀ k, 0 ≤ k → ¬ k = g → xE E 30 k = xE E0 30 k) ∧ xTS (xE E0 36) (xE E0 35 4) p2 E (v 2) := hInv
      show xΨfrf17 x0 E0 E2 (v2 2)
      obtain ⟨g, p2, i1, i2, i3, i4, i5⟩ := hI
      have hE2 := xFr_n hfr
      subst hE2
      rw [show (v 2) = v2 2 by omega] at i5
      intro S q0 hS hq
      show xOut17 (pBind (pFree (xE E0 36) (xE E0 35 4) q0 (xE E0 35 6) S) (pSem (xE E0 36) (xE E0 35 4))) E2 (v2 2)
      rw [i2 S hS q0]
      have hN := hS.2.1.2.2.2
      by_cases hz : v2 2 = 0
      · show xOut17 (pSem (xE E0 36) (xE E0 35 4) p2 _) E2 (v2 2)
        rw [xts_0 i5 hz]
        exact xOut17_f hz rfl rfl
      · obtain ⟨c1, c2, c3⟩ := xts_1 i5 hz (uS S (104 + g) 1)
        show xOut17 (pSem (xE E0 36) (xE E0 35 4) p2 (uS S (104 + g) 1)) E2 (v2 2)
        rw [c3]
        exact xOut17_k c1 rfl (xAb17_fr ⟨by omega, by omega⟩ i3 i4 hS hFr0)
noncomputable def zxfrp17_ax0 : zyXp := (8, [283, 147, 13], [137438953465, 0, 283], [(24, 103079215105, 18, 40)], [(103079215105, 2147483648, 2147483656), (137438953465, 2147483647, 2147483655)], [])
noncomputable def zpfrp17_a : zyPh := (0, [283, 147, 13], [(0, 4294967295), (0, 4294967295), (0, 4294967295)], [], [])
noncomputable def zxfrp17_bx0 : zyXp := (32, [283, 147, 137438953473], [206158430201, 0, 283], [(23, 0, 103079215105, 0), (24, 137438953473, 35, 64), (24, 171798691841, 19, 16)], [(103079215105, 2147483649, 2147483649), (171798691841, 2147483648, 2147483728), (206158430201, 2147483647, 2147483727)], [])
noncomputable def zxfrp17_br0 : zyXp := (0, [], [0], [(22, 0, 103079215105, 0)], [(103079215105, 2147483648, 2147483648)], [])
noncomputable def zpfrp17_b : zyPh := (11, [283, 147, 13], [(0, 4294967295), (0, 4294967295), (0, 4294967295), (2147483648, 2147483649)], [], [103079215105])
noncomputable def zxfrp17_cx0 : zyXp := (49, [283, 147, 68719476737], [137438953473, 68719476737, 259], [(23, 0, 103079215105, 0), (24, 137438953473, 35, 64)], [(68719476737, 2147483648, 2147483655), (103079215105, 2147483649, 2147483649)], [])
noncomputable def zxfrp17_cr0 : zyXp := (0, [], [0], [(22, 0, 103079215105, 0)], [(103079215105, 2147483648, 2147483648)], [])
noncomputable def zpfrp17_c : zyPh := (35, [283, 147, 68719476737], [(0, 4294967295), (0, 4294967295), (2147483648, 2147483655), (2147483648, 2147483649)], [], [103079215105])
noncomputable def zxfrp17_dx0 : zyXp := (51, [283, 147, 68719476737], [283], [], [(68719476737, 2147483648, 2147483655)], [])
noncomputable def zpfrp17_d : zyPh := (50, [283, 147, 68719476737], [(0, 4294967295), (0, 4294967295), (2147483648, 2147483655)], [], [])
noncomputable def zxfrp17_er0 : zyXp := (0, [], [103079215105], [], [(103079215105, 2147483648, 2147483649)], [])
noncomputable def zpfrp17_e : zyPh := (54, [283, 147, 68719476737], [(0, 4294967295), (0, 4294967295), (2147483648, 2147483655), (2147483648, 2147483649)], [], [103079215105])
noncomputable def zpfrp17 (i : Nat) : zyPh := zif (Nat.beq i 0) (zpfrp17_a) (zif (Nat.beq i 1) (zpfrp17_b) (zif (Nat.beq i 2) (zpfrp17_c) (zif (Nat.beq i 3) (zpfrp17_d) (zpfrp17_e))))
noncomputable def zXfrp17 (i : Nat) : List zyXp := zif (Nat.beq i 0) ([zxfrp17_ax0]) (zif (Nat.beq i 1) ([zxfrp17_bx0]) (zif (Nat.beq i 2) ([zxfrp17_cx0]) (zif (Nat.beq i 3) ([zxfrp17_dx0]) ([]))))
noncomputable def zRfrp17 (i : Nat) : List zyXp := zif (Nat.beq i 0) ([]) (zif (Nat.beq i 1) ([zxfrp17_br0]) (zif (Nat.beq i 2) ([zxfrp17_cr0]) (zif (Nat.beq i 3) ([]) ([zxfrp17_er0]))))
noncomputable def zFfrp17 (i : Nat) : zyR := zif (Nat.beq i 0) ([]) (zif (Nat.beq i 1) ([]) (zif (Nat.beq i 2) ([]) (zif (Nat.beq i 3) ([]) ([]))))
noncomputable def zSfrp17 (i : Nat) : Nat := zif (Nat.beq i 0) (0) (zif (Nat.beq i 1) (0) (zif (Nat.beq i 2) (0) (zif (Nat.beq i 3) (0) (0))))
def xΨfrp17 (_ : Nat → Int) (E E2 : zyEm) (r : Int) : Prop := ∀ S, xAb17 E S → xOut17 (pBind (pPlace (xE E 36) (xE E 35 4) (xE E 35 6) S) (pSem (xE E 36) (xE E 35 4))) E2 r
noncomputable def fpfrp17 : zyR := [(35, 2, 3), (35, 5, 8), (32, 0, 7)]
theorem zyfrp17_run : zyrS zymc zxi66 (66, 0, 0, 2, 0) 5 zpfrp17 (fun _ _ => []) zFfrp17 zSfrp17 zXfrp17 zRfrp17 5 = true := by decide +kernel
theorem zyfrp17_ck : zyAll (fun i => xsubR (zFfrp17 i) fpfrp17 && ((zXfrp17 i).all xckX && (zRfrp17 i).all (fun x => xckX x && xrtB true x))) 5 = true := by decide +kernel
def xIfrp17 (i : Nat) (x0 : Nat → Int) (E0 : zyEm) (v : Nat → Int) (E : zyEm) : Prop := if i = 0 then (E = E0) else if i = 1 then (xTN (xE E0 36) (xE E0 35 4) (xE E0 35 6) 0 (xE E0 18 5 - 1) E (v 3) ∧ (∀ k, xE E 32 k = xE E0 32 k)) else if i = 2 then ((0 ≤ (v 2) ∧ (v 2) < xE E0 18 5) ∧ ∃ p1, p1 ≤ (xE E0 35 4) ∧ (∀ S, xAb17 E0 S → pPlace (xE E0 36) (xE E0 35 4) (xE E0 35 6) S = pNum (xE E0 36) (xE E0 35 4) p1 0 (xE E0 19 2 - 1) fun sl p2 => .ok (p2, uS S (152 + (v 2)) sl)) ∧ xTN (xE E0 36) (xE E0 35 4) p1 0 (xE E0 19 2 - 1) E (v 3) ∧ (∀ k, xE E 32 k = xE E0 32 k)) else if i = 3 then ((0 ≤ (v 2) ∧ (v 2) < xE E0 18 5) ∧ ∃ sl, xE E 35 6 ≤ (xE E0 35 4) ∧ (∀ S, xAb17 E0 S → pPlace (xE E0 36) (xE E0 35 4) (xE E0 35 6) S = .ok (xE E 35 6, uS S (152 + (v 2)) sl)) ∧ xE E 32 (v 2) = sl ∧ (∀ k, 0 ≤ k → ¬ k = (v 2) → xE E 32 k = xE E0 32 k)) else (∃ g sl p2, (0 ≤ g ∧ g < xE E0 18 5) ∧ (∀ S, xAb17 E0 S → pPlace (xE E0 36) (xE E0 35 4) (xE E0 35 6) S = .ok (p2, uS S (152 + g) sl)) ∧ xE E 32 g = sl ∧ (∀ k, 0 ≤ k → ¬ k = g → xE E 32 k = xE E0 32 k) ∧ xTS (xE E0 36) (xE E0 35 4) p2 E (v 3))
def xMfrp17 (i : Nat) (x0 : Nat → Int) (E0 : zyEm) (v : Nat → Int) (E : zyEm) : Nat := if i = 0 then (20) else if i = 1 then (19) else if i = 2 then (18) else if i = 3 then (17) else (16)
theorem xRp17 {l : Launch} {en : zEn} {me : zMe} (hen : zG zxMeta 66 = some en) (hme : zG zMeth 66 = some me) : xFc l zymc en me 5 [35, 18] 0 fpfrp17 true xΦrd17 xΨfrp17 := by
  have een : zG zxMeta 66 = some (zxi66, 2, 3, 5, 66, 0, 0, 2, 0) := rfl
  obtain ⟨me1, hme1, hOK⟩ := zall hen
  rw [hme] at hme1
  cases hme1
  rw [een] at hen
  cases hen
  have hr := zyfrp17_run
  have hck := fun i hi => zyAll_iff zyfrp17_ck i hi
  simp only [Bool.and_eq_true] at hck
  obtain ⟨meftn, hmeftn, -⟩ := zall (show zG zxMeta 69 = some (zxi69, 3, 3, 5, 69, 0, 0, 2, 0) from rfl)
  have hftn := xTn (l := l) (show zG zxMeta 69 = some (zxi69, 3, 3, 5, 69, 0, 0, 2, 0) from rfl) hmeftn
  obtain ⟨mefts, hmefts, -⟩ := zall (show zG zxMeta 68 = some (zxi68, 1, 1, 5, 68, 0, 0, 2, 0) from rfl)
  have hfts := xTs (l := l) (show zG zxMeta 68 = some (zxi68, 1, 1, 5, 68, 0, 0, 2, 0) from rfl) hmefts
  intro B
  refine xcut (mi := zymc) (B := B) hOK rfl rfl (ι := Fin 5) (fun i => zpfrp17 i.val) (fun _ _ => []) (fun i => zFfrp17 i.val) (fun i => zSfrp17 i.val) (fun i => zXfrp17 i.val) (fun i => zRfrp17 i.val) (fun i y2 ct en2 me2 h => by cases h) 200000 (fun i => zyAll_iff hr i.val i.isLt) (fun i => (hck i.val i.isLt).1) (fun i => (hck i.val i.isLt).2.1) (fun i => (hck i.val i.isLt).2.2) ⟨0, by decide⟩ ⟨rfl, rfl, rfl, rfl⟩ ⟨by decide, by decide⟩ (fun i x0 E0 v E => xIfrp17 i.val x0 E0 v E) (fun i x0 E0 v E => xMfrp17 i.val x0 E0 v E) ?_ ?_ ?_
  · intro x0 E hx0 hT hΦ
    have hΦ : xΦrd17 x0 E := hΦ
    refine ⟨fun k p hp => ?_, ?_⟩
    · have hk : k < 3 := (List.getElem?_eq_some_iff.mp hp).1
      have hk : k = 0 ∨ k = 1 ∨ k = 2 := by omega
      rcases hk with rfl | rfl | rfl
      · have hp : some (0, 4294967295) = some p := hp
        cases hp
        show ((0 : Nat) : Int) ≤ 0 + 2147483648 ∧ 0 + 2147483648 ≤ ((4294967295 : Nat) : Int)
        omega
      · have hp : some (0, 4294967295) = some p := hp
        cases hp
        show ((0 : Nat) : Int) ≤ 0 + 2147483648 ∧ 0 + 2147483648 ≤ ((4294967295 : Nat) : Int)
        omega
      · have hp : some (0, 4294967295) = some p := hp
        cases hp
        show ((0 : Nat) : Int) ≤ x0 0 + 2147483648 ∧ x0 0 + 2147483648 ≤ ((4294967295 : Nat) : Int)
        have hx := hx0 0
        omega
    · show E = E
      rfl
  · intro x0 s Wg hRu hrx hT0 hΦ i v H hT hrv hInv hKc hFr0 hIH x hx ρ2 v2 N2 H2 locs lsB stA hAt hB hv hr2 hXs hag hfr hFr hT2
    rcases i with ⟨i, hi⟩
    have hi2 : i = 0 ∨ i = 1 ∨ i = 2 ∨ i = 3 ∨ i = 4 := by omega
    rcases hi2 with rfl | rfl | rfl | rfl | rfl
    · have hx : x ∈ [zxfrp17_ax0] := hx
      have hag : ∀ k, k < 3 → v2 k = v k := hag
      have hfr : xFr [] _ _ := hfr
      have ex := List.mem_singleton.mp hx
      subst ex
      obtain ⟨hF, hBd, hM⟩ := hXs
      have b0 : ((2147483648 : Nat) : Int) ≤ (v2 3) + 2147483648 ∧ (v2 3) + 2147483648 ≤ ((2147483656 : Nat) : Int) := xXb hBd 0 rfl
      have b1 : ((2147483647 : Nat) : Int) ≤ (v2 3 + (-1)) + 2147483648 ∧ (v2 3 + (-1)) + 2147483648 ≤ ((2147483655 : Nat) : Int) := xXb hBd 1 rfl
      have f0 : (0 : Int) ≤ 5 ∧ xE (zyEl zymc B H) 18 5 = (v2 3) := xXf hF 0 rfl
      have e35_4 : xE (zyEl zymc B H2) 35 4 = xE (zyEl zymc B H) 35 4 := xFr_E hfr rfl
      have q35_4 : xE (zyEl zymc B H) 35 4 = xE (zyEl zymc B s.heap) 35 4 := xFr_E hFr0 rfl
      have e35_5 : xE (zyEl zymc B H2) 35 5 = xE (zyEl zymc B H) 35 5 := xFr_E hfr rfl
      have e35_6 : xE (zyEl zymc B H2) 35 6 = xE (zyEl zymc B H) 35 6 := xFr_E hfr rfl
      have e35_7 : xE (zyEl zymc B H2) 35 7 = xE (zyEl zymc B H) 35 7 := xFr_E hfr rfl
      have e35_8 : xE (zyEl zymc B H2) 35 8 = xE (zyEl zymc B H) 35 8 := xFr_E hfr rfl
      have e35_2 : xE (zyEl zymc B H2) 35 2 = xE (zyEl zymc B H) 35 2 := xFr_E hfr rfl
      have e35_3 : xE (zyEl zymc B H2) 35 3 = xE (zyEl zymc B H) 35 3 := xFr_E hfr rfl
      have e19_2 : xE (zyEl zymc B H2) 19 2 = xE (zyEl zymc B H) 19 2 := xFr_E hfr rfl
      have q19_2 : xE (zyEl zymc B H) 19 2 = xE (zyEl zymc B s.heap) 19 2 := xFr_E hFr0 rfl
      have e18_5 : xE (zyEl zymc B H2) 18 5 = xE (zyEl zymc B H) 18 5 := xFr_E hfr rfl
      have q18_5 : xE (zyEl zymc B H) 18 5 = xE (zyEl zymc B s.heap) 18 5 := xFr_E hFr0 rfl
      have e36 : ∀ i, xE (zyEl zymc B H2) 36 i = xE (zyEl zymc B H) 36 i := fun i => xFr_E hfr rfl
      have q36 : ∀ i, xE (zyEl zymc B H) 36 i = xE (zyEl zymc B s.heap) 36 i := fun i => xFr_E hFr0 rfl
      have e32 : ∀ i, xE (zyEl zymc B H2) 32 i = xE (zyEl zymc B H) 32 i := fun i => xFr_E hfr rfl
      have y19_2 : ((2147483648 : Nat) : Int) ≤ xE (zyEl zymc B s.heap) 19 2 + 2147483648 ∧ xE (zyEl zymc B s.heap) 19 2 + 2147483648 ≤ ((2147483728 : Nat) : Int) := xTyF hT0 19 2 2 rfl rfl rfl rfl rfl rfl
      have y18_5 : ((2147483648 : Nat) : Int) ≤ xE (zyEl zymc B s.heap) 18 5 + 2147483648 ∧ xE (zyEl zymc B s.heap) 18 5 + 2147483648 ≤ ((2147483656 : Nat) : Int) := xTyF hT0 18 5 5 rfl rfl rfl rfl rfl rfl
      have hI : (zyEl zymc B H) = (zyEl zymc B s.heap) := hInv
      have q35_5 : xE (zyEl zymc B H) 35 5 = xE (zyEl zymc B s.heap) 35 5 := by rw [hI]
      have q35_6 : xE (zyEl zymc B H) 35 6 = xE (zyEl zymc B s.heap) 35 6 := by rw [hI]
      have q35_7 : xE (zyEl zymc B H) 35 7 = xE (zyEl zymc B s.heap) 35 7 := by rw [hI]
      have q35_8 : xE (zyEl zymc B H) 35 8 = xE (zyEl zymc B s.heap) 35 8 := by rw [hI]
      have q35_2 : xE (zyEl zymc B H) 35 2 = xE (zyEl zymc B s.heap) 35 2 := by rw [hI]
      have q35_3 : xE (zyEl zymc B H) 35 3 = xE (zyEl zymc B s.heap) 35 3 := by rw [hI]
      have q32 : ∀ i, xE (zyEl zymc B H) 32 i = xE (zyEl zymc B s.heap) 32 i := fun i => by rw [hI]
      have tt : xE (zyEl zymc B H2) 36 = xE (zyEl zymc B s.heap) 36 := funext fun i => (e36 i).trans (q36 i)
      have tn : xE (zyEl zymc B H2) 35 4 = xE (zyEl zymc B s.heap) 35 4 := by omega
      refine xCa hRu hIH hAt hB hv hFr (hftn B) (ix := 60) (ax := 1104) rfl rfl rfl hmeftn ⟨_, rfl, rfl, by decide⟩ ⟨rfl, rfl, rfl⟩ (by decide) [0, 137438953465] [] [0, (v2 3 + (-1))] rfl ⟨rfl, rfl⟩ (by decide +kernel) (xcs_c rfl (xcs_c rfl xcs_n)) (by decide +kernel) ?_ (fun H3 r hT3 hf3 hFr3 hr3 hΨ3 => ?_)
      · show xΦad (xfv [0, (v2 3 + (-1))]) (zyEl zymc B H2)
        have hP := hΦ.1
        unfold xΦad
        omega
      · have hΨ3 : xΨtn (xfv [0, (v2 3 + (-1))]) (zyEl zymc B H2) (zyEl zymc B H3) r := hΨ3
        have d35_4 : xE (zyEl zymc B H3) 35 4 = xE (zyEl zymc B H2) 35 4 := xFr_E hf3 rfl
        have d19_2 : xE (zyEl zymc B H3) 19 2 = xE (zyEl zymc B H2) 19 2 := xFr_E hf3 rfl
        have d18_5 : xE (zyEl zymc B H3) 18 5 = xE (zyEl zymc B H2) 18 5 := xFr_E hf3 rfl
        have d36 : ∀ i, xE (zyEl zymc B H3) 36 i = xE (zyEl zymc B H2) 36 i := fun i => xFr_E hf3 rfl
        have d32 : ∀ i, xE (zyEl zymc B H3) 32 i = xE (zyEl zymc B H2) 32 i := fun i => xFr_E hf3 rfl
        unfold xΨtn at hΨ3
        rw [tt, tn, show xE (zyEl zymc B H2) 35 6 = xE (zyEl zymc B s.heap) 35 6 by omega, show xfv [0, (v2 3 + (-1))] 1 = xE (zyEl zymc B s.heap) 18 5 - 1 by show (v2 3 + (-1)) = _; omega] at hΨ3
        have hr01 := xtn_r hΨ3
        refine ⟨⟨1, by decide⟩, [0, 0, 0], [0, 0, 0, r], rfl, ⟨by decide +kernel, ⟨rfl, by decide +kernel⟩, (xcs_c rfl (xcs_c rfl (xcs_c rfl xcs_n))), (xe_0 (xe_0 (xe_0 (xe_c (by omega) (by omega) rfl xe_n)))), xkq_n⟩, (by rw [if_pos rfl]; exact ⟨3, [], rfl, by decide, rfl, xst_n⟩), ?_, ?_⟩
        · show xTN (xE (zyEl zymc B s.heap) 36) (xE (zyEl zymc B s.heap) 35 4) (xE (zyEl zymc B s.heap) 35 6) 0 (xE (zyEl zymc B s.heap) 18 5 - 1) (zyEl zymc B H3) (r : Int) ∧ (∀ k, xE (zyEl zymc B H3) 32 k = xE (zyEl zymc B s.heap) 32 k)
          exact ⟨hΨ3, fun k => by rw [d32 k, e32 k, q32 k]⟩
        · show 19 < 20
          omega
    · have hx : x ∈ [zxfrp17_bx0] := hx
      have hag : ∀ k, k < 4 → v2 k = v k := hag
      have hfr : xFr [] _ _ := hfr
      have ex := List.mem_singleton.mp hx
      subst ex
      obtain ⟨hF, hBd, hM⟩ := hXs
      have r4 := hr2 4
      have g3 : v2 3 = v 3 := hag 3 (by decide)
      have b0 : ((2147483649 : Nat) : Int) ≤ (v2 3) + 2147483648 ∧ (v2 3) + 2147483648 ≤ ((2147483649 : Nat) : Int) := xXb hBd 0 rfl
      have b1 : ((2147483648 : Nat) : Int) ≤ (v2 5) + 2147483648 ∧ (v2 5) + 2147483648 ≤ ((2147483728 : Nat) : Int) := xXb hBd 1 rfl
      have b2 : ((2147483647 : Nat) : Int) ≤ (v2 5 + (-1)) + 2147483648 ∧ (v2 5 + (-1)) + 2147483648 ≤ ((2147483727 : Nat) : Int) := xXb hBd 2 rfl
      have f0 : ¬ (v2 3) = 0 := xXf hF 0 rfl
      have f1 : (0 : Int) ≤ 8 ∧ xE (zyEl zymc B H) 35 8 = (v2 4) := xXf hF 1 rfl
      have f2 : (0 : Int) ≤ 2 ∧ xE (zyEl zymc B H) 19 2 = (v2 5) := xXf hF 2 rfl
      have e35_4 : xE (zyEl zymc B H2) 35 4 = xE (zyEl zymc B H) 35 4 := xFr_E hfr rfl
      have q35_4 : xE (zyEl zymc B H) 35 4 = xE (zyEl zymc B s.heap) 35 4 := xFr_E hFr0 rfl
      have e35_5 : xE (zyEl zymc B H2) 35 5 = xE (zyEl zymc B H) 35 5 := xFr_E hfr rfl
      have e35_6 : xE (zyEl zymc B H2) 35 6 = xE (zyEl zymc B H) 35 6 := xFr_E hfr rfl
      have e35_7 : xE (zyEl zymc B H2) 35 7 = xE (zyEl zymc B H) 35 7 := xFr_E hfr rfl
      have e35_8 : xE (zyEl zymc B H2) 35 8 = xE (zyEl zymc B H) 35 8 := xFr_E hfr rfl
      have e35_2 : xE (zyEl zymc B H2) 35 2 = xE (zyEl zymc B H) 35 2 := xFr_E hfr rfl
      have e35_3 : xE (zyEl zymc B H2) 35 3 = xE (zyEl zymc B H) 35 3 := xFr_E hfr rfl
      have e19_2 : xE (zyEl zymc B H2) 19 2 = xE (zyEl zymc B H) 19 2 := xFr_E hfr rfl
      have q19_2 : xE (zyEl zymc B H) 19 2 = xE (zyEl zymc B s.heap) 19 2 := xFr_E hFr0 rfl
      have e18_5 : xE (zyEl zymc B H2) 18 5 = xE (zyEl zymc B H) 18 5 := xFr_E hfr rfl
      have q18_5 : xE (zyEl zymc B H) 18 5 = xE (zyEl zymc B s.heap) 18 5 := xFr_E hFr0 rfl
      have e36 : ∀ i, xE (zyEl zymc B H2) 36 i = xE (zyEl zymc B H) 36 i := fun i => xFr_E hfr rfl
      have q36 : ∀ i, xE (zyEl zymc B H) 36 i = xE (zyEl zymc B s.heap) 36 i := fun i => xFr_E hFr0 rfl
      have e32 : ∀ i, xE (zyEl zymc B H2) 32 i = xE (zyEl zymc B H) 32 i := fun i => xFr_E hfr rfl
      have y19_2 : ((2147483648 : Nat) : Int) ≤ xE (zyEl zymc B s.heap) 19 2 + 2147483648 ∧ xE (zyEl zymc B s.heap) 19 2 + 2147483648 ≤ ((2147483728 : Nat) : Int) := xTyF hT0 19 2 2 rfl rfl rfl rfl rfl rfl
      have y18_5 : ((2147483648 : Nat) : Int) ≤ xE (zyEl zymc B s.heap) 18 5 + 2147483648 ∧ xE (zyEl zymc B s.heap) 18 5 + 2147483648 ≤ ((2147483656 : Nat) : Int) := xTyF hT0 18 5 5 rfl rfl rfl rfl rfl rfl
      have hI : xTN (xE (zyEl zymc B s.heap) 36) (xE (zyEl zymc B s.heap) 35 4) (xE (zyEl zymc B s.heap) 35 6) 0 (xE (zyEl zymc B s.heap) 18 5 - 1) (zyEl zymc B H) (v 3) ∧ (∀ k, xE (zyEl zymc B H) 32 k = xE (zyEl zymc B s.heap) 32 k) := hInv
      obtain ⟨i1, j0⟩ := hI
      have tt : xE (zyEl zymc B H2) 36 = xE (zyEl zymc B s.heap) 36 := funext fun i => (e36 i).trans (q36 i)
      have tn : xE (zyEl zymc B H2) 35 4 = xE (zyEl zymc B s.heap) 35 4 := by omega
      obtain ⟨c1, c2, c3, c4, c5, c6, c7⟩ := xtn_1 i1 (by omega)
      have hPos := hΦ.1
      have hb := tNx_b (T := xE (zyEl zymc B s.heap) 36) (n := xE (zyEl zymc B s.heap) 35 4) (p := xE (zyEl zymc B s.heap) 35 6) hPos
      refine xCa hRu hIH hAt hB hv hFr (hftn B) (ix := 60) (ax := 1104) rfl rfl rfl hmeftn ⟨_, rfl, rfl, by decide⟩ ⟨rfl, rfl, rfl⟩ (by decide) [0, 206158430201] [] [0, (v2 5 + (-1))] rfl ⟨rfl, rfl⟩ (by decide +kernel) (xcs_c rfl (xcs_c rfl xcs_n)) (by decide +kernel) ?_ (fun H3 r hT3 hf3 hFr3 hr3 hΨ3 => ?_)
      · show xΦad (xfv [0, (v2 5 + (-1))]) (zyEl zymc B H2)
        unfold xΦad
        omega
      · have hΨ3 : xΨtn (xfv [0, (v2 5 + (-1))]) (zyEl zymc B H2) (zyEl zymc B H3) r := hΨ3
        have d35_4 : xE (zyEl zymc B H3) 35 4 = xE (zyEl zymc B H2) 35 4 := xFr_E hf3 rfl
        have d19_2 : xE (zyEl zymc B H3) 19 2 = xE (zyEl zymc B H2) 19 2 := xFr_E hf3 rfl
        have d18_5 : xE (zyEl zymc B H3) 18 5 = xE (zyEl zymc B H2) 18 5 := xFr_E hf3 rfl
        have d36 : ∀ i, xE (zyEl zymc B H3) 36 i = xE (zyEl zymc B H2) 36 i := fun i => xFr_E hf3 rfl
        have d32 : ∀ i, xE (zyEl zymc B H3) 32 i = xE (zyEl zymc B H2) 32 i := fun i => xFr_E hf3 rfl
        unfold xΨtn at hΨ3
        rw [tt, tn, show xfv [0, (v2 5 + (-1))] 1 = xE (zyEl zymc B s.heap) 19 2 - 1 by show (v2 5 + (-1)) = _; omega] at hΨ3
        have hr01 := xtn_r hΨ3
        refine ⟨⟨2, by decide⟩, [0, 0, 137438953473], [0, 0, (v2 4), r], rfl, ⟨by decide +kernel, ⟨rfl, by decide +kernel⟩, (xcs_c rfl (xcs_c rfl (xcs_c rfl xcs_n))), (xe_0 (xe_0 (xe_c (by omega) (by omega) rfl (xe_c (by omega) (by omega) rfl xe_n)))), xkq_n⟩, (by rw [if_pos rfl]; exact ⟨3, [], rfl, by decide, rfl, xst_n⟩), ?_, ?_⟩
        · show (0 ≤ ((v2 4) : Int) ∧ ((v2 4) : Int) < xE (zyEl zymc B s.heap) 18 5) ∧ ∃ p1, p1 ≤ (xE (zyEl zymc B s.heap) 35 4) ∧ (∀ S, xAb17 (zyEl zymc B s.heap) S → pPlace (xE (zyEl zymc B s.heap) 36) (xE (zyEl zymc B s.heap) 35 4) (xE (zyEl zymc B s.heap) 35 6) S = pNum (xE (zyEl zymc B s.heap) 36) (xE (zyEl zymc B s.heap) 35 4) p1 0 (xE (zyEl zymc B s.heap) 19 2 - 1) fun sl p2 => .ok (p2, uS S (152 + ((v2 4) : Int)) sl)) ∧ xTN (xE (zyEl zymc B s.heap) 36) (xE (zyEl zymc B s.heap) 35 4) p1 0 (xE (zyEl zymc B s.heap) 19 2 - 1) (zyEl zymc B H3) (r : Int) ∧ (∀ k, xE (zyEl zymc B H3) 32 k = xE (zyEl zymc B s.heap) 32 k)
          refine ⟨by omega, xE (zyEl zymc B H2) 35 6, by omega, fun S hS => ?_, hΨ3, fun k => by rw [d32 k, e32 k, j0 k]⟩
          unfold pPlace
          rw [← hS.2.2.2.1.1, ← hS.2.1.2.2.1, c7, show xE (zyEl zymc B H2) 35 6 = xE (zyEl zymc B H) 35 6 by omega, show xE (zyEl zymc B H) 35 8 = (v2 4) by omega]
        · show 18 < 19
          omega
    · have hx : x ∈ [zxfrp17_cx0] := hx
      have hag : ∀ k, k < 4 → v2 k = v k := hag
      have hfr : xFr [] _ _ := hfr
      have ex := List.mem_singleton.mp hx
      subst ex
      obtain ⟨hF, hBd, hM⟩ := hXs
      have r4 := hr2 4
      have g2 : v2 2 = v 2 := hag 2 (by decide)
      have g3 : v2 3 = v 3 := hag 3 (by decide)
      have b0 : ((2147483648 : Nat) : Int) ≤ (v2 2) + 2147483648 ∧ (v2 2) + 2147483648 ≤ ((2147483655 : Nat) : Int) := xXb hBd 0 rfl
      have b1 : ((2147483649 : Nat) : Int) ≤ (v2 3) + 2147483648 ∧ (v2 3) + 2147483648 ≤ ((2147483649 : Nat) : Int) := xXb hBd 1 rfl
      have f0 : ¬ (v2 3) = 0 := xXf hF 0 rfl
      have f1 : (0 : Int) ≤ 8 ∧ xE (zyEl zymc B H) 35 8 = (v2 4) := xXf hF 1 rfl
      have e35_4 : xE (zyEl zymc B H2) 35 4 = xE (zyEl zymc B H) 35 4 := xFr_E hfr rfl
      have q35_4 : xE (zyEl zymc B H) 35 4 = xE (zyEl zymc B s.heap) 35 4 := xFr_E hFr0 rfl
      have e35_5 : xE (zyEl zymc B H2) 35 5 = xE (zyEl zymc B H) 35 5 := xFr_E hfr rfl
      have e35_6 : xE (zyEl zymc B H2) 35 6 = xE (zyEl zymc B H) 35 6 := xFr_E hfr rfl
      have e35_7 : xE (zyEl zymc B H2) 35 7 = xE (zyEl zymc B H) 35 7 := xFr_E hfr rfl
      have e35_8 : xE (zyEl zymc B H2) 35 8 = xE (zyEl zymc B H) 35 8 := xFr_E hfr rfl
      have e35_2 : xE (zyEl zymc B H2) 35 2 = xE (zyEl zymc B H) 35 2 := xFr_E hfr rfl
      have e35_3 : xE (zyEl zymc B H2) 35 3 = xE (zyEl zymc B H) 35 3 := xFr_E hfr rfl
      have e19_2 : xE (zyEl zymc B H2) 19 2 = xE (zyEl zymc B H) 19 2 := xFr_E hfr rfl
      have q19_2 : xE (zyEl zymc B H) 19 2 = xE (zyEl zymc B s.heap) 19 2 := xFr_E hFr0 rfl
      have e18_5 : xE (zyEl zymc B H2) 18 5 = xE (zyEl zymc B H) 18 5 := xFr_E hfr rfl
      have q18_5 : xE (zyEl zymc B H) 18 5 = xE (zyEl zymc B s.heap) 18 5 := xFr_E hFr0 rfl
      have e36 : ∀ i, xE (zyEl zymc B H2) 36 i = xE (zyEl zymc B H) 36 i := fun i => xFr_E hfr rfl
      have q36 : ∀ i, xE (zyEl zymc B H) 36 i = xE (zyEl zymc B s.heap) 36 i := fun i => xFr_E hFr0 rfl
      have e32 : ∀ i, xE (zyEl zymc B H2) 32 i = xE (zyEl zymc B H) 32 i := fun i => xFr_E hfr rfl
      have y19_2 : ((2147483648 : Nat) : Int) ≤ xE (zyEl zymc B s.heap) 19 2 + 2147483648 ∧ xE (zyEl zymc B s.heap) 19 2 + 2147483648 ≤ ((2147483728 : Nat) : Int) := xTyF hT0 19 2 2 rfl rfl rfl rfl rfl rfl
      have y18_5 : ((2147483648 : Nat) : Int) ≤ xE (zyEl zymc B s.heap) 18 5 + 2147483648 ∧ xE (zyEl zymc B s.heap) 18 5 + 2147483648 ≤ ((2147483656 : Nat) : Int) := xTyF hT0 18 5 5 rfl rfl rfl rfl rfl rfl
      have hI : (0 ≤ (v 2) ∧ (v 2) < xE (zyEl zymc B s.heap) 18 5) ∧ ∃ p1, p1 ≤ (xE (zyEl zymc B s.heap) 35 4) ∧ (∀ S, xAb17 (zyEl zymc B s.heap) S → pPlace (xE (zyEl zymc B s.heap) 36) (xE (zyEl zymc B s.heap) 35 4) (xE (zyEl zymc B s.heap) 35 6) S = pNum (xE (zyEl zymc B s.heap) 36) (xE (zyEl zymc B s.heap) 35 4) p1 0 (xE (zyEl zymc B s.heap) 19 2 - 1) fun sl p2 => .ok (p2, uS S (152 + (v 2)) sl)) ∧ xTN (xE (zyEl zymc B s.heap) 36) (xE (zyEl zymc B s.heap) 35 4) p1 0 (xE (zyEl zymc B s.heap) 19 2 - 1) (zyEl zymc B H) (v 3) ∧ (∀ k, xE (zyEl zymc B H) 32 k = xE (zyEl zymc B s.heap) 32 k) := hInv
      obtain ⟨i1, p1, i0, i2, i3, j0⟩ := hI
      rw [show (v 2) = v2 2 by omega] at i2
      have hb := tNx_b (T := xE (zyEl zymc B s.heap) 36) (n := xE (zyEl zymc B s.heap) 35 4) (p := p1) i0
      obtain ⟨c1, c2, c3, c4, c5, c6, c7⟩ := xtn_1 i3 (by omega)
      refine xSt hRu hIH hAt hB hv hFr 32 (ax := 0) 137438953473 68719476737 (v2 4) (v2 2) rfl (Or.inl ⟨rfl, rfl⟩) rfl (by decide +kernel) rfl rfl (by omega) (by show (v2 2) < ((8 : Nat) : Int); omega) (fun r hr q1 q2 => by rw [List.mem_singleton.mp hr]; exact ⟨rfl, by show ((2147483647 : Nat) : Int) ≤ (v2 4) + 2147483648; omega, by show (v2 4) + 2147483648 ≤ ((2147483727 : Nat) : Int); omega⟩) (zyin_iff.mpr ⟨(32, 0, 7), by decide, rfl, Nat.zero_le _, by show Int.toNat (v2 2) ≤ 7; omega⟩) (fun H3 hT3 hst3 hne3 hfn3 hFr3 => ?_)
      have hfe3 : ∀ (a2 : Nat) (k2 : Int), ¬ a2 = 32 → xE (zyEl zymc B H3) a2 k2 = xE (zyEl zymc B H2) a2 k2 := fun a2 k2 hne => by unfold xE; rw [hfn3 a2 k2.toNat (fun z => hne z.1)]
      have d35_4 : xE (zyEl zymc B H3) 35 4 = xE (zyEl zymc B H2) 35 4 := hfe3 35 4 (fun z => absurd z (by decide))
      have d35_5 : xE (zyEl zymc B H3) 35 5 = xE (zyEl zymc B H2) 35 5 := hfe3 35 5 (fun z => absurd z (by decide))
      have d35_6 : xE (zyEl zymc B H3) 35 6 = xE (zyEl zymc B H2) 35 6 := hfe3 35 6 (fun z => absurd z (by decide))
      have d35_7 : xE (zyEl zymc B H3) 35 7 = xE (zyEl zymc B H2) 35 7 := hfe3 35 7 (fun z => absurd z (by decide))
      have d35_8 : xE (zyEl zymc B H3) 35 8 = xE (zyEl zymc B H2) 35 8 := hfe3 35 8 (fun z => absurd z (by decide))
      have d35_2 : xE (zyEl zymc B H3) 35 2 = xE (zyEl zymc B H2) 35 2 := hfe3 35 2 (fun z => absurd z (by decide))
      have d35_3 : xE (zyEl zymc B H3) 35 3 = xE (zyEl zymc B H2) 35 3 := hfe3 35 3 (fun z => absurd z (by decide))
      have d19_2 : xE (zyEl zymc B H3) 19 2 = xE (zyEl zymc B H2) 19 2 := hfe3 19 2 (fun z => absurd z (by decide))
      have d18_5 : xE (zyEl zymc B H3) 18 5 = xE (zyEl zymc B H2) 18 5 := hfe3 18 5 (fun z => absurd z (by decide))
      refine ⟨⟨3, by decide⟩, [0, 0, 68719476737], [0, 0, (v2 2)], rfl, ⟨by decide +kernel, ⟨rfl, by decide +kernel⟩, (xcs_c rfl (xcs_c rfl (xcs_c rfl xcs_n))), (xe_0 (xe_0 (xe_c (by omega) (by omega) rfl xe_n))), xkq_n⟩, rfl, ?_, ?_⟩
      · show (0 ≤ ((v2 2) : Int) ∧ ((v2 2) : Int) < xE (zyEl zymc B s.heap) 18 5) ∧ ∃ sl, xE (zyEl zymc B H3) 35 6 ≤ (xE (zyEl zymc B s.heap) 35 4) ∧ (∀ S, xAb17 (zyEl zymc B s.heap) S → pPlace (xE (zyEl zymc B s.heap) 36) (xE (zyEl zymc B s.heap) 35 4) (xE (zyEl zymc B s.heap) 35 6) S = .ok (xE (zyEl zymc B H3) 35 6, uS S (152 + ((v2 2) : Int)) sl)) ∧ xE (zyEl zymc B H3) 32 ((v2 2) : Int) = sl ∧ (∀ k, 0 ≤ k → ¬ k = ((v2 2) : Int) → xE (zyEl zymc B H3) 32 k = xE (zyEl zymc B s.heap) 32 k)
        refine ⟨by omega, (v2 4), by omega, fun S hS => ?_, hst3, fun k k0 k1 => (hne3 32 k k0 (fun z => k1 z.2)).trans ((e32 k).trans (j0 k))⟩
        rw [i2 S hS, c7, show xE (zyEl zymc B H3) 35 6 = xE (zyEl zymc B H) 35 6 by omega, show xE (zyEl zymc B H) 35 8 = (v2 4) by omega]
      · show 17 < 18
        omega
    · have hx : x ∈ [zxfrp17_dx0] := hx
      have hag : ∀ k, k < 3 → v2 k = v k := hag
      have hfr : xFr [] _ _ := hfr
      have ex := List.mem_singleton.mp hx
      subst ex
      obtain ⟨hF, hBd, hM⟩ := hXs
      have g2 : v2 2 = v 2 := hag 2 (by decide)
      have b0 : ((2147483648 : Nat) : Int) ≤ (v2 2) + 2147483648 ∧ (v2 2) + 2147483648 ≤ ((2147483655 : Nat) : Int) := xXb hBd 0 rfl
      have e35_4 : xE (zyEl zymc B H2) 35 4 = xE (zyEl zymc B H) 35 4 := xFr_E hfr rfl
      have q35_4 : xE (zyEl zymc B H) 35 4 = xE (zyEl zymc B s.heap) 35 4 := xFr_E hFr0 rfl
      have e35_5 : xE (zyEl zymc B H2) 35 5 = xE (zyEl zymc B H) 35 5 := xFr_E hfr rfl
      have e35_6 : xE (zyEl zymc B H2) 35 6 = xE (zyEl zymc B H) 35 6 := xFr_E hfr rfl
      have e35_7 : xE (zyEl zymc B H2) 35 7 = xE (zyEl zymc B H) 35 7 := xFr_E hfr rfl
      have e35_8 : xE (zyEl zymc B H2) 35 8 = xE (zyEl zymc B H) 35 8 := xFr_E hfr rfl
      have e35_2 : xE (zyEl zymc B H2) 35 2 = xE (zyEl zymc B H) 35 2 := xFr_E hfr rfl
      have e35_3 : xE (zyEl zymc B H2) 35 3 = xE (zyEl zymc B H) 35 3 := xFr_E hfr rfl
      have e19_2 : xE (zyEl zymc B H2) 19 2 = xE (zyEl zymc B H) 19 2 := xFr_E hfr rfl
      have q19_2 : xE (zyEl zymc B H) 19 2 = xE (zyEl zymc B s.heap) 19 2 := xFr_E hFr0 rfl
      have e18_5 : xE (zyEl zymc B H2) 18 5 = xE (zyEl zymc B H) 18 5 := xFr_E hfr rfl
      have q18_5 : xE (zyEl zymc B H) 18 5 = xE (zyEl zymc B s.heap) 18 5 := xFr_E hFr0 rfl
      have e36 : ∀ i, xE (zyEl zymc B H2) 36 i = xE (zyEl zymc B H) 36 i := fun i => xFr_E hfr rfl
      have q36 : ∀ i, xE (zyEl zymc B H) 36 i = xE (zyEl zymc B s.heap) 36 i := fun i => xFr_E hFr0 rfl
      have e32 : ∀ i, xE (zyEl zymc B H2) 32 i = xE (zyEl zymc B H) 32 i := fun i => xFr_E hfr rfl
      have y19_2 : ((2147483648 : Nat) : Int) ≤ xE (zyEl zymc B s.heap) 19 2 + 2147483648 ∧ xE (zyEl zymc B s.heap) 19 2 + 2147483648 ≤ ((2147483728 : Nat) : Int) := xTyF hT0 19 2 2 rfl rfl rfl rfl rfl rfl
      have y18_5 : ((2147483648 : Nat) : Int) ≤ xE (zyEl zymc B s.heap) 18 5 + 2147483648 ∧ xE (zyEl zymc B s.heap) 18 5 + 2147483648 ≤ ((2147483656 : Nat) : Int) := xTyF hT0 18 5 5 rfl rfl rfl rfl rfl rfl
      have hI : (0 ≤ (v 2) ∧ (v 2) < xE (zyEl zymc B s.heap) 18 5) ∧ ∃ sl, xE (zyEl zymc B H) 35 6 ≤ (xE (zyEl zymc B s.heap) 35 4) ∧ (∀ S, xAb17 (zyEl zymc B s.heap) S → pPlace (xE (zyEl zymc B s.heap) 36) (xE (zyEl zymc B s.heap) 35 4) (xE (zyEl zymc B s.heap) 35 6) S = .ok (xE (zyEl zymc B H) 35 6, uS S (152 + (v 2)) sl)) ∧ xE (zyEl zymc B H) 32 (v 2) = sl ∧ (∀ k, 0 ≤ k → ¬ k = (v 2) → xE (zyEl zymc B H) 32 k = xE (zyEl zymc B s.heap) 32 k) := hInv
      have tt : xE (zyEl zymc B H2) 36 = xE (zyEl zymc B s.heap) 36 := funext fun i => (e36 i).trans (q36 i)
      have tn : xE (zyEl zymc B H2) 35 4 = xE (zyEl zymc B s.heap) 35 4 := by omega
      obtain ⟨i1, sl, i0, i2, i3, i4⟩ := hI
      refine xCa hRu hIH hAt hB hv hFr (hfts B) (ix := 73) (ax := 1088) rfl rfl rfl hmefts ⟨_, rfl, rfl, by decide⟩ ⟨rfl, rfl, rfl⟩ (by decide) [] [] [] rfl ⟨rfl, rfl⟩ (by decide +kernel) xcs_n (by decide +kernel) ?_ (fun H3 r hT3 hf3 hFr3 hr3 hΨ3 => ?_)
      · show xΦad (xfv []) (zyEl zymc B H2)
        unfold xΦad
        omega
      · have hΨ3 : xΨts (xfv []) (zyEl zymc B H2) (zyEl zymc B H3) r := hΨ3
        have d35_4 : xE (zyEl zymc B H3) 35 4 = xE (zyEl zymc B H2) 35 4 := xFr_E hf3 rfl
        have d19_2 : xE (zyEl zymc B H3) 19 2 = xE (zyEl zymc B H2) 19 2 := xFr_E hf3 rfl
        have d18_5 : xE (zyEl zymc B H3) 18 5 = xE (zyEl zymc B H2) 18 5 := xFr_E hf3 rfl
        have d36 : ∀ i, xE (zyEl zymc B H3) 36 i = xE (zyEl zymc B H2) 36 i := fun i => xFr_E hf3 rfl
        have d32 : ∀ i, xE (zyEl zymc B H3) 32 i = xE (zyEl zymc B H2) 32 i := fun i => xFr_E hf3 rfl
        unfold xΨts at hΨ3
        rw [tt, tn] at hΨ3
        have hr01 := xts_r hΨ3
        refine ⟨⟨4, by decide⟩, [0, 0, 68719476737], [0, 0, (v2 2), r], rfl, ⟨by decide +kernel, ⟨rfl, by decide +kernel⟩, (xcs_c rfl (xcs_c rfl (xcs_c rfl xcs_n))), (xe_0 (xe_0 (xe_c (by omega) (by omega) rfl (xe_c (by omega) (by omega) rfl xe_n)))), xkq_n⟩, (by rw [if_pos rfl]; exact ⟨3, [], rfl, by decide, rfl, xst_n⟩), ?_, ?_⟩
        · show ∃ g sl p2, (0 ≤ g ∧ g < xE (zyEl zymc B s.heap) 18 5) ∧ (∀ S, xAb17 (zyEl zymc B s.heap) S → pPlace (xE (zyEl zymc B s.heap) 36) (xE (zyEl zymc B s.heap) 35 4) (xE (zyEl zymc B s.heap) 35 6) S = .ok (p2, uS S (152 + g) sl)) ∧ xE (zyEl zymc B H3) 32 g = sl ∧ (∀ k, 0 ≤ k → ¬ k = g → xE (zyEl zymc B H3) 32 k = xE (zyEl zymc B s.heap) 32 k) ∧ xTS (xE (zyEl zymc B s.heap) 36) (xE (zyEl zymc B s.heap) 35 4) p2 (zyEl zymc B H3) (r : Int)
          exact ⟨v 2, sl, xE (zyEl zymc B H2) 35 6, by omega, fun S hS => by rw [i2 S hS, show xE (zyEl zymc B H) 35 6 = xE (zyEl zymc B H2) 35 6 by omega], (d32 _).trans ((e32 _).trans i3), fun k k0 k1 => (d32 k).trans ((e32 k).trans (i4 k k0 k1)), hΨ3⟩
        · show 16 < 17
          omega
    · cases hx
  · intro x0 E0 E E2 hrx hT0 hΦ i v hT hrv hInv hKc hFr0 x hx v2 hr2 hXs hag hfr hFr hT2
    rcases i with ⟨i, hi⟩
    have hi2 : i = 0 ∨ i = 1 ∨ i = 2 ∨ i = 3 ∨ i = 4 := by omega
    rcases hi2 with rfl | rfl | rfl | rfl | rfl
    · cases hx
    · have hx : x ∈ [zxfrp17_br0] := hx
      have hag : ∀ k, k < 4 → v2 k = v k := hag
      have hfr : xFr [] _ _ := hfr
      have ex := List.mem_singleton.mp hx
      subst ex
      obtain ⟨hF, hBd, hM⟩ := hXs
      have g3 : v2 3 = v 3 := hag 3 (by decide)
      have b0 : ((2147483648 : Nat) : Int) ≤ (v2 3) + 2147483648 ∧ (v2 3) + 2147483648 ≤ ((2147483648 : Nat) : Int) := xXb hBd 0 rfl
      have f0 : (v2 3) = 0 := xXf hF 0 rfl
      have e35_4 : xE E2 35 4 = xE E 35 4 := xFr_E hfr rfl
      have q35_4 : xE E 35 4 = xE E0 35 4 := xFr_E hFr0 rfl
      have e35_5 : xE E2 35 5 = xE E 35 5 := xFr_E hfr rfl
      have e35_6 : xE E2 35 6 = xE E 35 6 := xFr_E hfr rfl
      have e35_7 : xE E2 35 7 = xE E 35 7 := xFr_E hfr rfl
      have e35_8 : xE E2 35 8 = xE E 35 8 := xFr_E hfr rfl
      have e35_2 : xE E2 35 2 = xE E 35 2 := xFr_E hfr rfl
      have e35_3 : xE E2 35 3 = xE E 35 3 := xFr_E hfr rfl
      have e19_2 : xE E2 19 2 = xE E 19 2 := xFr_E hfr rfl
      have q19_2 : xE E 19 2 = xE E0 19 2 := xFr_E hFr0 rfl
      have e18_5 : xE E2 18 5 = xE E 18 5 := xFr_E hfr rfl
      have q18_5 : xE E 18 5 = xE E0 18 5 := xFr_E hFr0 rfl
      have e36 : ∀ i, xE E2 36 i = xE E 36 i := fun i => xFr_E hfr rfl
      have q36 : ∀ i, xE E 36 i = xE E0 36 i := fun i => xFr_E hFr0 rfl
      have e32 : ∀ i, xE E2 32 i = xE E 32 i := fun i => xFr_E hfr rfl
      have y19_2 : ((2147483648 : Nat) : Int) ≤ xE E0 19 2 + 2147483648 ∧ xE E0 19 2 + 2147483648 ≤ ((2147483728 : Nat) : Int) := xTyF hT0 19 2 2 rfl rfl rfl rfl rfl rfl
      have y18_5 : ((2147483648 : Nat) : Int) ≤ xE E0 18 5 + 2147483648 ∧ xE E0 18 5 + 2147483648 ≤ ((2147483656 : Nat) : Int) := xTyF hT0 18 5 5 rfl rfl rfl rfl rfl rfl
      have hI : xTN (xE E0 36) (xE E0 35 4) (xE E0 35 6) 0 (xE E0 18 5 - 1) E (v 3) ∧ (∀ k, xE E 32 k = xE E0 32 k) := hInv
      show xΨfrp17 x0 E0 E2 0
      obtain ⟨i1, j0⟩ := hI
      have hz : (v 3) = 0 := by omega
      intro S hS
      have e : pPlace (xE E0 36) (xE E0 35 4) (xE E0 35 6) S = Except.error (xE E 35 2, xE E 35 3) := by unfold pPlace; rw [← hS.2.2.2.1.1]; exact xtn_0 i1 hz _
      show xOut17 (pBind (pPlace (xE E0 36) (xE E0 35 4) (xE E0 35 6) S) (pSem (xE E0 36) (xE E0 35 4))) E2 0
      rw [e]
      exact xOut17_e (by omega) (by omega) (by omega)
    · have hx : x ∈ [zxfrp17_cr0] := hx
      have hag : ∀ k, k < 4 → v2 k = v k := hag
      have hfr : xFr [] _ _ := hfr
      have ex := List.mem_singleton.mp hx
      subst ex
      obtain ⟨hF, hBd, hM⟩ := hXs
      have g2 : v2 2 = v 2 := hag 2 (by decide)
      have g3 : v2 3 = v 3 := hag 3 (by decide)
      have b0 : ((2147483648 : Nat) : Int) ≤ (v2 3) + 2147483648 ∧ (v2 3) + 2147483648 ≤ ((2147483648 : Nat) : Int) := xXb hBd 0 rfl
      have f0 : (v2 3) = 0 := xXf hF 0 rfl
      have e35_4 : xE E2 35 4 = xE E 35 4 := xFr_E hfr rfl
      have q35_4 : xE E 35 4 = xE E0 35 4 := xFr_E hFr0 rfl
      have e35_5 : xE E2 35 5 = xE E 35 5 := xFr_E hfr rfl
      have e35_6 : xE E2 35 6 = xE E 35 6 := xFr_E hfr rfl
      have e35_7 : xE E2 35 7 = xE E 35 7 := xFr_E hfr rfl
      have e35_8 : xE E2 35 8 = xE E 35 8 := xFr_E hfr rfl
      have e35_2 : xE E2 35 2 = xE E 35 2 := xFr_E hfr rfl
      have e35_3 : xE E2 35 3 = xE E 35 3 := xFr_E hfr rfl
      have e19_2 : xE E2 19 2 = xE E 19 2 := xFr_E hfr rfl
      have q19_2 : xE E 19 2 = xE E0 19 2 := xFr_E hFr0 rfl
      have e18_5 : xE E2 18 5 = xE E 18 5 := xFr_E hfr rfl
      have q18_5 : xE E 18 5 = xE E0 18 5 := xFr_E hFr0 rfl
      have e36 : ∀ i, xE E2 36 i = xE E 36 i := fun i => xFr_E hfr rfl
      have q36 : ∀ i, xE E 36 i = xE E0 36 i := fun i => xFr_E hFr0 rfl
      have e32 : ∀ i, xE E2 32 i = xE E 32 i := fun i => xFr_E hfr rfl
      have y19_2 : ((2147483648 : Nat) : Int) ≤ xE E0 19 2 + 2147483648 ∧ xE E0 19 2 + 2147483648 ≤ ((2147483728 : Nat) : Int) := xTyF hT0 19 2 2 rfl rfl rfl rfl rfl rfl
      have y18_5 : ((2147483648 : Nat) : Int) ≤ xE E0 18 5 + 2147483648 ∧ xE E0 18 5 + 2147483648 ≤ ((2147483656 : Nat) : Int) := xTyF hT0 18 5 5 rfl rfl rfl rfl rfl rfl
      have hI : (0 ≤ (v 2) ∧ (v 2) < xE E0 18 5) ∧ ∃ p1, p1 ≤ (xE E0 35 4) ∧ (∀ S, xAb17 E0 S → pPlace (xE E0 36) (xE E0 35 4) (xE E0 35 6) S = pNum (xE E0 36) (xE E0 35 4) p1 0 (xE E0 19 2 - 1) fun sl p2 => .ok (p2, uS S (152 + (v 2)) sl)) ∧ xTN (xE E0 36) (xE E0 35 4) p1 0 (xE E0 19 2 - 1) E (v 3) ∧ (∀ k, xE E 32 k = xE E0 32 k) := hInv
      show xΨfrp17 x0 E0 E2 0
      obtain ⟨i1, p1, i0, i2, i3, j0⟩ := hI
      rw [show (v 2) = v2 2 by omega] at i2
      have hb := tNx_b (T := xE E0 36) (n := xE E0 35 4) (p := p1) i0
      have hz : (v 3) = 0 := by omega
      intro S hS
      have e : pPlace (xE E0 36) (xE E0 35 4) (xE E0 35 6) S = Except.error (xE E 35 2, xE E 35 3) := (i2 S hS).trans (xtn_0 i3 hz _)
      show xOut17 (pBind (pPlace (xE E0 36) (xE E0 35 4) (xE E0 35 6) S) (pSem (xE E0 36) (xE E0 35 4))) E2 0
      rw [e]
      exact xOut17_e (by omega) (by omega) (by omega)
    · cases hx
    · have hx : x ∈ [zxfrp17_er0] := hx
      have hag : ∀ k, k < 4 → v2 k = v k := hag
      have hfr : xFr [] _ _ := hfr
      have ex := List.mem_singleton.mp hx
      subst ex
      obtain ⟨hF, hBd, hM⟩ := hXs
      have g2 : v2 2 = v 2 := hag 2 (by decide)
      have g3 : v2 3 = v 3 := hag 3 (by decide)
      have b0 : ((2147483648 : Nat) : Int) ≤ (v2 3) + 2147483648 ∧ (v2 3) + 2147483648 ≤ ((2147483649 : Nat) : Int) := xXb hBd 0 rfl
      have e35_4 : xE E2 35 4 = xE E 35 4 := xFr_E hfr rfl
      have q35_4 : xE E 35 4 = xE E0 35 4 := xFr_E hFr0 rfl
      have e35_5 : xE E2 35 5 = xE E 35 5 := xFr_E hfr rfl
      have e35_6 : xE E2 35 6 = xE E 35 6 := xFr_E hfr rfl
      have e35_7 : xE E2 35 7 = xE E 35 7 := xFr_E hfr rfl
      have e35_8 : xE E2 35 8 = xE E 35 8 := xFr_E hfr rfl
      have e35_2 : xE E2 35 2 = xE E 35 2 := xFr_E hfr rfl
      have e35_3 : xE E2 35 3 = xE E 35 3 := xFr_E hfr rfl
      have e19_2 : xE E2 19 2 = xE E 19 2 := xFr_E hfr rfl
      have q19_2 : xE E 19 2 = xE E0 19 2 := xFr_E hFr0 rfl
      have e18_5 : xE E2 18 5 = xE E 18 5 := xFr_E hfr rfl
      have q18_5 : xE E 18 5 = xE E0 18 5 := xFr_E hFr0 rfl
      have e36 : ∀ i, xE E2 36 i = xE E 36 i := fun i => xFr_E hfr rfl
      have q36 : ∀ i, xE E 36 i = xE E0 36 i := fun i => xFr_E hFr0 rfl
      have e32 : ∀ i, xE E2 32 i = xE E 32 i := fun i => xFr_E hfr rfl
      have y19_2 : ((2147483648 : Nat) : Int) ≤ xE E0 19 2 + 2147483648 ∧ xE E0 19 2 + 2147483648 ≤ ((2147483728 : Nat) : Int) := xTyF hT0 19 2 2 rfl rfl rfl rfl rfl rfl
      have y18_5 : ((2147483648 : Nat) : Int) ≤ xE E0 18 5 + 2147483648 ∧ xE E0 18 5 + 2147483648 ≤ ((2147483656 : Nat) : Int) := xTyF hT0 18 5 5 rfl rfl rfl rfl rfl rfl
      have hI : ∃ g sl p2, (0 ≤ g ∧ g < xE E0 18 5) ∧ (∀ S, xAb17 E0 S → pPlace (xE E0 36) (xE E0 35 4) (xE E0 35 6) S = .ok (p2, uS S (152 + g) sl)) ∧ xE E 32 g = sl ∧ (∀ k, 0 ≤ k → ¬ k = g → xE E 32 k = xE E0 32 k) ∧ xTS (xE E0 36) (xE E0 35 4) p2 E (v 3) := hInv
      show xΨfrp17 x0 E0 E2 (v2 3)
      obtain ⟨g, sl, p2, i1, i2, i3, i4, i5⟩ := hI
      have hE2 := xFr_n hfr
      subst hE2
      rw [show (v 3) = v2 3 by omega] at i5
      intro S hS
      show xOut17 (pBind (pPlace (xE E0 36) (xE E0 35 4) (xE E0 35 6) S) (pSem (xE E0 36) (xE E0 35 4))) E2 (v2 3)
      rw [i2 S hS]
      by_cases hz : v2 3 = 0
      · show xOut17 (pSem (xE E0 36) (xE E0 35 4) p2 _) E2 (v2 3)
        rw [xts_0 i5 hz]
        exact xOut17_f hz rfl rfl
      · obtain ⟨c1, c2, c3⟩ := xts_1 i5 hz (uS S (152 + g) sl)
        show xOut17 (pSem (xE E0 36) (xE E0 35 4) p2 (uS S (152 + g) sl)) E2 (v2 3)
        rw [c3]
        exact xOut17_k c1 rfl (xAb17_go ⟨by omega, by omega⟩ i3 i4 hS hFr0)
end
