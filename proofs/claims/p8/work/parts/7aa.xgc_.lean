section
/-! THE CLASS: free (printed by m33.py) -/
theorem pCnt_w {S S2 : Int → Int} {o : Int} (h : ∀ k : Int, o ≤ k → S k = S2 k) : ∀ {n : Nat}, pCnt S o n = pCnt S2 o n := by
  intro n
  induction n with
  | zero => rfl
  | succ n ih =>
    show pCnt S o n + _ = pCnt S2 o n + _
    rw [ih, h _ (by omega)]
noncomputable def zxfcg1_ax0 : zyXp := (4, [11, 0, 0], [], [], [], [])
noncomputable def zpfcg1_a : zyPh := (0, [11, 13, 13], [(0, 4294967295), (0, 4294967295), (0, 4294967295)], [], [])
noncomputable def zxfcg1_bx0 : zyXp := (4, [11, 34359738377, 68719476745], [], [(24, 103079215105, 2, 24), (20, 0, 68719476737, 103079215105), (24, 137438953473, 13, 68719476737), (23, 0, 137438953473, 0)], [(34359738369, 2147483648, 2147483679), (68719476737, 2147483648, 2147483678), (103079215105, 2147483649, 2147483679), (137438953473, 2147483649, 2147483649), (34359738377, 2147483649, 2147483680), (68719476745, 2147483649, 2147483679)], [])
noncomputable def zxfcg1_bx1 : zyXp := (4, [11, 34359738369, 68719476745], [], [(24, 103079215105, 2, 24), (20, 0, 68719476737, 103079215105), (24, 137438953473, 13, 68719476737), (22, 0, 137438953473, 0)], [(34359738369, 2147483648, 2147483679), (68719476737, 2147483648, 2147483678), (103079215105, 2147483649, 2147483679), (137438953473, 2147483648, 2147483648), (68719476745, 2147483649, 2147483679)], [])
noncomputable def zxfcg1_br0 : zyXp := (0, [], [34359738369], [(24, 103079215105, 2, 24), (21, 0, 68719476737, 103079215105)], [(34359738369, 2147483648, 2147483679), (68719476737, 2147483648, 2147483679), (103079215105, 2147483648, 2147483679)], [])
noncomputable def zpfcg1_b : zyPh := (4, [11, 34359738369, 68719476737], [(0, 4294967295), (2147483648, 2147483679), (2147483648, 2147483679)], [], [])
noncomputable def zpfcg1 (i : Nat) : zyPh := zif (Nat.beq i 0) (zpfcg1_a) (zpfcg1_b)
noncomputable def zXfcg1 (i : Nat) : List zyXp := zif (Nat.beq i 0) ([zxfcg1_ax0]) ([zxfcg1_bx0, zxfcg1_bx1])
noncomputable def zRfcg1 (i : Nat) : List zyXp := zif (Nat.beq i 0) ([]) ([zxfcg1_br0])
noncomputable def zFfcg1 (i : Nat) : zyR := zif (Nat.beq i 0) ([]) ([])
noncomputable def zSfcg1 (i : Nat) : Nat := zif (Nat.beq i 0) (0) (0)
def xΦcg1 (_ : Nat → Int) (_ : zyEm) : Prop := True
def xΨcg1 (_ : Nat → Int) (E _ : zyEm) (r : Int) : Prop := (0 ≤ r ∧ r ≤ 31) ∧ r = pCnt (fun k => xE E 13 (k - 104)) 104 (xE E 2 3).toNat
noncomputable def fpfcg1 : zyR := []
theorem zyfcg1_run : zyrS zymc zxi35 (35, 0, 0, 1, 0) 1 zpfcg1 (fun _ _ => []) zFfcg1 zSfcg1 zXfcg1 zRfcg1 2 = true := by decide +kernel
theorem zyfcg1_ck : zyAll (fun i => xsubR (zFfcg1 i) fpfcg1 && ((zXfcg1 i).all xckX && (zRfcg1 i).all (fun x => xckX x && xrtB true x))) 2 = true := by decide +kernel
def xIfcg1 (i : Nat) (x0 : Nat → Int) (E0 : zyEm) (v : Nat → Int) (E : zyEm) : Prop := if i = 0 then (E = E0) else ((0 ≤ (v 2) ∧ (v 2) ≤ xE E0 2 3) ∧ (0 ≤ (v 1) ∧ (v 1) ≤ (v 2)) ∧ (v 1) = pCnt (fun k => xE E0 13 (k - 104)) 104 ((v 2)).toNat)
def xMfcg1 (i : Nat) (x0 : Nat → Int) (E0 : zyEm) (v : Nat → Int) (E : zyEm) : Nat := if i = 0 then (100) else ((99 - (v 2)).toNat)
theorem xCg1 {l : Launch} {en : zEn} {me : zMe} (hen : zG zxMeta 35 = some en) (hme : zG zMeth 35 = some me) : xFc l zymc en me 1 [1] 0 fpfcg1 true xΦcg1 xΨcg1 := by
  have een : zG zxMeta 35 = some (zxi35, 1, 3, 3, 35, 0, 0, 1, 0) := rfl
  obtain ⟨me1, hme1, hOK⟩ := zall hen
  rw [hme] at hme1
  cases hme1
  rw [een] at hen
  cases hen
  have hr := zyfcg1_run
  have hck := fun i hi => zyAll_iff zyfcg1_ck i hi
  simp only [Bool.and_eq_true] at hck
  intro B
  refine xcut (mi := zymc) (B := B) hOK rfl rfl (ι := Fin 2) (fun i => zpfcg1 i.val) (fun _ _ => []) (fun i => zFfcg1 i.val) (fun i => zSfcg1 i.val) (fun i => zXfcg1 i.val) (fun i => zRfcg1 i.val) (fun i y2 ct en2 me2 h => by cases h) 200000 (fun i => zyAll_iff hr i.val i.isLt) (fun i => (hck i.val i.isLt).1) (fun i => (hck i.val i.isLt).2.1) (fun i => (hck i.val i.isLt).2.2) ⟨0, by decide⟩ ⟨rfl, rfl, rfl, rfl⟩ ⟨by decide, by decide⟩ (fun i x0 E0 v E => xIfcg1 i.val x0 E0 v E) (fun i x0 E0 v E => xMfcg1 i.val x0 E0 v E) ?_ ?_ ?_
  · intro x0 E hx0 hT hΦ
    have hΦ : xΦcg1 x0 E := hΦ
    refine ⟨fun k p hp => ?_, ?_⟩
    · have hk : k < 3 := (List.getElem?_eq_some_iff.mp hp).1
      have hk : k = 0 ∨ k = 1 ∨ k = 2 := by omega
      rcases hk with rfl | rfl | rfl
      · have hp : some (0, 4294967295) = some p := hp
        cases hp
        show ((0 : Nat) : Int) ≤ 0 + 2147483648 ∧ 0 + 2147483648 ≤ ((4294967295 : Nat) : Int)
        omega
      · have hp : some (0, 4294967295) = some p := hp
        cases hp
        show ((0 : Nat) : Int) ≤ x0 0 + 2147483648 ∧ x0 0 + 2147483648 ≤ ((4294967295 : Nat) : Int)
        have hx := hx0 0
        omega
      · have hp : some (0, 4294967295) = some p := hp
        cases hp
        show ((0 : Nat) : Int) ≤ x0 1 + 2147483648 ∧ x0 1 + 2147483648 ≤ ((4294967295 : Nat) : Int)
        have hx := hx0 1
        omega
    · show E = E
      rfl
  · intro x0 s Wg hRu hrx hT0 hΦ i v H hT hrv hInv hKc hFr0 hIH x hx ρ2 v2 N2 H2 locs lsB stA hAt hB hv hr2 hXs hag hfr hFr hT2
    rcases i with ⟨i, hi⟩
    have hi2 : i = 0 ∨ i = 1 := by omega
    rcases hi2 with rfl | rfl
    · have hx : x ∈ [zxfcg1_ax0] := hx
      have hag : ∀ k, k < 3 → v2 k = v k := hag
      have hfr : xFr [] _ _ := hfr
      have ex := List.mem_singleton.mp hx
      subst ex
      obtain ⟨hF, hBd, hM⟩ := hXs
      have e2_3 : xE (zyEl zymc B H2) 2 3 = xE (zyEl zymc B H) 2 3 := xFr_E hfr rfl
      have q2_3 : xE (zyEl zymc B H) 2 3 = xE (zyEl zymc B s.heap) 2 3 := xFr_E hFr0 rfl
      have e13 : ∀ i, xE (zyEl zymc B H2) 13 i = xE (zyEl zymc B H) 13 i := fun i => xFr_E hfr rfl
      have q13 : ∀ i, xE (zyEl zymc B H) 13 i = xE (zyEl zymc B s.heap) 13 i := fun i => xFr_E hFr0 rfl
      have y2_3 : ((2147483648 : Nat) : Int) ≤ xE (zyEl zymc B s.heap) 2 3 + 2147483648 ∧ xE (zyEl zymc B s.heap) 2 3 + 2147483648 ≤ ((2147483679 : Nat) : Int) := xTyF hT0 2 3 3 rfl rfl rfl rfl rfl rfl
      have hI : (zyEl zymc B H) = (zyEl zymc B s.heap) := hInv
      refine xGo hIH hAt hB hv hFr ⟨1, by decide⟩ [0, 0, 0] [0, 0, 0] rfl ⟨by decide +kernel, ⟨rfl, by decide +kernel⟩, (xcs_c rfl (xcs_c rfl (xcs_c rfl xcs_n))), (xe_0 (xe_c (by omega) (by omega) rfl (xe_c (by omega) (by omega) rfl xe_n))), xkq_n⟩ xst_n ?_ ?_
      · show (0 ≤ (0 : Int) ∧ (0 : Int) ≤ xE (zyEl zymc B s.heap) 2 3) ∧ (0 ≤ (0 : Int) ∧ (0 : Int) ≤ (0 : Int)) ∧ (0 : Int) = pCnt (fun k => xE (zyEl zymc B s.heap) 13 (k - 104)) 104 ((0 : Int)).toNat
        exact ⟨by omega, by omega, rfl⟩
      · show (99 - (0 : Int)).toNat < 100
        omega
    · have hx : x ∈ [zxfcg1_bx0, zxfcg1_bx1] := hx
      have hag : ∀ k, k < 3 → v2 k = v k := hag
      have hfr : xFr [] _ _ := hfr
      rcases List.mem_cons.mp hx with ex | hx
      · subst ex
        obtain ⟨hF, hBd, hM⟩ := hXs
        have g1 : v2 1 = v 1 := hag 1 (by decide)
        have g2 : v2 2 = v 2 := hag 2 (by decide)
        have b0 : ((2147483648 : Nat) : Int) ≤ (v2 1) + 2147483648 ∧ (v2 1) + 2147483648 ≤ ((2147483679 : Nat) : Int) := xXb hBd 0 rfl
        have b1 : ((2147483648 : Nat) : Int) ≤ (v2 2) + 2147483648 ∧ (v2 2) + 2147483648 ≤ ((2147483678 : Nat) : Int) := xXb hBd 1 rfl
        have b2 : ((2147483649 : Nat) : Int) ≤ (v2 3) + 2147483648 ∧ (v2 3) + 2147483648 ≤ ((2147483679 : Nat) : Int) := xXb hBd 2 rfl
        have b3 : ((2147483649 : Nat) : Int) ≤ (v2 4) + 2147483648 ∧ (v2 4) + 2147483648 ≤ ((2147483649 : Nat) : Int) := xXb hBd 3 rfl
        have b4 : ((2147483649 : Nat) : Int) ≤ (v2 1 + 1) + 2147483648 ∧ (v2 1 + 1) + 2147483648 ≤ ((2147483680 : Nat) : Int) := xXb hBd 4 rfl
        have b5 : ((2147483649 : Nat) : Int) ≤ (v2 2 + 1) + 2147483648 ∧ (v2 2 + 1) + 2147483648 ≤ ((2147483679 : Nat) : Int) := xXb hBd 5 rfl
        have f0 : (0 : Int) ≤ 3 ∧ xE (zyEl zymc B H) 2 3 = (v2 3) := xXf hF 0 rfl
        have f1 : (v2 2) < (v2 3) := xXf hF 1 rfl
        have f2 : (0 : Int) ≤ (v2 2) ∧ xE (zyEl zymc B H) 13 (v2 2) = (v2 4) := xXf hF 2 rfl
        have f3 : ¬ (v2 4) = 0 := xXf hF 3 rfl
        have e2_3 : xE (zyEl zymc B H2) 2 3 = xE (zyEl zymc B H) 2 3 := xFr_E hfr rfl
        have q2_3 : xE (zyEl zymc B H) 2 3 = xE (zyEl zymc B s.heap) 2 3 := xFr_E hFr0 rfl
        have e13 : ∀ i, xE (zyEl zymc B H2) 13 i = xE (zyEl zymc B H) 13 i := fun i => xFr_E hfr rfl
        have q13 : ∀ i, xE (zyEl zymc B H) 13 i = xE (zyEl zymc B s.heap) 13 i := fun i => xFr_E hFr0 rfl
        have y2_3 : ((2147483648 : Nat) : Int) ≤ xE (zyEl zymc B s.heap) 2 3 + 2147483648 ∧ xE (zyEl zymc B s.heap) 2 3 + 2147483648 ≤ ((2147483679 : Nat) : Int) := xTyF hT0 2 3 3 rfl rfl rfl rfl rfl rfl
        have hI : (0 ≤ (v 2) ∧ (v 2) ≤ xE (zyEl zymc B s.heap) 2 3) ∧ (0 ≤ (v 1) ∧ (v 1) ≤ (v 2)) ∧ (v 1) = pCnt (fun k => xE (zyEl zymc B s.heap) 13 (k - 104)) 104 ((v 2)).toNat := hInv
        obtain ⟨i1, i2, i3⟩ := hI
        refine xGo hIH hAt hB hv hFr ⟨1, by decide⟩ [0, 34359738377, 68719476745] [0, (v2 1 + 1), (v2 2 + 1)] rfl ⟨by decide +kernel, ⟨rfl, by decide +kernel⟩, (xcs_c rfl (xcs_c rfl (xcs_c rfl xcs_n))), (xe_0 (xe_c (by omega) (by omega) rfl (xe_c (by omega) (by omega) rfl xe_n))), xkq_n⟩ xst_n ?_ ?_
        · show (0 ≤ ((v2 2 + 1) : Int) ∧ ((v2 2 + 1) : Int) ≤ xE (zyEl zymc B s.heap) 2 3) ∧ (0 ≤ ((v2 1 + 1) : Int) ∧ ((v2 1 + 1) : Int) ≤ ((v2 2 + 1) : Int)) ∧ ((v2 1 + 1) : Int) = pCnt (fun k => xE (zyEl zymc B s.heap) 13 (k - 104)) 104 (((v2 2 + 1) : Int)).toNat
          refine ⟨by omega, by omega, ?_⟩
          have hf := q13 (v2 2)
          rw [pCnt_s (by omega), show (v2 2) = v 2 by omega, ← i3, ← show (v2 2) = v 2 by omega, if_pos (by show 0 < xE _ _ (104 + v2 2 - 104); rw [show 104 + v2 2 - 104 = v2 2 by omega]; omega)]
          omega
        · show (99 - ((v2 2 + 1) : Int)).toNat < (99 - (v 2)).toNat
          omega
      · skip
        have ex := List.mem_singleton.mp hx
        subst ex
        obtain ⟨hF, hBd, hM⟩ := hXs
        have g1 : v2 1 = v 1 := hag 1 (by decide)
        have g2 : v2 2 = v 2 := hag 2 (by decide)
        have b0 : ((2147483648 : Nat) : Int) ≤ (v2 1) + 2147483648 ∧ (v2 1) + 2147483648 ≤ ((2147483679 : Nat) : Int) := xXb hBd 0 rfl
        have b1 : ((2147483648 : Nat) : Int) ≤ (v2 2) + 2147483648 ∧ (v2 2) + 2147483648 ≤ ((2147483678 : Nat) : Int) := xXb hBd 1 rfl
        have b2 : ((2147483649 : Nat) : Int) ≤ (v2 3) + 2147483648 ∧ (v2 3) + 2147483648 ≤ ((2147483679 : Nat) : Int) := xXb hBd 2 rfl
        have b3 : ((2147483648 : Nat) : Int) ≤ (v2 4) + 2147483648 ∧ (v2 4) + 2147483648 ≤ ((2147483648 : Nat) : Int) := xXb hBd 3 rfl
        have b4 : ((2147483649 : Nat) : Int) ≤ (v2 2 + 1) + 2147483648 ∧ (v2 2 + 1) + 2147483648 ≤ ((2147483679 : Nat) : Int) := xXb hBd 4 rfl
        have f0 : (0 : Int) ≤ 3 ∧ xE (zyEl zymc B H) 2 3 = (v2 3) := xXf hF 0 rfl
        have f1 : (v2 2) < (v2 3) := xXf hF 1 rfl
        have f2 : (0 : Int) ≤ (v2 2) ∧ xE (zyEl zymc B H) 13 (v2 2) = (v2 4) := xXf hF 2 rfl
        have f3 : (v2 4) = 0 := xXf hF 3 rfl
        have e2_3 : xE (zyEl zymc B H2) 2 3 = xE (zyEl zymc B H) 2 3 := xFr_E hfr rfl
        have q2_3 : xE (zyEl zymc B H) 2 3 = xE (zyEl zymc B s.heap) 2 3 := xFr_E hFr0 rfl
        have e13 : ∀ i, xE (zyEl zymc B H2) 13 i = xE (zyEl zymc B H) 13 i := fun i => xFr_E hfr rfl
        have q13 : ∀ i, xE (zyEl zymc B H) 13 i = xE (zyEl zymc B s.heap) 13 i := fun i => xFr_E hFr0 rfl
        have y2_3 : ((2147483648 : Nat) : Int) ≤ xE (zyEl zymc B s.heap) 2 3 + 2147483648 ∧ xE (zyEl zymc B s.heap) 2 3 + 2147483648 ≤ ((2147483679 : Nat) : Int) := xTyF hT0 2 3 3 rfl rfl rfl rfl rfl rfl
        have hI : (0 ≤ (v 2) ∧ (v 2) ≤ xE (zyEl zymc B s.heap) 2 3) ∧ (0 ≤ (v 1) ∧ (v 1) ≤ (v 2)) ∧ (v 1) = pCnt (fun k => xE (zyEl zymc B s.heap) 13 (k - 104)) 104 ((v 2)).toNat := hInv
        obtain ⟨i1, i2, i3⟩ := hI
        refine xGo hIH hAt hB hv hFr ⟨1, by decide⟩ [0, 34359738369, 68719476745] [0, (v2 1), (v2 2 + 1)] rfl ⟨by decide +kernel, ⟨rfl, by decide +kernel⟩, (xcs_c rfl (xcs_c rfl (xcs_c rfl xcs_n))), (xe_0 (xe_c (by omega) (by omega) rfl (xe_c (by omega) (by omega) rfl xe_n))), xkq_n⟩ xst_n ?_ ?_
        · show (0 ≤ ((v2 2 + 1) : Int) ∧ ((v2 2 + 1) : Int) ≤ xE (zyEl zymc B s.heap) 2 3) ∧ (0 ≤ ((v2 1) : Int) ∧ ((v2 1) : Int) ≤ ((v2 2 + 1) : Int)) ∧ ((v2 1) : Int) = pCnt (fun k => xE (zyEl zymc B s.heap) 13 (k - 104)) 104 (((v2 2 + 1) : Int)).toNat
          refine ⟨by omega, by omega, ?_⟩
          have hf := q13 (v2 2)
          rw [pCnt_s (by omega), show (v2 2) = v 2 by omega, ← i3, ← show (v2 2) = v 2 by omega, if_neg (by show ¬ 0 < xE _ _ (104 + v2 2 - 104); rw [show 104 + v2 2 - 104 = v2 2 by omega]; omega)]
          omega
        · show (99 - ((v2 2 + 1) : Int)).toNat < (99 - (v 2)).toNat
          omega
  · intro x0 E0 E E2 hrx hT0 hΦ i v hT hrv hInv hKc hFr0 x hx v2 hr2 hXs hag hfr hFr hT2
    rcases i with ⟨i, hi⟩
    have hi2 : i = 0 ∨ i = 1 := by omega
    rcases hi2 with rfl | rfl
    · cases hx
    · have hx : x ∈ [zxfcg1_br0] := hx
      have hag : ∀ k, k < 3 → v2 k = v k := hag
      have hfr : xFr [] _ _ := hfr
      have ex := List.mem_singleton.mp hx
      subst ex
      obtain ⟨hF, hBd, hM⟩ := hXs
      have g1 : v2 1 = v 1 := hag 1 (by decide)
      have g2 : v2 2 = v 2 := hag 2 (by decide)
      have b0 : ((2147483648 : Nat) : Int) ≤ (v2 1) + 2147483648 ∧ (v2 1) + 2147483648 ≤ ((2147483679 : Nat) : Int) := xXb hBd 0 rfl
      have b1 : ((2147483648 : Nat) : Int) ≤ (v2 2) + 2147483648 ∧ (v2 2) + 2147483648 ≤ ((2147483679 : Nat) : Int) := xXb hBd 1 rfl
      have b2 : ((2147483648 : Nat) : Int) ≤ (v2 3) + 2147483648 ∧ (v2 3) + 2147483648 ≤ ((2147483679 : Nat) : Int) := xXb hBd 2 rfl
      have f0 : (0 : Int) ≤ 3 ∧ xE E 2 3 = (v2 3) := xXf hF 0 rfl
      have f1 : (v2 3) ≤ (v2 2) := xXf hF 1 rfl
      have e2_3 : xE E2 2 3 = xE E 2 3 := xFr_E hfr rfl
      have q2_3 : xE E 2 3 = xE E0 2 3 := xFr_E hFr0 rfl
      have e13 : ∀ i, xE E2 13 i = xE E 13 i := fun i => xFr_E hfr rfl
      have q13 : ∀ i, xE E 13 i = xE E0 13 i := fun i => xFr_E hFr0 rfl
      have y2_3 : ((2147483648 : Nat) : Int) ≤ xE E0 2 3 + 2147483648 ∧ xE E0 2 3 + 2147483648 ≤ ((2147483679 : Nat) : Int) := xTyF hT0 2 3 3 rfl rfl rfl rfl rfl rfl
      have hI : (0 ≤ (v 2) ∧ (v 2) ≤ xE E0 2 3) ∧ (0 ≤ (v 1) ∧ (v 1) ≤ (v 2)) ∧ (v 1) = pCnt (fun k => xE E0 13 (k - 104)) 104 ((v 2)).toNat := hInv
      show xΨcg1 x0 E0 E2 (v2 1)
      obtain ⟨i1, i2, i3⟩ := hI
      unfold xΨcg1
      refine ⟨by omega, ?_⟩
      rw [show xE E0 2 3 = v2 2 by omega, show (v2 1) = v 1 by omega, show (v2 2) = v 2 by omega]
      exact i3
noncomputable def zxfcfr1_zx0 : zyXp := (0, [3, 34359738369, 68719476737], [], [], [(68719476737, 2147483648, 2147483649)], [])
noncomputable def zpfcfr1_z : zyPh := (0, [3, 34359738369, 68719476737], [(0, 4294967295), (0, 4294967295), (2147483648, 2147483649)], [], [])
noncomputable def zxfcfr1_ax0 : zyXp := (41, [3, 34359738369, 68719476737], [11], [(21, 0, 34359738369, 0), (24, 103079215105, 2, 24), (20, 0, 34359738369, 103079215105), (24, 137438953473, 13, 34359738369), (23, 0, 137438953473, 68719476737), (23, 0, 68719476737, 0)], [(34359738369, 2147483648, 2147483678), (68719476737, 2147483649, 2147483649), (103079215105, 2147483649, 2147483679), (137438953473, 2147483648, 2147483649)], [])
noncomputable def zxfcfr1_ax1 : zyXp := (55, [3, 34359738369, 68719476737], [], [(21, 0, 34359738369, 0), (24, 103079215105, 2, 24), (20, 0, 34359738369, 103079215105), (24, 137438953473, 13, 34359738369), (23, 0, 137438953473, 68719476737), (22, 0, 68719476737, 0)], [(34359738369, 2147483648, 2147483678), (68719476737, 2147483648, 2147483648), (103079215105, 2147483649, 2147483679), (137438953473, 2147483648, 2147483649)], [])
noncomputable def zxfcfr1_ar0 : zyXp := (0, [], [34359738360], [(20, 0, 34359738369, 0)], [(34359738369, 0, 2147483647)], [])
noncomputable def zxfcfr1_ar1 : zyXp := (0, [], [34359738360], [(21, 0, 34359738369, 0), (24, 103079215105, 2, 24), (20, 0, 34359738369, 103079215105), (24, 137438953473, 13, 34359738369), (22, 0, 137438953473, 68719476737)], [(34359738369, 2147483648, 2147483678), (68719476737, 2147483648, 2147483649), (103079215105, 2147483649, 2147483679), (137438953473, 2147483648, 2147483649)], [])
noncomputable def zxfcfr1_ar2 : zyXp := (0, [], [34359738360], [(21, 0, 34359738369, 0), (24, 103079215105, 2, 24), (21, 0, 34359738369, 103079215105)], [(34359738369, 2147483648, 4294967295), (103079215105, 2147483648, 2147483679)], [])
noncomputable def zpfcfr1_a : zyPh := (0, [3, 34359738369, 68719476737], [(0, 4294967295), (0, 4294967295), (2147483648, 2147483649)], [(1, 11)], [])
noncomputable def zxfcfr1_bx0 : zyXp := (55, [3, 34359738369, 68719476737], [], [(20, 0, 103079215105, 48)], [(34359738369, 2147483648, 2147483678), (68719476737, 2147483648, 2147483649), (103079215105, 0, 2147483653)], [])
noncomputable def zxfcfr1_br0 : zyXp := (0, [], [34359738360], [(21, 0, 103079215105, 48)], [(103079215105, 2147483654, 4294967295)], [])
noncomputable def zpfcfr1_b : zyPh := (44, [3, 34359738369, 68719476737], [(0, 4294967295), (2147483648, 2147483678), (2147483648, 2147483649), (0, 4294967295)], [], [103079215105])
noncomputable def zxfcfr1_cx0 : zyXp := (55, [3, 34359738369, 68719476737], [], [], [(34359738369, 2147483648, 2147483678), (68719476737, 2147483648, 2147483649)], [])
noncomputable def zpfcfr1_c : zyPh := (55, [3, 34359738369, 68719476737], [(0, 4294967295), (2147483648, 2147483678), (2147483648, 2147483649)], [], [])
noncomputable def zxfcfr1_c2x0 : zyXp := (64, [3, 34359738369, 68719476737], [68719476737, 34359738369, 107], [], [(34359738369, 2147483648, 2147483678), (68719476737, 2147483648, 2147483649)], [])
noncomputable def zpfcfr1_c2 : zyPh := (55, [3, 34359738369, 68719476737], [(0, 4294967295), (2147483648, 2147483678), (2147483648, 2147483649)], [(1, 11)], [])
noncomputable def zxfcfr1_dx0 : zyXp := (70, [3, 13, 13], [11, 3], [], [], [])
noncomputable def zpfcfr1_d : zyPh := (65, [3, 13, 13], [(0, 4294967295), (0, 4294967295), (0, 4294967295)], [(1, 11)], [])
noncomputable def zxfcfr1_er0 : zyXp := (0, [], [103079215105], [], [], [])
noncomputable def zpfcfr1_e : zyPh := (73, [3, 13, 13], [(0, 4294967295), (0, 4294967295), (0, 4294967295), (0, 4294967295)], [], [103079215105, 3])
noncomputable def zpfcfr1 (i : Nat) : zyPh := zif (Nat.beq i 0) (zpfcfr1_z) (zif (Nat.beq i 1) (zpfcfr1_a) (zif (Nat.beq i 2) (zpfcfr1_b) (zif (Nat.beq i 3) (zpfcfr1_c) (zif (Nat.beq i 4) (zpfcfr1_c2) (zif (Nat.beq i 5) (zpfcfr1_d) (zpfcfr1_e))))))
noncomputable def zXfcfr1 (i : Nat) : List zyXp := zif (Nat.beq i 0) ([zxfcfr1_zx0]) (zif (Nat.beq i 1) ([zxfcfr1_ax0, zxfcfr1_ax1]) (zif (Nat.beq i 2) ([zxfcfr1_bx0]) (zif (Nat.beq i 3) ([zxfcfr1_cx0]) (zif (Nat.beq i 4) ([zxfcfr1_c2x0]) (zif (Nat.beq i 5) ([zxfcfr1_dx0]) ([]))))))
noncomputable def zRfcfr1 (i : Nat) : List zyXp := zif (Nat.beq i 0) ([]) (zif (Nat.beq i 1) ([zxfcfr1_ar0, zxfcfr1_ar1, zxfcfr1_ar2]) (zif (Nat.beq i 2) ([zxfcfr1_br0]) (zif (Nat.beq i 3) ([]) (zif (Nat.beq i 4) ([]) (zif (Nat.beq i 5) ([]) ([zxfcfr1_er0]))))))
noncomputable def zFfcfr1 (i : Nat) : zyR := zif (Nat.beq i 0) ([]) (zif (Nat.beq i 1) ([(0, 0, 0)]) (zif (Nat.beq i 2) ([(0, 0, 0)]) (zif (Nat.beq i 3) ([]) (zif (Nat.beq i 4) ([]) (zif (Nat.beq i 5) ([]) ([(0, 0, 0)]))))))
noncomputable def zSfcfr1 (i : Nat) : Nat := zif (Nat.beq i 0) (0) (zif (Nat.beq i 1) (0) (zif (Nat.beq i 2) (0) (zif (Nat.beq i 3) (0) (zif (Nat.beq i 4) (0) (zif (Nat.beq i 5) (0) (0))))))
def xΦcfr1 (B : zCx) (x : Nat → Int) (E : zyEm) : Prop := E 0 1 = some (.ref (zad B 1)) ∧ 0 ≤ x 1 ∧ x 1 ≤ 1
def xVf1 (x : Nat → Int) (E : zyEm) : Prop := (0 ≤ x 0 ∧ x 0 < xE E 2 3) ∧ ¬ xE E 13 (x 0) = x 1 ∧ ¬ (x 1 = 1 ∧ 6 ≤ pCnt (fun k => xE E 13 (k - 104)) 104 (xE E 2 3).toNat)
def xΨcfr1 (x : Nat → Int) (E E2 : zyEm) (r : Int) : Prop := (xVf1 x E → r = pCnt (fun k => uS (xE E 13) (x 0) (x 1) (k - 104)) 104 (xE E 2 3).toNat ∧ ∀ k, 0 ≤ k → xE E2 13 k = uS (xE E 13) (x 0) (x 1) k) ∧ (¬ xVf1 x E → r = -1 ∧ ∀ k, 0 ≤ k → xE E2 13 k = xE E 13 k)
noncomputable def fpfcfr1 : zyR := [(0, 0, 0), (13, 0, 30)]
theorem zyfcfr1_run : zyrS zymc zxi131 (131, 0, 0, 1, 0) 4 zpfcfr1 (fun _ _ => []) zFfcfr1 zSfcfr1 zXfcfr1 zRfcfr1 7 = true := by decide +kernel
theorem zyfcfr1_ck : zyAll (fun i => xsubR (zFfcfr1 i) fpfcfr1 && ((zXfcfr1 i).all xckX && (zRfcfr1 i).all (fun x => xckX x && xrtB true x))) 7 = true := by decide +kernel
def xIfcfr1 (i : Nat) (x0 : Nat → Int) (E0 : zyEm) (v : Nat → Int) (E : zyEm) : Prop := if i = 0 then (E = E0 ∧ (v 1) = x0 0 ∧ (v 2) = x0 1) else if i = 1 then (E = E0 ∧ (v 1) = x0 0 ∧ (v 2) = x0 1) else if i = 2 then (((v 2) = 1) ∧ (0 ≤ x0 0 ∧ x0 0 < xE E0 2 3) ∧ ¬ xE E0 13 (x0 0) = x0 1 ∧ (v 3) = pCnt (fun k => xE E0 13 (k - 104)) 104 (xE E0 2 3).toNat ∧ (∀ k, 0 ≤ k → xE E 13 k = xE E0 13 k) ∧ (v 1) = x0 0 ∧ (v 2) = x0 1) else if i = 3 then (xVf1 x0 E0 ∧ (∀ k, 0 ≤ k → xE E 13 k = xE E0 13 k) ∧ (v 1) = x0 0 ∧ (v 2) = x0 1) else if i = 4 then (xVf1 x0 E0 ∧ (∀ k, 0 ≤ k → xE E 13 k = xE E0 13 k) ∧ (v 1) = x0 0 ∧ (v 2) = x0 1) else if i = 5 then (xVf1 x0 E0 ∧ (∀ k, 0 ≤ k → xE E 13 k = uS (xE E0 13) (x0 0) (x0 1) k)) else (xVf1 x0 E0 ∧ (∀ k, 0 ≤ k → xE E 13 k = uS (xE E0 13) (x0 0) (x0 1) k) ∧ (v 3) = pCnt (fun k => uS (xE E0 13) (x0 0) (x0 1) (k - 104)) 104 (xE E0 2 3).toNat)
def xMfcfr1 (i : Nat) (x0 : Nat → Int) (E0 : zyEm) (v : Nat → Int) (E : zyEm) : Nat := if i = 0 then (9) else if i = 1 then (8) else if i = 2 then (7) else if i = 3 then (6) else if i = 4 then (5) else if i = 5 then (4) else (3)
theorem xCfr1 {l : Launch} {en : zEn} {me : zMe} (hen : zG zxMeta 131 = some en) (hme : zG zMeth 131 = some me) : ∀ B, xFcB l zymc B en me 4 [0] 2 fpfcfr1 true (xΦcfr1 B) xΨcfr1 := by
  have een : zG zxMeta 131 = some (zxi131, 3, 3, 10, 131, 0, 0, 1, 0) := rfl
  obtain ⟨me1, hme1, hOK⟩ := zall hen
  rw [hme] at hme1
  cases hme1
  rw [een] at hen
  cases hen
  have hr := zyfcfr1_run
  have hck := fun i hi => zyAll_iff zyfcfr1_ck i hi
  simp only [Bool.and_eq_true] at hck
  obtain ⟨mefcg1, hmefcg1, -⟩ := zall (show zG zxMeta 35 = some (zxi35, 1, 3, 3, 35, 0, 0, 1, 0) from rfl)
  have hfcg1 := xCg1 (l := l) (show zG zxMeta 35 = some (zxi35, 1, 3, 3, 35, 0, 0, 1, 0) from rfl) hmefcg1
  intro B
  refine xcut (mi := zymc) (B := B) hOK rfl rfl (ι := Fin 7) (fun i => zpfcfr1 i.val) (fun _ _ => []) (fun i => zFfcfr1 i.val) (fun i => zSfcfr1 i.val) (fun i => zXfcfr1 i.val) (fun i => zRfcfr1 i.val) (fun i y2 ct en2 me2 h => by cases h) 200000 (fun i => zyAll_iff hr i.val i.isLt) (fun i => (hck i.val i.isLt).1) (fun i => (hck i.val i.isLt).2.1) (fun i => (hck i.val i.isLt).2.2) ⟨0, by decide⟩ ⟨rfl, rfl, rfl, rfl⟩ ⟨by decide, by decide⟩ (fun i x0 E0 v E => xIfcfr1 i.val x0 E0 v E) (fun i x0 E0 v E => xMfcfr1 i.val x0 E0 v E) ?_ ?_ ?_
  · intro x0 E hx0 hT hΦ
    have hΦ : (xΦcfr1 B) x0 E := hΦ
    refine ⟨fun k p hp => ?_, ?_⟩
    · have hk : k < 3 := (List.getElem?_eq_some_iff.mp hp).1
      have hk : k = 0 ∨ k = 1 ∨ k = 2 := by omega
      rcases hk with rfl | rfl | rfl
      · have hp : some (0, 4294967295) = some p := hp
        cases hp
        show ((0 : Nat) : Int) ≤ 0 + 2147483648 ∧ 0 + 2147483648 ≤ ((4294967295 : Nat) : Int)
        omega
      · have hp : some (0, 4294967295) = some p := hp
        cases hp
        show ((0 : Nat) : Int) ≤ x0 0 + 2147483648 ∧ x0 0 + 2147483648 ≤ ((4294967295 : Nat) : Int)
        have hx := hx0 0
        omega
      · have hp : some (2147483648, 2147483649) = some p := hp
        cases hp
        show ((2147483648 : Nat) : Int) ≤ x0 1 + 2147483648 ∧ x0 1 + 2147483648 ≤ ((2147483649 : Nat) : Int)
        have hx := hx0 1
        have hP := hΦ.2
        omega
    · show E = E ∧ (x0 0) = x0 0 ∧ (x0 1) = x0 1
      exact ⟨rfl, rfl, rfl⟩
  · intro x0 s Wg hRu hrx hT0 hΦ i v H hT hrv hInv hKc hFr0 hIH x hx ρ2 v2 N2 H2 locs lsB stA hAt hB hv hr2 hXs hag hfr hFr hT2
    rcases i with ⟨i, hi⟩
    have hi2 : i = 0 ∨ i = 1 ∨ i = 2 ∨ i = 3 ∨ i = 4 ∨ i = 5 ∨ i = 6 := by omega
    rcases hi2 with rfl | rfl | rfl | rfl | rfl | rfl | rfl
    · have hx : x ∈ [zxfcfr1_zx0] := hx
      have hag : ∀ k, k < 3 → v2 k = v k := hag
      have hfr : xFr [] _ _ := hfr
      have ex := List.mem_singleton.mp hx
      subst ex
      obtain ⟨hF, hBd, hM⟩ := hXs
      have r1 := hr2 1
      have g1 : v2 1 = v 1 := hag 1 (by decide)
      have g2 : v2 2 = v 2 := hag 2 (by decide)
      have b0 : ((2147483648 : Nat) : Int) ≤ (v2 2) + 2147483648 ∧ (v2 2) + 2147483648 ≤ ((2147483649 : Nat) : Int) := xXb hBd 0 rfl
      have e2_3 : xE (zyEl zymc B H2) 2 3 = xE (zyEl zymc B H) 2 3 := xFr_E hfr rfl
      have q2_3 : xE (zyEl zymc B H) 2 3 = xE (zyEl zymc B s.heap) 2 3 := xFr_E hFr0 rfl
      have e13 : ∀ i, xE (zyEl zymc B H2) 13 i = xE (zyEl zymc B H) 13 i := fun i => xFr_E hfr rfl
      have hI : (zyEl zymc B H) = (zyEl zymc B s.heap) ∧ (v 1) = x0 0 ∧ (v 2) = x0 1 := hInv
      have q13 : ∀ i, xE (zyEl zymc B H) 13 i = xE (zyEl zymc B s.heap) 13 i := fun i => by rw [hI.1]
      obtain ⟨hE, i1, i2⟩ := hI
      refine xGo hIH hAt hB hv hFr ⟨1, by decide⟩ [0, 34359738369, 68719476737] [0, (v2 1), (v2 2)] rfl ⟨by decide +kernel, ⟨rfl, by decide +kernel⟩, (xcs_c rfl (xcs_c rfl (xcs_c rfl xcs_n))), (xe_0 (xe_f (by omega) (xe_c (by omega) (by omega) rfl xe_n))), (xkq_r 0 1 1 rfl rfl rfl rfl rfl (by rw [xFr_n hfr, hE]; exact hΦ.1) xkq_n)⟩ xst_n ?_ ?_
      · show (zyEl zymc B H2) = (zyEl zymc B s.heap) ∧ ((v2 1) : Int) = x0 0 ∧ ((v2 2) : Int) = x0 1
        exact ⟨(xFr_n hfr).trans hE, by omega, by omega⟩
      · show 8 < 9
        omega
    · have hx : x ∈ [zxfcfr1_ax0, zxfcfr1_ax1] := hx
      have hag : ∀ k, k < 3 → v2 k = v k := hag
      have hfr : xFr [(0, 0, 0)] _ _ := hfr
      rcases List.mem_cons.mp hx with ex | hx
      · subst ex
        obtain ⟨hF, hBd, hM⟩ := hXs
        have g1 : v2 1 = v 1 := hag 1 (by decide)
        have g2 : v2 2 = v 2 := hag 2 (by decide)
        have b0 : ((2147483648 : Nat) : Int) ≤ (v2 1) + 2147483648 ∧ (v2 1) + 2147483648 ≤ ((2147483678 : Nat) : Int) := xXb hBd 0 rfl
        have b1 : ((2147483649 : Nat) : Int) ≤ (v2 2) + 2147483648 ∧ (v2 2) + 2147483648 ≤ ((2147483649 : Nat) : Int) := xXb hBd 1 rfl
        have b2 : ((2147483649 : Nat) : Int) ≤ (v2 3) + 2147483648 ∧ (v2 3) + 2147483648 ≤ ((2147483679 : Nat) : Int) := xXb hBd 2 rfl
        have b3 : ((2147483648 : Nat) : Int) ≤ (v2 4) + 2147483648 ∧ (v2 4) + 2147483648 ≤ ((2147483649 : Nat) : Int) := xXb hBd 3 rfl
        have f0 : 0 ≤ (v2 1) := xXf hF 0 rfl
        have f1 : (0 : Int) ≤ 3 ∧ xE (zyEl zymc B H) 2 3 = (v2 3) := xXf hF 1 rfl
        have f2 : (v2 1) < (v2 3) := xXf hF 2 rfl
        have f3 : (0 : Int) ≤ (v2 1) ∧ xE (zyEl zymc B H) 13 (v2 1) = (v2 4) := xXf hF 3 rfl
        have f4 : ¬ (v2 4) = (v2 2) := xXf hF 4 rfl
        have f5 : ¬ (v2 2) = 0 := xXf hF 5 rfl
        have e2_3 : xE (zyEl zymc B H2) 2 3 = xE (zyEl zymc B H) 2 3 := xFr_E hfr rfl
        have q2_3 : xE (zyEl zymc B H) 2 3 = xE (zyEl zymc B s.heap) 2 3 := xFr_E hFr0 rfl
        have e13 : ∀ i, xE (zyEl zymc B H2) 13 i = xE (zyEl zymc B H) 13 i := fun i => xFr_E hfr rfl
        have hI : (zyEl zymc B H) = (zyEl zymc B s.heap) ∧ (v 1) = x0 0 ∧ (v 2) = x0 1 := hInv
        have q13 : ∀ i, xE (zyEl zymc B H) 13 i = xE (zyEl zymc B s.heap) 13 i := fun i => by rw [hI.1]
        obtain ⟨hE, i1, i2⟩ := hI
        have hSW := q2_3
        have c3 : xE (zyEl zymc B s.heap) 13 ((v2 1)) = (v2 4) := (q13 _).symm.trans f3.2
        rw [show (v2 1) = x0 0 by omega] at c3
        have hN : xE (zyEl zymc B H2) 2 3 = xE (zyEl zymc B s.heap) 2 3 := by omega
        have hf0 : (fun k => xE (zyEl zymc B H2) 13 (k - 104)) = (fun k => xE (zyEl zymc B s.heap) 13 (k - 104)) := funext fun k => (e13 _).trans (q13 _)
        refine xCa hRu hIH hAt hB hv hFr (hfcg1 B) (ix := 149) (ax := 561) rfl rfl rfl hmefcg1 ⟨_, rfl, rfl, by decide⟩ ⟨rfl, rfl, rfl⟩ (by decide) [] [] [] rfl ⟨rfl, rfl⟩ (by decide +kernel) xcs_n (by decide +kernel) ?_ (fun H3 r hT3 hf3 hFr3 hr3 hΨ3 => ?_)
        · show xΦcg1 (xfv []) (zyEl zymc B H2)
          exact trivial
        · have hΨ3 : xΨcg1 (xfv []) (zyEl zymc B H2) (zyEl zymc B H3) r := hΨ3
          have d2_3 : xE (zyEl zymc B H3) 2 3 = xE (zyEl zymc B H2) 2 3 := xFr_E hf3 rfl
          have d13 : ∀ i, xE (zyEl zymc B H3) 13 i = xE (zyEl zymc B H2) 13 i := fun i => xFr_E hf3 rfl
          obtain ⟨w1, w2⟩ := hΨ3
          rw [hN, hf0] at w2
          have hEE3 := xFr_n hf3
          refine ⟨⟨2, by decide⟩, [0, 34359738369, 68719476737], [0, (v2 1), (v2 2), r], rfl, ⟨by decide +kernel, ⟨rfl, by decide +kernel⟩, (xcs_c rfl (xcs_c rfl (xcs_c rfl xcs_n))), (xe_0 (xe_c (by omega) (by omega) rfl (xe_c (by omega) (by omega) rfl (xe_f (by omega) xe_n)))), xkq_n⟩, (by rw [if_pos rfl]; exact ⟨3, [], rfl, by decide, rfl, xst_n⟩), ?_, ?_⟩
          · show (((v2 2) : Int) = 1) ∧ (0 ≤ x0 0 ∧ x0 0 < xE (zyEl zymc B s.heap) 2 3) ∧ ¬ xE (zyEl zymc B s.heap) 13 (x0 0) = x0 1 ∧ (r : Int) = pCnt (fun k => xE (zyEl zymc B s.heap) 13 (k - 104)) 104 (xE (zyEl zymc B s.heap) 2 3).toNat ∧ (∀ k, 0 ≤ k → xE (zyEl zymc B H3) 13 k = xE (zyEl zymc B s.heap) 13 k) ∧ ((v2 1) : Int) = x0 0 ∧ ((v2 2) : Int) = x0 1
            refine ⟨by omega, ⟨by omega, by omega⟩, by omega, w2, fun k k0 => ?_, by omega, by omega⟩
            rw [hEE3]
            exact (e13 k).trans (q13 k)
          · show 7 < 8
            omega
      · skip
        have ex := List.mem_singleton.mp hx
        subst ex
        obtain ⟨hF, hBd, hM⟩ := hXs
        have g1 : v2 1 = v 1 := hag 1 (by decide)
        have g2 : v2 2 = v 2 := hag 2 (by decide)
        have b0 : ((2147483648 : Nat) : Int) ≤ (v2 1) + 2147483648 ∧ (v2 1) + 2147483648 ≤ ((2147483678 : Nat) : Int) := xXb hBd 0 rfl
        have b1 : ((2147483648 : Nat) : Int) ≤ (v2 2) + 2147483648 ∧ (v2 2) + 2147483648 ≤ ((2147483648 : Nat) : Int) := xXb hBd 1 rfl
        have b2 : ((2147483649 : Nat) : Int) ≤ (v2 3) + 2147483648 ∧ (v2 3) + 2147483648 ≤ ((2147483679 : Nat) : Int) := xXb hBd 2 rfl
        have b3 : ((2147483648 : Nat) : Int) ≤ (v2 4) + 2147483648 ∧ (v2 4) + 2147483648 ≤ ((2147483649 : Nat) : Int) := xXb hBd 3 rfl
        have f0 : 0 ≤ (v2 1) := xXf hF 0 rfl
        have f1 : (0 : Int) ≤ 3 ∧ xE (zyEl zymc B H) 2 3 = (v2 3) := xXf hF 1 rfl
        have f2 : (v2 1) < (v2 3) := xXf hF 2 rfl
        have f3 : (0 : Int) ≤ (v2 1) ∧ xE (zyEl zymc B H) 13 (v2 1) = (v2 4) := xXf hF 3 rfl
        have f4 : ¬ (v2 4) = (v2 2) := xXf hF 4 rfl
        have f5 : (v2 2) = 0 := xXf hF 5 rfl
        have e2_3 : xE (zyEl zymc B H2) 2 3 = xE (zyEl zymc B H) 2 3 := xFr_E hfr rfl
        have q2_3 : xE (zyEl zymc B H) 2 3 = xE (zyEl zymc B s.heap) 2 3 := xFr_E hFr0 rfl
        have e13 : ∀ i, xE (zyEl zymc B H2) 13 i = xE (zyEl zymc B H) 13 i := fun i => xFr_E hfr rfl
        have hI : (zyEl zymc B H) = (zyEl zymc B s.heap) ∧ (v 1) = x0 0 ∧ (v 2) = x0 1 := hInv
        have q13 : ∀ i, xE (zyEl zymc B H) 13 i = xE (zyEl zymc B s.heap) 13 i := fun i => by rw [hI.1]
        obtain ⟨hE, i1, i2⟩ := hI
        have hSW := q2_3
        have c3 : xE (zyEl zymc B s.heap) 13 ((v2 1)) = (v2 4) := (q13 _).symm.trans f3.2
        rw [show (v2 1) = x0 0 by omega] at c3
        have hvl : xVf1 x0 (zyEl zymc B s.heap) := by
          unfold xVf1
          refine ⟨⟨by omega, by omega⟩, by omega, by omega⟩
        refine xGo hIH hAt hB hv hFr ⟨3, by decide⟩ [0, 34359738369, 68719476737] [0, (v2 1), (v2 2)] rfl ⟨by decide +kernel, ⟨rfl, by decide +kernel⟩, (xcs_c rfl (xcs_c rfl (xcs_c rfl xcs_n))), (xe_0 (xe_c (by omega) (by omega) rfl (xe_c (by omega) (by omega) rfl xe_n))), xkq_n⟩ xst_n ?_ ?_
        · show xVf1 x0 (zyEl zymc B s.heap) ∧ (∀ k, 0 ≤ k → xE (zyEl zymc B H2) 13 k = xE (zyEl zymc B s.heap) 13 k) ∧ ((v2 1) : Int) = x0 0 ∧ ((v2 2) : Int) = x0 1
          exact ⟨hvl, fun k _ => (e13 k).trans (q13 k), by omega, by omega⟩
        · show 6 < 8
          omega
    · have hx : x ∈ [zxfcfr1_bx0] := hx
      have hag : ∀ k, k < 4 → v2 k = v k := hag
      have hfr : xFr [(0, 0, 0)] _ _ := hfr
      have ex := List.mem_singleton.mp hx
      subst ex
      obtain ⟨hF, hBd, hM⟩ := hXs
      have g1 : v2 1 = v 1 := hag 1 (by decide)
      have g2 : v2 2 = v 2 := hag 2 (by decide)
      have g3 : v2 3 = v 3 := hag 3 (by decide)
      have b0 : ((2147483648 : Nat) : Int) ≤ (v2 1) + 2147483648 ∧ (v2 1) + 2147483648 ≤ ((2147483678 : Nat) : Int) := xXb hBd 0 rfl
      have b1 : ((2147483648 : Nat) : Int) ≤ (v2 2) + 2147483648 ∧ (v2 2) + 2147483648 ≤ ((2147483649 : Nat) : Int) := xXb hBd 1 rfl
      have b2 : ((0 : Nat) : Int) ≤ (v2 3) + 2147483648 ∧ (v2 3) + 2147483648 ≤ ((2147483653 : Nat) : Int) := xXb hBd 2 rfl
      have f0 : (v2 3) < 6 := xXf hF 0 rfl
      have e2_3 : xE (zyEl zymc B H2) 2 3 = xE (zyEl zymc B H) 2 3 := xFr_E hfr rfl
      have q2_3 : xE (zyEl zymc B H) 2 3 = xE (zyEl zymc B s.heap) 2 3 := xFr_E hFr0 rfl
      have e13 : ∀ i, xE (zyEl zymc B H2) 13 i = xE (zyEl zymc B H) 13 i := fun i => xFr_E hfr rfl
      have hI : ((v 2) = 1) ∧ (0 ≤ x0 0 ∧ x0 0 < xE (zyEl zymc B s.heap) 2 3) ∧ ¬ xE (zyEl zymc B s.heap) 13 (x0 0) = x0 1 ∧ (v 3) = pCnt (fun k => xE (zyEl zymc B s.heap) 13 (k - 104)) 104 (xE (zyEl zymc B s.heap) 2 3).toNat ∧ (∀ k, 0 ≤ k → xE (zyEl zymc B H) 13 k = xE (zyEl zymc B s.heap) 13 k) ∧ (v 1) = x0 0 ∧ (v 2) = x0 1 := hInv
      obtain ⟨j1, j2, j3, j4, hc, i1, i2⟩ := hI
      have hvl : xVf1 x0 (zyEl zymc B s.heap) := by
        unfold xVf1
        refine ⟨⟨by omega, by omega⟩, by omega, by omega⟩
      refine xGo hIH hAt hB hv hFr ⟨3, by decide⟩ [0, 34359738369, 68719476737] [0, (v2 1), (v2 2)] rfl ⟨by decide +kernel, ⟨rfl, by decide +kernel⟩, (xcs_c rfl (xcs_c rfl (xcs_c rfl xcs_n))), (xe_0 (xe_c (by omega) (by omega) rfl (xe_c (by omega) (by omega) rfl xe_n))), xkq_n⟩ xst_n ?_ ?_
      · show xVf1 x0 (zyEl zymc B s.heap) ∧ (∀ k, 0 ≤ k → xE (zyEl zymc B H2) 13 k = xE (zyEl zymc B s.heap) 13 k) ∧ ((v2 1) : Int) = x0 0 ∧ ((v2 2) : Int) = x0 1
        exact ⟨hvl, fun k k0 => (e13 k).trans (hc k k0), by omega, by omega⟩
      · show 6 < 7
        omega
    · have hx : x ∈ [zxfcfr1_cx0] := hx
      have hag : ∀ k, k < 3 → v2 k = v k := hag
      have hfr : xFr [] _ _ := hfr
      have ex := List.mem_singleton.mp hx
      subst ex
      obtain ⟨hF, hBd, hM⟩ := hXs
      have g1 : v2 1 = v 1 := hag 1 (by decide)
      have g2 : v2 2 = v 2 := hag 2 (by decide)
      have b0 : ((2147483648 : Nat) : Int) ≤ (v2 1) + 2147483648 ∧ (v2 1) + 2147483648 ≤ ((2147483678 : Nat) : Int) := xXb hBd 0 rfl
      have b1 : ((2147483648 : Nat) : Int) ≤ (v2 2) + 2147483648 ∧ (v2 2) + 2147483648 ≤ ((2147483649 : Nat) : Int) := xXb hBd 1 rfl
      have e2_3 : xE (zyEl zymc B H2) 2 3 = xE (zyEl zymc B H) 2 3 := xFr_E hfr rfl
      have q2_3 : xE (zyEl zymc B H) 2 3 = xE (zyEl zymc B s.heap) 2 3 := xFr_E hFr0 rfl
      have e13 : ∀ i, xE (zyEl zymc B H2) 13 i = xE (zyEl zymc B H) 13 i := fun i => xFr_E hfr rfl
      have hI : xVf1 x0 (zyEl zymc B s.heap) ∧ (∀ k, 0 ≤ k → xE (zyEl zymc B H) 13 k = xE (zyEl zymc B s.heap) 13 k) ∧ (v 1) = x0 0 ∧ (v 2) = x0 1 := hInv
      obtain ⟨hvl, hc, i1, i2⟩ := hI
      refine xGo hIH hAt hB hv hFr ⟨4, by decide⟩ [0, 34359738369, 68719476737] [0, (v2 1), (v2 2)] rfl ⟨by decide +kernel, ⟨rfl, by decide +kernel⟩, (xcs_c rfl (xcs_c rfl (xcs_c rfl xcs_n))), (xe_0 (xe_c (by omega) (by omega) rfl (xe_c (by omega) (by omega) rfl xe_n))), (xkq_r 0 1 1 rfl rfl rfl rfl rfl ((hfr 0 1 rfl).trans ((hFr0 0 1 rfl).trans hΦ.1)) xkq_n)⟩ xst_n ?_ ?_
      · show xVf1 x0 (zyEl zymc B s.heap) ∧ (∀ k, 0 ≤ k → xE (zyEl zymc B H2) 13 k = xE (zyEl zymc B s.heap) 13 k) ∧ ((v2 1) : Int) = x0 0 ∧ ((v2 2) : Int) = x0 1
        exact ⟨hvl, fun k k0 => (e13 k).trans (hc k k0), by omega, by omega⟩
      · show 5 < 6
        omega
    · have hx : x ∈ [zxfcfr1_c2x0] := hx
      have hag : ∀ k, k < 3 → v2 k = v k := hag
      have hfr : xFr [] _ _ := hfr
      have ex := List.mem_singleton.mp hx
      subst ex
      obtain ⟨hF, hBd, hM⟩ := hXs
      have g1 : v2 1 = v 1 := hag 1 (by decide)
      have g2 : v2 2 = v 2 := hag 2 (by decide)
      have b0 : ((2147483648 : Nat) : Int) ≤ (v2 1) + 2147483648 ∧ (v2 1) + 2147483648 ≤ ((2147483678 : Nat) : Int) := xXb hBd 0 rfl
      have b1 : ((2147483648 : Nat) : Int) ≤ (v2 2) + 2147483648 ∧ (v2 2) + 2147483648 ≤ ((2147483649 : Nat) : Int) := xXb hBd 1 rfl
      have e2_3 : xE (zyEl zymc B H2) 2 3 = xE (zyEl zymc B H) 2 3 := xFr_E hfr rfl
      have q2_3 : xE (zyEl zymc B H) 2 3 = xE (zyEl zymc B s.heap) 2 3 := xFr_E hFr0 rfl
      have e13 : ∀ i, xE (zyEl zymc B H2) 13 i = xE (zyEl zymc B H) 13 i := fun i => xFr_E hfr rfl
      have hI : xVf1 x0 (zyEl zymc B s.heap) ∧ (∀ k, 0 ≤ k → xE (zyEl zymc B H) 13 k = xE (zyEl zymc B s.heap) 13 k) ∧ (v 1) = x0 0 ∧ (v 2) = x0 1 := hInv
      obtain ⟨hvl, hc, i1, i2⟩ := hI
      refine xSt hRu hIH hAt hB hv hFr 13 (ax := 0) 68719476737 34359738369 (v2 2) (v2 1) rfl (Or.inr (Or.inr ⟨rfl, rfl, by omega, by omega⟩)) rfl (by decide +kernel) rfl rfl (by omega) (by show (v2 1) < ((31 : Nat) : Int); omega) (fun r hr q1 q2 => by rw [List.mem_singleton.mp hr]; exact ⟨rfl, by show ((2147483648 : Nat) : Int) ≤ (v2 2) + 2147483648; omega, by show (v2 2) + 2147483648 ≤ ((2147483649 : Nat) : Int); omega⟩) (zyin_iff.mpr ⟨(13, 0, 30), by decide, rfl, (by show 0 ≤ Int.toNat (v2 1); omega), by show Int.toNat (v2 1) ≤ 30; omega⟩) (fun H3 hT3 hst3 hne3 hfn3 hFr3 => ?_)
      have hfe3 : ∀ (a2 : Nat) (k2 : Int), ¬ a2 = 13 → xE (zyEl zymc B H3) a2 k2 = xE (zyEl zymc B H2) a2 k2 := fun a2 k2 hne => by unfold xE; rw [hfn3 a2 k2.toNat (fun z => hne z.1)]
      have d2_3 : xE (zyEl zymc B H3) 2 3 = xE (zyEl zymc B H2) 2 3 := hfe3 2 3 (fun z => absurd z (by decide))
      refine ⟨⟨5, by decide⟩, [0, 0, 0], [0, 0, 0], rfl, ⟨by decide +kernel, ⟨rfl, by decide +kernel⟩, (xcs_c rfl (xcs_c rfl (xcs_c rfl xcs_n))), (xe_0 (xe_0 (xe_0 xe_n))), (xkq_r 0 1 1 rfl rfl rfl rfl rfl ((hfn3 0 1 (fun z => absurd z.1 (by decide))).trans ((hfr 0 1 rfl).trans ((hFr0 0 1 rfl).trans hΦ.1))) xkq_n)⟩, rfl, ?_, ?_⟩
      · show xVf1 x0 (zyEl zymc B s.heap) ∧ (∀ k, 0 ≤ k → xE (zyEl zymc B H3) 13 k = uS (xE (zyEl zymc B s.heap) 13) (x0 0) (x0 1) k)
        refine ⟨hvl, fun k k0 => ?_⟩
        by_cases e : k = x0 0
        · rw [uS_e e, e, show x0 0 = (v2 1) by omega, hst3] <;> omega
        · rw [uS_n e, hne3 13 k k0 (fun z => e (by omega)), e13]
          exact hc k k0
      · show 4 < 5
        omega
    · have hx : x ∈ [zxfcfr1_dx0] := hx
      have hag : ∀ k, k < 3 → v2 k = v k := hag
      have hfr : xFr [] _ _ := hfr
      have ex := List.mem_singleton.mp hx
      subst ex
      obtain ⟨hF, hBd, hM⟩ := hXs
      have e2_3 : xE (zyEl zymc B H2) 2 3 = xE (zyEl zymc B H) 2 3 := xFr_E hfr rfl
      have q2_3 : xE (zyEl zymc B H) 2 3 = xE (zyEl zymc B s.heap) 2 3 := xFr_E hFr0 rfl
      have e13 : ∀ i, xE (zyEl zymc B H2) 13 i = xE (zyEl zymc B H) 13 i := fun i => xFr_E hfr rfl
      have hI : xVf1 x0 (zyEl zymc B s.heap) ∧ (∀ k, 0 ≤ k → xE (zyEl zymc B H) 13 k = uS (xE (zyEl zymc B s.heap) 13) (x0 0) (x0 1) k) := hInv
      obtain ⟨hvl, hc⟩ := hI
      refine xCa hRu hIH hAt hB hv hFr (hfcg1 B) (ix := 149) (ax := 561) rfl rfl rfl hmefcg1 ⟨_, rfl, rfl, by decide⟩ ⟨rfl, rfl, rfl⟩ (by decide) [] [3] [] rfl ⟨rfl, rfl⟩ (by decide +kernel) xcs_n (by decide +kernel) ?_ (fun H3 r hT3 hf3 hFr3 hr3 hΨ3 => ?_)
      · show xΦcg1 (xfv []) (zyEl zymc B H2)
        exact trivial
      · have hΨ3 : xΨcg1 (xfv []) (zyEl zymc B H2) (zyEl zymc B H3) r := hΨ3
        have d2_3 : xE (zyEl zymc B H3) 2 3 = xE (zyEl zymc B H2) 2 3 := xFr_E hf3 rfl
        have d13 : ∀ i, xE (zyEl zymc B H3) 13 i = xE (zyEl zymc B H2) 13 i := fun i => xFr_E hf3 rfl
        obtain ⟨w1, w2⟩ := hΨ3
        have hEE3 := xFr_n hf3
        refine ⟨⟨6, by decide⟩, [0, 0, 0], [0, 0, 0, r], rfl, ⟨by decide +kernel, ⟨rfl, by decide +kernel⟩, (xcs_c rfl (xcs_c rfl (xcs_c rfl xcs_n))), (xe_0 (xe_0 (xe_0 (xe_f (by omega) xe_n)))), xkq_n⟩, (by rw [if_pos rfl]; exact ⟨3, [3], rfl, by decide, rfl, (xst_r rfl xst_n)⟩), ?_, ?_⟩
        · show xVf1 x0 (zyEl zymc B s.heap) ∧ (∀ k, 0 ≤ k → xE (zyEl zymc B H3) 13 k = uS (xE (zyEl zymc B s.heap) 13) (x0 0) (x0 1) k) ∧ (r : Int) = pCnt (fun k => uS (xE (zyEl zymc B s.heap) 13) (x0 0) (x0 1) (k - 104)) 104 (xE (zyEl zymc B s.heap) 2 3).toNat
          refine ⟨hvl, fun k k0 => ?_, ?_⟩
          · rw [hEE3]
            exact (e13 k).trans (hc k k0)
          · rw [w2, show xE (zyEl zymc B H2) 2 3 = xE (zyEl zymc B s.heap) 2 3 by omega]
            exact pCnt_w fun k k0 => (e13 _).trans (hc _ (by omega))
        · show 3 < 4
          omega
    · cases hx
  · intro x0 E0 E E2 hrx hT0 hΦ i v hT hrv hInv hKc hFr0 x hx v2 hr2 hXs hag hfr hFr hT2
    rcases i with ⟨i, hi⟩
    have hi2 : i = 0 ∨ i = 1 ∨ i = 2 ∨ i = 3 ∨ i = 4 ∨ i = 5 ∨ i = 6 := by omega
    rcases hi2 with rfl | rfl | rfl | rfl | rfl | rfl | rfl
    · cases hx
    · have hx : x ∈ [zxfcfr1_ar0, zxfcfr1_ar1, zxfcfr1_ar2] := hx
      have hag : ∀ k, k < 3 → v2 k = v k := hag
      have hfr : xFr [(0, 0, 0)] _ _ := hfr
      rcases List.mem_cons.mp hx with ex | hx
      · subst ex
        obtain ⟨hF, hBd, hM⟩ := hXs
        have g1 : v2 1 = v 1 := hag 1 (by decide)
        have g2 : v2 2 = v 2 := hag 2 (by decide)
        have b0 : ((0 : Nat) : Int) ≤ (v2 1) + 2147483648 ∧ (v2 1) + 2147483648 ≤ ((2147483647 : Nat) : Int) := xXb hBd 0 rfl
        have f0 : (v2 1) < 0 := xXf hF 0 rfl
        have e2_3 : xE E2 2 3 = xE E 2 3 := xFr_E hfr rfl
        have q2_3 : xE E 2 3 = xE E0 2 3 := xFr_E hFr0 rfl
        have e13 : ∀ i, xE E2 13 i = xE E 13 i := fun i => xFr_E hfr rfl
        have hI : E = E0 ∧ (v 1) = x0 0 ∧ (v 2) = x0 1 := hInv
        have q13 : ∀ i, xE E 13 i = xE E0 13 i := fun i => by rw [hI.1]
        show xΨcfr1 x0 E0 E2 (-1)
        obtain ⟨hE, i1, i2⟩ := hI
        have hSW := q2_3
        have hvl : ¬ xVf1 x0 E0 := by
          unfold xVf1
          rintro ⟨⟨y1, y2⟩, y3, y4⟩
          omega
        exact ⟨fun h => absurd h hvl, fun _ => ⟨by omega, fun k _ => (e13 k).trans (q13 k)⟩⟩
      · skip
        rcases List.mem_cons.mp hx with ex | hx
        · subst ex
          obtain ⟨hF, hBd, hM⟩ := hXs
          have g1 : v2 1 = v 1 := hag 1 (by decide)
          have g2 : v2 2 = v 2 := hag 2 (by decide)
          have b0 : ((2147483648 : Nat) : Int) ≤ (v2 1) + 2147483648 ∧ (v2 1) + 2147483648 ≤ ((2147483678 : Nat) : Int) := xXb hBd 0 rfl
          have b1 : ((2147483648 : Nat) : Int) ≤ (v2 2) + 2147483648 ∧ (v2 2) + 2147483648 ≤ ((2147483649 : Nat) : Int) := xXb hBd 1 rfl
          have b2 : ((2147483649 : Nat) : Int) ≤ (v2 3) + 2147483648 ∧ (v2 3) + 2147483648 ≤ ((2147483679 : Nat) : Int) := xXb hBd 2 rfl
          have b3 : ((2147483648 : Nat) : Int) ≤ (v2 4) + 2147483648 ∧ (v2 4) + 2147483648 ≤ ((2147483649 : Nat) : Int) := xXb hBd 3 rfl
          have f0 : 0 ≤ (v2 1) := xXf hF 0 rfl
          have f1 : (0 : Int) ≤ 3 ∧ xE E 2 3 = (v2 3) := xXf hF 1 rfl
          have f2 : (v2 1) < (v2 3) := xXf hF 2 rfl
          have f3 : (0 : Int) ≤ (v2 1) ∧ xE E 13 (v2 1) = (v2 4) := xXf hF 3 rfl
          have f4 : (v2 4) = (v2 2) := xXf hF 4 rfl
          have e2_3 : xE E2 2 3 = xE E 2 3 := xFr_E hfr rfl
          have q2_3 : xE E 2 3 = xE E0 2 3 := xFr_E hFr0 rfl
          have e13 : ∀ i, xE E2 13 i = xE E 13 i := fun i => xFr_E hfr rfl
          have hI : E = E0 ∧ (v 1) = x0 0 ∧ (v 2) = x0 1 := hInv
          have q13 : ∀ i, xE E 13 i = xE E0 13 i := fun i => by rw [hI.1]
          show xΨcfr1 x0 E0 E2 (-1)
          obtain ⟨hE, i1, i2⟩ := hI
          have hSW := q2_3
          have c3 : xE E0 13 ((v2 1)) = (v2 4) := (q13 _).symm.trans f3.2
          rw [show (v2 1) = x0 0 by omega] at c3
          have hvl : ¬ xVf1 x0 E0 := by
            unfold xVf1
            rintro ⟨⟨y1, y2⟩, y3, y4⟩
            omega
          exact ⟨fun h => absurd h hvl, fun _ => ⟨by omega, fun k _ => (e13 k).trans (q13 k)⟩⟩
        · skip
          have ex := List.mem_singleton.mp hx
          subst ex
          obtain ⟨hF, hBd, hM⟩ := hXs
          have g1 : v2 1 = v 1 := hag 1 (by decide)
          have g2 : v2 2 = v 2 := hag 2 (by decide)
          have b0 : ((2147483648 : Nat) : Int) ≤ (v2 1) + 2147483648 ∧ (v2 1) + 2147483648 ≤ ((4294967295 : Nat) : Int) := xXb hBd 0 rfl
          have b1 : ((2147483648 : Nat) : Int) ≤ (v2 3) + 2147483648 ∧ (v2 3) + 2147483648 ≤ ((2147483679 : Nat) : Int) := xXb hBd 1 rfl
          have f0 : 0 ≤ (v2 1) := xXf hF 0 rfl
          have f1 : (0 : Int) ≤ 3 ∧ xE E 2 3 = (v2 3) := xXf hF 1 rfl
          have f2 : (v2 3) ≤ (v2 1) := xXf hF 2 rfl
          have e2_3 : xE E2 2 3 = xE E 2 3 := xFr_E hfr rfl
          have q2_3 : xE E 2 3 = xE E0 2 3 := xFr_E hFr0 rfl
          have e13 : ∀ i, xE E2 13 i = xE E 13 i := fun i => xFr_E hfr rfl
          have hI : E = E0 ∧ (v 1) = x0 0 ∧ (v 2) = x0 1 := hInv
          have q13 : ∀ i, xE E 13 i = xE E0 13 i := fun i => by rw [hI.1]
          show xΨcfr1 x0 E0 E2 (-1)
          obtain ⟨hE, i1, i2⟩ := hI
          have hSW := q2_3
          have hvl : ¬ xVf1 x0 E0 := by
            unfold xVf1
            rintro ⟨⟨y1, y2⟩, y3, y4⟩
            omega
          exact ⟨fun h => absurd h hvl, fun _ => ⟨by omega, fun k _ => (e13 k).trans (q13 k)⟩⟩
    · have hx : x ∈ [zxfcfr1_br0] := hx
      have hag : ∀ k, k < 4 → v2 k = v k := hag
      have hfr : xFr [(0, 0, 0)] _ _ := hfr
      have ex := List.mem_singleton.mp hx
      subst ex
      obtain ⟨hF, hBd, hM⟩ := hXs
      have g1 : v2 1 = v 1 := hag 1 (by decide)
      have g2 : v2 2 = v 2 := hag 2 (by decide)
      have g3 : v2 3 = v 3 := hag 3 (by decide)
      have b0 : ((2147483654 : Nat) : Int) ≤ (v2 3) + 2147483648 ∧ (v2 3) + 2147483648 ≤ ((4294967295 : Nat) : Int) := xXb hBd 0 rfl
      have f0 : 6 ≤ (v2 3) := xXf hF 0 rfl
      have e2_3 : xE E2 2 3 = xE E 2 3 := xFr_E hfr rfl
      have q2_3 : xE E 2 3 = xE E0 2 3 := xFr_E hFr0 rfl
      have e13 : ∀ i, xE E2 13 i = xE E 13 i := fun i => xFr_E hfr rfl
      have hI : ((v 2) = 1) ∧ (0 ≤ x0 0 ∧ x0 0 < xE E0 2 3) ∧ ¬ xE E0 13 (x0 0) = x0 1 ∧ (v 3) = pCnt (fun k => xE E0 13 (k - 104)) 104 (xE E0 2 3).toNat ∧ (∀ k, 0 ≤ k → xE E 13 k = xE E0 13 k) ∧ (v 1) = x0 0 ∧ (v 2) = x0 1 := hInv
      show xΨcfr1 x0 E0 E2 (-1)
      obtain ⟨j1, j2, j3, j4, hc, i1, i2⟩ := hI
      have hvl : ¬ xVf1 x0 E0 := by
        unfold xVf1
        rintro ⟨⟨y1, y2⟩, y3, y4⟩
        omega
      exact ⟨fun h => absurd h hvl, fun _ => ⟨by omega, fun k k0 => (e13 k).trans (hc k k0)⟩⟩
    · cases hx
    · cases hx
    · cases hx
    · have hx : x ∈ [zxfcfr1_er0] := hx
      have hag : ∀ k, k < 4 → v2 k = v k := hag
      have hfr : xFr [(0, 0, 0)] _ _ := hfr
      have ex := List.mem_singleton.mp hx
      subst ex
      obtain ⟨hF, hBd, hM⟩ := hXs
      have r3 := hr2 3
      have g3 : v2 3 = v 3 := hag 3 (by decide)
      have e2_3 : xE E2 2 3 = xE E 2 3 := xFr_E hfr rfl
      have q2_3 : xE E 2 3 = xE E0 2 3 := xFr_E hFr0 rfl
      have e13 : ∀ i, xE E2 13 i = xE E 13 i := fun i => xFr_E hfr rfl
      have hI : xVf1 x0 E0 ∧ (∀ k, 0 ≤ k → xE E 13 k = uS (xE E0 13) (x0 0) (x0 1) k) ∧ (v 3) = pCnt (fun k => uS (xE E0 13) (x0 0) (x0 1) (k - 104)) 104 (xE E0 2 3).toNat := hInv
      show xΨcfr1 x0 E0 E2 (v2 3)
      obtain ⟨hvl, hc, i3⟩ := hI
      exact ⟨fun _ => ⟨by omega, fun k k0 => (e13 k).trans (hc k k0)⟩, fun h => absurd hvl h⟩
noncomputable def zxfcg18_ax0 : zyXp := (4, [147, 0, 0], [], [], [], [])
noncomputable def zpfcg18_a : zyPh := (0, [147, 13, 13], [(0, 4294967295), (0, 4294967295), (0, 4294967295)], [], [])
noncomputable def zxfcg18_bx0 : zyXp := (4, [147, 34359738377, 68719476745], [], [(24, 103079215105, 19, 24), (20, 0, 68719476737, 103079215105), (24, 137438953473, 30, 68719476737), (23, 0, 137438953473, 0)], [(34359738369, 2147483648, 2147483679), (68719476737, 2147483648, 2147483678), (103079215105, 2147483649, 2147483679), (137438953473, 2147483649, 2147483649), (34359738377, 2147483649, 2147483680), (68719476745, 2147483649, 2147483679)], [])
noncomputable def zxfcg18_bx1 : zyXp := (4, [147, 34359738369, 68719476745], [], [(24, 103079215105, 19, 24), (20, 0, 68719476737, 103079215105), (24, 137438953473, 30, 68719476737), (22, 0, 137438953473, 0)], [(34359738369, 2147483648, 2147483679), (68719476737, 2147483648, 2147483678), (103079215105, 2147483649, 2147483679), (137438953473, 2147483648, 2147483648), (68719476745, 2147483649, 2147483679)], [])
noncomputable def zxfcg18_br0 : zyXp := (0, [], [34359738369], [(24, 103079215105, 19, 24), (21, 0, 68719476737, 103079215105)], [(34359738369, 2147483648, 2147483679), (68719476737, 2147483648, 2147483679), (103079215105, 2147483648, 2147483679)], [])
noncomputable def zpfcg18_b : zyPh := (4, [147, 34359738369, 68719476737], [(0, 4294967295), (2147483648, 2147483679), (2147483648, 2147483679)], [], [])
noncomputable def zpfcg18 (i : Nat) : zyPh := zif (Nat.beq i 0) (zpfcg18_a) (zpfcg18_b)
noncomputable def zXfcg18 (i : Nat) : List zyXp := zif (Nat.beq i 0) ([zxfcg18_ax0]) ([zxfcg18_bx0, zxfcg18_bx1])
noncomputable def zRfcg18 (i : Nat) : List zyXp := zif (Nat.beq i 0) ([]) ([zxfcg18_br0])
noncomputable def zFfcg18 (i : Nat) : zyR := zif (Nat.beq i 0) ([]) ([])
noncomputable def zSfcg18 (i : Nat) : Nat := zif (Nat.beq i 0) (0) (0)
def xΦcg18 (_ : Nat → Int) (_ : zyEm) : Prop := True
def xΨcg18 (_ : Nat → Int) (E _ : zyEm) (r : Int) : Prop := (0 ≤ r ∧ r ≤ 31) ∧ r = pCnt (fun k => xE E 30 (k - 104)) 104 (xE E 19 3).toNat
noncomputable def fpfcg18 : zyR := []
theorem zyfcg18_run : zyrS zymc zxi35 (35, 0, 0, 1, 0) 1 zpfcg18 (fun _ _ => []) zFfcg18 zSfcg18 zXfcg18 zRfcg18 2 = true := by decide +kernel
theorem zyfcg18_ck : zyAll (fun i => xsubR (zFfcg18 i) fpfcg18 && ((zXfcg18 i).all xckX && (zRfcg18 i).all (fun x => xckX x && xrtB true x))) 2 = true := by decide +kernel
def xIfcg18 (i : Nat) (x0 : Nat → Int) (E0 : zyEm) (v : Nat → Int) (E : zyEm) : Prop := if i = 0 then (E = E0) else ((0 ≤ (v 2) ∧ (v 2) ≤ xE E0 19 3) ∧ (0 ≤ (v 1) ∧ (v 1) ≤ (v 2)) ∧ (v 1) = pCnt (fun k => xE E0 30 (k - 104)) 104 ((v 2)).toNat)
def xMfcg18 (i : Nat) (x0 : Nat → Int) (E0 : zyEm) (v : Nat → Int) (E : zyEm) : Nat := if i = 0 then (100) else ((99 - (v 2)).toNat)
theorem xCg18 {l : Launch} {en : zEn} {me : zMe} (hen : zG zxMeta 35 = some en) (hme : zG zMeth 35 = some me) : xFc l zymc en me 1 [18] 0 fpfcg18 true xΦcg18 xΨcg18 := by
  have een : zG zxMeta 35 = some (zxi35, 1, 3, 3, 35, 0, 0, 1, 0) := rfl
  obtain ⟨me1, hme1, hOK⟩ := zall hen
  rw [hme] at hme1
  cases hme1
  rw [een] at hen
  cases hen
  have hr := zyfcg18_run
  have hck := fun i hi => zyAll_iff zyfcg18_ck i hi
  simp only [Bool.and_eq_true] at hck
  intro B
  refine xcut (mi := zymc) (B := B) hOK rfl rfl (ι := Fin 2) (fun i => zpfcg18 i.val) (fun _ _ => []) (fun i => zFfcg18 i.val) (fun i => zSfcg18 i.val) (fun i => zXfcg18 i.val) (fun i => zRfcg18 i.val) (fun i y2 ct en2 me2 h => by cases h) 200000 (fun i => zyAll_iff hr i.val i.isLt) (fun i => (hck i.val i.isLt).1) (fun i => (hck i.val i.isLt).2.1) (fun i => (hck i.val i.isLt).2.2) ⟨0, by decide⟩ ⟨rfl, rfl, rfl, rfl⟩ ⟨by decide, by decide⟩ (fun i x0 E0 v E => xIfcg18 i.val x0 E0 v E) (fun i x0 E0 v E => xMfcg18 i.val x0 E0 v E) ?_ ?_ ?_
  · intro x0 E hx0 hT hΦ
    have hΦ : xΦcg18 x0 E := hΦ
    refine ⟨fun k p hp => ?_, ?_⟩
    · have hk : k < 3 := (List.getElem?_eq_some_iff.mp hp).1
      have hk : k = 0 ∨ k = 1 ∨ k = 2 := by omega
      rcases hk with rfl | rfl | rfl
      · have hp : some (0, 4294967295) = some p := hp
        cases hp
        show ((0 : Nat) : Int) ≤ 0 + 2147483648 ∧ 0 + 2147483648 ≤ ((4294967295 : Nat) : Int)
        omega
      · have hp : some (0, 4294967295) = some p := hp
        cases hp
        show ((0 : Nat) : Int) ≤ x0 0 + 2147483648 ∧ x0 0 + 2147483648 ≤ ((4294967295 : Nat) : Int)
        have hx := hx0 0
        omega
      · have hp : some (0, 4294967295) = some p := hp
        cases hp
        show ((0 : Nat) : Int) ≤ x0 1 + 2147483648 ∧ x0 1 + 2147483648 ≤ ((4294967295 : Nat) : Int)
        have hx := hx0 1
        omega
    · show E = E
      rfl
  · intro x0 s Wg hRu hrx hT0 hΦ i v H hT hrv hInv hKc hFr0 hIH x hx ρ2 v2 N2 H2 locs lsB stA hAt hB hv hr2 hXs hag hfr hFr hT2
    rcases i with ⟨i, hi⟩
    have hi2 : i = 0 ∨ i = 1 := by omega
    rcases hi2 with rfl | rfl
    · have hx : x ∈ [zxfcg18_ax0] := hx
      have hag : ∀ k, k < 3 → v2 k = v k := hag
      have hfr : xFr [] _ _ := hfr
      have ex := List.mem_singleton.mp hx
      subst ex
      obtain ⟨hF, hBd, hM⟩ := hXs
      have e19_3 : xE (zyEl zymc B H2) 19 3 = xE (zyEl zymc B H) 19 3 := xFr_E hfr rfl
      have q19_3 : xE (zyEl zymc B H) 19 3 = xE (zyEl zymc B s.heap) 19 3 := xFr_E hFr0 rfl
      have e30 : ∀ i, xE (zyEl zymc B H2) 30 i = xE (zyEl zymc B H) 30 i := fun i => xFr_E hfr rfl
      have q30 : ∀ i, xE (zyEl zymc B H) 30 i = xE (zyEl zymc B s.heap) 30 i := fun i => xFr_E hFr0 rfl
      have y19_3 : ((2147483648 : Nat) : Int) ≤ xE (zyEl zymc B s.heap) 19 3 + 2147483648 ∧ xE (zyEl zymc B s.heap) 19 3 + 2147483648 ≤ ((2147483679 : Nat) : Int) := xTyF hT0 19 3 3 rfl rfl rfl rfl rfl rfl
      have hI : (zyEl zymc B H) = (zyEl zymc B s.heap) := hInv
      refine xGo hIH hAt hB hv hFr ⟨1, by decide⟩ [0, 0, 0] [0, 0, 0] rfl ⟨by decide +kernel, ⟨rfl, by decide +kernel⟩, (xcs_c rfl (xcs_c rfl (xcs_c rfl xcs_n))), (xe_0 (xe_c (by omega) (by omega) rfl (xe_c (by omega) (by omega) rfl xe_n))), xkq_n⟩ xst_n ?_ ?_
      · show (0 ≤ (0 : Int) ∧ (0 : Int) ≤ xE (zyEl zymc B s.heap) 19 3) ∧ (0 ≤ (0 : Int) ∧ (0 : Int) ≤ (0 : Int)) ∧ (0 : Int) = pCnt (fun k => xE (zyEl zymc B s.heap) 30 (k - 104)) 104 ((0 : Int)).toNat
        exact ⟨by omega, by omega, rfl⟩
      · show (99 - (0 : Int)).toNat < 100
        omega
    · have hx : x ∈ [zxfcg18_bx0, zxfcg18_bx1] := hx
      have hag : ∀ k, k < 3 → v2 k = v k := hag
      have hfr : xFr [] _ _ := hfr
      rcases List.mem_cons.mp hx with ex | hx
      · subst ex
        obtain ⟨hF, hBd, hM⟩ := hXs
        have g1 : v2 1 = v 1 := hag 1 (by decide)
        have g2 : v2 2 = v 2 := hag 2 (by decide)
        have b0 : ((2147483648 : Nat) : Int) ≤ (v2 1) + 2147483648 ∧ (v2 1) + 2147483648 ≤ ((2147483679 : Nat) : Int) := xXb hBd 0 rfl
        have b1 : ((2147483648 : Nat) : Int) ≤ (v2 2) + 2147483648 ∧ (v2 2) + 2147483648 ≤ ((2147483678 : Nat) : Int) := xXb hBd 1 rfl
        have b2 : ((2147483649 : Nat) : Int) ≤ (v2 3) + 2147483648 ∧ (v2 3) + 2147483648 ≤ ((2147483679 : Nat) : Int) := xXb hBd 2 rfl
        have b3 : ((2147483649 : Nat) : Int) ≤ (v2 4) + 2147483648 ∧ (v2 4) + 2147483648 ≤ ((2147483649 : Nat) : Int) := xXb hBd 3 rfl
        have b4 : ((2147483649 : Nat) : Int) ≤ (v2 1 + 1) + 2147483648 ∧ (v2 1 + 1) + 2147483648 ≤ ((2147483680 : Nat) : Int) := xXb hBd 4 rfl
        have b5 : ((2147483649 : Nat) : Int) ≤ (v2 2 + 1) + 2147483648 ∧ (v2 2 + 1) + 2147483648 ≤ ((2147483679 : Nat) : Int) := xXb hBd 5 rfl
        have f0 : (0 : Int) ≤ 3 ∧ xE (zyEl zymc B H) 19 3 = (v2 3) := xXf hF 0 rfl
        have f1 : (v2 2) < (v2 3) := xXf hF 1 rfl
        have f2 : (0 : Int) ≤ (v2 2) ∧ xE (zyEl zymc B H) 30 (v2 2) = (v2 4) := xXf hF 2 rfl
        have f3 : ¬ (v2 4) = 0 := xXf hF 3 rfl
        have e19_3 : xE (zyEl zymc B H2) 19 3 = xE (zyEl zymc B H) 19 3 := xFr_E hfr rfl
        have q19_3 : xE (zyEl zymc B H) 19 3 = xE (zyEl zymc B s.heap) 19 3 := xFr_E hFr0 rfl
        have e30 : ∀ i, xE (zyEl zymc B H2) 30 i = xE (zyEl zymc B H) 30 i := fun i => xFr_E hfr rfl
        have q30 : ∀ i, xE (zyEl zymc B H) 30 i = xE (zyEl zymc B s.heap) 30 i := fun i => xFr_E hFr0 rfl
        have y19_3 : ((2147483648 : Nat) : Int) ≤ xE (zyEl zymc B s.heap) 19 3 + 2147483648 ∧ xE (zyEl zymc B s.heap) 19 3 + 2147483648 ≤ ((2147483679 : Nat) : Int) := xTyF hT0 19 3 3 rfl rfl rfl rfl rfl rfl
        have hI : (0 ≤ (v 2) ∧ (v 2) ≤ xE (zyEl zymc B s.heap) 19 3) ∧ (0 ≤ (v 1) ∧ (v 1) ≤ (v 2)) ∧ (v 1) = pCnt (fun k => xE (zyEl zymc B s.heap) 30 (k - 104)) 104 ((v 2)).toNat := hInv
        obtain ⟨i1, i2, i3⟩ := hI
        refine xGo hIH hAt hB hv hFr ⟨1, by decide⟩ [0, 34359738377, 68719476745] [0, (v2 1 + 1), (v2 2 + 1)] rfl ⟨by decide +kernel, ⟨rfl, by decide +kernel⟩, (xcs_c rfl (xcs_c rfl (xcs_c rfl xcs_n))), (xe_0 (xe_c (by omega) (by omega) rfl (xe_c (by omega) (by omega) rfl xe_n))), xkq_n⟩ xst_n ?_ ?_
        · show (0 ≤ ((v2 2 + 1) : Int) ∧ ((v2 2 + 1) : Int) ≤ xE (zyEl zymc B s.heap) 19 3) ∧ (0 ≤ ((v2 1 + 1) : Int) ∧ ((v2 1 + 1) : Int) ≤ ((v2 2 + 1) : Int)) ∧ ((v2 1 + 1) : Int) = pCnt (fun k => xE (zyEl zymc B s.heap) 30 (k - 104)) 104 (((v2 2 + 1) : Int)).toNat
          refine ⟨by omega, by omega, ?_⟩
          have hf := q30 (v2 2)
          rw [pCnt_s (by omega), show (v2 2) = v 2 by omega, ← i3, ← show (v2 2) = v 2 by omega, if_pos (by show 0 < xE _ _ (104 + v2 2 - 104); rw [show 104 + v2 2 - 104 = v2 2 by omega]; omega)]
          omega
        · show (99 - ((v2 2 + 1) : Int)).toNat < (99 - (v 2)).toNat
          omega
      · skip
        have ex := List.mem_singleton.mp hx
        subst ex
        obtain ⟨hF, hBd, hM⟩ := hXs
        have g1 : v2 1 = v 1 := hag 1 (by decide)
        have g2 : v2 2 = v 2 := hag 2 (by decide)
        have b0 : ((2147483648 : Nat) : Int) ≤ (v2 1) + 2147483648 ∧ (v2 1) + 2147483648 ≤ ((2147483679 : Nat) : Int) := xXb hBd 0 rfl
        have b1 : ((2147483648 : Nat) : Int) ≤ (v2 2) + 2147483648 ∧ (v2 2) + 2147483648 ≤ ((2147483678 : Nat) : Int) := xXb hBd 1 rfl
        have b2 : ((2147483649 : Nat) : Int) ≤ (v2 3) + 2147483648 ∧ (v2 3) + 2147483648 ≤ ((2147483679 : Nat) : Int) := xXb hBd 2 rfl
        have b3 : ((2147483648 : Nat) : Int) ≤ (v2 4) + 2147483648 ∧ (v2 4) + 2147483648 ≤ ((2147483648 : Nat) : Int) := xXb hBd 3 rfl
        have b4 : ((2147483649 : Nat) : Int) ≤ (v2 2 + 1) + 2147483648 ∧ (v2 2 + 1) + 2147483648 ≤ ((2147483679 : Nat) : Int) := xXb hBd 4 rfl
        have f0 : (0 : Int) ≤ 3 ∧ xE (zyEl zymc B H) 19 3 = (v2 3) := xXf hF 0 rfl
        have f1 : (v2 2) < (v2 3) := xXf hF 1 rfl
        have f2 : (0 : Int) ≤ (v2 2) ∧ xE (zyEl zymc B H) 30 (v2 2) = (v2 4) := xXf hF 2 rfl
        have f3 : (v2 4) = 0 := xXf hF 3 rfl
        have e19_3 : xE (zyEl zymc B H2) 19 3 = xE (zyEl zymc B H) 19 3 := xFr_E hfr rfl
        have q19_3 : xE (zyEl zymc B H) 19 3 = xE (zyEl zymc B s.heap) 19 3 := xFr_E hFr0 rfl
        have e30 : ∀ i, xE (zyEl zymc B H2) 30 i = xE (zyEl zymc B H) 30 i := fun i => xFr_E hfr rfl
        have q30 : ∀ i, xE (zyEl zymc B H) 30 i = xE (zyEl zymc B s.heap) 30 i := fun i => xFr_E hFr0 rfl
        have y19_3 : ((2147483648 : Nat) : Int) ≤ xE (zyEl zymc B s.heap) 19 3 + 2147483648 ∧ xE (zyEl zymc B s.heap) 19 3 + 2147483648 ≤ ((2147483679 : Nat) : Int) := xTyF hT0 19 3 3 rfl rfl rfl rfl rfl rfl
        have hI : (0 ≤ (v 2) ∧ (v 2) ≤ xE (zyEl zymc B s.heap) 19 3) ∧ (0 ≤ (v 1) ∧ (v 1) ≤ (v 2)) ∧ (v 1) = pCnt (fun k => xE (zyEl zymc B s.heap) 30 (k - 104)) 104 ((v 2)).toNat := hInv
        obtain ⟨i1, i2, i3⟩ := hI
        refine xGo hIH hAt hB hv hFr ⟨1, by decide⟩ [0, 34359738369, 68719476745] [0, (v2 1), (v2 2 + 1)] rfl ⟨by decide +kernel, ⟨rfl, by decide +kernel⟩, (xcs_c rfl (xcs_c rfl (xcs_c rfl xcs_n))), (xe_0 (xe_c (by omega) (by omega) rfl (xe_c (by omega) (by omega) rfl xe_n))), xkq_n⟩ xst_n ?_ ?_
        · show (0 ≤ ((v2 2 + 1) : Int) ∧ ((v2 2 + 1) : Int) ≤ xE (zyEl zymc B s.heap) 19 3) ∧ (0 ≤ ((v2 1) : Int) ∧ ((v2 1) : Int) ≤ ((v2 2 + 1) : Int)) ∧ ((v2 1) : Int) = pCnt (fun k => xE (zyEl zymc B s.heap) 30 (k - 104)) 104 (((v2 2 + 1) : Int)).toNat
          refine ⟨by omega, by omega, ?_⟩
          have hf := q30 (v2 2)
          rw [pCnt_s (by omega), show (v2 2) = v 2 by omega, ← i3, ← show (v2 2) = v 2 by omega, if_neg (by show ¬ 0 < xE _ _ (104 + v2 2 - 104); rw [show 104 + v2 2 - 104 = v2 2 by omega]; omega)]
          omega
        · show (99 - ((v2 2 + 1) : Int)).toNat < (99 - (v 2)).toNat
          omega
  · intro x0 E0 E E2 hrx hT0 hΦ i v hT hrv hInv hKc hFr0 x hx v2 hr2 hXs hag hfr hFr hT2
    rcases i with ⟨i, hi⟩
    have hi2 : i = 0 ∨ i = 1 := by omega
    rcases hi2 with rfl | rfl
    · cases hx
    · have hx : x ∈ [zxfcg18_br0] := hx
      have hag : ∀ k, k < 3 → v2 k = v k := hag
      have hfr : xFr [] _ _ := hfr
      have ex := List.mem_singleton.mp hx
      subst ex
      obtain ⟨hF, hBd, hM⟩ := hXs
      have g1 : v2 1 = v 1 := hag 1 (by decide)
      have g2 : v2 2 = v 2 := hag 2 (by decide)
      have b0 : ((2147483648 : Nat) : Int) ≤ (v2 1) + 2147483648 ∧ (v2 1) + 2147483648 ≤ ((2147483679 : Nat) : Int) := xXb hBd 0 rfl
      have b1 : ((2147483648 : Nat) : Int) ≤ (v2 2) + 2147483648 ∧ (v2 2) + 2147483648 ≤ ((2147483679 : Nat) : Int) := xXb hBd 1 rfl
      have b2 : ((2147483648 : Nat) : Int) ≤ (v2 3) + 2147483648 ∧ (v2 3) + 2147483648 ≤ ((2147483679 : Nat) : Int) := xXb hBd 2 rfl
      have f0 : (0 : Int) ≤ 3 ∧ xE E 19 3 = (v2 3) := xXf hF 0 rfl
      have f1 : (v2 3) ≤ (v2 2) := xXf hF 1 rfl
      have e19_3 : xE E2 19 3 = xE E 19 3 := xFr_E hfr rfl
      have q19_3 : xE E 19 3 = xE E0 19 3 := xFr_E hFr0 rfl
      have e30 : ∀ i, xE E2 30 i = xE E 30 i := fun i => xFr_E hfr rfl
      have q30 : ∀ i, xE E 30 i = xE E0 30 i := fun i => xFr_E hFr0 rfl
      have y19_3 : ((2147483648 : Nat) : Int) ≤ xE E0 19 3 + 2147483648 ∧ xE E0 19 3 + 2147483648 ≤ ((2147483679 : Nat) : Int) := xTyF hT0 19 3 3 rfl rfl rfl rfl rfl rfl
      have hI : (0 ≤ (v 2) ∧ (v 2) ≤ xE E0 19 3) ∧ (0 ≤ (v 1) ∧ (v 1) ≤ (v 2)) ∧ (v 1) = pCnt (fun k => xE E0 30 (k - 104)) 104 ((v 2)).toNat := hInv
      show xΨcg18 x0 E0 E2 (v2 1)
      obtain ⟨i1, i2, i3⟩ := hI
      unfold xΨcg18
      refine ⟨by omega, ?_⟩
      rw [show xE E0 19 3 = v2 2 by omega, show (v2 1) = v 1 by omega, show (v2 2) = v 2 by omega]
      exact i3
noncomputable def zxfcfr18_zx0 : zyXp := (0, [3, 34359738369, 68719476737], [], [], [(68719476737, 2147483648, 2147483649)], [])
noncomputable def zpfcfr18_z : zyPh := (0, [3, 34359738369, 68719476737], [(0, 4294967295), (0, 4294967295), (2147483648, 2147483649)], [], [])
noncomputable def zxfcfr18_ax0 : zyXp := (41, [3, 34359738369, 68719476737], [147], [(21, 0, 34359738369, 0), (24, 103079215105, 19, 24), (20, 0, 34359738369, 103079215105), (24, 137438953473, 30, 34359738369), (23, 0, 137438953473, 68719476737), (23, 0, 68719476737, 0)], [(34359738369, 2147483648, 2147483678), (68719476737, 2147483649, 2147483649), (103079215105, 2147483649, 2147483679), (137438953473, 2147483648, 2147483649)], [])
noncomputable def zxfcfr18_ax1 : zyXp := (55, [3, 34359738369, 68719476737], [], [(21, 0, 34359738369, 0), (24, 103079215105, 19, 24), (20, 0, 34359738369, 103079215105), (24, 137438953473, 30, 34359738369), (23, 0, 137438953473, 68719476737), (22, 0, 68719476737, 0)], [(34359738369, 2147483648, 2147483678), (68719476737, 2147483648, 2147483648), (103079215105, 2147483649, 2147483679), (137438953473, 2147483648, 2147483649)], [])
noncomputable def zxfcfr18_ar0 : zyXp := (0, [], [34359738360], [(20, 0, 34359738369, 0)], [(34359738369, 0, 2147483647)], [])
noncomputable def zxfcfr18_ar1 : zyXp := (0, [], [34359738360], [(21, 0, 34359738369, 0), (24, 103079215105, 19, 24), (20, 0, 34359738369, 103079215105), (24, 137438953473, 30, 34359738369), (22, 0, 137438953473, 68719476737)], [(34359738369, 2147483648, 2147483678), (68719476737, 2147483648, 2147483649), (103079215105, 2147483649, 2147483679), (137438953473, 2147483648, 2147483649)], [])
noncomputable def zxfcfr18_ar2 : zyXp := (0, [], [34359738360], [(21, 0, 34359738369, 0), (24, 103079215105, 19, 24), (21, 0, 34359738369, 103079215105)], [(34359738369, 2147483648, 4294967295), (103079215105, 2147483648, 2147483679)], [])
noncomputable def zpfcfr18_a : zyPh := (0, [3, 34359738369, 68719476737], [(0, 4294967295), (0, 4294967295), (2147483648, 2147483649)], [(1, 147)], [])
noncomputable def zxfcfr18_bx0 : zyXp := (55, [3, 34359738369, 68719476737], [], [(20, 0, 103079215105, 48)], [(34359738369, 2147483648, 2147483678), (68719476737, 2147483648, 2147483649), (103079215105, 0, 2147483653)], [])
noncomputable def zxfcfr18_br0 : zyXp := (0, [], [34359738360], [(21, 0, 103079215105, 48)], [(103079215105, 2147483654, 4294967295)], [])
noncomputable def zpfcfr18_b : zyPh := (44, [3, 34359738369, 68719476737], [(0, 4294967295), (2147483648, 2147483678), (2147483648, 2147483649), (0, 4294967295)], [], [103079215105])
noncomputable def zxfcfr18_cx0 : zyXp := (55, [3, 34359738369, 68719476737], [], [], [(34359738369, 2147483648, 2147483678), (68719476737, 2147483648, 2147483649)], [])
noncomputable def zpfcfr18_c : zyPh := (55, [3, 34359738369, 68719476737], [(0, 4294967295), (2147483648, 2147483678), (2147483648, 2147483649)], [], [])
noncomputable def zxfcfr18_c2x0 : zyXp := (64, [3, 34359738369, 68719476737], [68719476737, 34359738369, 243], [], [(34359738369, 2147483648, 2147483678), (68719476737, 2147483648, 2147483649)], [])
noncomputable def zpfcfr18_c2 : zyPh := (55, [3, 34359738369, 68719476737], [(0, 4294967295), (2147483648, 2147483678), (2147483648, 2147483649)], [(1, 147)], [])
noncomputable def zxfcfr18_dx0 : zyXp := (70, [3, 13, 13], [147, 3], [], [], [])
noncomputable def zpfcfr18_d : zyPh := (65, [3, 13, 13], [(0, 4294967295), (0, 4294967295), (0, 4294967295)], [(1, 147)], [])
noncomputable def zxfcfr18_er0 : zyXp := (0, [], [103079215105], [], [], [])
noncomputable def zpfcfr18_e : zyPh := (73, [3, 13, 13], [(0, 4294967295), (0, 4294967295), (0, 4294967295), (0, 4294967295)], [], [103079215105, 3])
noncomputable def zpfcfr18 (i : Nat) : zyPh := zif (Nat.beq i 0) (zpfcfr18_z) (zif (Nat.beq i 1) (zpfcfr18_a) (zif (Nat.beq i 2) (zpfcfr18_b) (zif (Nat.beq i 3) (zpfcfr18_c) (zif (Nat.beq i 4) (zpfcfr18_c2) (zif (Nat.beq i 5) (zpfcfr18_d) (zpfcfr18_e))))))
noncomputable def zXfcfr18 (i : Nat) : List zyXp := zif (Nat.beq i 0) ([zxfcfr18_zx0]) (zif (Nat.beq i 1) ([zxfcfr18_ax0, zxfcfr18_ax1]) (zif (Nat.beq i 2) ([zxfcfr18_bx0]) (zif (Nat.beq i 3) ([zxfcfr18_cx0]) (zif (Nat.beq i 4) ([zxfcfr18_c2x0]) (zif (Nat.beq i 5) ([zxfcfr18_dx0]) ([]))))))
noncomputable def zRfcfr18 (i : Nat) : List zyXp := zif (Nat.beq i 0) ([]) (zif (Nat.beq i 1) ([zxfcfr18_ar0, zxfcfr18_ar1, zxfcfr18_ar2]) (zif (Nat.beq i 2) ([zxfcfr18_br0]) (zif (Nat.beq i 3) ([]) (zif (Nat.beq i 4) ([]) (zif (Nat.beq i 5) ([]) ([zxfcfr18_er0]))))))
noncomputable def zFfcfr18 (i : Nat) : zyR := zif (Nat.beq i 0) ([]) (zif (Nat.beq i 1) ([(0, 0, 0)]) (zif (Nat.beq i 2) ([(0, 0, 0)]) (zif (Nat.beq i 3) ([]) (zif (Nat.beq i 4) ([]) (zif (Nat.beq i 5) ([]) ([(0, 0, 0)]))))))
noncomputable def zSfcfr18 (i : Nat) : Nat := zif (Nat.beq i 0) (0) (zif (Nat.beq i 1) (0) (zif (Nat.beq i 2) (0) (zif (Nat.beq i 3) (0) (zif (Nat.beq i 4) (0) (zif (Nat.beq i 5) (0) (0))))))
def xΦcfr18 (B : zCx) (x : Nat → Int) (E : zyEm) : Prop := E 0 1 = some (.ref (zad B 18)) ∧ 0 ≤ x 1 ∧ x 1 ≤ 1
def xVf18 (x : Nat → Int) (E : zyEm) : Prop := (0 ≤ x 0 ∧ x 0 < xE E 19 3) ∧ ¬ xE E 30 (x 0) = x 1 ∧ ¬ (x 1 = 1 ∧ 6 ≤ pCnt (fun k => xE E 30 (k - 104)) 104 (xE E 19 3).toNat)
def xΨcfr18 (x : Nat → Int) (E E2 : zyEm) (r : Int) : Prop := (xVf18 x E → r = pCnt (fun k => uS (xE E 30) (x 0) (x 1) (k - 104)) 104 (xE E 19 3).toNat ∧ ∀ k, 0 ≤ k → xE E2 30 k = uS (xE E 30) (x 0) (x 1) k) ∧ (¬ xVf18 x E → r = -1 ∧ ∀ k, 0 ≤ k → xE E2 30 k = xE E 30 k)
noncomputable def fpfcfr18 : zyR := [(0, 0, 0), (30, 0, 30)]
theorem zyfcfr18_run : zyrS zymc zxi131 (131, 0, 0, 1, 0) 4 zpfcfr18 (fun _ _ => []) zFfcfr18 zSfcfr18 zXfcfr18 zRfcfr18 7 = true := by decide +kernel
theorem zyfcfr18_ck : zyAll (fun i => xsubR (zFfcfr18 i) fpfcfr18 && ((zXfcfr18 i).all xckX && (zRfcfr18 i).all (fun x => xckX x && xrtB true x))) 7 = true := by decide +kernel
def xIfcfr18 (i : Nat) (x0 : Nat → Int) (E0 : zyEm) (v : Nat → Int) (E : zyEm) : Prop := if i = 0 then (E = E0 ∧ (v 1) = x0 0 ∧ (v 2) = x0 1) else if i = 1 then (E = E0 ∧ (v 1) = x0 0 ∧ (v 2) = x0 1) else if i = 2 then (((v 2) = 1) ∧ (0 ≤ x0 0 ∧ x0 0 < xE E0 19 3) ∧ ¬ xE E0 30 (x0 0) = x0 1 ∧ (v 3) = pCnt (fun k => xE E0 30 (k - 104)) 104 (xE E0 19 3).toNat ∧ (∀ k, 0 ≤ k → xE E 30 k = xE E0 30 k) ∧ (v 1) = x0 0 ∧ (v 2) = x0 1) else if i = 3 then (xVf18 x0 E0 ∧ (∀ k, 0 ≤ k → xE E 30 k = xE E0 30 k) ∧ (v 1) = x0 0 ∧ (v 2) = x0 1) else if i = 4 then (xVf18 x0 E0 ∧ (∀ k, 0 ≤ k → xE E 30 k = xE E0 30 k) ∧ (v 1) = x0 0 ∧ (v 2) = x0 1) else if i = 5 then (xVf18 x0 E0 ∧ (∀ k, 0 ≤ k → xE E 30 k = uS (xE E0 30) (x0 0) (x0 1) k)) else (xVf18 x0 E0 ∧ (∀ k, 0 ≤ k → xE E 30 k = uS (xE E0 30) (x0 0) (x0 1) k) ∧ (v 3) = pCnt (fun k => uS (xE E0 30) (x0 0) (x0 1) (k - 104)) 104 (xE E0 19 3).toNat)
def xMfcfr18 (i : Nat) (x0 : Nat → Int) (E0 : zyEm) (v : Nat → Int) (E : zyEm) : Nat := if i = 0 then (9) else if i = 1 then (8) else if i = 2 then (7) else if i = 3 then (6) else if i = 4 then (5) else if i = 5 then (4) else (3)
theorem xCfr18 {l : Launch} {en : zEn} {me : zMe} (hen : zG zxMeta 131 = some en) (hme : zG zMeth 131 = some me) : ∀ B, xFcB l zymc B en me 4 [0] 2 fpfcfr18 true (xΦcfr18 B) xΨcfr18 := by
  have een : zG zxMeta 131 = some (zxi131, 3, 3, 10, 131, 0, 0, 1, 0) := rfl
  obtain ⟨me1, hme1, hOK⟩ := zall hen
  rw [hme] at hme1
  cases hme1
  rw [een] at hen
  cases hen
  have hr := zyfcfr18_run
  have hck := fun i hi => zyAll_iff zyfcfr18_ck i hi
  simp only [Bool.and_eq_true] at hck
  obtain ⟨mefcg18, hmefcg18, -⟩ := zall (show zG zxMeta 35 = some (zxi35, 1, 3, 3, 35, 0, 0, 1, 0) from rfl)
  have hfcg18 := xCg18 (l := l) (show zG zxMeta 35 = some (zxi35, 1, 3, 3, 35, 0, 0, 1, 0) from rfl) hmefcg18
  intro B
  refine xcut (mi := zymc) (B := B) hOK rfl rfl (ι := Fin 7) (fun i => zpfcfr18 i.val) (fun _ _ => []) (fun i => zFfcfr18 i.val) (fun i => zSfcfr18 i.val) (fun i => zXfcfr18 i.val) (fun i => zRfcfr18 i.val) (fun i y2 ct en2 me2 h => by cases h) 200000 (fun i => zyAll_iff hr i.val i.isLt) (fun i => (hck i.val i.isLt).1) (fun i => (hck i.val i.isLt).2.1) (fun i => (hck i.val i.isLt).2.2) ⟨0, by decide⟩ ⟨rfl, rfl, rfl, rfl⟩ ⟨by decide, by decide⟩ (fun i x0 E0 v E => xIfcfr18 i.val x0 E0 v E) (fun i x0 E0 v E => xMfcfr18 i.val x0 E0 v E) ?_ ?_ ?_
  · intro x0 E hx0 hT hΦ
    have hΦ : (xΦcfr18 B) x0 E := hΦ
    refine ⟨fun k p hp => ?_, ?_⟩
    · have hk : k < 3 := (List.getElem?_eq_some_iff.mp hp).1
      have hk : k = 0 ∨ k = 1 ∨ k = 2 := by omega
      rcases hk with rfl | rfl | rfl
      · have hp : some (0, 4294967295) = some p := hp
        cases hp
        show ((0 : Nat) : Int) ≤ 0 + 2147483648 ∧ 0 + 2147483648 ≤ ((4294967295 : Nat) : Int)
        omega
      · have hp : some (0, 4294967295) = some p := hp
        cases hp
        show ((0 : Nat) : Int) ≤ x0 0 + 2147483648 ∧ x0 0 + 2147483648 ≤ ((4294967295 : Nat) : Int)
        have hx := hx0 0
        omega
      · have hp : some (2147483648, 2147483649) = some p := hp
        cases hp
        show ((2147483648 : Nat) : Int) ≤ x0 1 + 2147483648 ∧ x0 1 + 2147483648 ≤ ((2147483649 : Nat) : Int)
        have hx := hx0 1
        have hP := hΦ.2
        omega
    · show E = E ∧ (x0 0) = x0 0 ∧ (x0 1) = x0 1
      exact ⟨rfl, rfl, rfl⟩
  · intro x0 s Wg hRu hrx hT0 hΦ i v H hT hrv hInv hKc hFr0 hIH x hx ρ2 v2 N2 H2 locs lsB stA hAt hB hv hr2 hXs hag hfr hFr hT2
    rcases i with ⟨i, hi⟩
    have hi2 : i = 0 ∨ i = 1 ∨ i = 2 ∨ i = 3 ∨ i = 4 ∨ i = 5 ∨ i = 6 := by omega
    rcases hi2 with rfl | rfl | rfl | rfl | rfl | rfl | rfl
    · have hx : x ∈ [zxfcfr18_zx0] := hx
      have hag : ∀ k, k < 3 → v2 k = v k := hag
      have hfr : xFr [] _ _ := hfr
      have ex := List.mem_singleton.mp hx
      subst ex
      obtain ⟨hF, hBd, hM⟩ := hXs
      have r1 := hr2 1
      have g1 : v2 1 = v 1 := hag 1 (by decide)
      have g2 : v2 2 = v 2 := hag 2 (by decide)
      have b0 : ((2147483648 : Nat) : Int) ≤ (v2 2) + 2147483648 ∧ (v2 2) + 2147483648 ≤ ((2147483649 : Nat) : Int) := xXb hBd 0 rfl
      have e19_3 : xE (zyEl zymc B H2) 19 3 = xE (zyEl zymc B H) 19 3 := xFr_E hfr rfl
      have q19_3 : xE (zyEl zymc B H) 19 3 = xE (zyEl zymc B s.heap) 19 3 := xFr_E hFr0 rfl
      have e30 : ∀ i, xE (zyEl zymc B H2) 30 i = xE (zyEl zymc B H) 30 i := fun i => xFr_E hfr rfl
      have hI : (zyEl zymc B H) = (zyEl zymc B s.heap) ∧ (v 1) = x0 0 ∧ (v 2) = x0 1 := hInv
      have q30 : ∀ i, xE (zyEl zymc B H) 30 i = xE (zyEl zymc B s.heap) 30 i := fun i => by rw [hI.1]
      obtain ⟨hE, i1, i2⟩ := hI
      refine xGo hIH hAt hB hv hFr ⟨1, by decide⟩ [0, 34359738369, 68719476737] [0, (v2 1), (v2 2)] rfl ⟨by decide +kernel, ⟨rfl, by decide +kernel⟩, (xcs_c rfl (xcs_c rfl (xcs_c rfl xcs_n))), (xe_0 (xe_f (by omega) (xe_c (by omega) (by omega) rfl xe_n))), (xkq_r 0 1 18 rfl rfl rfl rfl rfl (by rw [xFr_n hfr, hE]; exact hΦ.1) xkq_n)⟩ xst_n ?_ ?_
      · show (zyEl zymc B H2) = (zyEl zymc B s.heap) ∧ ((v2 1) : Int) = x0 0 ∧ ((v2 2) : Int) = x0 1
        exact ⟨(xFr_n hfr).trans hE, by omega, by omega⟩
      · show 8 < 9
        omega
    · have hx : x ∈ [zxfcfr18_ax0, zxfcfr18_ax1] := hx
      have hag : ∀ k, k < 3 → v2 k = v k := hag
      have hfr : xFr [(0, 0, 0)] _ _ := hfr
      rcases List.mem_cons.mp hx with ex | hx
      · subst ex
        obtain ⟨hF, hBd, hM⟩ := hXs
        have g1 : v2 1 = v 1 := hag 1 (by decide)
        have g2 : v2 2 = v 2 := hag 2 (by decide)
        have b0 : ((2147483648 : Nat) : Int) ≤ (v2 1) + 2147483648 ∧ (v2 1) + 2147483648 ≤ ((2147483678 : Nat) : Int) := xXb hBd 0 rfl
        have b1 : ((2147483649 : Nat) : Int) ≤ (v2 2) + 2147483648 ∧ (v2 2) + 2147483648 ≤ ((2147483649 : Nat) : Int) := xXb hBd 1 rfl
        have b2 : ((2147483649 : Nat) : Int) ≤ (v2 3) + 2147483648 ∧ (v2 3) + 2147483648 ≤ ((2147483679 : Nat) : Int) := xXb hBd 2 rfl
        have b3 : ((2147483648 : Nat) : Int) ≤ (v2 4) + 2147483648 ∧ (v2 4) + 2147483648 ≤ ((2147483649 : Nat) : Int) := xXb hBd 3 rfl
        have f0 : 0 ≤ (v2 1) := xXf hF 0 rfl
        have f1 : (0 : Int) ≤ 3 ∧ xE (zyEl zymc B H) 19 3 = (v2 3) := xXf hF 1 rfl
        have f2 : (v2 1) < (v2 3) := xXf hF 2 rfl
        have f3 : (0 : Int) ≤ (v2 1) ∧ xE (zyEl zymc B H) 30 (v2 1) = (v2 4) := xXf hF 3 rfl
        have f4 : ¬ (v2 4) = (v2 2) := xXf hF 4 rfl
        have f5 : ¬ (v2 2) = 0 := xXf hF 5 rfl
        have e19_3 : xE (zyEl zymc B H2) 19 3 = xE (zyEl zymc B H) 19 3 := xFr_E hfr rfl
        have q19_3 : xE (zyEl zymc B H) 19 3 = xE (zyEl zymc B s.heap) 19 3 := xFr_E hFr0 rfl
        have e30 : ∀ i, xE (zyEl zymc B H2) 30 i = xE (zyEl zymc B H) 30 i := fun i => xFr_E hfr rfl
        have hI : (zyEl zymc B H) = (zyEl zymc B s.heap) ∧ (v 1) = x0 0 ∧ (v 2) = x0 1 := hInv
        have q30 : ∀ i, xE (zyEl zymc B H) 30 i = xE (zyEl zymc B s.heap) 30 i := fun i => by rw [hI.1]
        obtain ⟨hE, i1, i2⟩ := hI
        have hSW := q19_3
        have c3 : xE (zyEl zymc B s.heap) 30 ((v2 1)) = (v2 4) := (q30 _).symm.trans f3.2
        rw [show (v2 1) = x0 0 by omega] at c3
        have hN : xE (zyEl zymc B H2) 19 3 = xE (zyEl zymc B s.heap) 19 3 := by omega
        have hf0 : (fun k => xE (zyEl zymc B H2) 30 (k - 104)) = (fun k => xE (zyEl zymc B s.heap) 30 (k - 104)) := funext fun k => (e30 _).trans (q30 _)
        refine xCa hRu hIH hAt hB hv hFr (hfcg18 B) (ix := 149) (ax := 561) rfl rfl rfl hmefcg18 ⟨_, rfl, rfl, by decide⟩ ⟨rfl, rfl, rfl⟩ (by decide) [] [] [] rfl ⟨rfl, rfl⟩ (by decide +kernel) xcs_n (by decide +kernel) ?_ (fun H3 r hT3 hf3 hFr3 hr3 hΨ3 => ?_)
        · show xΦcg18 (xfv []) (zyEl zymc B H2)
          exact trivial
        · have hΨ3 : xΨcg18 (xfv []) (zyEl zymc B H2) (zyEl zymc B H3) r := hΨ3
          have d19_3 : xE (zyEl zymc B H3) 19 3 = xE (zyEl zymc B H2) 19 3 := xFr_E hf3 rfl
          have d30 : ∀ i, xE (zyEl zymc B H3) 30 i = xE (zyEl zymc B H2) 30 i := fun i => xFr_E hf3 rfl
          obtain ⟨w1, w2⟩ := hΨ3
          rw [hN, hf0] at w2
          have hEE3 := xFr_n hf3
          refine ⟨⟨2, by decide⟩, [0, 34359738369, 68719476737], [0, (v2 1), (v2 2), r], rfl, ⟨by decide +kernel, ⟨rfl, by decide +kernel⟩, (xcs_c rfl (xcs_c rfl (xcs_c rfl xcs_n))), (xe_0 (xe_c (by omega) (by omega) rfl (xe_c (by omega) (by omega) rfl (xe_f (by omega) xe_n)))), xkq_n⟩, (by rw [if_pos rfl]; exact ⟨3, [], rfl, by decide, rfl, xst_n⟩), ?_, ?_⟩
          · show (((v2 2) : Int) = 1) ∧ (0 ≤ x0 0 ∧ x0 0 < xE (zyEl zymc B s.heap) 19 3) ∧ ¬ xE (zyEl zymc B s.heap) 30 (x0 0) = x0 1 ∧ (r : Int) = pCnt (fun k => xE (zyEl zymc B s.heap) 30 (k - 104)) 104 (xE (zyEl zymc B s.heap) 19 3).toNat ∧ (∀ k, 0 ≤ k → xE (zyEl zymc B H3) 30 k = xE (zyEl zymc B s.heap) 30 k) ∧ ((v2 1) : Int) = x0 0 ∧ ((v2 2) : Int) = x0 1
            refine ⟨by omega, ⟨by omega, by omega⟩, by omega, w2, fun k k0 => ?_, by omega, by omega⟩
            rw [hEE3]
            exact (e30 k).trans (q30 k)
          · show 7 < 8
            omega
      · skip
        have ex := List.mem_singleton.mp hx
        subst ex
        obtain ⟨hF, hBd, hM⟩ := hXs
        have g1 : v2 1 = v 1 := hag 1 (by decide)
        have g2 : v2 2 = v 2 := hag 2 (by decide)
        have b0 : ((2147483648 : Nat) : Int) ≤ (v2 1) + 2147483648 ∧ (v2 1) + 2147483648 ≤ ((2147483678 : Nat) : Int) := xXb hBd 0 rfl
        have b1 : ((2147483648 : Nat) : Int) ≤ (v2 2) + 2147483648 ∧ (v2 2) + 2147483648 ≤ ((2147483648 : Nat) : Int) := xXb hBd 1 rfl
        have b2 : ((2147483649 : Nat) : Int) ≤ (v2 3) + 2147483648 ∧ (v2 3) + 2147483648 ≤ ((2147483679 : Nat) : Int) := xXb hBd 2 rfl
        have b3 : ((2147483648 : Nat) : Int) ≤ (v2 4) + 2147483648 ∧ (v2 4) + 2147483648 ≤ ((2147483649 : Nat) : Int) := xXb hBd 3 rfl
        have f0 : 0 ≤ (v2 1) := xXf hF 0 rfl
        have f1 : (0 : Int) ≤ 3 ∧ xE (zyEl zymc B H) 19 3 = (v2 3) := xXf hF 1 rfl
        have f2 : (v2 1) < (v2 3) := xXf hF 2 rfl
        have f3 : (0 : Int) ≤ (v2 1) ∧ xE (zyEl zymc B H) 30 (v2 1) = (v2 4) := xXf hF 3 rfl
        have f4 : ¬ (v2 4) = (v2 2) := xXf hF 4 rfl
        have f5 : (v2 2) = 0 := xXf hF 5 rfl
        have e19_3 : xE (zyEl zymc B H2) 19 3 = xE (zyEl zymc B H) 19 3 := xFr_E hfr rfl
        have q19_3 : xE (zyEl zymc B H) 19 3 = xE (zyEl zymc B s.heap) 19 3 := xFr_E hFr0 rfl
        have e30 : ∀ i, xE (zyEl zymc B H2) 30 i = xE (zyEl zymc B H) 30 i := fun i => xFr_E hfr rfl
        have hI : (zyEl zymc B H) = (zyEl zymc B s.heap) ∧ (v 1) = x0 0 ∧ (v 2) = x0 1 := hInv
        have q30 : ∀ i, xE (zyEl zymc B H) 30 i = xE (zyEl zymc B s.heap) 30 i := fun i => by rw [hI.1]
        obtain ⟨hE, i1, i2⟩ := hI
        have hSW := q19_3
        have c3 : xE (zyEl zymc B s.heap) 30 ((v2 1)) = (v2 4) := (q30 _).symm.trans f3.2
        rw [show (v2 1) = x0 0 by omega] at c3
        have hvl : xVf18 x0 (zyEl zymc B s.heap) := by
          unfold xVf18
          refine ⟨⟨by omega, by omega⟩, by omega, by omega⟩
        refine xGo hIH hAt hB hv hFr ⟨3, by decide⟩ [0, 34359738369, 68719476737] [0, (v2 1), (v2 2)] rfl ⟨by decide +kernel, ⟨rfl, by decide +kernel⟩, (xcs_c rfl (xcs_c rfl (xcs_c rfl xcs_n))), (xe_0 (xe_c (by omega) (by omega) rfl (xe_c (by omega) (by omega) rfl xe_n))), xkq_n⟩ xst_n ?_ ?_
        · show xVf18 x0 (zyEl zymc B s.heap) ∧ (∀ k, 0 ≤ k → xE (zyEl zymc B H2) 30 k = xE (zyEl zymc B s.heap) 30 k) ∧ ((v2 1) : Int) = x0 0 ∧ ((v2 2) : Int) = x0 1
          exact ⟨hvl, fun k _ => (e30 k).trans (q30 k), by omega, by omega⟩
        · show 6 < 8
          omega
    · have hx : x ∈ [zxfcfr18_bx0] := hx
      have hag : ∀ k, k < 4 → v2 k = v k := hag
      have hfr : xFr [(0, 0, 0)] _ _ := hfr
      have ex := List.mem_singleton.mp hx
      subst ex
      obtain ⟨hF, hBd, hM⟩ := hXs
      have g1 : v2 1 = v 1 := hag 1 (by decide)
      have g2 : v2 2 = v 2 := hag 2 (by decide)
      have g3 : v2 3 = v 3 := hag 3 (by decide)
      have b0 : ((2147483648 : Nat) : Int) ≤ (v2 1) + 2147483648 ∧ (v2 1) + 2147483648 ≤ ((2147483678 : Nat) : Int) := xXb hBd 0 rfl
      have b1 : ((2147483648 : Nat) : Int) ≤ (v2 2) + 2147483648 ∧ (v2 2) + 2147483648 ≤ ((2147483649 : Nat) : Int) := xXb hBd 1 rfl
      have b2 : ((0 : Nat) : Int) ≤ (v2 3) + 2147483648 ∧ (v2 3) + 2147483648 ≤ ((2147483653 : Nat) : Int) := xXb hBd 2 rfl
      have f0 : (v2 3) < 6 := xXf hF 0 rfl
      have e19_3 : xE (zyEl zymc B H2) 19 3 = xE (zyEl zymc B H) 19 3 := xFr_E hfr rfl
      have q19_3 : xE (zyEl zymc B H) 19 3 = xE (zyEl zymc B s.heap) 19 3 := xFr_E hFr0 rfl
      have e30 : ∀ i, xE (zyEl zymc B H2) 30 i = xE (zyEl zymc B H) 30 i := fun i => xFr_E hfr rfl
      have hI : ((v 2) = 1) ∧ (0 ≤ x0 0 ∧ x0 0 < xE (zyEl zymc B s.heap) 19 3) ∧ ¬ xE (zyEl zymc B s.heap) 30 (x0 0) = x0 1 ∧ (v 3) = pCnt (fun k => xE (zyEl zymc B s.heap) 30 (k - 104)) 104 (xE (zyEl zymc B s.heap) 19 3).toNat ∧ (∀ k, 0 ≤ k → xE (zyEl zymc B H) 30 k = xE (zyEl zymc B s.heap) 30 k) ∧ (v 1) = x0 0 ∧ (v 2) = x0 1 := hInv
      obtain ⟨j1, j2, j3, j4, hc, i1, i2⟩ := hI
      have hvl : xVf18 x0 (zyEl zymc B s.heap) := by
        unfold xVf18
        refine ⟨⟨by omega, by omega⟩, by omega, by omega⟩
      refine xGo hIH hAt hB hv hFr ⟨3, by decide⟩ [0, 34359738369, 68719476737] [0, (v2 1), (v2 2)] rfl ⟨by decide +kernel, ⟨rfl, by decide +kernel⟩, (xcs_c rfl (xcs_c rfl (xcs_c rfl xcs_n))), (xe_0 (xe_c (by omega) (by omega) rfl (xe_c (by omega) (by omega) rfl xe_n))), xkq_n⟩ xst_n ?_ ?_
      · show xVf18 x0 (zyEl zymc B s.heap) ∧ (∀ k, 0 ≤ k → xE (zyEl zymc B H2) 30 k = xE (zyEl zymc B s.heap) 30 k) ∧ ((v2 1) : Int) = x0 0 ∧ ((v2 2) : Int) = x0 1
        exact ⟨hvl, fun k k0 => (e30 k).trans (hc k k0), by omega, by omega⟩
      · show 6 < 7
        omega
    · have hx : x ∈ [zxfcfr18_cx0] := hx
      have hag : ∀ k, k < 3 → v2 k = v k := hag
      have hfr : xFr [] _ _ := hfr
      have ex := List.mem_singleton.mp hx
      subst ex
      obtain ⟨hF, hBd, hM⟩ := hXs
      have g1 : v2 1 = v 1 := hag 1 (by decide)
      have g2 : v2 2 = v 2 := hag 2 (by decide)
      have b0 : ((2147483648 : Nat) : Int) ≤ (v2 1) + 2147483648 ∧ (v2 1) + 2147483648 ≤ ((2147483678 : Nat) : Int) := xXb hBd 0 rfl
      have b1 : ((2147483648 : Nat) : Int) ≤ (v2 2) + 2147483648 ∧ (v2 2) + 2147483648 ≤ ((2147483649 : Nat) : Int) := xXb hBd 1 rfl
      have e19_3 : xE (zyEl zymc B H2) 19 3 = xE (zyEl zymc B H) 19 3 := xFr_E hfr rfl
      have q19_3 : xE (zyEl zymc B H) 19 3 = xE (zyEl zymc B s.heap) 19 3 := xFr_E hFr0 rfl
      have e30 : ∀ i, xE (zyEl zymc B H2) 30 i = xE (zyEl zymc B H) 30 i := fun i => xFr_E hfr rfl
      have hI : xVf18 x0 (zyEl zymc B s.heap) ∧ (∀ k, 0 ≤ k → xE (zyEl zymc B H) 30 k = xE (zyEl zymc B s.heap) 30 k) ∧ (v 1) = x0 0 ∧ (v 2) = x0 1 := hInv
      obtain ⟨hvl, hc, i1, i2⟩ := hI
      refine xGo hIH hAt hB hv hFr ⟨4, by decide⟩ [0, 34359738369, 68719476737] [0, (v2 1), (v2 2)] rfl ⟨by decide +kernel, ⟨rfl, by decide +kernel⟩, (xcs_c rfl (xcs_c rfl (xcs_c rfl xcs_n))), (xe_0 (xe_c (by omega) (by omega) rfl (xe_c (by omega) (by omega) rfl xe_n))), (xkq_r 0 1 18 rfl rfl rfl rfl rfl ((hfr 0 1 rfl).trans ((hFr0 0 1 rfl).trans hΦ.1)) xkq_n)⟩ xst_n ?_ ?_
      · show xVf18 x0 (zyEl zymc B s.heap) ∧ (∀ k, 0 ≤ k → xE (zyEl zymc B H2) 30 k = xE (zyEl zymc B s.heap) 30 k) ∧ ((v2 1) : Int) = x0 0 ∧ ((v2 2) : Int) = x0 1
        exact ⟨hvl, fun k k0 => (e30 k).trans (hc k k0), by omega, by omega⟩
      · show 5 < 6
        omega
    · have hx : x ∈ [zxfcfr18_c2x0] := hx
      have hag : ∀ k, k < 3 → v2 k = v k := hag
      have hfr : xFr [] _ _ := hfr
      have ex := List.mem_singleton.mp hx
      subst ex
      obtain ⟨hF, hBd, hM⟩ := hXs
      have g1 : v2 1 = v 1 := hag 1 (by decide)
      have g2 : v2 2 = v 2 := hag 2 (by decide)
      have b0 : ((2147483648 : Nat) : Int) ≤ (v2 1) + 2147483648 ∧ (v2 1) + 2147483648 ≤ ((2147483678 : Nat) : Int) := xXb hBd 0 rfl
      have b1 : ((2147483648 : Nat) : Int) ≤ (v2 2) + 2147483648 ∧ (v2 2) + 2147483648 ≤ ((2147483649 : Nat) : Int) := xXb hBd 1 rfl
      have e19_3 : xE (zyEl zymc B H2) 19 3 = xE (zyEl zymc B H) 19 3 := xFr_E hfr rfl
      have q19_3 : xE (zyEl zymc B H) 19 3 = xE (zyEl zymc B s.heap) 19 3 := xFr_E hFr0 rfl
      have e30 : ∀ i, xE (zyEl zymc B H2) 30 i = xE (zyEl zymc B H) 30 i := fun i => xFr_E hfr rfl
      have hI : xVf18 x0 (zyEl zymc B s.heap) ∧ (∀ k, 0 ≤ k → xE (zyEl zymc B H) 30 k = xE (zyEl zymc B s.heap) 30 k) ∧ (v 1) = x0 0 ∧ (v 2) = x0 1 := hInv
      obtain ⟨hvl, hc, i1, i2⟩ := hI
      refine xSt hRu hIH hAt hB hv hFr 30 (ax := 0) 68719476737 34359738369 (v2 2) (v2 1) rfl (Or.inr (Or.inr ⟨rfl, rfl, by omega, by omega⟩)) rfl (by decide +kernel) rfl rfl (by omega) (by show (v2 1) < ((31 : Nat) : Int); omega) (fun r hr q1 q2 => by rw [List.mem_singleton.mp hr]; exact ⟨rfl, by show ((2147483648 : Nat) : Int) ≤ (v2 2) + 2147483648; omega, by show (v2 2) + 2147483648 ≤ ((2147483649 : Nat) : Int); omega⟩) (zyin_iff.mpr ⟨(30, 0, 30), by decide, rfl, (by show 0 ≤ Int.toNat (v2 1); omega), by show Int.toNat (v2 1) ≤ 30; omega⟩) (fun H3 hT3 hst3 hne3 hfn3 hFr3 => ?_)
      have hfe3 : ∀ (a2 : Nat) (k2 : Int), ¬ a2 = 30 → xE (zyEl zymc B H3) a2 k2 = xE (zyEl zymc B H2) a2 k2 := fun a2 k2 hne => by unfold xE; rw [hfn3 a2 k2.toNat (fun z => hne z.1)]
      have d19_3 : xE (zyEl zymc B H3) 19 3 = xE (zyEl zymc B H2) 19 3 := hfe3 19 3 (fun z => absurd z (by decide))
      refine ⟨⟨5, by decide⟩, [0, 0, 0], [0, 0, 0], rfl, ⟨by decide +kernel, ⟨rfl, by decide +kernel⟩, (xcs_c rfl (xcs_c rfl (xcs_c rfl xcs_n))), (xe_0 (xe_0 (xe_0 xe_n))), (xkq_r 0 1 18 rfl rfl rfl rfl rfl ((hfn3 0 1 (fun z => absurd z.1 (by decide))).trans ((hfr 0 1 rfl).trans ((hFr0 0 1 rfl).trans hΦ.1))) xkq_n)⟩, rfl, ?_, ?_⟩
      · show xVf18 x0 (zyEl zymc B s.heap) ∧ (∀ k, 0 ≤ k → xE (zyEl zymc B H3) 30 k = uS (xE (zyEl zymc B s.heap) 30) (x0 0) (x0 1) k)
        refine ⟨hvl, fun k k0 => ?_⟩
        by_cases e : k = x0 0
        · rw [uS_e e, e, show x0 0 = (v2 1) by omega, hst3] <;> omega
        · rw [uS_n e, hne3 30 k k0 (fun z => e (by omega)), e30]
          exact hc k k0
      · show 4 < 5
        omega
    · have hx : x ∈ [zxfcfr18_dx0] := hx
      have hag : ∀ k, k < 3 → v2 k = v k := hag
      have hfr : xFr [] _ _ := hfr
      have ex := List.mem_singleton.mp hx
      subst ex
      obtain ⟨hF, hBd, hM⟩ := hXs
      have e19_3 : xE (zyEl zymc B H2) 19 3 = xE (zyEl zymc B H) 19 3 := xFr_E hfr rfl
      have q19_3 : xE (zyEl zymc B H) 19 3 = xE (zyEl zymc B s.heap) 19 3 := xFr_E hFr0 rfl
      have e30 : ∀ i, xE (zyEl zymc B H2) 30 i = xE (zyEl zymc B H) 30 i := fun i => xFr_E hfr rfl
      have hI : xVf18 x0 (zyEl zymc B s.heap) ∧ (∀ k, 0 ≤ k → xE (zyEl zymc B H) 30 k = uS (xE (zyEl zymc B s.heap) 30) (x0 0) (x0 1) k) := hInv
      obtain ⟨hvl, hc⟩ := hI
      refine xCa hRu hIH hAt hB hv hFr (hfcg18 B) (ix := 149) (ax := 561) rfl rfl rfl hmefcg18 ⟨_, rfl, rfl, by decide⟩ ⟨rfl, rfl, rfl⟩ (by decide) [] [3] [] rfl ⟨rfl, rfl⟩ (by decide +kernel) xcs_n (by decide +kernel) ?_ (fun H3 r hT3 hf3 hFr3 hr3 hΨ3 => ?_)
      · show xΦcg18 (xfv []) (zyEl zymc B H2)
        exact trivial
      · have hΨ3 : xΨcg18 (xfv []) (zyEl zymc B H2) (zyEl zymc B H3) r := hΨ3
        have d19_3 : xE (zyEl zymc B H3) 19 3 = xE (zyEl zymc B H2) 19 3 := xFr_E hf3 rfl
        have d30 : ∀ i, xE (zyEl zymc B H3) 30 i = xE (zyEl zymc B H2) 30 i := fun i => xFr_E hf3 rfl
        obtain ⟨w1, w2⟩ := hΨ3
        have hEE3 := xFr_n hf3
        refine ⟨⟨6, by decide⟩, [0, 0, 0], [0, 0, 0, r], rfl, ⟨by decide +kernel, ⟨rfl, by decide +kernel⟩, (xcs_c rfl (xcs_c rfl (xcs_c rfl xcs_n))), (xe_0 (xe_0 (xe_0 (xe_f (by omega) xe_n)))), xkq_n⟩, (by rw [if_pos rfl]; exact ⟨3, [3], rfl, by decide, rfl, (xst_r rfl xst_n)⟩), ?_, ?_⟩
        · show xVf18 x0 (zyEl zymc B s.heap) ∧ (∀ k, 0 ≤ k → xE (zyEl zymc B H3) 30 k = uS (xE (zyEl zymc B s.heap) 30) (x0 0) (x0 1) k) ∧ (r : Int) = pCnt (fun k => uS (xE (zyEl zymc B s.heap) 30) (x0 0) (x0 1) (k - 104)) 104 (xE (zyEl zymc B s.heap) 19 3).toNat
          refine ⟨hvl, fun k k0 => ?_, ?_⟩
          · rw [hEE3]
            exact (e30 k).trans (hc k k0)
          · rw [w2, show xE (zyEl zymc B H2) 19 3 = xE (zyEl zymc B s.heap) 19 3 by omega]
            exact pCnt_w fun k k0 => (e30 _).trans (hc _ (by omega))
        · show 3 < 4
          omega
    · cases hx
  · intro x0 E0 E E2 hrx hT0 hΦ i v hT hrv hInv hKc hFr0 x hx v2 hr2 hXs hag hfr hFr hT2
    rcases i with ⟨i, hi⟩
    have hi2 : i = 0 ∨ i = 1 ∨ i = 2 ∨ i = 3 ∨ i = 4 ∨ i = 5 ∨ i = 6 := by omega
    rcases hi2 with rfl | rfl | rfl | rfl | rfl | rfl | rfl
    · cases hx
    · have hx : x ∈ [zxfcfr18_ar0, zxfcfr18_ar1, zxfcfr18_ar2] := hx
      have hag : ∀ k, k < 3 → v2 k = v k := hag
      have hfr : xFr [(0, 0, 0)] _ _ := hfr
      rcases List.mem_cons.mp hx with ex | hx
      · subst ex
        obtain ⟨hF, hBd, hM⟩ := hXs
        have g1 : v2 1 = v 1 := hag 1 (by decide)
        have g2 : v2 2 = v 2 := hag 2 (by decide)
        have b0 : ((0 : Nat) : Int) ≤ (v2 1) + 2147483648 ∧ (v2 1) + 2147483648 ≤ ((2147483647 : Nat) : Int) := xXb hBd 0 rfl
        have f0 : (v2 1) < 0 := xXf hF 0 rfl
        have e19_3 : xE E2 19 3 = xE E 19 3 := xFr_E hfr rfl
        have q19_3 : xE E 19 3 = xE E0 19 3 := xFr_E hFr0 rfl
        have e30 : ∀ i, xE E2 30 i = xE E 30 i := fun i => xFr_E hfr rfl
        have hI : E = E0 ∧ (v 1) = x0 0 ∧ (v 2) = x0 1 := hInv
        have q30 : ∀ i, xE E 30 i = xE E0 30 i := fun i => by rw [hI.1]
        show xΨcfr18 x0 E0 E2 (-1)
        obtain ⟨hE, i1, i2⟩ := hI
        have hSW := q19_3
        have hvl : ¬ xVf18 x0 E0 := by
          unfold xVf18
          rintro ⟨⟨y1, y2⟩, y3, y4⟩
          omega
        exact ⟨fun h => absurd h hvl, fun _ => ⟨by omega, fun k _ => (e30 k).trans (q30 k)⟩⟩
      · skip
        rcases List.mem_cons.mp hx with ex | hx
        · subst ex
          obtain ⟨hF, hBd, hM⟩ := hXs
          have g1 : v2 1 = v 1 := hag 1 (by decide)
          have g2 : v2 2 = v 2 := hag 2 (by decide)
          have b0 : ((2147483648 : Nat) : Int) ≤ (v2 1) + 2147483648 ∧ (v2 1) + 2147483648 ≤ ((2147483678 : Nat) : Int) := xXb hBd 0 rfl
          have b1 : ((2147483648 : Nat) : Int) ≤ (v2 2) + 2147483648 ∧ (v2 2) + 2147483648 ≤ ((2147483649 : Nat) : Int) := xXb hBd 1 rfl
          have b2 : ((2147483649 : Nat) : Int) ≤ (v2 3) + 2147483648 ∧ (v2 3) + 2147483648 ≤ ((2147483679 : Nat) : Int) := xXb hBd 2 rfl
          have b3 : ((2147483648 : Nat) : Int) ≤ (v2 4) + 2147483648 ∧ (v2 4) + 2147483648 ≤ ((2147483649 : Nat) : Int) := xXb hBd 3 rfl
          have f0 : 0 ≤ (v2 1) := xXf hF 0 rfl
          have f1 : (0 : Int) ≤ 3 ∧ xE E 19 3 = (v2 3) := xXf hF 1 rfl
          have f2 : (v2 1) < (v2 3) := xXf hF 2 rfl
          have f3 : (0 : Int) ≤ (v2 1) ∧ xE E 30 (v2 1) = (v2 4) := xXf hF 3 rfl
          have f4 : (v2 4) = (v2 2) := xXf hF 4 rfl
          have e19_3 : xE E2 19 3 = xE E 19 3 := xFr_E hfr rfl
          have q19_3 : xE E 19 3 = xE E0 19 3 := xFr_E hFr0 rfl
          have e30 : ∀ i, xE E2 30 i = xE E 30 i := fun i => xFr_E hfr rfl
          have hI : E = E0 ∧ (v 1) = x0 0 ∧ (v 2) = x0 1 := hInv
          have q30 : ∀ i, xE E 30 i = xE E0 30 i := fun i => by rw [hI.1]
          show xΨcfr18 x0 E0 E2 (-1)
          obtain ⟨hE, i1, i2⟩ := hI
          have hSW := q19_3
          have c3 : xE E0 30 ((v2 1)) = (v2 4) := (q30 _).symm.trans f3.2
          rw [show (v2 1) = x0 0 by omega] at c3
          have hvl : ¬ xVf18 x0 E0 := by
            unfold xVf18
            rintro ⟨⟨y1, y2⟩, y3, y4⟩
            omega
          exact ⟨fun h => absurd h hvl, fun _ => ⟨by omega, fun k _ => (e30 k).trans (q30 k)⟩⟩
        · skip
          have ex := List.mem_singleton.mp hx
          subst ex
          obtain ⟨hF, hBd, hM⟩ := hXs
          have g1 : v2 1 = v 1 := hag 1 (by decide)
          have g2 : v2 2 = v 2 := hag 2 (by decide)
          have b0 : ((2147483648 : Nat) : Int) ≤ (v2 1) + 2147483648 ∧ (v2 1) + 2147483648 ≤ ((4294967295 : Nat) : Int) := xXb hBd 0 rfl
          have b1 : ((2147483648 : Nat) : Int) ≤ (v2 3) + 2147483648 ∧ (v2 3) + 2147483648 ≤ ((2147483679 : Nat) : Int) := xXb hBd 1 rfl
          have f0 : 0 ≤ (v2 1) := xXf hF 0 rfl
          have f1 : (0 : Int) ≤ 3 ∧ xE E 19 3 = (v2 3) := xXf hF 1 rfl
          have f2 : (v2 3) ≤ (v2 1) := xXf hF 2 rfl
          have e19_3 : xE E2 19 3 = xE E 19 3 := xFr_E hfr rfl
          have q19_3 : xE E 19 3 = xE E0 19 3 := xFr_E hFr0 rfl
          have e30 : ∀ i, xE E2 30 i = xE E 30 i := fun i => xFr_E hfr rfl
          have hI : E = E0 ∧ (v 1) = x0 0 ∧ (v 2) = x0 1 := hInv
          have q30 : ∀ i, xE E 30 i = xE E0 30 i := fun i => by rw [hI.1]
          show xΨcfr18 x0 E0 E2 (-1)
          obtain ⟨hE, i1, i2⟩ := hI
          have hSW := q19_3
          have hvl : ¬ xVf18 x0 E0 := by
            unfold xVf18
            rintro ⟨⟨y1, y2⟩, y3, y4⟩
            omega
          exact ⟨fun h => absurd h hvl, fun _ => ⟨by omega, fun k _ => (e30 k).trans (q30 k)⟩⟩
    · have hx : x ∈ [zxfcfr18_br0] := hx
      have hag : ∀ k, k < 4 → v2 k = v k := hag
      have hfr : xFr [(0, 0, 0)] _ _ := hfr
      have ex := List.mem_singleton.mp hx
      subst ex
      obtain ⟨hF, hBd, hM⟩ := hXs
      have g1 : v2 1 = v 1 := hag 1 (by decide)
      have g2 : v2 2 = v 2 := hag 2 (by decide)
      have g3 : v2 3 = v 3 := hag 3 (by decide)
      have b0 : ((2147483654 : Nat) : Int) ≤ (v2 3) + 2147483648 ∧ (v2 3) + 2147483648 ≤ ((4294967295 : Nat) : Int) := xXb hBd 0 rfl
      have f0 : 6 ≤ (v2 3) := xXf hF 0 rfl
      have e19_3 : xE E2 19 3 = xE E 19 3 := xFr_E hfr rfl
      have q19_3 : xE E 19 3 = xE E0 19 3 := xFr_E hFr0 rfl
      have e30 : ∀ i, xE E2 30 i = xE E 30 i := fun i => xFr_E hfr rfl
      have hI : ((v 2) = 1) ∧ (0 ≤ x0 0 ∧ x0 0 < xE E0 19 3) ∧ ¬ xE E0 30 (x0 0) = x0 1 ∧ (v 3) = pCnt (fun k => xE E0 30 (k - 104)) 104 (xE E0 19 3).toNat ∧ (∀ k, 0 ≤ k → xE E 30 k = xE E0 30 k) ∧ (v 1) = x0 0 ∧ (v 2) = x0 1 := hInv
      show xΨcfr18 x0 E0 E2 (-1)
      obtain ⟨j1, j2, j3, j4, hc, i1, i2⟩ := hI
      have hvl : ¬ xVf18 x0 E0 := by
        unfold xVf18
        rintro ⟨⟨y1, y2⟩, y3, y4⟩
        omega
      exact ⟨fun h => absurd h hvl, fun _ => ⟨by omega, fun k k0 => (e30 k).trans (hc k k0)⟩⟩
    · cases hx
    · cases hx
    · cases hx
    · have hx : x ∈ [zxfcfr18_er0] := hx
      have hag : ∀ k, k < 4 → v2 k = v k := hag
      have hfr : xFr [(0, 0, 0)] _ _ := hfr
      have ex := List.mem_singleton.mp hx
      subst ex
      obtain ⟨hF, hBd, hM⟩ := hXs
      have r3 := hr2 3
      have g3 : v2 3 = v 3 := hag 3 (by decide)
      have e19_3 : xE E2 19 3 = xE E 19 3 := xFr_E hfr rfl
      have q19_3 : xE E 19 3 = xE E0 19 3 := xFr_E hFr0 rfl
      have e30 : ∀ i, xE E2 30 i = xE E 30 i := fun i => xFr_E hfr rfl
      have hI : xVf18 x0 E0 ∧ (∀ k, 0 ≤ k → xE E 30 k = uS (xE E0 30) (x0 0) (x0 1) k) ∧ (v 3) = pCnt (fun k => uS (xE E0 30) (x0 0) (x0 1) (k - 104)) 104 (xE E0 19 3).toNat := hInv
      show xΨcfr18 x0 E0 E2 (v2 3)
      obtain ⟨hvl, hc, i3⟩ := hI
      exact ⟨fun _ => ⟨by omega, fun k k0 => (e30 k).trans (hc k k0)⟩, fun h => absurd hvl h⟩
end
section
/-! THE REFERENCE: free (printed by m34.py) -/
noncomputable def zxffr2_zx0 : zyXp := (0, [595, 34359738369, 68719476737], [], [], [(68719476737, 2147483648, 2147483649)], [])
noncomputable def zpffr2_z : zyPh := (0, [595, 34359738369, 68719476737], [(0, 4294967295), (0, 4294967295), (2147483648, 2147483649)], [], [])
noncomputable def zxffr2_ax0 : zyXp := (46, [595, 34359738369, 68719476737], [832, 595, 595], [(3, 171798691841, 103079215105, 171798691833), (3, 206158430209, 137438953465, 137438953473), (1, 240518168577, 171798691841, 206158430209), (21, 0, 34359738369, 0), (21, 0, 274877906937, 34359738369), (24, 274877906945, 75, 34359739201), (23, 0, 274877906945, 8), (23, 0, 0, 68719476737), (23, 0, 68719476737, 0)], [(34359738369, 2147483648, 2147483678), (68719476737, 2147483649, 2147483649), (103079215105, 2147483649, 2147483652), (137438953473, 2147483649, 2147483653), (171798691841, 2147483648, 2147483664), (206158430209, 2147483648, 2147483663), (240518168577, 2147483649, 2147483679), (274877906945, 2147483650, 4294967295)], [])
noncomputable def zxffr2_ax1 : zyXp := (46, [595, 34359738369, 68719476737], [832, 595, 595], [(3, 171798691841, 103079215105, 171798691833), (3, 206158430209, 137438953465, 137438953473), (1, 240518168577, 171798691841, 206158430209), (21, 0, 34359738369, 0), (21, 0, 274877906937, 34359738369), (24, 274877906945, 75, 34359739201), (23, 0, 274877906945, 8), (23, 0, 0, 68719476737), (23, 0, 68719476737, 0)], [(34359738369, 2147483648, 2147483678), (68719476737, 2147483649, 2147483649), (103079215105, 2147483649, 2147483652), (137438953473, 2147483649, 2147483653), (171798691841, 2147483648, 2147483664), (206158430209, 2147483648, 2147483663), (240518168577, 2147483649, 2147483679), (274877906945, 0, 2147483648)], [])
noncomputable def zxffr2_ax2 : zyXp := (67, [595, 34359738369, 68719476737], [], [(3, 171798691841, 103079215105, 171798691833), (3, 206158430209, 137438953465, 137438953473), (1, 240518168577, 171798691841, 206158430209), (21, 0, 34359738369, 0), (21, 0, 274877906937, 34359738369), (24, 274877906945, 75, 34359739201), (22, 0, 274877906945, 8), (23, 0, 8, 68719476737), (22, 0, 68719476737, 0)], [(34359738369, 2147483648, 2147483678), (68719476737, 2147483648, 2147483648), (103079215105, 2147483649, 2147483652), (137438953473, 2147483649, 2147483653), (171798691841, 2147483648, 2147483664), (206158430209, 2147483648, 2147483663), (240518168577, 2147483649, 2147483679), (274877906945, 2147483649, 2147483649)], [])
noncomputable def zxffr2_ar0 : zyXp := (0, [], [34359738360], [(3, 171798691841, 103079215105, 171798691833), (3, 206158430209, 137438953465, 137438953473), (1, 240518168577, 171798691841, 206158430209), (20, 0, 34359738369, 0)], [(34359738369, 0, 2147483647), (103079215105, 2147483649, 2147483652), (137438953473, 2147483649, 2147483653), (171798691841, 2147483648, 2147483664), (206158430209, 2147483648, 2147483663), (240518168577, 2147483648, 2147483679)], [])
noncomputable def zxffr2_ar1 : zyXp := (0, [], [34359738360], [(3, 171798691841, 103079215105, 171798691833), (3, 206158430209, 137438953465, 137438953473), (1, 240518168577, 171798691841, 206158430209), (21, 0, 34359738369, 0), (20, 0, 274877906937, 34359738369)], [(34359738369, 2147483648, 4294967295), (103079215105, 2147483649, 2147483652), (137438953473, 2147483649, 2147483653), (171798691841, 2147483648, 2147483664), (206158430209, 2147483648, 2147483663), (240518168577, 2147483648, 2147483679)], [])
noncomputable def zxffr2_ar2 : zyXp := (0, [], [34359738360], [(3, 171798691841, 103079215105, 171798691833), (3, 206158430209, 137438953465, 137438953473), (1, 240518168577, 171798691841, 206158430209), (21, 0, 34359738369, 0), (21, 0, 274877906937, 34359738369), (24, 274877906945, 75, 34359739201), (23, 0, 274877906945, 8), (22, 0, 0, 68719476737)], [(34359738369, 2147483648, 2147483678), (68719476737, 2147483648, 2147483648), (103079215105, 2147483649, 2147483652), (137438953473, 2147483649, 2147483653), (171798691841, 2147483648, 2147483664), (206158430209, 2147483648, 2147483663), (240518168577, 2147483649, 2147483679), (274877906945, 2147483650, 4294967295)], [])
noncomputable def zxffr2_ar3 : zyXp := (0, [], [34359738360], [(3, 171798691841, 103079215105, 171798691833), (3, 206158430209, 137438953465, 137438953473), (1, 240518168577, 171798691841, 206158430209), (21, 0, 34359738369, 0), (21, 0, 274877906937, 34359738369), (24, 274877906945, 75, 34359739201), (23, 0, 274877906945, 8), (22, 0, 0, 68719476737)], [(34359738369, 2147483648, 2147483678), (68719476737, 2147483648, 2147483648), (103079215105, 2147483649, 2147483652), (137438953473, 2147483649, 2147483653), (171798691841, 2147483648, 2147483664), (206158430209, 2147483648, 2147483663), (240518168577, 2147483649, 2147483679), (274877906945, 0, 2147483648)], [])
noncomputable def zxffr2_ar4 : zyXp := (0, [], [34359738360], [(3, 171798691841, 103079215105, 171798691833), (3, 206158430209, 137438953465, 137438953473), (1, 240518168577, 171798691841, 206158430209), (21, 0, 34359738369, 0), (21, 0, 274877906937, 34359738369), (24, 274877906945, 75, 34359739201), (22, 0, 274877906945, 8), (22, 0, 8, 68719476737)], [(34359738369, 2147483648, 2147483678), (68719476737, 2147483649, 2147483649), (103079215105, 2147483649, 2147483652), (137438953473, 2147483649, 2147483653), (171798691841, 2147483648, 2147483664), (206158430209, 2147483648, 2147483663), (240518168577, 2147483649, 2147483679), (274877906945, 2147483649, 2147483649)], [])
noncomputable def zpffr2_a : zyPh := (0, [595, 34359738369, 68719476737], [(0, 4294967295), (0, 4294967295), (2147483648, 2147483649), (2147483649, 2147483652), (2147483649, 2147483653)], [(1228800, 103079215105), (1228801, 137438953473)], [])
noncomputable def zxffr2_bx0 : zyXp := (67, [595, 34359738369, 68719476737], [], [(23, 0, 103079215105, 48)], [(34359738369, 2147483648, 2147483678), (68719476737, 2147483648, 2147483649), (103079215105, 2147483655, 4294967295)], [])
noncomputable def zxffr2_bx1 : zyXp := (67, [595, 34359738369, 68719476737], [], [(23, 0, 103079215105, 48)], [(34359738369, 2147483648, 2147483678), (68719476737, 2147483648, 2147483649), (103079215105, 0, 2147483653)], [])
noncomputable def zxffr2_br0 : zyXp := (0, [], [34359738360], [(22, 0, 103079215105, 48)], [(103079215105, 2147483654, 2147483654)], [])
noncomputable def zpffr2_b : zyPh := (49, [595, 34359738369, 68719476737], [(0, 4294967295), (2147483648, 2147483678), (2147483648, 2147483649), (0, 4294967295)], [], [103079215105, 595])
noncomputable def zxffr2_cx0 : zyXp := (67, [595, 34359738369, 68719476737], [], [], [(34359738369, 2147483648, 2147483678), (68719476737, 2147483648, 2147483649)], [])
noncomputable def zpffr2_c : zyPh := (67, [595, 34359738369, 68719476737], [(0, 4294967295), (2147483648, 2147483678), (2147483648, 2147483649)], [], [])
noncomputable def zxffr2_c2x0 : zyXp := (84, [595, 34359738369, 68719476737], [8, 34359739201, 603], [(23, 0, 68719476737, 0)], [(34359738369, 2147483648, 2147483678), (68719476737, 2147483649, 2147483649), (34359739201, 2147483752, 2147483782)], [])
noncomputable def zxffr2_c2x1 : zyXp := (84, [595, 34359738369, 68719476737], [0, 34359739201, 603], [(22, 0, 68719476737, 0)], [(34359738369, 2147483648, 2147483678), (68719476737, 2147483648, 2147483648), (34359739201, 2147483752, 2147483782)], [])
noncomputable def zpffr2_c2 : zyPh := (67, [595, 34359738369, 68719476737], [(0, 4294967295), (2147483648, 2147483678), (2147483648, 2147483649)], [], [])
noncomputable def zxffr2_dx0 : zyXp := (88, [595, 13, 13], [832, 595], [], [], [])
noncomputable def zpffr2_d : zyPh := (85, [595, 13, 13], [(0, 4294967295), (0, 4294967295), (0, 4294967295)], [], [])
noncomputable def zxffr2_er0 : zyXp := (0, [], [103079215105], [], [], [])
noncomputable def zpffr2_e : zyPh := (91, [595, 13, 13], [(0, 4294967295), (0, 4294967295), (0, 4294967295), (0, 4294967295)], [], [103079215105])
noncomputable def zpffr2 (i : Nat) : zyPh := zif (Nat.beq i 0) (zpffr2_z) (zif (Nat.beq i 1) (zpffr2_a) (zif (Nat.beq i 2) (zpffr2_b) (zif (Nat.beq i 3) (zpffr2_c) (zif (Nat.beq i 4) (zpffr2_c2) (zif (Nat.beq i 5) (zpffr2_d) (zpffr2_e))))))
noncomputable def zXffr2 (i : Nat) : List zyXp := zif (Nat.beq i 0) ([zxffr2_zx0]) (zif (Nat.beq i 1) ([zxffr2_ax0, zxffr2_ax1, zxffr2_ax2]) (zif (Nat.beq i 2) ([zxffr2_bx0, zxffr2_bx1]) (zif (Nat.beq i 3) ([zxffr2_cx0]) (zif (Nat.beq i 4) ([zxffr2_c2x0, zxffr2_c2x1]) (zif (Nat.beq i 5) ([zxffr2_dx0]) ([]))))))
noncomputable def zRffr2 (i : Nat) : List zyXp := zif (Nat.beq i 0) ([]) (zif (Nat.beq i 1) ([zxffr2_ar0, zxffr2_ar1, zxffr2_ar2, zxffr2_ar3, zxffr2_ar4]) (zif (Nat.beq i 2) ([zxffr2_br0]) (zif (Nat.beq i 3) ([]) (zif (Nat.beq i 4) ([]) (zif (Nat.beq i 5) ([]) ([zxffr2_er0]))))))
noncomputable def zFffr2 (i : Nat) : zyR := zif (Nat.beq i 0) ([]) (zif (Nat.beq i 1) ([(74, 2, 3)]) (zif (Nat.beq i 2) ([(74, 2, 3)]) (zif (Nat.beq i 3) ([]) (zif (Nat.beq i 4) ([]) (zif (Nat.beq i 5) ([]) ([]))))))
noncomputable def zSffr2 (i : Nat) : Nat := zif (Nat.beq i 0) (0) (zif (Nat.beq i 1) (0) (zif (Nat.beq i 2) (0) (zif (Nat.beq i 3) (0) (zif (Nat.beq i 4) (0) (zif (Nat.beq i 5) (0) (0))))))
def vFr (S : Int → Int) (g b : Int) : Prop := isG S g ∧ ¬ (S (104 + g) = 1 ↔ b = 1) ∧ ¬ (b = 1 ∧ pCnt S 104 (gN (S 0) (S 1)).toNat = 6)
def xΦfr2 (x : Nat → Int) (E : zyEm) : Prop := sRC (xE E 75) ∧ 0 ≤ x 1 ∧ x 1 ≤ 1
def xΨfr2 (x : Nat → Int) (E E2 : zyEm) (r : Int) : Prop := (vFr (xE E 75) (x 0) (x 1) → r = pCnt (uS (xE E 75) (104 + x 0) (x 1)) 104 (gN (xE E 75 0) (xE E 75 1)).toNat ∧ ∀ k, 0 ≤ k → xE E2 75 k = uS (xE E 75) (104 + x 0) (x 1) k) ∧ (¬ vFr (xE E 75) (x 0) (x 1) → r = -1 ∧ ∀ k, 0 ≤ k → xE E2 75 k = xE E 75 k)
noncomputable def fpffr2 : zyR := [(74, 2, 3), (75, 104, 135)]
theorem zyffr2_run : zyrS zymx zxi272 (272, 0, 0, 1, 0) 5 zpffr2 (fun _ _ => []) zFffr2 zSffr2 zXffr2 zRffr2 7 = true := by decide +kernel
theorem zyffr2_ck : zyAll (fun i => xsubR (zFffr2 i) fpffr2 && ((zXffr2 i).all xckX && (zRffr2 i).all (fun x => xckX x && xrtB true x))) 7 = true := by decide +kernel
def xIffr2 (i : Nat) (x0 : Nat → Int) (E0 : zyEm) (v : Nat → Int) (E : zyEm) : Prop := if i = 0 then (E = E0 ∧ (v 1) = x0 0 ∧ (v 2) = x0 1) else if i = 1 then (E = E0 ∧ (v 1) = x0 0 ∧ (v 2) = x0 1) else if i = 2 then ((v 2) = 1 ∧ isG (xE E0 75) (x0 0) ∧ ¬ (xE E0 75 (104 + x0 0) = 1 ↔ x0 1 = 1) ∧ (v 3) = pCnt (xE E0 75) 104 (gN (xE E0 75 0) (xE E0 75 1)).toNat ∧ (∀ k, 0 ≤ k → xE E 75 k = xE E0 75 k) ∧ (v 1) = x0 0 ∧ (v 2) = x0 1) else if i = 3 then (vFr (xE E0 75) (x0 0) (x0 1) ∧ (∀ k, 0 ≤ k → xE E 75 k = xE E0 75 k) ∧ (v 1) = x0 0 ∧ (v 2) = x0 1) else if i = 4 then (vFr (xE E0 75) (x0 0) (x0 1) ∧ (∀ k, 0 ≤ k → xE E 75 k = xE E0 75 k) ∧ (v 1) = x0 0 ∧ (v 2) = x0 1) else if i = 5 then (vFr (xE E0 75) (x0 0) (x0 1) ∧ (∀ k, 0 ≤ k → xE E 75 k = uS (xE E0 75) (104 + x0 0) (x0 1) k)) else (vFr (xE E0 75) (x0 0) (x0 1) ∧ (∀ k, 0 ≤ k → xE E 75 k = uS (xE E0 75) (104 + x0 0) (x0 1) k) ∧ (v 3) = pCnt (uS (xE E0 75) (104 + x0 0) (x0 1)) 104 (gN (xE E0 75 0) (xE E0 75 1)).toNat)
def xMffr2 (i : Nat) (x0 : Nat → Int) (E0 : zyEm) (v : Nat → Int) (E : zyEm) : Nat := if i = 0 then (9) else if i = 1 then (8) else if i = 2 then (7) else if i = 3 then (6) else if i = 4 then (5) else if i = 5 then (4) else (3)
theorem xFr2 {l : Launch} {en : zEn} {me : zMe} (hen : zG zxMeta 272 = some en) (hme : zG zMeth 272 = some me) : xFc l zymx en me 5 [74] 2 fpffr2 true xΦfr2 xΨfr2 := by
  have een : zG zxMeta 272 = some (zxi272, 3, 3, 11, 272, 0, 0, 1, 0) := rfl
  obtain ⟨me1, hme1, hOK⟩ := zall hen
  rw [hme] at hme1
  cases hme1
  rw [een] at hen
  cases hen
  have hr := zyffr2_run
  have hck := fun i hi => zyAll_iff zyffr2_ck i hi
  simp only [Bool.and_eq_true] at hck
  obtain ⟨mefco, hmefco, -⟩ := zall (show zG zxMeta 261 = some (zxi261, 2, 4, 11, 261, 0, 0, 1, 0) from rfl)
  have hfco := xCo (l := l) (show zG zxMeta 261 = some (zxi261, 2, 4, 11, 261, 0, 0, 1, 0) from rfl) hmefco
  intro B
  refine xcut (mi := zymx) (B := B) hOK rfl rfl (ι := Fin 7) (fun i => zpffr2 i.val) (fun _ _ => []) (fun i => zFffr2 i.val) (fun i => zSffr2 i.val) (fun i => zXffr2 i.val) (fun i => zRffr2 i.val) (fun i y2 ct en2 me2 h => by cases h) 200000 (fun i => zyAll_iff hr i.val i.isLt) (fun i => (hck i.val i.isLt).1) (fun i => (hck i.val i.isLt).2.1) (fun i => (hck i.val i.isLt).2.2) ⟨0, by decide⟩ ⟨rfl, rfl, rfl, rfl⟩ ⟨by decide, by decide⟩ (fun i x0 E0 v E => xIffr2 i.val x0 E0 v E) (fun i x0 E0 v E => xMffr2 i.val x0 E0 v E) ?_ ?_ ?_
  · intro x0 E hx0 hT hΦ
    have hΦ : xΦfr2 x0 E := hΦ
    refine ⟨fun k p hp => ?_, ?_⟩
    · have hk : k < 3 := (List.getElem?_eq_some_iff.mp hp).1
      have hk : k = 0 ∨ k = 1 ∨ k = 2 := by omega
      rcases hk with rfl | rfl | rfl
      · have hp : some (0, 4294967295) = some p := hp
        cases hp
        show ((0 : Nat) : Int) ≤ 0 + 2147483648 ∧ 0 + 2147483648 ≤ ((4294967295 : Nat) : Int)
        omega
      · have hp : some (0, 4294967295) = some p := hp
        cases hp
        show ((0 : Nat) : Int) ≤ x0 0 + 2147483648 ∧ x0 0 + 2147483648 ≤ ((4294967295 : Nat) : Int)
        have hx := hx0 0
        omega
      · have hp : some (2147483648, 2147483649) = some p := hp
        cases hp
        show ((2147483648 : Nat) : Int) ≤ x0 1 + 2147483648 ∧ x0 1 + 2147483648 ≤ ((2147483649 : Nat) : Int)
        have hx := hx0 1
        have hP := hΦ.2
        omega
    · show E = E ∧ (x0 0) = x0 0 ∧ (x0 1) = x0 1
      exact ⟨rfl, rfl, rfl⟩
  · intro x0 s Wg hRu hrx hT0 hΦ i v H hT hrv hInv hKc hFr0 hIH x hx ρ2 v2 N2 H2 locs lsB stA hAt hB hv hr2 hXs hag hfr hFr hT2
    rcases i with ⟨i, hi⟩
    have hi2 : i = 0 ∨ i = 1 ∨ i = 2 ∨ i = 3 ∨ i = 4 ∨ i = 5 ∨ i = 6 := by omega
    rcases hi2 with rfl | rfl | rfl | rfl | rfl | rfl | rfl
    · have hx : x ∈ [zxffr2_zx0] := hx
      have hag : ∀ k, k < 3 → v2 k = v k := hag
      have hfr : xFr [] _ _ := hfr
      have ex := List.mem_singleton.mp hx
      subst ex
      obtain ⟨hF, hBd, hM⟩ := hXs
      have r1 := hr2 1
      have g1 : v2 1 = v 1 := hag 1 (by decide)
      have g2 : v2 2 = v 2 := hag 2 (by decide)
      have b0 : ((2147483648 : Nat) : Int) ≤ (v2 2) + 2147483648 ∧ (v2 2) + 2147483648 ≤ ((2147483649 : Nat) : Int) := xXb hBd 0 rfl
      have e75_0 : xE (zyEl zymx B H2) 75 0 = xE (zyEl zymx B H) 75 0 := xFr_E hfr rfl
      have q75_0 : xE (zyEl zymx B H) 75 0 = xE (zyEl zymx B s.heap) 75 0 := xFr_E hFr0 rfl
      have e75_1 : xE (zyEl zymx B H2) 75 1 = xE (zyEl zymx B H) 75 1 := xFr_E hfr rfl
      have q75_1 : xE (zyEl zymx B H) 75 1 = xE (zyEl zymx B s.heap) 75 1 := xFr_E hFr0 rfl
      have e75 : ∀ i, xE (zyEl zymx B H2) 75 i = xE (zyEl zymx B H) 75 i := fun i => xFr_E hfr rfl
      have hI : (zyEl zymx B H) = (zyEl zymx B s.heap) ∧ (v 1) = x0 0 ∧ (v 2) = x0 1 := hInv
      have q75 : ∀ i, xE (zyEl zymx B H) 75 i = xE (zyEl zymx B s.heap) 75 i := fun i => by rw [hI.1]
      obtain ⟨hE, i1, i2⟩ := hI
      obtain ⟨⟨hr, hcc⟩, hb0, hb1⟩ := (show xΦfr2 x0 (zyEl zymx B s.heap) from hΦ)
      have z75_0 : ((0 : Nat) : Int) ≤ xE (zyEl zymx B H2) 75 0 + 2147483648 ∧ xE (zyEl zymx B H2) 75 0 + 2147483648 ≤ ((4294967295 : Nat) : Int) := xTyF hT2 75 0 0 rfl rfl rfl rfl rfl rfl
      have z75_1 : ((0 : Nat) : Int) ≤ xE (zyEl zymx B H2) 75 1 + 2147483648 ∧ xE (zyEl zymx B H2) 75 1 + 2147483648 ≤ ((4294967295 : Nat) : Int) := xTyF hT2 75 1 0 rfl rfl rfl rfl rfl rfl
      refine xGo hIH hAt hB hv hFr ⟨1, by decide⟩ [0, 34359738369, 68719476737] [0, (v2 1), (v2 2), xE (zyEl zymx B H2) 75 0, xE (zyEl zymx B H2) 75 1] rfl ⟨by decide +kernel, ⟨rfl, by decide +kernel⟩, (xcs_c rfl (xcs_c rfl (xcs_c rfl xcs_n))), (xe_0 (xe_f (by omega) (xe_c (by omega) (by omega) rfl (xe_c (by omega) (by omega) rfl (xe_c (by omega) (by omega) rfl xe_n))))), (xkq_c hT2 75 0 (q := 0) rfl rfl rfl rfl rfl rfl rfl rfl rfl rfl rfl (xkq_c hT2 75 1 (q := 0) rfl rfl rfl rfl rfl rfl rfl rfl rfl rfl rfl xkq_n))⟩ xst_n ?_ ?_
      · show (zyEl zymx B H2) = (zyEl zymx B s.heap) ∧ ((v2 1) : Int) = x0 0 ∧ ((v2 2) : Int) = x0 1
        exact ⟨(xFr_n hfr).trans hE, by omega, by omega⟩
      · show 8 < 9
        omega
    · have hx : x ∈ [zxffr2_ax0, zxffr2_ax1, zxffr2_ax2] := hx
      have hag : ∀ k, k < 5 → v2 k = v k := hag
      have hfr : xFr [(74, 2, 3)] _ _ := hfr
      rcases List.mem_cons.mp hx with ex | hx
      · subst ex
        obtain ⟨hF, hBd, hM⟩ := hXs
        have g1 : v2 1 = v 1 := hag 1 (by decide)
        have g2 : v2 2 = v 2 := hag 2 (by decide)
        have g3 : v2 3 = v 3 := hag 3 (by decide)
        have g4 : v2 4 = v 4 := hag 4 (by decide)
        have b0 : ((2147483648 : Nat) : Int) ≤ (v2 1) + 2147483648 ∧ (v2 1) + 2147483648 ≤ ((2147483678 : Nat) : Int) := xXb hBd 0 rfl
        have b1 : ((2147483649 : Nat) : Int) ≤ (v2 2) + 2147483648 ∧ (v2 2) + 2147483648 ≤ ((2147483649 : Nat) : Int) := xXb hBd 1 rfl
        have b2 : ((2147483649 : Nat) : Int) ≤ (v2 3) + 2147483648 ∧ (v2 3) + 2147483648 ≤ ((2147483652 : Nat) : Int) := xXb hBd 2 rfl
        have b3 : ((2147483649 : Nat) : Int) ≤ (v2 4) + 2147483648 ∧ (v2 4) + 2147483648 ≤ ((2147483653 : Nat) : Int) := xXb hBd 3 rfl
        have b4 : ((2147483648 : Nat) : Int) ≤ (v2 5) + 2147483648 ∧ (v2 5) + 2147483648 ≤ ((2147483664 : Nat) : Int) := xXb hBd 4 rfl
        have b5 : ((2147483648 : Nat) : Int) ≤ (v2 6) + 2147483648 ∧ (v2 6) + 2147483648 ≤ ((2147483663 : Nat) : Int) := xXb hBd 5 rfl
        have b6 : ((2147483649 : Nat) : Int) ≤ (v2 7) + 2147483648 ∧ (v2 7) + 2147483648 ≤ ((2147483679 : Nat) : Int) := xXb hBd 6 rfl
        have b7 : ((2147483650 : Nat) : Int) ≤ (v2 8) + 2147483648 ∧ (v2 8) + 2147483648 ≤ ((4294967295 : Nat) : Int) := xXb hBd 7 rfl
        have k0 : xE (zyEl zymx B H) 75 0 = v 3 := xKcf hKc 0 rfl rfl
        have k1 : xE (zyEl zymx B H) 75 1 = v 4 := xKcf hKc 1 rfl rfl
        have f0 : -2147483648 ≤ (v2 3) * (v2 4 + (-1)) → (v2 3) * (v2 4 + (-1)) < 2147483648 → (v2 5) = (v2 3) * (v2 4 + (-1)) := xXf hF 0 rfl
        have f1 : -2147483648 ≤ (v2 3 + (-1)) * (v2 4) → (v2 3 + (-1)) * (v2 4) < 2147483648 → (v2 6) = (v2 3 + (-1)) * (v2 4) := xXf hF 1 rfl
        have f2 : -2147483648 ≤ (v2 5) + (v2 6) → (v2 5) + (v2 6) < 2147483648 → (v2 7) = (v2 5) + (v2 6) := xXf hF 2 rfl
        have f2 := f2 (by omega) (by omega)
        have f3 : 0 ≤ (v2 1) := xXf hF 3 rfl
        have f4 : (v2 1) ≤ (v2 7 + (-1)) := xXf hF 4 rfl
        have f5 : (0 : Int) ≤ (v2 1 + 104) ∧ xE (zyEl zymx B H) 75 (v2 1 + 104) = (v2 8) := xXf hF 5 rfl
        have f6 : ¬ (v2 8) = 1 := xXf hF 6 rfl
        have f7 : ¬ 0 = (v2 2) := xXf hF 7 rfl
        have f8 : ¬ (v2 2) = 0 := xXf hF 8 rfl
        have e75_0 : xE (zyEl zymx B H2) 75 0 = xE (zyEl zymx B H) 75 0 := xFr_E hfr rfl
        have q75_0 : xE (zyEl zymx B H) 75 0 = xE (zyEl zymx B s.heap) 75 0 := xFr_E hFr0 rfl
        have e75_1 : xE (zyEl zymx B H2) 75 1 = xE (zyEl zymx B H) 75 1 := xFr_E hfr rfl
        have q75_1 : xE (zyEl zymx B H) 75 1 = xE (zyEl zymx B s.heap) 75 1 := xFr_E hFr0 rfl
        have e75 : ∀ i, xE (zyEl zymx B H2) 75 i = xE (zyEl zymx B H) 75 i := fun i => xFr_E hfr rfl
        have hI : (zyEl zymx B H) = (zyEl zymx B s.heap) ∧ (v 1) = x0 0 ∧ (v 2) = x0 1 := hInv
        have q75 : ∀ i, xE (zyEl zymx B H) 75 i = xE (zyEl zymx B s.heap) 75 i := fun i => by rw [hI.1]
        obtain ⟨hE, i1, i2⟩ := hI
        obtain ⟨⟨hr, hcc⟩, hb0, hb1⟩ := (show xΦfr2 x0 (zyEl zymx B s.heap) from hΦ)
        have h750 := q75 0
        have h751 := q75 1
        obtain ⟨w1, w2, w3, w4, w5, w6⟩ := gN_of (r := (v2 3)) (c := (v2 4)) (A := (v2 4 + (-1))) (B := (v2 3 + (-1))) (by omega) (by omega) (by omega) (by omega) f0 f1
        rw [show (v2 3) = xE (zyEl zymx B s.heap) 75 0 by omega, show (v2 4) = xE (zyEl zymx B s.heap) 75 1 by omega] at w1 w6
        have c5 : xE (zyEl zymx B s.heap) 75 ((v2 1 + 104)) = (v2 8) := (q75 _).symm.trans f5.2
        rw [show (v2 1 + 104) = 104 + x0 0 by omega] at c5
        have a0 : xE (zyEl zymx B H2) 75 = xE (zyEl zymx B s.heap) 75 := funext fun k => (e75 k).trans (q75 k)
        refine xCa hRu hIH hAt hB hv hFr (hfco B) (ix := 299) (ax := 4176) rfl rfl rfl hmefco ⟨_, rfl, rfl, by decide⟩ ⟨rfl, rfl, rfl⟩ (by decide) [832] [595] [104] rfl ⟨rfl, rfl⟩ (by decide +kernel) (xcs_c rfl xcs_n) (by decide +kernel) ?_ (fun H3 r hT3 hf3 hFr3 hr3 hΨ3 => ?_)
        · show xΦco (xfv [104]) (zyEl zymx B H2)
          unfold xΦco
          rw [a0]
          exact ⟨rfl, hr, hcc⟩
        · have hΨ3 : xΨco (xfv [104]) (zyEl zymx B H2) (zyEl zymx B H3) r := hΨ3
          have d75_0 : xE (zyEl zymx B H3) 75 0 = xE (zyEl zymx B H2) 75 0 := xFr_E hf3 rfl
          have d75_1 : xE (zyEl zymx B H3) 75 1 = xE (zyEl zymx B H2) 75 1 := xFr_E hf3 rfl
          have d75 : ∀ i, xE (zyEl zymx B H3) 75 i = xE (zyEl zymx B H2) 75 i := fun i => xFr_E hf3 rfl
          obtain ⟨hr1, hr2, hr3⟩ := (show xΨco (xfv [104]) (zyEl zymx B H2) (zyEl zymx B H3) r from hΨ3)
          rw [a0] at hr1
          have hEE3 := xFr_n hf3
          refine ⟨⟨2, by decide⟩, [0, 34359738369, 68719476737], [0, (v2 1), (v2 2), r], rfl, ⟨by decide +kernel, ⟨rfl, by decide +kernel⟩, (xcs_c rfl (xcs_c rfl (xcs_c rfl xcs_n))), (xe_0 (xe_c (by omega) (by omega) rfl (xe_c (by omega) (by omega) rfl (xe_f (by omega) xe_n)))), xkq_n⟩, (by rw [if_pos rfl]; exact ⟨3, [595], rfl, by decide, rfl, (xst_r rfl xst_n)⟩), ?_, ?_⟩
          · show ((v2 2) : Int) = 1 ∧ isG (xE (zyEl zymx B s.heap) 75) (x0 0) ∧ ¬ (xE (zyEl zymx B s.heap) 75 (104 + x0 0) = 1 ↔ x0 1 = 1) ∧ (r : Int) = pCnt (xE (zyEl zymx B s.heap) 75) 104 (gN (xE (zyEl zymx B s.heap) 75 0) (xE (zyEl zymx B s.heap) 75 1)).toNat ∧ (∀ k, 0 ≤ k → xE (zyEl zymx B H3) 75 k = xE (zyEl zymx B s.heap) 75 k) ∧ ((v2 1) : Int) = x0 0 ∧ ((v2 2) : Int) = x0 1
            refine ⟨by omega, ⟨by omega, by omega⟩, by omega, hr1, fun k k0 => ?_, by omega, by omega⟩
            rw [hEE3]
            exact (e75 k).trans (q75 k)
          · show 7 < 8
            omega
      · skip
        rcases List.mem_cons.mp hx with ex | hx
        · subst ex
          obtain ⟨hF, hBd, hM⟩ := hXs
          have g1 : v2 1 = v 1 := hag 1 (by decide)
          have g2 : v2 2 = v 2 := hag 2 (by decide)
          have g3 : v2 3 = v 3 := hag 3 (by decide)
          have g4 : v2 4 = v 4 := hag 4 (by decide)
          have b0 : ((2147483648 : Nat) : Int) ≤ (v2 1) + 2147483648 ∧ (v2 1) + 2147483648 ≤ ((2147483678 : Nat) : Int) := xXb hBd 0 rfl
          have b1 : ((2147483649 : Nat) : Int) ≤ (v2 2) + 2147483648 ∧ (v2 2) + 2147483648 ≤ ((2147483649 : Nat) : Int) := xXb hBd 1 rfl
          have b2 : ((2147483649 : Nat) : Int) ≤ (v2 3) + 2147483648 ∧ (v2 3) + 2147483648 ≤ ((2147483652 : Nat) : Int) := xXb hBd 2 rfl
          have b3 : ((2147483649 : Nat) : Int) ≤ (v2 4) + 2147483648 ∧ (v2 4) + 2147483648 ≤ ((2147483653 : Nat) : Int) := xXb hBd 3 rfl
          have b4 : ((2147483648 : Nat) : Int) ≤ (v2 5) + 2147483648 ∧ (v2 5) + 2147483648 ≤ ((2147483664 : Nat) : Int) := xXb hBd 4 rfl
          have b5 : ((2147483648 : Nat) : Int) ≤ (v2 6) + 2147483648 ∧ (v2 6) + 2147483648 ≤ ((2147483663 : Nat) : Int) := xXb hBd 5 rfl
          have b6 : ((2147483649 : Nat) : Int) ≤ (v2 7) + 2147483648 ∧ (v2 7) + 2147483648 ≤ ((2147483679 : Nat) : Int) := xXb hBd 6 rfl
          have b7 : ((0 : Nat) : Int) ≤ (v2 8) + 2147483648 ∧ (v2 8) + 2147483648 ≤ ((2147483648 : Nat) : Int) := xXb hBd 7 rfl
          have k0 : xE (zyEl zymx B H) 75 0 = v 3 := xKcf hKc 0 rfl rfl
          have k1 : xE (zyEl zymx B H) 75 1 = v 4 := xKcf hKc 1 rfl rfl
          have f0 : -2147483648 ≤ (v2 3) * (v2 4 + (-1)) → (v2 3) * (v2 4 + (-1)) < 2147483648 → (v2 5) = (v2 3) * (v2 4 + (-1)) := xXf hF 0 rfl
          have f1 : -2147483648 ≤ (v2 3 + (-1)) * (v2 4) → (v2 3 + (-1)) * (v2 4) < 2147483648 → (v2 6) = (v2 3 + (-1)) * (v2 4) := xXf hF 1 rfl
          have f2 : -2147483648 ≤ (v2 5) + (v2 6) → (v2 5) + (v2 6) < 2147483648 → (v2 7) = (v2 5) + (v2 6) := xXf hF 2 rfl
          have f2 := f2 (by omega) (by omega)
          have f3 : 0 ≤ (v2 1) := xXf hF 3 rfl
          have f4 : (v2 1) ≤ (v2 7 + (-1)) := xXf hF 4 rfl
          have f5 : (0 : Int) ≤ (v2 1 + 104) ∧ xE (zyEl zymx B H) 75 (v2 1 + 104) = (v2 8) := xXf hF 5 rfl
          have f6 : ¬ (v2 8) = 1 := xXf hF 6 rfl
          have f7 : ¬ 0 = (v2 2) := xXf hF 7 rfl
          have f8 : ¬ (v2 2) = 0 := xXf hF 8 rfl
          have e75_0 : xE (zyEl zymx B H2) 75 0 = xE (zyEl zymx B H) 75 0 := xFr_E hfr rfl
          have q75_0 : xE (zyEl zymx B H) 75 0 = xE (zyEl zymx B s.heap) 75 0 := xFr_E hFr0 rfl
          have e75_1 : xE (zyEl zymx B H2) 75 1 = xE (zyEl zymx B H) 75 1 := xFr_E hfr rfl
          have q75_1 : xE (zyEl zymx B H) 75 1 = xE (zyEl zymx B s.heap) 75 1 := xFr_E hFr0 rfl
          have e75 : ∀ i, xE (zyEl zymx B H2) 75 i = xE (zyEl zymx B H) 75 i := fun i => xFr_E hfr rfl
          have hI : (zyEl zymx B H) = (zyEl zymx B s.heap) ∧ (v 1) = x0 0 ∧ (v 2) = x0 1 := hInv
          have q75 : ∀ i, xE (zyEl zymx B H) 75 i = xE (zyEl zymx B s.heap) 75 i := fun i => by rw [hI.1]
          obtain ⟨hE, i1, i2⟩ := hI
          obtain ⟨⟨hr, hcc⟩, hb0, hb1⟩ := (show xΦfr2 x0 (zyEl zymx B s.heap) from hΦ)
          have h750 := q75 0
          have h751 := q75 1
          obtain ⟨w1, w2, w3, w4, w5, w6⟩ := gN_of (r := (v2 3)) (c := (v2 4)) (A := (v2 4 + (-1))) (B := (v2 3 + (-1))) (by omega) (by omega) (by omega) (by omega) f0 f1
          rw [show (v2 3) = xE (zyEl zymx B s.heap) 75 0 by omega, show (v2 4) = xE (zyEl zymx B s.heap) 75 1 by omega] at w1 w6
          have c5 : xE (zyEl zymx B s.heap) 75 ((v2 1 + 104)) = (v2 8) := (q75 _).symm.trans f5.2
          rw [show (v2 1 + 104) = 104 + x0 0 by omega] at c5
          have a0 : xE (zyEl zymx B H2) 75 = xE (zyEl zymx B s.heap) 75 := funext fun k => (e75 k).trans (q75 k)
          refine xCa hRu hIH hAt hB hv hFr (hfco B) (ix := 299) (ax := 4176) rfl rfl rfl hmefco ⟨_, rfl, rfl, by decide⟩ ⟨rfl, rfl, rfl⟩ (by decide) [832] [595] [104] rfl ⟨rfl, rfl⟩ (by decide +kernel) (xcs_c rfl xcs_n) (by decide +kernel) ?_ (fun H3 r hT3 hf3 hFr3 hr3 hΨ3 => ?_)
          · show xΦco (xfv [104]) (zyEl zymx B H2)
            unfold xΦco
            rw [a0]
            exact ⟨rfl, hr, hcc⟩
          · have hΨ3 : xΨco (xfv [104]) (zyEl zymx B H2) (zyEl zymx B H3) r := hΨ3
            have d75_0 : xE (zyEl zymx B H3) 75 0 = xE (zyEl zymx B H2) 75 0 := xFr_E hf3 rfl
            have d75_1 : xE (zyEl zymx B H3) 75 1 = xE (zyEl zymx B H2) 75 1 := xFr_E hf3 rfl
            have d75 : ∀ i, xE (zyEl zymx B H3) 75 i = xE (zyEl zymx B H2) 75 i := fun i => xFr_E hf3 rfl
            obtain ⟨hr1, hr2, hr3⟩ := (show xΨco (xfv [104]) (zyEl zymx B H2) (zyEl zymx B H3) r from hΨ3)
            rw [a0] at hr1
            have hEE3 := xFr_n hf3
            refine ⟨⟨2, by decide⟩, [0, 34359738369, 68719476737], [0, (v2 1), (v2 2), r], rfl, ⟨by decide +kernel, ⟨rfl, by decide +kernel⟩, (xcs_c rfl (xcs_c rfl (xcs_c rfl xcs_n))), (xe_0 (xe_c (by omega) (by omega) rfl (xe_c (by omega) (by omega) rfl (xe_f (by omega) xe_n)))), xkq_n⟩, (by rw [if_pos rfl]; exact ⟨3, [595], rfl, by decide, rfl, (xst_r rfl xst_n)⟩), ?_, ?_⟩
            · show ((v2 2) : Int) = 1 ∧ isG (xE (zyEl zymx B s.heap) 75) (x0 0) ∧ ¬ (xE (zyEl zymx B s.heap) 75 (104 + x0 0) = 1 ↔ x0 1 = 1) ∧ (r : Int) = pCnt (xE (zyEl zymx B s.heap) 75) 104 (gN (xE (zyEl zymx B s.heap) 75 0) (xE (zyEl zymx B s.heap) 75 1)).toNat ∧ (∀ k, 0 ≤ k → xE (zyEl zymx B H3) 75 k = xE (zyEl zymx B s.heap) 75 k) ∧ ((v2 1) : Int) = x0 0 ∧ ((v2 2) : Int) = x0 1
              refine ⟨by omega, ⟨by omega, by omega⟩, by omega, hr1, fun k k0 => ?_, by omega, by omega⟩
              rw [hEE3]
              exact (e75 k).trans (q75 k)
            · show 7 < 8
              omega
        · skip
          have ex := List.mem_singleton.mp hx
          subst ex
          obtain ⟨hF, hBd, hM⟩ := hXs
          have g1 : v2 1 = v 1 := hag 1 (by decide)
          have g2 : v2 2 = v 2 := hag 2 (by decide)
          have g3 : v2 3 = v 3 := hag 3 (by decide)
          have g4 : v2 4 = v 4 := hag 4 (by decide)
          have b0 : ((2147483648 : Nat) : Int) ≤ (v2 1) + 2147483648 ∧ (v2 1) + 2147483648 ≤ ((2147483678 : Nat) : Int) := xXb hBd 0 rfl
          have b1 : ((2147483648 : Nat) : Int) ≤ (v2 2) + 2147483648 ∧ (v2 2) + 2147483648 ≤ ((2147483648 : Nat) : Int) := xXb hBd 1 rfl
          have b2 : ((2147483649 : Nat) : Int) ≤ (v2 3) + 2147483648 ∧ (v2 3) + 2147483648 ≤ ((2147483652 : Nat) : Int) := xXb hBd 2 rfl
          have b3 : ((2147483649 : Nat) : Int) ≤ (v2 4) + 2147483648 ∧ (v2 4) + 2147483648 ≤ ((2147483653 : Nat) : Int) := xXb hBd 3 rfl
          have b4 : ((2147483648 : Nat) : Int) ≤ (v2 5) + 2147483648 ∧ (v2 5) + 2147483648 ≤ ((2147483664 : Nat) : Int) := xXb hBd 4 rfl
          have b5 : ((2147483648 : Nat) : Int) ≤ (v2 6) + 2147483648 ∧ (v2 6) + 2147483648 ≤ ((2147483663 : Nat) : Int) := xXb hBd 5 rfl
          have b6 : ((2147483649 : Nat) : Int) ≤ (v2 7) + 2147483648 ∧ (v2 7) + 2147483648 ≤ ((2147483679 : Nat) : Int) := xXb hBd 6 rfl
          have b7 : ((2147483649 : Nat) : Int) ≤ (v2 8) + 2147483648 ∧ (v2 8) + 2147483648 ≤ ((2147483649 : Nat) : Int) := xXb hBd 7 rfl
          have k0 : xE (zyEl zymx B H) 75 0 = v 3 := xKcf hKc 0 rfl rfl
          have k1 : xE (zyEl zymx B H) 75 1 = v 4 := xKcf hKc 1 rfl rfl
          have f0 : -2147483648 ≤ (v2 3) * (v2 4 + (-1)) → (v2 3) * (v2 4 + (-1)) < 2147483648 → (v2 5) = (v2 3) * (v2 4 + (-1)) := xXf hF 0 rfl
          have f1 : -2147483648 ≤ (v2 3 + (-1)) * (v2 4) → (v2 3 + (-1)) * (v2 4) < 2147483648 → (v2 6) = (v2 3 + (-1)) * (v2 4) := xXf hF 1 rfl
          have f2 : -2147483648 ≤ (v2 5) + (v2 6) → (v2 5) + (v2 6) < 2147483648 → (v2 7) = (v2 5) + (v2 6) := xXf hF 2 rfl
          have f2 := f2 (by omega) (by omega)
          have f3 : 0 ≤ (v2 1) := xXf hF 3 rfl
          have f4 : (v2 1) ≤ (v2 7 + (-1)) := xXf hF 4 rfl
          have f5 : (0 : Int) ≤ (v2 1 + 104) ∧ xE (zyEl zymx B H) 75 (v2 1 + 104) = (v2 8) := xXf hF 5 rfl
          have f6 : (v2 8) = 1 := xXf hF 6 rfl
          have f7 : ¬ 1 = (v2 2) := xXf hF 7 rfl
          have f8 : (v2 2) = 0 := xXf hF 8 rfl
          have e75_0 : xE (zyEl zymx B H2) 75 0 = xE (zyEl zymx B H) 75 0 := xFr_E hfr rfl
          have q75_0 : xE (zyEl zymx B H) 75 0 = xE (zyEl zymx B s.heap) 75 0 := xFr_E hFr0 rfl
          have e75_1 : xE (zyEl zymx B H2) 75 1 = xE (zyEl zymx B H) 75 1 := xFr_E hfr rfl
          have q75_1 : xE (zyEl zymx B H) 75 1 = xE (zyEl zymx B s.heap) 75 1 := xFr_E hFr0 rfl
          have e75 : ∀ i, xE (zyEl zymx B H2) 75 i = xE (zyEl zymx B H) 75 i := fun i => xFr_E hfr rfl
          have hI : (zyEl zymx B H) = (zyEl zymx B s.heap) ∧ (v 1) = x0 0 ∧ (v 2) = x0 1 := hInv
          have q75 : ∀ i, xE (zyEl zymx B H) 75 i = xE (zyEl zymx B s.heap) 75 i := fun i => by rw [hI.1]
          obtain ⟨hE, i1, i2⟩ := hI
          obtain ⟨⟨hr, hcc⟩, hb0, hb1⟩ := (show xΦfr2 x0 (zyEl zymx B s.heap) from hΦ)
          have h750 := q75 0
          have h751 := q75 1
          obtain ⟨w1, w2, w3, w4, w5, w6⟩ := gN_of (r := (v2 3)) (c := (v2 4)) (A := (v2 4 + (-1))) (B := (v2 3 + (-1))) (by omega) (by omega) (by omega) (by omega) f0 f1
          rw [show (v2 3) = xE (zyEl zymx B s.heap) 75 0 by omega, show (v2 4) = xE (zyEl zymx B s.heap) 75 1 by omega] at w1 w6
          have c5 : xE (zyEl zymx B s.heap) 75 ((v2 1 + 104)) = (v2 8) := (q75 _).symm.trans f5.2
          rw [show (v2 1 + 104) = 104 + x0 0 by omega] at c5
          have hvl : vFr (xE (zyEl zymx B s.heap) 75) (x0 0) (x0 1) := by
            unfold vFr isG
            refine ⟨⟨by omega, by omega⟩, by omega, by omega⟩
          refine xGo hIH hAt hB hv hFr ⟨3, by decide⟩ [0, 34359738369, 68719476737] [0, (v2 1), (v2 2)] rfl ⟨by decide +kernel, ⟨rfl, by decide +kernel⟩, (xcs_c rfl (xcs_c rfl (xcs_c rfl xcs_n))), (xe_0 (xe_c (by omega) (by omega) rfl (xe_c (by omega) (by omega) rfl xe_n))), xkq_n⟩ xst_n ?_ ?_
          · show vFr (xE (zyEl zymx B s.heap) 75) (x0 0) (x0 1) ∧ (∀ k, 0 ≤ k → xE (zyEl zymx B H2) 75 k = xE (zyEl zymx B s.heap) 75 k) ∧ ((v2 1) : Int) = x0 0 ∧ ((v2 2) : Int) = x0 1
            exact ⟨hvl, fun k _ => (e75 k).trans (q75 k), by omega, by omega⟩
          · show 6 < 8
            omega
    · have hx : x ∈ [zxffr2_bx0, zxffr2_bx1] := hx
      have hag : ∀ k, k < 4 → v2 k = v k := hag
      have hfr : xFr [(74, 2, 3)] _ _ := hfr
      rcases List.mem_cons.mp hx with ex | hx
      · subst ex
        obtain ⟨hF, hBd, hM⟩ := hXs
        have g1 : v2 1 = v 1 := hag 1 (by decide)
        have g2 : v2 2 = v 2 := hag 2 (by decide)
        have g3 : v2 3 = v 3 := hag 3 (by decide)
        have b0 : ((2147483648 : Nat) : Int) ≤ (v2 1) + 2147483648 ∧ (v2 1) + 2147483648 ≤ ((2147483678 : Nat) : Int) := xXb hBd 0 rfl
        have b1 : ((2147483648 : Nat) : Int) ≤ (v2 2) + 2147483648 ∧ (v2 2) + 2147483648 ≤ ((2147483649 : Nat) : Int) := xXb hBd 1 rfl
        have b2 : ((2147483655 : Nat) : Int) ≤ (v2 3) + 2147483648 ∧ (v2 3) + 2147483648 ≤ ((4294967295 : Nat) : Int) := xXb hBd 2 rfl
        have f0 : ¬ (v2 3) = 6 := xXf hF 0 rfl
        have e75_0 : xE (zyEl zymx B H2) 75 0 = xE (zyEl zymx B H) 75 0 := xFr_E hfr rfl
        have q75_0 : xE (zyEl zymx B H) 75 0 = xE (zyEl zymx B s.heap) 75 0 := xFr_E hFr0 rfl
        have e75_1 : xE (zyEl zymx B H2) 75 1 = xE (zyEl zymx B H) 75 1 := xFr_E hfr rfl
        have q75_1 : xE (zyEl zymx B H) 75 1 = xE (zyEl zymx B s.heap) 75 1 := xFr_E hFr0 rfl
        have e75 : ∀ i, xE (zyEl zymx B H2) 75 i = xE (zyEl zymx B H) 75 i := fun i => xFr_E hfr rfl
        have hI : (v 2) = 1 ∧ isG (xE (zyEl zymx B s.heap) 75) (x0 0) ∧ ¬ (xE (zyEl zymx B s.heap) 75 (104 + x0 0) = 1 ↔ x0 1 = 1) ∧ (v 3) = pCnt (xE (zyEl zymx B s.heap) 75) 104 (gN (xE (zyEl zymx B s.heap) 75 0) (xE (zyEl zymx B s.heap) 75 1)).toNat ∧ (∀ k, 0 ≤ k → xE (zyEl zymx B H) 75 k = xE (zyEl zymx B s.heap) 75 k) ∧ (v 1) = x0 0 ∧ (v 2) = x0 1 := hInv
        obtain ⟨j1, ⟨j2, j2b⟩, j3, j4, hc, i1, i2⟩ := hI
        obtain ⟨⟨hr, hcc⟩, hb0, hb1⟩ := (show xΦfr2 x0 (zyEl zymx B s.heap) from hΦ)
        have hvl : vFr (xE (zyEl zymx B s.heap) 75) (x0 0) (x0 1) := by
          unfold vFr isG
          refine ⟨⟨by omega, by omega⟩, by omega, by omega⟩
        refine xGo hIH hAt hB hv hFr ⟨3, by decide⟩ [0, 34359738369, 68719476737] [0, (v2 1), (v2 2)] rfl ⟨by decide +kernel, ⟨rfl, by decide +kernel⟩, (xcs_c rfl (xcs_c rfl (xcs_c rfl xcs_n))), (xe_0 (xe_c (by omega) (by omega) rfl (xe_c (by omega) (by omega) rfl xe_n))), xkq_n⟩ xst_n ?_ ?_
        · show vFr (xE (zyEl zymx B s.heap) 75) (x0 0) (x0 1) ∧ (∀ k, 0 ≤ k → xE (zyEl zymx B H2) 75 k = xE (zyEl zymx B s.heap) 75 k) ∧ ((v2 1) : Int) = x0 0 ∧ ((v2 2) : Int) = x0 1
          exact ⟨hvl, fun k k0 => (e75 k).trans (hc k k0), by omega, by omega⟩
        · show 6 < 7
          omega
      · skip
        have ex := List.mem_singleton.mp hx
        subst ex
        obtain ⟨hF, hBd, hM⟩ := hXs
        have g1 : v2 1 = v 1 := hag 1 (by decide)
        have g2 : v2 2 = v 2 := hag 2 (by decide)
        have g3 : v2 3 = v 3 := hag 3 (by decide)
        have b0 : ((2147483648 : Nat) : Int) ≤ (v2 1) + 2147483648 ∧ (v2 1) + 2147483648 ≤ ((2147483678 : Nat) : Int) := xXb hBd 0 rfl
        have b1 : ((2147483648 : Nat) : Int) ≤ (v2 2) + 2147483648 ∧ (v2 2) + 2147483648 ≤ ((2147483649 : Nat) : Int) := xXb hBd 1 rfl
        have b2 : ((0 : Nat) : Int) ≤ (v2 3) + 2147483648 ∧ (v2 3) + 2147483648 ≤ ((2147483653 : Nat) : Int) := xXb hBd 2 rfl
        have f0 : ¬ (v2 3) = 6 := xXf hF 0 rfl
        have e75_0 : xE (zyEl zymx B H2) 75 0 = xE (zyEl zymx B H) 75 0 := xFr_E hfr rfl
        have q75_0 : xE (zyEl zymx B H) 75 0 = xE (zyEl zymx B s.heap) 75 0 := xFr_E hFr0 rfl
        have e75_1 : xE (zyEl zymx B H2) 75 1 = xE (zyEl zymx B H) 75 1 := xFr_E hfr rfl
        have q75_1 : xE (zyEl zymx B H) 75 1 = xE (zyEl zymx B s.heap) 75 1 := xFr_E hFr0 rfl
        have e75 : ∀ i, xE (zyEl zymx B H2) 75 i = xE (zyEl zymx B H) 75 i := fun i => xFr_E hfr rfl
        have hI : (v 2) = 1 ∧ isG (xE (zyEl zymx B s.heap) 75) (x0 0) ∧ ¬ (xE (zyEl zymx B s.heap) 75 (104 + x0 0) = 1 ↔ x0 1 = 1) ∧ (v 3) = pCnt (xE (zyEl zymx B s.heap) 75) 104 (gN (xE (zyEl zymx B s.heap) 75 0) (xE (zyEl zymx B s.heap) 75 1)).toNat ∧ (∀ k, 0 ≤ k → xE (zyEl zymx B H) 75 k = xE (zyEl zymx B s.heap) 75 k) ∧ (v 1) = x0 0 ∧ (v 2) = x0 1 := hInv
        obtain ⟨j1, ⟨j2, j2b⟩, j3, j4, hc, i1, i2⟩ := hI
        obtain ⟨⟨hr, hcc⟩, hb0, hb1⟩ := (show xΦfr2 x0 (zyEl zymx B s.heap) from hΦ)
        have hvl : vFr (xE (zyEl zymx B s.heap) 75) (x0 0) (x0 1) := by
          unfold vFr isG
          refine ⟨⟨by omega, by omega⟩, by omega, by omega⟩
        refine xGo hIH hAt hB hv hFr ⟨3, by decide⟩ [0, 34359738369, 68719476737] [0, (v2 1), (v2 2)] rfl ⟨by decide +kernel, ⟨rfl, by decide +kernel⟩, (xcs_c rfl (xcs_c rfl (xcs_c rfl xcs_n))), (xe_0 (xe_c (by omega) (by omega) rfl (xe_c (by omega) (by omega) rfl xe_n))), xkq_n⟩ xst_n ?_ ?_
        · show vFr (xE (zyEl zymx B s.heap) 75) (x0 0) (x0 1) ∧ (∀ k, 0 ≤ k → xE (zyEl zymx B H2) 75 k = xE (zyEl zymx B s.heap) 75 k) ∧ ((v2 1) : Int) = x0 0 ∧ ((v2 2) : Int) = x0 1
          exact ⟨hvl, fun k k0 => (e75 k).trans (hc k k0), by omega, by omega⟩
        · show 6 < 7
          omega
    · have hx : x ∈ [zxffr2_cx0] := hx
      have hag : ∀ k, k < 3 → v2 k = v k := hag
      have hfr : xFr [] _ _ := hfr
      have ex := List.mem_singleton.mp hx
      subst ex
      obtain ⟨hF, hBd, hM⟩ := hXs
      have g1 : v2 1 = v 1 := hag 1 (by decide)
      have g2 : v2 2 = v 2 := hag 2 (by decide)
      have b0 : ((2147483648 : Nat) : Int) ≤ (v2 1) + 2147483648 ∧ (v2 1) + 2147483648 ≤ ((2147483678 : Nat) : Int) := xXb hBd 0 rfl
      have b1 : ((2147483648 : Nat) : Int) ≤ (v2 2) + 2147483648 ∧ (v2 2) + 2147483648 ≤ ((2147483649 : Nat) : Int) := xXb hBd 1 rfl
      have e75_0 : xE (zyEl zymx B H2) 75 0 = xE (zyEl zymx B H) 75 0 := xFr_E hfr rfl
      have q75_0 : xE (zyEl zymx B H) 75 0 = xE (zyEl zymx B s.heap) 75 0 := xFr_E hFr0 rfl
      have e75_1 : xE (zyEl zymx B H2) 75 1 = xE (zyEl zymx B H) 75 1 := xFr_E hfr rfl
      have q75_1 : xE (zyEl zymx B H) 75 1 = xE (zyEl zymx B s.heap) 75 1 := xFr_E hFr0 rfl
      have e75 : ∀ i, xE (zyEl zymx B H2) 75 i = xE (zyEl zymx B H) 75 i := fun i => xFr_E hfr rfl
      have hI : vFr (xE (zyEl zymx B s.heap) 75) (x0 0) (x0 1) ∧ (∀ k, 0 ≤ k → xE (zyEl zymx B H) 75 k = xE (zyEl zymx B s.heap) 75 k) ∧ (v 1) = x0 0 ∧ (v 2) = x0 1 := hInv
      obtain ⟨hvl, hc, i1, i2⟩ := hI
      refine xGo hIH hAt hB hv hFr ⟨4, by decide⟩ [0, 34359738369, 68719476737] [0, (v2 1), (v2 2)] rfl ⟨by decide +kernel, ⟨rfl, by decide +kernel⟩, (xcs_c rfl (xcs_c rfl (xcs_c rfl xcs_n))), (xe_0 (xe_c (by omega) (by omega) rfl (xe_c (by omega) (by omega) rfl xe_n))), xkq_n⟩ xst_n ?_ ?_
      · show vFr (xE (zyEl zymx B s.heap) 75) (x0 0) (x0 1) ∧ (∀ k, 0 ≤ k → xE (zyEl zymx B H2) 75 k = xE (zyEl zymx B s.heap) 75 k) ∧ ((v2 1) : Int) = x0 0 ∧ ((v2 2) : Int) = x0 1
        exact ⟨hvl, fun k k0 => (e75 k).trans (hc k k0), by omega, by omega⟩
      · show 5 < 6
        omega
    · have hx : x ∈ [zxffr2_c2x0, zxffr2_c2x1] := hx
      have hag : ∀ k, k < 3 → v2 k = v k := hag
      have hfr : xFr [] _ _ := hfr
      rcases List.mem_cons.mp hx with ex | hx
      · subst ex
        obtain ⟨hF, hBd, hM⟩ := hXs
        have g1 : v2 1 = v 1 := hag 1 (by decide)
        have g2 : v2 2 = v 2 := hag 2 (by decide)
        have b0 : ((2147483648 : Nat) : Int) ≤ (v2 1) + 2147483648 ∧ (v2 1) + 2147483648 ≤ ((2147483678 : Nat) : Int) := xXb hBd 0 rfl
        have b1 : ((2147483649 : Nat) : Int) ≤ (v2 2) + 2147483648 ∧ (v2 2) + 2147483648 ≤ ((2147483649 : Nat) : Int) := xXb hBd 1 rfl
        have b2 : ((2147483752 : Nat) : Int) ≤ (v2 1 + 104) + 2147483648 ∧ (v2 1 + 104) + 2147483648 ≤ ((2147483782 : Nat) : Int) := xXb hBd 2 rfl
        have f0 : ¬ (v2 2) = 0 := xXf hF 0 rfl
        have e75_0 : xE (zyEl zymx B H2) 75 0 = xE (zyEl zymx B H) 75 0 := xFr_E hfr rfl
        have q75_0 : xE (zyEl zymx B H) 75 0 = xE (zyEl zymx B s.heap) 75 0 := xFr_E hFr0 rfl
        have e75_1 : xE (zyEl zymx B H2) 75 1 = xE (zyEl zymx B H) 75 1 := xFr_E hfr rfl
        have q75_1 : xE (zyEl zymx B H) 75 1 = xE (zyEl zymx B s.heap) 75 1 := xFr_E hFr0 rfl
        have e75 : ∀ i, xE (zyEl zymx B H2) 75 i = xE (zyEl zymx B H) 75 i := fun i => xFr_E hfr rfl
        have hI : vFr (xE (zyEl zymx B s.heap) 75) (x0 0) (x0 1) ∧ (∀ k, 0 ≤ k → xE (zyEl zymx B H) 75 k = xE (zyEl zymx B s.heap) 75 k) ∧ (v 1) = x0 0 ∧ (v 2) = x0 1 := hInv
        obtain ⟨hvl, hc, i1, i2⟩ := hI
        refine xSt hRu hIH hAt hB hv hFr 75 (ax := 0) 8 34359739201 1 (v2 1 + 104) rfl (Or.inl ⟨rfl, rfl⟩) rfl (by decide +kernel) rfl rfl (by omega) (by show (v2 1 + 104) < ((556 : Nat) : Int); omega) (fun r hr q1 q2 => by rw [List.mem_singleton.mp hr]; exact ⟨rfl, by show ((0 : Nat) : Int) ≤ 1 + 2147483648; omega, by show 1 + 2147483648 ≤ ((4294967295 : Nat) : Int); omega⟩) (zyin_iff.mpr ⟨(75, 104, 135), by decide, rfl, (by show 104 ≤ Int.toNat (v2 1 + 104); omega), by show Int.toNat (v2 1 + 104) ≤ 135; omega⟩) (fun H3 hT3 hst3 hne3 hfn3 hFr3 => ?_)
        have hfe3 : ∀ (a2 : Nat) (k2 : Int), ¬ a2 = 75 → xE (zyEl zymx B H3) a2 k2 = xE (zyEl zymx B H2) a2 k2 := fun a2 k2 hne => by unfold xE; rw [hfn3 a2 k2.toNat (fun z => hne z.1)]
        skip
        refine ⟨⟨5, by decide⟩, [0, 0, 0], [0, 0, 0], rfl, ⟨by decide +kernel, ⟨rfl, by decide +kernel⟩, (xcs_c rfl (xcs_c rfl (xcs_c rfl xcs_n))), (xe_0 (xe_0 (xe_0 xe_n))), xkq_n⟩, rfl, ?_, ?_⟩
        · show vFr (xE (zyEl zymx B s.heap) 75) (x0 0) (x0 1) ∧ (∀ k, 0 ≤ k → xE (zyEl zymx B H3) 75 k = uS (xE (zyEl zymx B s.heap) 75) (104 + x0 0) (x0 1) k)
          refine ⟨hvl, fun k k0 => ?_⟩
          by_cases e : k = 104 + x0 0
          · rw [uS_e e, e, show 104 + x0 0 = (v2 1 + 104) by omega, hst3] <;> omega
          · rw [uS_n e, hne3 75 k k0 (fun z => e (by omega)), e75]
            exact hc k k0
        · show 4 < 5
          omega
      · skip
        have ex := List.mem_singleton.mp hx
        subst ex
        obtain ⟨hF, hBd, hM⟩ := hXs
        have g1 : v2 1 = v 1 := hag 1 (by decide)
        have g2 : v2 2 = v 2 := hag 2 (by decide)
        have b0 : ((2147483648 : Nat) : Int) ≤ (v2 1) + 2147483648 ∧ (v2 1) + 2147483648 ≤ ((2147483678 : Nat) : Int) := xXb hBd 0 rfl
        have b1 : ((2147483648 : Nat) : Int) ≤ (v2 2) + 2147483648 ∧ (v2 2) + 2147483648 ≤ ((2147483648 : Nat) : Int) := xXb hBd 1 rfl
        have b2 : ((2147483752 : Nat) : Int) ≤ (v2 1 + 104) + 2147483648 ∧ (v2 1 + 104) + 2147483648 ≤ ((2147483782 : Nat) : Int) := xXb hBd 2 rfl
        have f0 : (v2 2) = 0 := xXf hF 0 rfl
        have e75_0 : xE (zyEl zymx B H2) 75 0 = xE (zyEl zymx B H) 75 0 := xFr_E hfr rfl
        have q75_0 : xE (zyEl zymx B H) 75 0 = xE (zyEl zymx B s.heap) 75 0 := xFr_E hFr0 rfl
        have e75_1 : xE (zyEl zymx B H2) 75 1 = xE (zyEl zymx B H) 75 1 := xFr_E hfr rfl
        have q75_1 : xE (zyEl zymx B H) 75 1 = xE (zyEl zymx B s.heap) 75 1 := xFr_E hFr0 rfl
        have e75 : ∀ i, xE (zyEl zymx B H2) 75 i = xE (zyEl zymx B H) 75 i := fun i => xFr_E hfr rfl
        have hI : vFr (xE (zyEl zymx B s.heap) 75) (x0 0) (x0 1) ∧ (∀ k, 0 ≤ k → xE (zyEl zymx B H) 75 k = xE (zyEl zymx B s.heap) 75 k) ∧ (v 1) = x0 0 ∧ (v 2) = x0 1 := hInv
        obtain ⟨hvl, hc, i1, i2⟩ := hI
        refine xSt hRu hIH hAt hB hv hFr 75 (ax := 0) 0 34359739201 0 (v2 1 + 104) rfl (Or.inl ⟨rfl, rfl⟩) rfl (by decide +kernel) rfl rfl (by omega) (by show (v2 1 + 104) < ((556 : Nat) : Int); omega) (fun r hr q1 q2 => by rw [List.mem_singleton.mp hr]; exact ⟨rfl, by show ((0 : Nat) : Int) ≤ 0 + 2147483648; omega, by show 0 + 2147483648 ≤ ((4294967295 : Nat) : Int); omega⟩) (zyin_iff.mpr ⟨(75, 104, 135), by decide, rfl, (by show 104 ≤ Int.toNat (v2 1 + 104); omega), by show Int.toNat (v2 1 + 104) ≤ 135; omega⟩) (fun H3 hT3 hst3 hne3 hfn3 hFr3 => ?_)
        have hfe3 : ∀ (a2 : Nat) (k2 : Int), ¬ a2 = 75 → xE (zyEl zymx B H3) a2 k2 = xE (zyEl zymx B H2) a2 k2 := fun a2 k2 hne => by unfold xE; rw [hfn3 a2 k2.toNat (fun z => hne z.1)]
        skip
        refine ⟨⟨5, by decide⟩, [0, 0, 0], [0, 0, 0], rfl, ⟨by decide +kernel, ⟨rfl, by decide +kernel⟩, (xcs_c rfl (xcs_c rfl (xcs_c rfl xcs_n))), (xe_0 (xe_0 (xe_0 xe_n))), xkq_n⟩, rfl, ?_, ?_⟩
        · show vFr (xE (zyEl zymx B s.heap) 75) (x0 0) (x0 1) ∧ (∀ k, 0 ≤ k → xE (zyEl zymx B H3) 75 k = uS (xE (zyEl zymx B s.heap) 75) (104 + x0 0) (x0 1) k)
          refine ⟨hvl, fun k k0 => ?_⟩
          by_cases e : k = 104 + x0 0
          · rw [uS_e e, e, show 104 + x0 0 = (v2 1 + 104) by omega, hst3] <;> omega
          · rw [uS_n e, hne3 75 k k0 (fun z => e (by omega)), e75]
            exact hc k k0
        · show 4 < 5
          omega
    · have hx : x ∈ [zxffr2_dx0] := hx
      have hag : ∀ k, k < 3 → v2 k = v k := hag
      have hfr : xFr [] _ _ := hfr
      have ex := List.mem_singleton.mp hx
      subst ex
      obtain ⟨hF, hBd, hM⟩ := hXs
      have e75_0 : xE (zyEl zymx B H2) 75 0 = xE (zyEl zymx B H) 75 0 := xFr_E hfr rfl
      have q75_0 : xE (zyEl zymx B H) 75 0 = xE (zyEl zymx B s.heap) 75 0 := xFr_E hFr0 rfl
      have e75_1 : xE (zyEl zymx B H2) 75 1 = xE (zyEl zymx B H) 75 1 := xFr_E hfr rfl
      have q75_1 : xE (zyEl zymx B H) 75 1 = xE (zyEl zymx B s.heap) 75 1 := xFr_E hFr0 rfl
      have e75 : ∀ i, xE (zyEl zymx B H2) 75 i = xE (zyEl zymx B H) 75 i := fun i => xFr_E hfr rfl
      have hI : vFr (xE (zyEl zymx B s.heap) 75) (x0 0) (x0 1) ∧ (∀ k, 0 ≤ k → xE (zyEl zymx B H) 75 k = uS (xE (zyEl zymx B s.heap) 75) (104 + x0 0) (x0 1) k) := hInv
      obtain ⟨hvl, hc⟩ := hI
      obtain ⟨⟨hr, hcc⟩, hb0, hb1⟩ := (show xΦfr2 x0 (zyEl zymx B s.heap) from hΦ)
      obtain ⟨⟨g0, g1⟩, -⟩ := (show vFr (xE (zyEl zymx B s.heap) 75) (x0 0) (x0 1) from hvl)
      have u0 : xE (zyEl zymx B H2) 75 0 = xE (zyEl zymx B s.heap) 75 0 := by rw [e75, hc 0 (by decide), uS_n (by omega)]
      have u1 : xE (zyEl zymx B H2) 75 1 = xE (zyEl zymx B s.heap) 75 1 := by rw [e75, hc 1 (by decide), uS_n (by omega)]
      refine xCa hRu hIH hAt hB hv hFr (hfco B) (ix := 299) (ax := 4176) rfl rfl rfl hmefco ⟨_, rfl, rfl, by decide⟩ ⟨rfl, rfl, rfl⟩ (by decide) [832] [] [104] rfl ⟨rfl, rfl⟩ (by decide +kernel) (xcs_c rfl xcs_n) (by decide +kernel) ?_ (fun H3 r hT3 hf3 hFr3 hr3 hΨ3 => ?_)
      · show xΦco (xfv [104]) (zyEl zymx B H2)
        unfold xΦco
        rw [u0, u1]
        exact ⟨rfl, hr, hcc⟩
      · have hΨ3 : xΨco (xfv [104]) (zyEl zymx B H2) (zyEl zymx B H3) r := hΨ3
        have d75_0 : xE (zyEl zymx B H3) 75 0 = xE (zyEl zymx B H2) 75 0 := xFr_E hf3 rfl
        have d75_1 : xE (zyEl zymx B H3) 75 1 = xE (zyEl zymx B H2) 75 1 := xFr_E hf3 rfl
        have d75 : ∀ i, xE (zyEl zymx B H3) 75 i = xE (zyEl zymx B H2) 75 i := fun i => xFr_E hf3 rfl
        obtain ⟨hr1, hr2, hr3⟩ := (show xΨco (xfv [104]) (zyEl zymx B H2) (zyEl zymx B H3) r from hΨ3)
        rw [u0, u1] at hr1
        have hEE3 := xFr_n hf3
        refine ⟨⟨6, by decide⟩, [0, 0, 0], [0, 0, 0, r], rfl, ⟨by decide +kernel, ⟨rfl, by decide +kernel⟩, (xcs_c rfl (xcs_c rfl (xcs_c rfl xcs_n))), (xe_0 (xe_0 (xe_0 (xe_f (by omega) xe_n)))), xkq_n⟩, (by rw [if_pos rfl]; exact ⟨3, [], rfl, by decide, rfl, xst_n⟩), ?_, ?_⟩
        · show vFr (xE (zyEl zymx B s.heap) 75) (x0 0) (x0 1) ∧ (∀ k, 0 ≤ k → xE (zyEl zymx B H3) 75 k = uS (xE (zyEl zymx B s.heap) 75) (104 + x0 0) (x0 1) k) ∧ (r : Int) = pCnt (uS (xE (zyEl zymx B s.heap) 75) (104 + x0 0) (x0 1)) 104 (gN (xE (zyEl zymx B s.heap) 75 0) (xE (zyEl zymx B s.heap) 75 1)).toNat
          refine ⟨hvl, fun k k0 => ?_, ?_⟩
          · rw [hEE3]
            exact (e75 k).trans (hc k k0)
          · rw [hr1]
            exact pCnt_w fun k k0 => (e75 _).trans (hc _ (by omega))
        · show 3 < 4
          omega
    · cases hx
  · intro x0 E0 E E2 hrx hT0 hΦ i v hT hrv hInv hKc hFr0 x hx v2 hr2 hXs hag hfr hFr hT2
    rcases i with ⟨i, hi⟩
    have hi2 : i = 0 ∨ i = 1 ∨ i = 2 ∨ i = 3 ∨ i = 4 ∨ i = 5 ∨ i = 6 := by omega
    rcases hi2 with rfl | rfl | rfl | rfl | rfl | rfl | rfl
    · cases hx
    · have hx : x ∈ [zxffr2_ar0, zxffr2_ar1, zxffr2_ar2, zxffr2_ar3, zxffr2_ar4] := hx
      have hag : ∀ k, k < 5 → v2 k = v k := hag
      have hfr : xFr [(74, 2, 3)] _ _ := hfr
      rcases List.mem_cons.mp hx with ex | hx
      · subst ex
        obtain ⟨hF, hBd, hM⟩ := hXs
        have g1 : v2 1 = v 1 := hag 1 (by decide)
        have g2 : v2 2 = v 2 := hag 2 (by decide)
        have g3 : v2 3 = v 3 := hag 3 (by decide)
        have g4 : v2 4 = v 4 := hag 4 (by decide)
        have b0 : ((0 : Nat) : Int) ≤ (v2 1) + 2147483648 ∧ (v2 1) + 2147483648 ≤ ((2147483647 : Nat) : Int) := xXb hBd 0 rfl
        have b1 : ((2147483649 : Nat) : Int) ≤ (v2 3) + 2147483648 ∧ (v2 3) + 2147483648 ≤ ((2147483652 : Nat) : Int) := xXb hBd 1 rfl
        have b2 : ((2147483649 : Nat) : Int) ≤ (v2 4) + 2147483648 ∧ (v2 4) + 2147483648 ≤ ((2147483653 : Nat) : Int) := xXb hBd 2 rfl
        have b3 : ((2147483648 : Nat) : Int) ≤ (v2 5) + 2147483648 ∧ (v2 5) + 2147483648 ≤ ((2147483664 : Nat) : Int) := xXb hBd 3 rfl
        have b4 : ((2147483648 : Nat) : Int) ≤ (v2 6) + 2147483648 ∧ (v2 6) + 2147483648 ≤ ((2147483663 : Nat) : Int) := xXb hBd 4 rfl
        have b5 : ((2147483648 : Nat) : Int) ≤ (v2 7) + 2147483648 ∧ (v2 7) + 2147483648 ≤ ((2147483679 : Nat) : Int) := xXb hBd 5 rfl
        have k0 : xE E 75 0 = v 3 := xKcf hKc 0 rfl rfl
        have k1 : xE E 75 1 = v 4 := xKcf hKc 1 rfl rfl
        have f0 : -2147483648 ≤ (v2 3) * (v2 4 + (-1)) → (v2 3) * (v2 4 + (-1)) < 2147483648 → (v2 5) = (v2 3) * (v2 4 + (-1)) := xXf hF 0 rfl
        have f1 : -2147483648 ≤ (v2 3 + (-1)) * (v2 4) → (v2 3 + (-1)) * (v2 4) < 2147483648 → (v2 6) = (v2 3 + (-1)) * (v2 4) := xXf hF 1 rfl
        have f2 : -2147483648 ≤ (v2 5) + (v2 6) → (v2 5) + (v2 6) < 2147483648 → (v2 7) = (v2 5) + (v2 6) := xXf hF 2 rfl
        have f2 := f2 (by omega) (by omega)
        have f3 : (v2 1) < 0 := xXf hF 3 rfl
        have e75_0 : xE E2 75 0 = xE E 75 0 := xFr_E hfr rfl
        have q75_0 : xE E 75 0 = xE E0 75 0 := xFr_E hFr0 rfl
        have e75_1 : xE E2 75 1 = xE E 75 1 := xFr_E hfr rfl
        have q75_1 : xE E 75 1 = xE E0 75 1 := xFr_E hFr0 rfl
        have e75 : ∀ i, xE E2 75 i = xE E 75 i := fun i => xFr_E hfr rfl
        have hI : E = E0 ∧ (v 1) = x0 0 ∧ (v 2) = x0 1 := hInv
        have q75 : ∀ i, xE E 75 i = xE E0 75 i := fun i => by rw [hI.1]
        show xΨfr2 x0 E0 E2 (-1)
        obtain ⟨hE, i1, i2⟩ := hI
        obtain ⟨⟨hr, hcc⟩, hb0, hb1⟩ := (show xΦfr2 x0 E0 from hΦ)
        have h750 := q75 0
        have h751 := q75 1
        obtain ⟨w1, w2, w3, w4, w5, w6⟩ := gN_of (r := (v2 3)) (c := (v2 4)) (A := (v2 4 + (-1))) (B := (v2 3 + (-1))) (by omega) (by omega) (by omega) (by omega) f0 f1
        rw [show (v2 3) = xE E0 75 0 by omega, show (v2 4) = xE E0 75 1 by omega] at w1 w6
        have hvl : ¬ vFr (xE E0 75) (x0 0) (x0 1) := by
          unfold vFr isG
          rintro ⟨⟨y1, y2⟩, y3, y4⟩
          omega
        exact ⟨fun h => absurd h hvl, fun _ => ⟨rfl, fun k k0 => (e75 k).trans (q75 k)⟩⟩
      · skip
        rcases List.mem_cons.mp hx with ex | hx
        · subst ex
          obtain ⟨hF, hBd, hM⟩ := hXs
          have g1 : v2 1 = v 1 := hag 1 (by decide)
          have g2 : v2 2 = v 2 := hag 2 (by decide)
          have g3 : v2 3 = v 3 := hag 3 (by decide)
          have g4 : v2 4 = v 4 := hag 4 (by decide)
          have b0 : ((2147483648 : Nat) : Int) ≤ (v2 1) + 2147483648 ∧ (v2 1) + 2147483648 ≤ ((4294967295 : Nat) : Int) := xXb hBd 0 rfl
          have b1 : ((2147483649 : Nat) : Int) ≤ (v2 3) + 2147483648 ∧ (v2 3) + 2147483648 ≤ ((2147483652 : Nat) : Int) := xXb hBd 1 rfl
          have b2 : ((2147483649 : Nat) : Int) ≤ (v2 4) + 2147483648 ∧ (v2 4) + 2147483648 ≤ ((2147483653 : Nat) : Int) := xXb hBd 2 rfl
          have b3 : ((2147483648 : Nat) : Int) ≤ (v2 5) + 2147483648 ∧ (v2 5) + 2147483648 ≤ ((2147483664 : Nat) : Int) := xXb hBd 3 rfl
          have b4 : ((2147483648 : Nat) : Int) ≤ (v2 6) + 2147483648 ∧ (v2 6) + 2147483648 ≤ ((2147483663 : Nat) : Int) := xXb hBd 4 rfl
          have b5 : ((2147483648 : Nat) : Int) ≤ (v2 7) + 2147483648 ∧ (v2 7) + 2147483648 ≤ ((2147483679 : Nat) : Int) := xXb hBd 5 rfl
          have k0 : xE E 75 0 = v 3 := xKcf hKc 0 rfl rfl
          have k1 : xE E 75 1 = v 4 := xKcf hKc 1 rfl rfl
          have f0 : -2147483648 ≤ (v2 3) * (v2 4 + (-1)) → (v2 3) * (v2 4 + (-1)) < 2147483648 → (v2 5) = (v2 3) * (v2 4 + (-1)) := xXf hF 0 rfl
          have f1 : -2147483648 ≤ (v2 3 + (-1)) * (v2 4) → (v2 3 + (-1)) * (v2 4) < 2147483648 → (v2 6) = (v2 3 + (-1)) * (v2 4) := xXf hF 1 rfl
          have f2 : -2147483648 ≤ (v2 5) + (v2 6) → (v2 5) + (v2 6) < 2147483648 → (v2 7) = (v2 5) + (v2 6) := xXf hF 2 rfl
          have f2 := f2 (by omega) (by omega)
          have f3 : 0 ≤ (v2 1) := xXf hF 3 rfl
          have f4 : (v2 7 + (-1)) < (v2 1) := xXf hF 4 rfl
          have e75_0 : xE E2 75 0 = xE E 75 0 := xFr_E hfr rfl
          have q75_0 : xE E 75 0 = xE E0 75 0 := xFr_E hFr0 rfl
          have e75_1 : xE E2 75 1 = xE E 75 1 := xFr_E hfr rfl
          have q75_1 : xE E 75 1 = xE E0 75 1 := xFr_E hFr0 rfl
          have e75 : ∀ i, xE E2 75 i = xE E 75 i := fun i => xFr_E hfr rfl
          have hI : E = E0 ∧ (v 1) = x0 0 ∧ (v 2) = x0 1 := hInv
          have q75 : ∀ i, xE E 75 i = xE E0 75 i := fun i => by rw [hI.1]
          show xΨfr2 x0 E0 E2 (-1)
          obtain ⟨hE, i1, i2⟩ := hI
          obtain ⟨⟨hr, hcc⟩, hb0, hb1⟩ := (show xΦfr2 x0 E0 from hΦ)
          have h750 := q75 0
          have h751 := q75 1
          obtain ⟨w1, w2, w3, w4, w5, w6⟩ := gN_of (r := (v2 3)) (c := (v2 4)) (A := (v2 4 + (-1))) (B := (v2 3 + (-1))) (by omega) (by omega) (by omega) (by omega) f0 f1
          rw [show (v2 3) = xE E0 75 0 by omega, show (v2 4) = xE E0 75 1 by omega] at w1 w6
          have hvl : ¬ vFr (xE E0 75) (x0 0) (x0 1) := by
            unfold vFr isG
            rintro ⟨⟨y1, y2⟩, y3, y4⟩
            omega
          exact ⟨fun h => absurd h hvl, fun _ => ⟨rfl, fun k k0 => (e75 k).trans (q75 k)⟩⟩
        · skip
          rcases List.mem_cons.mp hx with ex | hx
          · subst ex
            obtain ⟨hF, hBd, hM⟩ := hXs
            have g1 : v2 1 = v 1 := hag 1 (by decide)
            have g2 : v2 2 = v 2 := hag 2 (by decide)
            have g3 : v2 3 = v 3 := hag 3 (by decide)
            have g4 : v2 4 = v 4 := hag 4 (by decide)
            have b0 : ((2147483648 : Nat) : Int) ≤ (v2 1) + 2147483648 ∧ (v2 1) + 2147483648 ≤ ((2147483678 : Nat) : Int) := xXb hBd 0 rfl
            have b1 : ((2147483648 : Nat) : Int) ≤ (v2 2) + 2147483648 ∧ (v2 2) + 2147483648 ≤ ((2147483648 : Nat) : Int) := xXb hBd 1 rfl
            have b2 : ((2147483649 : Nat) : Int) ≤ (v2 3) + 2147483648 ∧ (v2 3) + 2147483648 ≤ ((2147483652 : Nat) : Int) := xXb hBd 2 rfl
            have b3 : ((2147483649 : Nat) : Int) ≤ (v2 4) + 2147483648 ∧ (v2 4) + 2147483648 ≤ ((2147483653 : Nat) : Int) := xXb hBd 3 rfl
            have b4 : ((2147483648 : Nat) : Int) ≤ (v2 5) + 2147483648 ∧ (v2 5) + 2147483648 ≤ ((2147483664 : Nat) : Int) := xXb hBd 4 rfl
            have b5 : ((2147483648 : Nat) : Int) ≤ (v2 6) + 2147483648 ∧ (v2 6) + 2147483648 ≤ ((2147483663 : Nat) : Int) := xXb hBd 5 rfl
            have b6 : ((2147483649 : Nat) : Int) ≤ (v2 7) + 2147483648 ∧ (v2 7) + 2147483648 ≤ ((2147483679 : Nat) : Int) := xXb hBd 6 rfl
            have b7 : ((2147483650 : Nat) : Int) ≤ (v2 8) + 2147483648 ∧ (v2 8) + 2147483648 ≤ ((4294967295 : Nat) : Int) := xXb hBd 7 rfl
            have k0 : xE E 75 0 = v 3 := xKcf hKc 0 rfl rfl
            have k1 : xE E 75 1 = v 4 := xKcf hKc 1 rfl rfl
            have f0 : -2147483648 ≤ (v2 3) * (v2 4 + (-1)) → (v2 3) * (v2 4 + (-1)) < 2147483648 → (v2 5) = (v2 3) * (v2 4 + (-1)) := xXf hF 0 rfl
            have f1 : -2147483648 ≤ (v2 3 + (-1)) * (v2 4) → (v2 3 + (-1)) * (v2 4) < 2147483648 → (v2 6) = (v2 3 + (-1)) * (v2 4) := xXf hF 1 rfl
            have f2 : -2147483648 ≤ (v2 5) + (v2 6) → (v2 5) + (v2 6) < 2147483648 → (v2 7) = (v2 5) + (v2 6) := xXf hF 2 rfl
            have f2 := f2 (by omega) (by omega)
            have f3 : 0 ≤ (v2 1) := xXf hF 3 rfl
            have f4 : (v2 1) ≤ (v2 7 + (-1)) := xXf hF 4 rfl
            have f5 : (0 : Int) ≤ (v2 1 + 104) ∧ xE E 75 (v2 1 + 104) = (v2 8) := xXf hF 5 rfl
            have f6 : ¬ (v2 8) = 1 := xXf hF 6 rfl
            have f7 : 0 = (v2 2) := xXf hF 7 rfl
            have e75_0 : xE E2 75 0 = xE E 75 0 := xFr_E hfr rfl
            have q75_0 : xE E 75 0 = xE E0 75 0 := xFr_E hFr0 rfl
            have e75_1 : xE E2 75 1 = xE E 75 1 := xFr_E hfr rfl
            have q75_1 : xE E 75 1 = xE E0 75 1 := xFr_E hFr0 rfl
            have e75 : ∀ i, xE E2 75 i = xE E 75 i := fun i => xFr_E hfr rfl
            have hI : E = E0 ∧ (v 1) = x0 0 ∧ (v 2) = x0 1 := hInv
            have q75 : ∀ i, xE E 75 i = xE E0 75 i := fun i => by rw [hI.1]
            show xΨfr2 x0 E0 E2 (-1)
            obtain ⟨hE, i1, i2⟩ := hI
            obtain ⟨⟨hr, hcc⟩, hb0, hb1⟩ := (show xΦfr2 x0 E0 from hΦ)
            have h750 := q75 0
            have h751 := q75 1
            obtain ⟨w1, w2, w3, w4, w5, w6⟩ := gN_of (r := (v2 3)) (c := (v2 4)) (A := (v2 4 + (-1))) (B := (v2 3 + (-1))) (by omega) (by omega) (by omega) (by omega) f0 f1
            rw [show (v2 3) = xE E0 75 0 by omega, show (v2 4) = xE E0 75 1 by omega] at w1 w6
            have c5 : xE E0 75 ((v2 1 + 104)) = (v2 8) := (q75 _).symm.trans f5.2
            rw [show (v2 1 + 104) = 104 + x0 0 by omega] at c5
            have hvl : ¬ vFr (xE E0 75) (x0 0) (x0 1) := by
              unfold vFr isG
              rintro ⟨⟨y1, y2⟩, y3, y4⟩
              omega
            exact ⟨fun h => absurd h hvl, fun _ => ⟨rfl, fun k k0 => (e75 k).trans (q75 k)⟩⟩
          · skip
            rcases List.mem_cons.mp hx with ex | hx
            · subst ex
              obtain ⟨hF, hBd, hM⟩ := hXs
              have g1 : v2 1 = v 1 := hag 1 (by decide)
              have g2 : v2 2 = v 2 := hag 2 (by decide)
              have g3 : v2 3 = v 3 := hag 3 (by decide)
              have g4 : v2 4 = v 4 := hag 4 (by decide)
              have b0 : ((2147483648 : Nat) : Int) ≤ (v2 1) + 2147483648 ∧ (v2 1) + 2147483648 ≤ ((2147483678 : Nat) : Int) := xXb hBd 0 rfl
              have b1 : ((2147483648 : Nat) : Int) ≤ (v2 2) + 2147483648 ∧ (v2 2) + 2147483648 ≤ ((2147483648 : Nat) : Int) := xXb hBd 1 rfl
              have b2 : ((2147483649 : Nat) : Int) ≤ (v2 3) + 2147483648 ∧ (v2 3) + 2147483648 ≤ ((2147483652 : Nat) : Int) := xXb hBd 2 rfl
              have b3 : ((2147483649 : Nat) : Int) ≤ (v2 4) + 2147483648 ∧ (v2 4) + 2147483648 ≤ ((2147483653 : Nat) : Int) := xXb hBd 3 rfl
              have b4 : ((2147483648 : Nat) : Int) ≤ (v2 5) + 2147483648 ∧ (v2 5) + 2147483648 ≤ ((2147483664 : Nat) : Int) := xXb hBd 4 rfl
              have b5 : ((2147483648 : Nat) : Int) ≤ (v2 6) + 2147483648 ∧ (v2 6) + 2147483648 ≤ ((2147483663 : Nat) : Int) := xXb hBd 5 rfl
              have b6 : ((2147483649 : Nat) : Int) ≤ (v2 7) + 2147483648 ∧ (v2 7) + 2147483648 ≤ ((2147483679 : Nat) : Int) := xXb hBd 6 rfl
              have b7 : ((0 : Nat) : Int) ≤ (v2 8) + 2147483648 ∧ (v2 8) + 2147483648 ≤ ((2147483648 : Nat) : Int) := xXb hBd 7 rfl
              have k0 : xE E 75 0 = v 3 := xKcf hKc 0 rfl rfl
              have k1 : xE E 75 1 = v 4 := xKcf hKc 1 rfl rfl
              have f0 : -2147483648 ≤ (v2 3) * (v2 4 + (-1)) → (v2 3) * (v2 4 + (-1)) < 2147483648 → (v2 5) = (v2 3) * (v2 4 + (-1)) := xXf hF 0 rfl
              have f1 : -2147483648 ≤ (v2 3 + (-1)) * (v2 4) → (v2 3 + (-1)) * (v2 4) < 2147483648 → (v2 6) = (v2 3 + (-1)) * (v2 4) := xXf hF 1 rfl
              have f2 : -2147483648 ≤ (v2 5) + (v2 6) → (v2 5) + (v2 6) < 2147483648 → (v2 7) = (v2 5) + (v2 6) := xXf hF 2 rfl
              have f2 := f2 (by omega) (by omega)
              have f3 : 0 ≤ (v2 1) := xXf hF 3 rfl
              have f4 : (v2 1) ≤ (v2 7 + (-1)) := xXf hF 4 rfl
              have f5 : (0 : Int) ≤ (v2 1 + 104) ∧ xE E 75 (v2 1 + 104) = (v2 8) := xXf hF 5 rfl
              have f6 : ¬ (v2 8) = 1 := xXf hF 6 rfl
              have f7 : 0 = (v2 2) := xXf hF 7 rfl
              have e75_0 : xE E2 75 0 = xE E 75 0 := xFr_E hfr rfl
              have q75_0 : xE E 75 0 = xE E0 75 0 := xFr_E hFr0 rfl
              have e75_1 : xE E2 75 1 = xE E 75 1 := xFr_E hfr rfl
              have q75_1 : xE E 75 1 = xE E0 75 1 := xFr_E hFr0 rfl
              have e75 : ∀ i, xE E2 75 i = xE E 75 i := fun i => xFr_E hfr rfl
              have hI : E = E0 ∧ (v 1) = x0 0 ∧ (v 2) = x0 1 := hInv
              have q75 : ∀ i, xE E 75 i = xE E0 75 i := fun i => by rw [hI.1]
              show xΨfr2 x0 E0 E2 (-1)
              obtain ⟨hE, i1, i2⟩ := hI
              obtain ⟨⟨hr, hcc⟩, hb0, hb1⟩ := (show xΦfr2 x0 E0 from hΦ)
              have h750 := q75 0
              have h751 := q75 1
              obtain ⟨w1, w2, w3, w4, w5, w6⟩ := gN_of (r := (v2 3)) (c := (v2 4)) (A := (v2 4 + (-1))) (B := (v2 3 + (-1))) (by omega) (by omega) (by omega) (by omega) f0 f1
              rw [show (v2 3) = xE E0 75 0 by omega, show (v2 4) = xE E0 75 1 by omega] at w1 w6
              have c5 : xE E0 75 ((v2 1 + 104)) = (v2 8) := (q75 _).symm.trans f5.2
              rw [show (v2 1 + 104) = 104 + x0 0 by omega] at c5
              have hvl : ¬ vFr (xE E0 75) (x0 0) (x0 1) := by
                unfold vFr isG
                rintro ⟨⟨y1, y2⟩, y3, y4⟩
                omega
              exact ⟨fun h => absurd h hvl, fun _ => ⟨rfl, fun k k0 => (e75 k).trans (q75 k)⟩⟩
            · skip
              have ex := List.mem_singleton.mp hx
              subst ex
              obtain ⟨hF, hBd, hM⟩ := hXs
              have g1 : v2 1 = v 1 := hag 1 (by decide)
              have g2 : v2 2 = v 2 := hag 2 (by decide)
              have g3 : v2 3 = v 3 := hag 3 (by decide)
              have g4 : v2 4 = v 4 := hag 4 (by decide)
              have b0 : ((2147483648 : Nat) : Int) ≤ (v2 1) + 2147483648 ∧ (v2 1) + 2147483648 ≤ ((2147483678 : Nat) : Int) := xXb hBd 0 rfl
              have b1 : ((2147483649 : Nat) : Int) ≤ (v2 2) + 2147483648 ∧ (v2 2) + 2147483648 ≤ ((2147483649 : Nat) : Int) := xXb hBd 1 rfl
              have b2 : ((2147483649 : Nat) : Int) ≤ (v2 3) + 2147483648 ∧ (v2 3) + 2147483648 ≤ ((2147483652 : Nat) : Int) := xXb hBd 2 rfl
              have b3 : ((2147483649 : Nat) : Int) ≤ (v2 4) + 2147483648 ∧ (v2 4) + 2147483648 ≤ ((2147483653 : Nat) : Int) := xXb hBd 3 rfl
              have b4 : ((2147483648 : Nat) : Int) ≤ (v2 5) + 2147483648 ∧ (v2 5) + 2147483648 ≤ ((2147483664 : Nat) : Int) := xXb hBd 4 rfl
              have b5 : ((2147483648 : Nat) : Int) ≤ (v2 6) + 2147483648 ∧ (v2 6) + 2147483648 ≤ ((2147483663 : Nat) : Int) := xXb hBd 5 rfl
              have b6 : ((2147483649 : Nat) : Int) ≤ (v2 7) + 2147483648 ∧ (v2 7) + 2147483648 ≤ ((2147483679 : Nat) : Int) := xXb hBd 6 rfl
              have b7 : ((2147483649 : Nat) : Int) ≤ (v2 8) + 2147483648 ∧ (v2 8) + 2147483648 ≤ ((2147483649 : Nat) : Int) := xXb hBd 7 rfl
              have k0 : xE E 75 0 = v 3 := xKcf hKc 0 rfl rfl
              have k1 : xE E 75 1 = v 4 := xKcf hKc 1 rfl rfl
              have f0 : -2147483648 ≤ (v2 3) * (v2 4 + (-1)) → (v2 3) * (v2 4 + (-1)) < 2147483648 → (v2 5) = (v2 3) * (v2 4 + (-1)) := xXf hF 0 rfl
              have f1 : -2147483648 ≤ (v2 3 + (-1)) * (v2 4) → (v2 3 + (-1)) * (v2 4) < 2147483648 → (v2 6) = (v2 3 + (-1)) * (v2 4) := xXf hF 1 rfl
              have f2 : -2147483648 ≤ (v2 5) + (v2 6) → (v2 5) + (v2 6) < 2147483648 → (v2 7) = (v2 5) + (v2 6) := xXf hF 2 rfl
              have f2 := f2 (by omega) (by omega)
              have f3 : 0 ≤ (v2 1) := xXf hF 3 rfl
              have f4 : (v2 1) ≤ (v2 7 + (-1)) := xXf hF 4 rfl
              have f5 : (0 : Int) ≤ (v2 1 + 104) ∧ xE E 75 (v2 1 + 104) = (v2 8) := xXf hF 5 rfl
              have f6 : (v2 8) = 1 := xXf hF 6 rfl
              have f7 : 1 = (v2 2) := xXf hF 7 rfl
              have e75_0 : xE E2 75 0 = xE E 75 0 := xFr_E hfr rfl
              have q75_0 : xE E 75 0 = xE E0 75 0 := xFr_E hFr0 rfl
              have e75_1 : xE E2 75 1 = xE E 75 1 := xFr_E hfr rfl
              have q75_1 : xE E 75 1 = xE E0 75 1 := xFr_E hFr0 rfl
              have e75 : ∀ i, xE E2 75 i = xE E 75 i := fun i => xFr_E hfr rfl
              have hI : E = E0 ∧ (v 1) = x0 0 ∧ (v 2) = x0 1 := hInv
              have q75 : ∀ i, xE E 75 i = xE E0 75 i := fun i => by rw [hI.1]
              show xΨfr2 x0 E0 E2 (-1)
              obtain ⟨hE, i1, i2⟩ := hI
              obtain ⟨⟨hr, hcc⟩, hb0, hb1⟩ := (show xΦfr2 x0 E0 from hΦ)
              have h750 := q75 0
              have h751 := q75 1
              obtain ⟨w1, w2, w3, w4, w5, w6⟩ := gN_of (r := (v2 3)) (c := (v2 4)) (A := (v2 4 + (-1))) (B := (v2 3 + (-1))) (by omega) (by omega) (by omega) (by omega) f0 f1
              rw [show (v2 3) = xE E0 75 0 by omega, show (v2 4) = xE E0 75 1 by omega] at w1 w6
              have c5 : xE E0 75 ((v2 1 + 104)) = (v2 8) := (q75 _).symm.trans f5.2
              rw [show (v2 1 + 104) = 104 + x0 0 by omega] at c5
              have hvl : ¬ vFr (xE E0 75) (x0 0) (x0 1) := by
                unfold vFr isG
                rintro ⟨⟨y1, y2⟩, y3, y4⟩
                omega
              exact ⟨fun h => absurd h hvl, fun _ => ⟨rfl, fun k k0 => (e75 k).trans (q75 k)⟩⟩
    · have hx : x ∈ [zxffr2_br0] := hx
      have hag : ∀ k, k < 4 → v2 k = v k := hag
      have hfr : xFr [(74, 2, 3)] _ _ := hfr
      have ex := List.mem_singleton.mp hx
      subst ex
      obtain ⟨hF, hBd, hM⟩ := hXs
      have g1 : v2 1 = v 1 := hag 1 (by decide)
      have g2 : v2 2 = v 2 := hag 2 (by decide)
      have g3 : v2 3 = v 3 := hag 3 (by decide)
      have b0 : ((2147483654 : Nat) : Int) ≤ (v2 3) + 2147483648 ∧ (v2 3) + 2147483648 ≤ ((2147483654 : Nat) : Int) := xXb hBd 0 rfl
      have f0 : (v2 3) = 6 := xXf hF 0 rfl
      have e75_0 : xE E2 75 0 = xE E 75 0 := xFr_E hfr rfl
      have q75_0 : xE E 75 0 = xE E0 75 0 := xFr_E hFr0 rfl
      have e75_1 : xE E2 75 1 = xE E 75 1 := xFr_E hfr rfl
      have q75_1 : xE E 75 1 = xE E0 75 1 := xFr_E hFr0 rfl
      have e75 : ∀ i, xE E2 75 i = xE E 75 i := fun i => xFr_E hfr rfl
      have hI : (v 2) = 1 ∧ isG (xE E0 75) (x0 0) ∧ ¬ (xE E0 75 (104 + x0 0) = 1 ↔ x0 1 = 1) ∧ (v 3) = pCnt (xE E0 75) 104 (gN (xE E0 75 0) (xE E0 75 1)).toNat ∧ (∀ k, 0 ≤ k → xE E 75 k = xE E0 75 k) ∧ (v 1) = x0 0 ∧ (v 2) = x0 1 := hInv
      show xΨfr2 x0 E0 E2 (-1)
      obtain ⟨j1, ⟨j2, j2b⟩, j3, j4, hc, i1, i2⟩ := hI
      obtain ⟨⟨hr, hcc⟩, hb0, hb1⟩ := (show xΦfr2 x0 E0 from hΦ)
      have hvl : ¬ vFr (xE E0 75) (x0 0) (x0 1) := by
        unfold vFr isG
        rintro ⟨⟨y1, y2⟩, y3, y4⟩
        omega
      exact ⟨fun h => absurd h hvl, fun _ => ⟨rfl, fun k k0 => (e75 k).trans (hc k k0)⟩⟩
    · cases hx
    · cases hx
    · cases hx
    · have hx : x ∈ [zxffr2_er0] := hx
      have hag : ∀ k, k < 4 → v2 k = v k := hag
      have hfr : xFr [] _ _ := hfr
      have ex := List.mem_singleton.mp hx
      subst ex
      obtain ⟨hF, hBd, hM⟩ := hXs
      have r3 := hr2 3
      have g3 : v2 3 = v 3 := hag 3 (by decide)
      have e75_0 : xE E2 75 0 = xE E 75 0 := xFr_E hfr rfl
      have q75_0 : xE E 75 0 = xE E0 75 0 := xFr_E hFr0 rfl
      have e75_1 : xE E2 75 1 = xE E 75 1 := xFr_E hfr rfl
      have q75_1 : xE E 75 1 = xE E0 75 1 := xFr_E hFr0 rfl
      have e75 : ∀ i, xE E2 75 i = xE E 75 i := fun i => xFr_E hfr rfl
      have hI : vFr (xE E0 75) (x0 0) (x0 1) ∧ (∀ k, 0 ≤ k → xE E 75 k = uS (xE E0 75) (104 + x0 0) (x0 1) k) ∧ (v 3) = pCnt (uS (xE E0 75) (104 + x0 0) (x0 1)) 104 (gN (xE E0 75 0) (xE E0 75 1)).toNat := hInv
      show xΨfr2 x0 E0 E2 (v2 3)
      obtain ⟨hvl, hc, i3⟩ := hI
      exact ⟨fun _ => ⟨by omega, fun k k0 => (e75 k).trans (hc k k0)⟩, fun h => absurd hvl h⟩
end
section
/-! THE PLAN ON BOTH SIDES: at most six are free; the relation -/
/-- at most six free -/
def sF (S : Int → Int) : Prop := pCnt S 104 (gN (S 0) (S 1)).toNat ≤ 6
section SFR
variable {T : Int → Int} {n p q : Int} {S S2 : Int → Int}
theorem pCnt_v {o : Int} {m : Nat} (h : ∀ k : Int, o ≤ k → k < o + (m : Int) → S k = S2 k) : pCnt S o m = pCnt S2 o m := by
  induction m with
  | zero => rfl
  | succ m ih =>
    show pCnt S o m + _ = pCnt S2 o m + _
    rw [ih (fun k k0 k1 => h k k0 (by omega)), h (o + (m : Int)) (by omega) (by omega)]
theorem pCnt_u {o g x : Int} {m : Nat} : pCnt (uS S (o + g) x) o m ≤ pCnt S o m + (if 0 < x then 1 else 0) ∧ (∀ k : Nat, (k : Int) ≤ g → pCnt (uS S (o + g) x) o k = pCnt S o k) := by
  have h2 : ∀ k : Nat, (k : Int) ≤ g → pCnt (uS S (o + g) x) o k = pCnt S o k := fun k hk => pCnt_v fun j j0 j1 => uS_n (by omega)
  refine ⟨?_, h2⟩
  induction m with
  | zero =>
    show (0 : Int) ≤ 0 + _
    split <;> omega
  | succ m ih =>
    show pCnt (uS S (o + g) x) o m + (if 0 < uS S (o + g) x (o + (m : Int)) then 1 else 0) ≤ pCnt S o m + (if 0 < S (o + (m : Int)) then 1 else 0) + _
    by_cases e : (m : Int) = g
    · rw [h2 m (by omega), uS_e (by omega)]
      split <;> split <;> omega
    · rw [uS_n (by omega)]
      split <;> omega
theorem sF_k (hI : sI S) (h : sF S) (hk : ∀ k, (k = 0 ∨ k = 1 ∨ (104 ≤ k ∧ k < 135)) → S2 k = S k) : sF S2 := by
  have hg := gN_b hI.1 hI.2.1
  unfold sF at h ⊢
  rw [hk 0 (by omega), hk 1 (by omega), pCnt_v (S2 := S) fun k k0 k1 => hk k (by omega)]
  exact h
theorem sF_u {k x : Int} (hI : sI S) (h : sF S) (hk : ¬ k = 0 ∧ ¬ k = 1 ∧ ¬ (104 ≤ k ∧ k < 135)) : sF (uS S k x) := sF_k hI h fun j hj => uS_n (by omega)
theorem pWs_F : ∀ {f : Nat} {p : Int} {S : Int → Int}, sI S → sF S → 0 ≤ S 5 → pWs T n f p S = .ok (q, S2) → sF S2 := by
  intro f
  induction f with
  | zero =>
    intro p S hS hF h5 h
    unfold pWs at h
    split at h
    · obtain ⟨x, -, -, -, h⟩ := pNum_ok h
      cases h
    · split at h
      · obtain ⟨x, -, -, -, h⟩ := pNum_ok h
        cases h
      · cases h
        exact hF
  | succ f ih =>
    intro p S hS hF h5 h
    unfold pWs at h
    split at h
    · obtain ⟨x, -, -, -, h⟩ := pNum_ok h
      exact ih (uS_sI (uS_sI hS (by omega) (by omega)) (by decide) (by decide)) (sF_u (uS_sI hS (by omega) (by omega)) (sF_u hS hF (by omega)) (by omega)) (by rw [uS_e rfl]; omega) h
    · split at h
      · obtain ⟨x, -, -, -, h⟩ := pNum_ok h
        exact ih (uS_sI (uS_sI hS (by omega) (by omega)) (by decide) (by decide)) (sF_u (uS_sI hS (by omega) (by omega)) (sF_u hS hF (by omega)) (by omega)) (by rw [uS_e rfl]; omega) h
      · cases h
        exact hF
theorem pBody_F (h : sI S) (hF : sF S) (he : pBody T n p S = .ok (q, S2)) : sF S2 := by
  have hg := gN_b h.1 h.2.1
  have h2 := h.2.2.1
  unfold pBody at he
  split at he
  · unfold pSwitch at he
    obtain ⟨x, x1, x2, -, he⟩ := pNum_ok he
    obtain ⟨y, y1, y2, -, he⟩ := pNum_ok he
    obtain ⟨l2, b2, e⟩ := pBits_ok he
    have e : S2 = uS (uS S (8 + x) b2) (40 + x) l2 := e
    rw [e]
    exact sF_u (uS_sI h (by omega) (by omega)) (sF_u h hF (by omega)) (by omega)
  · split at he
    · unfold pBobbin at he
      split at he
      · cases he
      · rename_i h8
        obtain ⟨x, x1, x2, -, he⟩ := pNum_ok he
        split at he
        · cases he
        · cases he
          refine sF_k h hF (fun k hk => ?_)
          unfold pNew
          rw [uS_n (by omega), uS_n (by omega), uS_n (by omega), uS_n (by omega)]
    · split at he
      · unfold pStuck at he
        obtain ⟨x, x1, x2, -, he⟩ := pNum_ok he
        split at he
        · cases he
          exact sF_u h hF (by omega)
        · split at he
          · cases he
            exact sF_u h hF (by omega)
          · cases he
      · split at he
        · unfold pFree at he
          split at he
          · cases he
          · rename_i h6
            obtain ⟨x, x1, x2, -, he⟩ := pNum_ok he
            cases he
            unfold sF
            rw [uS_n (by omega), uS_n (by omega)]
            have := (pCnt_u (S := S) (o := 104) (g := x) (x := 1) (m := (gN (S 0) (S 1)).toNat)).1
            rw [if_pos (by decide)] at this
            omega
        · split at he
          · unfold pPlace at he
            obtain ⟨x, x1, x2, -, he⟩ := pNum_ok he
            obtain ⟨y, y1, y2, -, he⟩ := pNum_ok he
            cases he
            exact sF_u h hF (by omega)
          · split at he
            · exact pWs_F (uS_sI h (by decide) (by decide)) (sF_u h hF (by decide)) (by rw [uS_e rfl]; decide) he
            · cases he
theorem pLine_F (h : sI S) (hF : sF S) (he : pLine T n p S = .ok (q, S2)) : sF S2 := by
  unfold pLine at he
  obtain ⟨p2, S3, h1, h2⟩ := pBind_ok he
  rw [pSem_S h2]
  exact pBody_F h hF h1
theorem pLines_F : ∀ {f : Nat} {p q : Int} {S S2 : Int → Int}, sI S → sF S → pLines T n f p S = .ok (q, S2) → sF S2 := by
  intro f
  induction f with
  | zero =>
    intro p q S S2 hS hF h
    cases h
    exact hF
  | succ f ih =>
    intro p q S S2 hS hF h
    by_cases hk : tKd T n p = 0
    · rw [pLines_0 hk] at h
      cases h
      exact hF
    · rw [pLines_s hk] at h
      obtain ⟨p2, S3, h1, h2⟩ := pBind_ok h
      exact ih (pLine_I hS h1) (pLine_F hS hF h1) h2
theorem pCnt_0 {o : Int} {m : Nat} (h : ∀ k : Int, o ≤ k → k < o + (m : Int) → S k ≤ 0) : pCnt S o m = 0 := by
  induction m with
  | zero => rfl
  | succ m ih =>
    show pCnt S o m + (if 0 < S (o + (m : Int)) then 1 else 0) = 0
    rw [ih (fun k k0 k1 => h k k0 (by omega)), if_neg (by have := h (o + (m : Int)) (by omega) (by omega); omega)]
    rfl
theorem pClr_F {x y : Int} : pCnt (pClr x y) 104 (gN x y).toNat ≤ 6 := by
  rw [pCnt_0 fun k k0 k1 => by unfold pClr; rw [if_neg (by omega), if_neg (by omega), if_neg (by omega), if_neg (by omega)]; exact Int.le_refl _]
  decide
theorem pAll_F (h : pAll T n = .ok (q, S)) : sF S := by
  unfold pAll at h
  obtain ⟨p2, S3, h1, h2⟩ := pBind_ok h
  unfold pSz at h1
  split at h1
  · obtain ⟨x, x1, x2, -, h1⟩ := pNum_ok h1
    obtain ⟨y, y1, y2, -, h1⟩ := pNum_ok h1
    have e := pSem_S h1
    subst e
    refine pLines_F ?_ ?_ h2
    · refine ⟨by show 1 ≤ x ∧ x ≤ 4; omega, by show 1 ≤ y ∧ y ≤ 5; omega, by show (0 : Int) ≤ 0 ∧ (0 : Int) ≤ 8; decide, fun b b0 b1 => ?_⟩
      have b1 : b < 0 := b1
      omega
    · exact pClr_F
  · cases h1
end SFR
end
section
/-! THE PLAN'S RELATION: kept, and the answers alike -/
theorem xop9_ge {a b : Int} (h : 0 ≤ a) (h2 : a < 2147483648) : 0 ≤ xop 9 a b := by
  have hz : zB (Int32.ofInt a) = a.toNat + 2147483648 := by
    have e := xI_zB (Int32.ofInt a)
    rw [xI_ofInt ⟨by omega, h2⟩] at e
    omega
  obtain ⟨ex, p1, p1'⟩ := zyp (x := Int32.ofInt a) (by omega)
  obtain ⟨j, hj, e1, e2⟩ := zysh (Int32.ofInt b)
  have e3 : zyG 9 (Int32.ofInt a) (Int32.ofInt b) = nI ((Int32.ofInt a).toBitVec.toNat / 2 ^ j) := by
    show Int32.ofInt a >>> (Int32.ofInt b &&& 31) = _
    rw [e1]
    have q := pk_shrN (n := (Int32.ofInt a).toBitVec.toNat) (by omega) (nI j &&& 31) j (zysh0 j hj)
    rw [← ex] at q
    exact q
  have l1 : (Int32.ofInt a).toBitVec.toNat / 2 ^ j ≤ (Int32.ofInt a).toBitVec.toNat := Nat.div_le_self _ _
  have e4 : zB (zyG 9 (Int32.ofInt a) (Int32.ofInt b)) = (Int32.ofInt a).toBitVec.toNat / 2 ^ j + 2147483648 := by rw [e3]; exact zB_nI (by omega)
  have e5 := xI_zB (zyG 9 (Int32.ofInt a) (Int32.ofInt b))
  unfold xop
  generalize (Int32.ofInt a).toBitVec.toNat / 2 ^ j = u at e4
  omega
/-- the plan at 1: sizes, what faces, programs, stuck, free -/
def xPb0 (E : zyEm) (S : Int → Int) : Prop := sRC S ∧ sF S ∧ (xE E 2 2 = sN (S 0) (S 1) ∧ xE E 2 3 = gN (S 0) (S 1)) ∧ (∀ s, 0 ≤ s → s < sN (S 0) (S 1) → xE E 4 s = pF (S 0) (S 1) s) ∧ ∀ g, 0 ≤ g → g < 31 → xE E 10 g = S (8 + g) ∧ xE E 11 g = S (40 + g) ∧ xE E 12 g = S (72 + g) ∧ xE E 13 g = S (104 + g)
theorem xPb0_ab {E : zyEm} {S S2 : Int → Int} (h : xAb0 E S) (hF : sF S) (hS : ∀ k, 0 ≤ k → k < 520 → S2 k = S k) : xPb0 E S2 := by
  obtain ⟨h1, h2, h3, h4, h5, h6⟩ := h
  have e0 := hS 0 (by decide) (by decide)
  have e1 := hS 1 (by decide) (by decide)
  have hg := gN_b (r := S 0) (c := S 1) (by omega) (by omega)
  refine ⟨⟨by omega, by omega⟩, ?_, ?_, fun s s0 s1 => ?_, fun g g0 g1 => ?_⟩
  · unfold sF at hF ⊢
    rw [e0, e1, pCnt_v (S2 := S) fun k k0 k1 => hS k (by omega) (by omega)]
    exact hF
  · rw [e0, e1]
    exact ⟨h2.2.2.1, h2.2.2.2⟩
  · rw [e0, e1] at s1 ⊢
    exact h3 s s0 s1
  · rw [hS (8 + g) (by omega) (by omega), hS (40 + g) (by omega) (by omega), hS (72 + g) (by omega) (by omega), hS (104 + g) (by omega) (by omega)]
    exact h5 g g0 g1
theorem xPb0_k {E E2 : zyEm} {S S2 : Int → Int} (h : xPb0 E S) (hE : ∀ a, (a = 2 ∨ a = 4 ∨ a = 10 ∨ a = 11 ∨ a = 12 ∨ a = 13) → ∀ k : Int, 0 ≤ k → xE E2 a k = xE E a k) (hS : ∀ k, (k = 0 ∨ k = 1 ∨ (8 ≤ k ∧ k ≤ 135)) → S2 k = S k) : xPb0 E2 S2 := by
  obtain ⟨h1, hF, h2, h3, h5⟩ := h
  have e0 := hS 0 (by omega)
  have e1 := hS 1 (by omega)
  have hg := gN_b (r := S 0) (c := S 1) h1.1 h1.2
  refine ⟨by unfold sRC; rw [e0, e1]; exact h1, ?_, ?_, fun s s0 s1 => ?_, fun g g0 g1 => ?_⟩
  · unfold sF at hF ⊢
    rw [e0, e1, pCnt_v (S2 := S) fun k k0 k1 => hS k (by omega)]
    exact hF
  · rw [e0, e1, hE 2 (by omega) 2 (by decide), hE 2 (by omega) 3 (by decide)]
    exact h2
  · rw [e0, e1] at s1 ⊢
    rw [hE 4 (by omega) s s0]
    exact h3 s s0 s1
  · rw [hS (8 + g) (by omega), hS (40 + g) (by omega), hS (72 + g) (by omega), hS (104 + g) (by omega), hE 10 (by omega) g g0, hE 11 (by omega) g g0, hE 12 (by omega) g g0, hE 13 (by omega) g g0]
    exact h5 g g0 g1
/-- bit: both answer alike -/
theorem rbt1 {E : zyEm} {S : Int → Int} {x : Nat → Int} {r r2 : Int} (h : xPb0 E S) (E2 : zyEm) (hc : xΨcbt1 x E E2 r) (hr : r2 = aBit S (x 0) (x 1)) : r2 = r := by
  obtain ⟨h1, hF, h2, h3, h5⟩ := h
  have hg := gN_b (r := S 0) (c := S 1) h1.1 h1.2
  unfold xΨcbt1 at hc
  rw [hc, hr]
  unfold aBit
  rw [h2.2]
  by_cases q : 0 ≤ x 0 ∧ x 0 < gN (S 0) (S 1)
  · obtain ⟨k1, k2, -, -⟩ := h5 (x 0) q.1 (by omega)
    rw [k1, k2]
  · rw [if_neg (fun z => q z.2.1), if_neg (fun z => q z.2.1)]
/-- faces -/
theorem rfs1 {E : zyEm} {S : Int → Int} {x : Nat → Int} {r r2 : Int} (h : xPb0 E S) (hb : ∀ k, 0 ≤ k → k < sN (S 0) (S 1) → -1 ≤ xE E 4 k) (E2 : zyEm) (hc : xΨcfs1 x E E2 r) (hr : r2 = aFac S (x 0)) : r2 = r := by
  obtain ⟨h1, hF, h2, h3, h5⟩ := h
  unfold xΨcfs1 at hc
  rw [hc, hr]
  unfold aFac
  rw [h2.1]
  by_cases q : 0 ≤ x 0 ∧ x 0 < sN (S 0) (S 1)
  · rw [if_pos q, h3 (x 0) q.1 q.2]
    have hb := hb (x 0) q.1 q.2
    rw [h3 (x 0) q.1 q.2] at hb
    by_cases q2 : 0 ≤ pF (S 0) (S 1) (x 0)
    · rw [if_pos ⟨q.1, q.2, q2⟩]
    · rw [if_neg (fun z => q2 z.2.2)]
      omega
  · rw [if_neg q, if_neg (fun z => q ⟨z.1, z.2.1⟩)]
/-- program -/
theorem rpg1 {E E2 : zyEm} {S S2 : Int → Int} {x : Nat → Int} {r r2 : Int} (hx : x 1 < 2147483648) (h : xPb0 E S) (hf : ∀ a, (a = 2 ∨ a = 4 ∨ a = 12 ∨ a = 13) → ∀ k : Int, 0 ≤ k → xE E2 a k = xE E a k) (hc : xΨcpg1 x E E2 r) (hr : (vPrg S (x 0) (x 1) (x 2) → r2 = x 2 ∧ ∀ k, 0 ≤ k → S2 k = uS (uS S (8 + x 0) (x 1)) (40 + x 0) (x 2) k) ∧ (¬ vPrg S (x 0) (x 1) (x 2) → r2 = -1 ∧ ∀ k, S2 k = S k)) : r2 = r ∧ xPb0 E2 S2 := by
  have h0 := h
  obtain ⟨h1, hF, h2, h3, h5⟩ := h
  have hg := gN_b (r := S 0) (c := S 1) h1.1 h1.2
  have hv : xVp1 x E ↔ vPrg S (x 0) (x 1) (x 2) := by
    unfold xVp1 vPrg isG
    rw [h2.2]
    by_cases q : 0 ≤ x 0 ∧ x 0 < gN (S 0) (S 1)
    · obtain ⟨k1, k2, -, -⟩ := h5 (x 0) q.1 (by omega)
      rw [k1, k2]
      constructor
      · rintro ⟨a1, a2, a3, a4, a5⟩
        exact ⟨a1, a2, by omega, a4, a5⟩
      · rintro ⟨a1, a2, a3, a4, a5⟩
        have := xop9_ge (a := x 1) (b := x 2) a2 hx
        exact ⟨a1, a2, by omega, a4, a5⟩
    · exact ⟨fun z => absurd z.2.2.2.1 q, fun z => absurd z.2.2.2.1 q⟩
  by_cases v : vPrg S (x 0) (x 1) (x 2)
  · obtain ⟨c1, c2, c3⟩ := hc.1 (hv.mpr v)
    obtain ⟨d1, d2⟩ := hr.1 v
    obtain ⟨-, -, -, ⟨g0, g1⟩, -⟩ := v
    refine ⟨by omega, h1.imp ?_ ?_, ?_, ?_, fun s s0 s1 => ?_, fun g q0 q1 => ?_⟩
    · rw [d2 0 (by decide), uS_n (by omega), uS_n (by omega)]
      exact id
    · rw [d2 1 (by decide), uS_n (by omega), uS_n (by omega)]
      exact id
    · unfold sF at hF ⊢
      rw [d2 0 (by decide), d2 1 (by decide), uS_n (by omega), uS_n (by omega), uS_n (by omega), uS_n (by omega), pCnt_v (S2 := S) fun k k0 k1 => by rw [d2 k (by omega), uS_n (by omega), uS_n (by omega)]]
      exact hF
    · rw [d2 0 (by decide), d2 1 (by decide), uS_n (by omega), uS_n (by omega), uS_n (by omega), uS_n (by omega), hf 2 (by omega) 2 (by decide), hf 2 (by omega) 3 (by decide)]
      exact h2
    · rw [d2 0 (by decide), d2 1 (by decide), uS_n (by omega), uS_n (by omega), uS_n (by omega), uS_n (by omega)] at s1 ⊢
      rw [hf 4 (by omega) s s0]
      exact h3 s s0 s1
    · obtain ⟨k1, k2, k3, k4⟩ := h5 g q0 q1
      rw [hf 12 (by omega) g q0, hf 13 (by omega) g q0, c2 g q0, c3 g q0, d2 (8 + g) (by omega), d2 (40 + g) (by omega), d2 (72 + g) (by omega), d2 (104 + g) (by omega)]
      refine ⟨?_, ?_, ?_, ?_⟩
      · rw [uS_n (S := uS S _ _) (by omega)]
        by_cases e : g = x 0
        · rw [uS_e e, uS_e (by omega)]
        · rw [uS_n e, uS_n (by omega)]
          exact k1
      · by_cases e : g = x 0
        · rw [uS_e e, uS_e (by omega)]
        · rw [uS_n e, uS_n (by omega), uS_n (by omega)]
          exact k2
      · rw [uS_n (by omega), uS_n (by omega)]
        exact k3
      · rw [uS_n (by omega), uS_n (by omega)]
        exact k4
  · obtain ⟨c1, c2, c3⟩ := hc.2 (fun z => v (hv.mp z))
    obtain ⟨d1, d2⟩ := hr.2 v
    refine ⟨by omega, xPb0_k h0 (fun a ha k k0 => ?_) (fun k _ => d2 k)⟩
    rcases ha with rfl | rfl | rfl | rfl | rfl | rfl
    · exact hf _ (by omega) k k0
    · exact hf _ (by omega) k k0
    · exact c2 k
    · exact c3 k
    · exact hf _ (by omega) k k0
    · exact hf _ (by omega) k k0
/-- stick -/
theorem rst1 {E E2 : zyEm} {S S2 : Int → Int} {x : Nat → Int} {r r2 : Int} (h : xPb0 E S) (hf : ∀ a, (a = 2 ∨ a = 4 ∨ a = 10 ∨ a = 11 ∨ a = 13) → ∀ k : Int, 0 ≤ k → xE E2 a k = xE E a k) (hc : xΨcst1 x E E2 r) (hr : (vStk S (x 0) (x 1) → r2 = S (72 + x 0) ∧ ∀ k, 0 ≤ k → S2 k = uS S (72 + x 0) (x 1) k) ∧ (¬ vStk S (x 0) (x 1) → r2 = -1 ∧ ∀ k, S2 k = S k)) : r2 = r ∧ xPb0 E2 S2 := by
  have h0 := h
  obtain ⟨h1, hF, h2, h3, h5⟩ := h
  have hg := gN_b (r := S 0) (c := S 1) h1.1 h1.2
  have hv : xVs1 x E ↔ vStk S (x 0) (x 1) := by
    unfold xVs1 vStk isG
    rw [h2.2]
    by_cases q : 0 ≤ x 0 ∧ x 0 < gN (S 0) (S 1)
    · obtain ⟨-, -, k1, -⟩ := h5 (x 0) q.1 (by omega)
      rw [k1]
    · exact ⟨fun z => absurd z.2.1 q, fun z => absurd z.2.1 q⟩
  by_cases v : vStk S (x 0) (x 1)
  · obtain ⟨c1, c2⟩ := hc.1 (hv.mpr v)
    obtain ⟨d1, d2⟩ := hr.1 v
    obtain ⟨-, ⟨g0, g1⟩, -⟩ := v
    have kx := (h5 (x 0) g0 (by omega)).2.2.1
    refine ⟨by omega, h1.imp ?_ ?_, ?_, ?_, fun s s0 s1 => ?_, fun g q0 q1 => ?_⟩
    · rw [d2 0 (by decide), uS_n (by omega)]
      exact id
    · rw [d2 1 (by decide), uS_n (by omega)]
      exact id
    · unfold sF at hF ⊢
      rw [d2 0 (by decide), d2 1 (by decide), uS_n (by omega), uS_n (by omega), pCnt_v (S2 := S) fun k k0 k1 => by rw [d2 k (by omega), uS_n (by omega)]]
      exact hF
    · rw [d2 0 (by decide), d2 1 (by decide), uS_n (by omega), uS_n (by omega), hf 2 (by omega) 2 (by decide), hf 2 (by omega) 3 (by decide)]
      exact h2
    · rw [d2 0 (by decide), d2 1 (by decide), uS_n (by omega), uS_n (by omega)] at s1 ⊢
      rw [hf 4 (by omega) s s0]
      exact h3 s s0 s1
    · obtain ⟨k1, k2, k3, k4⟩ := h5 g q0 q1
      rw [hf 10 (by omega) g q0, hf 11 (by omega) g q0, hf 13 (by omega) g q0, c2 g q0, d2 (8 + g) (by omega), d2 (40 + g) (by omega), d2 (72 + g) (by omega), d2 (104 + g) (by omega)]
      refine ⟨?_, ?_, ?_, ?_⟩
      · rw [uS_n (by omega)]
        exact k1
      · rw [uS_n (by omega)]
        exact k2
      · by_cases e : g = x 0
        · rw [uS_e e, uS_e (by omega)]
        · rw [uS_n e, uS_n (by omega)]
          exact k3
      · rw [uS_n (by omega)]
        exact k4
  · obtain ⟨c1, c2⟩ := hc.2 (fun z => v (hv.mp z))
    obtain ⟨d1, d2⟩ := hr.2 v
    refine ⟨by omega, xPb0_k h0 (fun a ha k k0 => ?_) (fun k _ => d2 k)⟩
    rcases ha with rfl | rfl | rfl | rfl | rfl | rfl
    · exact hf _ (by omega) k k0
    · exact hf _ (by omega) k k0
    · exact hf _ (by omega) k k0
    · exact hf _ (by omega) k k0
    · exact c2 k
    · exact hf _ (by omega) k k0
/-- free -/
theorem rfr1 {E E2 : zyEm} {S S2 : Int → Int} {x : Nat → Int} {r r2 : Int} (h : xPb0 E S) (hb : ∀ g, 0 ≤ g → g < 31 → 0 ≤ xE E 13 g ∧ xE E 13 g ≤ 1) (hx : 0 ≤ x 1 ∧ x 1 ≤ 1) (hf : ∀ a, (a = 2 ∨ a = 4 ∨ a = 10 ∨ a = 11 ∨ a = 12) → ∀ k : Int, 0 ≤ k → xE E2 a k = xE E a k) (hc : xΨcfr1 x E E2 r) (hr : (vFr S (x 0) (x 1) → r2 = pCnt (uS S (104 + x 0) (x 1)) 104 (gN (S 0) (S 1)).toNat ∧ ∀ k, 0 ≤ k → S2 k = uS S (104 + x 0) (x 1) k) ∧ (¬ vFr S (x 0) (x 1) → r2 = -1 ∧ ∀ k, 0 ≤ k → S2 k = S k)) : r2 = r ∧ xPb0 E2 S2 := by
  have h0 := h
  obtain ⟨h1, hF, h2, h3, h5⟩ := h
  have hg := gN_b (r := S 0) (c := S 1) h1.1 h1.2
  have hcn : pCnt (fun k => xE E 13 (k - 104)) 104 (xE E 2 3).toNat = pCnt S 104 (gN (S 0) (S 1)).toNat := by
    rw [h2.2]
    refine pCnt_v fun k k0 k1 => ?_
    have := (h5 (k - 104) (by omega) (by omega)).2.2.2
    rw [show 104 + (k - 104) = k by omega] at this
    exact this
  have hv : xVf1 x E ↔ vFr S (x 0) (x 1) := by
    unfold xVf1 vFr isG
    unfold sF at hF
    rw [hcn, h2.2]
    by_cases q : 0 ≤ x 0 ∧ x 0 < gN (S 0) (S 1)
    · obtain ⟨-, -, -, k1⟩ := h5 (x 0) q.1 (by omega)
      have hb := hb (x 0) q.1 (by omega)
      rw [k1] at hb ⊢
      constructor
      · rintro ⟨a1, a2, a3⟩
        exact ⟨a1, by omega, by omega⟩
      · rintro ⟨a1, a2, a3⟩
        exact ⟨a1, by omega, by omega⟩
    · exact ⟨fun z => absurd z.1 q, fun z => absurd z.1 q⟩
  by_cases v : vFr S (x 0) (x 1)
  · obtain ⟨c1, c2⟩ := hc.1 (hv.mpr v)
    obtain ⟨d1, d2⟩ := hr.1 v
    obtain ⟨⟨g0, g1⟩, v2, v3⟩ := v
    have hcu : pCnt (fun k => uS (xE E 13) (x 0) (x 1) (k - 104)) 104 (xE E 2 3).toNat = pCnt (uS S (104 + x 0) (x 1)) 104 (gN (S 0) (S 1)).toNat := by
      rw [h2.2]
      refine pCnt_v fun k k0 k1 => ?_
      have := (h5 (k - 104) (by omega) (by omega)).2.2.2
      rw [show 104 + (k - 104) = k by omega] at this
      by_cases e : k = 104 + x 0
      · rw [uS_e e]
        exact uS_e (by omega)
      · rw [uS_n e, ← this]
        exact uS_n (by omega)
    refine ⟨by rw [d1, c1, hcu], h1.imp ?_ ?_, ?_, ?_, fun s s0 s1 => ?_, fun g q0 q1 => ?_⟩
    · rw [d2 0 (by decide), uS_n (by omega)]
      exact id
    · rw [d2 1 (by decide), uS_n (by omega)]
      exact id
    · unfold sF at hF ⊢
      rw [d2 0 (by decide), d2 1 (by decide), uS_n (by omega), uS_n (by omega), pCnt_v (S2 := uS S (104 + x 0) (x 1)) fun k k0 k1 => d2 k (by omega)]
      have := (pCnt_u (S := S) (o := 104) (g := x 0) (x := x 1) (m := (gN (S 0) (S 1)).toNat)).1
      by_cases e : x 1 = 1
      · rw [if_pos (by omega)] at this
        have : ¬ pCnt S 104 (gN (S 0) (S 1)).toNat = 6 := fun z => v3 ⟨e, z⟩
        omega
      · rw [if_neg (by omega)] at this
        omega
    · rw [d2 0 (by decide), d2 1 (by decide), uS_n (by omega), uS_n (by omega), hf 2 (by omega) 2 (by decide), hf 2 (by omega) 3 (by decide)]
      exact h2
    · rw [d2 0 (by decide), d2 1 (by decide), uS_n (by omega), uS_n (by omega)] at s1 ⊢
      rw [hf 4 (by omega) s s0]
      exact h3 s s0 s1
    · obtain ⟨k1, k2, k3, k4⟩ := h5 g q0 q1
      rw [hf 10 (by omega) g q0, hf 11 (by omega) g q0, hf 12 (by omega) g q0, c2 g q0, d2 (8 + g) (by omega), d2 (40 + g) (by omega), d2 (72 + g) (by omega), d2 (104 + g) (by omega)]
      refine ⟨?_, ?_, ?_, ?_⟩
      · rw [uS_n (by omega)]
        exact k1
      · rw [uS_n (by omega)]
        exact k2
      · rw [uS_n (by omega)]
        exact k3
      · by_cases e : g = x 0
        · rw [uS_e e, uS_e (by omega)]
        · rw [uS_n e, uS_n (by omega)]
          exact k4
  · obtain ⟨c1, c2⟩ := hc.2 (fun z => v (hv.mp z))
    obtain ⟨d1, d2⟩ := hr.2 v
    refine ⟨by omega, xPb0_k h0 (fun a ha k k0 => ?_) (fun k hk => d2 k (by omega))⟩
    rcases ha with rfl | rfl | rfl | rfl | rfl | rfl
    · exact hf _ (by omega) k k0
    · exact hf _ (by omega) k k0
    · exact hf _ (by omega) k k0
    · exact hf _ (by omega) k k0
    · exact hf _ (by omega) k k0
    · exact c2 k k0
/-- the plan at 18: sizes, what faces, programs, stuck, free -/
def xPb17 (E : zyEm) (S : Int → Int) : Prop := sRC S ∧ sF S ∧ (xE E 19 2 = sN (S 0) (S 1) ∧ xE E 19 3 = gN (S 0) (S 1)) ∧ (∀ s, 0 ≤ s → s < sN (S 0) (S 1) → xE E 21 s = pF (S 0) (S 1) s) ∧ ∀ g, 0 ≤ g → g < 31 → xE E 27 g = S (8 + g) ∧ xE E 28 g = S (40 + g) ∧ xE E 29 g = S (72 + g) ∧ xE E 30 g = S (104 + g)
theorem xPb17_ab {E : zyEm} {S S2 : Int → Int} (h : xAb17 E S) (hF : sF S) (hS : ∀ k, 0 ≤ k → k < 520 → S2 k = S k) : xPb17 E S2 := by
  obtain ⟨h1, h2, h3, h4, h5, h6⟩ := h
  have e0 := hS 0 (by decide) (by decide)
  have e1 := hS 1 (by decide) (by decide)
  have hg := gN_b (r := S 0) (c := S 1) (by omega) (by omega)
  refine ⟨⟨by omega, by omega⟩, ?_, ?_, fun s s0 s1 => ?_, fun g g0 g1 => ?_⟩
  · unfold sF at hF ⊢
    rw [e0, e1, pCnt_v (S2 := S) fun k k0 k1 => hS k (by omega) (by omega)]
    exact hF
  · rw [e0, e1]
    exact ⟨h2.2.2.1, h2.2.2.2⟩
  · rw [e0, e1] at s1 ⊢
    exact h3 s s0 s1
  · rw [hS (8 + g) (by omega) (by omega), hS (40 + g) (by omega) (by omega), hS (72 + g) (by omega) (by omega), hS (104 + g) (by omega) (by omega)]
    exact h5 g g0 g1
theorem xPb17_k {E E2 : zyEm} {S S2 : Int → Int} (h : xPb17 E S) (hE : ∀ a, (a = 19 ∨ a = 21 ∨ a = 27 ∨ a = 28 ∨ a = 29 ∨ a = 30) → ∀ k : Int, 0 ≤ k → xE E2 a k = xE E a k) (hS : ∀ k, (k = 0 ∨ k = 1 ∨ (8 ≤ k ∧ k ≤ 135)) → S2 k = S k) : xPb17 E2 S2 := by
  obtain ⟨h1, hF, h2, h3, h5⟩ := h
  have e0 := hS 0 (by omega)
  have e1 := hS 1 (by omega)
  have hg := gN_b (r := S 0) (c := S 1) h1.1 h1.2
  refine ⟨by unfold sRC; rw [e0, e1]; exact h1, ?_, ?_, fun s s0 s1 => ?_, fun g g0 g1 => ?_⟩
  · unfold sF at hF ⊢
    rw [e0, e1, pCnt_v (S2 := S) fun k k0 k1 => hS k (by omega)]
    exact hF
  · rw [e0, e1, hE 19 (by omega) 2 (by decide), hE 19 (by omega) 3 (by decide)]
    exact h2
  · rw [e0, e1] at s1 ⊢
    rw [hE 21 (by omega) s s0]
    exact h3 s s0 s1
  · rw [hS (8 + g) (by omega), hS (40 + g) (by omega), hS (72 + g) (by omega), hS (104 + g) (by omega), hE 27 (by omega) g g0, hE 28 (by omega) g g0, hE 29 (by omega) g g0, hE 30 (by omega) g g0]
    exact h5 g g0 g1
/-- bit: both answer alike -/
theorem rbt18 {E : zyEm} {S : Int → Int} {x : Nat → Int} {r r2 : Int} (h : xPb17 E S) (E2 : zyEm) (hc : xΨcbt18 x E E2 r) (hr : r2 = aBit S (x 0) (x 1)) : r2 = r := by
  obtain ⟨h1, hF, h2, h3, h5⟩ := h
  have hg := gN_b (r := S 0) (c := S 1) h1.1 h1.2
  unfold xΨcbt18 at hc
  rw [hc, hr]
  unfold aBit
  rw [h2.2]
  by_cases q : 0 ≤ x 0 ∧ x 0 < gN (S 0) (S 1)
  · obtain ⟨k1, k2, -, -⟩ := h5 (x 0) q.1 (by omega)
    rw [k1, k2]
  · rw [if_neg (fun z => q z.2.1), if_neg (fun z => q z.2.1)]
/-- faces -/
theorem rfs18 {E : zyEm} {S : Int → Int} {x : Nat → Int} {r r2 : Int} (h : xPb17 E S) (hb : ∀ k, 0 ≤ k → k < sN (S 0) (S 1) → -1 ≤ xE E 21 k) (E2 : zyEm) (hc : xΨcfs18 x E E2 r) (hr : r2 = aFac S (x 0)) : r2 = r := by
  obtain ⟨h1, hF, h2, h3, h5⟩ := h
  unfold xΨcfs18 at hc
  rw [hc, hr]
  unfold aFac
  rw [h2.1]
  by_cases q : 0 ≤ x 0 ∧ x 0 < sN (S 0) (S 1)
  · rw [if_pos q, h3 (x 0) q.1 q.2]
    have hb := hb (x 0) q.1 q.2
    rw [h3 (x 0) q.1 q.2] at hb
    by_cases q2 : 0 ≤ pF (S 0) (S 1) (x 0)
    · rw [if_pos ⟨q.1, q.2, q2⟩]
    · rw [if_neg (fun z => q2 z.2.2)]
      omega
  · rw [if_neg q, if_neg (fun z => q ⟨z.1, z.2.1⟩)]
/-- program -/
theorem rpg18 {E E2 : zyEm} {S S2 : Int → Int} {x : Nat → Int} {r r2 : Int} (hx : x 1 < 2147483648) (h : xPb17 E S) (hf : ∀ a, (a = 19 ∨ a = 21 ∨ a = 29 ∨ a = 30) → ∀ k : Int, 0 ≤ k → xE E2 a k = xE E a k) (hc : xΨcpg18 x E E2 r) (hr : (vPrg S (x 0) (x 1) (x 2) → r2 = x 2 ∧ ∀ k, 0 ≤ k → S2 k = uS (uS S (8 + x 0) (x 1)) (40 + x 0) (x 2) k) ∧ (¬ vPrg S (x 0) (x 1) (x 2) → r2 = -1 ∧ ∀ k, S2 k = S k)) : r2 = r ∧ xPb17 E2 S2 := by
  have h0 := h
  obtain ⟨h1, hF, h2, h3, h5⟩ := h
  have hg := gN_b (r := S 0) (c := S 1) h1.1 h1.2
  have hv : xVp18 x E ↔ vPrg S (x 0) (x 1) (x 2) := by
    unfold xVp18 vPrg isG
    rw [h2.2]
    by_cases q : 0 ≤ x 0 ∧ x 0 < gN (S 0) (S 1)
    · obtain ⟨k1, k2, -, -⟩ := h5 (x 0) q.1 (by omega)
      rw [k1, k2]
      constructor
      · rintro ⟨a1, a2, a3, a4, a5⟩
        exact ⟨a1, a2, by omega, a4, a5⟩
      · rintro ⟨a1, a2, a3, a4, a5⟩
        have := xop9_ge (a := x 1) (b := x 2) a2 hx
        exact ⟨a1, a2, by omega, a4, a5⟩
    · exact ⟨fun z => absurd z.2.2.2.1 q, fun z => absurd z.2.2.2.1 q⟩
  by_cases v : vPrg S (x 0) (x 1) (x 2)
  · obtain ⟨c1, c2, c3⟩ := hc.1 (hv.mpr v)
    obtain ⟨d1, d2⟩ := hr.1 v
    obtain ⟨-, -, -, ⟨g0, g1⟩, -⟩ := v
    refine ⟨by omega, h1.imp ?_ ?_, ?_, ?_, fun s s0 s1 => ?_, fun g q0 q1 => ?_⟩
    · rw [d2 0 (by decide), uS_n (by omega), uS_n (by omega)]
      exact id
    · rw [d2 1 (by decide), uS_n (by omega), uS_n (by omega)]
      exact id
    · unfold sF at hF ⊢
      rw [d2 0 (by decide), d2 1 (by decide), uS_n (by omega), uS_n (by omega), uS_n (by omega), uS_n (by omega), pCnt_v (S2 := S) fun k k0 k1 => by rw [d2 k (by omega), uS_n (by omega), uS_n (by omega)]]
      exact hF
    · rw [d2 0 (by decide), d2 1 (by decide), uS_n (by omega), uS_n (by omega), uS_n (by omega), uS_n (by omega), hf 19 (by omega) 2 (by decide), hf 19 (by omega) 3 (by decide)]
      exact h2
    · rw [d2 0 (by decide), d2 1 (by decide), uS_n (by omega), uS_n (by omega), uS_n (by omega), uS_n (by omega)] at s1 ⊢
      rw [hf 21 (by omega) s s0]
      exact h3 s s0 s1
    · obtain ⟨k1, k2, k3, k4⟩ := h5 g q0 q1
      rw [hf 29 (by omega) g q0, hf 30 (by omega) g q0, c2 g q0, c3 g q0, d2 (8 + g) (by omega), d2 (40 + g) (by omega), d2 (72 + g) (by omega), d2 (104 + g) (by omega)]
      refine ⟨?_, ?_, ?_, ?_⟩
      · rw [uS_n (S := uS S _ _) (by omega)]
        by_cases e : g = x 0
        · rw [uS_e e, uS_e (by omega)]
        · rw [uS_n e, uS_n (by omega)]
          exact k1
      · by_cases e : g = x 0
        · rw [uS_e e, uS_e (by omega)]
        · rw [uS_n e, uS_n (by omega), uS_n (by omega)]
          exact k2
      · rw [uS_n (by omega), uS_n (by omega)]
        exact k3
      · rw [uS_n (by omega), uS_n (by omega)]
        exact k4
  · obtain ⟨c1, c2, c3⟩ := hc.2 (fun z => v (hv.mp z))
    obtain ⟨d1, d2⟩ := hr.2 v
    refine ⟨by omega, xPb17_k h0 (fun a ha k k0 => ?_) (fun k _ => d2 k)⟩
    rcases ha with rfl | rfl | rfl | rfl | rfl | rfl
    · exact hf _ (by omega) k k0
    · exact hf _ (by omega) k k0
    · exact c2 k
    · exact c3 k
    · exact hf _ (by omega) k k0
    · exact hf _ (by omega) k k0
/-- stick -/
theorem rst18 {E E2 : zyEm} {S S2 : Int → Int} {x : Nat → Int} {r r2 : Int} (h : xPb17 E S) (hf : ∀ a, (a = 19 ∨ a = 21 ∨ a = 27 ∨ a = 28 ∨ a = 30) → ∀ k : Int, 0 ≤ k → xE E2 a k = xE E a k) (hc : xΨcst18 x E E2 r) (hr : (vStk S (x 0) (x 1) → r2 = S (72 + x 0) ∧ ∀ k, 0 ≤ k → S2 k = uS S (72 + x 0) (x 1) k) ∧ (¬ vStk S (x 0) (x 1) → r2 = -1 ∧ ∀ k, S2 k = S k)) : r2 = r ∧ xPb17 E2 S2 := by
  have h0 := h
  obtain ⟨h1, hF, h2, h3, h5⟩ := h
  have hg := gN_b (r := S 0) (c := S 1) h1.1 h1.2
  have hv : xVs18 x E ↔ vStk S (x 0) (x 1) := by
    unfold xVs18 vStk isG
    rw [h2.2]
    by_cases q : 0 ≤ x 0 ∧ x 0 < gN (S 0) (S 1)
    · obtain ⟨-, -, k1, -⟩ := h5 (x 0) q.1 (by omega)
      rw [k1]
    · exact ⟨fun z => absurd z.2.1 q, fun z => absurd z.2.1 q⟩
  by_cases v : vStk S (x 0) (x 1)
  · obtain ⟨c1, c2⟩ := hc.1 (hv.mpr v)
    obtain ⟨d1, d2⟩ := hr.1 v
    obtain ⟨-, ⟨g0, g1⟩, -⟩ := v
    have kx := (h5 (x 0) g0 (by omega)).2.2.1
    refine ⟨by omega, h1.imp ?_ ?_, ?_, ?_, fun s s0 s1 => ?_, fun g q0 q1 => ?_⟩
    · rw [d2 0 (by decide), uS_n (by omega)]
      exact id
    · rw [d2 1 (by decide), uS_n (by omega)]
      exact id
    · unfold sF at hF ⊢
      rw [d2 0 (by decide), d2 1 (by decide), uS_n (by omega), uS_n (by omega), pCnt_v (S2 := S) fun k k0 k1 => by rw [d2 k (by omega), uS_n (by omega)]]
      exact hF
    · rw [d2 0 (by decide), d2 1 (by decide), uS_n (by omega), uS_n (by omega), hf 19 (by omega) 2 (by decide), hf 19 (by omega) 3 (by decide)]
      exact h2
    · rw [d2 0 (by decide), d2 1 (by decide), uS_n (by omega), uS_n (by omega)] at s1 ⊢
      rw [hf 21 (by omega) s s0]
      exact h3 s s0 s1
    · obtain ⟨k1, k2, k3, k4⟩ := h5 g q0 q1
      rw [hf 27 (by omega) g q0, hf 28 (by omega) g q0, hf 30 (by omega) g q0, c2 g q0, d2 (8 + g) (by omega), d2 (40 + g) (by omega), d2 (72 + g) (by omega), d2 (104 + g) (by omega)]
      refine ⟨?_, ?_, ?_, ?_⟩
      · rw [uS_n (by omega)]
        exact k1
      · rw [uS_n (by omega)]
        exact k2
      · by_cases e : g = x 0
        · rw [uS_e e, uS_e (by omega)]
        · rw [uS_n e, uS_n (by omega)]
          exact k3
      · rw [uS_n (by omega)]
        exact k4
  · obtain ⟨c1, c2⟩ := hc.2 (fun z => v (hv.mp z))
    obtain ⟨d1, d2⟩ := hr.2 v
    refine ⟨by omega, xPb17_k h0 (fun a ha k k0 => ?_) (fun k _ => d2 k)⟩
    rcases ha with rfl | rfl | rfl | rfl | rfl | rfl
    · exact hf _ (by omega) k k0
    · exact hf _ (by omega) k k0
    · exact hf _ (by omega) k k0
    · exact hf _ (by omega) k k0
    · exact c2 k
    · exact hf _ (by omega) k k0
/-- free -/
theorem rfr18 {E E2 : zyEm} {S S2 : Int → Int} {x : Nat → Int} {r r2 : Int} (h : xPb17 E S) (hb : ∀ g, 0 ≤ g → g < 31 → 0 ≤ xE E 30 g ∧ xE E 30 g ≤ 1) (hx : 0 ≤ x 1 ∧ x 1 ≤ 1) (hf : ∀ a, (a = 19 ∨ a = 21 ∨ a = 27 ∨ a = 28 ∨ a = 29) → ∀ k : Int, 0 ≤ k → xE E2 a k = xE E a k) (hc : xΨcfr18 x E E2 r) (hr : (vFr S (x 0) (x 1) → r2 = pCnt (uS S (104 + x 0) (x 1)) 104 (gN (S 0) (S 1)).toNat ∧ ∀ k, 0 ≤ k → S2 k = uS S (104 + x 0) (x 1) k) ∧ (¬ vFr S (x 0) (x 1) → r2 = -1 ∧ ∀ k, 0 ≤ k → S2 k = S k)) : r2 = r ∧ xPb17 E2 S2 := by
  have h0 := h
  obtain ⟨h1, hF, h2, h3, h5⟩ := h
  have hg := gN_b (r := S 0) (c := S 1) h1.1 h1.2
  have hcn : pCnt (fun k => xE E 30 (k - 104)) 104 (xE E 19 3).toNat = pCnt S 104 (gN (S 0) (S 1)).toNat := by
    rw [h2.2]
    refine pCnt_v fun k k0 k1 => ?_
    have := (h5 (k - 104) (by omega) (by omega)).2.2.2
    rw [show 104 + (k - 104) = k by omega] at this
    exact this
  have hv : xVf18 x E ↔ vFr S (x 0) (x 1) := by
    unfold xVf18 vFr isG
    unfold sF at hF
    rw [hcn, h2.2]
    by_cases q : 0 ≤ x 0 ∧ x 0 < gN (S 0) (S 1)
    · obtain ⟨-, -, -, k1⟩ := h5 (x 0) q.1 (by omega)
      have hb := hb (x 0) q.1 (by omega)
      rw [k1] at hb ⊢
      constructor
      · rintro ⟨a1, a2, a3⟩
        exact ⟨a1, by omega, by omega⟩
      · rintro ⟨a1, a2, a3⟩
        exact ⟨a1, by omega, by omega⟩
    · exact ⟨fun z => absurd z.1 q, fun z => absurd z.1 q⟩
  by_cases v : vFr S (x 0) (x 1)
  · obtain ⟨c1, c2⟩ := hc.1 (hv.mpr v)
    obtain ⟨d1, d2⟩ := hr.1 v
    obtain ⟨⟨g0, g1⟩, v2, v3⟩ := v
    have hcu : pCnt (fun k => uS (xE E 30) (x 0) (x 1) (k - 104)) 104 (xE E 19 3).toNat = pCnt (uS S (104 + x 0) (x 1)) 104 (gN (S 0) (S 1)).toNat := by
      rw [h2.2]
      refine pCnt_v fun k k0 k1 => ?_
      have := (h5 (k - 104) (by omega) (by omega)).2.2.2
      rw [show 104 + (k - 104) = k by omega] at this
      by_cases e : k = 104 + x 0
      · rw [uS_e e]
        exact uS_e (by omega)
      · rw [uS_n e, ← this]
        exact uS_n (by omega)
    refine ⟨by rw [d1, c1, hcu], h1.imp ?_ ?_, ?_, ?_, fun s s0 s1 => ?_, fun g q0 q1 => ?_⟩
    · rw [d2 0 (by decide), uS_n (by omega)]
      exact id
    · rw [d2 1 (by decide), uS_n (by omega)]
      exact id
    · unfold sF at hF ⊢
      rw [d2 0 (by decide), d2 1 (by decide), uS_n (by omega), uS_n (by omega), pCnt_v (S2 := uS S (104 + x 0) (x 1)) fun k k0 k1 => d2 k (by omega)]
      have := (pCnt_u (S := S) (o := 104) (g := x 0) (x := x 1) (m := (gN (S 0) (S 1)).toNat)).1
      by_cases e : x 1 = 1
      · rw [if_pos (by omega)] at this
        have : ¬ pCnt S 104 (gN (S 0) (S 1)).toNat = 6 := fun z => v3 ⟨e, z⟩
        omega
      · rw [if_neg (by omega)] at this
        omega
    · rw [d2 0 (by decide), d2 1 (by decide), uS_n (by omega), uS_n (by omega), hf 19 (by omega) 2 (by decide), hf 19 (by omega) 3 (by decide)]
      exact h2
    · rw [d2 0 (by decide), d2 1 (by decide), uS_n (by omega), uS_n (by omega)] at s1 ⊢
      rw [hf 21 (by omega) s s0]
      exact h3 s s0 s1
    · obtain ⟨k1, k2, k3, k4⟩ := h5 g q0 q1
      rw [hf 27 (by omega) g q0, hf 28 (by omega) g q0, hf 29 (by omega) g q0, c2 g q0, d2 (8 + g) (by omega), d2 (40 + g) (by omega), d2 (72 + g) (by omega), d2 (104 + g) (by omega)]
      refine ⟨?_, ?_, ?_, ?_⟩
      · rw [uS_n (by omega)]
        exact k1
      · rw [uS_n (by omega)]
        exact k2
      · rw [uS_n (by omega)]
        exact k3
      · by_cases e : g = x 0
        · rw [uS_e e, uS_e (by omega)]
        · rw [uS_n e, uS_n (by omega)]
          exact k4
  · obtain ⟨c1, c2⟩ := hc.2 (fun z => v (hv.mp z))
    obtain ⟨d1, d2⟩ := hr.2 v
    refine ⟨by omega, xPb17_k h0 (fun a ha k k0 => ?_) (fun k hk => d2 k (by omega))⟩
    rcases ha with rfl | rfl | rfl | rfl | rfl | rfl
    · exact hf _ (by omega) k k0
    · exact hf _ (by omega) k k0
    · exact hf _ (by omega) k k0
    · exact hf _ (by omega) k k0
    · exact hf _ (by omega) k k0
    · exact c2 k k0
end
