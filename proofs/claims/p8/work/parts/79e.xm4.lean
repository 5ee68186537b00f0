/-! THE CLASS reads: isWord, for each word (printed by m3.py) -/
def xΦ0 (_ : Nat → Int) (_ : zyEm) : Prop := True
noncomputable def zxfwsi_ar0 : zyXp := (0, [], [0], [(24, 103079215105, 35, 56), (23, 0, 103079215105, 16)], [(103079215105, 2147483651, 2147483653)], [])
noncomputable def zxfwsi_ar1 : zyXp := (0, [], [0], [(24, 103079215105, 35, 56), (23, 0, 103079215105, 16)], [(103079215105, 2147483648, 2147483649)], [])
noncomputable def zxfwsi_ar2 : zyXp := (0, [], [0], [(24, 103079215105, 35, 56), (22, 0, 103079215105, 16), (24, 137438953473, 35, 48), (24, 171798691841, 35, 40), (2, 206158430209, 137438953473, 171798691841), (23, 0, 206158430209, 32)], [(103079215105, 2147483650, 2147483650), (137438953473, 2147483648, 2147484548), (171798691841, 2147483648, 2147484548), (206158430209, 2147483653, 2147484548)], [])
noncomputable def zxfwsi_ar3 : zyXp := (0, [], [0], [(24, 103079215105, 35, 56), (22, 0, 103079215105, 16), (24, 137438953473, 35, 48), (24, 171798691841, 35, 40), (2, 206158430209, 137438953473, 171798691841), (23, 0, 206158430209, 32)], [(103079215105, 2147483650, 2147483650), (137438953473, 2147483648, 2147484548), (171798691841, 2147483648, 2147484548), (206158430209, 2147482748, 2147483651)], [])
noncomputable def zxfwsi_ar4 : zyXp := (0, [], [0], [(24, 103079215105, 35, 56), (22, 0, 103079215105, 16), (24, 137438953473, 35, 48), (24, 171798691841, 35, 40), (2, 206158430209, 137438953473, 171798691841), (22, 0, 206158430209, 32), (24, 240518168577, 36, 171798691841), (23, 0, 240518168577, 920)], [(103079215105, 2147483650, 2147483650), (137438953473, 2147483648, 2147484548), (171798691841, 2147483648, 2147484544), (206158430209, 2147483652, 2147483652), (240518168577, 2147483764, 2147483775)], [])
noncomputable def zxfwsi_ar5 : zyXp := (0, [], [0], [(24, 103079215105, 35, 56), (22, 0, 103079215105, 16), (24, 137438953473, 35, 48), (24, 171798691841, 35, 40), (2, 206158430209, 137438953473, 171798691841), (22, 0, 206158430209, 32), (24, 240518168577, 36, 171798691841), (23, 0, 240518168577, 920)], [(103079215105, 2147483650, 2147483650), (137438953473, 2147483648, 2147484548), (171798691841, 2147483648, 2147484544), (206158430209, 2147483652, 2147483652), (240518168577, 2147483520, 2147483762)], [])
noncomputable def zxfwsi_ar6 : zyXp := (0, [], [0], [(24, 103079215105, 35, 56), (22, 0, 103079215105, 16), (24, 137438953473, 35, 48), (24, 171798691841, 35, 40), (2, 206158430209, 137438953473, 171798691841), (22, 0, 206158430209, 32), (24, 240518168577, 36, 171798691841), (22, 0, 240518168577, 920), (24, 274877906945, 36, 171798691849), (23, 0, 274877906945, 840)], [(103079215105, 2147483650, 2147483650), (137438953473, 2147483648, 2147484548), (171798691841, 2147483648, 2147484544), (206158430209, 2147483652, 2147483652), (240518168577, 2147483763, 2147483763), (274877906945, 2147483754, 2147483775)], [])
noncomputable def zxfwsi_ar7 : zyXp := (0, [], [0], [(24, 103079215105, 35, 56), (22, 0, 103079215105, 16), (24, 137438953473, 35, 48), (24, 171798691841, 35, 40), (2, 206158430209, 137438953473, 171798691841), (22, 0, 206158430209, 32), (24, 240518168577, 36, 171798691841), (22, 0, 240518168577, 920), (24, 274877906945, 36, 171798691849), (23, 0, 274877906945, 840)], [(103079215105, 2147483650, 2147483650), (137438953473, 2147483648, 2147484548), (171798691841, 2147483648, 2147484544), (206158430209, 2147483652, 2147483652), (240518168577, 2147483763, 2147483763), (274877906945, 2147483520, 2147483752)], [])
noncomputable def zxfwsi_ar8 : zyXp := (0, [], [0], [(24, 103079215105, 35, 56), (22, 0, 103079215105, 16), (24, 137438953473, 35, 48), (24, 171798691841, 35, 40), (2, 206158430209, 137438953473, 171798691841), (22, 0, 206158430209, 32), (24, 240518168577, 36, 171798691841), (22, 0, 240518168577, 920), (24, 274877906945, 36, 171798691849), (22, 0, 274877906945, 840), (24, 309237645313, 36, 171798691857), (23, 0, 309237645313, 976)], [(103079215105, 2147483650, 2147483650), (137438953473, 2147483648, 2147484548), (171798691841, 2147483648, 2147484544), (206158430209, 2147483652, 2147483652), (240518168577, 2147483763, 2147483763), (274877906945, 2147483753, 2147483753), (309237645313, 2147483771, 2147483775)], [])
noncomputable def zxfwsi_ar9 : zyXp := (0, [], [0], [(24, 103079215105, 35, 56), (22, 0, 103079215105, 16), (24, 137438953473, 35, 48), (24, 171798691841, 35, 40), (2, 206158430209, 137438953473, 171798691841), (22, 0, 206158430209, 32), (24, 240518168577, 36, 171798691841), (22, 0, 240518168577, 920), (24, 274877906945, 36, 171798691849), (22, 0, 274877906945, 840), (24, 309237645313, 36, 171798691857), (23, 0, 309237645313, 976)], [(103079215105, 2147483650, 2147483650), (137438953473, 2147483648, 2147484548), (171798691841, 2147483648, 2147484544), (206158430209, 2147483652, 2147483652), (240518168577, 2147483763, 2147483763), (274877906945, 2147483753, 2147483753), (309237645313, 2147483520, 2147483769)], [])
noncomputable def zxfwsi_ar10 : zyXp := (0, [], [0], [(24, 103079215105, 35, 56), (22, 0, 103079215105, 16), (24, 137438953473, 35, 48), (24, 171798691841, 35, 40), (2, 206158430209, 137438953473, 171798691841), (22, 0, 206158430209, 32), (24, 240518168577, 36, 171798691841), (22, 0, 240518168577, 920), (24, 274877906945, 36, 171798691849), (22, 0, 274877906945, 840), (24, 309237645313, 36, 171798691857), (22, 0, 309237645313, 976), (24, 343597383681, 36, 171798691865), (23, 0, 343597383681, 808)], [(103079215105, 2147483650, 2147483650), (137438953473, 2147483648, 2147484548), (171798691841, 2147483648, 2147484544), (206158430209, 2147483652, 2147483652), (240518168577, 2147483763, 2147483763), (274877906945, 2147483753, 2147483753), (309237645313, 2147483770, 2147483770), (343597383681, 2147483750, 2147483775)], [])
noncomputable def zxfwsi_ar11 : zyXp := (0, [], [0], [(24, 103079215105, 35, 56), (22, 0, 103079215105, 16), (24, 137438953473, 35, 48), (24, 171798691841, 35, 40), (2, 206158430209, 137438953473, 171798691841), (22, 0, 206158430209, 32), (24, 240518168577, 36, 171798691841), (22, 0, 240518168577, 920), (24, 274877906945, 36, 171798691849), (22, 0, 274877906945, 840), (24, 309237645313, 36, 171798691857), (22, 0, 309237645313, 976), (24, 343597383681, 36, 171798691865), (23, 0, 343597383681, 808)], [(103079215105, 2147483650, 2147483650), (137438953473, 2147483648, 2147484548), (171798691841, 2147483648, 2147484544), (206158430209, 2147483652, 2147483652), (240518168577, 2147483763, 2147483763), (274877906945, 2147483753, 2147483753), (309237645313, 2147483770, 2147483770), (343597383681, 2147483520, 2147483748)], [])
noncomputable def zxfwsi_ar12 : zyXp := (0, [], [8], [(24, 103079215105, 35, 56), (22, 0, 103079215105, 16), (24, 137438953473, 35, 48), (24, 171798691841, 35, 40), (2, 206158430209, 137438953473, 171798691841), (22, 0, 206158430209, 32), (24, 240518168577, 36, 171798691841), (22, 0, 240518168577, 920), (24, 274877906945, 36, 171798691849), (22, 0, 274877906945, 840), (24, 309237645313, 36, 171798691857), (22, 0, 309237645313, 976), (24, 343597383681, 36, 171798691865), (22, 0, 343597383681, 808)], [(103079215105, 2147483650, 2147483650), (137438953473, 2147483648, 2147484548), (171798691841, 2147483648, 2147484544), (206158430209, 2147483652, 2147483652), (240518168577, 2147483763, 2147483763), (274877906945, 2147483753, 2147483753), (309237645313, 2147483770, 2147483770), (343597383681, 2147483749, 2147483749)], [])
noncomputable def zpfwsi_a : zyPh := (0, [283, 800003, 13], [(0, 4294967295), (0, 4294967295), (0, 4294967295)], [], [])
noncomputable def zpfwsi (i : Nat) : zyPh := zpfwsi_a
noncomputable def zXfwsi (i : Nat) : List zyXp := []
noncomputable def zRfwsi (i : Nat) : List zyXp := [zxfwsi_ar0, zxfwsi_ar1, zxfwsi_ar2, zxfwsi_ar3, zxfwsi_ar4, zxfwsi_ar5, zxfwsi_ar6, zxfwsi_ar7, zxfwsi_ar8, zxfwsi_ar9, zxfwsi_ar10, zxfwsi_ar11, zxfwsi_ar12]
noncomputable def zFfwsi (i : Nat) : zyR := []
noncomputable def zSfwsi (i : Nat) : Nat := 0
def xΨfwsi (_ : Nat → Int) (E E2 : zyEm) (r : Int) : Prop := r = if sW (xE E 36) (xE E 35 7) (xE E 35 5) (xE E 35 6) [115, 105, 122, 101] = true then 1 else 0
noncomputable def fpfwsi : zyR := []
theorem zyfwsi_run : zyrS zymc zxi72 (72, 0, 0, 2, 0) 6 zpfwsi (fun _ _ => []) zFfwsi zSfwsi zXfwsi zRfwsi 1 = true := by decide +kernel
theorem zyfwsi_ck : zyAll (fun i => xsubR (zFfwsi i) fpfwsi && ((zXfwsi i).all xckX && (zRfwsi i).all (fun x => xckX x && xrtB true x))) 1 = true := by decide +kernel
def xIfwsi (i : Nat) (x0 : Nat → Int) (E0 : zyEm) (v : Nat → Int) (E : zyEm) : Prop := (E = E0)
def xMfwsi (i : Nat) (x0 : Nat → Int) (E0 : zyEm) (v : Nat → Int) (E : zyEm) : Nat := (0)
theorem xWsize {l : Launch} {en : zEn} {me : zMe} (hen : zG zxMeta 72 = some en) (hme : zG zMeth 72 = some me) : xFc l zymc en me 6 [35, 100000] 0 fpfwsi true xΦ0 xΨfwsi := by
  have een : zG zxMeta 72 = some (zxi72, 2, 3, 5, 72, 0, 0, 2, 0) := rfl
  obtain ⟨me1, hme1, hOK⟩ := zall hen
  rw [hme] at hme1
  cases hme1
  rw [een] at hen
  cases hen
  have hr := zyfwsi_run
  have hck := fun i hi => zyAll_iff zyfwsi_ck i hi
  simp only [Bool.and_eq_true] at hck
  intro B
  refine xcut (mi := zymc) (B := B) hOK rfl rfl (ι := Fin 1) (fun i => zpfwsi i.val) (fun _ _ => []) (fun i => zFfwsi i.val) (fun i => zSfwsi i.val) (fun i => zXfwsi i.val) (fun i => zRfwsi i.val) (fun i y2 ct en2 me2 h => by cases h) 200000 (fun i => zyAll_iff hr i.val i.isLt) (fun i => (hck i.val i.isLt).1) (fun i => (hck i.val i.isLt).2.1) (fun i => (hck i.val i.isLt).2.2) ⟨0, by decide⟩ ⟨rfl, rfl, rfl, rfl⟩ ⟨by decide, by decide⟩ (fun i x0 E0 v E => xIfwsi i.val x0 E0 v E) (fun i x0 E0 v E => xMfwsi i.val x0 E0 v E) ?_ ?_ ?_
  · intro x0 E hx0 hT hΦ
    have hΦ : xΦ0 x0 E := hΦ
    refine ⟨fun k p hp => ?_, ?_⟩
    · have hk : k < 3 := (List.getElem?_eq_some_iff.mp hp).1
      have hk : k = 0 ∨ k = 1 ∨ k = 2 := by omega
      rcases hk with rfl | rfl | rfl
      · have hp : some (0, 4294967295) = some p := hp
        cases hp
        show ((0 : Nat) : Int) ≤ 0 + 2147483648 ∧ 0 + 2147483648 ≤ ((4294967295 : Nat) : Int)
        omega
      · have hp : some (0, 4294967295) = some p := hp
        cases hp
        show ((0 : Nat) : Int) ≤ 0 + 2147483648 ∧ 0 + 2147483648 ≤ ((4294967295 : Nat) : Int)
        omega
      · have hp : some (0, 4294967295) = some p := hp
        cases hp
        show ((0 : Nat) : Int) ≤ x0 0 + 2147483648 ∧ x0 0 + 2147483648 ≤ ((4294967295 : Nat) : Int)
        have hx := hx0 0
        omega
    · show E = E
      rfl
  · intro x0 s Wg hRu hrx hT0 hΦ i v H hT hrv hInv hKc hFr0 hIH x hx ρ2 v2 N2 H2 locs lsB stA hAt hB hv hr2 hXs hag hfr hFr hT2
    rcases i with ⟨i, hi⟩
    have hi2 : i = 0 := by omega
    rcases hi2 with rfl
    · cases hx
  · intro x0 E0 E E2 hrx hT0 hΦ i v hT hrv hInv hKc hFr0 x hx v2 hr2 hXs hag hfr hFr hT2
    rcases i with ⟨i, hi⟩
    have hi2 : i = 0 := by omega
    rcases hi2 with rfl
    · have hx : x ∈ [zxfwsi_ar0, zxfwsi_ar1, zxfwsi_ar2, zxfwsi_ar3, zxfwsi_ar4, zxfwsi_ar5, zxfwsi_ar6, zxfwsi_ar7, zxfwsi_ar8, zxfwsi_ar9, zxfwsi_ar10, zxfwsi_ar11, zxfwsi_ar12] := hx
      have hag : ∀ k, k < 3 → v2 k = v k := hag
      have hfr : xFr [] _ _ := hfr
      rcases List.mem_cons.mp hx with ex | hx
      · subst ex
        obtain ⟨hF, hBd, hM⟩ := hXs
        have b0 : ((2147483651 : Nat) : Int) ≤ (v2 3) + 2147483648 ∧ (v2 3) + 2147483648 ≤ ((2147483653 : Nat) : Int) := xXb hBd 0 rfl
        have f0 : (0 : Int) ≤ 7 ∧ xE E 35 7 = (v2 3) := xXf hF 0 rfl
        have f1 : ¬ (v2 3) = 2 := xXf hF 1 rfl
        have hI : E = E0 := hInv
        show xΨfwsi x0 E0 E2 0
        subst hI
        unfold xΨfwsi
        rw [if_neg]
        intro h
        unfold sW at h
        simp only [tWb, Bool.and_true, Bool.and_eq_true, decide_eq_true_eq, List.length_cons, List.length_nil] at h
        omega
      · skip
        rcases List.mem_cons.mp hx with ex | hx
        · subst ex
          obtain ⟨hF, hBd, hM⟩ := hXs
          have b0 : ((2147483648 : Nat) : Int) ≤ (v2 3) + 2147483648 ∧ (v2 3) + 2147483648 ≤ ((2147483649 : Nat) : Int) := xXb hBd 0 rfl
          have f0 : (0 : Int) ≤ 7 ∧ xE E 35 7 = (v2 3) := xXf hF 0 rfl
          have f1 : ¬ (v2 3) = 2 := xXf hF 1 rfl
          have hI : E = E0 := hInv
          show xΨfwsi x0 E0 E2 0
          subst hI
          unfold xΨfwsi
          rw [if_neg]
          intro h
          unfold sW at h
          simp only [tWb, Bool.and_true, Bool.and_eq_true, decide_eq_true_eq, List.length_cons, List.length_nil] at h
          omega
        · skip
          rcases List.mem_cons.mp hx with ex | hx
          · subst ex
            obtain ⟨hF, hBd, hM⟩ := hXs
            have b0 : ((2147483650 : Nat) : Int) ≤ (v2 3) + 2147483648 ∧ (v2 3) + 2147483648 ≤ ((2147483650 : Nat) : Int) := xXb hBd 0 rfl
            have b1 : ((2147483648 : Nat) : Int) ≤ (v2 4) + 2147483648 ∧ (v2 4) + 2147483648 ≤ ((2147484548 : Nat) : Int) := xXb hBd 1 rfl
            have b2 : ((2147483648 : Nat) : Int) ≤ (v2 5) + 2147483648 ∧ (v2 5) + 2147483648 ≤ ((2147484548 : Nat) : Int) := xXb hBd 2 rfl
            have b3 : ((2147483653 : Nat) : Int) ≤ (v2 6) + 2147483648 ∧ (v2 6) + 2147483648 ≤ ((2147484548 : Nat) : Int) := xXb hBd 3 rfl
            have f0 : (0 : Int) ≤ 7 ∧ xE E 35 7 = (v2 3) := xXf hF 0 rfl
            have f1 : (v2 3) = 2 := xXf hF 1 rfl
            have f2 : (0 : Int) ≤ 6 ∧ xE E 35 6 = (v2 4) := xXf hF 2 rfl
            have f3 : (0 : Int) ≤ 5 ∧ xE E 35 5 = (v2 5) := xXf hF 3 rfl
            have f4 : -2147483648 ≤ (v2 4) - (v2 5) → (v2 4) - (v2 5) < 2147483648 → (v2 6) = (v2 4) - (v2 5) := xXf hF 4 rfl
            have f4 := f4 (by omega) (by omega)
            have f5 : ¬ (v2 6) = 4 := xXf hF 5 rfl
            have hI : E = E0 := hInv
            show xΨfwsi x0 E0 E2 0
            subst hI
            unfold xΨfwsi
            rw [if_neg]
            intro h
            unfold sW at h
            simp only [tWb, Bool.and_true, Bool.and_eq_true, decide_eq_true_eq, List.length_cons, List.length_nil] at h
            rw [show xE E 35 5 = (v2 5) by omega] at h
            simp only [Int.add_assoc, Int.reduceAdd] at h
            omega
          · skip
            rcases List.mem_cons.mp hx with ex | hx
            · subst ex
              obtain ⟨hF, hBd, hM⟩ := hXs
              have b0 : ((2147483650 : Nat) : Int) ≤ (v2 3) + 2147483648 ∧ (v2 3) + 2147483648 ≤ ((2147483650 : Nat) : Int) := xXb hBd 0 rfl
              have b1 : ((2147483648 : Nat) : Int) ≤ (v2 4) + 2147483648 ∧ (v2 4) + 2147483648 ≤ ((2147484548 : Nat) : Int) := xXb hBd 1 rfl
              have b2 : ((2147483648 : Nat) : Int) ≤ (v2 5) + 2147483648 ∧ (v2 5) + 2147483648 ≤ ((2147484548 : Nat) : Int) := xXb hBd 2 rfl
              have b3 : ((2147482748 : Nat) : Int) ≤ (v2 6) + 2147483648 ∧ (v2 6) + 2147483648 ≤ ((2147483651 : Nat) : Int) := xXb hBd 3 rfl
              have f0 : (0 : Int) ≤ 7 ∧ xE E 35 7 = (v2 3) := xXf hF 0 rfl
              have f1 : (v2 3) = 2 := xXf hF 1 rfl
              have f2 : (0 : Int) ≤ 6 ∧ xE E 35 6 = (v2 4) := xXf hF 2 rfl
              have f3 : (0 : Int) ≤ 5 ∧ xE E 35 5 = (v2 5) := xXf hF 3 rfl
              have f4 : -2147483648 ≤ (v2 4) - (v2 5) → (v2 4) - (v2 5) < 2147483648 → (v2 6) = (v2 4) - (v2 5) := xXf hF 4 rfl
              have f4 := f4 (by omega) (by omega)
              have f5 : ¬ (v2 6) = 4 := xXf hF 5 rfl
              have hI : E = E0 := hInv
              show xΨfwsi x0 E0 E2 0
              subst hI
              unfold xΨfwsi
              rw [if_neg]
              intro h
              unfold sW at h
              simp only [tWb, Bool.and_true, Bool.and_eq_true, decide_eq_true_eq, List.length_cons, List.length_nil] at h
              rw [show xE E 35 5 = (v2 5) by omega] at h
              simp only [Int.add_assoc, Int.reduceAdd] at h
              omega
            · skip
              rcases List.mem_cons.mp hx with ex | hx
              · subst ex
                obtain ⟨hF, hBd, hM⟩ := hXs
                have b0 : ((2147483650 : Nat) : Int) ≤ (v2 3) + 2147483648 ∧ (v2 3) + 2147483648 ≤ ((2147483650 : Nat) : Int) := xXb hBd 0 rfl
                have b1 : ((2147483648 : Nat) : Int) ≤ (v2 4) + 2147483648 ∧ (v2 4) + 2147483648 ≤ ((2147484548 : Nat) : Int) := xXb hBd 1 rfl
                have b2 : ((2147483648 : Nat) : Int) ≤ (v2 5) + 2147483648 ∧ (v2 5) + 2147483648 ≤ ((2147484544 : Nat) : Int) := xXb hBd 2 rfl
                have b3 : ((2147483652 : Nat) : Int) ≤ (v2 6) + 2147483648 ∧ (v2 6) + 2147483648 ≤ ((2147483652 : Nat) : Int) := xXb hBd 3 rfl
                have b4 : ((2147483764 : Nat) : Int) ≤ (v2 7) + 2147483648 ∧ (v2 7) + 2147483648 ≤ ((2147483775 : Nat) : Int) := xXb hBd 4 rfl
                have f0 : (0 : Int) ≤ 7 ∧ xE E 35 7 = (v2 3) := xXf hF 0 rfl
                have f1 : (v2 3) = 2 := xXf hF 1 rfl
                have f2 : (0 : Int) ≤ 6 ∧ xE E 35 6 = (v2 4) := xXf hF 2 rfl
                have f3 : (0 : Int) ≤ 5 ∧ xE E 35 5 = (v2 5) := xXf hF 3 rfl
                have f4 : -2147483648 ≤ (v2 4) - (v2 5) → (v2 4) - (v2 5) < 2147483648 → (v2 6) = (v2 4) - (v2 5) := xXf hF 4 rfl
                have f4 := f4 (by omega) (by omega)
                have f5 : (v2 6) = 4 := xXf hF 5 rfl
                have f6 : (0 : Int) ≤ (v2 5) ∧ xE E 36 (v2 5) = (v2 7) := xXf hF 6 rfl
                have f7 : ¬ (v2 7) = 115 := xXf hF 7 rfl
                have hI : E = E0 := hInv
                show xΨfwsi x0 E0 E2 0
                subst hI
                unfold xΨfwsi
                rw [if_neg]
                intro h
                unfold sW at h
                simp only [tWb, Bool.and_true, Bool.and_eq_true, decide_eq_true_eq, List.length_cons, List.length_nil] at h
                rw [show xE E 35 5 = (v2 5) by omega] at h
                simp only [Int.add_assoc, Int.reduceAdd] at h
                omega
              · skip
                rcases List.mem_cons.mp hx with ex | hx
                · subst ex
                  obtain ⟨hF, hBd, hM⟩ := hXs
                  have b0 : ((2147483650 : Nat) : Int) ≤ (v2 3) + 2147483648 ∧ (v2 3) + 2147483648 ≤ ((2147483650 : Nat) : Int) := xXb hBd 0 rfl
                  have b1 : ((2147483648 : Nat) : Int) ≤ (v2 4) + 2147483648 ∧ (v2 4) + 2147483648 ≤ ((2147484548 : Nat) : Int) := xXb hBd 1 rfl
                  have b2 : ((2147483648 : Nat) : Int) ≤ (v2 5) + 2147483648 ∧ (v2 5) + 2147483648 ≤ ((2147484544 : Nat) : Int) := xXb hBd 2 rfl
                  have b3 : ((2147483652 : Nat) : Int) ≤ (v2 6) + 2147483648 ∧ (v2 6) + 2147483648 ≤ ((2147483652 : Nat) : Int) := xXb hBd 3 rfl
                  have b4 : ((2147483520 : Nat) : Int) ≤ (v2 7) + 2147483648 ∧ (v2 7) + 2147483648 ≤ ((2147483762 : Nat) : Int) := xXb hBd 4 rfl
                  have f0 : (0 : Int) ≤ 7 ∧ xE E 35 7 = (v2 3) := xXf hF 0 rfl
                  have f1 : (v2 3) = 2 := xXf hF 1 rfl
                  have f2 : (0 : Int) ≤ 6 ∧ xE E 35 6 = (v2 4) := xXf hF 2 rfl
                  have f3 : (0 : Int) ≤ 5 ∧ xE E 35 5 = (v2 5) := xXf hF 3 rfl
                  have f4 : -2147483648 ≤ (v2 4) - (v2 5) → (v2 4) - (v2 5) < 2147483648 → (v2 6) = (v2 4) - (v2 5) := xXf hF 4 rfl
                  have f4 := f4 (by omega) (by omega)
                  have f5 : (v2 6) = 4 := xXf hF 5 rfl
                  have f6 : (0 : Int) ≤ (v2 5) ∧ xE E 36 (v2 5) = (v2 7) := xXf hF 6 rfl
                  have f7 : ¬ (v2 7) = 115 := xXf hF 7 rfl
                  have hI : E = E0 := hInv
                  show xΨfwsi x0 E0 E2 0
                  subst hI
                  unfold xΨfwsi
                  rw [if_neg]
                  intro h
                  unfold sW at h
                  simp only [tWb, Bool.and_true, Bool.and_eq_true, decide_eq_true_eq, List.length_cons, List.length_nil] at h
                  rw [show xE E 35 5 = (v2 5) by omega] at h
                  simp only [Int.add_assoc, Int.reduceAdd] at h
                  omega
                · skip
                  rcases List.mem_cons.mp hx with ex | hx
                  · subst ex
                    obtain ⟨hF, hBd, hM⟩ := hXs
                    have b0 : ((2147483650 : Nat) : Int) ≤ (v2 3) + 2147483648 ∧ (v2 3) + 2147483648 ≤ ((2147483650 : Nat) : Int) := xXb hBd 0 rfl
                    have b1 : ((2147483648 : Nat) : Int) ≤ (v2 4) + 2147483648 ∧ (v2 4) + 2147483648 ≤ ((2147484548 : Nat) : Int) := xXb hBd 1 rfl
                    have b2 : ((2147483648 : Nat) : Int) ≤ (v2 5) + 2147483648 ∧ (v2 5) + 2147483648 ≤ ((2147484544 : Nat) : Int) := xXb hBd 2 rfl
                    have b3 : ((2147483652 : Nat) : Int) ≤ (v2 6) + 2147483648 ∧ (v2 6) + 2147483648 ≤ ((2147483652 : Nat) : Int) := xXb hBd 3 rfl
                    have b4 : ((2147483763 : Nat) : Int) ≤ (v2 7) + 2147483648 ∧ (v2 7) + 2147483648 ≤ ((2147483763 : Nat) : Int) := xXb hBd 4 rfl
                    have b5 : ((2147483754 : Nat) : Int) ≤ (v2 8) + 2147483648 ∧ (v2 8) + 2147483648 ≤ ((2147483775 : Nat) : Int) := xXb hBd 5 rfl
                    have f0 : (0 : Int) ≤ 7 ∧ xE E 35 7 = (v2 3) := xXf hF 0 rfl
                    have f1 : (v2 3) = 2 := xXf hF 1 rfl
                    have f2 : (0 : Int) ≤ 6 ∧ xE E 35 6 = (v2 4) := xXf hF 2 rfl
                    have f3 : (0 : Int) ≤ 5 ∧ xE E 35 5 = (v2 5) := xXf hF 3 rfl
                    have f4 : -2147483648 ≤ (v2 4) - (v2 5) → (v2 4) - (v2 5) < 2147483648 → (v2 6) = (v2 4) - (v2 5) := xXf hF 4 rfl
                    have f4 := f4 (by omega) (by omega)
                    have f5 : (v2 6) = 4 := xXf hF 5 rfl
                    have f6 : (0 : Int) ≤ (v2 5) ∧ xE E 36 (v2 5) = (v2 7) := xXf hF 6 rfl
                    have f7 : (v2 7) = 115 := xXf hF 7 rfl
                    have f8 : (0 : Int) ≤ (v2 5 + 1) ∧ xE E 36 (v2 5 + 1) = (v2 8) := xXf hF 8 rfl
                    have f9 : ¬ (v2 8) = 105 := xXf hF 9 rfl
                    have hI : E = E0 := hInv
                    show xΨfwsi x0 E0 E2 0
                    subst hI
                    unfold xΨfwsi
                    rw [if_neg]
                    intro h
                    unfold sW at h
                    simp only [tWb, Bool.and_true, Bool.and_eq_true, decide_eq_true_eq, List.length_cons, List.length_nil] at h
                    rw [show xE E 35 5 = (v2 5) by omega] at h
                    simp only [Int.add_assoc, Int.reduceAdd] at h
                    omega
                  · skip
                    rcases List.mem_cons.mp hx with ex | hx
                    · subst ex
                      obtain ⟨hF, hBd, hM⟩ := hXs
                      have b0 : ((2147483650 : Nat) : Int) ≤ (v2 3) + 2147483648 ∧ (v2 3) + 2147483648 ≤ ((2147483650 : Nat) : Int) := xXb hBd 0 rfl
                      have b1 : ((2147483648 : Nat) : Int) ≤ (v2 4) + 2147483648 ∧ (v2 4) + 2147483648 ≤ ((2147484548 : Nat) : Int) := xXb hBd 1 rfl
                      have b2 : ((2147483648 : Nat) : Int) ≤ (v2 5) + 2147483648 ∧ (v2 5) + 2147483648 ≤ ((2147484544 : Nat) : Int) := xXb hBd 2 rfl
                      have b3 : ((2147483652 : Nat) : Int) ≤ (v2 6) + 2147483648 ∧ (v2 6) + 2147483648 ≤ ((2147483652 : Nat) : Int) := xXb hBd 3 rfl
                      have b4 : ((2147483763 : Nat) : Int) ≤ (v2 7) + 2147483648 ∧ (v2 7) + 2147483648 ≤ ((2147483763 : Nat) : Int) := xXb hBd 4 rfl
                      have b5 : ((2147483520 : Nat) : Int) ≤ (v2 8) + 2147483648 ∧ (v2 8) + 2147483648 ≤ ((2147483752 : Nat) : Int) := xXb hBd 5 rfl
                      have f0 : (0 : Int) ≤ 7 ∧ xE E 35 7 = (v2 3) := xXf hF 0 rfl
                      have f1 : (v2 3) = 2 := xXf hF 1 rfl
                      have f2 : (0 : Int) ≤ 6 ∧ xE E 35 6 = (v2 4) := xXf hF 2 rfl
                      have f3 : (0 : Int) ≤ 5 ∧ xE E 35 5 = (v2 5) := xXf hF 3 rfl
                      have f4 : -2147483648 ≤ (v2 4) - (v2 5) → (v2 4) - (v2 5) < 2147483648 → (v2 6) = (v2 4) - (v2 5) := xXf hF 4 rfl
                      have f4 := f4 (by omega) (by omega)
                      have f5 : (v2 6) = 4 := xXf hF 5 rfl
                      have f6 : (0 : Int) ≤ (v2 5) ∧ xE E 36 (v2 5) = (v2 7) := xXf hF 6 rfl
                      have f7 : (v2 7) = 115 := xXf hF 7 rfl
                      have f8 : (0 : Int) ≤ (v2 5 + 1) ∧ xE E 36 (v2 5 + 1) = (v2 8) := xXf hF 8 rfl
                      have f9 : ¬ (v2 8) = 105 := xXf hF 9 rfl
                      have hI : E = E0 := hInv
                      show xΨfwsi x0 E0 E2 0
                      subst hI
                      unfold xΨfwsi
                      rw [if_neg]
                      intro h
                      unfold sW at h
                      simp only [tWb, Bool.and_true, Bool.and_eq_true, decide_eq_true_eq, List.length_cons, List.length_nil] at h
                      rw [show xE E 35 5 = (v2 5) by omega] at h
                      simp only [Int.add_assoc, Int.reduceAdd] at h
                      omega
                    · skip
                      rcases List.mem_cons.mp hx with ex | hx
                      · subst ex
                        obtain ⟨hF, hBd, hM⟩ := hXs
                        have b0 : ((2147483650 : Nat) : Int) ≤ (v2 3) + 2147483648 ∧ (v2 3) + 2147483648 ≤ ((2147483650 : Nat) : Int) := xXb hBd 0 rfl
                        have b1 : ((2147483648 : Nat) : Int) ≤ (v2 4) + 2147483648 ∧ (v2 4) + 2147483648 ≤ ((2147484548 : Nat) : Int) := xXb hBd 1 rfl
                        have b2 : ((2147483648 : Nat) : Int) ≤ (v2 5) + 2147483648 ∧ (v2 5) + 2147483648 ≤ ((2147484544 : Nat) : Int) := xXb hBd 2 rfl
                        have b3 : ((2147483652 : Nat) : Int) ≤ (v2 6) + 2147483648 ∧ (v2 6) + 2147483648 ≤ ((2147483652 : Nat) : Int) := xXb hBd 3 rfl
                        have b4 : ((2147483763 : Nat) : Int) ≤ (v2 7) + 2147483648 ∧ (v2 7) + 2147483648 ≤ ((2147483763 : Nat) : Int) := xXb hBd 4 rfl
                        have b5 : ((2147483753 : Nat) : Int) ≤ (v2 8) + 2147483648 ∧ (v2 8) + 2147483648 ≤ ((2147483753 : Nat) : Int) := xXb hBd 5 rfl
                        have b6 : ((2147483771 : Nat) : Int) ≤ (v2 9) + 2147483648 ∧ (v2 9) + 2147483648 ≤ ((2147483775 : Nat) : Int) := xXb hBd 6 rfl
                        have f0 : (0 : Int) ≤ 7 ∧ xE E 35 7 = (v2 3) := xXf hF 0 rfl
                        have f1 : (v2 3) = 2 := xXf hF 1 rfl
                        have f2 : (0 : Int) ≤ 6 ∧ xE E 35 6 = (v2 4) := xXf hF 2 rfl
                        have f3 : (0 : Int) ≤ 5 ∧ xE E 35 5 = (v2 5) := xXf hF 3 rfl
                        have f4 : -2147483648 ≤ (v2 4) - (v2 5) → (v2 4) - (v2 5) < 2147483648 → (v2 6) = (v2 4) - (v2 5) := xXf hF 4 rfl
                        have f4 := f4 (by omega) (by omega)
                        have f5 : (v2 6) = 4 := xXf hF 5 rfl
                        have f6 : (0 : Int) ≤ (v2 5) ∧ xE E 36 (v2 5) = (v2 7) := xXf hF 6 rfl
                        have f7 : (v2 7) = 115 := xXf hF 7 rfl
                        have f8 : (0 : Int) ≤ (v2 5 + 1) ∧ xE E 36 (v2 5 + 1) = (v2 8) := xXf hF 8 rfl
                        have f9 : (v2 8) = 105 := xXf hF 9 rfl
                        have f10 : (0 : Int) ≤ (v2 5 + 2) ∧ xE E 36 (v2 5 + 2) = (v2 9) := xXf hF 10 rfl
                        have f11 : ¬ (v2 9) = 122 := xXf hF 11 rfl
                        have hI : E = E0 := hInv
                        show xΨfwsi x0 E0 E2 0
                        subst hI
                        unfold xΨfwsi
                        rw [if_neg]
                        intro h
                        unfold sW at h
                        simp only [tWb, Bool.and_true, Bool.and_eq_true, decide_eq_true_eq, List.length_cons, List.length_nil] at h
                        rw [show xE E 35 5 = (v2 5) by omega] at h
                        simp only [Int.add_assoc, Int.reduceAdd] at h
                        omega
                      · skip
                        rcases List.mem_cons.mp hx with ex | hx
                        · subst ex
                          obtain ⟨hF, hBd, hM⟩ := hXs
                          have b0 : ((2147483650 : Nat) : Int) ≤ (v2 3) + 2147483648 ∧ (v2 3) + 2147483648 ≤ ((2147483650 : Nat) : Int) := xXb hBd 0 rfl
                          have b1 : ((2147483648 : Nat) : Int) ≤ (v2 4) + 2147483648 ∧ (v2 4) + 2147483648 ≤ ((2147484548 : Nat) : Int) := xXb hBd 1 rfl
                          have b2 : ((2147483648 : Nat) : Int) ≤ (v2 5) + 2147483648 ∧ (v2 5) + 2147483648 ≤ ((2147484544 : Nat) : Int) := xXb hBd 2 rfl
                          have b3 : ((2147483652 : Nat) : Int) ≤ (v2 6) + 2147483648 ∧ (v2 6) + 2147483648 ≤ ((2147483652 : Nat) : Int) := xXb hBd 3 rfl
                          have b4 : ((2147483763 : Nat) : Int) ≤ (v2 7) + 2147483648 ∧ (v2 7) + 2147483648 ≤ ((2147483763 : Nat) : Int) := xXb hBd 4 rfl
                          have b5 : ((2147483753 : Nat) : Int) ≤ (v2 8) + 2147483648 ∧ (v2 8) + 2147483648 ≤ ((2147483753 : Nat) : Int) := xXb hBd 5 rfl
                          have b6 : ((2147483520 : Nat) : Int) ≤ (v2 9) + 2147483648 ∧ (v2 9) + 2147483648 ≤ ((2147483769 : Nat) : Int) := xXb hBd 6 rfl
                          have f0 : (0 : Int) ≤ 7 ∧ xE E 35 7 = (v2 3) := xXf hF 0 rfl
                          have f1 : (v2 3) = 2 := xXf hF 1 rfl
                          have f2 : (0 : Int) ≤ 6 ∧ xE E 35 6 = (v2 4) := xXf hF 2 rfl
                          have f3 : (0 : Int) ≤ 5 ∧ xE E 35 5 = (v2 5) := xXf hF 3 rfl
                          have f4 : -2147483648 ≤ (v2 4) - (v2 5) → (v2 4) - (v2 5) < 2147483648 → (v2 6) = (v2 4) - (v2 5) := xXf hF 4 rfl
                          have f4 := f4 (by omega) (by omega)
                          have f5 : (v2 6) = 4 := xXf hF 5 rfl
                          have f6 : (0 : Int) ≤ (v2 5) ∧ xE E 36 (v2 5) = (v2 7) := xXf hF 6 rfl
                          have f7 : (v2 7) = 115 := xXf hF 7 rfl
                          have f8 : (0 : Int) ≤ (v2 5 + 1) ∧ xE E 36 (v2 5 + 1) = (v2 8) := xXf hF 8 rfl
                          have f9 : (v2 8) = 105 := xXf hF 9 rfl
                          have f10 : (0 : Int) ≤ (v2 5 + 2) ∧ xE E 36 (v2 5 + 2) = (v2 9) := xXf hF 10 rfl
                          have f11 : ¬ (v2 9) = 122 := xXf hF 11 rfl
                          have hI : E = E0 := hInv
                          show xΨfwsi x0 E0 E2 0
                          subst hI
                          unfold xΨfwsi
                          rw [if_neg]
                          intro h
                          unfold sW at h
                          simp only [tWb, Bool.and_true, Bool.and_eq_true, decide_eq_true_eq, List.length_cons, List.length_nil] at h
                          rw [show xE E 35 5 = (v2 5) by omega] at h
                          simp only [Int.add_assoc, Int.reduceAdd] at h
                          omega
                        · skip
                          rcases List.mem_cons.mp hx with ex | hx
                          · subst ex
                            obtain ⟨hF, hBd, hM⟩ := hXs
                            have b0 : ((2147483650 : Nat) : Int) ≤ (v2 3) + 2147483648 ∧ (v2 3) + 2147483648 ≤ ((2147483650 : Nat) : Int) := xXb hBd 0 rfl
                            have b1 : ((2147483648 : Nat) : Int) ≤ (v2 4) + 2147483648 ∧ (v2 4) + 2147483648 ≤ ((2147484548 : Nat) : Int) := xXb hBd 1 rfl
                            have b2 : ((2147483648 : Nat) : Int) ≤ (v2 5) + 2147483648 ∧ (v2 5) + 2147483648 ≤ ((2147484544 : Nat) : Int) := xXb hBd 2 rfl
                            have b3 : ((2147483652 : Nat) : Int) ≤ (v2 6) + 2147483648 ∧ (v2 6) + 2147483648 ≤ ((2147483652 : Nat) : Int) := xXb hBd 3 rfl
                            have b4 : ((2147483763 : Nat) : Int) ≤ (v2 7) + 2147483648 ∧ (v2 7) + 2147483648 ≤ ((2147483763 : Nat) : Int) := xXb hBd 4 rfl
                            have b5 : ((2147483753 : Nat) : Int) ≤ (v2 8) + 2147483648 ∧ (v2 8) + 2147483648 ≤ ((2147483753 : Nat) : Int) := xXb hBd 5 rfl
                            have b6 : ((2147483770 : Nat) : Int) ≤ (v2 9) + 2147483648 ∧ (v2 9) + 2147483648 ≤ ((2147483770 : Nat) : Int) := xXb hBd 6 rfl
                            have b7 : ((2147483750 : Nat) : Int) ≤ (v2 10) + 2147483648 ∧ (v2 10) + 2147483648 ≤ ((2147483775 : Nat) : Int) := xXb hBd 7 rfl
                            have f0 : (0 : Int) ≤ 7 ∧ xE E 35 7 = (v2 3) := xXf hF 0 rfl
                            have f1 : (v2 3) = 2 := xXf hF 1 rfl
                            have f2 : (0 : Int) ≤ 6 ∧ xE E 35 6 = (v2 4) := xXf hF 2 rfl
                            have f3 : (0 : Int) ≤ 5 ∧ xE E 35 5 = (v2 5) := xXf hF 3 rfl
                            have f4 : -2147483648 ≤ (v2 4) - (v2 5) → (v2 4) - (v2 5) < 2147483648 → (v2 6) = (v2 4) - (v2 5) := xXf hF 4 rfl
                            have f4 := f4 (by omega) (by omega)
                            have f5 : (v2 6) = 4 := xXf hF 5 rfl
                            have f6 : (0 : Int) ≤ (v2 5) ∧ xE E 36 (v2 5) = (v2 7) := xXf hF 6 rfl
                            have f7 : (v2 7) = 115 := xXf hF 7 rfl
                            have f8 : (0 : Int) ≤ (v2 5 + 1) ∧ xE E 36 (v2 5 + 1) = (v2 8) := xXf hF 8 rfl
                            have f9 : (v2 8) = 105 := xXf hF 9 rfl
                            have f10 : (0 : Int) ≤ (v2 5 + 2) ∧ xE E 36 (v2 5 + 2) = (v2 9) := xXf hF 10 rfl
                            have f11 : (v2 9) = 122 := xXf hF 11 rfl
                            have f12 : (0 : Int) ≤ (v2 5 + 3) ∧ xE E 36 (v2 5 + 3) = (v2 10) := xXf hF 12 rfl
                            have f13 : ¬ (v2 10) = 101 := xXf hF 13 rfl
                            have hI : E = E0 := hInv
                            show xΨfwsi x0 E0 E2 0
                            subst hI
                            unfold xΨfwsi
                            rw [if_neg]
                            intro h
                            unfold sW at h
                            simp only [tWb, Bool.and_true, Bool.and_eq_true, decide_eq_true_eq, List.length_cons, List.length_nil] at h
                            rw [show xE E 35 5 = (v2 5) by omega] at h
                            simp only [Int.add_assoc, Int.reduceAdd] at h
                            omega
                          · skip
                            rcases List.mem_cons.mp hx with ex | hx
                            · subst ex
                              obtain ⟨hF, hBd, hM⟩ := hXs
                              have b0 : ((2147483650 : Nat) : Int) ≤ (v2 3) + 2147483648 ∧ (v2 3) + 2147483648 ≤ ((2147483650 : Nat) : Int) := xXb hBd 0 rfl
                              have b1 : ((2147483648 : Nat) : Int) ≤ (v2 4) + 2147483648 ∧ (v2 4) + 2147483648 ≤ ((2147484548 : Nat) : Int) := xXb hBd 1 rfl
                              have b2 : ((2147483648 : Nat) : Int) ≤ (v2 5) + 2147483648 ∧ (v2 5) + 2147483648 ≤ ((2147484544 : Nat) : Int) := xXb hBd 2 rfl
                              have b3 : ((2147483652 : Nat) : Int) ≤ (v2 6) + 2147483648 ∧ (v2 6) + 2147483648 ≤ ((2147483652 : Nat) : Int) := xXb hBd 3 rfl
                              have b4 : ((2147483763 : Nat) : Int) ≤ (v2 7) + 2147483648 ∧ (v2 7) + 2147483648 ≤ ((2147483763 : Nat) : Int) := xXb hBd 4 rfl
                              have b5 : ((2147483753 : Nat) : Int) ≤ (v2 8) + 2147483648 ∧ (v2 8) + 2147483648 ≤ ((2147483753 : Nat) : Int) := xXb hBd 5 rfl
                              have b6 : ((2147483770 : Nat) : Int) ≤ (v2 9) + 2147483648 ∧ (v2 9) + 2147483648 ≤ ((2147483770 : Nat) : Int) := xXb hBd 6 rfl
                              have b7 : ((2147483520 : Nat) : Int) ≤ (v2 10) + 2147483648 ∧ (v2 10) + 2147483648 ≤ ((2147483748 : Nat) : Int) := xXb hBd 7 rfl
                              have f0 : (0 : Int) ≤ 7 ∧ xE E 35 7 = (v2 3) := xXf hF 0 rfl
                              have f1 : (v2 3) = 2 := xXf hF 1 rfl
                              have f2 : (0 : Int) ≤ 6 ∧ xE E 35 6 = (v2 4) := xXf hF 2 rfl
                              have f3 : (0 : Int) ≤ 5 ∧ xE E 35 5 = (v2 5) := xXf hF 3 rfl
                              have f4 : -2147483648 ≤ (v2 4) - (v2 5) → (v2 4) - (v2 5) < 2147483648 → (v2 6) = (v2 4) - (v2 5) := xXf hF 4 rfl
                              have f4 := f4 (by omega) (by omega)
                              have f5 : (v2 6) = 4 := xXf hF 5 rfl
                              have f6 : (0 : Int) ≤ (v2 5) ∧ xE E 36 (v2 5) = (v2 7) := xXf hF 6 rfl
                              have f7 : (v2 7) = 115 := xXf hF 7 rfl
                              have f8 : (0 : Int) ≤ (v2 5 + 1) ∧ xE E 36 (v2 5 + 1) = (v2 8) := xXf hF 8 rfl
                              have f9 : (v2 8) = 105 := xXf hF 9 rfl
                              have f10 : (0 : Int) ≤ (v2 5 + 2) ∧ xE E 36 (v2 5 + 2) = (v2 9) := xXf hF 10 rfl
                              have f11 : (v2 9) = 122 := xXf hF 11 rfl
                              have f12 : (0 : Int) ≤ (v2 5 + 3) ∧ xE E 36 (v2 5 + 3) = (v2 10) := xXf hF 12 rfl
                              have f13 : ¬ (v2 10) = 101 := xXf hF 13 rfl
                              have hI : E = E0 := hInv
                              show xΨfwsi x0 E0 E2 0
                              subst hI
                              unfold xΨfwsi
                              rw [if_neg]
                              intro h
                              unfold sW at h
                              simp only [tWb, Bool.and_true, Bool.and_eq_true, decide_eq_true_eq, List.length_cons, List.length_nil] at h
                              rw [show xE E 35 5 = (v2 5) by omega] at h
                              simp only [Int.add_assoc, Int.reduceAdd] at h
                              omega
                            · skip
                              have ex := List.mem_singleton.mp hx
                              subst ex
                              obtain ⟨hF, hBd, hM⟩ := hXs
                              have b0 : ((2147483650 : Nat) : Int) ≤ (v2 3) + 2147483648 ∧ (v2 3) + 2147483648 ≤ ((2147483650 : Nat) : Int) := xXb hBd 0 rfl
                              have b1 : ((2147483648 : Nat) : Int) ≤ (v2 4) + 2147483648 ∧ (v2 4) + 2147483648 ≤ ((2147484548 : Nat) : Int) := xXb hBd 1 rfl
                              have b2 : ((2147483648 : Nat) : Int) ≤ (v2 5) + 2147483648 ∧ (v2 5) + 2147483648 ≤ ((2147484544 : Nat) : Int) := xXb hBd 2 rfl
                              have b3 : ((2147483652 : Nat) : Int) ≤ (v2 6) + 2147483648 ∧ (v2 6) + 2147483648 ≤ ((2147483652 : Nat) : Int) := xXb hBd 3 rfl
                              have b4 : ((2147483763 : Nat) : Int) ≤ (v2 7) + 2147483648 ∧ (v2 7) + 2147483648 ≤ ((2147483763 : Nat) : Int) := xXb hBd 4 rfl
                              have b5 : ((2147483753 : Nat) : Int) ≤ (v2 8) + 2147483648 ∧ (v2 8) + 2147483648 ≤ ((2147483753 : Nat) : Int) := xXb hBd 5 rfl
                              have b6 : ((2147483770 : Nat) : Int) ≤ (v2 9) + 2147483648 ∧ (v2 9) + 2147483648 ≤ ((2147483770 : Nat) : Int) := xXb hBd 6 rfl
                              have b7 : ((2147483749 : Nat) : Int) ≤ (v2 10) + 2147483648 ∧ (v2 10) + 2147483648 ≤ ((2147483749 : Nat) : Int) := xXb hBd 7 rfl
                              have f0 : (0 : Int) ≤ 7 ∧ xE E 35 7 = (v2 3) := xXf hF 0 rfl
                              have f1 : (v2 3) = 2 := xXf hF 1 rfl
                              have f2 : (0 : Int) ≤ 6 ∧ xE E 35 6 = (v2 4) := xXf hF 2 rfl
                              have f3 : (0 : Int) ≤ 5 ∧ xE E 35 5 = (v2 5) := xXf hF 3 rfl
                              have f4 : -2147483648 ≤ (v2 4) - (v2 5) → (v2 4) - (v2 5) < 2147483648 → (v2 6) = (v2 4) - (v2 5) := xXf hF 4 rfl
                              have f4 := f4 (by omega) (by omega)
                              have f5 : (v2 6) = 4 := xXf hF 5 rfl
                              have f6 : (0 : Int) ≤ (v2 5) ∧ xE E 36 (v2 5) = (v2 7) := xXf hF 6 rfl
                              have f7 : (v2 7) = 115 := xXf hF 7 rfl
                              have f8 : (0 : Int) ≤ (v2 5 + 1) ∧ xE E 36 (v2 5 + 1) = (v2 8) := xXf hF 8 rfl
                              have f9 : (v2 8) = 105 := xXf hF 9 rfl
                              have f10 : (0 : Int) ≤ (v2 5 + 2) ∧ xE E 36 (v2 5 + 2) = (v2 9) := xXf hF 10 rfl
                              have f11 : (v2 9) = 122 := xXf hF 11 rfl
                              have f12 : (0 : Int) ≤ (v2 5 + 3) ∧ xE E 36 (v2 5 + 3) = (v2 10) := xXf hF 12 rfl
                              have f13 : (v2 10) = 101 := xXf hF 13 rfl
                              have hI : E = E0 := hInv
                              show xΨfwsi x0 E0 E2 1
                              subst hI
                              unfold xΨfwsi
                              rw [if_pos]
                              unfold sW
                              simp only [tWb, Bool.and_true, Bool.and_eq_true, decide_eq_true_eq, List.length_cons, List.length_nil]
                              rw [show xE E 35 5 = (v2 5) by omega]
                              simp only [Int.add_assoc, Int.reduceAdd]
                              refine ⟨by omega, by omega, ?_⟩
                              refine ⟨by omega, by omega, by omega, by omega⟩
noncomputable def zxfwsw_ar0 : zyXp := (0, [], [0], [(24, 103079215105, 35, 56), (23, 0, 103079215105, 16)], [(103079215105, 2147483651, 2147483653)], [])
noncomputable def zxfwsw_ar1 : zyXp := (0, [], [0], [(24, 103079215105, 35, 56), (23, 0, 103079215105, 16)], [(103079215105, 2147483648, 2147483649)], [])
noncomputable def zxfwsw_ar2 : zyXp := (0, [], [0], [(24, 103079215105, 35, 56), (22, 0, 103079215105, 16), (24, 137438953473, 35, 48), (24, 171798691841, 35, 40), (2, 206158430209, 137438953473, 171798691841), (23, 0, 206158430209, 48)], [(103079215105, 2147483650, 2147483650), (137438953473, 2147483648, 2147484548), (171798691841, 2147483648, 2147484548), (206158430209, 2147483655, 2147484548)], [])
noncomputable def zxfwsw_ar3 : zyXp := (0, [], [0], [(24, 103079215105, 35, 56), (22, 0, 103079215105, 16), (24, 137438953473, 35, 48), (24, 171798691841, 35, 40), (2, 206158430209, 137438953473, 171798691841), (23, 0, 206158430209, 48)], [(103079215105, 2147483650, 2147483650), (137438953473, 2147483648, 2147484548), (171798691841, 2147483648, 2147484548), (206158430209, 2147482748, 2147483653)], [])
noncomputable def zxfwsw_ar4 : zyXp := (0, [], [0], [(24, 103079215105, 35, 56), (22, 0, 103079215105, 16), (24, 137438953473, 35, 48), (24, 171798691841, 35, 40), (2, 206158430209, 137438953473, 171798691841), (22, 0, 206158430209, 48), (24, 240518168577, 36, 171798691841), (23, 0, 240518168577, 920)], [(103079215105, 2147483650, 2147483650), (137438953473, 2147483648, 2147484548), (171798691841, 2147483648, 2147484542), (206158430209, 2147483654, 2147483654), (240518168577, 2147483764, 2147483775)], [])
noncomputable def zxfwsw_ar5 : zyXp := (0, [], [0], [(24, 103079215105, 35, 56), (22, 0, 103079215105, 16), (24, 137438953473, 35, 48), (24, 171798691841, 35, 40), (2, 206158430209, 137438953473, 171798691841), (22, 0, 206158430209, 48), (24, 240518168577, 36, 171798691841), (23, 0, 240518168577, 920)], [(103079215105, 2147483650, 2147483650), (137438953473, 2147483648, 2147484548), (171798691841, 2147483648, 2147484542), (206158430209, 2147483654, 2147483654), (240518168577, 2147483520, 2147483762)], [])
noncomputable def zxfwsw_ar6 : zyXp := (0, [], [0], [(24, 103079215105, 35, 56), (22, 0, 103079215105, 16), (24, 137438953473, 35, 48), (24, 171798691841, 35, 40), (2, 206158430209, 137438953473, 171798691841), (22, 0, 206158430209, 48), (24, 240518168577, 36, 171798691841), (22, 0, 240518168577, 920), (24, 274877906945, 36, 171798691849), (23, 0, 274877906945, 952)], [(103079215105, 2147483650, 2147483650), (137438953473, 2147483648, 2147484548), (171798691841, 2147483648, 2147484542), (206158430209, 2147483654, 2147483654), (240518168577, 2147483763, 2147483763), (274877906945, 2147483768, 2147483775)], [])
noncomputable def zxfwsw_ar7 : zyXp := (0, [], [0], [(24, 103079215105, 35, 56), (22, 0, 103079215105, 16), (24, 137438953473, 35, 48), (24, 171798691841, 35, 40), (2, 206158430209, 137438953473, 171798691841), (22, 0, 206158430209, 48), (24, 240518168577, 36, 171798691841), (22, 0, 240518168577, 920), (24, 274877906945, 36, 171798691849), (23, 0, 274877906945, 952)], [(103079215105, 2147483650, 2147483650), (137438953473, 2147483648, 2147484548), (171798691841, 2147483648, 2147484542), (206158430209, 2147483654, 2147483654), (240518168577, 2147483763, 2147483763), (274877906945, 2147483520, 2147483766)], [])
noncomputable def zxfwsw_ar8 : zyXp := (0, [], [0], [(24, 103079215105, 35, 56), (22, 0, 103079215105, 16), (24, 137438953473, 35, 48), (24, 171798691841, 35, 40), (2, 206158430209, 137438953473, 171798691841), (22, 0, 206158430209, 48), (24, 240518168577, 36, 171798691841), (22, 0, 240518168577, 920), (24, 274877906945, 36, 171798691849), (22, 0, 274877906945, 952), (24, 309237645313, 36, 171798691857), (23, 0, 309237645313, 840)], [(103079215105, 2147483650, 2147483650), (137438953473, 2147483648, 2147484548), (171798691841, 2147483648, 2147484542), (206158430209, 2147483654, 2147483654), (240518168577, 2147483763, 2147483763), (274877906945, 2147483767, 2147483767), (309237645313, 2147483754, 2147483775)], [])
noncomputable def zxfwsw_ar9 : zyXp := (0, [], [0], [(24, 103079215105, 35, 56), (22, 0, 103079215105, 16), (24, 137438953473, 35, 48), (24, 171798691841, 35, 40), (2, 206158430209, 137438953473, 171798691841), (22, 0, 206158430209, 48), (24, 240518168577, 36, 171798691841), (22, 0, 240518168577, 920), (24, 274877906945, 36, 171798691849), (22, 0, 274877906945, 952), (24, 309237645313, 36, 171798691857), (23, 0, 309237645313, 840)], [(103079215105, 2147483650, 2147483650), (137438953473, 2147483648, 2147484548), (171798691841, 2147483648, 2147484542), (206158430209, 2147483654, 2147483654), (240518168577, 2147483763, 2147483763), (274877906945, 2147483767, 2147483767), (309237645313, 2147483520, 2147483752)], [])
noncomputable def zxfwsw_ar10 : zyXp := (0, [], [0], [(24, 103079215105, 35, 56), (22, 0, 103079215105, 16), (24, 137438953473, 35, 48), (24, 171798691841, 35, 40), (2, 206158430209, 137438953473, 171798691841), (22, 0, 206158430209, 48), (24, 240518168577, 36, 171798691841), (22, 0, 240518168577, 920), (24, 274877906945, 36, 171798691849), (22, 0, 274877906945, 952), (24, 309237645313, 36, 171798691857), (22, 0, 309237645313, 840), (24, 343597383681, 36, 171798691865), (23, 0, 343597383681, 928)], [(103079215105, 2147483650, 2147483650), (137438953473, 2147483648, 2147484548), (171798691841, 2147483648, 2147484542), (206158430209, 2147483654, 2147483654), (240518168577, 2147483763, 2147483763), (274877906945, 2147483767, 2147483767), (309237645313, 2147483753, 2147483753), (343597383681, 2147483765, 2147483775)], [])
noncomputable def zxfwsw_ar11 : zyXp := (0, [], [0], [(24, 103079215105, 35, 56), (22, 0, 103079215105, 16), (24, 137438953473, 35, 48), (24, 171798691841, 35, 40), (2, 206158430209, 137438953473, 171798691841), (22, 0, 206158430209, 48), (24, 240518168577, 36, 171798691841), (22, 0, 240518168577, 920), (24, 274877906945, 36, 171798691849), (22, 0, 274877906945, 952), (24, 309237645313, 36, 171798691857), (22, 0, 309237645313, 840), (24, 343597383681, 36, 171798691865), (23, 0, 343597383681, 928)], [(103079215105, 2147483650, 2147483650), (137438953473, 2147483648, 2147484548), (171798691841, 2147483648, 2147484542), (206158430209, 2147483654, 2147483654), (240518168577, 2147483763, 2147483763), (274877906945, 2147483767, 2147483767), (309237645313, 2147483753, 2147483753), (343597383681, 2147483520, 2147483763)], [])
noncomputable def zxfwsw_ar12 : zyXp := (0, [], [0], [(24, 103079215105, 35, 56), (22, 0, 103079215105, 16), (24, 137438953473, 35, 48), (24, 171798691841, 35, 40), (2, 206158430209, 137438953473, 171798691841), (22, 0, 206158430209, 48), (24, 240518168577, 36, 171798691841), (22, 0, 240518168577, 920), (24, 274877906945, 36, 171798691849), (22, 0, 274877906945, 952), (24, 309237645313, 36, 171798691857), (22, 0, 309237645313, 840), (24, 343597383681, 36, 171798691865), (22, 0, 343597383681, 928), (24, 377957122049, 36, 171798691873), (23, 0, 377957122049, 792)], [(103079215105, 2147483650, 2147483650), (137438953473, 2147483648, 2147484548), (171798691841, 2147483648, 2147484542), (206158430209, 2147483654, 2147483654), (240518168577, 2147483763, 2147483763), (274877906945, 2147483767, 2147483767), (309237645313, 2147483753, 2147483753), (343597383681, 2147483764, 2147483764), (377957122049, 2147483748, 2147483775)], [])
noncomputable def zxfwsw_ar13 : zyXp := (0, [], [0], [(24, 103079215105, 35, 56), (22, 0, 103079215105, 16), (24, 137438953473, 35, 48), (24, 171798691841, 35, 40), (2, 206158430209, 137438953473, 171798691841), (22, 0, 206158430209, 48), (24, 240518168577, 36, 171798691841), (22, 0, 240518168577, 920), (24, 274877906945, 36, 171798691849), (22, 0, 274877906945, 952), (24, 309237645313, 36, 171798691857), (22, 0, 309237645313, 840), (24, 343597383681, 36, 171798691865), (22, 0, 343597383681, 928), (24, 377957122049, 36, 171798691873), (23, 0, 377957122049, 792)], [(103079215105, 2147483650, 2147483650), (137438953473, 2147483648, 2147484548), (171798691841, 2147483648, 2147484542), (206158430209, 2147483654, 2147483654), (240518168577, 2147483763, 2147483763), (274877906945, 2147483767, 2147483767), (309237645313, 2147483753, 2147483753), (343597383681, 2147483764, 2147483764), (377957122049, 2147483520, 2147483746)], [])
noncomputable def zxfwsw_ar14 : zyXp := (0, [], [0], [(24, 103079215105, 35, 56), (22, 0, 103079215105, 16), (24, 137438953473, 35, 48), (24, 171798691841, 35, 40), (2, 206158430209, 137438953473, 171798691841), (22, 0, 206158430209, 48), (24, 240518168577, 36, 171798691841), (22, 0, 240518168577, 920), (24, 274877906945, 36, 171798691849), (22, 0, 274877906945, 952), (24, 309237645313, 36, 171798691857), (22, 0, 309237645313, 840), (24, 343597383681, 36, 171798691865), (22, 0, 343597383681, 928), (24, 377957122049, 36, 171798691873), (22, 0, 377957122049, 792), (24, 412316860417, 36, 171798691881), (23, 0, 412316860417, 832)], [(103079215105, 2147483650, 2147483650), (137438953473, 2147483648, 2147484548), (171798691841, 2147483648, 2147484542), (206158430209, 2147483654, 2147483654), (240518168577, 2147483763, 2147483763), (274877906945, 2147483767, 2147483767), (309237645313, 2147483753, 2147483753), (343597383681, 2147483764, 2147483764), (377957122049, 2147483747, 2147483747), (412316860417, 2147483753, 2147483775)], [])
noncomputable def zxfwsw_ar15 : zyXp := (0, [], [0], [(24, 103079215105, 35, 56), (22, 0, 103079215105, 16), (24, 137438953473, 35, 48), (24, 171798691841, 35, 40), (2, 206158430209, 137438953473, 171798691841), (22, 0, 206158430209, 48), (24, 240518168577, 36, 171798691841), (22, 0, 240518168577, 920), (24, 274877906945, 36, 171798691849), (22, 0, 274877906945, 952), (24, 309237645313, 36, 171798691857), (22, 0, 309237645313, 840), (24, 343597383681, 36, 171798691865), (22, 0, 343597383681, 928), (24, 377957122049, 36, 171798691873), (22, 0, 377957122049, 792), (24, 412316860417, 36, 171798691881), (23, 0, 412316860417, 832)], [(103079215105, 2147483650, 2147483650), (137438953473, 2147483648, 2147484548), (171798691841, 2147483648, 2147484542), (206158430209, 2147483654, 2147483654), (240518168577, 2147483763, 2147483763), (274877906945, 2147483767, 2147483767), (309237645313, 2147483753, 2147483753), (343597383681, 2147483764, 2147483764), (377957122049, 2147483747, 2147483747), (412316860417, 2147483520, 2147483751)], [])
noncomputable def zxfwsw_ar16 : zyXp := (0, [], [8], [(24, 103079215105, 35, 56), (22, 0, 103079215105, 16), (24, 137438953473, 35, 48), (24, 171798691841, 35, 40), (2, 206158430209, 137438953473, 171798691841), (22, 0, 206158430209, 48), (24, 240518168577, 36, 171798691841), (22, 0, 240518168577, 920), (24, 274877906945, 36, 171798691849), (22, 0, 274877906945, 952), (24, 309237645313, 36, 171798691857), (22, 0, 309237645313, 840), (24, 343597383681, 36, 171798691865), (22, 0, 343597383681, 928), (24, 377957122049, 36, 171798691873), (22, 0, 377957122049, 792), (24, 412316860417, 36, 171798691881), (22, 0, 412316860417, 832)], [(103079215105, 2147483650, 2147483650), (137438953473, 2147483648, 2147484548), (171798691841, 2147483648, 2147484542), (206158430209, 2147483654, 2147483654), (240518168577, 2147483763, 2147483763), (274877906945, 2147483767, 2147483767), (309237645313, 2147483753, 2147483753), (343597383681, 2147483764, 2147483764), (377957122049, 2147483747, 2147483747), (412316860417, 2147483752, 2147483752)], [])
noncomputable def zpfwsw_a : zyPh := (0, [283, 800011, 13], [(0, 4294967295), (0, 4294967295), (0, 4294967295)], [], [])
noncomputable def zpfwsw (i : Nat) : zyPh := zpfwsw_a
noncomputable def zXfwsw (i : Nat) : List zyXp := []
noncomputable def zRfwsw (i : Nat) : List zyXp := [zxfwsw_ar0, zxfwsw_ar1, zxfwsw_ar2, zxfwsw_ar3, zxfwsw_ar4, zxfwsw_ar5, zxfwsw_ar6, zxfwsw_ar7, zxfwsw_ar8, zxfwsw_ar9, zxfwsw_ar10, zxfwsw_ar11, zxfwsw_ar12, zxfwsw_ar13, zxfwsw_ar14, zxfwsw_ar15, zxfwsw_ar16]
noncomputable def zFfwsw (i : Nat) : zyR := []
noncomputable def zSfwsw (i : Nat) : Nat := 0
def xΨfwsw (_ : Nat → Int) (E E2 : zyEm) (r : Int) : Prop := r = if sW (xE E 36) (xE E 35 7) (xE E 35 5) (xE E 35 6) [115, 119, 105, 116, 99, 104] = true then 1 else 0
noncomputable def fpfwsw : zyR := []
theorem zyfwsw_run : zyrS zymc zxi72 (72, 0, 0, 2, 0) 6 zpfwsw (fun _ _ => []) zFfwsw zSfwsw zXfwsw zRfwsw 1 = true := by decide +kernel
theorem zyfwsw_ck : zyAll (fun i => xsubR (zFfwsw i) fpfwsw && ((zXfwsw i).all xckX && (zRfwsw i).all (fun x => xckX x && xrtB true x))) 1 = true := by decide +kernel
def xIfwsw (i : Nat) (x0 : Nat → Int) (E0 : zyEm) (v : Nat → Int) (E : zyEm) : Prop := (E = E0)
def xMfwsw (i : Nat) (x0 : Nat → Int) (E0 : zyEm) (v : Nat → Int) (E : zyEm) : Nat := (0)
theorem xWswitch {l : Launch} {en : zEn} {me : zMe} (hen : zG zxMeta 72 = some en) (hme : zG zMeth 72 = some me) : xFc l zymc en me 6 [35, 100001] 0 fpfwsw true xΦ0 xΨfwsw := by
  have een : zG zxMeta 72 = some (zxi72, 2, 3, 5, 72, 0, 0, 2, 0) := rfl
  obtain ⟨me1, hme1, hOK⟩ := zall hen
  rw [hme] at hme1
  cases hme1
  rw [een] at hen
  cases hen
  have hr := zyfwsw_run
  have hck := fun i hi => zyAll_iff zyfwsw_ck i hi
  simp only [Bool.and_eq_true] at hck
  intro B
  refine xcut (mi := zymc) (B := B) hOK rfl rfl (ι := Fin 1) (fun i => zpfwsw i.val) (fun _ _ => []) (fun i => zFfwsw i.val) (fun i => zSfwsw i.val) (fun i => zXfwsw i.val) (fun i => zRfwsw i.val) (fun i y2 ct en2 me2 h => by cases h) 200000 (fun i => zyAll_iff hr i.val i.isLt) (fun i => (hck i.val i.isLt).1) (fun i => (hck i.val i.isLt).2.1) (fun i => (hck i.val i.isLt).2.2) ⟨0, by decide⟩ ⟨rfl, rfl, rfl, rfl⟩ ⟨by decide, by decide⟩ (fun i x0 E0 v E => xIfwsw i.val x0 E0 v E) (fun i x0 E0 v E => xMfwsw i.val x0 E0 v E) ?_ ?_ ?_
  · intro x0 E hx0 hT hΦ
    have hΦ : xΦ0 x0 E := hΦ
    refine ⟨fun k p hp => ?_, ?_⟩
    · have hk : k < 3 := (List.getElem?_eq_some_iff.mp hp).1
      have hk : k = 0 ∨ k = 1 ∨ k = 2 := by omega
      rcases hk with rfl | rfl | rfl
      · have hp : some (0, 4294967295) = some p := hp
        cases hp
        show ((0 : Nat) : Int) ≤ 0 + 2147483648 ∧ 0 + 2147483648 ≤ ((4294967295 : Nat) : Int)
        omega
      · have hp : some (0, 4294967295) = some p := hp
        cases hp
        show ((0 : Nat) : Int) ≤ 0 + 2147483648 ∧ 0 + 2147483648 ≤ ((4294967295 : Nat) : Int)
        omega
      · have hp : some (0, 4294967295) = some p := hp
        cases hp
        show ((0 : Nat) : Int) ≤ x0 0 + 2147483648 ∧ x0 0 + 2147483648 ≤ ((4294967295 : Nat) : Int)
        have hx := hx0 0
        omega
    · show E = E
      rfl
  · intro x0 s Wg hRu hrx hT0 hΦ i v H hT hrv hInv hKc hFr0 hIH x hx ρ2 v2 N2 H2 locs lsB stA hAt hB hv hr2 hXs hag hfr hFr hT2
    rcases i with ⟨i, hi⟩
    have hi2 : i = 0 := by omega
    rcases hi2 with rfl
    · cases hx
  · intro x0 E0 E E2 hrx hT0 hΦ i v hT hrv hInv hKc hFr0 x hx v2 hr2 hXs hag hfr hFr hT2
    rcases i with ⟨i, hi⟩
    have hi2 : i = 0 := by omega
    rcases hi2 with rfl
    · have hx : x ∈ [zxfwsw_ar0, zxfwsw_ar1, zxfwsw_ar2, zxfwsw_ar3, zxfwsw_ar4, zxfwsw_ar5, zxfwsw_ar6, zxfwsw_ar7, zxfwsw_ar8, zxfwsw_ar9, zxfwsw_ar10, zxfwsw_ar11, zxfwsw_ar12, zxfwsw_ar13, zxfwsw_ar14, zxfwsw_ar15, zxfwsw_ar16] := hx
      have hag : ∀ k, k < 3 → v2 k = v k := hag
      have hfr : xFr [] _ _ := hfr
      rcases List.mem_cons.mp hx with ex | hx
      · subst ex
        obtain ⟨hF, hBd, hM⟩ := hXs
        have b0 : ((2147483651 : Nat) : Int) ≤ (v2 3) + 2147483648 ∧ (v2 3) + 2147483648 ≤ ((2147483653 : Nat) : Int) := xXb hBd 0 rfl
        have f0 : (0 : Int) ≤ 7 ∧ xE E 35 7 = (v2 3) := xXf hF 0 rfl
        have f1 : ¬ (v2 3) = 2 := xXf hF 1 rfl
        have hI : E = E0 := hInv
        show xΨfwsw x0 E0 E2 0
        subst hI
        unfold xΨfwsw
        rw [if_neg]
        intro h
        unfold sW at h
        simp only [tWb, Bool.and_true, Bool.and_eq_true, decide_eq_true_eq, List.length_cons, List.length_nil] at h
        omega
      · skip
        rcases List.mem_cons.mp hx with ex | hx
        · subst ex
          obtain ⟨hF, hBd, hM⟩ := hXs
          have b0 : ((2147483648 : Nat) : Int) ≤ (v2 3) + 2147483648 ∧ (v2 3) + 2147483648 ≤ ((2147483649 : Nat) : Int) := xXb hBd 0 rfl
          have f0 : (0 : Int) ≤ 7 ∧ xE E 35 7 = (v2 3) := xXf hF 0 rfl
          have f1 : ¬ (v2 3) = 2 := xXf hF 1 rfl
          have hI : E = E0 := hInv
          show xΨfwsw x0 E0 E2 0
          subst hI
          unfold xΨfwsw
          rw [if_neg]
          intro h
          unfold sW at h
          simp only [tWb, Bool.and_true, Bool.and_eq_true, decide_eq_true_eq, List.length_cons, List.length_nil] at h
          omega
        · skip
          rcases List.mem_cons.mp hx with ex | hx
          · subst ex
            obtain ⟨hF, hBd, hM⟩ := hXs
            have b0 : ((2147483650 : Nat) : Int) ≤ (v2 3) + 2147483648 ∧ (v2 3) + 2147483648 ≤ ((2147483650 : Nat) : Int) := xXb hBd 0 rfl
            have b1 : ((2147483648 : Nat) : Int) ≤ (v2 4) + 2147483648 ∧ (v2 4) + 2147483648 ≤ ((2147484548 : Nat) : Int) := xXb hBd 1 rfl
            have b2 : ((2147483648 : Nat) : Int) ≤ (v2 5) + 2147483648 ∧ (v2 5) + 2147483648 ≤ ((2147484548 : Nat) : Int) := xXb hBd 2 rfl
            have b3 : ((2147483655 : Nat) : Int) ≤ (v2 6) + 2147483648 ∧ (v2 6) + 2147483648 ≤ ((2147484548 : Nat) : Int) := xXb hBd 3 rfl
            have f0 : (0 : Int) ≤ 7 ∧ xE E 35 7 = (v2 3) := xXf hF 0 rfl
            have f1 : (v2 3) = 2 := xXf hF 1 rfl
            have f2 : (0 : Int) ≤ 6 ∧ xE E 35 6 = (v2 4) := xXf hF 2 rfl
            have f3 : (0 : Int) ≤ 5 ∧ xE E 35 5 = (v2 5) := xXf hF 3 rfl
            have f4 : -2147483648 ≤ (v2 4) - (v2 5) → (v2 4) - (v2 5) < 2147483648 → (v2 6) = (v2 4) - (v2 5) := xXf hF 4 rfl
            have f4 := f4 (by omega) (by omega)
            have f5 : ¬ (v2 6) = 6 := xXf hF 5 rfl
            have hI : E = E0 := hInv
            show xΨfwsw x0 E0 E2 0
            subst hI
            unfold xΨfwsw
            rw [if_neg]
            intro h
            unfold sW at h
            simp only [tWb, Bool.and_true, Bool.and_eq_true, decide_eq_true_eq, List.length_cons, List.length_nil] at h
            rw [show xE E 35 5 = (v2 5) by omega] at h
            simp only [Int.add_assoc, Int.reduceAdd] at h
            omega
          · skip
            rcases List.mem_cons.mp hx with ex | hx
            · subst ex
              obtain ⟨hF, hBd, hM⟩ := hXs
              have b0 : ((2147483650 : Nat) : Int) ≤ (v2 3) + 2147483648 ∧ (v2 3) + 2147483648 ≤ ((2147483650 : Nat) : Int) := xXb hBd 0 rfl
              have b1 : ((2147483648 : Nat) : Int) ≤ (v2 4) + 2147483648 ∧ (v2 4) + 2147483648 ≤ ((2147484548 : Nat) : Int) := xXb hBd 1 rfl
              have b2 : ((2147483648 : Nat) : Int) ≤ (v2 5) + 2147483648 ∧ (v2 5) + 2147483648 ≤ ((2147484548 : Nat) : Int) := xXb hBd 2 rfl
              have b3 : ((2147482748 : Nat) : Int) ≤ (v2 6) + 2147483648 ∧ (v2 6) + 2147483648 ≤ ((2147483653 : Nat) : Int) := xXb hBd 3 rfl
              have f0 : (0 : Int) ≤ 7 ∧ xE E 35 7 = (v2 3) := xXf hF 0 rfl
              have f1 : (v2 3) = 2 := xXf hF 1 rfl
              have f2 : (0 : Int) ≤ 6 ∧ xE E 35 6 = (v2 4) := xXf hF 2 rfl
              have f3 : (0 : Int) ≤ 5 ∧ xE E 35 5 = (v2 5) := xXf hF 3 rfl
              have f4 : -2147483648 ≤ (v2 4) - (v2 5) → (v2 4) - (v2 5) < 2147483648 → (v2 6) = (v2 4) - (v2 5) := xXf hF 4 rfl
              have f4 := f4 (by omega) (by omega)
              have f5 : ¬ (v2 6) = 6 := xXf hF 5 rfl
              have hI : E = E0 := hInv
              show xΨfwsw x0 E0 E2 0
              subst hI
              unfold xΨfwsw
              rw [if_neg]
              intro h
              unfold sW at h
              simp only [tWb, Bool.and_true, Bool.and_eq_true, decide_eq_true_eq, List.length_cons, List.length_nil] at h
              rw [show xE E 35 5 = (v2 5) by omega] at h
              simp only [Int.add_assoc, Int.reduceAdd] at h
              omega
            · skip
              rcases List.mem_cons.mp hx with ex | hx
              · subst ex
                obtain ⟨hF, hBd, hM⟩ := hXs
                have b0 : ((2147483650 : Nat) : Int) ≤ (v2 3) + 2147483648 ∧ (v2 3) + 2147483648 ≤ ((2147483650 : Nat) : Int) := xXb hBd 0 rfl
                have b1 : ((2147483648 : Nat) : Int) ≤ (v2 4) + 2147483648 ∧ (v2 4) + 2147483648 ≤ ((2147484548 : Nat) : Int) := xXb hBd 1 rfl
                have b2 : ((2147483648 : Nat) : Int) ≤ (v2 5) + 2147483648 ∧ (v2 5) + 2147483648 ≤ ((2147484542 : Nat) : Int) := xXb hBd 2 rfl
                have b3 : ((2147483654 : Nat) : Int) ≤ (v2 6) + 2147483648 ∧ (v2 6) + 2147483648 ≤ ((2147483654 : Nat) : Int) := xXb hBd 3 rfl
                have b4 : ((2147483764 : Nat) : Int) ≤ (v2 7) + 2147483648 ∧ (v2 7) + 2147483648 ≤ ((2147483775 : Nat) : Int) := xXb hBd 4 rfl
                have f0 : (0 : Int) ≤ 7 ∧ xE E 35 7 = (v2 3) := xXf hF 0 rfl
                have f1 : (v2 3) = 2 := xXf hF 1 rfl
                have f2 : (0 : Int) ≤ 6 ∧ xE E 35 6 = (v2 4) := xXf hF 2 rfl
                have f3 : (0 : Int) ≤ 5 ∧ xE E 35 5 = (v2 5) := xXf hF 3 rfl
                have f4 : -2147483648 ≤ (v2 4) - (v2 5) → (v2 4) - (v2 5) < 2147483648 → (v2 6) = (v2 4) - (v2 5) := xXf hF 4 rfl
                have f4 := f4 (by omega) (by omega)
                have f5 : (v2 6) = 6 := xXf hF 5 rfl
                have f6 : (0 : Int) ≤ (v2 5) ∧ xE E 36 (v2 5) = (v2 7) := xXf hF 6 rfl
                have f7 : ¬ (v2 7) = 115 := xXf hF 7 rfl
                have hI : E = E0 := hInv
                show xΨfwsw x0 E0 E2 0
                subst hI
                unfold xΨfwsw
                rw [if_neg]
                intro h
                unfold sW at h
                simp only [tWb, Bool.and_true, Bool.and_eq_true, decide_eq_true_eq, List.length_cons, List.length_nil] at h
                rw [show xE E 35 5 = (v2 5) by omega] at h
                simp only [Int.add_assoc, Int.reduceAdd] at h
                omega
              · skip
                rcases List.mem_cons.mp hx with ex | hx
                · subst ex
                  obtain ⟨hF, hBd, hM⟩ := hXs
                  have b0 : ((2147483650 : Nat) : Int) ≤ (v2 3) + 2147483648 ∧ (v2 3) + 2147483648 ≤ ((2147483650 : Nat) : Int) := xXb hBd 0 rfl
                  have b1 : ((2147483648 : Nat) : Int) ≤ (v2 4) + 2147483648 ∧ (v2 4) + 2147483648 ≤ ((2147484548 : Nat) : Int) := xXb hBd 1 rfl
                  have b2 : ((2147483648 : Nat) : Int) ≤ (v2 5) + 2147483648 ∧ (v2 5) + 2147483648 ≤ ((2147484542 : Nat) : Int) := xXb hBd 2 rfl
                  have b3 : ((2147483654 : Nat) : Int) ≤ (v2 6) + 2147483648 ∧ (v2 6) + 2147483648 ≤ ((2147483654 : Nat) : Int) := xXb hBd 3 rfl
                  have b4 : ((2147483520 : Nat) : Int) ≤ (v2 7) + 2147483648 ∧ (v2 7) + 2147483648 ≤ ((2147483762 : Nat) : Int) := xXb hBd 4 rfl
                  have f0 : (0 : Int) ≤ 7 ∧ xE E 35 7 = (v2 3) := xXf hF 0 rfl
                  have f1 : (v2 3) = 2 := xXf hF 1 rfl
                  have f2 : (0 : Int) ≤ 6 ∧ xE E 35 6 = (v2 4) := xXf hF 2 rfl
                  have f3 : (0 : Int) ≤ 5 ∧ xE E 35 5 = (v2 5) := xXf hF 3 rfl
                  have f4 : -2147483648 ≤ (v2 4) - (v2 5) → (v2 4) - (v2 5) < 2147483648 → (v2 6) = (v2 4) - (v2 5) := xXf hF 4 rfl
                  have f4 := f4 (by omega) (by omega)
                  have f5 : (v2 6) = 6 := xXf hF 5 rfl
                  have f6 : (0 : Int) ≤ (v2 5) ∧ xE E 36 (v2 5) = (v2 7) := xXf hF 6 rfl
                  have f7 : ¬ (v2 7) = 115 := xXf hF 7 rfl
                  have hI : E = E0 := hInv
                  show xΨfwsw x0 E0 E2 0
                  subst hI
                  unfold xΨfwsw
                  rw [if_neg]
                  intro h
                  unfold sW at h
                  simp only [tWb, Bool.and_true, Bool.and_eq_true, decide_eq_true_eq, List.length_cons, List.length_nil] at h
                  rw [show xE E 35 5 = (v2 5) by omega] at h
                  simp only [Int.add_assoc, Int.reduceAdd] at h
                  omega
                · skip
                  rcases List.mem_cons.mp hx with ex | hx
                  · subst ex
                    obtain ⟨hF, hBd, hM⟩ := hXs
                    have b0 : ((2147483650 : Nat) : Int) ≤ (v2 3) + 2147483648 ∧ (v2 3) + 2147483648 ≤ ((2147483650 : Nat) : Int) := xXb hBd 0 rfl
                    have b1 : ((2147483648 : Nat) : Int) ≤ (v2 4) + 2147483648 ∧ (v2 4) + 2147483648 ≤ ((2147484548 : Nat) : Int) := xXb hBd 1 rfl
                    have b2 : ((2147483648 : Nat) : Int) ≤ (v2 5) + 2147483648 ∧ (v2 5) + 2147483648 ≤ ((2147484542 : Nat) : Int) := xXb hBd 2 rfl
                    have b3 : ((2147483654 : Nat) : Int) ≤ (v2 6) + 2147483648 ∧ (v2 6) + 2147483648 ≤ ((2147483654 : Nat) : Int) := xXb hBd 3 rfl
                    have b4 : ((2147483763 : Nat) : Int) ≤ (v2 7) + 2147483648 ∧ (v2 7) + 2147483648 ≤ ((2147483763 : Nat) : Int) := xXb hBd 4 rfl
                    have b5 : ((2147483768 : Nat) : Int) ≤ (v2 8) + 2147483648 ∧ (v2 8) + 2147483648 ≤ ((2147483775 : Nat) : Int) := xXb hBd 5 rfl
                    have f0 : (0 : Int) ≤ 7 ∧ xE E 35 7 = (v2 3) := xXf hF 0 rfl
                    have f1 : (v2 3) = 2 := xXf hF 1 rfl
                    have f2 : (0 : Int) ≤ 6 ∧ xE E 35 6 = (v2 4) := xXf hF 2 rfl
                    have f3 : (0 : Int) ≤ 5 ∧ xE E 35 5 = (v2 5) := xXf hF 3 rfl
                    have f4 : -2147483648 ≤ (v2 4) - (v2 5) → (v2 4) - (v2 5) < 2147483648 → (v2 6) = (v2 4) - (v2 5) := xXf hF 4 rfl
                    have f4 := f4 (by omega) (by omega)
                    have f5 : (v2 6) = 6 := xXf hF 5 rfl
                    have f6 : (0 : Int) ≤ (v2 5) ∧ xE E 36 (v2 5) = (v2 7) := xXf hF 6 rfl
                    have f7 : (v2 7) = 115 := xXf hF 7 rfl
                    have f8 : (0 : Int) ≤ (v2 5 + 1) ∧ xE E 36 (v2 5 + 1) = (v2 8) := xXf hF 8 rfl
                    have f9 : ¬ (v2 8) = 119 := xXf hF 9 rfl
                    have hI : E = E0 := hInv
                    show xΨfwsw x0 E0 E2 0
                    subst hI
                    unfold xΨfwsw
                    rw [if_neg]
                    intro h
                    unfold sW at h
                    simp only [tWb, Bool.and_true, Bool.and_eq_true, decide_eq_true_eq, List.length_cons, List.length_nil] at h
                    rw [show xE E 35 5 = (v2 5) by omega] at h
                    simp only [Int.add_assoc, Int.reduceAdd] at h
                    omega
                  · skip
                    rcases List.mem_cons.mp hx with ex | hx
                    · subst ex
                      obtain ⟨hF, hBd, hM⟩ := hXs
                      have b0 : ((2147483650 : Nat) : Int) ≤ (v2 3) + 2147483648 ∧ (v2 3) + 2147483648 ≤ ((2147483650 : Nat) : Int) := xXb hBd 0 rfl
                      have b1 : ((2147483648 : Nat) : Int) ≤ (v2 4) + 2147483648 ∧ (v2 4) + 2147483648 ≤ ((2147484548 : Nat) : Int) := xXb hBd 1 rfl
                      have b2 : ((2147483648 : Nat) : Int) ≤ (v2 5) + 2147483648 ∧ (v2 5) + 2147483648 ≤ ((2147484542 : Nat) : Int) := xXb hBd 2 rfl
                      have b3 : ((2147483654 : Nat) : Int) ≤ (v2 6) + 2147483648 ∧ (v2 6) + 2147483648 ≤ ((2147483654 : Nat) : Int) := xXb hBd 3 rfl
                      have b4 : ((2147483763 : Nat) : Int) ≤ (v2 7) + 2147483648 ∧ (v2 7) + 2147483648 ≤ ((2147483763 : Nat) : Int) := xXb hBd 4 rfl
                      have b5 : ((2147483520 : Nat) : Int) ≤ (v2 8) + 2147483648 ∧ (v2 8) + 2147483648 ≤ ((2147483766 : Nat) : Int) := xXb hBd 5 rfl
                      have f0 : (0 : Int) ≤ 7 ∧ xE E 35 7 = (v2 3) := xXf hF 0 rfl
                      have f1 : (v2 3) = 2 := xXf hF 1 rfl
                      have f2 : (0 : Int) ≤ 6 ∧ xE E 35 6 = (v2 4) := xXf hF 2 rfl
                      have f3 : (0 : Int) ≤ 5 ∧ xE E 35 5 = (v2 5) := xXf hF 3 rfl
                      have f4 : -2147483648 ≤ (v2 4) - (v2 5) → (v2 4) - (v2 5) < 2147483648 → (v2 6) = (v2 4) - (v2 5) := xXf hF 4 rfl
                      have f4 := f4 (by omega) (by omega)
                      have f5 : (v2 6) = 6 := xXf hF 5 rfl
                      have f6 : (0 : Int) ≤ (v2 5) ∧ xE E 36 (v2 5) = (v2 7) := xXf hF 6 rfl
                      have f7 : (v2 7) = 115 := xXf hF 7 rfl
                      have f8 : (0 : Int) ≤ (v2 5 + 1) ∧ xE E 36 (v2 5 + 1) = (v2 8) := xXf hF 8 rfl
                      have f9 : ¬ (v2 8) = 119 := xXf hF 9 rfl
                      have hI : E = E0 := hInv
                      show xΨfwsw x0 E0 E2 0
                      subst hI
                      unfold xΨfwsw
                      rw [if_neg]
                      intro h
                      unfold sW at h
                      simp only [tWb, Bool.and_true, Bool.and_eq_true, decide_eq_true_eq, List.length_cons, List.length_nil] at h
                      rw [show xE E 35 5 = (v2 5) by omega] at h
                      simp only [Int.add_assoc, Int.reduceAdd] at h
                      omega
                    · skip
                      rcases List.mem_cons.mp hx with ex | hx
                      · subst ex
                        obtain ⟨hF, hBd, hM⟩ := hXs
                        have b0 : ((2147483650 : Nat) : Int) ≤ (v2 3) + 2147483648 ∧ (v2 3) + 2147483648 ≤ ((2147483650 : Nat) : Int) := xXb hBd 0 rfl
                        have b1 : ((2147483648 : Nat) : Int) ≤ (v2 4) + 2147483648 ∧ (v2 4) + 2147483648 ≤ ((2147484548 : Nat) : Int) := xXb hBd 1 rfl
                        have b2 : ((2147483648 : Nat) : Int) ≤ (v2 5) + 2147483648 ∧ (v2 5) + 2147483648 ≤ ((2147484542 : Nat) : Int) := xXb hBd 2 rfl
                        have b3 : ((2147483654 : Nat) : Int) ≤ (v2 6) + 2147483648 ∧ (v2 6) + 2147483648 ≤ ((2147483654 : Nat) : Int) := xXb hBd 3 rfl
                        have b4 : ((2147483763 : Nat) : Int) ≤ (v2 7) + 2147483648 ∧ (v2 7) + 2147483648 ≤ ((2147483763 : Nat) : Int) := xXb hBd 4 rfl
                        have b5 : ((2147483767 : Nat) : Int) ≤ (v2 8) + 2147483648 ∧ (v2 8) + 2147483648 ≤ ((2147483767 : Nat) : Int) := xXb hBd 5 rfl
                        have b6 : ((2147483754 : Nat) : Int) ≤ (v2 9) + 2147483648 ∧ (v2 9) + 2147483648 ≤ ((2147483775 : Nat) : Int) := xXb hBd 6 rfl
                        have f0 : (0 : Int) ≤ 7 ∧ xE E 35 7 = (v2 3) := xXf hF 0 rfl
                        have f1 : (v2 3) = 2 := xXf hF 1 rfl
                        have f2 : (0 : Int) ≤ 6 ∧ xE E 35 6 = (v2 4) := xXf hF 2 rfl
                        have f3 : (0 : Int) ≤ 5 ∧ xE E 35 5 = (v2 5) := xXf hF 3 rfl
                        have f4 : -2147483648 ≤ (v2 4) - (v2 5) → (v2 4) - (v2 5) < 2147483648 → (v2 6) = (v2 4) - (v2 5) := xXf hF 4 rfl
                        have f4 := f4 (by omega) (by omega)
                        have f5 : (v2 6) = 6 := xXf hF 5 rfl
                        have f6 : (0 : Int) ≤ (v2 5) ∧ xE E 36 (v2 5) = (v2 7) := xXf hF 6 rfl
                        have f7 : (v2 7) = 115 := xXf hF 7 rfl
                        have f8 : (0 : Int) ≤ (v2 5 + 1) ∧ xE E 36 (v2 5 + 1) = (v2 8) := xXf hF 8 rfl
                        have f9 : (v2 8) = 119 := xXf hF 9 rfl
                        have f10 : (0 : Int) ≤ (v2 5 + 2) ∧ xE E 36 (v2 5 + 2) = (v2 9) := xXf hF 10 rfl
                        have f11 : ¬ (v2 9) = 105 := xXf hF 11 rfl
                        have hI : E = E0 := hInv
                        show xΨfwsw x0 E0 E2 0
                        subst hI
                        unfold xΨfwsw
                        rw [if_neg]
                        intro h
                        unfold sW at h
                        simp only [tWb, Bool.and_true, Bool.and_eq_true, decide_eq_true_eq, List.length_cons, List.length_nil] at h
                        rw [show xE E 35 5 = (v2 5) by omega] at h
                        simp only [Int.add_assoc, Int.reduceAdd] at h
                        omega
                      · skip
                        rcases List.mem_cons.mp hx with ex | hx
                        · subst ex
                          obtain ⟨hF, hBd, hM⟩ := hXs
                          have b0 : ((2147483650 : Nat) : Int) ≤ (v2 3) + 2147483648 ∧ (v2 3) + 2147483648 ≤ ((2147483650 : Nat) : Int) := xXb hBd 0 rfl
                          have b1 : ((2147483648 : Nat) : Int) ≤ (v2 4) + 2147483648 ∧ (v2 4) + 2147483648 ≤ ((2147484548 : Nat) : Int) := xXb hBd 1 rfl
                          have b2 : ((2147483648 : Nat) : Int) ≤ (v2 5) + 2147483648 ∧ (v2 5) + 2147483648 ≤ ((2147484542 : Nat) : Int) := xXb hBd 2 rfl
                          have b3 : ((2147483654 : Nat) : Int) ≤ (v2 6) + 2147483648 ∧ (v2 6) + 2147483648 ≤ ((2147483654 : Nat) : Int) := xXb hBd 3 rfl
                          have b4 : ((2147483763 : Nat) : Int) ≤ (v2 7) + 2147483648 ∧ (v2 7) + 2147483648 ≤ ((2147483763 : Nat) : Int) := xXb hBd 4 rfl
                          have b5 : ((2147483767 : Nat) : Int) ≤ (v2 8) + 2147483648 ∧ (v2 8) + 2147483648 ≤ ((2147483767 : Nat) : Int) := xXb hBd 5 rfl
                          have b6 : ((2147483520 : Nat) : Int) ≤ (v2 9) + 2147483648 ∧ (v2 9) + 2147483648 ≤ ((2147483752 : Nat) : Int) := xXb hBd 6 rfl
                          have f0 : (0 : Int) ≤ 7 ∧ xE E 35 7 = (v2 3) := xXf hF 0 rfl
                          have f1 : (v2 3) = 2 := xXf hF 1 rfl
                          have f2 : (0 : Int) ≤ 6 ∧ xE E 35 6 = (v2 4) := xXf hF 2 rfl
                          have f3 : (0 : Int) ≤ 5 ∧ xE E 35 5 = (v2 5) := xXf hF 3 rfl
                          have f4 : -2147483648 ≤ (v2 4) - (v2 5) → (v2 4) - (v2 5) < 2147483648 → (v2 6) = (v2 4) - (v2 5) := xXf hF 4 rfl
                          have f4 := f4 (by omega) (by omega)
                          have f5 : (v2 6) = 6 := xXf hF 5 rfl
                          have f6 : (0 : Int) ≤ (v2 5) ∧ xE E 36 (v2 5) = (v2 7) := xXf hF 6 rfl
                          have f7 : (v2 7) = 115 := xXf hF 7 rfl
                          have f8 : (0 : Int) ≤ (v2 5 + 1) ∧ xE E 36 (v2 5 + 1) = (v2 8) := xXf hF 8 rfl
                          have f9 : (v2 8) = 119 := xXf hF 9 rfl
                          have f10 : (0 : Int) ≤ (v2 5 + 2) ∧ xE E 36 (v2 5 + 2) = (v2 9) := xXf hF 10 rfl
                          have f11 : ¬ (v2 9) = 105 := xXf hF 11 rfl
                          have hI : E = E0 := hInv
                          show xΨfwsw x0 E0 E2 0
                          subst hI
                          unfold xΨfwsw
                          rw [if_neg]
                          intro h
                          unfold sW at h
                          simp only [tWb, Bool.and_true, Bool.and_eq_true, decide_eq_true_eq, List.length_cons, List.length_nil] at h
                          rw [show xE E 35 5 = (v2 5) by omega] at h
                          simp only [Int.add_assoc, Int.reduceAdd] at h
                          omega
                        · skip
                          rcases List.mem_cons.mp hx with ex | hx
                          · subst ex
                            obtain ⟨hF, hBd, hM⟩ := hXs
                            have b0 : ((2147483650 : Nat) : Int) ≤ (v2 3) + 2147483648 ∧ (v2 3) + 2147483648 ≤ ((2147483650 : Nat) : Int) := xXb hBd 0 rfl
                            have b1 : ((2147483648 : Nat) : Int) ≤ (v2 4) + 2147483648 ∧ (v2 4) + 2147483648 ≤ ((2147484548 : Nat) : Int) := xXb hBd 1 rfl
                            have b2 : ((2147483648 : Nat) : Int) ≤ (v2 5) + 2147483648 ∧ (v2 5) + 2147483648 ≤ ((2147484542 : Nat) : Int) := xXb hBd 2 rfl
                            have b3 : ((2147483654 : Nat) : Int) ≤ (v2 6) + 2147483648 ∧ (v2 6) + 2147483648 ≤ ((2147483654 : Nat) : Int) := xXb hBd 3 rfl
                            have b4 : ((2147483763 : Nat) : Int) ≤ (v2 7) + 2147483648 ∧ (v2 7) + 2147483648 ≤ ((2147483763 : Nat) : Int) := xXb hBd 4 rfl
                            have b5 : ((2147483767 : Nat) : Int) ≤ (v2 8) + 2147483648 ∧ (v2 8) + 2147483648 ≤ ((2147483767 : Nat) : Int) := xXb hBd 5 rfl
                            have b6 : ((2147483753 : Nat) : Int) ≤ (v2 9) + 2147483648 ∧ (v2 9) + 2147483648 ≤ ((2147483753 : Nat) : Int) := xXb hBd 6 rfl
                            have b7 : ((2147483765 : Nat) : Int) ≤ (v2 10) + 2147483648 ∧ (v2 10) + 2147483648 ≤ ((2147483775 : Nat) : Int) := xXb hBd 7 rfl
                            have f0 : (0 : Int) ≤ 7 ∧ xE E 35 7 = (v2 3) := xXf hF 0 rfl
                            have f1 : (v2 3) = 2 := xXf hF 1 rfl
                            have f2 : (0 : Int) ≤ 6 ∧ xE E 35 6 = (v2 4) := xXf hF 2 rfl
                            have f3 : (0 : Int) ≤ 5 ∧ xE E 35 5 = (v2 5) := xXf hF 3 rfl
                            have f4 : -2147483648 ≤ (v2 4) - (v2 5) → (v2 4) - (v2 5) < 2147483648 → (v2 6) = (v2 4) - (v2 5) := xXf hF 4 rfl
                            have f4 := f4 (by omega) (by omega)
                            have f5 : (v2 6) = 6 := xXf hF 5 rfl
                            have f6 : (0 : Int) ≤ (v2 5) ∧ xE E 36 (v2 5) = (v2 7) := xXf hF 6 rfl
                            have f7 : (v2 7) = 115 := xXf hF 7 rfl
                            have f8 : (0 : Int) ≤ (v2 5 + 1) ∧ xE E 36 (v2 5 + 1) = (v2 8) := xXf hF 8 rfl
                            have f9 : (v2 8) = 119 := xXf hF 9 rfl
                            have f10 : (0 : Int) ≤ (v2 5 + 2) ∧ xE E 36 (v2 5 + 2) = (v2 9) := xXf hF 10 rfl
                            have f11 : (v2 9) = 105 := xXf hF 11 rfl
                            have f12 : (0 : Int) ≤ (v2 5 + 3) ∧ xE E 36 (v2 5 + 3) = (v2 10) := xXf hF 12 rfl
                            have f13 : ¬ (v2 10) = 116 := xXf hF 13 rfl
                            have hI : E = E0 := hInv
                            show xΨfwsw x0 E0 E2 0
                            subst hI
                            unfold xΨfwsw
                            rw [if_neg]
                            intro h
                            unfold sW at h
                            simp only [tWb, Bool.and_true, Bool.and_eq_true, decide_eq_true_eq, List.length_cons, List.length_nil] at h
                            rw [show xE E 35 5 = (v2 5) by omega] at h
                            simp only [Int.add_assoc, Int.reduceAdd] at h
                            omega
                          · skip
                            rcases List.mem_cons.mp hx with ex | hx
                            · subst ex
                              obtain ⟨hF, hBd, hM⟩ := hXs
                              have b0 : ((2147483650 : Nat) : Int) ≤ (v2 3) + 2147483648 ∧ (v2 3) + 2147483648 ≤ ((2147483650 : Nat) : Int) := xXb hBd 0 rfl
                              have b1 : ((2147483648 : Nat) : Int) ≤ (v2 4) + 2147483648 ∧ (v2 4) + 2147483648 ≤ ((2147484548 : Nat) : Int) := xXb hBd 1 rfl
                              have b2 : ((2147483648 : Nat) : Int) ≤ (v2 5) + 2147483648 ∧ (v2 5) + 2147483648 ≤ ((2147484542 : Nat) : Int) := xXb hBd 2 rfl
                              have b3 : ((2147483654 : Nat) : Int) ≤ (v2 6) + 2147483648 ∧ (v2 6) + 2147483648 ≤ ((2147483654 : Nat) : Int) := xXb hBd 3 rfl
                              have b4 : ((2147483763 : Nat) : Int) ≤ (v2 7) + 2147483648 ∧ (v2 7) + 2147483648 ≤ ((2147483763 : Nat) : Int) := xXb hBd 4 rfl
                              have b5 : ((2147483767 : Nat) : Int) ≤ (v2 8) + 2147483648 ∧ (v2 8) + 2147483648 ≤ ((2147483767 : Nat) : Int) := xXb hBd 5 rfl
                              have b6 : ((2147483753 : Nat) : Int) ≤ (v2 9) + 2147483648 ∧ (v2 9) + 2147483648 ≤ ((2147483753 : Nat) : Int) := xXb hBd 6 rfl
                              have b7 : ((2147483520 : Nat) : Int) ≤ (v2 10) + 2147483648 ∧ (v2 10) + 2147483648 ≤ ((2147483763 : Nat) : Int) := xXb hBd 7 rfl
                              have f0 : (0 : Int) ≤ 7 ∧ xE E 35 7 = (v2 3) := xXf hF 0 rfl
                              have f1 : (v2 3) = 2 := xXf hF 1 rfl
                              have f2 : (0 : Int) ≤ 6 ∧ xE E 35 6 = (v2 4) := xXf hF 2 rfl
                              have f3 : (0 : Int) ≤ 5 ∧ xE E 35 5 = (v2 5) := xXf hF 3 rfl
                              have f4 : -2147483648 ≤ (v2 4) - (v2 5) → (v2 4) - (v2 5) < 2147483648 → (v2 6) = (v2 4) - (v2 5) := xXf hF 4 rfl
                              have f4 := f4 (by omega) (by omega)
                              have f5 : (v2 6) = 6 := xXf hF 5 rfl
                              have f6 : (0 : Int) ≤ (v2 5) ∧ xE E 36 (v2 5) = (v2 7) := xXf hF 6 rfl
                              have f7 : (v2 7) = 115 := xXf hF 7 rfl
                              have f8 : (0 : Int) ≤ (v2 5 + 1) ∧ xE E 36 (v2 5 + 1) = (v2 8) := xXf hF 8 rfl
                              have f9 : (v2 8) = 119 := xXf hF 9 rfl
                              have f10 : (0 : Int) ≤ (v2 5 + 2) ∧ xE E 36 (v2 5 + 2) = (v2 9) := xXf hF 10 rfl
                              have f11 : (v2 9) = 105 := xXf hF 11 rfl
                              have f12 : (0 : Int) ≤ (v2 5 + 3) ∧ xE E 36 (v2 5 + 3) = (v2 10) := xXf hF 12 rfl
                              have f13 : ¬ (v2 10) = 116 := xXf hF 13 rfl
                              have hI : E = E0 := hInv
                              show xΨfwsw x0 E0 E2 0
                              subst hI
                              unfold xΨfwsw
                              rw [if_neg]
                              intro h
                              unfold sW at h
                              simp only [tWb, Bool.and_true, Bool.and_eq_true, decide_eq_true_eq, List.length_cons, List.length_nil] at h
                              rw [show xE E 35 5 = (v2 5) by omega] at h
                              simp only [Int.add_assoc, Int.reduceAdd] at h
                              omega
                            · skip
                              rcases List.mem_cons.mp hx with ex | hx
                              · subst ex
                                obtain ⟨hF, hBd, hM⟩ := hXs
                                have b0 : ((2147483650 : Nat) : Int) ≤ (v2 3) + 2147483648 ∧ (v2 3) + 2147483648 ≤ ((2147483650 : Nat) : Int) := xXb hBd 0 rfl
                                have b1 : ((2147483648 : Nat) : Int) ≤ (v2 4) + 2147483648 ∧ (v2 4) + 2147483648 ≤ ((2147484548 : Nat) : Int) := xXb hBd 1 rfl
                                have b2 : ((2147483648 : Nat) : Int) ≤ (v2 5) + 2147483648 ∧ (v2 5) + 2147483648 ≤ ((2147484542 : Nat) : Int) := xXb hBd 2 rfl
                                have b3 : ((2147483654 : Nat) : Int) ≤ (v2 6) + 2147483648 ∧ (v2 6) + 2147483648 ≤ ((2147483654 : Nat) : Int) := xXb hBd 3 rfl
                                have b4 : ((2147483763 : Nat) : Int) ≤ (v2 7) + 2147483648 ∧ (v2 7) + 2147483648 ≤ ((2147483763 : Nat) : Int) := xXb hBd 4 rfl
                                have b5 : ((2147483767 : Nat) : Int) ≤ (v2 8) + 2147483648 ∧ (v2 8) + 2147483648 ≤ ((2147483767 : Nat) : Int) := xXb hBd 5 rfl
                                have b6 : ((2147483753 : Nat) : Int) ≤ (v2 9) + 2147483648 ∧ (v2 9) + 2147483648 ≤ ((2147483753 : Nat) : Int) := xXb hBd 6 rfl
                                have b7 : ((2147483764 : Nat) : Int) ≤ (v2 10) + 2147483648 ∧ (v2 10) + 2147483648 ≤ ((2147483764 : Nat) : Int) := xXb hBd 7 rfl
                                have b8 : ((2147483748 : Nat) : Int) ≤ (v2 11) + 2147483648 ∧ (v2 11) + 2147483648 ≤ ((2147483775 : Nat) : Int) := xXb hBd 8 rfl
                                have f0 : (0 : Int) ≤ 7 ∧ xE E 35 7 = (v2 3) := xXf hF 0 rfl
                                have f1 : (v2 3) = 2 := xXf hF 1 rfl
                                have f2 : (0 : Int) ≤ 6 ∧ xE E 35 6 = (v2 4) := xXf hF 2 rfl
                                have f3 : (0 : Int) ≤ 5 ∧ xE E 35 5 = (v2 5) := xXf hF 3 rfl
                                have f4 : -2147483648 ≤ (v2 4) - (v2 5) → (v2 4) - (v2 5) < 2147483648 → (v2 6) = (v2 4) - (v2 5) := xXf hF 4 rfl
                                have f4 := f4 (by omega) (by omega)
                                have f5 : (v2 6) = 6 := xXf hF 5 rfl
                                have f6 : (0 : Int) ≤ (v2 5) ∧ xE E 36 (v2 5) = (v2 7) := xXf hF 6 rfl
                                have f7 : (v2 7) = 115 := xXf hF 7 rfl
                                have f8 : (0 : Int) ≤ (v2 5 + 1) ∧ xE E 36 (v2 5 + 1) = (v2 8) := xXf hF 8 rfl
                                have f9 : (v2 8) = 119 := xXf hF 9 rfl
                                have f10 : (0 : Int) ≤ (v2 5 + 2) ∧ xE E 36 (v2 5 + 2) = (v2 9) := xXf hF 10 rfl
                                have f11 : (v2 9) = 105 := xXf hF 11 rfl
                                have f12 : (0 : Int) ≤ (v2 5 + 3) ∧ xE E 36 (v2 5 + 3) = (v2 10) := xXf hF 12 rfl
                                have f13 : (v2 10) = 116 := xXf hF 13 rfl
                                have f14 : (0 : Int) ≤ (v2 5 + 4) ∧ xE E 36 (v2 5 + 4) = (v2 11) := xXf hF 14 rfl
                                have f15 : ¬ (v2 11) = 99 := xXf hF 15 rfl
                                have hI : E = E0 := hInv
                                show xΨfwsw x0 E0 E2 0
                                subst hI
                                unfold xΨfwsw
                                rw [if_neg]
                                intro h
                                unfold sW at h
                                simp only [tWb, Bool.and_true, Bool.and_eq_true, decide_eq_true_eq, List.length_cons, List.length_nil] at h
                                rw [show xE E 35 5 = (v2 5) by omega] at h
                                simp only [Int.add_assoc, Int.reduceAdd] at h
                                omega
                              · skip
                                rcases List.mem_cons.mp hx with ex | hx
                                · subst ex
                                  obtain ⟨hF, hBd, hM⟩ := hXs
                                  have b0 : ((2147483650 : Nat) : Int) ≤ (v2 3) + 2147483648 ∧ (v2 3) + 2147483648 ≤ ((2147483650 : Nat) : Int) := xXb hBd 0 rfl
                                  have b1 : ((2147483648 : Nat) : Int) ≤ (v2 4) + 2147483648 ∧ (v2 4) + 2147483648 ≤ ((2147484548 : Nat) : Int) := xXb hBd 1 rfl
                                  have b2 : ((2147483648 : Nat) : Int) ≤ (v2 5) + 2147483648 ∧ (v2 5) + 2147483648 ≤ ((2147484542 : Nat) : Int) := xXb hBd 2 rfl
                                  have b3 : ((2147483654 : Nat) : Int) ≤ (v2 6) + 2147483648 ∧ (v2 6) + 2147483648 ≤ ((2147483654 : Nat) : Int) := xXb hBd 3 rfl
                                  have b4 : ((2147483763 : Nat) : Int) ≤ (v2 7) + 2147483648 ∧ (v2 7) + 2147483648 ≤ ((2147483763 : Nat) : Int) := xXb hBd 4 rfl
                                  have b5 : ((2147483767 : Nat) : Int) ≤ (v2 8) + 2147483648 ∧ (v2 8) + 2147483648 ≤ ((2147483767 : Nat) : Int) := xXb hBd 5 rfl
                                  have b6 : ((2147483753 : Nat) : Int) ≤ (v2 9) + 2147483648 ∧ (v2 9) + 2147483648 ≤ ((2147483753 : Nat) : Int) := xXb hBd 6 rfl
                                  have b7 : ((2147483764 : Nat) : Int) ≤ (v2 10) + 2147483648 ∧ (v2 10) + 2147483648 ≤ ((2147483764 : Nat) : Int) := xXb hBd 7 rfl
                                  have b8 : ((2147483520 : Nat) : Int) ≤ (v2 11) + 2147483648 ∧ (v2 11) + 2147483648 ≤ ((2147483746 : Nat) : Int) := xXb hBd 8 rfl
                                  have f0 : (0 : Int) ≤ 7 ∧ xE E 35 7 = (v2 3) := xXf hF 0 rfl
                                  have f1 : (v2 3) = 2 := xXf hF 1 rfl
                                  have f2 : (0 : Int) ≤ 6 ∧ xE E 35 6 = (v2 4) := xXf hF 2 rfl
                                  have f3 : (0 : Int) ≤ 5 ∧ xE E 35 5 = (v2 5) := xXf hF 3 rfl
                                  have f4 : -2147483648 ≤ (v2 4) - (v2 5) → (v2 4) - (v2 5) < 2147483648 → (v2 6) = (v2 4) - (v2 5) := xXf hF 4 rfl
                                  have f4 := f4 (by omega) (by omega)
                                  have f5 : (v2 6) = 6 := xXf hF 5 rfl
                                  have f6 : (0 : Int) ≤ (v2 5) ∧ xE E 36 (v2 5) = (v2 7) := xXf hF 6 rfl
                                  have f7 : (v2 7) = 115 := xXf hF 7 rfl
                                  have f8 : (0 : Int) ≤ (v2 5 + 1) ∧ xE E 36 (v2 5 + 1) = (v2 8) := xXf hF 8 rfl
                                  have f9 : (v2 8) = 119 := xXf hF 9 rfl
                                  have f10 : (0 : Int) ≤ (v2 5 + 2) ∧ xE E 36 (v2 5 + 2) = (v2 9) := xXf hF 10 rfl
                                  have f11 : (v2 9) = 105 := xXf hF 11 rfl
                                  have f12 : (0 : Int) ≤ (v2 5 + 3) ∧ xE E 36 (v2 5 + 3) = (v2 10) := xXf hF 12 rfl
                                  have f13 : (v2 10) = 116 := xXf hF 13 rfl
                                  have f14 : (0 : Int) ≤ (v2 5 + 4) ∧ xE E 36 (v2 5 + 4) = (v2 11) := xXf hF 14 rfl
                                  have f15 : ¬ (v2 11) = 99 := xXf hF 15 rfl
                                  have hI : E = E0 := hInv
                                  show xΨfwsw x0 E0 E2 0
                                  subst hI
                                  unfold xΨfwsw
                                  rw [if_neg]
                                  intro h
                                  unfold sW at h
                                  simp only [tWb, Bool.and_true, Bool.and_eq_true, decide_eq_true_eq, List.length_cons, List.length_nil] at h
                                  rw [show xE E 35 5 = (v2 5) by omega] at h
                                  simp only [Int.add_assoc, Int.reduceAdd] at h
                                  omega
                                · skip
                                  rcases List.mem_cons.mp hx with ex | hx
                                  · subst ex
                                    obtain ⟨hF, hBd, hM⟩ := hXs
                                    have b0 : ((2147483650 : Nat) : Int) ≤ (v2 3) + 2147483648 ∧ (v2 3) + 2147483648 ≤ ((2147483650 : Nat) : Int) := xXb hBd 0 rfl
                                    have b1 : ((2147483648 : Nat) : Int) ≤ (v2 4) + 2147483648 ∧ (v2 4) + 2147483648 ≤ ((2147484548 : Nat) : Int) := xXb hBd 1 rfl
                                    have b2 : ((2147483648 : Nat) : Int) ≤ (v2 5) + 2147483648 ∧ (v2 5) + 2147483648 ≤ ((2147484542 : Nat) : Int) := xXb hBd 2 rfl
                                    have b3 : ((2147483654 : Nat) : Int) ≤ (v2 6) + 2147483648 ∧ (v2 6) + 2147483648 ≤ ((2147483654 : Nat) : Int) := xXb hBd 3 rfl
                                    have b4 : ((2147483763 : Nat) : Int) ≤ (v2 7) + 2147483648 ∧ (v2 7) + 2147483648 ≤ ((2147483763 : Nat) : Int) := xXb hBd 4 rfl
                                    have b5 : ((2147483767 : Nat) : Int) ≤ (v2 8) + 2147483648 ∧ (v2 8) + 2147483648 ≤ ((2147483767 : Nat) : Int) := xXb hBd 5 rfl
                                    have b6 : ((2147483753 : Nat) : Int) ≤ (v2 9) + 2147483648 ∧ (v2 9) + 2147483648 ≤ ((2147483753 : Nat) : Int) := xXb hBd 6 rfl
                                    have b7 : ((2147483764 : Nat) : Int) ≤ (v2 10) + 2147483648 ∧ (v2 10) + 2147483648 ≤ ((2147483764 : Nat) : Int) := xXb hBd 7 rfl
                                    have b8 : ((2147483747 : Nat) : Int) ≤ (v2 11) + 2147483648 ∧ (v2 11) + 2147483648 ≤ ((2147483747 : Nat) : Int) := xXb hBd 8 rfl
                                    have b9 : ((2147483753 : Nat) : Int) ≤ (v2 12) + 2147483648 ∧ (v2 12) + 2147483648 ≤ ((2147483775 : Nat) : Int) := xXb hBd 9 rfl
                                    have f0 : (0 : Int) ≤ 7 ∧ xE E 35 7 = (v2 3) := xXf hF 0 rfl
                                    have f1 : (v2 3) = 2 := xXf hF 1 rfl
                                    have f2 : (0 : Int) ≤ 6 ∧ xE E 35 6 = (v2 4) := xXf hF 2 rfl
                                    have f3 : (0 : Int) ≤ 5 ∧ xE E 35 5 = (v2 5) := xXf hF 3 rfl
                                    have f4 : -2147483648 ≤ (v2 4) - (v2 5) → (v2 4) - (v2 5) < 2147483648 → (v2 6) = (v2 4) - (v2 5) := xXf hF 4 rfl
                                    have f4 := f4 (by omega) (by omega)
                                    have f5 : (v2 6) = 6 := xXf hF 5 rfl
                                    have f6 : (0 : Int) ≤ (v2 5) ∧ xE E 36 (v2 5) = (v2 7) := xXf hF 6 rfl
                                    have f7 : (v2 7) = 115 := xXf hF 7 rfl
                                    have f8 : (0 : Int) ≤ (v2 5 + 1) ∧ xE E 36 (v2 5 + 1) = (v2 8) := xXf hF 8 rfl
                                    have f9 : (v2 8) = 119 := xXf hF 9 rfl
                                    have f10 : (0 : Int) ≤ (v2 5 + 2) ∧ xE E 36 (v2 5 + 2) = (v2 9) := xXf hF 10 rfl
                                    have f11 : (v2 9) = 105 := xXf hF 11 rfl
                                    have f12 : (0 : Int) ≤ (v2 5 + 3) ∧ xE E 36 (v2 5 + 3) = (v2 10) := xXf hF 12 rfl
                                    have f13 : (v2 10) = 116 := xXf hF 13 rfl
                                    have f14 : (0 : Int) ≤ (v2 5 + 4) ∧ xE E 36 (v2 5 + 4) = (v2 11) := xXf hF 14 rfl
                                    have f15 : (v2 11) = 99 := xXf hF 15 rfl
                                    have f16 : (0 : Int) ≤ (v2 5 + 5) ∧ xE E 36 (v2 5 + 5) = (v2 12) := xXf hF 16 rfl
                                    have f17 : ¬ (v2 12) = 104 := xXf hF 17 rfl
                                    have hI : E = E0 := hInv
                                    show xΨfwsw x0 E0 E2 0
                                    subst hI
                                    unfold xΨfwsw
                                    rw [if_neg]
                                    intro h
                                    unfold sW at h
                                    simp only [tWb, Bool.and_true, Bool.and_eq_true, decide_eq_true_eq, List.length_cons, List.length_nil] at h
                                    rw [show xE E 35 5 = (v2 5) by omega] at h
                                    simp only [Int.add_assoc, Int.reduceAdd] at h
                                    omega
                                  · skip
                                    rcases List.mem_cons.mp hx with ex | hx
                                    · subst ex
                                      obtain ⟨hF, hBd, hM⟩ := hXs
                                      have b0 : ((2147483650 : Nat) : Int) ≤ (v2 3) + 2147483648 ∧ (v2 3) + 2147483648 ≤ ((2147483650 : Nat) : Int) := xXb hBd 0 rfl
                                      have b1 : ((2147483648 : Nat) : Int) ≤ (v2 4) + 2147483648 ∧ (v2 4) + 2147483648 ≤ ((2147484548 : Nat) : Int) := xXb hBd 1 rfl
                                      have b2 : ((2147483648 : Nat) : Int) ≤ (v2 5) + 2147483648 ∧ (v2 5) + 2147483648 ≤ ((2147484542 : Nat) : Int) := xXb hBd 2 rfl
                                      have b3 : ((2147483654 : Nat) : Int) ≤ (v2 6) + 2147483648 ∧ (v2 6) + 2147483648 ≤ ((2147483654 : Nat) : Int) := xXb hBd 3 rfl
                                      have b4 : ((2147483763 : Nat) : Int) ≤ (v2 7) + 2147483648 ∧ (v2 7) + 2147483648 ≤ ((2147483763 : Nat) : Int) := xXb hBd 4 rfl
                                      have b5 : ((2147483767 : Nat) : Int) ≤ (v2 8) + 2147483648 ∧ (v2 8) + 2147483648 ≤ ((2147483767 : Nat) : Int) := xXb hBd 5 rfl
                                      have b6 : ((2147483753 : Nat) : Int) ≤ (v2 9) + 2147483648 ∧ (v2 9) + 2147483648 ≤ ((2147483753 : Nat) : Int) := xXb hBd 6 rfl
                                      have b7 : ((2147483764 : Nat) : Int) ≤ (v2 10) + 2147483648 ∧ (v2 10) + 2147483648 ≤ ((2147483764 : Nat) : Int) := xXb hBd 7 rfl
                                      have b8 : ((2147483747 : Nat) : Int) ≤ (v2 11) + 2147483648 ∧ (v2 11) + 2147483648 ≤ ((2147483747 : Nat) : Int) := xXb hBd 8 rfl
                                      have b9 : ((2147483520 : Nat) : Int) ≤ (v2 12) + 2147483648 ∧ (v2 12) + 2147483648 ≤ ((2147483751 : Nat) : Int) := xXb hBd 9 rfl
                                      have f0 : (0 : Int) ≤ 7 ∧ xE E 35 7 = (v2 3) := xXf hF 0 rfl
                                      have f1 : (v2 3) = 2 := xXf hF 1 rfl
                                      have f2 : (0 : Int) ≤ 6 ∧ xE E 35 6 = (v2 4) := xXf hF 2 rfl
                                      have f3 : (0 : Int) ≤ 5 ∧ xE E 35 5 = (v2 5) := xXf hF 3 rfl
                                      have f4 : -2147483648 ≤ (v2 4) - (v2 5) → (v2 4) - (v2 5) < 2147483648 → (v2 6) = (v2 4) - (v2 5) := xXf hF 4 rfl
                                      have f4 := f4 (by omega) (by omega)
                                      have f5 : (v2 6) = 6 := xXf hF 5 rfl
                                      have f6 : (0 : Int) ≤ (v2 5) ∧ xE E 36 (v2 5) = (v2 7) := xXf hF 6 rfl
                                      have f7 : (v2 7) = 115 := xXf hF 7 rfl
                                      have f8 : (0 : Int) ≤ (v2 5 + 1) ∧ xE E 36 (v2 5 + 1) = (v2 8) := xXf hF 8 rfl
                                      have f9 : (v2 8) = 119 := xXf hF 9 rfl
                                      have f10 : (0 : Int) ≤ (v2 5 + 2) ∧ xE E 36 (v2 5 + 2) = (v2 9) := xXf hF 10 rfl
                                      have f11 : (v2 9) = 105 := xXf hF 11 rfl
                                      have f12 : (0 : Int) ≤ (v2 5 + 3) ∧ xE E 36 (v2 5 + 3) = (v2 10) := xXf hF 12 rfl
                                      have f13 : (v2 10) = 116 := xXf hF 13 rfl
                                      have f14 : (0 : Int) ≤ (v2 5 + 4) ∧ xE E 36 (v2 5 + 4) = (v2 11) := xXf hF 14 rfl
                                      have f15 : (v2 11) = 99 := xXf hF 15 rfl
                                      have f16 : (0 : Int) ≤ (v2 5 + 5) ∧ xE E 36 (v2 5 + 5) = (v2 12) := xXf hF 16 rfl
                                      have f17 : ¬ (v2 12) = 104 := xXf hF 17 rfl
                                      have hI : E = E0 := hInv
                                      show xΨfwsw x0 E0 E2 0
                                      subst hI
                                      unfold xΨfwsw
                                      rw [if_neg]
                                      intro h
                                      unfold sW at h
                                      simp only [tWb, Bool.and_true, Bool.and_eq_true, decide_eq_true_eq, List.length_cons, List.length_nil] at h
                                      rw [show xE E 35 5 = (v2 5) by omega] at h
                                      simp only [Int.add_assoc, Int.reduceAdd] at h
                                      omega
                                    · skip
                                      have ex := List.mem_singleton.mp hx
                                      subst ex
                                      obtain ⟨hF, hBd, hM⟩ := hXs
                                      have b0 : ((2147483650 : Nat) : Int) ≤ (v2 3) + 2147483648 ∧ (v2 3) + 2147483648 ≤ ((2147483650 : Nat) : Int) := xXb hBd 0 rfl
                                      have b1 : ((2147483648 : Nat) : Int) ≤ (v2 4) + 2147483648 ∧ (v2 4) + 2147483648 ≤ ((2147484548 : Nat) : Int) := xXb hBd 1 rfl
                                      have b2 : ((2147483648 : Nat) : Int) ≤ (v2 5) + 2147483648 ∧ (v2 5) + 2147483648 ≤ ((2147484542 : Nat) : Int) := xXb hBd 2 rfl
                                      have b3 : ((2147483654 : Nat) : Int) ≤ (v2 6) + 2147483648 ∧ (v2 6) + 2147483648 ≤ ((2147483654 : Nat) : Int) := xXb hBd 3 rfl
                                      have b4 : ((2147483763 : Nat) : Int) ≤ (v2 7) + 2147483648 ∧ (v2 7) + 2147483648 ≤ ((2147483763 : Nat) : Int) := xXb hBd 4 rfl
                                      have b5 : ((2147483767 : Nat) : Int) ≤ (v2 8) + 2147483648 ∧ (v2 8) + 2147483648 ≤ ((2147483767 : Nat) : Int) := xXb hBd 5 rfl
                                      have b6 : ((2147483753 : Nat) : Int) ≤ (v2 9) + 2147483648 ∧ (v2 9) + 2147483648 ≤ ((2147483753 : Nat) : Int) := xXb hBd 6 rfl
                                      have b7 : ((2147483764 : Nat) : Int) ≤ (v2 10) + 2147483648 ∧ (v2 10) + 2147483648 ≤ ((2147483764 : Nat) : Int) := xXb hBd 7 rfl
                                      have b8 : ((2147483747 : Nat) : Int) ≤ (v2 11) + 2147483648 ∧ (v2 11) + 2147483648 ≤ ((2147483747 : Nat) : Int) := xXb hBd 8 rfl
                                      have b9 : ((2147483752 : Nat) : Int) ≤ (v2 12) + 2147483648 ∧ (v2 12) + 2147483648 ≤ ((2147483752 : Nat) : Int) := xXb hBd 9 rfl
                                      have f0 : (0 : Int) ≤ 7 ∧ xE E 35 7 = (v2 3) := xXf hF 0 rfl
                                      have f1 : (v2 3) = 2 := xXf hF 1 rfl
                                      have f2 : (0 : Int) ≤ 6 ∧ xE E 35 6 = (v2 4) := xXf hF 2 rfl
                                      have f3 : (0 : Int) ≤ 5 ∧ xE E 35 5 = (v2 5) := xXf hF 3 rfl
                                      have f4 : -2147483648 ≤ (v2 4) - (v2 5) → (v2 4) - (v2 5) < 2147483648 → (v2 6) = (v2 4) - (v2 5) := xXf hF 4 rfl
                                      have f4 := f4 (by omega) (by omega)
                                      have f5 : (v2 6) = 6 := xXf hF 5 rfl
                                      have f6 : (0 : Int) ≤ (v2 5) ∧ xE E 36 (v2 5) = (v2 7) := xXf hF 6 rfl
                                      have f7 : (v2 7) = 115 := xXf hF 7 rfl
                                      have f8 : (0 : Int) ≤ (v2 5 + 1) ∧ xE E 36 (v2 5 + 1) = (v2 8) := xXf hF 8 rfl
                                      have f9 : (v2 8) = 119 := xXf hF 9 rfl
                                      have f10 : (0 : Int) ≤ (v2 5 + 2) ∧ xE E 36 (v2 5 + 2) = (v2 9) := xXf hF 10 rfl
                                      have f11 : (v2 9) = 105 := xXf hF 11 rfl
                                      have f12 : (0 : Int) ≤ (v2 5 + 3) ∧ xE E 36 (v2 5 + 3) = (v2 10) := xXf hF 12 rfl
                                      have f13 : (v2 10) = 116 := xXf hF 13 rfl
                                      have f14 : (0 : Int) ≤ (v2 5 + 4) ∧ xE E 36 (v2 5 + 4) = (v2 11) := xXf hF 14 rfl
                                      have f15 : (v2 11) = 99 := xXf hF 15 rfl
                                      have f16 : (0 : Int) ≤ (v2 5 + 5) ∧ xE E 36 (v2 5 + 5) = (v2 12) := xXf hF 16 rfl
                                      have f17 : (v2 12) = 104 := xXf hF 17 rfl
                                      have hI : E = E0 := hInv
                                      show xΨfwsw x0 E0 E2 1
                                      subst hI
                                      unfold xΨfwsw
                                      rw [if_pos]
                                      unfold sW
                                      simp only [tWb, Bool.and_true, Bool.and_eq_true, decide_eq_true_eq, List.length_cons, List.length_nil]
                                      rw [show xE E 35 5 = (v2 5) by omega]
                                      simp only [Int.add_assoc, Int.reduceAdd]
                                      refine ⟨by omega, by omega, ?_⟩
                                      refine ⟨by omega, by omega, by omega, by omega, by omega, by omega⟩
noncomputable def zxfwbo_ar0 : zyXp := (0, [], [0], [(24, 103079215105, 35, 56), (23, 0, 103079215105, 16)], [(103079215105, 2147483651, 2147483653)], [])
noncomputable def zxfwbo_ar1 : zyXp := (0, [], [0], [(24, 103079215105, 35, 56), (23, 0, 103079215105, 16)], [(103079215105, 2147483648, 2147483649)], [])
noncomputable def zxfwbo_ar2 : zyXp := (0, [], [0], [(24, 103079215105, 35, 56), (22, 0, 103079215105, 16), (24, 137438953473, 35, 48), (24, 171798691841, 35, 40), (2, 206158430209, 137438953473, 171798691841), (23, 0, 206158430209, 48)], [(103079215105, 2147483650, 2147483650), (137438953473, 2147483648, 2147484548), (171798691841, 2147483648, 2147484548), (206158430209, 2147483655, 2147484548)], [])
noncomputable def zxfwbo_ar3 : zyXp := (0, [], [0], [(24, 103079215105, 35, 56), (22, 0, 103079215105, 16), (24, 137438953473, 35, 48), (24, 171798691841, 35, 40), (2, 206158430209, 137438953473, 171798691841), (23, 0, 206158430209, 48)], [(103079215105, 2147483650, 2147483650), (137438953473, 2147483648, 2147484548), (171798691841, 2147483648, 2147484548), (206158430209, 2147482748, 2147483653)], [])
noncomputable def zxfwbo_ar4 : zyXp := (0, [], [0], [(24, 103079215105, 35, 56), (22, 0, 103079215105, 16), (24, 137438953473, 35, 48), (24, 171798691841, 35, 40), (2, 206158430209, 137438953473, 171798691841), (22, 0, 206158430209, 48), (24, 240518168577, 36, 171798691841), (23, 0, 240518168577, 784)], [(103079215105, 2147483650, 2147483650), (137438953473, 2147483648, 2147484548), (171798691841, 2147483648, 2147484542), (206158430209, 2147483654, 2147483654), (240518168577, 2147483747, 2147483775)], [])
noncomputable def zxfwbo_ar5 : zyXp := (0, [], [0], [(24, 103079215105, 35, 56), (22, 0, 103079215105, 16), (24, 137438953473, 35, 48), (24, 171798691841, 35, 40), (2, 206158430209, 137438953473, 171798691841), (22, 0, 206158430209, 48), (24, 240518168577, 36, 171798691841), (23, 0, 240518168577, 784)], [(103079215105, 2147483650, 2147483650), (137438953473, 2147483648, 2147484548), (171798691841, 2147483648, 2147484542), (206158430209, 2147483654, 2147483654), (240518168577, 2147483520, 2147483745)], [])
noncomputable def zxfwbo_ar6 : zyXp := (0, [], [0], [(24, 103079215105, 35, 56), (22, 0, 103079215105, 16), (24, 137438953473, 35, 48), (24, 171798691841, 35, 40), (2, 206158430209, 137438953473, 171798691841), (22, 0, 206158430209, 48), (24, 240518168577, 36, 171798691841), (22, 0, 240518168577, 784), (24, 274877906945, 36, 171798691849), (23, 0, 274877906945, 888)], [(103079215105, 2147483650, 2147483650), (137438953473, 2147483648, 2147484548), (171798691841, 2147483648, 2147484542), (206158430209, 2147483654, 2147483654), (240518168577, 2147483746, 2147483746), (274877906945, 2147483760, 2147483775)], [])
noncomputable def zxfwbo_ar7 : zyXp := (0, [], [0], [(24, 103079215105, 35, 56), (22, 0, 103079215105, 16), (24, 137438953473, 35, 48), (24, 171798691841, 35, 40), (2, 206158430209, 137438953473, 171798691841), (22, 0, 206158430209, 48), (24, 240518168577, 36, 171798691841), (22, 0, 240518168577, 784), (24, 274877906945, 36, 171798691849), (23, 0, 274877906945, 888)], [(103079215105, 2147483650, 2147483650), (137438953473, 2147483648, 2147484548), (171798691841, 2147483648, 2147484542), (206158430209, 2147483654, 2147483654), (240518168577, 2147483746, 2147483746), (274877906945, 2147483520, 2147483758)], [])
noncomputable def zxfwbo_ar8 : zyXp := (0, [], [0], [(24, 103079215105, 35, 56), (22, 0, 103079215105, 16), (24, 137438953473, 35, 48), (24, 171798691841, 35, 40), (2, 206158430209, 137438953473, 171798691841), (22, 0, 206158430209, 48), (24, 240518168577, 36, 171798691841), (22, 0, 240518168577, 784), (24, 274877906945, 36, 171798691849), (22, 0, 274877906945, 888), (24, 309237645313, 36, 171798691857), (23, 0, 309237645313, 784)], [(103079215105, 2147483650, 2147483650), (137438953473, 2147483648, 2147484548), (171798691841, 2147483648, 2147484542), (206158430209, 2147483654, 2147483654), (240518168577, 2147483746, 2147483746), (274877906945, 2147483759, 2147483759), (309237645313, 2147483747, 2147483775)], [])
noncomputable def zxfwbo_ar9 : zyXp := (0, [], [0], [(24, 103079215105, 35, 56), (22, 0, 103079215105, 16), (24, 137438953473, 35, 48), (24, 171798691841, 35, 40), (2, 206158430209, 137438953473, 171798691841), (22, 0, 206158430209, 48), (24, 240518168577, 36, 171798691841), (22, 0, 240518168577, 784), (24, 274877906945, 36, 171798691849), (22, 0, 274877906945, 888), (24, 309237645313, 36, 171798691857), (23, 0, 309237645313, 784)], [(103079215105, 2147483650, 2147483650), (137438953473, 2147483648, 2147484548), (171798691841, 2147483648, 2147484542), (206158430209, 2147483654, 2147483654), (240518168577, 2147483746, 2147483746), (274877906945, 2147483759, 2147483759), (309237645313, 2147483520, 2147483745)], [])
noncomputable def zxfwbo_ar10 : zyXp := (0, [], [0], [(24, 103079215105, 35, 56), (22, 0, 103079215105, 16), (24, 137438953473, 35, 48), (24, 171798691841, 35, 40), (2, 206158430209, 137438953473, 171798691841), (22, 0, 206158430209, 48), (24, 240518168577, 36, 171798691841), (22, 0, 240518168577, 784), (24, 274877906945, 36, 171798691849), (22, 0, 274877906945, 888), (24, 309237645313, 36, 171798691857), (22, 0, 309237645313, 784), (24, 343597383681, 36, 171798691865), (23, 0, 343597383681, 784)], [(103079215105, 2147483650, 2147483650), (137438953473, 2147483648, 2147484548), (171798691841, 2147483648, 2147484542), (206158430209, 2147483654, 2147483654), (240518168577, 2147483746, 2147483746), (274877906945, 2147483759, 2147483759), (309237645313, 2147483746, 2147483746), (343597383681, 2147483747, 2147483775)], [])
noncomputable def zxfwbo_ar11 : zyXp := (0, [], [0], [(24, 103079215105, 35, 56), (22, 0, 103079215105, 16), (24, 137438953473, 35, 48), (24, 171798691841, 35, 40), (2, 206158430209, 137438953473, 171798691841), (22, 0, 206158430209, 48), (24, 240518168577, 36, 171798691841), (22, 0, 240518168577, 784), (24, 274877906945, 36, 171798691849), (22, 0, 274877906945, 888), (24, 309237645313, 36, 171798691857), (22, 0, 309237645313, 784), (24, 343597383681, 36, 171798691865), (23, 0, 343597383681, 784)], [(103079215105, 2147483650, 2147483650), (137438953473, 2147483648, 2147484548), (171798691841, 2147483648, 2147484542), (206158430209, 2147483654, 2147483654), (240518168577, 2147483746, 2147483746), (274877906945, 2147483759, 2147483759), (309237645313, 2147483746, 2147483746), (343597383681, 2147483520, 2147483745)], [])
noncomputable def zxfwbo_ar12 : zyXp := (0, [], [0], [(24, 103079215105, 35, 56), (22, 0, 103079215105, 16), (24, 137438953473, 35, 48), (24, 171798691841, 35, 40), (2, 206158430209, 137438953473, 171798691841), (22, 0, 206158430209, 48), (24, 240518168577, 36, 171798691841), (22, 0, 240518168577, 784), (24, 274877906945, 36, 171798691849), (22, 0, 274877906945, 888), (24, 309237645313, 36, 171798691857), (22, 0, 309237645313, 784), (24, 343597383681, 36, 171798691865), (22, 0, 343597383681, 784), (24, 377957122049, 36, 171798691873), (23, 0, 377957122049, 840)], [(103079215105, 2147483650, 2147483650), (137438953473, 2147483648, 2147484548), (171798691841, 2147483648, 2147484542), (206158430209, 2147483654, 2147483654), (240518168577, 2147483746, 2147483746), (274877906945, 2147483759, 2147483759), (309237645313, 2147483746, 2147483746), (343597383681, 2147483746, 2147483746), (377957122049, 2147483754, 2147483775)], [])
noncomputable def zxfwbo_ar13 : zyXp := (0, [], [0], [(24, 103079215105, 35, 56), (22, 0, 103079215105, 16), (24, 137438953473, 35, 48), (24, 171798691841, 35, 40), (2, 206158430209, 137438953473, 171798691841), (22, 0, 206158430209, 48), (24, 240518168577, 36, 171798691841), (22, 0, 240518168577, 784), (24, 274877906945, 36, 171798691849), (22, 0, 274877906945, 888), (24, 309237645313, 36, 171798691857), (22, 0, 309237645313, 784), (24, 343597383681, 36, 171798691865), (22, 0, 343597383681, 784), (24, 377957122049, 36, 171798691873), (23, 0, 377957122049, 840)], [(103079215105, 2147483650, 2147483650), (137438953473, 2147483648, 2147484548), (171798691841, 2147483648, 2147484542), (206158430209, 2147483654, 2147483654), (240518168577, 2147483746, 2147483746), (274877906945, 2147483759, 2147483759), (309237645313, 2147483746, 2147483746), (343597383681, 2147483746, 2147483746), (377957122049, 2147483520, 2147483752)], [])
noncomputable def zxfwbo_ar14 : zyXp := (0, [], [0], [(24, 103079215105, 35, 56), (22, 0, 103079215105, 16), (24, 137438953473, 35, 48), (24, 171798691841, 35, 40), (2, 206158430209, 137438953473, 171798691841), (22, 0, 206158430209, 48), (24, 240518168577, 36, 171798691841), (22, 0, 240518168577, 784), (24, 274877906945, 36, 171798691849), (22, 0, 274877906945, 888), (24, 309237645313, 36, 171798691857), (22, 0, 309237645313, 784), (24, 343597383681, 36, 171798691865), (22, 0, 343597383681, 784), (24, 377957122049, 36, 171798691873), (22, 0, 377957122049, 840), (24, 412316860417, 36, 171798691881), (23, 0, 412316860417, 880)], [(103079215105, 2147483650, 2147483650), (137438953473, 2147483648, 2147484548), (171798691841, 2147483648, 2147484542), (206158430209, 2147483654, 2147483654), (240518168577, 2147483746, 2147483746), (274877906945, 2147483759, 2147483759), (309237645313, 2147483746, 2147483746), (343597383681, 2147483746, 2147483746), (377957122049, 2147483753, 2147483753), (412316860417, 2147483759, 2147483775)], [])
noncomputable def zxfwbo_ar15 : zyXp := (0, [], [0], [(24, 103079215105, 35, 56), (22, 0, 103079215105, 16), (24, 137438953473, 35, 48), (24, 171798691841, 35, 40), (2, 206158430209, 137438953473, 171798691841), (22, 0, 206158430209, 48), (24, 240518168577, 36, 171798691841), (22, 0, 240518168577, 784), (24, 274877906945, 36, 171798691849), (22, 0, 274877906945, 888), (24, 309237645313, 36, 171798691857), (22, 0, 309237645313, 784), (24, 343597383681, 36, 171798691865), (22, 0, 343597383681, 784), (24, 377957122049, 36, 171798691873), (22, 0, 377957122049, 840), (24, 412316860417, 36, 171798691881), (23, 0, 412316860417, 880)], [(103079215105, 2147483650, 2147483650), (137438953473, 2147483648, 2147484548), (171798691841, 2147483648, 2147484542), (206158430209, 2147483654, 2147483654), (240518168577, 2147483746, 2147483746), (274877906945, 2147483759, 2147483759), (309237645313, 2147483746, 2147483746), (343597383681, 2147483746, 2147483746), (377957122049, 2147483753, 2147483753), (412316860417, 2147483520, 2147483757)], [])
noncomputable def zxfwbo_ar16 : zyXp := (0, [], [8], [(24, 103079215105, 35, 56), (22, 0, 103079215105, 16), (24, 137438953473, 35, 48), (24, 171798691841, 35, 40), (2, 206158430209, 137438953473, 171798691841), (22, 0, 206158430209, 48), (24, 240518168577, 36, 171798691841), (22, 0, 240518168577, 784), (24, 274877906945, 36, 171798691849), (22, 0, 274877906945, 888), (24, 309237645313, 36, 171798691857), (22, 0, 309237645313, 784), (24, 343597383681, 36, 171798691865), (22, 0, 343597383681, 784), (24, 377957122049, 36, 171798691873), (22, 0, 377957122049, 840), (24, 412316860417, 36, 171798691881), (22, 0, 412316860417, 880)], [(103079215105, 2147483650, 2147483650), (137438953473, 2147483648, 2147484548), (171798691841, 2147483648, 2147484542), (206158430209, 2147483654, 2147483654), (240518168577, 2147483746, 2147483746), (274877906945, 2147483759, 2147483759), (309237645313, 2147483746, 2147483746), (343597383681, 2147483746, 2147483746), (377957122049, 2147483753, 2147483753), (412316860417, 2147483758, 2147483758)], [])
noncomputable def zpfwbo_a : zyPh := (0, [283, 800019, 13], [(0, 4294967295), (0, 4294967295), (0, 4294967295)], [], [])
noncomputable def zpfwbo (i : Nat) : zyPh := zpfwbo_a
noncomputable def zXfwbo (i : Nat) : List zyXp := []
noncomputable def zRfwbo (i : Nat) : List zyXp := [zxfwbo_ar0, zxfwbo_ar1, zxfwbo_ar2, zxfwbo_ar3, zxfwbo_ar4, zxfwbo_ar5, zxfwbo_ar6, zxfwbo_ar7, zxfwbo_ar8, zxfwbo_ar9, zxfwbo_ar10, zxfwbo_ar11, zxfwbo_ar12, zxfwbo_ar13, zxfwbo_ar14, zxfwbo_ar15, zxfwbo_ar16]
noncomputable def zFfwbo (i : Nat) : zyR := []
noncomputable def zSfwbo (i : Nat) : Nat := 0
def xΨfwbo (_ : Nat → Int) (E E2 : zyEm) (r : Int) : Prop := r = if sW (xE E 36) (xE E 35 7) (xE E 35 5) (xE E 35 6) [98, 111, 98, 98, 105, 110] = true then 1 else 0
noncomputable def fpfwbo : zyR := []
theorem zyfwbo_run : zyrS zymc zxi72 (72, 0, 0, 2, 0) 6 zpfwbo (fun _ _ => []) zFfwbo zSfwbo zXfwbo zRfwbo 1 = true := by decide +kernel
theorem zyfwbo_ck : zyAll (fun i => xsubR (zFfwbo i) fpfwbo && ((zXfwbo i).all xckX && (zRfwbo i).all (fun x => xckX x && xrtB true x))) 1 = true := by decide +kernel
def xIfwbo (i : Nat) (x0 : Nat → Int) (E0 : zyEm) (v : Nat → Int) (E : zyEm) : Prop := (E = E0)
def xMfwbo (i : Nat) (x0 : Nat → Int) (E0 : zyEm) (v : Nat → Int) (E : zyEm) : Nat := (0)
theorem xWbobbin {l : Launch} {en : zEn} {me : zMe} (hen : zG zxMeta 72 = some en) (hme : zG zMeth 72 = some me) : xFc l zymc en me 6 [35, 100002] 0 fpfwbo true xΦ0 xΨfwbo := by
  have een : zG zxMeta 72 = some (zxi72, 2, 3, 5, 72, 0, 0, 2, 0) := rfl
  obtain ⟨me1, hme1, hOK⟩ := zall hen
  rw [hme] at hme1
  cases hme1
  rw [een] at hen
  cases hen
  have hr := zyfwbo_run
  have hck := fun i hi => zyAll_iff zyfwbo_ck i hi
  simp only [Bool.and_eq_true] at hck
  intro B
  refine xcut (mi := zymc) (B := B) hOK rfl rfl (ι := Fin 1) (fun i => zpfwbo i.val) (fun _ _ => []) (fun i => zFfwbo i.val) (fun i => zSfwbo i.val) (fun i => zXfwbo i.val) (fun i => zRfwbo i.val) (fun i y2 ct en2 me2 h => by cases h) 200000 (fun i => zyAll_iff hr i.val i.isLt) (fun i => (hck i.val i.isLt).1) (fun i => (hck i.val i.isLt).2.1) (fun i => (hck i.val i.isLt).2.2) ⟨0, by decide⟩ ⟨rfl, rfl, rfl, rfl⟩ ⟨by decide, by decide⟩ (fun i x0 E0 v E => xIfwbo i.val x0 E0 v E) (fun i x0 E0 v E => xMfwbo i.val x0 E0 v E) ?_ ?_ ?_
  · intro x0 E hx0 hT hΦ
    have hΦ : xΦ0 x0 E := hΦ
    refine ⟨fun k p hp => ?_, ?_⟩
    · have hk : k < 3 := (List.getElem?_eq_some_iff.mp hp).1
      have hk : k = 0 ∨ k = 1 ∨ k = 2 := by omega
      rcases hk with rfl | rfl | rfl
      · have hp : some (0, 4294967295) = some p := hp
        cases hp
        show ((0 : Nat) : Int) ≤ 0 + 2147483648 ∧ 0 + 2147483648 ≤ ((4294967295 : Nat) : Int)
        omega
      · have hp : some (0, 4294967295) = some p := hp
        cases hp
        show ((0 : Nat) : Int) ≤ 0 + 2147483648 ∧ 0 + 2147483648 ≤ ((4294967295 : Nat) : Int)
        omega
      · have hp : some (0, 4294967295) = some p := hp
        cases hp
        show ((0 : Nat) : Int) ≤ x0 0 + 2147483648 ∧ x0 0 + 2147483648 ≤ ((4294967295 : Nat) : Int)
        have hx := hx0 0
        omega
    · show E = E
      rfl
  · intro x0 s Wg hRu hrx hT0 hΦ i v H hT hrv hInv hKc hFr0 hIH x hx ρ2 v2 N2 H2 locs lsB stA hAt hB hv hr2 hXs hag hfr hFr hT2
    rcases i with ⟨i, hi⟩
    have hi2 : i = 0 := by omega
    rcases hi2 with rfl
    · cases hx
  · intro x0 E0 E E2 hrx hT0 hΦ i v hT hrv hInv hKc hFr0 x hx v2 hr2 hXs hag hfr hFr hT2
    rcases i with ⟨i, hi⟩
    have hi2 : i = 0 := by omega
    rcases hi2 with rfl
    · have hx : x ∈ [zxfwbo_ar0, zxfwbo_ar1, zxfwbo_ar2, zxfwbo_ar3, zxfwbo_ar4, zxfwbo_ar5, zxfwbo_ar6, zxfwbo_ar7, zxfwbo_ar8, zxfwbo_ar9, zxfwbo_ar10, zxfwbo_ar11, zxfwbo_ar12, zxfwbo_ar13, zxfwbo_ar14, zxfwbo_ar15, zxfwbo_ar16] := hx
      have hag : ∀ k, k < 3 → v2 k = v k := hag
      have hfr : xFr [] _ _ := hfr
      rcases List.mem_cons.mp hx with ex | hx
      · subst ex
        obtain ⟨hF, hBd, hM⟩ := hXs
        have b0 : ((2147483651 : Nat) : Int) ≤ (v2 3) + 2147483648 ∧ (v2 3) + 2147483648 ≤ ((2147483653 : Nat) : Int) := xXb hBd 0 rfl
        have f0 : (0 : Int) ≤ 7 ∧ xE E 35 7 = (v2 3) := xXf hF 0 rfl
        have f1 : ¬ (v2 3) = 2 := xXf hF 1 rfl
        have hI : E = E0 := hInv
        show xΨfwbo x0 E0 E2 0
        subst hI
        unfold xΨfwbo
        rw [if_neg]
        intro h
        unfold sW at h
        simp only [tWb, Bool.and_true, Bool.and_eq_true, decide_eq_true_eq, List.length_cons, List.length_nil] at h
        omega
      · skip
        rcases List.mem_cons.mp hx with ex | hx
        · subst ex
          obtain ⟨hF, hBd, hM⟩ := hXs
          have b0 : ((2147483648 : Nat) : Int) ≤ (v2 3) + 2147483648 ∧ (v2 3) + 2147483648 ≤ ((2147483649 : Nat) : Int) := xXb hBd 0 rfl
          have f0 : (0 : Int) ≤ 7 ∧ xE E 35 7 = (v2 3) := xXf hF 0 rfl
          have f1 : ¬ (v2 3) = 2 := xXf hF 1 rfl
          have hI : E = E0 := hInv
          show xΨfwbo x0 E0 E2 0
          subst hI
          unfold xΨfwbo
          rw [if_neg]
          intro h
          unfold sW at h
          simp only [tWb, Bool.and_true, Bool.and_eq_true, decide_eq_true_eq, List.length_cons, List.length_nil] at h
          omega
        · skip
          rcases List.mem_cons.mp hx with ex | hx
          · subst ex
            obtain ⟨hF, hBd, hM⟩ := hXs
            have b0 : ((2147483650 : Nat) : Int) ≤ (v2 3) + 2147483648 ∧ (v2 3) + 2147483648 ≤ ((2147483650 : Nat) : Int) := xXb hBd 0 rfl
            have b1 : ((2147483648 : Nat) : Int) ≤ (v2 4) + 2147483648 ∧ (v2 4) + 2147483648 ≤ ((2147484548 : Nat) : Int) := xXb hBd 1 rfl
            have b2 : ((2147483648 : Nat) : Int) ≤ (v2 5) + 2147483648 ∧ (v2 5) + 2147483648 ≤ ((2147484548 : Nat) : Int) := xXb hBd 2 rfl
            have b3 : ((2147483655 : Nat) : Int) ≤ (v2 6) + 2147483648 ∧ (v2 6) + 2147483648 ≤ ((2147484548 : Nat) : Int) := xXb hBd 3 rfl
            have f0 : (0 : Int) ≤ 7 ∧ xE E 35 7 = (v2 3) := xXf hF 0 rfl
            have f1 : (v2 3) = 2 := xXf hF 1 rfl
            have f2 : (0 : Int) ≤ 6 ∧ xE E 35 6 = (v2 4) := xXf hF 2 rfl
            have f3 : (0 : Int) ≤ 5 ∧ xE E 35 5 = (v2 5) := xXf hF 3 rfl
            have f4 : -2147483648 ≤ (v2 4) - (v2 5) → (v2 4) - (v2 5) < 2147483648 → (v2 6) = (v2 4) - (v2 5) := xXf hF 4 rfl
            have f4 := f4 (by omega) (by omega)
            have f5 : ¬ (v2 6) = 6 := xXf hF 5 rfl
            have hI : E = E0 := hInv
            show xΨfwbo x0 E0 E2 0
            subst hI
            unfold xΨfwbo
            rw [if_neg]
            intro h
            unfold sW at h
            simp only [tWb, Bool.and_true, Bool.and_eq_true, decide_eq_true_eq, List.length_cons, List.length_nil] at h
            rw [show xE E 35 5 = (v2 5) by omega] at h
            simp only [Int.add_assoc, Int.reduceAdd] at h
            omega
          · skip
            rcases List.mem_cons.mp hx with ex | hx
            · subst ex
              obtain ⟨hF, hBd, hM⟩ := hXs
              have b0 : ((2147483650 : Nat) : Int) ≤ (v2 3) + 2147483648 ∧ (v2 3) + 2147483648 ≤ ((2147483650 : Nat) : Int) := xXb hBd 0 rfl
              have b1 : ((2147483648 : Nat) : Int) ≤ (v2 4) + 2147483648 ∧ (v2 4) + 2147483648 ≤ ((2147484548 : Nat) : Int) := xXb hBd 1 rfl
              have b2 : ((2147483648 : Nat) : Int) ≤ (v2 5) + 2147483648 ∧ (v2 5) + 2147483648 ≤ ((2147484548 : Nat) : Int) := xXb hBd 2 rfl
              have b3 : ((2147482748 : Nat) : Int) ≤ (v2 6) + 2147483648 ∧ (v2 6) + 2147483648 ≤ ((2147483653 : Nat) : Int) := xXb hBd 3 rfl
              have f0 : (0 : Int) ≤ 7 ∧ xE E 35 7 = (v2 3) := xXf hF 0 rfl
              have f1 : (v2 3) = 2 := xXf hF 1 rfl
              have f2 : (0 : Int) ≤ 6 ∧ xE E 35 6 = (v2 4) := xXf hF 2 rfl
              have f3 : (0 : Int) ≤ 5 ∧ xE E 35 5 = (v2 5) := xXf hF 3 rfl
              have f4 : -2147483648 ≤ (v2 4) - (v2 5) → (v2 4) - (v2 5) < 2147483648 → (v2 6) = (v2 4) - (v2 5) := xXf hF 4 rfl
              have f4 := f4 (by omega) (by omega)
              have f5 : ¬ (v2 6) = 6 := xXf hF 5 rfl
              have hI : E = E0 := hInv
              show xΨfwbo x0 E0 E2 0
              subst hI
              unfold xΨfwbo
              rw [if_neg]
              intro h
              unfold sW at h
              simp only [tWb, Bool.and_true, Bool.and_eq_true, decide_eq_true_eq, List.length_cons, List.length_nil] at h
              rw [show xE E 35 5 = (v2 5) by omega] at h
              simp only [Int.add_assoc, Int.reduceAdd] at h
              omega
            · skip
              rcases List.mem_cons.mp hx with ex | hx
              · subst ex
                obtain ⟨hF, hBd, hM⟩ := hXs
                have b0 : ((2147483650 : Nat) : Int) ≤ (v2 3) + 2147483648 ∧ (v2 3) + 2147483648 ≤ ((2147483650 : Nat) : Int) := xXb hBd 0 rfl
                have b1 : ((2147483648 : Nat) : Int) ≤ (v2 4) + 2147483648 ∧ (v2 4) + 2147483648 ≤ ((2147484548 : Nat) : Int) := xXb hBd 1 rfl
                have b2 : ((2147483648 : Nat) : Int) ≤ (v2 5) + 2147483648 ∧ (v2 5) + 2147483648 ≤ ((2147484542 : Nat) : Int) := xXb hBd 2 rfl
                have b3 : ((2147483654 : Nat) : Int) ≤ (v2 6) + 2147483648 ∧ (v2 6) + 2147483648 ≤ ((2147483654 : Nat) : Int) := xXb hBd 3 rfl
                have b4 : ((2147483747 : Nat) : Int) ≤ (v2 7) + 2147483648 ∧ (v2 7) + 2147483648 ≤ ((2147483775 : Nat) : Int) := xXb hBd 4 rfl
                have f0 : (0 : Int) ≤ 7 ∧ xE E 35 7 = (v2 3) := xXf hF 0 rfl
                have f1 : (v2 3) = 2 := xXf hF 1 rfl
                have f2 : (0 : Int) ≤ 6 ∧ xE E 35 6 = (v2 4) := xXf hF 2 rfl
                have f3 : (0 : Int) ≤ 5 ∧ xE E 35 5 = (v2 5) := xXf hF 3 rfl
                have f4 : -2147483648 ≤ (v2 4) - (v2 5) → (v2 4) - (v2 5) < 2147483648 → (v2 6) = (v2 4) - (v2 5) := xXf hF 4 rfl
                have f4 := f4 (by omega) (by omega)
                have f5 : (v2 6) = 6 := xXf hF 5 rfl
                have f6 : (0 : Int) ≤ (v2 5) ∧ xE E 36 (v2 5) = (v2 7) := xXf hF 6 rfl
                have f7 : ¬ (v2 7) = 98 := xXf hF 7 rfl
                have hI : E = E0 := hInv
                show xΨfwbo x0 E0 E2 0
                subst hI
                unfold xΨfwbo
                rw [if_neg]
                intro h
                unfold sW at h
                simp only [tWb, Bool.and_true, Bool.and_eq_true, decide_eq_true_eq, List.length_cons, List.length_nil] at h
                rw [show xE E 35 5 = (v2 5) by omega] at h
                simp only [Int.add_assoc, Int.reduceAdd] at h
                omega
              · skip
                rcases List.mem_cons.mp hx with ex | hx
                · subst ex
                  obtain ⟨hF, hBd, hM⟩ := hXs
                  have b0 : ((2147483650 : Nat) : Int) ≤ (v2 3) + 2147483648 ∧ (v2 3) + 2147483648 ≤ ((2147483650 : Nat) : Int) := xXb hBd 0 rfl
                  have b1 : ((2147483648 : Nat) : Int) ≤ (v2 4) + 2147483648 ∧ (v2 4) + 2147483648 ≤ ((2147484548 : Nat) : Int) := xXb hBd 1 rfl
                  have b2 : ((2147483648 : Nat) : Int) ≤ (v2 5) + 2147483648 ∧ (v2 5) + 2147483648 ≤ ((2147484542 : Nat) : Int) := xXb hBd 2 rfl
                  have b3 : ((2147483654 : Nat) : Int) ≤ (v2 6) + 2147483648 ∧ (v2 6) + 2147483648 ≤ ((2147483654 : Nat) : Int) := xXb hBd 3 rfl
                  have b4 : ((2147483520 : Nat) : Int) ≤ (v2 7) + 2147483648 ∧ (v2 7) + 2147483648 ≤ ((2147483745 : Nat) : Int) := xXb hBd 4 rfl
                  have f0 : (0 : Int) ≤ 7 ∧ xE E 35 7 = (v2 3) := xXf hF 0 rfl
                  have f1 : (v2 3) = 2 := xXf hF 1 rfl
                  have f2 : (0 : Int) ≤ 6 ∧ xE E 35 6 = (v2 4) := xXf hF 2 rfl
                  have f3 : (0 : Int) ≤ 5 ∧ xE E 35 5 = (v2 5) := xXf hF 3 rfl
                  have f4 : -2147483648 ≤ (v2 4) - (v2 5) → (v2 4) - (v2 5) < 2147483648 → (v2 6) = (v2 4) - (v2 5) := xXf hF 4 rfl
                  have f4 := f4 (by omega) (by omega)
                  have f5 : (v2 6) = 6 := xXf hF 5 rfl
                  have f6 : (0 : Int) ≤ (v2 5) ∧ xE E 36 (v2 5) = (v2 7) := xXf hF 6 rfl
                  have f7 : ¬ (v2 7) = 98 := xXf hF 7 rfl
                  have hI : E = E0 := hInv
                  show xΨfwbo x0 E0 E2 0
                  subst hI
                  unfold xΨfwbo
                  rw [if_neg]
                  intro h
                  unfold sW at h
                  simp only [tWb, Bool.and_true, Bool.and_eq_true, decide_eq_true_eq, List.length_cons, List.length_nil] at h
                  rw [show xE E 35 5 = (v2 5) by omega] at h
                  simp only [Int.add_assoc, Int.reduceAdd] at h
                  omega
                · skip
                  rcases List.mem_cons.mp hx with ex | hx
                  · subst ex
                    obtain ⟨hF, hBd, hM⟩ := hXs
                    have b0 : ((2147483650 : Nat) : Int) ≤ (v2 3) + 2147483648 ∧ (v2 3) + 2147483648 ≤ ((2147483650 : Nat) : Int) := xXb hBd 0 rfl
                    have b1 : ((2147483648 : Nat) : Int) ≤ (v2 4) + 2147483648 ∧ (v2 4) + 2147483648 ≤ ((2147484548 : Nat) : Int) := xXb hBd 1 rfl
                    have b2 : ((2147483648 : Nat) : Int) ≤ (v2 5) + 2147483648 ∧ (v2 5) + 2147483648 ≤ ((2147484542 : Nat) : Int) := xXb hBd 2 rfl
                    have b3 : ((2147483654 : Nat) : Int) ≤ (v2 6) + 2147483648 ∧ (v2 6) + 2147483648 ≤ ((2147483654 : Nat) : Int) := xXb hBd 3 rfl
                    have b4 : ((2147483746 : Nat) : Int) ≤ (v2 7) + 2147483648 ∧ (v2 7) + 2147483648 ≤ ((2147483746 : Nat) : Int) := xXb hBd 4 rfl
                    have b5 : ((2147483760 : Nat) : Int) ≤ (v2 8) + 2147483648 ∧ (v2 8) + 2147483648 ≤ ((2147483775 : Nat) : Int) := xXb hBd 5 rfl
                    have f0 : (0 : Int) ≤ 7 ∧ xE E 35 7 = (v2 3) := xXf hF 0 rfl
                    have f1 : (v2 3) = 2 := xXf hF 1 rfl
                    have f2 : (0 : Int) ≤ 6 ∧ xE E 35 6 = (v2 4) := xXf hF 2 rfl
                    have f3 : (0 : Int) ≤ 5 ∧ xE E 35 5 = (v2 5) := xXf hF 3 rfl
                    have f4 : -2147483648 ≤ (v2 4) - (v2 5) → (v2 4) - (v2 5) < 2147483648 → (v2 6) = (v2 4) - (v2 5) := xXf hF 4 rfl
                    have f4 := f4 (by omega) (by omega)
                    have f5 : (v2 6) = 6 := xXf hF 5 rfl
                    have f6 : (0 : Int) ≤ (v2 5) ∧ xE E 36 (v2 5) = (v2 7) := xXf hF 6 rfl
                    have f7 : (v2 7) = 98 := xXf hF 7 rfl
                    have f8 : (0 : Int) ≤ (v2 5 + 1) ∧ xE E 36 (v2 5 + 1) = (v2 8) := xXf hF 8 rfl
                    have f9 : ¬ (v2 8) = 111 := xXf hF 9 rfl
                    have hI : E = E0 := hInv
                    show xΨfwbo x0 E0 E2 0
                    subst hI
                    unfold xΨfwbo
                    rw [if_neg]
                    intro h
                    unfold sW at h
                    simp only [tWb, Bool.and_true, Bool.and_eq_true, decide_eq_true_eq, List.length_cons, List.length_nil] at h
                    rw [show xE E 35 5 = (v2 5) by omega] at h
                    simp only [Int.add_assoc, Int.reduceAdd] at h
                    omega
                  · skip
                    rcases List.mem_cons.mp hx with ex | hx
                    · subst ex
                      obtain ⟨hF, hBd, hM⟩ := hXs
                      have b0 : ((2147483650 : Nat) : Int) ≤ (v2 3) + 2147483648 ∧ (v2 3) + 2147483648 ≤ ((2147483650 : Nat) : Int) := xXb hBd 0 rfl
                      have b1 : ((2147483648 : Nat) : Int) ≤ (v2 4) + 2147483648 ∧ (v2 4) + 2147483648 ≤ ((2147484548 : Nat) : Int) := xXb hBd 1 rfl
                      have b2 : ((2147483648 : Nat) : Int) ≤ (v2 5) + 2147483648 ∧ (v2 5) + 2147483648 ≤ ((2147484542 : Nat) : Int) := xXb hBd 2 rfl
                      have b3 : ((2147483654 : Nat) : Int) ≤ (v2 6) + 2147483648 ∧ (v2 6) + 2147483648 ≤ ((2147483654 : Nat) : Int) := xXb hBd 3 rfl
                      have b4 : ((2147483746 : Nat) : Int) ≤ (v2 7) + 2147483648 ∧ (v2 7) + 2147483648 ≤ ((2147483746 : Nat) : Int) := xXb hBd 4 rfl
                      have b5 : ((2147483520 : Nat) : Int) ≤ (v2 8) + 2147483648 ∧ (v2 8) + 2147483648 ≤ ((2147483758 : Nat) : Int) := xXb hBd 5 rfl
                      have f0 : (0 : Int) ≤ 7 ∧ xE E 35 7 = (v2 3) := xXf hF 0 rfl
                      have f1 : (v2 3) = 2 := xXf hF 1 rfl
                      have f2 : (0 : Int) ≤ 6 ∧ xE E 35 6 = (v2 4) := xXf hF 2 rfl
                      have f3 : (0 : Int) ≤ 5 ∧ xE E 35 5 = (v2 5) := xXf hF 3 rfl
                      have f4 : -2147483648 ≤ (v2 4) - (v2 5) → (v2 4) - (v2 5) < 2147483648 → (v2 6) = (v2 4) - (v2 5) := xXf hF 4 rfl
                      have f4 := f4 (by omega) (by omega)
                      have f5 : (v2 6) = 6 := xXf hF 5 rfl
                      have f6 : (0 : Int) ≤ (v2 5) ∧ xE E 36 (v2 5) = (v2 7) := xXf hF 6 rfl
                      have f7 : (v2 7) = 98 := xXf hF 7 rfl
                      have f8 : (0 : Int) ≤ (v2 5 + 1) ∧ xE E 36 (v2 5 + 1) = (v2 8) := xXf hF 8 rfl
                      have f9 : ¬ (v2 8) = 111 := xXf hF 9 rfl
                      have hI : E = E0 := hInv
                      show xΨfwbo x0 E0 E2 0
                      subst hI
                      unfold xΨfwbo
                      rw [if_neg]
                      intro h
                      unfold sW at h
                      simp only [tWb, Bool.and_true, Bool.and_eq_true, decide_eq_true_eq, List.length_cons, List.length_nil] at h
                      rw [show xE E 35 5 = (v2 5) by omega] at h
                      simp only [Int.add_assoc, Int.reduceAdd] at h
                      omega
                    · skip
                      rcases List.mem_cons.mp hx with ex | hx
                      · subst ex
                        obtain ⟨hF, hBd, hM⟩ := hXs
                        have b0 : ((2147483650 : Nat) : Int) ≤ (v2 3) + 2147483648 ∧ (v2 3) + 2147483648 ≤ ((2147483650 : Nat) : Int) := xXb hBd 0 rfl
                        have b1 : ((2147483648 : Nat) : Int) ≤ (v2 4) + 2147483648 ∧ (v2 4) + 2147483648 ≤ ((2147484548 : Nat) : Int) := xXb hBd 1 rfl
                        have b2 : ((2147483648 : Nat) : Int) ≤ (v2 5) + 2147483648 ∧ (v2 5) + 2147483648 ≤ ((2147484542 : Nat) : Int) := xXb hBd 2 rfl
                        have b3 : ((2147483654 : Nat) : Int) ≤ (v2 6) + 2147483648 ∧ (v2 6) + 2147483648 ≤ ((2147483654 : Nat) : Int) := xXb hBd 3 rfl
                        have b4 : ((2147483746 : Nat) : Int) ≤ (v2 7) + 2147483648 ∧ (v2 7) + 2147483648 ≤ ((2147483746 : Nat) : Int) := xXb hBd 4 rfl
                        have b5 : ((2147483759 : Nat) : Int) ≤ (v2 8) + 2147483648 ∧ (v2 8) + 2147483648 ≤ ((2147483759 : Nat) : Int) := xXb hBd 5 rfl
                        have b6 : ((2147483747 : Nat) : Int) ≤ (v2 9) + 2147483648 ∧ (v2 9) + 2147483648 ≤ ((2147483775 : Nat) : Int) := xXb hBd 6 rfl
                        have f0 : (0 : Int) ≤ 7 ∧ xE E 35 7 = (v2 3) := xXf hF 0 rfl
                        have f1 : (v2 3) = 2 := xXf hF 1 rfl
                        have f2 : (0 : Int) ≤ 6 ∧ xE E 35 6 = (v2 4) := xXf hF 2 rfl
                        have f3 : (0 : Int) ≤ 5 ∧ xE E 35 5 = (v2 5) := xXf hF 3 rfl
                        have f4 : -2147483648 ≤ (v2 4) - (v2 5) → (v2 4) - (v2 5) < 2147483648 → (v2 6) = (v2 4) - (v2 5) := xXf hF 4 rfl
                        have f4 := f4 (by omega) (by omega)
                        have f5 : (v2 6) = 6 := xXf hF 5 rfl
                        have f6 : (0 : Int) ≤ (v2 5) ∧ xE E 36 (v2 5) = (v2 7) := xXf hF 6 rfl
                        have f7 : (v2 7) = 98 := xXf hF 7 rfl
                        have f8 : (0 : Int) ≤ (v2 5 + 1) ∧ xE E 36 (v2 5 + 1) = (v2 8) := xXf hF 8 rfl
                        have f9 : (v2 8) = 111 := xXf hF 9 rfl
                        have f10 : (0 : Int) ≤ (v2 5 + 2) ∧ xE E 36 (v2 5 + 2) = (v2 9) := xXf hF 10 rfl
                        have f11 : ¬ (v2 9) = 98 := xXf hF 11 rfl
                        have hI : E = E0 := hInv
                        show xΨfwbo x0 E0 E2 0
                        subst hI
                        unfold xΨfwbo
                        rw [if_neg]
                        intro h
                        unfold sW at h
                        simp only [tWb, Bool.and_true, Bool.and_eq_true, decide_eq_true_eq, List.length_cons, List.length_nil] at h
                        rw [show xE E 35 5 = (v2 5) by omega] at h
                        simp only [Int.add_assoc, Int.reduceAdd] at h
                        omega
                      · skip
                        rcases List.mem_cons.mp hx with ex | hx
                        · subst ex
                          obtain ⟨hF, hBd, hM⟩ := hXs
                          have b0 : ((2147483650 : Nat) : Int) ≤ (v2 3) + 2147483648 ∧ (v2 3) + 2147483648 ≤ ((2147483650 : Nat) : Int) := xXb hBd 0 rfl
                          have b1 : ((2147483648 : Nat) : Int) ≤ (v2 4) + 2147483648 ∧ (v2 4) + 2147483648 ≤ ((2147484548 : Nat) : Int) := xXb hBd 1 rfl
                          have b2 : ((2147483648 : Nat) : Int) ≤ (v2 5) + 2147483648 ∧ (v2 5) + 2147483648 ≤ ((2147484542 : Nat) : Int) := xXb hBd 2 rfl
                          have b3 : ((2147483654 : Nat) : Int) ≤ (v2 6) + 2147483648 ∧ (v2 6) + 2147483648 ≤ ((2147483654 : Nat) : Int) := xXb hBd 3 rfl
                          have b4 : ((2147483746 : Nat) : Int) ≤ (v2 7) + 2147483648 ∧ (v2 7) + 2147483648 ≤ ((2147483746 : Nat) : Int) := xXb hBd 4 rfl
                          have b5 : ((2147483759 : Nat) : Int) ≤ (v2 8) + 2147483648 ∧ (v2 8) + 2147483648 ≤ ((2147483759 : Nat) : Int) := xXb hBd 5 rfl
                          have b6 : ((2147483520 : Nat) : Int) ≤ (v2 9) + 2147483648 ∧ (v2 9) + 2147483648 ≤ ((2147483745 : Nat) : Int) := xXb hBd 6 rfl
                          have f0 : (0 : Int) ≤ 7 ∧ xE E 35 7 = (v2 3) := xXf hF 0 rfl
                          have f1 : (v2 3) = 2 := xXf hF 1 rfl
                          have f2 : (0 : Int) ≤ 6 ∧ xE E 35 6 = (v2 4) := xXf hF 2 rfl
                          have f3 : (0 : Int) ≤ 5 ∧ xE E 35 5 = (v2 5) := xXf hF 3 rfl
                          have f4 : -2147483648 ≤ (v2 4) - (v2 5) → (v2 4) - (v2 5) < 2147483648 → (v2 6) = (v2 4) - (v2 5) := xXf hF 4 rfl
                          have f4 := f4 (by omega) (by omega)
                          have f5 : (v2 6) = 6 := xXf hF 5 rfl
                          have f6 : (0 : Int) ≤ (v2 5) ∧ xE E 36 (v2 5) = (v2 7) := xXf hF 6 rfl
                          have f7 : (v2 7) = 98 := xXf hF 7 rfl
                          have f8 : (0 : Int) ≤ (v2 5 + 1) ∧ xE E 36 (v2 5 + 1) = (v2 8) := xXf hF 8 rfl
                          have f9 : (v2 8) = 111 := xXf hF 9 rfl
                          have f10 : (0 : Int) ≤ (v2 5 + 2) ∧ xE E 36 (v2 5 + 2) = (v2 9) := xXf hF 10 rfl
                          have f11 : ¬ (v2 9) = 98 := xXf hF 11 rfl
                          have hI : E = E0 := hInv
                          show xΨfwbo x0 E0 E2 0
                          subst hI
                          unfold xΨfwbo
                          rw [if_neg]
                          intro h
                          unfold sW at h
                          simp only [tWb, Bool.and_true, Bool.and_eq_true, decide_eq_true_eq, List.length_cons, List.length_nil] at h
                          rw [show xE E 35 5 = (v2 5) by omega] at h
                          simp only [Int.add_assoc, Int.reduceAdd] at h
                          omega
                        · skip
                          rcases List.mem_cons.mp hx with ex | hx
                          · subst ex
                            obtain ⟨hF, hBd, hM⟩ := hXs
                            have b0 : ((2147483650 : Nat) : Int) ≤ (v2 3) + 2147483648 ∧ (v2 3) + 2147483648 ≤ ((2147483650 : Nat) : Int) := xXb hBd 0 rfl
                            have b1 : ((2147483648 : Nat) : Int) ≤ (v2 4) + 2147483648 ∧ (v2 4) + 2147483648 ≤ ((2147484548 : Nat) : Int) := xXb hBd 1 rfl
                            have b2 : ((2147483648 : Nat) : Int) ≤ (v2 5) + 2147483648 ∧ (v2 5) + 2147483648 ≤ ((2147484542 : Nat) : Int) := xXb hBd 2 rfl
                            have b3 : ((2147483654 : Nat) : Int) ≤ (v2 6) + 2147483648 ∧ (v2 6) + 2147483648 ≤ ((2147483654 : Nat) : Int) := xXb hBd 3 rfl
                            have b4 : ((2147483746 : Nat) : Int) ≤ (v2 7) + 2147483648 ∧ (v2 7) + 2147483648 ≤ ((2147483746 : Nat) : Int) := xXb hBd 4 rfl
                            have b5 : ((2147483759 : Nat) : Int) ≤ (v2 8) + 2147483648 ∧ (v2 8) + 2147483648 ≤ ((2147483759 : Nat) : Int) := xXb hBd 5 rfl
                            have b6 : ((2147483746 : Nat) : Int) ≤ (v2 9) + 2147483648 ∧ (v2 9) + 2147483648 ≤ ((2147483746 : Nat) : Int) := xXb hBd 6 rfl
                            have b7 : ((2147483747 : Nat) : Int) ≤ (v2 10) + 2147483648 ∧ (v2 10) + 2147483648 ≤ ((2147483775 : Nat) : Int) := xXb hBd 7 rfl
                            have f0 : (0 : Int) ≤ 7 ∧ xE E 35 7 = (v2 3) := xXf hF 0 rfl
                            have f1 : (v2 3) = 2 := xXf hF 1 rfl
                            have f2 : (0 : Int) ≤ 6 ∧ xE E 35 6 = (v2 4) := xXf hF 2 rfl
                            have f3 : (0 : Int) ≤ 5 ∧ xE E 35 5 = (v2 5) := xXf hF 3 rfl
                            have f4 : -2147483648 ≤ (v2 4) - (v2 5) → (v2 4) - (v2 5) < 2147483648 → (v2 6) = (v2 4) - (v2 5) := xXf hF 4 rfl
                            have f4 := f4 (by omega) (by omega)
                            have f5 : (v2 6) = 6 := xXf hF 5 rfl
                            have f6 : (0 : Int) ≤ (v2 5) ∧ xE E 36 (v2 5) = (v2 7) := xXf hF 6 rfl
                            have f7 : (v2 7) = 98 := xXf hF 7 rfl
                            have f8 : (0 : Int) ≤ (v2 5 + 1) ∧ xE E 36 (v2 5 + 1) = (v2 8) := xXf hF 8 rfl
                            have f9 : (v2 8) = 111 := xXf hF 9 rfl
                            have f10 : (0 : Int) ≤ (v2 5 + 2) ∧ xE E 36 (v2 5 + 2) = (v2 9) := xXf hF 10 rfl
                            have f11 : (v2 9) = 98 := xXf hF 11 rfl
                            have f12 : (0 : Int) ≤ (v2 5 + 3) ∧ xE E 36 (v2 5 + 3) = (v2 10) := xXf hF 12 rfl
                            have f13 : ¬ (v2 10) = 98 := xXf hF 13 rfl
                            have hI : E = E0 := hInv
                            show xΨfwbo x0 E0 E2 0
                            subst hI
                            unfold xΨfwbo
                            rw [if_neg]
                            intro h
                            unfold sW at h
                            simp only [tWb, Bool.and_true, Bool.and_eq_true, decide_eq_true_eq, List.length_cons, List.length_nil] at h
                            rw [show xE E 35 5 = (v2 5) by omega] at h
                            simp only [Int.add_assoc, Int.reduceAdd] at h
                            omega
                          · skip
                            rcases List.mem_cons.mp hx with ex | hx
                            · subst ex
                              obtain ⟨hF, hBd, hM⟩ := hXs
                              have b0 : ((2147483650 : Nat) : Int) ≤ (v2 3) + 2147483648 ∧ (v2 3) + 2147483648 ≤ ((2147483650 : Nat) : Int) := xXb hBd 0 rfl
                              have b1 : ((2147483648 : Nat) : Int) ≤ (v2 4) + 2147483648 ∧ (v2 4) + 2147483648 ≤ ((2147484548 : Nat) : Int) := xXb hBd 1 rfl
                              have b2 : ((2147483648 : Nat) : Int) ≤ (v2 5) + 2147483648 ∧ (v2 5) + 2147483648 ≤ ((2147484542 : Nat) : Int) := xXb hBd 2 rfl
                              have b3 : ((2147483654 : Nat) : Int) ≤ (v2 6) + 2147483648 ∧ (v2 6) + 2147483648 ≤ ((2147483654 : Nat) : Int) := xXb hBd 3 rfl
                              have b4 : ((2147483746 : Nat) : Int) ≤ (v2 7) + 2147483648 ∧ (v2 7) + 2147483648 ≤ ((2147483746 : Nat) : Int) := xXb hBd 4 rfl
                              have b5 : ((2147483759 : Nat) : Int) ≤ (v2 8) + 2147483648 ∧ (v2 8) + 2147483648 ≤ ((2147483759 : Nat) : Int) := xXb hBd 5 rfl
                              have b6 : ((2147483746 : Nat) : Int) ≤ (v2 9) + 2147483648 ∧ (v2 9) + 2147483648 ≤ ((2147483746 : Nat) : Int) := xXb hBd 6 rfl
                              have b7 : ((2147483520 : Nat) : Int) ≤ (v2 10) + 2147483648 ∧ (v2 10) + 2147483648 ≤ ((2147483745 : Nat) : Int) := xXb hBd 7 rfl
                              have f0 : (0 : Int) ≤ 7 ∧ xE E 35 7 = (v2 3) := xXf hF 0 rfl
                              have f1 : (v2 3) = 2 := xXf hF 1 rfl
                              have f2 : (0 : Int) ≤ 6 ∧ xE E 35 6 = (v2 4) := xXf hF 2 rfl
                              have f3 : (0 : Int) ≤ 5 ∧ xE E 35 5 = (v2 5) := xXf hF 3 rfl
                              have f4 : -2147483648 ≤ (v2 4) - (v2 5) → (v2 4) - (v2 5) < 2147483648 → (v2 6) = (v2 4) - (v2 5) := xXf hF 4 rfl
                              have f4 := f4 (by omega) (by omega)
                              have f5 : (v2 6) = 6 := xXf hF 5 rfl
                              have f6 : (0 : Int) ≤ (v2 5) ∧ xE E 36 (v2 5) = (v2 7) := xXf hF 6 rfl
                              have f7 : (v2 7) = 98 := xXf hF 7 rfl
                              have f8 : (0 : Int) ≤ (v2 5 + 1) ∧ xE E 36 (v2 5 + 1) = (v2 8) := xXf hF 8 rfl
                              have f9 : (v2 8) = 111 := xXf hF 9 rfl
                              have f10 : (0 : Int) ≤ (v2 5 + 2) ∧ xE E 36 (v2 5 + 2) = (v2 9) := xXf hF 10 rfl
                              have f11 : (v2 9) = 98 := xXf hF 11 rfl
                              have f12 : (0 : Int) ≤ (v2 5 + 3) ∧ xE E 36 (v2 5 + 3) = (v2 10) := xXf hF 12 rfl
                              have f13 : ¬ (v2 10) = 98 := xXf hF 13 rfl
                              have hI : E = E0 := hInv
                              show xΨfwbo x0 E0 E2 0
                              subst hI
                              unfold xΨfwbo
                              rw [if_neg]
                              intro h
                              unfold sW at h
                              simp only [tWb, Bool.and_true, Bool.and_eq_true, decide_eq_true_eq, List.length_cons, List.length_nil] at h
                              rw [show xE E 35 5 = (v2 5) by omega] at h
                              simp only [Int.add_assoc, Int.reduceAdd] at h
                              omega
                            · skip
                              rcases List.mem_cons.mp hx with ex | hx
                              · subst ex
                                obtain ⟨hF, hBd, hM⟩ := hXs
                                have b0 : ((2147483650 : Nat) : Int) ≤ (v2 3) + 2147483648 ∧ (v2 3) + 2147483648 ≤ ((2147483650 : Nat) : Int) := xXb hBd 0 rfl
                                have b1 : ((2147483648 : Nat) : Int) ≤ (v2 4) + 2147483648 ∧ (v2 4) + 2147483648 ≤ ((2147484548 : Nat) : Int) := xXb hBd 1 rfl
                                have b2 : ((2147483648 : Nat) : Int) ≤ (v2 5) + 2147483648 ∧ (v2 5) + 2147483648 ≤ ((2147484542 : Nat) : Int) := xXb hBd 2 rfl
                                have b3 : ((2147483654 : Nat) : Int) ≤ (v2 6) + 2147483648 ∧ (v2 6) + 2147483648 ≤ ((2147483654 : Nat) : Int) := xXb hBd 3 rfl
                                have b4 : ((2147483746 : Nat) : Int) ≤ (v2 7) + 2147483648 ∧ (v2 7) + 2147483648 ≤ ((2147483746 : Nat) : Int) := xXb hBd 4 rfl
                                have b5 : ((2147483759 : Nat) : Int) ≤ (v2 8) + 2147483648 ∧ (v2 8) + 2147483648 ≤ ((2147483759 : Nat) : Int) := xXb hBd 5 rfl
                                have b6 : ((2147483746 : Nat) : Int) ≤ (v2 9) + 2147483648 ∧ (v2 9) + 2147483648 ≤ ((2147483746 : Nat) : Int) := xXb hBd 6 rfl
                                have b7 : ((2147483746 : Nat) : Int) ≤ (v2 10) + 2147483648 ∧ (v2 10) + 2147483648 ≤ ((2147483746 : Nat) : Int) := xXb hBd 7 rfl
                                have b8 : ((2147483754 : Nat) : Int) ≤ (v2 11) + 2147483648 ∧ (v2 11) + 2147483648 ≤ ((2147483775 : Nat) : Int) := xXb hBd 8 rfl
                                have f0 : (0 : Int) ≤ 7 ∧ xE E 35 7 = (v2 3) := xXf hF 0 rfl
                                have f1 : (v2 3) = 2 := xXf hF 1 rfl
                                have f2 : (0 : Int) ≤ 6 ∧ xE E 35 6 = (v2 4) := xXf hF 2 rfl
                                have f3 : (0 : Int) ≤ 5 ∧ xE E 35 5 = (v2 5) := xXf hF 3 rfl
                                have f4 : -2147483648 ≤ (v2 4) - (v2 5) → (v2 4) - (v2 5) < 2147483648 → (v2 6) = (v2 4) - (v2 5) := xXf hF 4 rfl
                                have f4 := f4 (by omega) (by omega)
                                have f5 : (v2 6) = 6 := xXf hF 5 rfl
                                have f6 : (0 : Int) ≤ (v2 5) ∧ xE E 36 (v2 5) = (v2 7) := xXf hF 6 rfl
                                have f7 : (v2 7) = 98 := xXf hF 7 rfl
                                have f8 : (0 : Int) ≤ (v2 5 + 1) ∧ xE E 36 (v2 5 + 1) = (v2 8) := xXf hF 8 rfl
                                have f9 : (v2 8) = 111 := xXf hF 9 rfl
                                have f10 : (0 : Int) ≤ (v2 5 + 2) ∧ xE E 36 (v2 5 + 2) = (v2 9) := xXf hF 10 rfl
                                have f11 : (v2 9) = 98 := xXf hF 11 rfl
                                have f12 : (0 : Int) ≤ (v2 5 + 3) ∧ xE E 36 (v2 5 + 3) = (v2 10) := xXf hF 12 rfl
                                have f13 : (v2 10) = 98 := xXf hF 13 rfl
                                have f14 : (0 : Int) ≤ (v2 5 + 4) ∧ xE E 36 (v2 5 + 4) = (v2 11) := xXf hF 14 rfl
                                have f15 : ¬ (v2 11) = 105 := xXf hF 15 rfl
                                have hI : E = E0 := hInv
                                show xΨfwbo x0 E0 E2 0
                                subst hI
                                unfold xΨfwbo
                                rw [if_neg]
                                intro h
                                unfold sW at h
                                simp only [tWb, Bool.and_true, Bool.and_eq_true, decide_eq_true_eq, List.length_cons, List.length_nil] at h
                                rw [show xE E 35 5 = (v2 5) by omega] at h
                                simp only [Int.add_assoc, Int.reduceAdd] at h
                                omega
                              · skip
                                rcases List.mem_cons.mp hx with ex | hx
                                · subst ex
                                  obtain ⟨hF, hBd, hM⟩ := hXs
                                  have b0 : ((2147483650 : Nat) : Int) ≤ (v2 3) + 2147483648 ∧ (v2 3) + 2147483648 ≤ ((2147483650 : Nat) : Int) := xXb hBd 0 rfl
                                  have b1 : ((2147483648 : Nat) : Int) ≤ (v2 4) + 2147483648 ∧ (v2 4) + 2147483648 ≤ ((2147484548 : Nat) : Int) := xXb hBd 1 rfl
                                  have b2 : ((2147483648 : Nat) : Int) ≤ (v2 5) + 2147483648 ∧ (v2 5) + 2147483648 ≤ ((2147484542 : Nat) : Int) := xXb hBd 2 rfl
                                  have b3 : ((2147483654 : Nat) : Int) ≤ (v2 6) + 2147483648 ∧ (v2 6) + 2147483648 ≤ ((2147483654 : Nat) : Int) := xXb hBd 3 rfl
                                  have b4 : ((2147483746 : Nat) : Int) ≤ (v2 7) + 2147483648 ∧ (v2 7) + 2147483648 ≤ ((2147483746 : Nat) : Int) := xXb hBd 4 rfl
                                  have b5 : ((2147483759 : Nat) : Int) ≤ (v2 8) + 2147483648 ∧ (v2 8) + 2147483648 ≤ ((2147483759 : Nat) : Int) := xXb hBd 5 rfl
                                  have b6 : ((2147483746 : Nat) : Int) ≤ (v2 9) + 2147483648 ∧ (v2 9) + 2147483648 ≤ ((2147483746 : Nat) : Int) := xXb hBd 6 rfl
                                  have b7 : ((2147483746 : Nat) : Int) ≤ (v2 10) + 2147483648 ∧ (v2 10) + 2147483648 ≤ ((2147483746 : Nat) : Int) := xXb hBd 7 rfl
                                  have b8 : ((2147483520 : Nat) : Int) ≤ (v2 11) + 2147483648 ∧ (v2 11) + 2147483648 ≤ ((2147483752 : Nat) : Int) := xXb hBd 8 rfl
                                  have f0 : (0 : Int) ≤ 7 ∧ xE E 35 7 = (v2 3) := xXf hF 0 rfl
                                  have f1 : (v2 3) = 2 := xXf hF 1 rfl
                                  have f2 : (0 : Int) ≤ 6 ∧ xE E 35 6 = (v2 4) := xXf hF 2 rfl
                                  have f3 : (0 : Int) ≤ 5 ∧ xE E 35 5 = (v2 5) := xXf hF 3 rfl
                                  have f4 : -2147483648 ≤ (v2 4) - (v2 5) → (v2 4) - (v2 5) < 2147483648 → (v2 6) = (v2 4) - (v2 5) := xXf hF 4 rfl
                                  have f4 := f4 (by omega) (by omega)
                                  have f5 : (v2 6) = 6 := xXf hF 5 rfl
                                  have f6 : (0 : Int) ≤ (v2 5) ∧ xE E 36 (v2 5) = (v2 7) := xXf hF 6 rfl
                                  have f7 : (v2 7) = 98 := xXf hF 7 rfl
                                  have f8 : (0 : Int) ≤ (v2 5 + 1) ∧ xE E 36 (v2 5 + 1) = (v2 8) := xXf hF 8 rfl
                                  have f9 : (v2 8) = 111 := xXf hF 9 rfl
                                  have f10 : (0 : Int) ≤ (v2 5 + 2) ∧ xE E 36 (v2 5 + 2) = (v2 9) := xXf hF 10 rfl
                                  have f11 : (v2 9) = 98 := xXf hF 11 rfl
                                  have f12 : (0 : Int) ≤ (v2 5 + 3) ∧ xE E 36 (v2 5 + 3) = (v2 10) := xXf hF 12 rfl
                                  have f13 : (v2 10) = 98 := xXf hF 13 rfl
                                  have f14 : (0 : Int) ≤ (v2 5 + 4) ∧ xE E 36 (v2 5 + 4) = (v2 11) := xXf hF 14 rfl
                                  have f15 : ¬ (v2 11) = 105 := xXf hF 15 rfl
                                  have hI : E = E0 := hInv
                                  show xΨfwbo x0 E0 E2 0
                                  subst hI
                                  unfold xΨfwbo
                                  rw [if_neg]
                                  intro h
                                  unfold sW at h
                                  simp only [tWb, Bool.and_true, Bool.and_eq_true, decide_eq_true_eq, List.length_cons, List.length_nil] at h
                                  rw [show xE E 35 5 = (v2 5) by omega] at h
                                  simp only [Int.add_assoc, Int.reduceAdd] at h
                                  omega
                                · skip
                                  rcases List.mem_cons.mp hx with ex | hx
                                  · subst ex
                                    obtain ⟨hF, hBd, hM⟩ := hXs
                                    have b0 : ((2147483650 : Nat) : Int) ≤ (v2 3) + 2147483648 ∧ (v2 3) + 2147483648 ≤ ((2147483650 : Nat) : Int) := xXb hBd 0 rfl
                                    have b1 : ((2147483648 : Nat) : Int) ≤ (v2 4) + 2147483648 ∧ (v2 4) + 2147483648 ≤ ((2147484548 : Nat) : Int) := xXb hBd 1 rfl
                                    have b2 : ((2147483648 : Nat) : Int) ≤ (v2 5) + 2147483648 ∧ (v2 5) + 2147483648 ≤ ((2147484542 : Nat) : Int) := xXb hBd 2 rfl
                                    have b3 : ((2147483654 : Nat) : Int) ≤ (v2 6) + 2147483648 ∧ (v2 6) + 2147483648 ≤ ((2147483654 : Nat) : Int) := xXb hBd 3 rfl
                                    have b4 : ((2147483746 : Nat) : Int) ≤ (v2 7) + 2147483648 ∧ (v2 7) + 2147483648 ≤ ((2147483746 : Nat) : Int) := xXb hBd 4 rfl
                                    have b5 : ((2147483759 : Nat) : Int) ≤ (v2 8) + 2147483648 ∧ (v2 8) + 2147483648 ≤ ((2147483759 : Nat) : Int) := xXb hBd 5 rfl
                                    have b6 : ((2147483746 : Nat) : Int) ≤ (v2 9) + 2147483648 ∧ (v2 9) + 2147483648 ≤ ((2147483746 : Nat) : Int) := xXb hBd 6 rfl
                                    have b7 : ((2147483746 : Nat) : Int) ≤ (v2 10) + 2147483648 ∧ (v2 10) + 2147483648 ≤ ((2147483746 : Nat) : Int) := xXb hBd 7 rfl
                                    have b8 : ((2147483753 : Nat) : Int) ≤ (v2 11) + 2147483648 ∧ (v2 11) + 2147483648 ≤ ((2147483753 : Nat) : Int) := xXb hBd 8 rfl
                                    have b9 : ((2147483759 : Nat) : Int) ≤ (v2 12) + 2147483648 ∧ (v2 12) + 2147483648 ≤ ((2147483775 : Nat) : Int) := xXb hBd 9 rfl
                                    have f0 : (0 : Int) ≤ 7 ∧ xE E 35 7 = (v2 3) := xXf hF 0 rfl
                                    have f1 : (v2 3) = 2 := xXf hF 1 rfl
                                    have f2 : (0 : Int) ≤ 6 ∧ xE E 35 6 = (v2 4) := xXf hF 2 rfl
                                    have f3 : (0 : Int) ≤ 5 ∧ xE E 35 5 = (v2 5) := xXf hF 3 rfl
                                    have f4 : -2147483648 ≤ (v2 4) - (v2 5) → (v2 4) - (v2 5) < 2147483648 → (v2 6) = (v2 4) - (v2 5) := xXf hF 4 rfl
                                    have f4 := f4 (by omega) (by omega)
                                    have f5 : (v2 6) = 6 := xXf hF 5 rfl
                                    have f6 : (0 : Int) ≤ (v2 5) ∧ xE E 36 (v2 5) = (v2 7) := xXf hF 6 rfl
                                    have f7 : (v2 7) = 98 := xXf hF 7 rfl
                                    have f8 : (0 : Int) ≤ (v2 5 + 1) ∧ xE E 36 (v2 5 + 1) = (v2 8) := xXf hF 8 rfl
                                    have f9 : (v2 8) = 111 := xXf hF 9 rfl
                                    have f10 : (0 : Int) ≤ (v2 5 + 2) ∧ xE E 36 (v2 5 + 2) = (v2 9) := xXf hF 10 rfl
                                    have f11 : (v2 9) = 98 := xXf hF 11 rfl
                                    have f12 : (0 : Int) ≤ (v2 5 + 3) ∧ xE E 36 (v2 5 + 3) = (v2 10) := xXf hF 12 rfl
                                    have f13 : (v2 10) = 98 := xXf hF 13 rfl
                                    have f14 : (0 : Int) ≤ (v2 5 + 4) ∧ xE E 36 (v2 5 + 4) = (v2 11) := xXf hF 14 rfl
                                    have f15 : (v2 11) = 105 := xXf hF 15 rfl
                                    have f16 : (0 : Int) ≤ (v2 5 + 5) ∧ xE E 36 (v2 5 + 5) = (v2 12) := xXf hF 16 rfl
                                    have f17 : ¬ (v2 12) = 110 := xXf hF 17 rfl
                                    have hI : E = E0 := hInv
                                    show xΨfwbo x0 E0 E2 0
                                    subst hI
                                    unfold xΨfwbo
                                    rw [if_neg]
                                    intro h
                                    unfold sW at h
                                    simp only [tWb, Bool.and_true, Bool.and_eq_true, decide_eq_true_eq, List.length_cons, List.length_nil] at h
                                    rw [show xE E 35 5 = (v2 5) by omega] at h
                                    simp only [Int.add_assoc, Int.reduceAdd] at h
                                    omega
                                  · skip
                                    rcases List.mem_cons.mp hx with ex | hx
                                    · subst ex
                                      obtain ⟨hF, hBd, hM⟩ := hXs
                                      have b0 : ((2147483650 : Nat) : Int) ≤ (v2 3) + 2147483648 ∧ (v2 3) + 2147483648 ≤ ((2147483650 : Nat) : Int) := xXb hBd 0 rfl
                                      have b1 : ((2147483648 : Nat) : Int) ≤ (v2 4) + 2147483648 ∧ (v2 4) + 2147483648 ≤ ((2147484548 : Nat) : Int) := xXb hBd 1 rfl
                                      have b2 : ((2147483648 : Nat) : Int) ≤ (v2 5) + 2147483648 ∧ (v2 5) + 2147483648 ≤ ((2147484542 : Nat) : Int) := xXb hBd 2 rfl
                                      have b3 : ((2147483654 : Nat) : Int) ≤ (v2 6) + 2147483648 ∧ (v2 6) + 2147483648 ≤ ((2147483654 : Nat) : Int) := xXb hBd 3 rfl
                                      have b4 : ((2147483746 : Nat) : Int) ≤ (v2 7) + 2147483648 ∧ (v2 7) + 2147483648 ≤ ((2147483746 : Nat) : Int) := xXb hBd 4 rfl
                                      have b5 : ((2147483759 : Nat) : Int) ≤ (v2 8) + 2147483648 ∧ (v2 8) + 2147483648 ≤ ((2147483759 : Nat) : Int) := xXb hBd 5 rfl
                                      have b6 : ((2147483746 : Nat) : Int) ≤ (v2 9) + 2147483648 ∧ (v2 9) + 2147483648 ≤ ((2147483746 : Nat) : Int) := xXb hBd 6 rfl
                                      have b7 : ((2147483746 : Nat) : Int) ≤ (v2 10) + 2147483648 ∧ (v2 10) + 2147483648 ≤ ((2147483746 : Nat) : Int) := xXb hBd 7 rfl
                                      have b8 : ((2147483753 : Nat) : Int) ≤ (v2 11) + 2147483648 ∧ (v2 11) + 2147483648 ≤ ((2147483753 : Nat) : Int) := xXb hBd 8 rfl
                                      have b9 : ((2147483520 : Nat) : Int) ≤ (v2 12) + 2147483648 ∧ (v2 12) + 2147483648 ≤ ((2147483757 : Nat) : Int) := xXb hBd 9 rfl
                                      have f0 : (0 : Int) ≤ 7 ∧ xE E 35 7 = (v2 3) := xXf hF 0 rfl
                                      have f1 : (v2 3) = 2 := xXf hF 1 rfl
                                      have f2 : (0 : Int) ≤ 6 ∧ xE E 35 6 = (v2 4) := xXf hF 2 rfl
                                      have f3 : (0 : Int) ≤ 5 ∧ xE E 35 5 = (v2 5) := xXf hF 3 rfl
                                      have f4 : -2147483648 ≤ (v2 4) - (v2 5) → (v2 4) - (v2 5) < 2147483648 → (v2 6) = (v2 4) - (v2 5) := xXf hF 4 rfl
                                      have f4 := f4 (by omega) (by omega)
                                      have f5 : (v2 6) = 6 := xXf hF 5 rfl
                                      have f6 : (0 : Int) ≤ (v2 5) ∧ xE E 36 (v2 5) = (v2 7) := xXf hF 6 rfl
                                      have f7 : (v2 7) = 98 := xXf hF 7 rfl
                                      have f8 : (0 : Int) ≤ (v2 5 + 1) ∧ xE E 36 (v2 5 + 1) = (v2 8) := xXf hF 8 rfl
                                      have f9 : (v2 8) = 111 := xXf hF 9 rfl
                                      have f10 : (0 : Int) ≤ (v2 5 + 2) ∧ xE E 36 (v2 5 + 2) = (v2 9) := xXf hF 10 rfl
                                      have f11 : (v2 9) = 98 := xXf hF 11 rfl
                                      have f12 : (0 : Int) ≤ (v2 5 + 3) ∧ xE E 36 (v2 5 + 3) = (v2 10) := xXf hF 12 rfl
                                      have f13 : (v2 10) = 98 := xXf hF 13 rfl
                                      have f14 : (0 : Int) ≤ (v2 5 + 4) ∧ xE E 36 (v2 5 + 4) = (v2 11) := xXf hF 14 rfl
                                      have f15 : (v2 11) = 105 := xXf hF 15 rfl
                                      have f16 : (0 : Int) ≤ (v2 5 + 5) ∧ xE E 36 (v2 5 + 5) = (v2 12) := xXf hF 16 rfl
                                      have f17 : ¬ (v2 12) = 110 := xXf hF 17 rfl
                                      have hI : E = E0 := hInv
                                      show xΨfwbo x0 E0 E2 0
                                      subst hI
                                      unfold xΨfwbo
                                      rw [if_neg]
                                      intro h
                                      unfold sW at h
                                      simp only [tWb, Bool.and_true, Bool.and_eq_true, decide_eq_true_eq, List.length_cons, List.length_nil] at h
                                      rw [show xE E 35 5 = (v2 5) by omega] at h
                                      simp only [Int.add_assoc, Int.reduceAdd] at h
                                      omega
                                    · skip
                                      have ex := List.mem_singleton.mp hx
                                      subst ex
                                      obtain ⟨hF, hBd, hM⟩ := hXs
                                      have b0 : ((2147483650 : Nat) : Int) ≤ (v2 3) + 2147483648 ∧ (v2 3) + 2147483648 ≤ ((2147483650 : Nat) : Int) := xXb hBd 0 rfl
                                      have b1 : ((2147483648 : Nat) : Int) ≤ (v2 4) + 2147483648 ∧ (v2 4) + 2147483648 ≤ ((2147484548 : Nat) : Int) := xXb hBd 1 rfl
                                      have b2 : ((2147483648 : Nat) : Int) ≤ (v2 5) + 2147483648 ∧ (v2 5) + 2147483648 ≤ ((2147484542 : Nat) : Int) := xXb hBd 2 rfl
                                      have b3 : ((2147483654 : Nat) : Int) ≤ (v2 6) + 2147483648 ∧ (v2 6) + 2147483648 ≤ ((2147483654 : Nat) : Int) := xXb hBd 3 rfl
                                      have b4 : ((2147483746 : Nat) : Int) ≤ (v2 7) + 2147483648 ∧ (v2 7) + 2147483648 ≤ ((2147483746 : Nat) : Int) := xXb hBd 4 rfl
                                      have b5 : ((2147483759 : Nat) : Int) ≤ (v2 8) + 2147483648 ∧ (v2 8) + 2147483648 ≤ ((2147483759 : Nat) : Int) := xXb hBd 5 rfl
                                      have b6 : ((2147483746 : Nat) : Int) ≤ (v2 9) + 2147483648 ∧ (v2 9) + 2147483648 ≤ ((2147483746 : Nat) : Int) := xXb hBd 6 rfl
                                      have b7 : ((2147483746 : Nat) : Int) ≤ (v2 10) + 2147483648 ∧ (v2 10) + 2147483648 ≤ ((2147483746 : Nat) : Int) := xXb hBd 7 rfl
                                      have b8 : ((2147483753 : Nat) : Int) ≤ (v2 11) + 2147483648 ∧ (v2 11) + 2147483648 ≤ ((2147483753 : Nat) : Int) := xXb hBd 8 rfl
                                      have b9 : ((2147483758 : Nat) : Int) ≤ (v2 12) + 2147483648 ∧ (v2 12) + 2147483648 ≤ ((2147483758 : Nat) : Int) := xXb hBd 9 rfl
                                      have f0 : (0 : Int) ≤ 7 ∧ xE E 35 7 = (v2 3) := xXf hF 0 rfl
                                      have f1 : (v2 3) = 2 := xXf hF 1 rfl
                                      have f2 : (0 : Int) ≤ 6 ∧ xE E 35 6 = (v2 4) := xXf hF 2 rfl
                                      have f3 : (0 : Int) ≤ 5 ∧ xE E 35 5 = (v2 5) := xXf hF 3 rfl
                                      have f4 : -2147483648 ≤ (v2 4) - (v2 5) → (v2 4) - (v2 5) < 2147483648 → (v2 6) = (v2 4) - (v2 5) := xXf hF 4 rfl
                                      have f4 := f4 (by omega) (by omega)
                                      have f5 : (v2 6) = 6 := xXf hF 5 rfl
                                      have f6 : (0 : Int) ≤ (v2 5) ∧ xE E 36 (v2 5) = (v2 7) := xXf hF 6 rfl
                                      have f7 : (v2 7) = 98 := xXf hF 7 rfl
                                      have f8 : (0 : Int) ≤ (v2 5 + 1) ∧ xE E 36 (v2 5 + 1) = (v2 8) := xXf hF 8 rfl
                                      have f9 : (v2 8) = 111 := xXf hF 9 rfl
                                      have f10 : (0 : Int) ≤ (v2 5 + 2) ∧ xE E 36 (v2 5 + 2) = (v2 9) := xXf hF 10 rfl
                                      have f11 : (v2 9) = 98 := xXf hF 11 rfl
                                      have f12 : (0 : Int) ≤ (v2 5 + 3) ∧ xE E 36 (v2 5 + 3) = (v2 10) := xXf hF 12 rfl
                                      have f13 : (v2 10) = 98 := xXf hF 13 rfl
                                      have f14 : (0 : Int) ≤ (v2 5 + 4) ∧ xE E 36 (v2 5 + 4) = (v2 11) := xXf hF 14 rfl
                                      have f15 : (v2 11) = 105 := xXf hF 15 rfl
                                      have f16 : (0 : Int) ≤ (v2 5 + 5) ∧ xE E 36 (v2 5 + 5) = (v2 12) := xXf hF 16 rfl
                                      have f17 : (v2 12) = 110 := xXf hF 17 rfl
                                      have hI : E = E0 := hInv
                                      show xΨfwbo x0 E0 E2 1
                                      subst hI
                                      unfold xΨfwbo
                                      rw [if_pos]
                                      unfold sW
                                      simp only [tWb, Bool.and_true, Bool.and_eq_true, decide_eq_true_eq, List.length_cons, List.length_nil]
                                      rw [show xE E 35 5 = (v2 5) by omega]
                                      simp only [Int.add_assoc, Int.reduceAdd]
                                      refine ⟨by omega, by omega, ?_⟩
                                      refine ⟨by omega, by omega, by omega, by omega, by omega, by omega⟩
noncomputable def zxfwst_ar0 : zyXp := (0, [], [0], [(24, 103079215105, 35, 56), (23, 0, 103079215105, 16)], [(103079215105, 2147483651, 2147483653)], [])
noncomputable def zxfwst_ar1 : zyXp := (0, [], [0], [(24, 103079215105, 35, 56), (23, 0, 103079215105, 16)], [(103079215105, 2147483648, 2147483649)], [])
noncomputable def zxfwst_ar2 : zyXp := (0, [], [0], [(24, 103079215105, 35, 56), (22, 0, 103079215105, 16), (24, 137438953473, 35, 48), (24, 171798691841, 35, 40), (2, 206158430209, 137438953473, 171798691841), (23, 0, 206158430209, 40)], [(103079215105, 2147483650, 2147483650), (137438953473, 2147483648, 2147484548), (171798691841, 2147483648, 2147484548), (206158430209, 2147483654, 2147484548)], [])
noncomputable def zxfwst_ar3 : zyXp := (0, [], [0], [(24, 103079215105, 35, 56), (22, 0, 103079215105, 16), (24, 137438953473, 35, 48), (24, 171798691841, 35, 40), (2, 206158430209, 137438953473, 171798691841), (23, 0, 206158430209, 40)], [(103079215105, 2147483650, 2147483650), (137438953473, 2147483648, 2147484548), (171798691841, 2147483648, 2147484548), (206158430209, 2147482748, 2147483652)], [])
noncomputable def zxfwst_ar4 : zyXp := (0, [], [0], [(24, 103079215105, 35, 56), (22, 0, 103079215105, 16), (24, 137438953473, 35, 48), (24, 171798691841, 35, 40), (2, 206158430209, 137438953473, 171798691841), (22, 0, 206158430209, 40), (24, 240518168577, 36, 171798691841), (23, 0, 240518168577, 920)], [(103079215105, 2147483650, 2147483650), (137438953473, 2147483648, 2147484548), (171798691841, 2147483648, 2147484543), (206158430209, 2147483653, 2147483653), (240518168577, 2147483764, 2147483775)], [])
noncomputable def zxfwst_ar5 : zyXp := (0, [], [0], [(24, 103079215105, 35, 56), (22, 0, 103079215105, 16), (24, 137438953473, 35, 48), (24, 171798691841, 35, 40), (2, 206158430209, 137438953473, 171798691841), (22, 0, 206158430209, 40), (24, 240518168577, 36, 171798691841), (23, 0, 240518168577, 920)], [(103079215105, 2147483650, 2147483650), (137438953473, 2147483648, 2147484548), (171798691841, 2147483648, 2147484543), (206158430209, 2147483653, 2147483653), (240518168577, 2147483520, 2147483762)], [])
noncomputable def zxfwst_ar6 : zyXp := (0, [], [0], [(24, 103079215105, 35, 56), (22, 0, 103079215105, 16), (24, 137438953473, 35, 48), (24, 171798691841, 35, 40), (2, 206158430209, 137438953473, 171798691841), (22, 0, 206158430209, 40), (24, 240518168577, 36, 171798691841), (22, 0, 240518168577, 920), (24, 274877906945, 36, 171798691849), (23, 0, 274877906945, 928)], [(103079215105, 2147483650, 2147483650), (137438953473, 2147483648, 2147484548), (171798691841, 2147483648, 2147484543), (206158430209, 2147483653, 2147483653), (240518168577, 2147483763, 2147483763), (274877906945, 2147483765, 2147483775)], [])
noncomputable def zxfwst_ar7 : zyXp := (0, [], [0], [(24, 103079215105, 35, 56), (22, 0, 103079215105, 16), (24, 137438953473, 35, 48), (24, 171798691841, 35, 40), (2, 206158430209, 137438953473, 171798691841), (22, 0, 206158430209, 40), (24, 240518168577, 36, 171798691841), (22, 0, 240518168577, 920), (24, 274877906945, 36, 171798691849), (23, 0, 274877906945, 928)], [(103079215105, 2147483650, 2147483650), (137438953473, 2147483648, 2147484548), (171798691841, 2147483648, 2147484543), (206158430209, 2147483653, 2147483653), (240518168577, 2147483763, 2147483763), (274877906945, 2147483520, 2147483763)], [])
noncomputable def zxfwst_ar8 : zyXp := (0, [], [0], [(24, 103079215105, 35, 56), (22, 0, 103079215105, 16), (24, 137438953473, 35, 48), (24, 171798691841, 35, 40), (2, 206158430209, 137438953473, 171798691841), (22, 0, 206158430209, 40), (24, 240518168577, 36, 171798691841), (22, 0, 240518168577, 920), (24, 274877906945, 36, 171798691849), (22, 0, 274877906945, 928), (24, 309237645313, 36, 171798691857), (23, 0, 309237645313, 936)], [(103079215105, 2147483650, 2147483650), (137438953473, 2147483648, 2147484548), (171798691841, 2147483648, 2147484543), (206158430209, 2147483653, 2147483653), (240518168577, 2147483763, 2147483763), (274877906945, 2147483764, 2147483764), (309237645313, 2147483766, 2147483775)], [])
noncomputable def zxfwst_ar9 : zyXp := (0, [], [0], [(24, 103079215105, 35, 56), (22, 0, 103079215105, 16), (24, 137438953473, 35, 48), (24, 171798691841, 35, 40), (2, 206158430209, 137438953473, 171798691841), (22, 0, 206158430209, 40), (24, 240518168577, 36, 171798691841), (22, 0, 240518168577, 920), (24, 274877906945, 36, 171798691849), (22, 0, 274877906945, 928), (24, 309237645313, 36, 171798691857), (23, 0, 309237645313, 936)], [(103079215105, 2147483650, 2147483650), (137438953473, 2147483648, 2147484548), (171798691841, 2147483648, 2147484543), (206158430209, 2147483653, 2147483653), (240518168577, 2147483763, 2147483763), (274877906945, 2147483764, 2147483764), (309237645313, 2147483520, 2147483764)], [])
noncomputable def zxfwst_ar10 : zyXp := (0, [], [0], [(24, 103079215105, 35, 56), (22, 0, 103079215105, 16), (24, 137438953473, 35, 48), (24, 171798691841, 35, 40), (2, 206158430209, 137438953473, 171798691841), (22, 0, 206158430209, 40), (24, 240518168577, 36, 171798691841), (22, 0, 240518168577, 920), (24, 274877906945, 36, 171798691849), (22, 0, 274877906945, 928), (24, 309237645313, 36, 171798691857), (22, 0, 309237645313, 936), (24, 343597383681, 36, 171798691865), (23, 0, 343597383681, 792)], [(103079215105, 2147483650, 2147483650), (137438953473, 2147483648, 2147484548), (171798691841, 2147483648, 2147484543), (206158430209, 2147483653, 2147483653), (240518168577, 2147483763, 2147483763), (274877906945, 2147483764, 2147483764), (309237645313, 2147483765, 2147483765), (343597383681, 2147483748, 2147483775)], [])
noncomputable def zxfwst_ar11 : zyXp := (0, [], [0], [(24, 103079215105, 35, 56), (22, 0, 103079215105, 16), (24, 137438953473, 35, 48), (24, 171798691841, 35, 40), (2, 206158430209, 137438953473, 171798691841), (22, 0, 206158430209, 40), (24, 240518168577, 36, 171798691841), (22, 0, 240518168577, 920), (24, 274877906945, 36, 171798691849), (22, 0, 274877906945, 928), (24, 309237645313, 36, 171798691857), (22, 0, 309237645313, 936), (24, 343597383681, 36, 171798691865), (23, 0, 343597383681, 792)], [(103079215105, 2147483650, 2147483650), (137438953473, 2147483648, 2147484548), (171798691841, 2147483648, 2147484543), (206158430209, 2147483653, 2147483653), (240518168577, 2147483763, 2147483763), (274877906945, 2147483764, 2147483764), (309237645313, 2147483765, 2147483765), (343597383681, 2147483520, 2147483746)], [])
noncomputable def zxfwst_ar12 : zyXp := (0, [], [0], [(24, 103079215105, 35, 56), (22, 0, 103079215105, 16), (24, 137438953473, 35, 48), (24, 171798691841, 35, 40), (2, 206158430209, 137438953473, 171798691841), (22, 0, 206158430209, 40), (24, 240518168577, 36, 171798691841), (22, 0, 240518168577, 920), (24, 274877906945, 36, 171798691849), (22, 0, 274877906945, 928), (24, 309237645313, 36, 171798691857), (22, 0, 309237645313, 936), (24, 343597383681, 36, 171798691865), (22, 0, 343597383681, 792), (24, 377957122049, 36, 171798691873), (23, 0, 377957122049, 856)], [(103079215105, 2147483650, 2147483650), (137438953473, 2147483648, 2147484548), (171798691841, 2147483648, 2147484543), (206158430209, 2147483653, 2147483653), (240518168577, 2147483763, 2147483763), (274877906945, 2147483764, 2147483764), (309237645313, 2147483765, 2147483765), (343597383681, 2147483747, 2147483747), (377957122049, 2147483756, 2147483775)], [])
noncomputable def zxfwst_ar13 : zyXp := (0, [], [0], [(24, 103079215105, 35, 56), (22, 0, 103079215105, 16), (24, 137438953473, 35, 48), (24, 171798691841, 35, 40), (2, 206158430209, 137438953473, 171798691841), (22, 0, 206158430209, 40), (24, 240518168577, 36, 171798691841), (22, 0, 240518168577, 920), (24, 274877906945, 36, 171798691849), (22, 0, 274877906945, 928), (24, 309237645313, 36, 171798691857), (22, 0, 309237645313, 936), (24, 343597383681, 36, 171798691865), (22, 0, 343597383681, 792), (24, 377957122049, 36, 171798691873), (23, 0, 377957122049, 856)], [(103079215105, 2147483650, 2147483650), (137438953473, 2147483648, 2147484548), (171798691841, 2147483648, 2147484543), (206158430209, 2147483653, 2147483653), (240518168577, 2147483763, 2147483763), (274877906945, 2147483764, 2147483764), (309237645313, 2147483765, 2147483765), (343597383681, 2147483747, 2147483747), (377957122049, 2147483520, 2147483754)], [])
noncomputable def zxfwst_ar14 : zyXp := (0, [], [8], [(24, 103079215105, 35, 56), (22, 0, 103079215105, 16), (24, 137438953473, 35, 48), (24, 171798691841, 35, 40), (2, 206158430209, 137438953473, 171798691841), (22, 0, 206158430209, 40), (24, 240518168577, 36, 171798691841), (22, 0, 240518168577, 920), (24, 274877906945, 36, 171798691849), (22, 0, 274877906945, 928), (24, 309237645313, 36, 171798691857), (22, 0, 309237645313, 936), (24, 343597383681, 36, 171798691865), (22, 0, 343597383681, 792), (24, 377957122049, 36, 171798691873), (22, 0, 377957122049, 856)], [(103079215105, 2147483650, 2147483650), (137438953473, 2147483648, 2147484548), (171798691841, 2147483648, 2147484543), (206158430209, 2147483653, 2147483653), (240518168577, 2147483763, 2147483763), (274877906945, 2147483764, 2147483764), (309237645313, 2147483765, 2147483765), (343597383681, 2147483747, 2147483747), (377957122049, 2147483755, 2147483755)], [])
noncomputable def zpfwst_a : zyPh := (0, [283, 800027, 13], [(0, 4294967295), (0, 4294967295), (0, 4294967295)], [], [])
noncomputable def zpfwst (i : Nat) : zyPh := zpfwst_a
noncomputable def zXfwst (i : Nat) : List zyXp := []
noncomputable def zRfwst (i : Nat) : List zyXp := [zxfwst_ar0, zxfwst_ar1, zxfwst_ar2, zxfwst_ar3, zxfwst_ar4, zxfwst_ar5, zxfwst_ar6, zxfwst_ar7, zxfwst_ar8, zxfwst_ar9, zxfwst_ar10, zxfwst_ar11, zxfwst_ar12, zxfwst_ar13, zxfwst_ar14]
noncomputable def zFfwst (i : Nat) : zyR := []
noncomputable def zSfwst (i : Nat) : Nat := 0
def xΨfwst (_ : Nat → Int) (E E2 : zyEm) (r : Int) : Prop := r = if sW (xE E 36) (xE E 35 7) (xE E 35 5) (xE E 35 6) [115, 116, 117, 99, 107] = true then 1 else 0
noncomputable def fpfwst : zyR := []
theorem zyfwst_run : zyrS zymc zxi72 (72, 0, 0, 2, 0) 6 zpfwst (fun _ _ => []) zFfwst zSfwst zXfwst zRfwst 1 = true := by decide +kernel
theorem zyfwst_ck : zyAll (fun i => xsubR (zFfwst i) fpfwst && ((zXfwst i).all xckX && (zRfwst i).all (fun x => xckX x && xrtB true x))) 1 = true := by decide +kernel
def xIfwst (i : Nat) (x0 : Nat → Int) (E0 : zyEm) (v : Nat → Int) (E : zyEm) : Prop := (E = E0)
def xMfwst (i : Nat) (x0 : Nat → Int) (E0 : zyEm) (v : Nat → Int) (E : zyEm) : Nat := (0)
theorem xWstuck {l : Launch} {en : zEn} {me : zMe} (hen : zG zxMeta 72 = some en) (hme : zG zMeth 72 = some me) : xFc l zymc en me 6 [35, 100003] 0 fpfwst true xΦ0 xΨfwst := by
  have een : zG zxMeta 72 = some (zxi72, 2, 3, 5, 72, 0, 0, 2, 0) := rfl
  obtain ⟨me1, hme1, hOK⟩ := zall hen
  rw [hme] at hme1
  cases hme1
  rw [een] at hen
  cases hen
  have hr := zyfwst_run
  have hck := fun i hi => zyAll_iff zyfwst_ck i hi
  simp only [Bool.and_eq_true] at hck
  intro B
  refine xcut (mi := zymc) (B := B) hOK rfl rfl (ι := Fin 1) (fun i => zpfwst i.val) (fun _ _ => []) (fun i => zFfwst i.val) (fun i => zSfwst i.val) (fun i => zXfwst i.val) (fun i => zRfwst i.val) (fun i y2 ct en2 me2 h => by cases h) 200000 (fun i => zyAll_iff hr i.val i.isLt) (fun i => (hck i.val i.isLt).1) (fun i => (hck i.val i.isLt).2.1) (fun i => (hck i.val i.isLt).2.2) ⟨0, by decide⟩ ⟨rfl, rfl, rfl, rfl⟩ ⟨by decide, by decide⟩ (fun i x0 E0 v E => xIfwst i.val x0 E0 v E) (fun i x0 E0 v E => xMfwst i.val x0 E0 v E) ?_ ?_ ?_
  · intro x0 E hx0 hT hΦ
    have hΦ : xΦ0 x0 E := hΦ
    refine ⟨fun k p hp => ?_, ?_⟩
    · have hk : k < 3 := (List.getElem?_eq_some_iff.mp hp).1
      have hk : k = 0 ∨ k = 1 ∨ k = 2 := by omega
      rcases hk with rfl | rfl | rfl
      · have hp : some (0, 4294967295) = some p := hp
        cases hp
        show ((0 : Nat) : Int) ≤ 0 + 2147483648 ∧ 0 + 2147483648 ≤ ((4294967295 : Nat) : Int)
        omega
      · have hp : some (0, 4294967295) = some p := hp
        cases hp
        show ((0 : Nat) : Int) ≤ 0 + 2147483648 ∧ 0 + 2147483648 ≤ ((4294967295 : Nat) : Int)
        omega
      · have hp : some (0, 4294967295) = some p := hp
        cases hp
        show ((0 : Nat) : Int) ≤ x0 0 + 2147483648 ∧ x0 0 + 2147483648 ≤ ((4294967295 : Nat) : Int)
        have hx := hx0 0
        omega
    · show E = E
      rfl
  · intro x0 s Wg hRu hrx hT0 hΦ i v H hT hrv hInv hKc hFr0 hIH x hx ρ2 v2 N2 H2 locs lsB stA hAt hB hv hr2 hXs hag hfr hFr hT2
    rcases i with ⟨i, hi⟩
    have hi2 : i = 0 := by omega
    rcases hi2 with rfl
    · cases hx
  · intro x0 E0 E E2 hrx hT0 hΦ i v hT hrv hInv hKc hFr0 x hx v2 hr2 hXs hag hfr hFr hT2
    rcases i with ⟨i, hi⟩
    have hi2 : i = 0 := by omega
    rcases hi2 with rfl
    · have hx : x ∈ [zxfwst_ar0, zxfwst_ar1, zxfwst_ar2, zxfwst_ar3, zxfwst_ar4, zxfwst_ar5, zxfwst_ar6, zxfwst_ar7, zxfwst_ar8, zxfwst_ar9, zxfwst_ar10, zxfwst_ar11, zxfwst_ar12, zxfwst_ar13, zxfwst_ar14] := hx
      have hag : ∀ k, k < 3 → v2 k = v k := hag
      have hfr : xFr [] _ _ := hfr
      rcases List.mem_cons.mp hx with ex | hx
      · subst ex
        obtain ⟨hF, hBd, hM⟩ := hXs
        have b0 : ((2147483651 : Nat) : Int) ≤ (v2 3) + 2147483648 ∧ (v2 3) + 2147483648 ≤ ((2147483653 : Nat) : Int) := xXb hBd 0 rfl
        have f0 : (0 : Int) ≤ 7 ∧ xE E 35 7 = (v2 3) := xXf hF 0 rfl
        have f1 : ¬ (v2 3) = 2 := xXf hF 1 rfl
        have hI : E = E0 := hInv
        show xΨfwst x0 E0 E2 0
        subst hI
        unfold xΨfwst
        rw [if_neg]
        intro h
        unfold sW at h
        simp only [tWb, Bool.and_true, Bool.and_eq_true, decide_eq_true_eq, List.length_cons, List.length_nil] at h
        omega
      · skip
        rcases List.mem_cons.mp hx with ex | hx
        · subst ex
          obtain ⟨hF, hBd, hM⟩ := hXs
          have b0 : ((2147483648 : Nat) : Int) ≤ (v2 3) + 2147483648 ∧ (v2 3) + 2147483648 ≤ ((2147483649 : Nat) : Int) := xXb hBd 0 rfl
          have f0 : (0 : Int) ≤ 7 ∧ xE E 35 7 = (v2 3) := xXf hF 0 rfl
          have f1 : ¬ (v2 3) = 2 := xXf hF 1 rfl
          have hI : E = E0 := hInv
          show xΨfwst x0 E0 E2 0
          subst hI
          unfold xΨfwst
          rw [if_neg]
          intro h
          unfold sW at h
          simp only [tWb, Bool.and_true, Bool.and_eq_true, decide_eq_true_eq, List.length_cons, List.length_nil] at h
          omega
        · skip
          rcases List.mem_cons.mp hx with ex | hx
          · subst ex
            obtain ⟨hF, hBd, hM⟩ := hXs
            have b0 : ((2147483650 : Nat) : Int) ≤ (v2 3) + 2147483648 ∧ (v2 3) + 2147483648 ≤ ((2147483650 : Nat) : Int) := xXb hBd 0 rfl
            have b1 : ((2147483648 : Nat) : Int) ≤ (v2 4) + 2147483648 ∧ (v2 4) + 2147483648 ≤ ((2147484548 : Nat) : Int) := xXb hBd 1 rfl
            have b2 : ((2147483648 : Nat) : Int) ≤ (v2 5) + 2147483648 ∧ (v2 5) + 2147483648 ≤ ((2147484548 : Nat) : Int) := xXb hBd 2 rfl
            have b3 : ((2147483654 : Nat) : Int) ≤ (v2 6) + 2147483648 ∧ (v2 6) + 2147483648 ≤ ((2147484548 : Nat) : Int) := xXb hBd 3 rfl
            have f0 : (0 : Int) ≤ 7 ∧ xE E 35 7 = (v2 3) := xXf hF 0 rfl
            have f1 : (v2 3) = 2 := xXf hF 1 rfl
            have f2 : (0 : Int) ≤ 6 ∧ xE E 35 6 = (v2 4) := xXf hF 2 rfl
            have f3 : (0 : Int) ≤ 5 ∧ xE E 35 5 = (v2 5) := xXf hF 3 rfl
            have f4 : -2147483648 ≤ (v2 4) - (v2 5) → (v2 4) - (v2 5) < 2147483648 → (v2 6) = (v2 4) - (v2 5) := xXf hF 4 rfl
            have f4 := f4 (by omega) (by omega)
            have f5 : ¬ (v2 6) = 5 := xXf hF 5 rfl
            have hI : E = E0 := hInv
            show xΨfwst x0 E0 E2 0
            subst hI
            unfold xΨfwst
            rw [if_neg]
            intro h
            unfold sW at h
            simp only [tWb, Bool.and_true, Bool.and_eq_true, decide_eq_true_eq, List.length_cons, List.length_nil] at h
            rw [show xE E 35 5 = (v2 5) by omega] at h
            simp only [Int.add_assoc, Int.reduceAdd] at h
            omega
          · skip
            rcases List.mem_cons.mp hx with ex | hx
            · subst ex
              obtain ⟨hF, hBd, hM⟩ := hXs
              have b0 : ((2147483650 : Nat) : Int) ≤ (v2 3) + 2147483648 ∧ (v2 3) + 2147483648 ≤ ((2147483650 : Nat) : Int) := xXb hBd 0 rfl
              have b1 : ((2147483648 : Nat) : Int) ≤ (v2 4) + 2147483648 ∧ (v2 4) + 2147483648 ≤ ((2147484548 : Nat) : Int) := xXb hBd 1 rfl
              have b2 : ((2147483648 : Nat) : Int) ≤ (v2 5) + 2147483648 ∧ (v2 5) + 2147483648 ≤ ((2147484548 : Nat) : Int) := xXb hBd 2 rfl
              have b3 : ((2147482748 : Nat) : Int) ≤ (v2 6) + 2147483648 ∧ (v2 6) + 2147483648 ≤ ((2147483652 : Nat) : Int) := xXb hBd 3 rfl
              have f0 : (0 : Int) ≤ 7 ∧ xE E 35 7 = (v2 3) := xXf hF 0 rfl
              have f1 : (v2 3) = 2 := xXf hF 1 rfl
              have f2 : (0 : Int) ≤ 6 ∧ xE E 35 6 = (v2 4) := xXf hF 2 rfl
              have f3 : (0 : Int) ≤ 5 ∧ xE E 35 5 = (v2 5) := xXf hF 3 rfl
              have f4 : -2147483648 ≤ (v2 4) - (v2 5) → (v2 4) - (v2 5) < 2147483648 → (v2 6) = (v2 4) - (v2 5) := xXf hF 4 rfl
              have f4 := f4 (by omega) (by omega)
              have f5 : ¬ (v2 6) = 5 := xXf hF 5 rfl
              have hI : E = E0 := hInv
              show xΨfwst x0 E0 E2 0
              subst hI
              unfold xΨfwst
              rw [if_neg]
              intro h
              unfold sW at h
              simp only [tWb, Bool.and_true, Bool.and_eq_true, decide_eq_true_eq, List.length_cons, List.length_nil] at h
              rw [show xE E 35 5 = (v2 5) by omega] at h
              simp only [Int.add_assoc, Int.reduceAdd] at h
              omega
            · skip
              rcases List.mem_cons.mp hx with ex | hx
              · subst ex
                obtain ⟨hF, hBd, hM⟩ := hXs
                have b0 : ((2147483650 : Nat) : Int) ≤ (v2 3) + 2147483648 ∧ (v2 3) + 2147483648 ≤ ((2147483650 : Nat) : Int) := xXb hBd 0 rfl
                have b1 : ((2147483648 : Nat) : Int) ≤ (v2 4) + 2147483648 ∧ (v2 4) + 2147483648 ≤ ((2147484548 : Nat) : Int) := xXb hBd 1 rfl
                have b2 : ((2147483648 : Nat) : Int) ≤ (v2 5) + 2147483648 ∧ (v2 5) + 2147483648 ≤ ((2147484543 : Nat) : Int) := xXb hBd 2 rfl
                have b3 : ((2147483653 : Nat) : Int) ≤ (v2 6) + 2147483648 ∧ (v2 6) + 2147483648 ≤ ((2147483653 : Nat) : Int) := xXb hBd 3 rfl
                have b4 : ((2147483764 : Nat) : Int) ≤ (v2 7) + 2147483648 ∧ (v2 7) + 2147483648 ≤ ((2147483775 : Nat) : Int) := xXb hBd 4 rfl
                have f0 : (0 : Int) ≤ 7 ∧ xE E 35 7 = (v2 3) := xXf hF 0 rfl
                have f1 : (v2 3) = 2 := xXf hF 1 rfl
                have f2 : (0 : Int) ≤ 6 ∧ xE E 35 6 = (v2 4) := xXf hF 2 rfl
                have f3 : (0 : Int) ≤ 5 ∧ xE E 35 5 = (v2 5) := xXf hF 3 rfl
                have f4 : -2147483648 ≤ (v2 4) - (v2 5) → (v2 4) - (v2 5) < 2147483648 → (v2 6) = (v2 4) - (v2 5) := xXf hF 4 rfl
                have f4 := f4 (by omega) (by omega)
                have f5 : (v2 6) = 5 := xXf hF 5 rfl
                have f6 : (0 : Int) ≤ (v2 5) ∧ xE E 36 (v2 5) = (v2 7) := xXf hF 6 rfl
                have f7 : ¬ (v2 7) = 115 := xXf hF 7 rfl
                have hI : E = E0 := hInv
                show xΨfwst x0 E0 E2 0
                subst hI
                unfold xΨfwst
                rw [if_neg]
                intro h
                unfold sW at h
                simp only [tWb, Bool.and_true, Bool.and_eq_true, decide_eq_true_eq, List.length_cons, List.length_nil] at h
                rw [show xE E 35 5 = (v2 5) by omega] at h
                simp only [Int.add_assoc, Int.reduceAdd] at h
                omega
              · skip
                rcases List.mem_cons.mp hx with ex | hx
                · subst ex
                  obtain ⟨hF, hBd, hM⟩ := hXs
                  have b0 : ((2147483650 : Nat) : Int) ≤ (v2 3) + 2147483648 ∧ (v2 3) + 2147483648 ≤ ((2147483650 : Nat) : Int) := xXb hBd 0 rfl
                  have b1 : ((2147483648 : Nat) : Int) ≤ (v2 4) + 2147483648 ∧ (v2 4) + 2147483648 ≤ ((2147484548 : Nat) : Int) := xXb hBd 1 rfl
                  have b2 : ((2147483648 : Nat) : Int) ≤ (v2 5) + 2147483648 ∧ (v2 5) + 2147483648 ≤ ((2147484543 : Nat) : Int) := xXb hBd 2 rfl
                  have b3 : ((2147483653 : Nat) : Int) ≤ (v2 6) + 2147483648 ∧ (v2 6) + 2147483648 ≤ ((2147483653 : Nat) : Int) := xXb hBd 3 rfl
                  have b4 : ((2147483520 : Nat) : Int) ≤ (v2 7) + 2147483648 ∧ (v2 7) + 2147483648 ≤ ((2147483762 : Nat) : Int) := xXb hBd 4 rfl
                  have f0 : (0 : Int) ≤ 7 ∧ xE E 35 7 = (v2 3) := xXf hF 0 rfl
                  have f1 : (v2 3) = 2 := xXf hF 1 rfl
                  have f2 : (0 : Int) ≤ 6 ∧ xE E 35 6 = (v2 4) := xXf hF 2 rfl
                  have f3 : (0 : Int) ≤ 5 ∧ xE E 35 5 = (v2 5) := xXf hF 3 rfl
                  have f4 : -2147483648 ≤ (v2 4) - (v2 5) → (v2 4) - (v2 5) < 2147483648 → (v2 6) = (v2 4) - (v2 5) := xXf hF 4 rfl
                  have f4 := f4 (by omega) (by omega)
                  have f5 : (v2 6) = 5 := xXf hF 5 rfl
                  have f6 : (0 : Int) ≤ (v2 5) ∧ xE E 36 (v2 5) = (v2 7) := xXf hF 6 rfl
                  have f7 : ¬ (v2 7) = 115 := xXf hF 7 rfl
                  have hI : E = E0 := hInv
                  show xΨfwst x0 E0 E2 0
                  subst hI
                  unfold xΨfwst
                  rw [if_neg]
                  intro h
                  unfold sW at h
                  simp only [tWb, Bool.and_true, Bool.and_eq_true, decide_eq_true_eq, List.length_cons, List.length_nil] at h
                  rw [show xE E 35 5 = (v2 5) by omega] at h
                  simp only [Int.add_assoc, Int.reduceAdd] at h
                  omega
                · skip
                  rcases List.mem_cons.mp hx with ex | hx
                  · subst ex
                    obtain ⟨hF, hBd, hM⟩ := hXs
                    have b0 : ((2147483650 : Nat) : Int) ≤ (v2 3) + 2147483648 ∧ (v2 3) + 2147483648 ≤ ((2147483650 : Nat) : Int) := xXb hBd 0 rfl
                    have b1 : ((2147483648 : Nat) : Int) ≤ (v2 4) + 2147483648 ∧ (v2 4) + 2147483648 ≤ ((2147484548 : Nat) : Int) := xXb hBd 1 rfl
                    have b2 : ((2147483648 : Nat) : Int) ≤ (v2 5) + 2147483648 ∧ (v2 5) + 2147483648 ≤ ((2147484543 : Nat) : Int) := xXb hBd 2 rfl
                    have b3 : ((2147483653 : Nat) : Int) ≤ (v2 6) + 2147483648 ∧ (v2 6) + 2147483648 ≤ ((2147483653 : Nat) : Int) := xXb hBd 3 rfl
                    have b4 : ((2147483763 : Nat) : Int) ≤ (v2 7) + 2147483648 ∧ (v2 7) + 2147483648 ≤ ((2147483763 : Nat) : Int) := xXb hBd 4 rfl
                    have b5 : ((2147483765 : Nat) : Int) ≤ (v2 8) + 2147483648 ∧ (v2 8) + 2147483648 ≤ ((2147483775 : Nat) : Int) := xXb hBd 5 rfl
                    have f0 : (0 : Int) ≤ 7 ∧ xE E 35 7 = (v2 3) := xXf hF 0 rfl
                    have f1 : (v2 3) = 2 := xXf hF 1 rfl
                    have f2 : (0 : Int) ≤ 6 ∧ xE E 35 6 = (v2 4) := xXf hF 2 rfl
                    have f3 : (0 : Int) ≤ 5 ∧ xE E 35 5 = (v2 5) := xXf hF 3 rfl
                    have f4 : -2147483648 ≤ (v2 4) - (v2 5) → (v2 4) - (v2 5) < 2147483648 → (v2 6) = (v2 4) - (v2 5) := xXf hF 4 rfl
                    have f4 := f4 (by omega) (by omega)
                    have f5 : (v2 6) = 5 := xXf hF 5 rfl
                    have f6 : (0 : Int) ≤ (v2 5) ∧ xE E 36 (v2 5) = (v2 7) := xXf hF 6 rfl
                    have f7 : (v2 7) = 115 := xXf hF 7 rfl
                    have f8 : (0 : Int) ≤ (v2 5 + 1) ∧ xE E 36 (v2 5 + 1) = (v2 8) := xXf hF 8 rfl
                    have f9 : ¬ (v2 8) = 116 := xXf hF 9 rfl
                    have hI : E = E0 := hInv
                    show xΨfwst x0 E0 E2 0
                    subst hI
                    unfold xΨfwst
                    rw [if_neg]
                    intro h
                    unfold sW at h
                    simp only [tWb, Bool.and_true, Bool.and_eq_true, decide_eq_true_eq, List.length_cons, List.length_nil] at h
                    rw [show xE E 35 5 = (v2 5) by omega] at h
                    simp only [Int.add_assoc, Int.reduceAdd] at h
                    omega
                  · skip
                    rcases List.mem_cons.mp hx with ex | hx
                    · subst ex
                      obtain ⟨hF, hBd, hM⟩ := hXs
                      have b0 : ((2147483650 : Nat) : Int) ≤ (v2 3) + 2147483648 ∧ (v2 3) + 2147483648 ≤ ((2147483650 : Nat) : Int) := xXb hBd 0 rfl
                      have b1 : ((2147483648 : Nat) : Int) ≤ (v2 4) + 2147483648 ∧ (v2 4) + 2147483648 ≤ ((2147484548 : Nat) : Int) := xXb hBd 1 rfl
                      have b2 : ((2147483648 : Nat) : Int) ≤ (v2 5) + 2147483648 ∧ (v2 5) + 2147483648 ≤ ((2147484543 : Nat) : Int) := xXb hBd 2 rfl
                      have b3 : ((2147483653 : Nat) : Int) ≤ (v2 6) + 2147483648 ∧ (v2 6) + 2147483648 ≤ ((2147483653 : Nat) : Int) := xXb hBd 3 rfl
                      have b4 : ((2147483763 : Nat) : Int) ≤ (v2 7) + 2147483648 ∧ (v2 7) + 2147483648 ≤ ((2147483763 : Nat) : Int) := xXb hBd 4 rfl
                      have b5 : ((2147483520 : Nat) : Int) ≤ (v2 8) + 2147483648 ∧ (v2 8) + 2147483648 ≤ ((2147483763 : Nat) : Int) := xXb hBd 5 rfl
                      have f0 : (0 : Int) ≤ 7 ∧ xE E 35 7 = (v2 3) := xXf hF 0 rfl
                      have f1 : (v2 3) = 2 := xXf hF 1 rfl
                      have f2 : (0 : Int) ≤ 6 ∧ xE E 35 6 = (v2 4) := xXf hF 2 rfl
                      have f3 : (0 : Int) ≤ 5 ∧ xE E 35 5 = (v2 5) := xXf hF 3 rfl
                      have f4 : -2147483648 ≤ (v2 4) - (v2 5) → (v2 4) - (v2 5) < 2147483648 → (v2 6) = (v2 4) - (v2 5) := xXf hF 4 rfl
                      have f4 := f4 (by omega) (by omega)
                      have f5 : (v2 6) = 5 := xXf hF 5 rfl
                      have f6 : (0 : Int) ≤ (v2 5) ∧ xE E 36 (v2 5) = (v2 7) := xXf hF 6 rfl
                      have f7 : (v2 7) = 115 := xXf hF 7 rfl
                      have f8 : (0 : Int) ≤ (v2 5 + 1) ∧ xE E 36 (v2 5 + 1) = (v2 8) := xXf hF 8 rfl
                      have f9 : ¬ (v2 8) = 116 := xXf hF 9 rfl
                      have hI : E = E0 := hInv
                      show xΨfwst x0 E0 E2 0
                      subst hI
                      unfold xΨfwst
                      rw [if_neg]
                      intro h
                      unfold sW at h
                      simp only [tWb, Bool.and_true, Bool.and_eq_true, decide_eq_true_eq, List.length_cons, List.length_nil] at h
                      rw [show xE E 35 5 = (v2 5) by omega] at h
                      simp only [Int.add_assoc, Int.reduceAdd] at h
                      omega
                    · skip
                      rcases List.mem_cons.mp hx with ex | hx
                      · subst ex
                        obtain ⟨hF, hBd, hM⟩ := hXs
                        have b0 : ((2147483650 : Nat) : Int) ≤ (v2 3) + 2147483648 ∧ (v2 3) + 2147483648 ≤ ((2147483650 : Nat) : Int) := xXb hBd 0 rfl
                        have b1 : ((2147483648 : Nat) : Int) ≤ (v2 4) + 2147483648 ∧ (v2 4) + 2147483648 ≤ ((2147484548 : Nat) : Int) := xXb hBd 1 rfl
                        have b2 : ((2147483648 : Nat) : Int) ≤ (v2 5) + 2147483648 ∧ (v2 5) + 2147483648 ≤ ((2147484543 : Nat) : Int) := xXb hBd 2 rfl
                        have b3 : ((2147483653 : Nat) : Int) ≤ (v2 6) + 2147483648 ∧ (v2 6) + 2147483648 ≤ ((2147483653 : Nat) : Int) := xXb hBd 3 rfl
                        have b4 : ((2147483763 : Nat) : Int) ≤ (v2 7) + 2147483648 ∧ (v2 7) + 2147483648 ≤ ((2147483763 : Nat) : Int) := xXb hBd 4 rfl
                        have b5 : ((2147483764 : Nat) : Int) ≤ (v2 8) + 2147483648 ∧ (v2 8) + 2147483648 ≤ ((2147483764 : Nat) : Int) := xXb hBd 5 rfl
                        have b6 : ((2147483766 : Nat) : Int) ≤ (v2 9) + 2147483648 ∧ (v2 9) + 2147483648 ≤ ((2147483775 : Nat) : Int) := xXb hBd 6 rfl
                        have f0 : (0 : Int) ≤ 7 ∧ xE E 35 7 = (v2 3) := xXf hF 0 rfl
                        have f1 : (v2 3) = 2 := xXf hF 1 rfl
                        have f2 : (0 : Int) ≤ 6 ∧ xE E 35 6 = (v2 4) := xXf hF 2 rfl
                        have f3 : (0 : Int) ≤ 5 ∧ xE E 35 5 = (v2 5) := xXf hF 3 rfl
                        have f4 : -2147483648 ≤ (v2 4) - (v2 5) → (v2 4) - (v2 5) < 2147483648 → (v2 6) = (v2 4) - (v2 5) := xXf hF 4 rfl
                        have f4 := f4 (by omega) (by omega)
                        have f5 : (v2 6) = 5 := xXf hF 5 rfl
                        have f6 : (0 : Int) ≤ (v2 5) ∧ xE E 36 (v2 5) = (v2 7) := xXf hF 6 rfl
                        have f7 : (v2 7) = 115 := xXf hF 7 rfl
                        have f8 : (0 : Int) ≤ (v2 5 + 1) ∧ xE E 36 (v2 5 + 1) = (v2 8) := xXf hF 8 rfl
                        have f9 : (v2 8) = 116 := xXf hF 9 rfl
                        have f10 : (0 : Int) ≤ (v2 5 + 2) ∧ xE E 36 (v2 5 + 2) = (v2 9) := xXf hF 10 rfl
                        have f11 : ¬ (v2 9) = 117 := xXf hF 11 rfl
                        have hI : E = E0 := hInv
                        show xΨfwst x0 E0 E2 0
                        subst hI
                        unfold xΨfwst
                        rw [if_neg]
                        intro h
                        unfold sW at h
                        simp only [tWb, Bool.and_true, Bool.and_eq_true, decide_eq_true_eq, List.length_cons, List.length_nil] at h
                        rw [show xE E 35 5 = (v2 5) by omega] at h
                        simp only [Int.add_assoc, Int.reduceAdd] at h
                        omega
                      · skip
                        rcases List.mem_cons.mp hx with ex | hx
                        · subst ex
                          obtain ⟨hF, hBd, hM⟩ := hXs
                          have b0 : ((2147483650 : Nat) : Int) ≤ (v2 3) + 2147483648 ∧ (v2 3) + 2147483648 ≤ ((2147483650 : Nat) : Int) := xXb hBd 0 rfl
                          have b1 : ((2147483648 : Nat) : Int) ≤ (v2 4) + 2147483648 ∧ (v2 4) + 2147483648 ≤ ((2147484548 : Nat) : Int) := xXb hBd 1 rfl
                          have b2 : ((2147483648 : Nat) : Int) ≤ (v2 5) + 2147483648 ∧ (v2 5) + 2147483648 ≤ ((2147484543 : Nat) : Int) := xXb hBd 2 rfl
                          have b3 : ((2147483653 : Nat) : Int) ≤ (v2 6) + 2147483648 ∧ (v2 6) + 2147483648 ≤ ((2147483653 : Nat) : Int) := xXb hBd 3 rfl
                          have b4 : ((2147483763 : Nat) : Int) ≤ (v2 7) + 2147483648 ∧ (v2 7) + 2147483648 ≤ ((2147483763 : Nat) : Int) := xXb hBd 4 rfl
                          have b5 : ((2147483764 : Nat) : Int) ≤ (v2 8) + 2147483648 ∧ (v2 8) + 2147483648 ≤ ((2147483764 : Nat) : Int) := xXb hBd 5 rfl
                          have b6 : ((2147483520 : Nat) : Int) ≤ (v2 9) + 2147483648 ∧ (v2 9) + 2147483648 ≤ ((2147483764 : Nat) : Int) := xXb hBd 6 rfl
                          have f0 : (0 : Int) ≤ 7 ∧ xE E 35 7 = (v2 3) := xXf hF 0 rfl
                          have f1 : (v2 3) = 2 := xXf hF 1 rfl
                          have f2 : (0 : Int) ≤ 6 ∧ xE E 35 6 = (v2 4) := xXf hF 2 rfl
                          have f3 : (0 : Int) ≤ 5 ∧ xE E 35 5 = (v2 5) := xXf hF 3 rfl
                          have f4 : -2147483648 ≤ (v2 4) - (v2 5) → (v2 4) - (v2 5) < 2147483648 → (v2 6) = (v2 4) - (v2 5) := xXf hF 4 rfl
                          have f4 := f4 (by omega) (by omega)
                          have f5 : (v2 6) = 5 := xXf hF 5 rfl
                          have f6 : (0 : Int) ≤ (v2 5) ∧ xE E 36 (v2 5) = (v2 7) := xXf hF 6 rfl
                          have f7 : (v2 7) = 115 := xXf hF 7 rfl
                          have f8 : (0 : Int) ≤ (v2 5 + 1) ∧ xE E 36 (v2 5 + 1) = (v2 8) := xXf hF 8 rfl
                          have f9 : (v2 8) = 116 := xXf hF 9 rfl
                          have f10 : (0 : Int) ≤ (v2 5 + 2) ∧ xE E 36 (v2 5 + 2) = (v2 9) := xXf hF 10 rfl
                          have f11 : ¬ (v2 9) = 117 := xXf hF 11 rfl
                          have hI : E = E0 := hInv
                          show xΨfwst x0 E0 E2 0
                          subst hI
                          unfold xΨfwst
                          rw [if_neg]
                          intro h
                          unfold sW at h
                          simp only [tWb, Bool.and_true, Bool.and_eq_true, decide_eq_true_eq, List.length_cons, List.length_nil] at h
                          rw [show xE E 35 5 = (v2 5) by omega] at h
                          simp only [Int.add_assoc, Int.reduceAdd] at h
                          omega
                        · skip
                          rcases List.mem_cons.mp hx with ex | hx
                          · subst ex
                            obtain ⟨hF, hBd, hM⟩ := hXs
                            have b0 : ((2147483650 : Nat) : Int) ≤ (v2 3) + 2147483648 ∧ (v2 3) + 2147483648 ≤ ((2147483650 : Nat) : Int) := xXb hBd 0 rfl
                            have b1 : ((2147483648 : Nat) : Int) ≤ (v2 4) + 2147483648 ∧ (v2 4) + 2147483648 ≤ ((2147484548 : Nat) : Int) := xXb hBd 1 rfl
                            have b2 : ((2147483648 : Nat) : Int) ≤ (v2 5) + 2147483648 ∧ (v2 5) + 2147483648 ≤ ((2147484543 : Nat) : Int) := xXb hBd 2 rfl
                            have b3 : ((2147483653 : Nat) : Int) ≤ (v2 6) + 2147483648 ∧ (v2 6) + 2147483648 ≤ ((2147483653 : Nat) : Int) := xXb hBd 3 rfl
                            have b4 : ((2147483763 : Nat) : Int) ≤ (v2 7) + 2147483648 ∧ (v2 7) + 2147483648 ≤ ((2147483763 : Nat) : Int) := xXb hBd 4 rfl
                            have b5 : ((2147483764 : Nat) : Int) ≤ (v2 8) + 2147483648 ∧ (v2 8) + 2147483648 ≤ ((2147483764 : Nat) : Int) := xXb hBd 5 rfl
                            have b6 : ((2147483765 : Nat) : Int) ≤ (v2 9) + 2147483648 ∧ (v2 9) + 2147483648 ≤ ((2147483765 : Nat) : Int) := xXb hBd 6 rfl
                            have b7 : ((2147483748 : Nat) : Int) ≤ (v2 10) + 2147483648 ∧ (v2 10) + 2147483648 ≤ ((2147483775 : Nat) : Int) := xXb hBd 7 rfl
                            have f0 : (0 : Int) ≤ 7 ∧ xE E 35 7 = (v2 3) := xXf hF 0 rfl
                            have f1 : (v2 3) = 2 := xXf hF 1 rfl
                            have f2 : (0 : Int) ≤ 6 ∧ xE E 35 6 = (v2 4) := xXf hF 2 rfl
                            have f3 : (0 : Int) ≤ 5 ∧ xE E 35 5 = (v2 5) := xXf hF 3 rfl
                            have f4 : -2147483648 ≤ (v2 4) - (v2 5) → (v2 4) - (v2 5) < 2147483648 → (v2 6) = (v2 4) - (v2 5) := xXf hF 4 rfl
                            have f4 := f4 (by omega) (by omega)
                            have f5 : (v2 6) = 5 := xXf hF 5 rfl
                            have f6 : (0 : Int) ≤ (v2 5) ∧ xE E 36 (v2 5) = (v2 7) := xXf hF 6 rfl
                            have f7 : (v2 7) = 115 := xXf hF 7 rfl
                            have f8 : (0 : Int) ≤ (v2 5 + 1) ∧ xE E 36 (v2 5 + 1) = (v2 8) := xXf hF 8 rfl
                            have f9 : (v2 8) = 116 := xXf hF 9 rfl
                            have f10 : (0 : Int) ≤ (v2 5 + 2) ∧ xE E 36 (v2 5 + 2) = (v2 9) := xXf hF 10 rfl
                            have f11 : (v2 9) = 117 := xXf hF 11 rfl
                            have f12 : (0 : Int) ≤ (v2 5 + 3) ∧ xE E 36 (v2 5 + 3) = (v2 10) := xXf hF 12 rfl
                            have f13 : ¬ (v2 10) = 99 := xXf hF 13 rfl
                            have hI : E = E0 := hInv
                            show xΨfwst x0 E0 E2 0
                            subst hI
                            unfold xΨfwst
                            rw [if_neg]
                            intro h
                            unfold sW at h
                            simp only [tWb, Bool.and_true, Bool.and_eq_true, decide_eq_true_eq, List.length_cons, List.length_nil] at h
                            rw [show xE E 35 5 = (v2 5) by omega] at h
                            simp only [Int.add_assoc, Int.reduceAdd] at h
                            omega
                          · skip
                            rcases List.mem_cons.mp hx with ex | hx
                            · subst ex
                              obtain ⟨hF, hBd, hM⟩ := hXs
                              have b0 : ((2147483650 : Nat) : Int) ≤ (v2 3) + 2147483648 ∧ (v2 3) + 2147483648 ≤ ((2147483650 : Nat) : Int) := xXb hBd 0 rfl
                              have b1 : ((2147483648 : Nat) : Int) ≤ (v2 4) + 2147483648 ∧ (v2 4) + 2147483648 ≤ ((2147484548 : Nat) : Int) := xXb hBd 1 rfl
                              have b2 : ((2147483648 : Nat) : Int) ≤ (v2 5) + 2147483648 ∧ (v2 5) + 2147483648 ≤ ((2147484543 : Nat) : Int) := xXb hBd 2 rfl
                              have b3 : ((2147483653 : Nat) : Int) ≤ (v2 6) + 2147483648 ∧ (v2 6) + 2147483648 ≤ ((2147483653 : Nat) : Int) := xXb hBd 3 rfl
                              have b4 : ((2147483763 : Nat) : Int) ≤ (v2 7) + 2147483648 ∧ (v2 7) + 2147483648 ≤ ((2147483763 : Nat) : Int) := xXb hBd 4 rfl
                              have b5 : ((2147483764 : Nat) : Int) ≤ (v2 8) + 2147483648 ∧ (v2 8) + 2147483648 ≤ ((2147483764 : Nat) : Int) := xXb hBd 5 rfl
                              have b6 : ((2147483765 : Nat) : Int) ≤ (v2 9) + 2147483648 ∧ (v2 9) + 2147483648 ≤ ((2147483765 : Nat) : Int) := xXb hBd 6 rfl
                              have b7 : ((2147483520 : Nat) : Int) ≤ (v2 10) + 2147483648 ∧ (v2 10) + 2147483648 ≤ ((2147483746 : Nat) : Int) := xXb hBd 7 rfl
                              have f0 : (0 : Int) ≤ 7 ∧ xE E 35 7 = (v2 3) := xXf hF 0 rfl
                              have f1 : (v2 3) = 2 := xXf hF 1 rfl
                              have f2 : (0 : Int) ≤ 6 ∧ xE E 35 6 = (v2 4) := xXf hF 2 rfl
                              have f3 : (0 : Int) ≤ 5 ∧ xE E 35 5 = (v2 5) := xXf hF 3 rfl
                              have f4 : -2147483648 ≤ (v2 4) - (v2 5) → (v2 4) - (v2 5) < 2147483648 → (v2 6) = (v2 4) - (v2 5) := xXf hF 4 rfl
                              have f4 := f4 (by omega) (by omega)
                              have f5 : (v2 6) = 5 := xXf hF 5 rfl
                              have f6 : (0 : Int) ≤ (v2 5) ∧ xE E 36 (v2 5) = (v2 7) := xXf hF 6 rfl
                              have f7 : (v2 7) = 115 := xXf hF 7 rfl
                              have f8 : (0 : Int) ≤ (v2 5 + 1) ∧ xE E 36 (v2 5 + 1) = (v2 8) := xXf hF 8 rfl
                              have f9 : (v2 8) = 116 := xXf hF 9 rfl
                              have f10 : (0 : Int) ≤ (v2 5 + 2) ∧ xE E 36 (v2 5 + 2) = (v2 9) := xXf hF 10 rfl
                              have f11 : (v2 9) = 117 := xXf hF 11 rfl
                              have f12 : (0 : Int) ≤ (v2 5 + 3) ∧ xE E 36 (v2 5 + 3) = (v2 10) := xXf hF 12 rfl
                              have f13 : ¬ (v2 10) = 99 := xXf hF 13 rfl
                              have hI : E = E0 := hInv
                              show xΨfwst x0 E0 E2 0
                              subst hI
                              unfold xΨfwst
                              rw [if_neg]
                              intro h
                              unfold sW at h
                              simp only [tWb, Bool.and_true, Bool.and_eq_true, decide_eq_true_eq, List.length_cons, List.length_nil] at h
                              rw [show xE E 35 5 = (v2 5) by omega] at h
                              simp only [Int.add_assoc, Int.reduceAdd] at h
                              omega
                            · skip
                              rcases List.mem_cons.mp hx with ex | hx
                              · subst ex
                                obtain ⟨hF, hBd, hM⟩ := hXs
                                have b0 : ((2147483650 : Nat) : Int) ≤ (v2 3) + 2147483648 ∧ (v2 3) + 2147483648 ≤ ((2147483650 : Nat) : Int) := xXb hBd 0 rfl
                                have b1 : ((2147483648 : Nat) : Int) ≤ (v2 4) + 2147483648 ∧ (v2 4) + 2147483648 ≤ ((2147484548 : Nat) : Int) := xXb hBd 1 rfl
                                have b2 : ((2147483648 : Nat) : Int) ≤ (v2 5) + 2147483648 ∧ (v2 5) + 2147483648 ≤ ((2147484543 : Nat) : Int) := xXb hBd 2 rfl
                                have b3 : ((2147483653 : Nat) : Int) ≤ (v2 6) + 2147483648 ∧ (v2 6) + 2147483648 ≤ ((2147483653 : Nat) : Int) := xXb hBd 3 rfl
                                have b4 : ((2147483763 : Nat) : Int) ≤ (v2 7) + 2147483648 ∧ (v2 7) + 2147483648 ≤ ((2147483763 : Nat) : Int) := xXb hBd 4 rfl
                                have b5 : ((2147483764 : Nat) : Int) ≤ (v2 8) + 2147483648 ∧ (v2 8) + 2147483648 ≤ ((2147483764 : Nat) : Int) := xXb hBd 5 rfl
                                have b6 : ((2147483765 : Nat) : Int) ≤ (v2 9) + 2147483648 ∧ (v2 9) + 2147483648 ≤ ((2147483765 : Nat) : Int) := xXb hBd 6 rfl
                                have b7 : ((2147483747 : Nat) : Int) ≤ (v2 10) + 2147483648 ∧ (v2 10) + 2147483648 ≤ ((2147483747 : Nat) : Int) := xXb hBd 7 rfl
                                have b8 : ((2147483756 : Nat) : Int) ≤ (v2 11) + 2147483648 ∧ (v2 11) + 2147483648 ≤ ((2147483775 : Nat) : Int) := xXb hBd 8 rfl
                                have f0 : (0 : Int) ≤ 7 ∧ xE E 35 7 = (v2 3) := xXf hF 0 rfl
                                have f1 : (v2 3) = 2 := xXf hF 1 rfl
                                have f2 : (0 : Int) ≤ 6 ∧ xE E 35 6 = (v2 4) := xXf hF 2 rfl
                                have f3 : (0 : Int) ≤ 5 ∧ xE E 35 5 = (v2 5) := xXf hF 3 rfl
                                have f4 : -2147483648 ≤ (v2 4) - (v2 5) → (v2 4) - (v2 5) < 2147483648 → (v2 6) = (v2 4) - (v2 5) := xXf hF 4 rfl
                                have f4 := f4 (by omega) (by omega)
                                have f5 : (v2 6) = 5 := xXf hF 5 rfl
                                have f6 : (0 : Int) ≤ (v2 5) ∧ xE E 36 (v2 5) = (v2 7) := xXf hF 6 rfl
                                have f7 : (v2 7) = 115 := xXf hF 7 rfl
                                have f8 : (0 : Int) ≤ (v2 5 + 1) ∧ xE E 36 (v2 5 + 1) = (v2 8) := xXf hF 8 rfl
                                have f9 : (v2 8) = 116 := xXf hF 9 rfl
                                have f10 : (0 : Int) ≤ (v2 5 + 2) ∧ xE E 36 (v2 5 + 2) = (v2 9) := xXf hF 10 rfl
                                have f11 : (v2 9) = 117 := xXf hF 11 rfl
                                have f12 : (0 : Int) ≤ (v2 5 + 3) ∧ xE E 36 (v2 5 + 3) = (v2 10) := xXf hF 12 rfl
                                have f13 : (v2 10) = 99 := xXf hF 13 rfl
                                have f14 : (0 : Int) ≤ (v2 5 + 4) ∧ xE E 36 (v2 5 + 4) = (v2 11) := xXf hF 14 rfl
                                have f15 : ¬ (v2 11) = 107 := xXf hF 15 rfl
                                have hI : E = E0 := hInv
                                show xΨfwst x0 E0 E2 0
                                subst hI
                                unfold xΨfwst
                                rw [if_neg]
                                intro h
                                unfold sW at h
                                simp only [tWb, Bool.and_true, Bool.and_eq_true, decide_eq_true_eq, List.length_cons, List.length_nil] at h
                                rw [show xE E 35 5 = (v2 5) by omega] at h
                                simp only [Int.add_assoc, Int.reduceAdd] at h
                                omega
                              · skip
                                rcases List.mem_cons.mp hx with ex | hx
                                · subst ex
                                  obtain ⟨hF, hBd, hM⟩ := hXs
                                  have b0 : ((2147483650 : Nat) : Int) ≤ (v2 3) + 2147483648 ∧ (v2 3) + 2147483648 ≤ ((2147483650 : Nat) : Int) := xXb hBd 0 rfl
                                  have b1 : ((2147483648 : Nat) : Int) ≤ (v2 4) + 2147483648 ∧ (v2 4) + 2147483648 ≤ ((2147484548 : Nat) : Int) := xXb hBd 1 rfl
                                  have b2 : ((2147483648 : Nat) : Int) ≤ (v2 5) + 2147483648 ∧ (v2 5) + 2147483648 ≤ ((2147484543 : Nat) : Int) := xXb hBd 2 rfl
                                  have b3 : ((2147483653 : Nat) : Int) ≤ (v2 6) + 2147483648 ∧ (v2 6) + 2147483648 ≤ ((2147483653 : Nat) : Int) := xXb hBd 3 rfl
                                  have b4 : ((2147483763 : Nat) : Int) ≤ (v2 7) + 2147483648 ∧ (v2 7) + 2147483648 ≤ ((2147483763 : Nat) : Int) := xXb hBd 4 rfl
                                  have b5 : ((2147483764 : Nat) : Int) ≤ (v2 8) + 2147483648 ∧ (v2 8) + 2147483648 ≤ ((2147483764 : Nat) : Int) := xXb hBd 5 rfl
                                  have b6 : ((2147483765 : Nat) : Int) ≤ (v2 9) + 2147483648 ∧ (v2 9) + 2147483648 ≤ ((2147483765 : Nat) : Int) := xXb hBd 6 rfl
                                  have b7 : ((2147483747 : Nat) : Int) ≤ (v2 10) + 2147483648 ∧ (v2 10) + 2147483648 ≤ ((2147483747 : Nat) : Int) := xXb hBd 7 rfl
                                  have b8 : ((2147483520 : Nat) : Int) ≤ (v2 11) + 2147483648 ∧ (v2 11) + 2147483648 ≤ ((2147483754 : Nat) : Int) := xXb hBd 8 rfl
                                  have f0 : (0 : Int) ≤ 7 ∧ xE E 35 7 = (v2 3) := xXf hF 0 rfl
                                  have f1 : (v2 3) = 2 := xXf hF 1 rfl
                                  have f2 : (0 : Int) ≤ 6 ∧ xE E 35 6 = (v2 4) := xXf hF 2 rfl
                                  have f3 : (0 : Int) ≤ 5 ∧ xE E 35 5 = (v2 5) := xXf hF 3 rfl
                                  have f4 : -2147483648 ≤ (v2 4) - (v2 5) → (v2 4) - (v2 5) < 2147483648 → (v2 6) = (v2 4) - (v2 5) := xXf hF 4 rfl
                                  have f4 := f4 (by omega) (by omega)
                                  have f5 : (v2 6) = 5 := xXf hF 5 rfl
                                  have f6 : (0 : Int) ≤ (v2 5) ∧ xE E 36 (v2 5) = (v2 7) := xXf hF 6 rfl
                                  have f7 : (v2 7) = 115 := xXf hF 7 rfl
                                  have f8 : (0 : Int) ≤ (v2 5 + 1) ∧ xE E 36 (v2 5 + 1) = (v2 8) := xXf hF 8 rfl
                                  have f9 : (v2 8) = 116 := xXf hF 9 rfl
                                  have f10 : (0 : Int) ≤ (v2 5 + 2) ∧ xE E 36 (v2 5 + 2) = (v2 9) := xXf hF 10 rfl
                                  have f11 : (v2 9) = 117 := xXf hF 11 rfl
                                  have f12 : (0 : Int) ≤ (v2 5 + 3) ∧ xE E 36 (v2 5 + 3) = (v2 10) := xXf hF 12 rfl
                                  have f13 : (v2 10) = 99 := xXf hF 13 rfl
                                  have f14 : (0 : Int) ≤ (v2 5 + 4) ∧ xE E 36 (v2 5 + 4) = (v2 11) := xXf hF 14 rfl
                                  have f15 : ¬ (v2 11) = 107 := xXf hF 15 rfl
                                  have hI : E = E0 := hInv
                                  show xΨfwst x0 E0 E2 0
                                  subst hI
                                  unfold xΨfwst
                                  rw [if_neg]
                                  intro h
                                  unfold sW at h
                                  simp only [tWb, Bool.and_true, Bool.and_eq_true, decide_eq_true_eq, List.length_cons, List.length_nil] at h
                                  rw [show xE E 35 5 = (v2 5) by omega] at h
                                  simp only [Int.add_assoc, Int.reduceAdd] at h
                                  omega
                                · skip
                                  have ex := List.mem_singleton.mp hx
                                  subst ex
                                  obtain ⟨hF, hBd, hM⟩ := hXs
                                  have b0 : ((2147483650 : Nat) : Int) ≤ (v2 3) + 2147483648 ∧ (v2 3) + 2147483648 ≤ ((2147483650 : Nat) : Int) := xXb hBd 0 rfl
                                  have b1 : ((2147483648 : Nat) : Int) ≤ (v2 4) + 2147483648 ∧ (v2 4) + 2147483648 ≤ ((2147484548 : Nat) : Int) := xXb hBd 1 rfl
                                  have b2 : ((2147483648 : Nat) : Int) ≤ (v2 5) + 2147483648 ∧ (v2 5) + 2147483648 ≤ ((2147484543 : Nat) : Int) := xXb hBd 2 rfl
                                  have b3 : ((2147483653 : Nat) : Int) ≤ (v2 6) + 2147483648 ∧ (v2 6) + 2147483648 ≤ ((2147483653 : Nat) : Int) := xXb hBd 3 rfl
                                  have b4 : ((2147483763 : Nat) : Int) ≤ (v2 7) + 2147483648 ∧ (v2 7) + 2147483648 ≤ ((2147483763 : Nat) : Int) := xXb hBd 4 rfl
                                  have b5 : ((2147483764 : Nat) : Int) ≤ (v2 8) + 2147483648 ∧ (v2 8) + 2147483648 ≤ ((2147483764 : Nat) : Int) := xXb hBd 5 rfl
                                  have b6 : ((2147483765 : Nat) : Int) ≤ (v2 9) + 2147483648 ∧ (v2 9) + 2147483648 ≤ ((2147483765 : Nat) : Int) := xXb hBd 6 rfl
                                  have b7 : ((2147483747 : Nat) : Int) ≤ (v2 10) + 2147483648 ∧ (v2 10) + 2147483648 ≤ ((2147483747 : Nat) : Int) := xXb hBd 7 rfl
                                  have b8 : ((2147483755 : Nat) : Int) ≤ (v2 11) + 2147483648 ∧ (v2 11) + 2147483648 ≤ ((2147483755 : Nat) : Int) := xXb hBd 8 rfl
                                  have f0 : (0 : Int) ≤ 7 ∧ xE E 35 7 = (v2 3) := xXf hF 0 rfl
                                  have f1 : (v2 3) = 2 := xXf hF 1 rfl
                                  have f2 : (0 : Int) ≤ 6 ∧ xE E 35 6 = (v2 4) := xXf hF 2 rfl
                                  have f3 : (0 : Int) ≤ 5 ∧ xE E 35 5 = (v2 5) := xXf hF 3 rfl
                                  have f4 : -2147483648 ≤ (v2 4) - (v2 5) → (v2 4) - (v2 5) < 2147483648 → (v2 6) = (v2 4) - (v2 5) := xXf hF 4 rfl
                                  have f4 := f4 (by omega) (by omega)
                                  have f5 : (v2 6) = 5 := xXf hF 5 rfl
                                  have f6 : (0 : Int) ≤ (v2 5) ∧ xE E 36 (v2 5) = (v2 7) := xXf hF 6 rfl
                                  have f7 : (v2 7) = 115 := xXf hF 7 rfl
                                  have f8 : (0 : Int) ≤ (v2 5 + 1) ∧ xE E 36 (v2 5 + 1) = (v2 8) := xXf hF 8 rfl
                                  have f9 : (v2 8) = 116 := xXf hF 9 rfl
                                  have f10 : (0 : Int) ≤ (v2 5 + 2) ∧ xE E 36 (v2 5 + 2) = (v2 9) := xXf hF 10 rfl
                                  have f11 : (v2 9) = 117 := xXf hF 11 rfl
                                  have f12 : (0 : Int) ≤ (v2 5 + 3) ∧ xE E 36 (v2 5 + 3) = (v2 10) := xXf hF 12 rfl
                                  have f13 : (v2 10) = 99 := xXf hF 13 rfl
                                  have f14 : (0 : Int) ≤ (v2 5 + 4) ∧ xE E 36 (v2 5 + 4) = (v2 11) := xXf hF 14 rfl
                                  have f15 : (v2 11) = 107 := xXf hF 15 rfl
                                  have hI : E = E0 := hInv
                                  show xΨfwst x0 E0 E2 1
                                  subst hI
                                  unfold xΨfwst
                                  rw [if_pos]
                                  unfold sW
                                  simp only [tWb, Bool.and_true, Bool.and_eq_true, decide_eq_true_eq, List.length_cons, List.length_nil]
                                  rw [show xE E 35 5 = (v2 5) by omega]
                                  simp only [Int.add_assoc, Int.reduceAdd]
                                  refine ⟨by omega, by omega, ?_⟩
                                  refine ⟨by omega, by omega, by omega, by omega, by omega⟩
noncomputable def zxfwfr_ar0 : zyXp := (0, [], [0], [(24, 103079215105, 35, 56), (23, 0, 103079215105, 16)], [(103079215105, 2147483651, 2147483653)], [])
noncomputable def zxfwfr_ar1 : zyXp := (0, [], [0], [(24, 103079215105, 35, 56), (23, 0, 103079215105, 16)], [(103079215105, 2147483648, 2147483649)], [])
noncomputable def zxfwfr_ar2 : zyXp := (0, [], [0], [(24, 103079215105, 35, 56), (22, 0, 103079215105, 16), (24, 137438953473, 35, 48), (24, 171798691841, 35, 40), (2, 206158430209, 137438953473, 171798691841), (23, 0, 206158430209, 32)], [(103079215105, 2147483650, 2147483650), (137438953473, 2147483648, 2147484548), (171798691841, 2147483648, 2147484548), (206158430209, 2147483653, 2147484548)], [])
noncomputable def zxfwfr_ar3 : zyXp := (0, [], [0], [(24, 103079215105, 35, 56), (22, 0, 103079215105, 16), (24, 137438953473, 35, 48), (24, 171798691841, 35, 40), (2, 206158430209, 137438953473, 171798691841), (23, 0, 206158430209, 32)], [(103079215105, 2147483650, 2147483650), (137438953473, 2147483648, 2147484548), (171798691841, 2147483648, 2147484548), (206158430209, 2147482748, 2147483651)], [])
noncomputable def zxfwfr_ar4 : zyXp := (0, [], [0], [(24, 103079215105, 35, 56), (22, 0, 103079215105, 16), (24, 137438953473, 35, 48), (24, 171798691841, 35, 40), (2, 206158430209, 137438953473, 171798691841), (22, 0, 206158430209, 32), (24, 240518168577, 36, 171798691841), (23, 0, 240518168577, 816)], [(103079215105, 2147483650, 2147483650), (137438953473, 2147483648, 2147484548), (171798691841, 2147483648, 2147484544), (206158430209, 2147483652, 2147483652), (240518168577, 2147483751, 2147483775)], [])
noncomputable def zxfwfr_ar5 : zyXp := (0, [], [0], [(24, 103079215105, 35, 56), (22, 0, 103079215105, 16), (24, 137438953473, 35, 48), (24, 171798691841, 35, 40), (2, 206158430209, 137438953473, 171798691841), (22, 0, 206158430209, 32), (24, 240518168577, 36, 171798691841), (23, 0, 240518168577, 816)], [(103079215105, 2147483650, 2147483650), (137438953473, 2147483648, 2147484548), (171798691841, 2147483648, 2147484544), (206158430209, 2147483652, 2147483652), (240518168577, 2147483520, 2147483749)], [])
noncomputable def zxfwfr_ar6 : zyXp := (0, [], [0], [(24, 103079215105, 35, 56), (22, 0, 103079215105, 16), (24, 137438953473, 35, 48), (24, 171798691841, 35, 40), (2, 206158430209, 137438953473, 171798691841), (22, 0, 206158430209, 32), (24, 240518168577, 36, 171798691841), (22, 0, 240518168577, 816), (24, 274877906945, 36, 171798691849), (23, 0, 274877906945, 912)], [(103079215105, 2147483650, 2147483650), (137438953473, 2147483648, 2147484548), (171798691841, 2147483648, 2147484544), (206158430209, 2147483652, 2147483652), (240518168577, 2147483750, 2147483750), (274877906945, 2147483763, 2147483775)], [])
noncomputable def zxfwfr_ar7 : zyXp := (0, [], [0], [(24, 103079215105, 35, 56), (22, 0, 103079215105, 16), (24, 137438953473, 35, 48), (24, 171798691841, 35, 40), (2, 206158430209, 137438953473, 171798691841), (22, 0, 206158430209, 32), (24, 240518168577, 36, 171798691841), (22, 0, 240518168577, 816), (24, 274877906945, 36, 171798691849), (23, 0, 274877906945, 912)], [(103079215105, 2147483650, 2147483650), (137438953473, 2147483648, 2147484548), (171798691841, 2147483648, 2147484544), (206158430209, 2147483652, 2147483652), (240518168577, 2147483750, 2147483750), (274877906945, 2147483520, 2147483761)], [])
noncomputable def zxfwfr_ar8 : zyXp := (0, [], [0], [(24, 103079215105, 35, 56), (22, 0, 103079215105, 16), (24, 137438953473, 35, 48), (24, 171798691841, 35, 40), (2, 206158430209, 137438953473, 171798691841), (22, 0, 206158430209, 32), (24, 240518168577, 36, 171798691841), (22, 0, 240518168577, 816), (24, 274877906945, 36, 171798691849), (22, 0, 274877906945, 912), (24, 309237645313, 36, 171798691857), (23, 0, 309237645313, 808)], [(103079215105, 2147483650, 2147483650), (137438953473, 2147483648, 2147484548), (171798691841, 2147483648, 2147484544), (206158430209, 2147483652, 2147483652), (240518168577, 2147483750, 2147483750), (274877906945, 2147483762, 2147483762), (309237645313, 2147483750, 2147483775)], [])
noncomputable def zxfwfr_ar9 : zyXp := (0, [], [0], [(24, 103079215105, 35, 56), (22, 0, 103079215105, 16), (24, 137438953473, 35, 48), (24, 171798691841, 35, 40), (2, 206158430209, 137438953473, 171798691841), (22, 0, 206158430209, 32), (24, 240518168577, 36, 171798691841), (22, 0, 240518168577, 816), (24, 274877906945, 36, 171798691849), (22, 0, 274877906945, 912), (24, 309237645313, 36, 171798691857), (23, 0, 309237645313, 808)], [(103079215105, 2147483650, 2147483650), (137438953473, 2147483648, 2147484548), (171798691841, 2147483648, 2147484544), (206158430209, 2147483652, 2147483652), (240518168577, 2147483750, 2147483750), (274877906945, 2147483762, 2147483762), (309237645313, 2147483520, 2147483748)], [])
noncomputable def zxfwfr_ar10 : zyXp := (0, [], [0], [(24, 103079215105, 35, 56), (22, 0, 103079215105, 16), (24, 137438953473, 35, 48), (24, 171798691841, 35, 40), (2, 206158430209, 137438953473, 171798691841), (22, 0, 206158430209, 32), (24, 240518168577, 36, 171798691841), (22, 0, 240518168577, 816), (24, 274877906945, 36, 171798691849), (22, 0, 274877906945, 912), (24, 309237645313, 36, 171798691857), (22, 0, 309237645313, 808), (24, 343597383681, 36, 171798691865), (23, 0, 343597383681, 808)], [(103079215105, 2147483650, 2147483650), (137438953473, 2147483648, 2147484548), (171798691841, 2147483648, 2147484544), (206158430209, 2147483652, 2147483652), (240518168577, 2147483750, 2147483750), (274877906945, 2147483762, 2147483762), (309237645313, 2147483749, 2147483749), (343597383681, 2147483750, 2147483775)], [])
noncomputable def zxfwfr_ar11 : zyXp := (0, [], [0], [(24, 103079215105, 35, 56), (22, 0, 103079215105, 16), (24, 137438953473, 35, 48), (24, 171798691841, 35, 40), (2, 206158430209, 137438953473, 171798691841), (22, 0, 206158430209, 32), (24, 240518168577, 36, 171798691841), (22, 0, 240518168577, 816), (24, 274877906945, 36, 171798691849), (22, 0, 274877906945, 912), (24, 309237645313, 36, 171798691857), (22, 0, 309237645313, 808), (24, 343597383681, 36, 171798691865), (23, 0, 343597383681, 808)], [(103079215105, 2147483650, 2147483650), (137438953473, 2147483648, 2147484548), (171798691841, 2147483648, 2147484544), (206158430209, 2147483652, 2147483652), (240518168577, 2147483750, 2147483750), (274877906945, 2147483762, 2147483762), (309237645313, 2147483749, 2147483749), (343597383681, 2147483520, 2147483748)], [])
noncomputable def zxfwfr_ar12 : zyXp := (0, [], [8], [(24, 103079215105, 35, 56), (22, 0, 103079215105, 16), (24, 137438953473, 35, 48), (24, 171798691841, 35, 40), (2, 206158430209, 137438953473, 171798691841), (22, 0, 206158430209, 32), (24, 240518168577, 36, 171798691841), (22, 0, 240518168577, 816), (24, 274877906945, 36, 171798691849), (22, 0, 274877906945, 912), (24, 309237645313, 36, 171798691857), (22, 0, 309237645313, 808), (24, 343597383681, 36, 171798691865), (22, 0, 343597383681, 808)], [(103079215105, 2147483650, 2147483650), (137438953473, 2147483648, 2147484548), (171798691841, 2147483648, 2147484544), (206158430209, 2147483652, 2147483652), (240518168577, 2147483750, 2147483750), (274877906945, 2147483762, 2147483762), (309237645313, 2147483749, 2147483749), (343597383681, 2147483749, 2147483749)], [])
noncomputable def zpfwfr_a : zyPh := (0, [283, 800051, 13], [(0, 4294967295), (0, 4294967295), (0, 4294967295)], [], [])
noncomputable def zpfwfr (i : Nat) : zyPh := zpfwfr_a
noncomputable def zXfwfr (i : Nat) : List zyXp := []
noncomputable def zRfwfr (i : Nat) : List zyXp := [zxfwfr_ar0, zxfwfr_ar1, zxfwfr_ar2, zxfwfr_ar3, zxfwfr_ar4, zxfwfr_ar5, zxfwfr_ar6, zxfwfr_ar7, zxfwfr_ar8, zxfwfr_ar9, zxfwfr_ar10, zxfwfr_ar11, zxfwfr_ar12]
noncomputable def zFfwfr (i : Nat) : zyR := []
noncomputable def zSfwfr (i : Nat) : Nat := 0
def xΨfwfr (_ : Nat → Int) (E E2 : zyEm) (r : Int) : Prop := r = if sW (xE E 36) (xE E 35 7) (xE E 35 5) (xE E 35 6) [102, 114, 101, 101] = true then 1 else 0
noncomputable def fpfwfr : zyR := []
theorem zyfwfr_run : zyrS zymc zxi72 (72, 0, 0, 2, 0) 6 zpfwfr (fun _ _ => []) zFfwfr zSfwfr zXfwfr zRfwfr 1 = true := by decide +kernel
theorem zyfwfr_ck : zyAll (fun i => xsubR (zFfwfr i) fpfwfr && ((zXfwfr i).all xckX && (zRfwfr i).all (fun x => xckX x && xrtB true x))) 1 = true := by decide +kernel
def xIfwfr (i : Nat) (x0 : Nat → Int) (E0 : zyEm) (v : Nat → Int) (E : zyEm) : Prop := (E = E0)
def xMfwfr (i : Nat) (x0 : Nat → Int) (E0 : zyEm) (v : Nat → Int) (E : zyEm) : Nat := (0)
theorem xWfree {l : Launch} {en : zEn} {me : zMe} (hen : zG zxMeta 72 = some en) (hme : zG zMeth 72 = some me) : xFc l zymc en me 6 [35, 100006] 0 fpfwfr true xΦ0 xΨfwfr := by
  have een : zG zxMeta 72 = some (zxi72, 2, 3, 5, 72, 0, 0, 2, 0) := rfl
  obtain ⟨me1, hme1, hOK⟩ := zall hen
  rw [hme] at hme1
  cases hme1
  rw [een] at hen
  cases hen
  have hr := zyfwfr_run
  have hck := fun i hi => zyAll_iff zyfwfr_ck i hi
  simp only [Bool.and_eq_true] at hck
  intro B
  refine xcut (mi := zymc) (B := B) hOK rfl rfl (ι := Fin 1) (fun i => zpfwfr i.val) (fun _ _ => []) (fun i => zFfwfr i.val) (fun i => zSfwfr i.val) (fun i => zXfwfr i.val) (fun i => zRfwfr i.val) (fun i y2 ct en2 me2 h => by cases h) 200000 (fun i => zyAll_iff hr i.val i.isLt) (fun i => (hck i.val i.isLt).1) (fun i => (hck i.val i.isLt).2.1) (fun i => (hck i.val i.isLt).2.2) ⟨0, by decide⟩ ⟨rfl, rfl, rfl, rfl⟩ ⟨by decide, by decide⟩ (fun i x0 E0 v E => xIfwfr i.val x0 E0 v E) (fun i x0 E0 v E => xMfwfr i.val x0 E0 v E) ?_ ?_ ?_
  · intro x0 E hx0 hT hΦ
    have hΦ : xΦ0 x0 E := hΦ
    refine ⟨fun k p hp => ?_, ?_⟩
    · have hk : k < 3 := (List.getElem?_eq_some_iff.mp hp).1
      have hk : k = 0 ∨ k = 1 ∨ k = 2 := by omega
      rcases hk with rfl | rfl | rfl
      · have hp : some (0, 4294967295) = some p := hp
        cases hp
        show ((0 : Nat) : Int) ≤ 0 + 2147483648 ∧ 0 + 2147483648 ≤ ((4294967295 : Nat) : Int)
        omega
      · have hp : some (0, 4294967295) = some p := hp
        cases hp
        show ((0 : Nat) : Int) ≤ 0 + 2147483648 ∧ 0 + 2147483648 ≤ ((4294967295 : Nat) : Int)
        omega
      · have hp : some (0, 4294967295) = some p := hp
        cases hp
        show ((0 : Nat) : Int) ≤ x0 0 + 2147483648 ∧ x0 0 + 2147483648 ≤ ((4294967295 : Nat) : Int)
        have hx := hx0 0
        omega
    · show E = E
      rfl
  · intro x0 s Wg hRu hrx hT0 hΦ i v H hT hrv hInv hKc hFr0 hIH x hx ρ2 v2 N2 H2 locs lsB stA hAt hB hv hr2 hXs hag hfr hFr hT2
    rcases i with ⟨i, hi⟩
    have hi2 : i = 0 := by omega
    rcases hi2 with rfl
    · cases hx
  · intro x0 E0 E E2 hrx hT0 hΦ i v hT hrv hInv hKc hFr0 x hx v2 hr2 hXs hag hfr hFr hT2
    rcases i with ⟨i, hi⟩
    have hi2 : i = 0 := by omega
    rcases hi2 with rfl
    · have hx : x ∈ [zxfwfr_ar0, zxfwfr_ar1, zxfwfr_ar2, zxfwfr_ar3, zxfwfr_ar4, zxfwfr_ar5, zxfwfr_ar6, zxfwfr_ar7, zxfwfr_ar8, zxfwfr_ar9, zxfwfr_ar10, zxfwfr_ar11, zxfwfr_ar12] := hx
      have hag : ∀ k, k < 3 → v2 k = v k := hag
      have hfr : xFr [] _ _ := hfr
      rcases List.mem_cons.mp hx with ex | hx
      · subst ex
        obtain ⟨hF, hBd, hM⟩ := hXs
        have b0 : ((2147483651 : Nat) : Int) ≤ (v2 3) + 2147483648 ∧ (v2 3) + 2147483648 ≤ ((2147483653 : Nat) : Int) := xXb hBd 0 rfl
        have f0 : (0 : Int) ≤ 7 ∧ xE E 35 7 = (v2 3) := xXf hF 0 rfl
        have f1 : ¬ (v2 3) = 2 := xXf hF 1 rfl
        have hI : E = E0 := hInv
        show xΨfwfr x0 E0 E2 0
        subst hI
        unfold xΨfwfr
        rw [if_neg]
        intro h
        unfold sW at h
        simp only [tWb, Bool.and_true, Bool.and_eq_true, decide_eq_true_eq, List.length_cons, List.length_nil] at h
        omega
      · skip
        rcases List.mem_cons.mp hx with ex | hx
        · subst ex
          obtain ⟨hF, hBd, hM⟩ := hXs
          have b0 : ((2147483648 : Nat) : Int) ≤ (v2 3) + 2147483648 ∧ (v2 3) + 2147483648 ≤ ((2147483649 : Nat) : Int) := xXb hBd 0 rfl
          have f0 : (0 : Int) ≤ 7 ∧ xE E 35 7 = (v2 3) := xXf hF 0 rfl
          have f1 : ¬ (v2 3) = 2 := xXf hF 1 rfl
          have hI : E = E0 := hInv
          show xΨfwfr x0 E0 E2 0
          subst hI
          unfold xΨfwfr
          rw [if_neg]
          intro h
          unfold sW at h
          simp only [tWb, Bool.and_true, Bool.and_eq_true, decide_eq_true_eq, List.length_cons, List.length_nil] at h
          omega
        · skip
          rcases List.mem_cons.mp hx with ex | hx
          · subst ex
            obtain ⟨hF, hBd, hM⟩ := hXs
            have b0 : ((2147483650 : Nat) : Int) ≤ (v2 3) + 2147483648 ∧ (v2 3) + 2147483648 ≤ ((2147483650 : Nat) : Int) := xXb hBd 0 rfl
            have b1 : ((2147483648 : Nat) : Int) ≤ (v2 4) + 2147483648 ∧ (v2 4) + 2147483648 ≤ ((2147484548 : Nat) : Int) := xXb hBd 1 rfl
            have b2 : ((2147483648 : Nat) : Int) ≤ (v2 5) + 2147483648 ∧ (v2 5) + 2147483648 ≤ ((2147484548 : Nat) : Int) := xXb hBd 2 rfl
            have b3 : ((2147483653 : Nat) : Int) ≤ (v2 6) + 2147483648 ∧ (v2 6) + 2147483648 ≤ ((2147484548 : Nat) : Int) := xXb hBd 3 rfl
            have f0 : (0 : Int) ≤ 7 ∧ xE E 35 7 = (v2 3) := xXf hF 0 rfl
            have f1 : (v2 3) = 2 := xXf hF 1 rfl
            have f2 : (0 : Int) ≤ 6 ∧ xE E 35 6 = (v2 4) := xXf hF 2 rfl
            have f3 : (0 : Int) ≤ 5 ∧ xE E 35 5 = (v2 5) := xXf hF 3 rfl
            have f4 : -2147483648 ≤ (v2 4) - (v2 5) → (v2 4) - (v2 5) < 2147483648 → (v2 6) = (v2 4) - (v2 5) := xXf hF 4 rfl
            have f4 := f4 (by omega) (by omega)
            have f5 : ¬ (v2 6) = 4 := xXf hF 5 rfl
            have hI : E = E0 := hInv
            show xΨfwfr x0 E0 E2 0
            subst hI
            unfold xΨfwfr
            rw [if_neg]
            intro h
            unfold sW at h
            simp only [tWb, Bool.and_true, Bool.and_eq_true, decide_eq_true_eq, List.length_cons, List.length_nil] at h
            rw [show xE E 35 5 = (v2 5) by omega] at h
            simp only [Int.add_assoc, Int.reduceAdd] at h
            omega
          · skip
            rcases List.mem_cons.mp hx with ex | hx
            · subst ex
              obtain ⟨hF, hBd, hM⟩ := hXs
              have b0 : ((2147483650 : Nat) : Int) ≤ (v2 3) + 2147483648 ∧ (v2 3) + 2147483648 ≤ ((2147483650 : Nat) : Int) := xXb hBd 0 rfl
              have b1 : ((2147483648 : Nat) : Int) ≤ (v2 4) + 2147483648 ∧ (v2 4) + 2147483648 ≤ ((2147484548 : Nat) : Int) := xXb hBd 1 rfl
              have b2 : ((2147483648 : Nat) : Int) ≤ (v2 5) + 2147483648 ∧ (v2 5) + 2147483648 ≤ ((2147484548 : Nat) : Int) := xXb hBd 2 rfl
              have b3 : ((2147482748 : Nat) : Int) ≤ (v2 6) + 2147483648 ∧ (v2 6) + 2147483648 ≤ ((2147483651 : Nat) : Int) := xXb hBd 3 rfl
              have f0 : (0 : Int) ≤ 7 ∧ xE E 35 7 = (v2 3) := xXf hF 0 rfl
              have f1 : (v2 3) = 2 := xXf hF 1 rfl
              have f2 : (0 : Int) ≤ 6 ∧ xE E 35 6 = (v2 4) := xXf hF 2 rfl
              have f3 : (0 : Int) ≤ 5 ∧ xE E 35 5 = (v2 5) := xXf hF 3 rfl
              have f4 : -2147483648 ≤ (v2 4) - (v2 5) → (v2 4) - (v2 5) < 2147483648 → (v2 6) = (v2 4) - (v2 5) := xXf hF 4 rfl
              have f4 := f4 (by omega) (by omega)
              have f5 : ¬ (v2 6) = 4 := xXf hF 5 rfl
              have hI : E = E0 := hInv
              show xΨfwfr x0 E0 E2 0
              subst hI
              unfold xΨfwfr
              rw [if_neg]
              intro h
              unfold sW at h
              simp only [tWb, Bool.and_true, Bool.and_eq_true, decide_eq_true_eq, List.length_cons, List.length_nil] at h
              rw [show xE E 35 5 = (v2 5) by omega] at h
              simp only [Int.add_assoc, Int.reduceAdd] at h
              omega
            · skip
              rcases List.mem_cons.mp hx with ex | hx
              · subst ex
                obtain ⟨hF, hBd, hM⟩ := hXs
                have b0 : ((2147483650 : Nat) : Int) ≤ (v2 3) + 2147483648 ∧ (v2 3) + 2147483648 ≤ ((2147483650 : Nat) : Int) := xXb hBd 0 rfl
                have b1 : ((2147483648 : Nat) : Int) ≤ (v2 4) + 2147483648 ∧ (v2 4) + 2147483648 ≤ ((2147484548 : Nat) : Int) := xXb hBd 1 rfl
                have b2 : ((2147483648 : Nat) : Int) ≤ (v2 5) + 2147483648 ∧ (v2 5) + 2147483648 ≤ ((2147484544 : Nat) : Int) := xXb hBd 2 rfl
                have b3 : ((2147483652 : Nat) : Int) ≤ (v2 6) + 2147483648 ∧ (v2 6) + 2147483648 ≤ ((2147483652 : Nat) : Int) := xXb hBd 3 rfl
                have b4 : ((2147483751 : Nat) : Int) ≤ (v2 7) + 2147483648 ∧ (v2 7) + 2147483648 ≤ ((2147483775 : Nat) : Int) := xXb hBd 4 rfl
                have f0 : (0 : Int) ≤ 7 ∧ xE E 35 7 = (v2 3) := xXf hF 0 rfl
                have f1 : (v2 3) = 2 := xXf hF 1 rfl
                have f2 : (0 : Int) ≤ 6 ∧ xE E 35 6 = (v2 4) := xXf hF 2 rfl
                have f3 : (0 : Int) ≤ 5 ∧ xE E 35 5 = (v2 5) := xXf hF 3 rfl
                have f4 : -2147483648 ≤ (v2 4) - (v2 5) → (v2 4) - (v2 5) < 2147483648 → (v2 6) = (v2 4) - (v2 5) := xXf hF 4 rfl
                have f4 := f4 (by omega) (by omega)
                have f5 : (v2 6) = 4 := xXf hF 5 rfl
                have f6 : (0 : Int) ≤ (v2 5) ∧ xE E 36 (v2 5) = (v2 7) := xXf hF 6 rfl
                have f7 : ¬ (v2 7) = 102 := xXf hF 7 rfl
                have hI : E = E0 := hInv
                show xΨfwfr x0 E0 E2 0
                subst hI
                unfold xΨfwfr
                rw [if_neg]
                intro h
                unfold sW at h
                simp only [tWb, Bool.and_true, Bool.and_eq_true, decide_eq_true_eq, List.length_cons, List.length_nil] at h
                rw [show xE E 35 5 = (v2 5) by omega] at h
                simp only [Int.add_assoc, Int.reduceAdd] at h
                omega
              · skip
                rcases List.mem_cons.mp hx with ex | hx
                · subst ex
                  obtain ⟨hF, hBd, hM⟩ := hXs
                  have b0 : ((2147483650 : Nat) : Int) ≤ (v2 3) + 2147483648 ∧ (v2 3) + 2147483648 ≤ ((2147483650 : Nat) : Int) := xXb hBd 0 rfl
                  have b1 : ((2147483648 : Nat) : Int) ≤ (v2 4) + 2147483648 ∧ (v2 4) + 2147483648 ≤ ((2147484548 : Nat) : Int) := xXb hBd 1 rfl
                  have b2 : ((2147483648 : Nat) : Int) ≤ (v2 5) + 2147483648 ∧ (v2 5) + 2147483648 ≤ ((2147484544 : Nat) : Int) := xXb hBd 2 rfl
                  have b3 : ((2147483652 : Nat) : Int) ≤ (v2 6) + 2147483648 ∧ (v2 6) + 2147483648 ≤ ((2147483652 : Nat) : Int) := xXb hBd 3 rfl
                  have b4 : ((2147483520 : Nat) : Int) ≤ (v2 7) + 2147483648 ∧ (v2 7) + 2147483648 ≤ ((2147483749 : Nat) : Int) := xXb hBd 4 rfl
                  have f0 : (0 : Int) ≤ 7 ∧ xE E 35 7 = (v2 3) := xXf hF 0 rfl
                  have f1 : (v2 3) = 2 := xXf hF 1 rfl
                  have f2 : (0 : Int) ≤ 6 ∧ xE E 35 6 = (v2 4) := xXf hF 2 rfl
                  have f3 : (0 : Int) ≤ 5 ∧ xE E 35 5 = (v2 5) := xXf hF 3 rfl
                  have f4 : -2147483648 ≤ (v2 4) - (v2 5) → (v2 4) - (v2 5) < 2147483648 → (v2 6) = (v2 4) - (v2 5) := xXf hF 4 rfl
                  have f4 := f4 (by omega) (by omega)
                  have f5 : (v2 6) = 4 := xXf hF 5 rfl
                  have f6 : (0 : Int) ≤ (v2 5) ∧ xE E 36 (v2 5) = (v2 7) := xXf hF 6 rfl
                  have f7 : ¬ (v2 7) = 102 := xXf hF 7 rfl
                  have hI : E = E0 := hInv
                  show xΨfwfr x0 E0 E2 0
                  subst hI
                  unfold xΨfwfr
                  rw [if_neg]
                  intro h
                  unfold sW at h
                  simp only [tWb, Bool.and_true, Bool.and_eq_true, decide_eq_true_eq, List.length_cons, List.length_nil] at h
                  rw [show xE E 35 5 = (v2 5) by omega] at h
                  simp only [Int.add_assoc, Int.reduceAdd] at h
                  omega
                · skip
                  rcases List.mem_cons.mp hx with ex | hx
                  · subst ex
                    obtain ⟨hF, hBd, hM⟩ := hXs
                    have b0 : ((2147483650 : Nat) : Int) ≤ (v2 3) + 2147483648 ∧ (v2 3) + 2147483648 ≤ ((2147483650 : Nat) : Int) := xXb hBd 0 rfl
                    have b1 : ((2147483648 : Nat) : Int) ≤ (v2 4) + 2147483648 ∧ (v2 4) + 2147483648 ≤ ((2147484548 : Nat) : Int) := xXb hBd 1 rfl
                    have b2 : ((2147483648 : Nat) : Int) ≤ (v2 5) + 2147483648 ∧ (v2 5) + 2147483648 ≤ ((2147484544 : Nat) : Int) := xXb hBd 2 rfl
                    have b3 : ((2147483652 : Nat) : Int) ≤ (v2 6) + 2147483648 ∧ (v2 6) + 2147483648 ≤ ((2147483652 : Nat) : Int) := xXb hBd 3 rfl
                    have b4 : ((2147483750 : Nat) : Int) ≤ (v2 7) + 2147483648 ∧ (v2 7) + 2147483648 ≤ ((2147483750 : Nat) : Int) := xXb hBd 4 rfl
                    have b5 : ((2147483763 : Nat) : Int) ≤ (v2 8) + 2147483648 ∧ (v2 8) + 2147483648 ≤ ((2147483775 : Nat) : Int) := xXb hBd 5 rfl
                    have f0 : (0 : Int) ≤ 7 ∧ xE E 35 7 = (v2 3) := xXf hF 0 rfl
                    have f1 : (v2 3) = 2 := xXf hF 1 rfl
                    have f2 : (0 : Int) ≤ 6 ∧ xE E 35 6 = (v2 4) := xXf hF 2 rfl
                    have f3 : (0 : Int) ≤ 5 ∧ xE E 35 5 = (v2 5) := xXf hF 3 rfl
                    have f4 : -2147483648 ≤ (v2 4) - (v2 5) → (v2 4) - (v2 5) < 2147483648 → (v2 6) = (v2 4) - (v2 5) := xXf hF 4 rfl
                    have f4 := f4 (by omega) (by omega)
                    have f5 : (v2 6) = 4 := xXf hF 5 rfl
                    have f6 : (0 : Int) ≤ (v2 5) ∧ xE E 36 (v2 5) = (v2 7) := xXf hF 6 rfl
                    have f7 : (v2 7) = 102 := xXf hF 7 rfl
                    have f8 : (0 : Int) ≤ (v2 5 + 1) ∧ xE E 36 (v2 5 + 1) = (v2 8) := xXf hF 8 rfl
                    have f9 : ¬ (v2 8) = 114 := xXf hF 9 rfl
                    have hI : E = E0 := hInv
                    show xΨfwfr x0 E0 E2 0
                    subst hI
                    unfold xΨfwfr
                    rw [if_neg]
                    intro h
                    unfold sW at h
                    simp only [tWb, Bool.and_true, Bool.and_eq_true, decide_eq_true_eq, List.length_cons, List.length_nil] at h
                    rw [show xE E 35 5 = (v2 5) by omega] at h
                    simp only [Int.add_assoc, Int.reduceAdd] at h
                    omega
                  · skip
                    rcases List.mem_cons.mp hx with ex | hx
                    · subst ex
                      obtain ⟨hF, hBd, hM⟩ := hXs
                      have b0 : ((2147483650 : Nat) : Int) ≤ (v2 3) + 2147483648 ∧ (v2 3) + 2147483648 ≤ ((2147483650 : Nat) : Int) := xXb hBd 0 rfl
                      have b1 : ((2147483648 : Nat) : Int) ≤ (v2 4) + 2147483648 ∧ (v2 4) + 2147483648 ≤ ((2147484548 : Nat) : Int) := xXb hBd 1 rfl
                      have b2 : ((2147483648 : Nat) : Int) ≤ (v2 5) + 2147483648 ∧ (v2 5) + 2147483648 ≤ ((2147484544 : Nat) : Int) := xXb hBd 2 rfl
                      have b3 : ((2147483652 : Nat) : Int) ≤ (v2 6) + 2147483648 ∧ (v2 6) + 2147483648 ≤ ((2147483652 : Nat) : Int) := xXb hBd 3 rfl
                      have b4 : ((2147483750 : Nat) : Int) ≤ (v2 7) + 2147483648 ∧ (v2 7) + 2147483648 ≤ ((2147483750 : Nat) : Int) := xXb hBd 4 rfl
                      have b5 : ((2147483520 : Nat) : Int) ≤ (v2 8) + 2147483648 ∧ (v2 8) + 2147483648 ≤ ((2147483761 : Nat) : Int) := xXb hBd 5 rfl
                      have f0 : (0 : Int) ≤ 7 ∧ xE E 35 7 = (v2 3) := xXf hF 0 rfl
                      have f1 : (v2 3) = 2 := xXf hF 1 rfl
                      have f2 : (0 : Int) ≤ 6 ∧ xE E 35 6 = (v2 4) := xXf hF 2 rfl
                      have f3 : (0 : Int) ≤ 5 ∧ xE E 35 5 = (v2 5) := xXf hF 3 rfl
                      have f4 : -2147483648 ≤ (v2 4) - (v2 5) → (v2 4) - (v2 5) < 2147483648 → (v2 6) = (v2 4) - (v2 5) := xXf hF 4 rfl
                      have f4 := f4 (by omega) (by omega)
                      have f5 : (v2 6) = 4 := xXf hF 5 rfl
                      have f6 : (0 : Int) ≤ (v2 5) ∧ xE E 36 (v2 5) = (v2 7) := xXf hF 6 rfl
                      have f7 : (v2 7) = 102 := xXf hF 7 rfl
                      have f8 : (0 : Int) ≤ (v2 5 + 1) ∧ xE E 36 (v2 5 + 1) = (v2 8) := xXf hF 8 rfl
                      have f9 : ¬ (v2 8) = 114 := xXf hF 9 rfl
                      have hI : E = E0 := hInv
                      show xΨfwfr x0 E0 E2 0
                      subst hI
                      unfold xΨfwfr
                      rw [if_neg]
                      intro h
                      unfold sW at h
                      simp only [tWb, Bool.and_true, Bool.and_eq_true, decide_eq_true_eq, List.length_cons, List.length_nil] at h
                      rw [show xE E 35 5 = (v2 5) by omega] at h
                      simp only [Int.add_assoc, Int.reduceAdd] at h
                      omega
                    · skip
                      rcases List.mem_cons.mp hx with ex | hx
                      · subst ex
                        obtain ⟨hF, hBd, hM⟩ := hXs
                        have b0 : ((2147483650 : Nat) : Int) ≤ (v2 3) + 2147483648 ∧ (v2 3) + 2147483648 ≤ ((2147483650 : Nat) : Int) := xXb hBd 0 rfl
                        have b1 : ((2147483648 : Nat) : Int) ≤ (v2 4) + 2147483648 ∧ (v2 4) + 2147483648 ≤ ((2147484548 : Nat) : Int) := xXb hBd 1 rfl
                        have b2 : ((2147483648 : Nat) : Int) ≤ (v2 5) + 2147483648 ∧ (v2 5) + 2147483648 ≤ ((2147484544 : Nat) : Int) := xXb hBd 2 rfl
                        have b3 : ((2147483652 : Nat) : Int) ≤ (v2 6) + 2147483648 ∧ (v2 6) + 2147483648 ≤ ((2147483652 : Nat) : Int) := xXb hBd 3 rfl
                        have b4 : ((2147483750 : Nat) : Int) ≤ (v2 7) + 2147483648 ∧ (v2 7) + 2147483648 ≤ ((2147483750 : Nat) : Int) := xXb hBd 4 rfl
                        have b5 : ((2147483762 : Nat) : Int) ≤ (v2 8) + 2147483648 ∧ (v2 8) + 2147483648 ≤ ((2147483762 : Nat) : Int) := xXb hBd 5 rfl
                        have b6 : ((2147483750 : Nat) : Int) ≤ (v2 9) + 2147483648 ∧ (v2 9) + 2147483648 ≤ ((2147483775 : Nat) : Int) := xXb hBd 6 rfl
                        have f0 : (0 : Int) ≤ 7 ∧ xE E 35 7 = (v2 3) := xXf hF 0 rfl
                        have f1 : (v2 3) = 2 := xXf hF 1 rfl
                        have f2 : (0 : Int) ≤ 6 ∧ xE E 35 6 = (v2 4) := xXf hF 2 rfl
                        have f3 : (0 : Int) ≤ 5 ∧ xE E 35 5 = (v2 5) := xXf hF 3 rfl
                        have f4 : -2147483648 ≤ (v2 4) - (v2 5) → (v2 4) - (v2 5) < 2147483648 → (v2 6) = (v2 4) - (v2 5) := xXf hF 4 rfl
                        have f4 := f4 (by omega) (by omega)
                        have f5 : (v2 6) = 4 := xXf hF 5 rfl
                        have f6 : (0 : Int) ≤ (v2 5) ∧ xE E 36 (v2 5) = (v2 7) := xXf hF 6 rfl
                        have f7 : (v2 7) = 102 := xXf hF 7 rfl
                        have f8 : (0 : Int) ≤ (v2 5 + 1) ∧ xE E 36 (v2 5 + 1) = (v2 8) := xXf hF 8 rfl
                        have f9 : (v2 8) = 114 := xXf hF 9 rfl
                        have f10 : (0 : Int) ≤ (v2 5 + 2) ∧ xE E 36 (v2 5 + 2) = (v2 9) := xXf hF 10 rfl
                        have f11 : ¬ (v2 9) = 101 := xXf hF 11 rfl
                        have hI : E = E0 := hInv
                        show xΨfwfr x0 E0 E2 0
                        subst hI
                        unfold xΨfwfr
                        rw [if_neg]
                        intro h
                        unfold sW at h
                        simp only [tWb, Bool.and_true, Bool.and_eq_true, decide_eq_true_eq, List.length_cons, List.length_nil] at h
                        rw [show xE E 35 5 = (v2 5) by omega] at h
                        simp only [Int.add_assoc, Int.reduceAdd] at h
                        omega
                      · skip
                        rcases List.mem_cons.mp hx with ex | hx
                        · subst ex
                          obtain ⟨hF, hBd, hM⟩ := hXs
                          have b0 : ((2147483650 : Nat) : Int) ≤ (v2 3) + 2147483648 ∧ (v2 3) + 2147483648 ≤ ((2147483650 : Nat) : Int) := xXb hBd 0 rfl
                          have b1 : ((2147483648 : Nat) : Int) ≤ (v2 4) + 2147483648 ∧ (v2 4) + 2147483648 ≤ ((2147484548 : Nat) : Int) := xXb hBd 1 rfl
                          have b2 : ((2147483648 : Nat) : Int) ≤ (v2 5) + 2147483648 ∧ (v2 5) + 2147483648 ≤ ((2147484544 : Nat) : Int) := xXb hBd 2 rfl
                          have b3 : ((2147483652 : Nat) : Int) ≤ (v2 6) + 2147483648 ∧ (v2 6) + 2147483648 ≤ ((2147483652 : Nat) : Int) := xXb hBd 3 rfl
                          have b4 : ((2147483750 : Nat) : Int) ≤ (v2 7) + 2147483648 ∧ (v2 7) + 2147483648 ≤ ((2147483750 : Nat) : Int) := xXb hBd 4 rfl
                          have b5 : ((2147483762 : Nat) : Int) ≤ (v2 8) + 2147483648 ∧ (v2 8) + 2147483648 ≤ ((2147483762 : Nat) : Int) := xXb hBd 5 rfl
                          have b6 : ((2147483520 : Nat) : Int) ≤ (v2 9) + 2147483648 ∧ (v2 9) + 2147483648 ≤ ((2147483748 : Nat) : Int) := xXb hBd 6 rfl
                          have f0 : (0 : Int) ≤ 7 ∧ xE E 35 7 = (v2 3) := xXf hF 0 rfl
                          have f1 : (v2 3) = 2 := xXf hF 1 rfl
                          have f2 : (0 : Int) ≤ 6 ∧ xE E 35 6 = (v2 4) := xXf hF 2 rfl
                          have f3 : (0 : Int) ≤ 5 ∧ xE E 35 5 = (v2 5) := xXf hF 3 rfl
                          have f4 : -2147483648 ≤ (v2 4) - (v2 5) → (v2 4) - (v2 5) < 2147483648 → (v2 6) = (v2 4) - (v2 5) := xXf hF 4 rfl
                          have f4 := f4 (by omega) (by omega)
                          have f5 : (v2 6) = 4 := xXf hF 5 rfl
                          have f6 : (0 : Int) ≤ (v2 5) ∧ xE E 36 (v2 5) = (v2 7) := xXf hF 6 rfl
                          have f7 : (v2 7) = 102 := xXf hF 7 rfl
                          have f8 : (0 : Int) ≤ (v2 5 + 1) ∧ xE E 36 (v2 5 + 1) = (v2 8) := xXf hF 8 rfl
                          have f9 : (v2 8) = 114 := xXf hF 9 rfl
                          have f10 : (0 : Int) ≤ (v2 5 + 2) ∧ xE E 36 (v2 5 + 2) = (v2 9) := xXf hF 10 rfl
                          have f11 : ¬ (v2 9) = 101 := xXf hF 11 rfl
                          have hI : E = E0 := hInv
                          show xΨfwfr x0 E0 E2 0
                          subst hI
                          unfold xΨfwfr
                          rw [if_neg]
                          intro h
                          unfold sW at h
                          simp only [tWb, Bool.and_true, Bool.and_eq_true, decide_eq_true_eq, List.length_cons, List.length_nil] at h
                          rw [show xE E 35 5 = (v2 5) by omega] at h
                          simp only [Int.add_assoc, Int.reduceAdd] at h
                          omega
                        · skip
                          rcases List.mem_cons.mp hx with ex | hx
                          · subst ex
                            obtain ⟨hF, hBd, hM⟩ := hXs
                            have b0 : ((2147483650 : Nat) : Int) ≤ (v2 3) + 2147483648 ∧ (v2 3) + 2147483648 ≤ ((2147483650 : Nat) : Int) := xXb hBd 0 rfl
                            have b1 : ((2147483648 : Nat) : Int) ≤ (v2 4) + 2147483648 ∧ (v2 4) + 2147483648 ≤ ((2147484548 : Nat) : Int) := xXb hBd 1 rfl
                            have b2 : ((2147483648 : Nat) : Int) ≤ (v2 5) + 2147483648 ∧ (v2 5) + 2147483648 ≤ ((2147484544 : Nat) : Int) := xXb hBd 2 rfl
                            have b3 : ((2147483652 : Nat) : Int) ≤ (v2 6) + 2147483648 ∧ (v2 6) + 2147483648 ≤ ((2147483652 : Nat) : Int) := xXb hBd 3 rfl
                            have b4 : ((2147483750 : Nat) : Int) ≤ (v2 7) + 2147483648 ∧ (v2 7) + 2147483648 ≤ ((2147483750 : Nat) : Int) := xXb hBd 4 rfl
                            have b5 : ((2147483762 : Nat) : Int) ≤ (v2 8) + 2147483648 ∧ (v2 8) + 2147483648 ≤ ((2147483762 : Nat) : Int) := xXb hBd 5 rfl
                            have b6 : ((2147483749 : Nat) : Int) ≤ (v2 9) + 2147483648 ∧ (v2 9) + 2147483648 ≤ ((2147483749 : Nat) : Int) := xXb hBd 6 rfl
                            have b7 : ((2147483750 : Nat) : Int) ≤ (v2 10) + 2147483648 ∧ (v2 10) + 2147483648 ≤ ((2147483775 : Nat) : Int) := xXb hBd 7 rfl
                            have f0 : (0 : Int) ≤ 7 ∧ xE E 35 7 = (v2 3) := xXf hF 0 rfl
                            have f1 : (v2 3) = 2 := xXf hF 1 rfl
                            have f2 : (0 : Int) ≤ 6 ∧ xE E 35 6 = (v2 4) := xXf hF 2 rfl
                            have f3 : (0 : Int) ≤ 5 ∧ xE E 35 5 = (v2 5) := xXf hF 3 rfl
                            have f4 : -2147483648 ≤ (v2 4) - (v2 5) → (v2 4) - (v2 5) < 2147483648 → (v2 6) = (v2 4) - (v2 5) := xXf hF 4 rfl
                            have f4 := f4 (by omega) (by omega)
                            have f5 : (v2 6) = 4 := xXf hF 5 rfl
                            have f6 : (0 : Int) ≤ (v2 5) ∧ xE E 36 (v2 5) = (v2 7) := xXf hF 6 rfl
                            have f7 : (v2 7) = 102 := xXf hF 7 rfl
                            have f8 : (0 : Int) ≤ (v2 5 + 1) ∧ xE E 36 (v2 5 + 1) = (v2 8) := xXf hF 8 rfl
                            have f9 : (v2 8) = 114 := xXf hF 9 rfl
                            have f10 : (0 : Int) ≤ (v2 5 + 2) ∧ xE E 36 (v2 5 + 2) = (v2 9) := xXf hF 10 rfl
                            have f11 : (v2 9) = 101 := xXf hF 11 rfl
                            have f12 : (0 : Int) ≤ (v2 5 + 3) ∧ xE E 36 (v2 5 + 3) = (v2 10) := xXf hF 12 rfl
                            have f13 : ¬ (v2 10) = 101 := xXf hF 13 rfl
                            have hI : E = E0 := hInv
                            show xΨfwfr x0 E0 E2 0
                            subst hI
                            unfold xΨfwfr
                            rw [if_neg]
                            intro h
                            unfold sW at h
                            simp only [tWb, Bool.and_true, Bool.and_eq_true, decide_eq_true_eq, List.length_cons, List.length_nil] at h
                            rw [show xE E 35 5 = (v2 5) by omega] at h
                            simp only [Int.add_assoc, Int.reduceAdd] at h
                            omega
                          · skip
                            rcases List.mem_cons.mp hx with ex | hx
                            · subst ex
                              obtain ⟨hF, hBd, hM⟩ := hXs
                              have b0 : ((2147483650 : Nat) : Int) ≤ (v2 3) + 2147483648 ∧ (v2 3) + 2147483648 ≤ ((2147483650 : Nat) : Int) := xXb hBd 0 rfl
                              have b1 : ((2147483648 : Nat) : Int) ≤ (v2 4) + 2147483648 ∧ (v2 4) + 2147483648 ≤ ((2147484548 : Nat) : Int) := xXb hBd 1 rfl
                              have b2 : ((2147483648 : Nat) : Int) ≤ (v2 5) + 2147483648 ∧ (v2 5) + 2147483648 ≤ ((2147484544 : Nat) : Int) := xXb hBd 2 rfl
                              have b3 : ((2147483652 : Nat) : Int) ≤ (v2 6) + 2147483648 ∧ (v2 6) + 2147483648 ≤ ((2147483652 : Nat) : Int) := xXb hBd 3 rfl
                              have b4 : ((2147483750 : Nat) : Int) ≤ (v2 7) + 2147483648 ∧ (v2 7) + 2147483648 ≤ ((2147483750 : Nat) : Int) := xXb hBd 4 rfl
                              have b5 : ((2147483762 : Nat) : Int) ≤ (v2 8) + 2147483648 ∧ (v2 8) + 2147483648 ≤ ((2147483762 : Nat) : Int) := xXb hBd 5 rfl
                              have b6 : ((2147483749 : Nat) : Int) ≤ (v2 9) + 2147483648 ∧ (v2 9) + 2147483648 ≤ ((2147483749 : Nat) : Int) := xXb hBd 6 rfl
                              have b7 : ((2147483520 : Nat) : Int) ≤ (v2 10) + 2147483648 ∧ (v2 10) + 2147483648 ≤ ((2147483748 : Nat) : Int) := xXb hBd 7 rfl
                              have f0 : (0 : Int) ≤ 7 ∧ xE E 35 7 = (v2 3) := xXf hF 0 rfl
                              have f1 : (v2 3) = 2 := xXf hF 1 rfl
                              have f2 : (0 : Int) ≤ 6 ∧ xE E 35 6 = (v2 4) := xXf hF 2 rfl
                              have f3 : (0 : Int) ≤ 5 ∧ xE E 35 5 = (v2 5) := xXf hF 3 rfl
                              have f4 : -2147483648 ≤ (v2 4) - (v2 5) → (v2 4) - (v2 5) < 2147483648 → (v2 6) = (v2 4) - (v2 5) := xXf hF 4 rfl
                              have f4 := f4 (by omega) (by omega)
                              have f5 : (v2 6) = 4 := xXf hF 5 rfl
                              have f6 : (0 : Int) ≤ (v2 5) ∧ xE E 36 (v2 5) = (v2 7) := xXf hF 6 rfl
                              have f7 : (v2 7) = 102 := xXf hF 7 rfl
                              have f8 : (0 : Int) ≤ (v2 5 + 1) ∧ xE E 36 (v2 5 + 1) = (v2 8) := xXf hF 8 rfl
                              have f9 : (v2 8) = 114 := xXf hF 9 rfl
                              have f10 : (0 : Int) ≤ (v2 5 + 2) ∧ xE E 36 (v2 5 + 2) = (v2 9) := xXf hF 10 rfl
                              have f11 : (v2 9) = 101 := xXf hF 11 rfl
                              have f12 : (0 : Int) ≤ (v2 5 + 3) ∧ xE E 36 (v2 5 + 3) = (v2 10) := xXf hF 12 rfl
                              have f13 : ¬ (v2 10) = 101 := xXf hF 13 rfl
                              have hI : E = E0 := hInv
                              show xΨfwfr x0 E0 E2 0
                              subst hI
                              unfold xΨfwfr
                              rw [if_neg]
                              intro h
                              unfold sW at h
                              simp only [tWb, Bool.and_true, Bool.and_eq_true, decide_eq_true_eq, List.length_cons, List.length_nil] at h
                              rw [show xE E 35 5 = (v2 5) by omega] at h
                              simp only [Int.add_assoc, Int.reduceAdd] at h
                              omega
                            · skip
                              have ex := List.mem_singleton.mp hx
                              subst ex
                              obtain ⟨hF, hBd, hM⟩ := hXs
                              have b0 : ((2147483650 : Nat) : Int) ≤ (v2 3) + 2147483648 ∧ (v2 3) + 2147483648 ≤ ((2147483650 : Nat) : Int) := xXb hBd 0 rfl
                              have b1 : ((2147483648 : Nat) : Int) ≤ (v2 4) + 2147483648 ∧ (v2 4) + 2147483648 ≤ ((2147484548 : Nat) : Int) := xXb hBd 1 rfl
                              have b2 : ((2147483648 : Nat) : Int) ≤ (v2 5) + 2147483648 ∧ (v2 5) + 2147483648 ≤ ((2147484544 : Nat) : Int) := xXb hBd 2 rfl
                              have b3 : ((2147483652 : Nat) : Int) ≤ (v2 6) + 2147483648 ∧ (v2 6) + 2147483648 ≤ ((2147483652 : Nat) : Int) := xXb hBd 3 rfl
                              have b4 : ((2147483750 : Nat) : Int) ≤ (v2 7) + 2147483648 ∧ (v2 7) + 2147483648 ≤ ((2147483750 : Nat) : Int) := xXb hBd 4 rfl
                              have b5 : ((2147483762 : Nat) : Int) ≤ (v2 8) + 2147483648 ∧ (v2 8) + 2147483648 ≤ ((2147483762 : Nat) : Int) := xXb hBd 5 rfl
                              have b6 : ((2147483749 : Nat) : Int) ≤ (v2 9) + 2147483648 ∧ (v2 9) + 2147483648 ≤ ((2147483749 : Nat) : Int) := xXb hBd 6 rfl
                              have b7 : ((2147483749 : Nat) : Int) ≤ (v2 10) + 2147483648 ∧ (v2 10) + 2147483648 ≤ ((2147483749 : Nat) : Int) := xXb hBd 7 rfl
                              have f0 : (0 : Int) ≤ 7 ∧ xE E 35 7 = (v2 3) := xXf hF 0 rfl
                              have f1 : (v2 3) = 2 := xXf hF 1 rfl
                              have f2 : (0 : Int) ≤ 6 ∧ xE E 35 6 = (v2 4) := xXf hF 2 rfl
                              have f3 : (0 : Int) ≤ 5 ∧ xE E 35 5 = (v2 5) := xXf hF 3 rfl
                              have f4 : -2147483648 ≤ (v2 4) - (v2 5) → (v2 4) - (v2 5) < 2147483648 → (v2 6) = (v2 4) - (v2 5) := xXf hF 4 rfl
                              have f4 := f4 (by omega) (by omega)
                              have f5 : (v2 6) = 4 := xXf hF 5 rfl
                              have f6 : (0 : Int) ≤ (v2 5) ∧ xE E 36 (v2 5) = (v2 7) := xXf hF 6 rfl
                              have f7 : (v2 7) = 102 := xXf hF 7 rfl
                              have f8 : (0 : Int) ≤ (v2 5 + 1) ∧ xE E 36 (v2 5 + 1) = (v2 8) := xXf hF 8 rfl
                              have f9 : (v2 8) = 114 := xXf hF 9 rfl
                              have f10 : (0 : Int) ≤ (v2 5 + 2) ∧ xE E 36 (v2 5 + 2) = (v2 9) := xXf hF 10 rfl
                              have f11 : (v2 9) = 101 := xXf hF 11 rfl
                              have f12 : (0 : Int) ≤ (v2 5 + 3) ∧ xE E 36 (v2 5 + 3) = (v2 10) := xXf hF 12 rfl
                              have f13 : (v2 10) = 101 := xXf hF 13 rfl
                              have hI : E = E0 := hInv
                              show xΨfwfr x0 E0 E2 1
                              subst hI
                              unfold xΨfwfr
                              rw [if_pos]
                              unfold sW
                              simp only [tWb, Bool.and_true, Bool.and_eq_true, decide_eq_true_eq, List.length_cons, List.length_nil]
                              rw [show xE E 35 5 = (v2 5) by omega]
                              simp only [Int.add_assoc, Int.reduceAdd]
                              refine ⟨by omega, by omega, ?_⟩
                              refine ⟨by omega, by omega, by omega, by omega⟩
noncomputable def zxfwpl_ar0 : zyXp := (0, [], [0], [(24, 103079215105, 35, 56), (23, 0, 103079215105, 16)], [(103079215105, 2147483651, 2147483653)], [])
noncomputable def zxfwpl_ar1 : zyXp := (0, [], [0], [(24, 103079215105, 35, 56), (23, 0, 103079215105, 16)], [(103079215105, 2147483648, 2147483649)], [])
noncomputable def zxfwpl_ar2 : zyXp := (0, [], [0], [(24, 103079215105, 35, 56), (22, 0, 103079215105, 16), (24, 137438953473, 35, 48), (24, 171798691841, 35, 40), (2, 206158430209, 137438953473, 171798691841), (23, 0, 206158430209, 40)], [(103079215105, 2147483650, 2147483650), (137438953473, 2147483648, 2147484548), (171798691841, 2147483648, 2147484548), (206158430209, 2147483654, 2147484548)], [])
noncomputable def zxfwpl_ar3 : zyXp := (0, [], [0], [(24, 103079215105, 35, 56), (22, 0, 103079215105, 16), (24, 137438953473, 35, 48), (24, 171798691841, 35, 40), (2, 206158430209, 137438953473, 171798691841), (23, 0, 206158430209, 40)], [(103079215105, 2147483650, 2147483650), (137438953473, 2147483648, 2147484548), (171798691841, 2147483648, 2147484548), (206158430209, 2147482748, 2147483652)], [])
noncomputable def zxfwpl_ar4 : zyXp := (0, [], [0], [(24, 103079215105, 35, 56), (22, 0, 103079215105, 16), (24, 137438953473, 35, 48), (24, 171798691841, 35, 40), (2, 206158430209, 137438953473, 171798691841), (22, 0, 206158430209, 40), (24, 240518168577, 36, 171798691841), (23, 0, 240518168577, 896)], [(103079215105, 2147483650, 2147483650), (137438953473, 2147483648, 2147484548), (171798691841, 2147483648, 2147484543), (206158430209, 2147483653, 2147483653), (240518168577, 2147483761, 2147483775)], [])
noncomputable def zxfwpl_ar5 : zyXp := (0, [], [0], [(24, 103079215105, 35, 56), (22, 0, 103079215105, 16), (24, 137438953473, 35, 48), (24, 171798691841, 35, 40), (2, 206158430209, 137438953473, 171798691841), (22, 0, 206158430209, 40), (24, 240518168577, 36, 171798691841), (23, 0, 240518168577, 896)], [(103079215105, 2147483650, 2147483650), (137438953473, 2147483648, 2147484548), (171798691841, 2147483648, 2147484543), (206158430209, 2147483653, 2147483653), (240518168577, 2147483520, 2147483759)], [])
noncomputable def zxfwpl_ar6 : zyXp := (0, [], [0], [(24, 103079215105, 35, 56), (22, 0, 103079215105, 16), (24, 137438953473, 35, 48), (24, 171798691841, 35, 40), (2, 206158430209, 137438953473, 171798691841), (22, 0, 206158430209, 40), (24, 240518168577, 36, 171798691841), (22, 0, 240518168577, 896), (24, 274877906945, 36, 171798691849), (23, 0, 274877906945, 864)], [(103079215105, 2147483650, 2147483650), (137438953473, 2147483648, 2147484548), (171798691841, 2147483648, 2147484543), (206158430209, 2147483653, 2147483653), (240518168577, 2147483760, 2147483760), (274877906945, 2147483757, 2147483775)], [])
noncomputable def zxfwpl_ar7 : zyXp := (0, [], [0], [(24, 103079215105, 35, 56), (22, 0, 103079215105, 16), (24, 137438953473, 35, 48), (24, 171798691841, 35, 40), (2, 206158430209, 137438953473, 171798691841), (22, 0, 206158430209, 40), (24, 240518168577, 36, 171798691841), (22, 0, 240518168577, 896), (24, 274877906945, 36, 171798691849), (23, 0, 274877906945, 864)], [(103079215105, 2147483650, 2147483650), (137438953473, 2147483648, 2147484548), (171798691841, 2147483648, 2147484543), (206158430209, 2147483653, 2147483653), (240518168577, 2147483760, 2147483760), (274877906945, 2147483520, 2147483755)], [])
noncomputable def zxfwpl_ar8 : zyXp := (0, [], [0], [(24, 103079215105, 35, 56), (22, 0, 103079215105, 16), (24, 137438953473, 35, 48), (24, 171798691841, 35, 40), (2, 206158430209, 137438953473, 171798691841), (22, 0, 206158430209, 40), (24, 240518168577, 36, 171798691841), (22, 0, 240518168577, 896), (24, 274877906945, 36, 171798691849), (22, 0, 274877906945, 864), (24, 309237645313, 36, 171798691857), (23, 0, 309237645313, 776)], [(103079215105, 2147483650, 2147483650), (137438953473, 2147483648, 2147484548), (171798691841, 2147483648, 2147484543), (206158430209, 2147483653, 2147483653), (240518168577, 2147483760, 2147483760), (274877906945, 2147483756, 2147483756), (309237645313, 2147483746, 2147483775)], [])
noncomputable def zxfwpl_ar9 : zyXp := (0, [], [0], [(24, 103079215105, 35, 56), (22, 0, 103079215105, 16), (24, 137438953473, 35, 48), (24, 171798691841, 35, 40), (2, 206158430209, 137438953473, 171798691841), (22, 0, 206158430209, 40), (24, 240518168577, 36, 171798691841), (22, 0, 240518168577, 896), (24, 274877906945, 36, 171798691849), (22, 0, 274877906945, 864), (24, 309237645313, 36, 171798691857), (23, 0, 309237645313, 776)], [(103079215105, 2147483650, 2147483650), (137438953473, 2147483648, 2147484548), (171798691841, 2147483648, 2147484543), (206158430209, 2147483653, 2147483653), (240518168577, 2147483760, 2147483760), (274877906945, 2147483756, 2147483756), (309237645313, 2147483520, 2147483744)], [])
noncomputable def zxfwpl_ar10 : zyXp := (0, [], [0], [(24, 103079215105, 35, 56), (22, 0, 103079215105, 16), (24, 137438953473, 35, 48), (24, 171798691841, 35, 40), (2, 206158430209, 137438953473, 171798691841), (22, 0, 206158430209, 40), (24, 240518168577, 36, 171798691841), (22, 0, 240518168577, 896), (24, 274877906945, 36, 171798691849), (22, 0, 274877906945, 864), (24, 309237645313, 36, 171798691857), (22, 0, 309237645313, 776), (24, 343597383681, 36, 171798691865), (23, 0, 343597383681, 792)], [(103079215105, 2147483650, 2147483650), (137438953473, 2147483648, 2147484548), (171798691841, 2147483648, 2147484543), (206158430209, 2147483653, 2147483653), (240518168577, 2147483760, 2147483760), (274877906945, 2147483756, 2147483756), (309237645313, 2147483745, 2147483745), (343597383681, 2147483748, 2147483775)], [])
noncomputable def zxfwpl_ar11 : zyXp := (0, [], [0], [(24, 103079215105, 35, 56), (22, 0, 103079215105, 16), (24, 137438953473, 35, 48), (24, 171798691841, 35, 40), (2, 206158430209, 137438953473, 171798691841), (22, 0, 206158430209, 40), (24, 240518168577, 36, 171798691841), (22, 0, 240518168577, 896), (24, 274877906945, 36, 171798691849), (22, 0, 274877906945, 864), (24, 309237645313, 36, 171798691857), (22, 0, 309237645313, 776), (24, 343597383681, 36, 171798691865), (23, 0, 343597383681, 792)], [(103079215105, 2147483650, 2147483650), (137438953473, 2147483648, 2147484548), (171798691841, 2147483648, 2147484543), (206158430209, 2147483653, 2147483653), (240518168577, 2147483760, 2147483760), (274877906945, 2147483756, 2147483756), (309237645313, 2147483745, 2147483745), (343597383681, 2147483520, 2147483746)], [])
noncomputable def zxfwpl_ar12 : zyXp := (0, [], [0], [(24, 103079215105, 35, 56), (22, 0, 103079215105, 16), (24, 137438953473, 35, 48), (24, 171798691841, 35, 40), (2, 206158430209, 137438953473, 171798691841), (22, 0, 206158430209, 40), (24, 240518168577, 36, 171798691841), (22, 0, 240518168577, 896), (24, 274877906945, 36, 171798691849), (22, 0, 274877906945, 864), (24, 309237645313, 36, 171798691857), (22, 0, 309237645313, 776), (24, 343597383681, 36, 171798691865), (22, 0, 343597383681, 792), (24, 377957122049, 36, 171798691873), (23, 0, 377957122049, 808)], [(103079215105, 2147483650, 2147483650), (137438953473, 2147483648, 2147484548), (171798691841, 2147483648, 2147484543), (206158430209, 2147483653, 2147483653), (240518168577, 2147483760, 2147483760), (274877906945, 2147483756, 2147483756), (309237645313, 2147483745, 2147483745), (343597383681, 2147483747, 2147483747), (377957122049, 2147483750, 2147483775)], [])
noncomputable def zxfwpl_ar13 : zyXp := (0, [], [0], [(24, 103079215105, 35, 56), (22, 0, 103079215105, 16), (24, 137438953473, 35, 48), (24, 171798691841, 35, 40), (2, 206158430209, 137438953473, 171798691841), (22, 0, 206158430209, 40), (24, 240518168577, 36, 171798691841), (22, 0, 240518168577, 896), (24, 274877906945, 36, 171798691849), (22, 0, 274877906945, 864), (24, 309237645313, 36, 171798691857), (22, 0, 309237645313, 776), (24, 343597383681, 36, 171798691865), (22, 0, 343597383681, 792), (24, 377957122049, 36, 171798691873), (23, 0, 377957122049, 808)], [(103079215105, 2147483650, 2147483650), (137438953473, 2147483648, 2147484548), (171798691841, 2147483648, 2147484543), (206158430209, 2147483653, 2147483653), (240518168577, 2147483760, 2147483760), (274877906945, 2147483756, 2147483756), (309237645313, 2147483745, 2147483745), (343597383681, 2147483747, 2147483747), (377957122049, 2147483520, 2147483748)], [])
noncomputable def zxfwpl_ar14 : zyXp := (0, [], [8], [(24, 103079215105, 35, 56), (22, 0, 103079215105, 16), (24, 137438953473, 35, 48), (24, 171798691841, 35, 40), (2, 206158430209, 137438953473, 171798691841), (22, 0, 206158430209, 40), (24, 240518168577, 36, 171798691841), (22, 0, 240518168577, 896), (24, 274877906945, 36, 171798691849), (22, 0, 274877906945, 864), (24, 309237645313, 36, 171798691857), (22, 0, 309237645313, 776), (24, 343597383681, 36, 171798691865), (22, 0, 343597383681, 792), (24, 377957122049, 36, 171798691873), (22, 0, 377957122049, 808)], [(103079215105, 2147483650, 2147483650), (137438953473, 2147483648, 2147484548), (171798691841, 2147483648, 2147484543), (206158430209, 2147483653, 2147483653), (240518168577, 2147483760, 2147483760), (274877906945, 2147483756, 2147483756), (309237645313, 2147483745, 2147483745), (343597383681, 2147483747, 2147483747), (377957122049, 2147483749, 2147483749)], [])
noncomputable def zpfwpl_a : zyPh := (0, [283, 800059, 13], [(0, 4294967295), (0, 4294967295), (0, 4294967295)], [], [])
noncomputable def zpfwpl (i : Nat) : zyPh := zpfwpl_a
noncomputable def zXfwpl (i : Nat) : List zyXp := []
noncomputable def zRfwpl (i : Nat) : List zyXp := [zxfwpl_ar0, zxfwpl_ar1, zxfwpl_ar2, zxfwpl_ar3, zxfwpl_ar4, zxfwpl_ar5, zxfwpl_ar6, zxfwpl_ar7, zxfwpl_ar8, zxfwpl_ar9, zxfwpl_ar10, zxfwpl_ar11, zxfwpl_ar12, zxfwpl_ar13, zxfwpl_ar14]
noncomputable def zFfwpl (i : Nat) : zyR := []
noncomputable def zSfwpl (i : Nat) : Nat := 0
def xΨfwpl (_ : Nat → Int) (E E2 : zyEm) (r : Int) : Prop := r = if sW (xE E 36) (xE E 35 7) (xE E 35 5) (xE E 35 6) [112, 108, 97, 99, 101] = true then 1 else 0
noncomputable def fpfwpl : zyR := []
theorem zyfwpl_run : zyrS zymc zxi72 (72, 0, 0, 2, 0) 6 zpfwpl (fun _ _ => []) zFfwpl zSfwpl zXfwpl zRfwpl 1 = true := by decide +kernel
theorem zyfwpl_ck : zyAll (fun i => xsubR (zFfwpl i) fpfwpl && ((zXfwpl i).all xckX && (zRfwpl i).all (fun x => xckX x && xrtB true x))) 1 = true := by decide +kernel
def xIfwpl (i : Nat) (x0 : Nat → Int) (E0 : zyEm) (v : Nat → Int) (E : zyEm) : Prop := (E = E0)
def xMfwpl (i : Nat) (x0 : Nat → Int) (E0 : zyEm) (v : Nat → Int) (E : zyEm) : Nat := (0)
theorem xWplace {l : Launch} {en : zEn} {me : zMe} (hen : zG zxMeta 72 = some en) (hme : zG zMeth 72 = some me) : xFc l zymc en me 6 [35, 100007] 0 fpfwpl true xΦ0 xΨfwpl := by
  have een : zG zxMeta 72 = some (zxi72, 2, 3, 5, 72, 0, 0, 2, 0) := rfl
  obtain ⟨me1, hme1, hOK⟩ := zall hen
  rw [hme] at hme1
  cases hme1
  rw [een] at hen
  cases hen
  have hr := zyfwpl_run
  have hck := fun i hi => zyAll_iff zyfwpl_ck i hi
  simp only [Bool.and_eq_true] at hck
  intro B
  refine xcut (mi := zymc) (B := B) hOK rfl rfl (ι := Fin 1) (fun i => zpfwpl i.val) (fun _ _ => []) (fun i => zFfwpl i.val) (fun i => zSfwpl i.val) (fun i => zXfwpl i.val) (fun i => zRfwpl i.val) (fun i y2 ct en2 me2 h => by cases h) 200000 (fun i => zyAll_iff hr i.val i.isLt) (fun i => (hck i.val i.isLt).1) (fun i => (hck i.val i.isLt).2.1) (fun i => (hck i.val i.isLt).2.2) ⟨0, by decide⟩ ⟨rfl, rfl, rfl, rfl⟩ ⟨by decide, by decide⟩ (fun i x0 E0 v E => xIfwpl i.val x0 E0 v E) (fun i x0 E0 v E => xMfwpl i.val x0 E0 v E) ?_ ?_ ?_
  · intro x0 E hx0 hT hΦ
    have hΦ : xΦ0 x0 E := hΦ
    refine ⟨fun k p hp => ?_, ?_⟩
    · have hk : k < 3 := (List.getElem?_eq_some_iff.mp hp).1
      have hk : k = 0 ∨ k = 1 ∨ k = 2 := by omega
      rcases hk with rfl | rfl | rfl
      · have hp : some (0, 4294967295) = some p := hp
        cases hp
        show ((0 : Nat) : Int) ≤ 0 + 2147483648 ∧ 0 + 2147483648 ≤ ((4294967295 : Nat) : Int)
        omega
      · have hp : some (0, 4294967295) = some p := hp
        cases hp
        show ((0 : Nat) : Int) ≤ 0 + 2147483648 ∧ 0 + 2147483648 ≤ ((4294967295 : Nat) : Int)
        omega
      · have hp : some (0, 4294967295) = some p := hp
        cases hp
        show ((0 : Nat) : Int) ≤ x0 0 + 2147483648 ∧ x0 0 + 2147483648 ≤ ((4294967295 : Nat) : Int)
        have hx := hx0 0
        omega
    · show E = E
      rfl
  · intro x0 s Wg hRu hrx hT0 hΦ i v H hT hrv hInv hKc hFr0 hIH x hx ρ2 v2 N2 H2 locs lsB stA hAt hB hv hr2 hXs hag hfr hFr hT2
    rcases i with ⟨i, hi⟩
    have hi2 : i = 0 := by omega
    rcases hi2 with rfl
    · cases hx
  · intro x0 E0 E E2 hrx hT0 hΦ i v hT hrv hInv hKc hFr0 x hx v2 hr2 hXs hag hfr hFr hT2
    rcases i with ⟨i, hi⟩
    have hi2 : i = 0 := by omega
    rcases hi2 with rfl
    · have hx : x ∈ [zxfwpl_ar0, zxfwpl_ar1, zxfwpl_ar2, zxfwpl_ar3, zxfwpl_ar4, zxfwpl_ar5, zxfwpl_ar6, zxfwpl_ar7, zxfwpl_ar8, zxfwpl_ar9, zxfwpl_ar10, zxfwpl_ar11, zxfwpl_ar12, zxfwpl_ar13, zxfwpl_ar14] := hx
      have hag : ∀ k, k < 3 → v2 k = v k := hag
      have hfr : xFr [] _ _ := hfr
      rcases List.mem_cons.mp hx with ex | hx
      · subst ex
        obtain ⟨hF, hBd, hM⟩ := hXs
        have b0 : ((2147483651 : Nat) : Int) ≤ (v2 3) + 2147483648 ∧ (v2 3) + 2147483648 ≤ ((2147483653 : Nat) : Int) := xXb hBd 0 rfl
        have f0 : (0 : Int) ≤ 7 ∧ xE E 35 7 = (v2 3) := xXf hF 0 rfl
        have f1 : ¬ (v2 3) = 2 := xXf hF 1 rfl
        have hI : E = E0 := hInv
        show xΨfwpl x0 E0 E2 0
        subst hI
        unfold xΨfwpl
        rw [if_neg]
        intro h
        unfold sW at h
        simp only [tWb, Bool.and_true, Bool.and_eq_true, decide_eq_true_eq, List.length_cons, List.length_nil] at h
        omega
      · skip
        rcases List.mem_cons.mp hx with ex | hx
        · subst ex
          obtain ⟨hF, hBd, hM⟩ := hXs
          have b0 : ((2147483648 : Nat) : Int) ≤ (v2 3) + 2147483648 ∧ (v2 3) + 2147483648 ≤ ((2147483649 : Nat) : Int) := xXb hBd 0 rfl
          have f0 : (0 : Int) ≤ 7 ∧ xE E 35 7 = (v2 3) := xXf hF 0 rfl
          have f1 : ¬ (v2 3) = 2 := xXf hF 1 rfl
          have hI : E = E0 := hInv
          show xΨfwpl x0 E0 E2 0
          subst hI
          unfold xΨfwpl
          rw [if_neg]
          intro h
          unfold sW at h
          simp only [tWb, Bool.and_true, Bool.and_eq_true, decide_eq_true_eq, List.length_cons, List.length_nil] at h
          omega
        · skip
          rcases List.mem_cons.mp hx with ex | hx
          · subst ex
            obtain ⟨hF, hBd, hM⟩ := hXs
            have b0 : ((2147483650 : Nat) : Int) ≤ (v2 3) + 2147483648 ∧ (v2 3) + 2147483648 ≤ ((2147483650 : Nat) : Int) := xXb hBd 0 rfl
            have b1 : ((2147483648 : Nat) : Int) ≤ (v2 4) + 2147483648 ∧ (v2 4) + 2147483648 ≤ ((2147484548 : Nat) : Int) := xXb hBd 1 rfl
            have b2 : ((2147483648 : Nat) : Int) ≤ (v2 5) + 2147483648 ∧ (v2 5) + 2147483648 ≤ ((2147484548 : Nat) : Int) := xXb hBd 2 rfl
            have b3 : ((2147483654 : Nat) : Int) ≤ (v2 6) + 2147483648 ∧ (v2 6) + 2147483648 ≤ ((2147484548 : Nat) : Int) := xXb hBd 3 rfl
            have f0 : (0 : Int) ≤ 7 ∧ xE E 35 7 = (v2 3) := xXf hF 0 rfl
            have f1 : (v2 3) = 2 := xXf hF 1 rfl
            have f2 : (0 : Int) ≤ 6 ∧ xE E 35 6 = (v2 4) := xXf hF 2 rfl
            have f3 : (0 : Int) ≤ 5 ∧ xE E 35 5 = (v2 5) := xXf hF 3 rfl
            have f4 : -2147483648 ≤ (v2 4) - (v2 5) → (v2 4) - (v2 5) < 2147483648 → (v2 6) = (v2 4) - (v2 5) := xXf hF 4 rfl
            have f4 := f4 (by omega) (by omega)
            have f5 : ¬ (v2 6) = 5 := xXf hF 5 rfl
            have hI : E = E0 := hInv
            show xΨfwpl x0 E0 E2 0
            subst hI
            unfold xΨfwpl
            rw [if_neg]
            intro h
            unfold sW at h
            simp only [tWb, Bool.and_true, Bool.and_eq_true, decide_eq_true_eq, List.length_cons, List.length_nil] at h
            rw [show xE E 35 5 = (v2 5) by omega] at h
            simp only [Int.add_assoc, Int.reduceAdd] at h
            omega
          · skip
            rcases List.mem_cons.mp hx with ex | hx
            · subst ex
              obtain ⟨hF, hBd, hM⟩ := hXs
              have b0 : ((2147483650 : Nat) : Int) ≤ (v2 3) + 2147483648 ∧ (v2 3) + 2147483648 ≤ ((2147483650 : Nat) : Int) := xXb hBd 0 rfl
              have b1 : ((2147483648 : Nat) : Int) ≤ (v2 4) + 2147483648 ∧ (v2 4) + 2147483648 ≤ ((2147484548 : Nat) : Int) := xXb hBd 1 rfl
              have b2 : ((2147483648 : Nat) : Int) ≤ (v2 5) + 2147483648 ∧ (v2 5) + 2147483648 ≤ ((2147484548 : Nat) : Int) := xXb hBd 2 rfl
              have b3 : ((2147482748 : Nat) : Int) ≤ (v2 6) + 2147483648 ∧ (v2 6) + 2147483648 ≤ ((2147483652 : Nat) : Int) := xXb hBd 3 rfl
              have f0 : (0 : Int) ≤ 7 ∧ xE E 35 7 = (v2 3) := xXf hF 0 rfl
              have f1 : (v2 3) = 2 := xXf hF 1 rfl
              have f2 : (0 : Int) ≤ 6 ∧ xE E 35 6 = (v2 4) := xXf hF 2 rfl
              have f3 : (0 : Int) ≤ 5 ∧ xE E 35 5 = (v2 5) := xXf hF 3 rfl
              have f4 : -2147483648 ≤ (v2 4) - (v2 5) → (v2 4) - (v2 5) < 2147483648 → (v2 6) = (v2 4) - (v2 5) := xXf hF 4 rfl
              have f4 := f4 (by omega) (by omega)
              have f5 : ¬ (v2 6) = 5 := xXf hF 5 rfl
              have hI : E = E0 := hInv
              show xΨfwpl x0 E0 E2 0
              subst hI
              unfold xΨfwpl
              rw [if_neg]
              intro h
              unfold sW at h
              simp only [tWb, Bool.and_true, Bool.and_eq_true, decide_eq_true_eq, List.length_cons, List.length_nil] at h
              rw [show xE E 35 5 = (v2 5) by omega] at h
              simp only [Int.add_assoc, Int.reduceAdd] at h
              omega
            · skip
              rcases List.mem_cons.mp hx with ex | hx
              · subst ex
                obtain ⟨hF, hBd, hM⟩ := hXs
                have b0 : ((2147483650 : Nat) : Int) ≤ (v2 3) + 2147483648 ∧ (v2 3) + 2147483648 ≤ ((2147483650 : Nat) : Int) := xXb hBd 0 rfl
                have b1 : ((2147483648 : Nat) : Int) ≤ (v2 4) + 2147483648 ∧ (v2 4) + 2147483648 ≤ ((2147484548 : Nat) : Int) := xXb hBd 1 rfl
                have b2 : ((2147483648 : Nat) : Int) ≤ (v2 5) + 2147483648 ∧ (v2 5) + 2147483648 ≤ ((2147484543 : Nat) : Int) := xXb hBd 2 rfl
                have b3 : ((2147483653 : Nat) : Int) ≤ (v2 6) + 2147483648 ∧ (v2 6) + 2147483648 ≤ ((2147483653 : Nat) : Int) := xXb hBd 3 rfl
                have b4 : ((2147483761 : Nat) : Int) ≤ (v2 7) + 2147483648 ∧ (v2 7) + 2147483648 ≤ ((2147483775 : Nat) : Int) := xXb hBd 4 rfl
                have f0 : (0 : Int) ≤ 7 ∧ xE E 35 7 = (v2 3) := xXf hF 0 rfl
                have f1 : (v2 3) = 2 := xXf hF 1 rfl
                have f2 : (0 : Int) ≤ 6 ∧ xE E 35 6 = (v2 4) := xXf hF 2 rfl
                have f3 : (0 : Int) ≤ 5 ∧ xE E 35 5 = (v2 5) := xXf hF 3 rfl
                have f4 : -2147483648 ≤ (v2 4) - (v2 5) → (v2 4) - (v2 5) < 2147483648 → (v2 6) = (v2 4) - (v2 5) := xXf hF 4 rfl
                have f4 := f4 (by omega) (by omega)
                have f5 : (v2 6) = 5 := xXf hF 5 rfl
                have f6 : (0 : Int) ≤ (v2 5) ∧ xE E 36 (v2 5) = (v2 7) := xXf hF 6 rfl
                have f7 : ¬ (v2 7) = 112 := xXf hF 7 rfl
                have hI : E = E0 := hInv
                show xΨfwpl x0 E0 E2 0
                subst hI
                unfold xΨfwpl
                rw [if_neg]
                intro h
                unfold sW at h
                simp only [tWb, Bool.and_true, Bool.and_eq_true, decide_eq_true_eq, List.length_cons, List.length_nil] at h
                rw [show xE E 35 5 = (v2 5) by omega] at h
                simp only [Int.add_assoc, Int.reduceAdd] at h
                omega
              · skip
                rcases List.mem_cons.mp hx with ex | hx
                · subst ex
                  obtain ⟨hF, hBd, hM⟩ := hXs
                  have b0 : ((2147483650 : Nat) : Int) ≤ (v2 3) + 2147483648 ∧ (v2 3) + 2147483648 ≤ ((2147483650 : Nat) : Int) := xXb hBd 0 rfl
                  have b1 : ((2147483648 : Nat) : Int) ≤ (v2 4) + 2147483648 ∧ (v2 4) + 2147483648 ≤ ((2147484548 : Nat) : Int) := xXb hBd 1 rfl
                  have b2 : ((2147483648 : Nat) : Int) ≤ (v2 5) + 2147483648 ∧ (v2 5) + 2147483648 ≤ ((2147484543 : Nat) : Int) := xXb hBd 2 rfl
                  have b3 : ((2147483653 : Nat) : Int) ≤ (v2 6) + 2147483648 ∧ (v2 6) + 2147483648 ≤ ((2147483653 : Nat) : Int) := xXb hBd 3 rfl
                  have b4 : ((2147483520 : Nat) : Int) ≤ (v2 7) + 2147483648 ∧ (v2 7) + 2147483648 ≤ ((2147483759 : Nat) : Int) := xXb hBd 4 rfl
                  have f0 : (0 : Int) ≤ 7 ∧ xE E 35 7 = (v2 3) := xXf hF 0 rfl
                  have f1 : (v2 3) = 2 := xXf hF 1 rfl
                  have f2 : (0 : Int) ≤ 6 ∧ xE E 35 6 = (v2 4) := xXf hF 2 rfl
                  have f3 : (0 : Int) ≤ 5 ∧ xE E 35 5 = (v2 5) := xXf hF 3 rfl
                  have f4 : -2147483648 ≤ (v2 4) - (v2 5) → (v2 4) - (v2 5) < 2147483648 → (v2 6) = (v2 4) - (v2 5) := xXf hF 4 rfl
                  have f4 := f4 (by omega) (by omega)
                  have f5 : (v2 6) = 5 := xXf hF 5 rfl
                  have f6 : (0 : Int) ≤ (v2 5) ∧ xE E 36 (v2 5) = (v2 7) := xXf hF 6 rfl
                  have f7 : ¬ (v2 7) = 112 := xXf hF 7 rfl
                  have hI : E = E0 := hInv
                  show xΨfwpl x0 E0 E2 0
                  subst hI
                  unfold xΨfwpl
                  rw [if_neg]
                  intro h
                  unfold sW at h
                  simp only [tWb, Bool.and_true, Bool.and_eq_true, decide_eq_true_eq, List.length_cons, List.length_nil] at h
                  rw [show xE E 35 5 = (v2 5) by omega] at h
                  simp only [Int.add_assoc, Int.reduceAdd] at h
                  omega
                · skip
                  rcases List.mem_cons.mp hx with ex | hx
                  · subst ex
                    obtain ⟨hF, hBd, hM⟩ := hXs
                    have b0 : ((2147483650 : Nat) : Int) ≤ (v2 3) + 2147483648 ∧ (v2 3) + 2147483648 ≤ ((2147483650 : Nat) : Int) := xXb hBd 0 rfl
                    have b1 : ((2147483648 : Nat) : Int) ≤ (v2 4) + 2147483648 ∧ (v2 4) + 2147483648 ≤ ((2147484548 : Nat) : Int) := xXb hBd 1 rfl
                    have b2 : ((2147483648 : Nat) : Int) ≤ (v2 5) + 2147483648 ∧ (v2 5) + 2147483648 ≤ ((2147484543 : Nat) : Int) := xXb hBd 2 rfl
                    have b3 : ((2147483653 : Nat) : Int) ≤ (v2 6) + 2147483648 ∧ (v2 6) + 2147483648 ≤ ((2147483653 : Nat) : Int) := xXb hBd 3 rfl
                    have b4 : ((2147483760 : Nat) : Int) ≤ (v2 7) + 2147483648 ∧ (v2 7) + 2147483648 ≤ ((2147483760 : Nat) : Int) := xXb hBd 4 rfl
                    have b5 : ((2147483757 : Nat) : Int) ≤ (v2 8) + 2147483648 ∧ (v2 8) + 2147483648 ≤ ((2147483775 : Nat) : Int) := xXb hBd 5 rfl
                    have f0 : (0 : Int) ≤ 7 ∧ xE E 35 7 = (v2 3) := xXf hF 0 rfl
                    have f1 : (v2 3) = 2 := xXf hF 1 rfl
                    have f2 : (0 : Int) ≤ 6 ∧ xE E 35 6 = (v2 4) := xXf hF 2 rfl
                    have f3 : (0 : Int) ≤ 5 ∧ xE E 35 5 = (v2 5) := xXf hF 3 rfl
                    have f4 : -2147483648 ≤ (v2 4) - (v2 5) → (v2 4) - (v2 5) < 2147483648 → (v2 6) = (v2 4) - (v2 5) := xXf hF 4 rfl
                    have f4 := f4 (by omega) (by omega)
                    have f5 : (v2 6) = 5 := xXf hF 5 rfl
                    have f6 : (0 : Int) ≤ (v2 5) ∧ xE E 36 (v2 5) = (v2 7) := xXf hF 6 rfl
                    have f7 : (v2 7) = 112 := xXf hF 7 rfl
                    have f8 : (0 : Int) ≤ (v2 5 + 1) ∧ xE E 36 (v2 5 + 1) = (v2 8) := xXf hF 8 rfl
                    have f9 : ¬ (v2 8) = 108 := xXf hF 9 rfl
                    have hI : E = E0 := hInv
                    show xΨfwpl x0 E0 E2 0
                    subst hI
                    unfold xΨfwpl
                    rw [if_neg]
                    intro h
                    unfold sW at h
                    simp only [tWb, Bool.and_true, Bool.and_eq_true, decide_eq_true_eq, List.length_cons, List.length_nil] at h
                    rw [show xE E 35 5 = (v2 5) by omega] at h
                    simp only [Int.add_assoc, Int.reduceAdd] at h
                    omega
                  · skip
                    rcases List.mem_cons.mp hx with ex | hx
                    · subst ex
                      obtain ⟨hF, hBd, hM⟩ := hXs
                      have b0 : ((2147483650 : Nat) : Int) ≤ (v2 3) + 2147483648 ∧ (v2 3) + 2147483648 ≤ ((2147483650 : Nat) : Int) := xXb hBd 0 rfl
                      have b1 : ((2147483648 : Nat) : Int) ≤ (v2 4) + 2147483648 ∧ (v2 4) + 2147483648 ≤ ((2147484548 : Nat) : Int) := xXb hBd 1 rfl
                      have b2 : ((2147483648 : Nat) : Int) ≤ (v2 5) + 2147483648 ∧ (v2 5) + 2147483648 ≤ ((2147484543 : Nat) : Int) := xXb hBd 2 rfl
                      have b3 : ((2147483653 : Nat) : Int) ≤ (v2 6) + 2147483648 ∧ (v2 6) + 2147483648 ≤ ((2147483653 : Nat) : Int) := xXb hBd 3 rfl
                      have b4 : ((2147483760 : Nat) : Int) ≤ (v2 7) + 2147483648 ∧ (v2 7) + 2147483648 ≤ ((2147483760 : Nat) : Int) := xXb hBd 4 rfl
                      have b5 : ((2147483520 : Nat) : Int) ≤ (v2 8) + 2147483648 ∧ (v2 8) + 2147483648 ≤ ((2147483755 : Nat) : Int) := xXb hBd 5 rfl
                      have f0 : (0 : Int) ≤ 7 ∧ xE E 35 7 = (v2 3) := xXf hF 0 rfl
                      have f1 : (v2 3) = 2 := xXf hF 1 rfl
                      have f2 : (0 : Int) ≤ 6 ∧ xE E 35 6 = (v2 4) := xXf hF 2 rfl
                      have f3 : (0 : Int) ≤ 5 ∧ xE E 35 5 = (v2 5) := xXf hF 3 rfl
                      have f4 : -2147483648 ≤ (v2 4) - (v2 5) → (v2 4) - (v2 5) < 2147483648 → (v2 6) = (v2 4) - (v2 5) := xXf hF 4 rfl
                      have f4 := f4 (by omega) (by omega)
                      have f5 : (v2 6) = 5 := xXf hF 5 rfl
                      have f6 : (0 : Int) ≤ (v2 5) ∧ xE E 36 (v2 5) = (v2 7) := xXf hF 6 rfl
                      have f7 : (v2 7) = 112 := xXf hF 7 rfl
                      have f8 : (0 : Int) ≤ (v2 5 + 1) ∧ xE E 36 (v2 5 + 1) = (v2 8) := xXf hF 8 rfl
                      have f9 : ¬ (v2 8) = 108 := xXf hF 9 rfl
                      have hI : E = E0 := hInv
                      show xΨfwpl x0 E0 E2 0
                      subst hI
                      unfold xΨfwpl
                      rw [if_neg]
                      intro h
                      unfold sW at h
                      simp only [tWb, Bool.and_true, Bool.and_eq_true, decide_eq_true_eq, List.length_cons, List.length_nil] at h
                      rw [show xE E 35 5 = (v2 5) by omega] at h
                      simp only [Int.add_assoc, Int.reduceAdd] at h
                      omega
                    · skip
                      rcases List.mem_cons.mp hx with ex | hx
                      · subst ex
                        obtain ⟨hF, hBd, hM⟩ := hXs
                        have b0 : ((2147483650 : Nat) : Int) ≤ (v2 3) + 2147483648 ∧ (v2 3) + 2147483648 ≤ ((2147483650 : Nat) : Int) := xXb hBd 0 rfl
                        have b1 : ((2147483648 : Nat) : Int) ≤ (v2 4) + 2147483648 ∧ (v2 4) + 2147483648 ≤ ((2147484548 : Nat) : Int) := xXb hBd 1 rfl
                        have b2 : ((2147483648 : Nat) : Int) ≤ (v2 5) + 2147483648 ∧ (v2 5) + 2147483648 ≤ ((2147484543 : Nat) : Int) := xXb hBd 2 rfl
                        have b3 : ((2147483653 : Nat) : Int) ≤ (v2 6) + 2147483648 ∧ (v2 6) + 2147483648 ≤ ((2147483653 : Nat) : Int) := xXb hBd 3 rfl
                        have b4 : ((2147483760 : Nat) : Int) ≤ (v2 7) + 2147483648 ∧ (v2 7) + 2147483648 ≤ ((2147483760 : Nat) : Int) := xXb hBd 4 rfl
                        have b5 : ((2147483756 : Nat) : Int) ≤ (v2 8) + 2147483648 ∧ (v2 8) + 2147483648 ≤ ((2147483756 : Nat) : Int) := xXb hBd 5 rfl
                        have b6 : ((2147483746 : Nat) : Int) ≤ (v2 9) + 2147483648 ∧ (v2 9) + 2147483648 ≤ ((2147483775 : Nat) : Int) := xXb hBd 6 rfl
                        have f0 : (0 : Int) ≤ 7 ∧ xE E 35 7 = (v2 3) := xXf hF 0 rfl
                        have f1 : (v2 3) = 2 := xXf hF 1 rfl
                        have f2 : (0 : Int) ≤ 6 ∧ xE E 35 6 = (v2 4) := xXf hF 2 rfl
                        have f3 : (0 : Int) ≤ 5 ∧ xE E 35 5 = (v2 5) := xXf hF 3 rfl
                        have f4 : -2147483648 ≤ (v2 4) - (v2 5) → (v2 4) - (v2 5) < 2147483648 → (v2 6) = (v2 4) - (v2 5) := xXf hF 4 rfl
                        have f4 := f4 (by omega) (by omega)
                        have f5 : (v2 6) = 5 := xXf hF 5 rfl
                        have f6 : (0 : Int) ≤ (v2 5) ∧ xE E 36 (v2 5) = (v2 7) := xXf hF 6 rfl
                        have f7 : (v2 7) = 112 := xXf hF 7 rfl
                        have f8 : (0 : Int) ≤ (v2 5 + 1) ∧ xE E 36 (v2 5 + 1) = (v2 8) := xXf hF 8 rfl
                        have f9 : (v2 8) = 108 := xXf hF 9 rfl
                        have f10 : (0 : Int) ≤ (v2 5 + 2) ∧ xE E 36 (v2 5 + 2) = (v2 9) := xXf hF 10 rfl
                        have f11 : ¬ (v2 9) = 97 := xXf hF 11 rfl
                        have hI : E = E0 := hInv
                        show xΨfwpl x0 E0 E2 0
                        subst hI
                        unfold xΨfwpl
                        rw [if_neg]
                        intro h
                        unfold sW at h
                        simp only [tWb, Bool.and_true, Bool.and_eq_true, decide_eq_true_eq, List.length_cons, List.length_nil] at h
                        rw [show xE E 35 5 = (v2 5) by omega] at h
                        simp only [Int.add_assoc, Int.reduceAdd] at h
                        omega
                      · skip
                        rcases List.mem_cons.mp hx with ex | hx
                        · subst ex
                          obtain ⟨hF, hBd, hM⟩ := hXs
                          have b0 : ((2147483650 : Nat) : Int) ≤ (v2 3) + 2147483648 ∧ (v2 3) + 2147483648 ≤ ((2147483650 : Nat) : Int) := xXb hBd 0 rfl
                          have b1 : ((2147483648 : Nat) : Int) ≤ (v2 4) + 2147483648 ∧ (v2 4) + 2147483648 ≤ ((2147484548 : Nat) : Int) := xXb hBd 1 rfl
                          have b2 : ((2147483648 : Nat) : Int) ≤ (v2 5) + 2147483648 ∧ (v2 5) + 2147483648 ≤ ((2147484543 : Nat) : Int) := xXb hBd 2 rfl
                          have b3 : ((2147483653 : Nat) : Int) ≤ (v2 6) + 2147483648 ∧ (v2 6) + 2147483648 ≤ ((2147483653 : Nat) : Int) := xXb hBd 3 rfl
                          have b4 : ((2147483760 : Nat) : Int) ≤ (v2 7) + 2147483648 ∧ (v2 7) + 2147483648 ≤ ((2147483760 : Nat) : Int) := xXb hBd 4 rfl
                          have b5 : ((2147483756 : Nat) : Int) ≤ (v2 8) + 2147483648 ∧ (v2 8) + 2147483648 ≤ ((2147483756 : Nat) : Int) := xXb hBd 5 rfl
                          have b6 : ((2147483520 : Nat) : Int) ≤ (v2 9) + 2147483648 ∧ (v2 9) + 2147483648 ≤ ((2147483744 : Nat) : Int) := xXb hBd 6 rfl
                          have f0 : (0 : Int) ≤ 7 ∧ xE E 35 7 = (v2 3) := xXf hF 0 rfl
                          have f1 : (v2 3) = 2 := xXf hF 1 rfl
                          have f2 : (0 : Int) ≤ 6 ∧ xE E 35 6 = (v2 4) := xXf hF 2 rfl
                          have f3 : (0 : Int) ≤ 5 ∧ xE E 35 5 = (v2 5) := xXf hF 3 rfl
                          have f4 : -2147483648 ≤ (v2 4) - (v2 5) → (v2 4) - (v2 5) < 2147483648 → (v2 6) = (v2 4) - (v2 5) := xXf hF 4 rfl
                          have f4 := f4 (by omega) (by omega)
                          have f5 : (v2 6) = 5 := xXf hF 5 rfl
                          have f6 : (0 : Int) ≤ (v2 5) ∧ xE E 36 (v2 5) = (v2 7) := xXf hF 6 rfl
                          have f7 : (v2 7) = 112 := xXf hF 7 rfl
                          have f8 : (0 : Int) ≤ (v2 5 + 1) ∧ xE E 36 (v2 5 + 1) = (v2 8) := xXf hF 8 rfl
                          have f9 : (v2 8) = 108 := xXf hF 9 rfl
                          have f10 : (0 : Int) ≤ (v2 5 + 2) ∧ xE E 36 (v2 5 + 2) = (v2 9) := xXf hF 10 rfl
                          have f11 : ¬ (v2 9) = 97 := xXf hF 11 rfl
                          have hI : E = E0 := hInv
                          show xΨfwpl x0 E0 E2 0
                          subst hI
                          unfold xΨfwpl
                          rw [if_neg]
                          intro h
                          unfold sW at h
                          simp only [tWb, Bool.and_true, Bool.and_eq_true, decide_eq_true_eq, List.length_cons, List.length_nil] at h
                          rw [show xE E 35 5 = (v2 5) by omega] at h
                          simp only [Int.add_assoc, Int.reduceAdd] at h
                          omega
                        · skip
                          rcases List.mem_cons.mp hx with ex | hx
                          · subst ex
                            obtain ⟨hF, hBd, hM⟩ := hXs
                            have b0 : ((2147483650 : Nat) : Int) ≤ (v2 3) + 2147483648 ∧ (v2 3) + 2147483648 ≤ ((2147483650 : Nat) : Int) := xXb hBd 0 rfl
                            have b1 : ((2147483648 : Nat) : Int) ≤ (v2 4) + 2147483648 ∧ (v2 4) + 2147483648 ≤ ((2147484548 : Nat) : Int) := xXb hBd 1 rfl
                            have b2 : ((2147483648 : Nat) : Int) ≤ (v2 5) + 2147483648 ∧ (v2 5) + 2147483648 ≤ ((2147484543 : Nat) : Int) := xXb hBd 2 rfl
                            have b3 : ((2147483653 : Nat) : Int) ≤ (v2 6) + 2147483648 ∧ (v2 6) + 2147483648 ≤ ((2147483653 : Nat) : Int) := xXb hBd 3 rfl
                            have b4 : ((2147483760 : Nat) : Int) ≤ (v2 7) + 2147483648 ∧ (v2 7) + 2147483648 ≤ ((2147483760 : Nat) : Int) := xXb hBd 4 rfl
                            have b5 : ((2147483756 : Nat) : Int) ≤ (v2 8) + 2147483648 ∧ (v2 8) + 2147483648 ≤ ((2147483756 : Nat) : Int) := xXb hBd 5 rfl
                            have b6 : ((2147483745 : Nat) : Int) ≤ (v2 9) + 2147483648 ∧ (v2 9) + 2147483648 ≤ ((2147483745 : Nat) : Int) := xXb hBd 6 rfl
                            have b7 : ((2147483748 : Nat) : Int) ≤ (v2 10) + 2147483648 ∧ (v2 10) + 2147483648 ≤ ((2147483775 : Nat) : Int) := xXb hBd 7 rfl
                            have f0 : (0 : Int) ≤ 7 ∧ xE E 35 7 = (v2 3) := xXf hF 0 rfl
                            have f1 : (v2 3) = 2 := xXf hF 1 rfl
                            have f2 : (0 : Int) ≤ 6 ∧ xE E 35 6 = (v2 4) := xXf hF 2 rfl
                            have f3 : (0 : Int) ≤ 5 ∧ xE E 35 5 = (v2 5) := xXf hF 3 rfl
                            have f4 : -2147483648 ≤ (v2 4) - (v2 5) → (v2 4) - (v2 5) < 2147483648 → (v2 6) = (v2 4) - (v2 5) := xXf hF 4 rfl
                            have f4 := f4 (by omega) (by omega)
                            have f5 : (v2 6) = 5 := xXf hF 5 rfl
                            have f6 : (0 : Int) ≤ (v2 5) ∧ xE E 36 (v2 5) = (v2 7) := xXf hF 6 rfl
                            have f7 : (v2 7) = 112 := xXf hF 7 rfl
                            have f8 : (0 : Int) ≤ (v2 5 + 1) ∧ xE E 36 (v2 5 + 1) = (v2 8) := xXf hF 8 rfl
                            have f9 : (v2 8) = 108 := xXf hF 9 rfl
                            have f10 : (0 : Int) ≤ (v2 5 + 2) ∧ xE E 36 (v2 5 + 2) = (v2 9) := xXf hF 10 rfl
                            have f11 : (v2 9) = 97 := xXf hF 11 rfl
                            have f12 : (0 : Int) ≤ (v2 5 + 3) ∧ xE E 36 (v2 5 + 3) = (v2 10) := xXf hF 12 rfl
                            have f13 : ¬ (v2 10) = 99 := xXf hF 13 rfl
                            have hI : E = E0 := hInv
                            show xΨfwpl x0 E0 E2 0
                            subst hI
                            unfold xΨfwpl
                            rw [if_neg]
                            intro h
                            unfold sW at h
                            simp only [tWb, Bool.and_true, Bool.and_eq_true, decide_eq_true_eq, List.length_cons, List.length_nil] at h
                            rw [show xE E 35 5 = (v2 5) by omega] at h
                            simp only [Int.add_assoc, Int.reduceAdd] at h
                            omega
                          · skip
                            rcases List.mem_cons.mp hx with ex | hx
                            · subst ex
                              obtain ⟨hF, hBd, hM⟩ := hXs
                              have b0 : ((2147483650 : Nat) : Int) ≤ (v2 3) + 2147483648 ∧ (v2 3) + 2147483648 ≤ ((2147483650 : Nat) : Int) := xXb hBd 0 rfl
                              have b1 : ((2147483648 : Nat) : Int) ≤ (v2 4) + 2147483648 ∧ (v2 4) + 2147483648 ≤ ((2147484548 : Nat) : Int) := xXb hBd 1 rfl
                              have b2 : ((2147483648 : Nat) : Int) ≤ (v2 5) + 2147483648 ∧ (v2 5) + 2147483648 ≤ ((2147484543 : Nat) : Int) := xXb hBd 2 rfl
                              have b3 : ((2147483653 : Nat) : Int) ≤ (v2 6) + 2147483648 ∧ (v2 6) + 2147483648 ≤ ((2147483653 : Nat) : Int) := xXb hBd 3 rfl
                              have b4 : ((2147483760 : Nat) : Int) ≤ (v2 7) + 2147483648 ∧ (v2 7) + 2147483648 ≤ ((2147483760 : Nat) : Int) := xXb hBd 4 rfl
                              have b5 : ((2147483756 : Nat) : Int) ≤ (v2 8) + 2147483648 ∧ (v2 8) + 2147483648 ≤ ((2147483756 : Nat) : Int) := xXb hBd 5 rfl
                              have b6 : ((2147483745 : Nat) : Int) ≤ (v2 9) + 2147483648 ∧ (v2 9) + 2147483648 ≤ ((2147483745 : Nat) : Int) := xXb hBd 6 rfl
                              have b7 : ((2147483520 : Nat) : Int) ≤ (v2 10) + 2147483648 ∧ (v2 10) + 2147483648 ≤ ((2147483746 : Nat) : Int) := xXb hBd 7 rfl
                              have f0 : (0 : Int) ≤ 7 ∧ xE E 35 7 = (v2 3) := xXf hF 0 rfl
                              have f1 : (v2 3) = 2 := xXf hF 1 rfl
                              have f2 : (0 : Int) ≤ 6 ∧ xE E 35 6 = (v2 4) := xXf hF 2 rfl
                              have f3 : (0 : Int) ≤ 5 ∧ xE E 35 5 = (v2 5) := xXf hF 3 rfl
                              have f4 : -2147483648 ≤ (v2 4) - (v2 5) → (v2 4) - (v2 5) < 2147483648 → (v2 6) = (v2 4) - (v2 5) := xXf hF 4 rfl
                              have f4 := f4 (by omega) (by omega)
                              have f5 : (v2 6) = 5 := xXf hF 5 rfl
                              have f6 : (0 : Int) ≤ (v2 5) ∧ xE E 36 (v2 5) = (v2 7) := xXf hF 6 rfl
                              have f7 : (v2 7) = 112 := xXf hF 7 rfl
                              have f8 : (0 : Int) ≤ (v2 5 + 1) ∧ xE E 36 (v2 5 + 1) = (v2 8) := xXf hF 8 rfl
                              have f9 : (v2 8) = 108 := xXf hF 9 rfl
                              have f10 : (0 : Int) ≤ (v2 5 + 2) ∧ xE E 36 (v2 5 + 2) = (v2 9) := xXf hF 10 rfl
                              have f11 : (v2 9) = 97 := xXf hF 11 rfl
                              have f12 : (0 : Int) ≤ (v2 5 + 3) ∧ xE E 36 (v2 5 + 3) = (v2 10) := xXf hF 12 rfl
                              have f13 : ¬ (v2 10) = 99 := xXf hF 13 rfl
                              have hI : E = E0 := hInv
                              show xΨfwpl x0 E0 E2 0
                              subst hI
                              unfold xΨfwpl
                              rw [if_neg]
                              intro h
                              unfold sW at h
                              simp only [tWb, Bool.and_true, Bool.and_eq_true, decide_eq_true_eq, List.length_cons, List.length_nil] at h
                              rw [show xE E 35 5 = (v2 5) by omega] at h
                              simp only [Int.add_assoc, Int.reduceAdd] at h
                              omega
                            · skip
                              rcases List.mem_cons.mp hx with ex | hx
                              · subst ex
                                obtain ⟨hF, hBd, hM⟩ := hXs
                                have b0 : ((2147483650 : Nat) : Int) ≤ (v2 3) + 2147483648 ∧ (v2 3) + 2147483648 ≤ ((2147483650 : Nat) : Int) := xXb hBd 0 rfl
                                have b1 : ((2147483648 : Nat) : Int) ≤ (v2 4) + 2147483648 ∧ (v2 4) + 2147483648 ≤ ((2147484548 : Nat) : Int) := xXb hBd 1 rfl
                                have b2 : ((2147483648 : Nat) : Int) ≤ (v2 5) + 2147483648 ∧ (v2 5) + 2147483648 ≤ ((2147484543 : Nat) : Int) := xXb hBd 2 rfl
                                have b3 : ((2147483653 : Nat) : Int) ≤ (v2 6) + 2147483648 ∧ (v2 6) + 2147483648 ≤ ((2147483653 : Nat) : Int) := xXb hBd 3 rfl
                                have b4 : ((2147483760 : Nat) : Int) ≤ (v2 7) + 2147483648 ∧ (v2 7) + 2147483648 ≤ ((2147483760 : Nat) : Int) := xXb hBd 4 rfl
                                have b5 : ((2147483756 : Nat) : Int) ≤ (v2 8) + 2147483648 ∧ (v2 8) + 2147483648 ≤ ((2147483756 : Nat) : Int) := xXb hBd 5 rfl
                                have b6 : ((2147483745 : Nat) : Int) ≤ (v2 9) + 2147483648 ∧ (v2 9) + 2147483648 ≤ ((2147483745 : Nat) : Int) := xXb hBd 6 rfl
                                have b7 : ((2147483747 : Nat) : Int) ≤ (v2 10) + 2147483648 ∧ (v2 10) + 2147483648 ≤ ((2147483747 : Nat) : Int) := xXb hBd 7 rfl
                                have b8 : ((2147483750 : Nat) : Int) ≤ (v2 11) + 2147483648 ∧ (v2 11) + 2147483648 ≤ ((2147483775 : Nat) : Int) := xXb hBd 8 rfl
                                have f0 : (0 : Int) ≤ 7 ∧ xE E 35 7 = (v2 3) := xXf hF 0 rfl
                                have f1 : (v2 3) = 2 := xXf hF 1 rfl
                                have f2 : (0 : Int) ≤ 6 ∧ xE E 35 6 = (v2 4) := xXf hF 2 rfl
                                have f3 : (0 : Int) ≤ 5 ∧ xE E 35 5 = (v2 5) := xXf hF 3 rfl
                                have f4 : -2147483648 ≤ (v2 4) - (v2 5) → (v2 4) - (v2 5) < 2147483648 → (v2 6) = (v2 4) - (v2 5) := xXf hF 4 rfl
                                have f4 := f4 (by omega) (by omega)
                                have f5 : (v2 6) = 5 := xXf hF 5 rfl
                                have f6 : (0 : Int) ≤ (v2 5) ∧ xE E 36 (v2 5) = (v2 7) := xXf hF 6 rfl
                                have f7 : (v2 7) = 112 := xXf hF 7 rfl
                                have f8 : (0 : Int) ≤ (v2 5 + 1) ∧ xE E 36 (v2 5 + 1) = (v2 8) := xXf hF 8 rfl
                                have f9 : (v2 8) = 108 := xXf hF 9 rfl
                                have f10 : (0 : Int) ≤ (v2 5 + 2) ∧ xE E 36 (v2 5 + 2) = (v2 9) := xXf hF 10 rfl
                                have f11 : (v2 9) = 97 := xXf hF 11 rfl
                                have f12 : (0 : Int) ≤ (v2 5 + 3) ∧ xE E 36 (v2 5 + 3) = (v2 10) := xXf hF 12 rfl
                                have f13 : (v2 10) = 99 := xXf hF 13 rfl
                                have f14 : (0 : Int) ≤ (v2 5 + 4) ∧ xE E 36 (v2 5 + 4) = (v2 11) := xXf hF 14 rfl
                                have f15 : ¬ (v2 11) = 101 := xXf hF 15 rfl
                                have hI : E = E0 := hInv
                                show xΨfwpl x0 E0 E2 0
                                subst hI
                                unfold xΨfwpl
                                rw [if_neg]
                                intro h
                                unfold sW at h
                                simp only [tWb, Bool.and_true, Bool.and_eq_true, decide_eq_true_eq, List.length_cons, List.length_nil] at h
                                rw [show xE E 35 5 = (v2 5) by omega] at h
                                simp only [Int.add_assoc, Int.reduceAdd] at h
                                omega
                              · skip
                                rcases List.mem_cons.mp hx with ex | hx
                                · subst ex
                                  obtain ⟨hF, hBd, hM⟩ := hXs
                                  have b0 : ((2147483650 : Nat) : Int) ≤ (v2 3) + 2147483648 ∧ (v2 3) + 2147483648 ≤ ((2147483650 : Nat) : Int) := xXb hBd 0 rfl
                                  have b1 : ((2147483648 : Nat) : Int) ≤ (v2 4) + 2147483648 ∧ (v2 4) + 2147483648 ≤ ((2147484548 : Nat) : Int) := xXb hBd 1 rfl
                                  have b2 : ((2147483648 : Nat) : Int) ≤ (v2 5) + 2147483648 ∧ (v2 5) + 2147483648 ≤ ((2147484543 : Nat) : Int) := xXb hBd 2 rfl
                                  have b3 : ((2147483653 : Nat) : Int) ≤ (v2 6) + 2147483648 ∧ (v2 6) + 2147483648 ≤ ((2147483653 : Nat) : Int) := xXb hBd 3 rfl
                                  have b4 : ((2147483760 : Nat) : Int) ≤ (v2 7) + 2147483648 ∧ (v2 7) + 2147483648 ≤ ((2147483760 : Nat) : Int) := xXb hBd 4 rfl
                                  have b5 : ((2147483756 : Nat) : Int) ≤ (v2 8) + 2147483648 ∧ (v2 8) + 2147483648 ≤ ((2147483756 : Nat) : Int) := xXb hBd 5 rfl
                                  have b6 : ((2147483745 : Nat) : Int) ≤ (v2 9) + 2147483648 ∧ (v2 9) + 2147483648 ≤ ((2147483745 : Nat) : Int) := xXb hBd 6 rfl
                                  have b7 : ((2147483747 : Nat) : Int) ≤ (v2 10) + 2147483648 ∧ (v2 10) + 2147483648 ≤ ((2147483747 : Nat) : Int) := xXb hBd 7 rfl
                                  have b8 : ((2147483520 : Nat) : Int) ≤ (v2 11) + 2147483648 ∧ (v2 11) + 2147483648 ≤ ((2147483748 : Nat) : Int) := xXb hBd 8 rfl
                                  have f0 : (0 : Int) ≤ 7 ∧ xE E 35 7 = (v2 3) := xXf hF 0 rfl
                                  have f1 : (v2 3) = 2 := xXf hF 1 rfl
                                  have f2 : (0 : Int) ≤ 6 ∧ xE E 35 6 = (v2 4) := xXf hF 2 rfl
                                  have f3 : (0 : Int) ≤ 5 ∧ xE E 35 5 = (v2 5) := xXf hF 3 rfl
                                  have f4 : -2147483648 ≤ (v2 4) - (v2 5) → (v2 4) - (v2 5) < 2147483648 → (v2 6) = (v2 4) - (v2 5) := xXf hF 4 rfl
                                  have f4 := f4 (by omega) (by omega)
                                  have f5 : (v2 6) = 5 := xXf hF 5 rfl
                                  have f6 : (0 : Int) ≤ (v2 5) ∧ xE E 36 (v2 5) = (v2 7) := xXf hF 6 rfl
                                  have f7 : (v2 7) = 112 := xXf hF 7 rfl
                                  have f8 : (0 : Int) ≤ (v2 5 + 1) ∧ xE E 36 (v2 5 + 1) = (v2 8) := xXf hF 8 rfl
                                  have f9 : (v2 8) = 108 := xXf hF 9 rfl
                                  have f10 : (0 : Int) ≤ (v2 5 + 2) ∧ xE E 36 (v2 5 + 2) = (v2 9) := xXf hF 10 rfl
                                  have f11 : (v2 9) = 97 := xXf hF 11 rfl
                                  have f12 : (0 : Int) ≤ (v2 5 + 3) ∧ xE E 36 (v2 5 + 3) = (v2 10) := xXf hF 12 rfl
                                  have f13 : (v2 10) = 99 := xXf hF 13 rfl
                                  have f14 : (0 : Int) ≤ (v2 5 + 4) ∧ xE E 36 (v2 5 + 4) = (v2 11) := xXf hF 14 rfl
                                  have f15 : ¬ (v2 11) = 101 := xXf hF 15 rfl
                                  have hI : E = E0 := hInv
                                  show xΨfwpl x0 E0 E2 0
                                  subst hI
                                  unfold xΨfwpl
                                  rw [if_neg]
                                  intro h
                                  unfold sW at h
                                  simp only [tWb, Bool.and_true, Bool.and_eq_true, decide_eq_true_eq, List.length_cons, List.length_nil] at h
                                  rw [show xE E 35 5 = (v2 5) by omega] at h
                                  simp only [Int.add_assoc, Int.reduceAdd] at h
                                  omega
                                · skip
                                  have ex := List.mem_singleton.mp hx
                                  subst ex
                                  obtain ⟨hF, hBd, hM⟩ := hXs
                                  have b0 : ((2147483650 : Nat) : Int) ≤ (v2 3) + 2147483648 ∧ (v2 3) + 2147483648 ≤ ((2147483650 : Nat) : Int) := xXb hBd 0 rfl
                                  have b1 : ((2147483648 : Nat) : Int) ≤ (v2 4) + 2147483648 ∧ (v2 4) + 2147483648 ≤ ((2147484548 : Nat) : Int) := xXb hBd 1 rfl
                                  have b2 : ((2147483648 : Nat) : Int) ≤ (v2 5) + 2147483648 ∧ (v2 5) + 2147483648 ≤ ((2147484543 : Nat) : Int) := xXb hBd 2 rfl
                                  have b3 : ((2147483653 : Nat) : Int) ≤ (v2 6) + 2147483648 ∧ (v2 6) + 2147483648 ≤ ((2147483653 : Nat) : Int) := xXb hBd 3 rfl
                                  have b4 : ((2147483760 : Nat) : Int) ≤ (v2 7) + 2147483648 ∧ (v2 7) + 2147483648 ≤ ((2147483760 : Nat) : Int) := xXb hBd 4 rfl
                                  have b5 : ((2147483756 : Nat) : Int) ≤ (v2 8) + 2147483648 ∧ (v2 8) + 2147483648 ≤ ((2147483756 : Nat) : Int) := xXb hBd 5 rfl
                                  have b6 : ((2147483745 : Nat) : Int) ≤ (v2 9) + 2147483648 ∧ (v2 9) + 2147483648 ≤ ((2147483745 : Nat) : Int) := xXb hBd 6 rfl
                                  have b7 : ((2147483747 : Nat) : Int) ≤ (v2 10) + 2147483648 ∧ (v2 10) + 2147483648 ≤ ((2147483747 : Nat) : Int) := xXb hBd 7 rfl
                                  have b8 : ((2147483749 : Nat) : Int) ≤ (v2 11) + 2147483648 ∧ (v2 11) + 2147483648 ≤ ((2147483749 : Nat) : Int) := xXb hBd 8 rfl
                                  have f0 : (0 : Int) ≤ 7 ∧ xE E 35 7 = (v2 3) := xXf hF 0 rfl
                                  have f1 : (v2 3) = 2 := xXf hF 1 rfl
                                  have f2 : (0 : Int) ≤ 6 ∧ xE E 35 6 = (v2 4) := xXf hF 2 rfl
                                  have f3 : (0 : Int) ≤ 5 ∧ xE E 35 5 = (v2 5) := xXf hF 3 rfl
                                  have f4 : -2147483648 ≤ (v2 4) - (v2 5) → (v2 4) - (v2 5) < 2147483648 → (v2 6) = (v2 4) - (v2 5) := xXf hF 4 rfl
                                  have f4 := f4 (by omega) (by omega)
                                  have f5 : (v2 6) = 5 := xXf hF 5 rfl
                                  have f6 : (0 : Int) ≤ (v2 5) ∧ xE E 36 (v2 5) = (v2 7) := xXf hF 6 rfl
                                  have f7 : (v2 7) = 112 := xXf hF 7 rfl
                                  have f8 : (0 : Int) ≤ (v2 5 + 1) ∧ xE E 36 (v2 5 + 1) = (v2 8) := xXf hF 8 rfl
                                  have f9 : (v2 8) = 108 := xXf hF 9 rfl
                                  have f10 : (0 : Int) ≤ (v2 5 + 2) ∧ xE E 36 (v2 5 + 2) = (v2 9) := xXf hF 10 rfl
                                  have f11 : (v2 9) = 97 := xXf hF 11 rfl
                                  have f12 : (0 : Int) ≤ (v2 5 + 3) ∧ xE E 36 (v2 5 + 3) = (v2 10) := xXf hF 12 rfl
                                  have f13 : (v2 10) = 99 := xXf hF 13 rfl
                                  have f14 : (0 : Int) ≤ (v2 5 + 4) ∧ xE E 36 (v2 5 + 4) = (v2 11) := xXf hF 14 rfl
                                  have f15 : (v2 11) = 101 := xXf hF 15 rfl
                                  have hI : E = E0 := hInv
                                  show xΨfwpl x0 E0 E2 1
                                  subst hI
                                  unfold xΨfwpl
                                  rw [if_pos]
                                  unfold sW
                                  simp only [tWb, Bool.and_true, Bool.and_eq_true, decide_eq_true_eq, List.length_cons, List.length_nil]
                                  rw [show xE E 35 5 = (v2 5) by omega]
                                  simp only [Int.add_assoc, Int.reduceAdd]
                                  refine ⟨by omega, by omega, ?_⟩
                                  refine ⟨by omega, by omega, by omega, by omega, by omega⟩
noncomputable def zxfwwo_ar0 : zyXp := (0, [], [0], [(24, 103079215105, 35, 56), (23, 0, 103079215105, 16)], [(103079215105, 2147483651, 2147483653)], [])
noncomputable def zxfwwo_ar1 : zyXp := (0, [], [0], [(24, 103079215105, 35, 56), (23, 0, 103079215105, 16)], [(103079215105, 2147483648, 2147483649)], [])
noncomputable def zxfwwo_ar2 : zyXp := (0, [], [0], [(24, 103079215105, 35, 56), (22, 0, 103079215105, 16), (24, 137438953473, 35, 48), (24, 171798691841, 35, 40), (2, 206158430209, 137438953473, 171798691841), (23, 0, 206158430209, 32)], [(103079215105, 2147483650, 2147483650), (137438953473, 2147483648, 2147484548), (171798691841, 2147483648, 2147484548), (206158430209, 2147483653, 2147484548)], [])
noncomputable def zxfwwo_ar3 : zyXp := (0, [], [0], [(24, 103079215105, 35, 56), (22, 0, 103079215105, 16), (24, 137438953473, 35, 48), (24, 171798691841, 35, 40), (2, 206158430209, 137438953473, 171798691841), (23, 0, 206158430209, 32)], [(103079215105, 2147483650, 2147483650), (137438953473, 2147483648, 2147484548), (171798691841, 2147483648, 2147484548), (206158430209, 2147482748, 2147483651)], [])
noncomputable def zxfwwo_ar4 : zyXp := (0, [], [0], [(24, 103079215105, 35, 56), (22, 0, 103079215105, 16), (24, 137438953473, 35, 48), (24, 171798691841, 35, 40), (2, 206158430209, 137438953473, 171798691841), (22, 0, 206158430209, 32), (24, 240518168577, 36, 171798691841), (23, 0, 240518168577, 952)], [(103079215105, 2147483650, 2147483650), (137438953473, 2147483648, 2147484548), (171798691841, 2147483648, 2147484544), (206158430209, 2147483652, 2147483652), (240518168577, 2147483768, 2147483775)], [])
noncomputable def zxfwwo_ar5 : zyXp := (0, [], [0], [(24, 103079215105, 35, 56), (22, 0, 103079215105, 16), (24, 137438953473, 35, 48), (24, 171798691841, 35, 40), (2, 206158430209, 137438953473, 171798691841), (22, 0, 206158430209, 32), (24, 240518168577, 36, 171798691841), (23, 0, 240518168577, 952)], [(103079215105, 2147483650, 2147483650), (137438953473, 2147483648, 2147484548), (171798691841, 2147483648, 2147484544), (206158430209, 2147483652, 2147483652), (240518168577, 2147483520, 2147483766)], [])
noncomputable def zxfwwo_ar6 : zyXp := (0, [], [0], [(24, 103079215105, 35, 56), (22, 0, 103079215105, 16), (24, 137438953473, 35, 48), (24, 171798691841, 35, 40), (2, 206158430209, 137438953473, 171798691841), (22, 0, 206158430209, 32), (24, 240518168577, 36, 171798691841), (22, 0, 240518168577, 952), (24, 274877906945, 36, 171798691849), (23, 0, 274877906945, 888)], [(103079215105, 2147483650, 2147483650), (137438953473, 2147483648, 2147484548), (171798691841, 2147483648, 2147484544), (206158430209, 2147483652, 2147483652), (240518168577, 2147483767, 2147483767), (274877906945, 2147483760, 2147483775)], [])
noncomputable def zxfwwo_ar7 : zyXp := (0, [], [0], [(24, 103079215105, 35, 56), (22, 0, 103079215105, 16), (24, 137438953473, 35, 48), (24, 171798691841, 35, 40), (2, 206158430209, 137438953473, 171798691841), (22, 0, 206158430209, 32), (24, 240518168577, 36, 171798691841), (22, 0, 240518168577, 952), (24, 274877906945, 36, 171798691849), (23, 0, 274877906945, 888)], [(103079215105, 2147483650, 2147483650), (137438953473, 2147483648, 2147484548), (171798691841, 2147483648, 2147484544), (206158430209, 2147483652, 2147483652), (240518168577, 2147483767, 2147483767), (274877906945, 2147483520, 2147483758)], [])
noncomputable def zxfwwo_ar8 : zyXp := (0, [], [0], [(24, 103079215105, 35, 56), (22, 0, 103079215105, 16), (24, 137438953473, 35, 48), (24, 171798691841, 35, 40), (2, 206158430209, 137438953473, 171798691841), (22, 0, 206158430209, 32), (24, 240518168577, 36, 171798691841), (22, 0, 240518168577, 952), (24, 274877906945, 36, 171798691849), (22, 0, 274877906945, 888), (24, 309237645313, 36, 171798691857), (23, 0, 309237645313, 912)], [(103079215105, 2147483650, 2147483650), (137438953473, 2147483648, 2147484548), (171798691841, 2147483648, 2147484544), (206158430209, 2147483652, 2147483652), (240518168577, 2147483767, 2147483767), (274877906945, 2147483759, 2147483759), (309237645313, 2147483763, 2147483775)], [])
noncomputable def zxfwwo_ar9 : zyXp := (0, [], [0], [(24, 103079215105, 35, 56), (22, 0, 103079215105, 16), (24, 137438953473, 35, 48), (24, 171798691841, 35, 40), (2, 206158430209, 137438953473, 171798691841), (22, 0, 206158430209, 32), (24, 240518168577, 36, 171798691841), (22, 0, 240518168577, 952), (24, 274877906945, 36, 171798691849), (22, 0, 274877906945, 888), (24, 309237645313, 36, 171798691857), (23, 0, 309237645313, 912)], [(103079215105, 2147483650, 2147483650), (137438953473, 2147483648, 2147484548), (171798691841, 2147483648, 2147484544), (206158430209, 2147483652, 2147483652), (240518168577, 2147483767, 2147483767), (274877906945, 2147483759, 2147483759), (309237645313, 2147483520, 2147483761)], [])
noncomputable def zxfwwo_ar10 : zyXp := (0, [], [0], [(24, 103079215105, 35, 56), (22, 0, 103079215105, 16), (24, 137438953473, 35, 48), (24, 171798691841, 35, 40), (2, 206158430209, 137438953473, 171798691841), (22, 0, 206158430209, 32), (24, 240518168577, 36, 171798691841), (22, 0, 240518168577, 952), (24, 274877906945, 36, 171798691849), (22, 0, 274877906945, 888), (24, 309237645313, 36, 171798691857), (22, 0, 309237645313, 912), (24, 343597383681, 36, 171798691865), (23, 0, 343597383681, 800)], [(103079215105, 2147483650, 2147483650), (137438953473, 2147483648, 2147484548), (171798691841, 2147483648, 2147484544), (206158430209, 2147483652, 2147483652), (240518168577, 2147483767, 2147483767), (274877906945, 2147483759, 2147483759), (309237645313, 2147483762, 2147483762), (343597383681, 2147483749, 2147483775)], [])
noncomputable def zxfwwo_ar11 : zyXp := (0, [], [0], [(24, 103079215105, 35, 56), (22, 0, 103079215105, 16), (24, 137438953473, 35, 48), (24, 171798691841, 35, 40), (2, 206158430209, 137438953473, 171798691841), (22, 0, 206158430209, 32), (24, 240518168577, 36, 171798691841), (22, 0, 240518168577, 952), (24, 274877906945, 36, 171798691849), (22, 0, 274877906945, 888), (24, 309237645313, 36, 171798691857), (22, 0, 309237645313, 912), (24, 343597383681, 36, 171798691865), (23, 0, 343597383681, 800)], [(103079215105, 2147483650, 2147483650), (137438953473, 2147483648, 2147484548), (171798691841, 2147483648, 2147484544), (206158430209, 2147483652, 2147483652), (240518168577, 2147483767, 2147483767), (274877906945, 2147483759, 2147483759), (309237645313, 2147483762, 2147483762), (343597383681, 2147483520, 2147483747)], [])
noncomputable def zxfwwo_ar12 : zyXp := (0, [], [8], [(24, 103079215105, 35, 56), (22, 0, 103079215105, 16), (24, 137438953473, 35, 48), (24, 171798691841, 35, 40), (2, 206158430209, 137438953473, 171798691841), (22, 0, 206158430209, 32), (24, 240518168577, 36, 171798691841), (22, 0, 240518168577, 952), (24, 274877906945, 36, 171798691849), (22, 0, 274877906945, 888), (24, 309237645313, 36, 171798691857), (22, 0, 309237645313, 912), (24, 343597383681, 36, 171798691865), (22, 0, 343597383681, 800)], [(103079215105, 2147483650, 2147483650), (137438953473, 2147483648, 2147484548), (171798691841, 2147483648, 2147484544), (206158430209, 2147483652, 2147483652), (240518168577, 2147483767, 2147483767), (274877906945, 2147483759, 2147483759), (309237645313, 2147483762, 2147483762), (343597383681, 2147483748, 2147483748)], [])
noncomputable def zpfwwo_a : zyPh := (0, [283, 800067, 13], [(0, 4294967295), (0, 4294967295), (0, 4294967295)], [], [])
noncomputable def zpfwwo (i : Nat) : zyPh := zpfwwo_a
noncomputable def zXfwwo (i : Nat) : List zyXp := []
noncomputable def zRfwwo (i : Nat) : List zyXp := [zxfwwo_ar0, zxfwwo_ar1, zxfwwo_ar2, zxfwwo_ar3, zxfwwo_ar4, zxfwwo_ar5, zxfwwo_ar6, zxfwwo_ar7, zxfwwo_ar8, zxfwwo_ar9, zxfwwo_ar10, zxfwwo_ar11, zxfwwo_ar12]
noncomputable def zFfwwo (i : Nat) : zyR := []
noncomputable def zSfwwo (i : Nat) : Nat := 0
def xΨfwwo (_ : Nat → Int) (E E2 : zyEm) (r : Int) : Prop := r = if sW (xE E 36) (xE E 35 7) (xE E 35 5) (xE E 35 6) [119, 111, 114, 100] = true then 1 else 0
noncomputable def fpfwwo : zyR := []
theorem zyfwwo_run : zyrS zymc zxi72 (72, 0, 0, 2, 0) 6 zpfwwo (fun _ _ => []) zFfwwo zSfwwo zXfwwo zRfwwo 1 = true := by decide +kernel
theorem zyfwwo_ck : zyAll (fun i => xsubR (zFfwwo i) fpfwwo && ((zXfwwo i).all xckX && (zRfwwo i).all (fun x => xckX x && xrtB true x))) 1 = true := by decide +kernel
def xIfwwo (i : Nat) (x0 : Nat → Int) (E0 : zyEm) (v : Nat → Int) (E : zyEm) : Prop := (E = E0)
def xMfwwo (i : Nat) (x0 : Nat → Int) (E0 : zyEm) (v : Nat → Int) (E : zyEm) : Nat := (0)
theorem xWword {l : Launch} {en : zEn} {me : zMe} (hen : zG zxMeta 72 = some en) (hme : zG zMeth 72 = some me) : xFc l zymc en me 6 [35, 100008] 0 fpfwwo true xΦ0 xΨfwwo := by
  have een : zG zxMeta 72 = some (zxi72, 2, 3, 5, 72, 0, 0, 2, 0) := rfl
  obtain ⟨me1, hme1, hOK⟩ := zall hen
  rw [hme] at hme1
  cases hme1
  rw [een] at hen
  cases hen
  have hr := zyfwwo_run
  have hck := fun i hi => zyAll_iff zyfwwo_ck i hi
  simp only [Bool.and_eq_true] at hck
  intro B
  refine xcut (mi := zymc) (B := B) hOK rfl rfl (ι := Fin 1) (fun i => zpfwwo i.val) (fun _ _ => []) (fun i => zFfwwo i.val) (fun i => zSfwwo i.val) (fun i => zXfwwo i.val) (fun i => zRfwwo i.val) (fun i y2 ct en2 me2 h => by cases h) 200000 (fun i => zyAll_iff hr i.val i.isLt) (fun i => (hck i.val i.isLt).1) (fun i => (hck i.val i.isLt).2.1) (fun i => (hck i.val i.isLt).2.2) ⟨0, by decide⟩ ⟨rfl, rfl, rfl, rfl⟩ ⟨by decide, by decide⟩ (fun i x0 E0 v E => xIfwwo i.val x0 E0 v E) (fun i x0 E0 v E => xMfwwo i.val x0 E0 v E) ?_ ?_ ?_
  · intro x0 E hx0 hT hΦ
    have hΦ : xΦ0 x0 E := hΦ
    refine ⟨fun k p hp => ?_, ?_⟩
    · have hk : k < 3 := (List.getElem?_eq_some_iff.mp hp).1
      have hk : k = 0 ∨ k = 1 ∨ k = 2 := by omega
      rcases hk with rfl | rfl | rfl
      · have hp : some (0, 4294967295) = some p := hp
        cases hp
        show ((0 : Nat) : Int) ≤ 0 + 2147483648 ∧ 0 + 2147483648 ≤ ((4294967295 : Nat) : Int)
        omega
      · have hp : some (0, 4294967295) = some p := hp
        cases hp
        show ((0 : Nat) : Int) ≤ 0 + 2147483648 ∧ 0 + 2147483648 ≤ ((4294967295 : Nat) : Int)
        omega
      · have hp : some (0, 4294967295) = some p := hp
        cases hp
        show ((0 : Nat) : Int) ≤ x0 0 + 2147483648 ∧ x0 0 + 2147483648 ≤ ((4294967295 : Nat) : Int)
        have hx := hx0 0
        omega
    · show E = E
      rfl
  · intro x0 s Wg hRu hrx hT0 hΦ i v H hT hrv hInv hKc hFr0 hIH x hx ρ2 v2 N2 H2 locs lsB stA hAt hB hv hr2 hXs hag hfr hFr hT2
    rcases i with ⟨i, hi⟩
    have hi2 : i = 0 := by omega
    rcases hi2 with rfl
    · cases hx
  · intro x0 E0 E E2 hrx hT0 hΦ i v hT hrv hInv hKc hFr0 x hx v2 hr2 hXs hag hfr hFr hT2
    rcases i with ⟨i, hi⟩
    have hi2 : i = 0 := by omega
    rcases hi2 with rfl
    · have hx : x ∈ [zxfwwo_ar0, zxfwwo_ar1, zxfwwo_ar2, zxfwwo_ar3, zxfwwo_ar4, zxfwwo_ar5, zxfwwo_ar6, zxfwwo_ar7, zxfwwo_ar8, zxfwwo_ar9, zxfwwo_ar10, zxfwwo_ar11, zxfwwo_ar12] := hx
      have hag : ∀ k, k < 3 → v2 k = v k := hag
      have hfr : xFr [] _ _ := hfr
      rcases List.mem_cons.mp hx with ex | hx
      · subst ex
        obtain ⟨hF, hBd, hM⟩ := hXs
        have b0 : ((2147483651 : Nat) : Int) ≤ (v2 3) + 2147483648 ∧ (v2 3) + 2147483648 ≤ ((2147483653 : Nat) : Int) := xXb hBd 0 rfl
        have f0 : (0 : Int) ≤ 7 ∧ xE E 35 7 = (v2 3) := xXf hF 0 rfl
        have f1 : ¬ (v2 3) = 2 := xXf hF 1 rfl
        have hI : E = E0 := hInv
        show xΨfwwo x0 E0 E2 0
        subst hI
        unfold xΨfwwo
        rw [if_neg]
        intro h
        unfold sW at h
        simp only [tWb, Bool.and_true, Bool.and_eq_true, decide_eq_true_eq, List.length_cons, List.length_nil] at h
        omega
      · skip
        rcases List.mem_cons.mp hx with ex | hx
        · subst ex
          obtain ⟨hF, hBd, hM⟩ := hXs
          have b0 : ((2147483648 : Nat) : Int) ≤ (v2 3) + 2147483648 ∧ (v2 3) + 2147483648 ≤ ((2147483649 : Nat) : Int) := xXb hBd 0 rfl
          have f0 : (0 : Int) ≤ 7 ∧ xE E 35 7 = (v2 3) := xXf hF 0 rfl
          have f1 : ¬ (v2 3) = 2 := xXf hF 1 rfl
          have hI : E = E0 := hInv
          show xΨfwwo x0 E0 E2 0
          subst hI
          unfold xΨfwwo
          rw [if_neg]
          intro h
          unfold sW at h
          simp only [tWb, Bool.and_true, Bool.and_eq_true, decide_eq_true_eq, List.length_cons, List.length_nil] at h
          omega
        · skip
          rcases List.mem_cons.mp hx with ex | hx
          · subst ex
            obtain ⟨hF, hBd, hM⟩ := hXs
            have b0 : ((2147483650 : Nat) : Int) ≤ (v2 3) + 2147483648 ∧ (v2 3) + 2147483648 ≤ ((2147483650 : Nat) : Int) := xXb hBd 0 rfl
            have b1 : ((2147483648 : Nat) : Int) ≤ (v2 4) + 2147483648 ∧ (v2 4) + 2147483648 ≤ ((2147484548 : Nat) : Int) := xXb hBd 1 rfl
            have b2 : ((2147483648 : Nat) : Int) ≤ (v2 5) + 2147483648 ∧ (v2 5) + 2147483648 ≤ ((2147484548 : Nat) : Int) := xXb hBd 2 rfl
            have b3 : ((2147483653 : Nat) : Int) ≤ (v2 6) + 2147483648 ∧ (v2 6) + 2147483648 ≤ ((2147484548 : Nat) : Int) := xXb hBd 3 rfl
            have f0 : (0 : Int) ≤ 7 ∧ xE E 35 7 = (v2 3) := xXf hF 0 rfl
            have f1 : (v2 3) = 2 := xXf hF 1 rfl
            have f2 : (0 : Int) ≤ 6 ∧ xE E 35 6 = (v2 4) := xXf hF 2 rfl
            have f3 : (0 : Int) ≤ 5 ∧ xE E 35 5 = (v2 5) := xXf hF 3 rfl
            have f4 : -2147483648 ≤ (v2 4) - (v2 5) → (v2 4) - (v2 5) < 2147483648 → (v2 6) = (v2 4) - (v2 5) := xXf hF 4 rfl
            have f4 := f4 (by omega) (by omega)
            have f5 : ¬ (v2 6) = 4 := xXf hF 5 rfl
            have hI : E = E0 := hInv
            show xΨfwwo x0 E0 E2 0
            subst hI
            unfold xΨfwwo
            rw [if_neg]
            intro h
            unfold sW at h
            simp only [tWb, Bool.and_true, Bool.and_eq_true, decide_eq_true_eq, List.length_cons, List.length_nil] at h
            rw [show xE E 35 5 = (v2 5) by omega] at h
            simp only [Int.add_assoc, Int.reduceAdd] at h
            omega
          · skip
            rcases List.mem_cons.mp hx with ex | hx
            · subst ex
              obtain ⟨hF, hBd, hM⟩ := hXs
              have b0 : ((2147483650 : Nat) : Int) ≤ (v2 3) + 2147483648 ∧ (v2 3) + 2147483648 ≤ ((2147483650 : Nat) : Int) := xXb hBd 0 rfl
              have b1 : ((2147483648 : Nat) : Int) ≤ (v2 4) + 2147483648 ∧ (v2 4) + 2147483648 ≤ ((2147484548 : Nat) : Int) := xXb hBd 1 rfl
              have b2 : ((2147483648 : Nat) : Int) ≤ (v2 5) + 2147483648 ∧ (v2 5) + 2147483648 ≤ ((2147484548 : Nat) : Int) := xXb hBd 2 rfl
              have b3 : ((2147482748 : Nat) : Int) ≤ (v2 6) + 2147483648 ∧ (v2 6) + 2147483648 ≤ ((2147483651 : Nat) : Int) := xXb hBd 3 rfl
              have f0 : (0 : Int) ≤ 7 ∧ xE E 35 7 = (v2 3) := xXf hF 0 rfl
              have f1 : (v2 3) = 2 := xXf hF 1 rfl
              have f2 : (0 : Int) ≤ 6 ∧ xE E 35 6 = (v2 4) := xXf hF 2 rfl
              have f3 : (0 : Int) ≤ 5 ∧ xE E 35 5 = (v2 5) := xXf hF 3 rfl
              have f4 : -2147483648 ≤ (v2 4) - (v2 5) → (v2 4) - (v2 5) < 2147483648 → (v2 6) = (v2 4) - (v2 5) := xXf hF 4 rfl
              have f4 := f4 (by omega) (by omega)
              have f5 : ¬ (v2 6) = 4 := xXf hF 5 rfl
              have hI : E = E0 := hInv
              show xΨfwwo x0 E0 E2 0
              subst hI
              unfold xΨfwwo
              rw [if_neg]
              intro h
              unfold sW at h
              simp only [tWb, Bool.and_true, Bool.and_eq_true, decide_eq_true_eq, List.length_cons, List.length_nil] at h
              rw [show xE E 35 5 = (v2 5) by omega] at h
              simp only [Int.add_assoc, Int.reduceAdd] at h
              omega
            · skip
              rcases List.mem_cons.mp hx with ex | hx
              · subst ex
                obtain ⟨hF, hBd, hM⟩ := hXs
                have b0 : ((2147483650 : Nat) : Int) ≤ (v2 3) + 2147483648 ∧ (v2 3) + 2147483648 ≤ ((2147483650 : Nat) : Int) := xXb hBd 0 rfl
                have b1 : ((2147483648 : Nat) : Int) ≤ (v2 4) + 2147483648 ∧ (v2 4) + 2147483648 ≤ ((2147484548 : Nat) : Int) := xXb hBd 1 rfl
                have b2 : ((2147483648 : Nat) : Int) ≤ (v2 5) + 2147483648 ∧ (v2 5) + 2147483648 ≤ ((2147484544 : Nat) : Int) := xXb hBd 2 rfl
                have b3 : ((2147483652 : Nat) : Int) ≤ (v2 6) + 2147483648 ∧ (v2 6) + 2147483648 ≤ ((2147483652 : Nat) : Int) := xXb hBd 3 rfl
                have b4 : ((2147483768 : Nat) : Int) ≤ (v2 7) + 2147483648 ∧ (v2 7) + 2147483648 ≤ ((2147483775 : Nat) : Int) := xXb hBd 4 rfl
                have f0 : (0 : Int) ≤ 7 ∧ xE E 35 7 = (v2 3) := xXf hF 0 rfl
                have f1 : (v2 3) = 2 := xXf hF 1 rfl
                have f2 : (0 : Int) ≤ 6 ∧ xE E 35 6 = (v2 4) := xXf hF 2 rfl
                have f3 : (0 : Int) ≤ 5 ∧ xE E 35 5 = (v2 5) := xXf hF 3 rfl
                have f4 : -2147483648 ≤ (v2 4) - (v2 5) → (v2 4) - (v2 5) < 2147483648 → (v2 6) = (v2 4) - (v2 5) := xXf hF 4 rfl
                have f4 := f4 (by omega) (by omega)
                have f5 : (v2 6) = 4 := xXf hF 5 rfl
                have f6 : (0 : Int) ≤ (v2 5) ∧ xE E 36 (v2 5) = (v2 7) := xXf hF 6 rfl
                have f7 : ¬ (v2 7) = 119 := xXf hF 7 rfl
                have hI : E = E0 := hInv
                show xΨfwwo x0 E0 E2 0
                subst hI
                unfold xΨfwwo
                rw [if_neg]
                intro h
                unfold sW at h
                simp only [tWb, Bool.and_true, Bool.and_eq_true, decide_eq_true_eq, List.length_cons, List.length_nil] at h
                rw [show xE E 35 5 = (v2 5) by omega] at h
                simp only [Int.add_assoc, Int.reduceAdd] at h
                omega
              · skip
                rcases List.mem_cons.mp hx with ex | hx
                · subst ex
                  obtain ⟨hF, hBd, hM⟩ := hXs
                  have b0 : ((2147483650 : Nat) : Int) ≤ (v2 3) + 2147483648 ∧ (v2 3) + 2147483648 ≤ ((2147483650 : Nat) : Int) := xXb hBd 0 rfl
                  have b1 : ((2147483648 : Nat) : Int) ≤ (v2 4) + 2147483648 ∧ (v2 4) + 2147483648 ≤ ((2147484548 : Nat) : Int) := xXb hBd 1 rfl
                  have b2 : ((2147483648 : Nat) : Int) ≤ (v2 5) + 2147483648 ∧ (v2 5) + 2147483648 ≤ ((2147484544 : Nat) : Int) := xXb hBd 2 rfl
                  have b3 : ((2147483652 : Nat) : Int) ≤ (v2 6) + 2147483648 ∧ (v2 6) + 2147483648 ≤ ((2147483652 : Nat) : Int) := xXb hBd 3 rfl
                  have b4 : ((2147483520 : Nat) : Int) ≤ (v2 7) + 2147483648 ∧ (v2 7) + 2147483648 ≤ ((2147483766 : Nat) : Int) := xXb hBd 4 rfl
                  have f0 : (0 : Int) ≤ 7 ∧ xE E 35 7 = (v2 3) := xXf hF 0 rfl
                  have f1 : (v2 3) = 2 := xXf hF 1 rfl
                  have f2 : (0 : Int) ≤ 6 ∧ xE E 35 6 = (v2 4) := xXf hF 2 rfl
                  have f3 : (0 : Int) ≤ 5 ∧ xE E 35 5 = (v2 5) := xXf hF 3 rfl
                  have f4 : -2147483648 ≤ (v2 4) - (v2 5) → (v2 4) - (v2 5) < 2147483648 → (v2 6) = (v2 4) - (v2 5) := xXf hF 4 rfl
                  have f4 := f4 (by omega) (by omega)
                  have f5 : (v2 6) = 4 := xXf hF 5 rfl
                  have f6 : (0 : Int) ≤ (v2 5) ∧ xE E 36 (v2 5) = (v2 7) := xXf hF 6 rfl
                  have f7 : ¬ (v2 7) = 119 := xXf hF 7 rfl
                  have hI : E = E0 := hInv
                  show xΨfwwo x0 E0 E2 0
                  subst hI
                  unfold xΨfwwo
                  rw [if_neg]
                  intro h
                  unfold sW at h
                  simp only [tWb, Bool.and_true, Bool.and_eq_true, decide_eq_true_eq, List.length_cons, List.length_nil] at h
                  rw [show xE E 35 5 = (v2 5) by omega] at h
                  simp only [Int.add_assoc, Int.reduceAdd] at h
                  omega
                · skip
                  rcases List.mem_cons.mp hx with ex | hx
                  · subst ex
                    obtain ⟨hF, hBd, hM⟩ := hXs
                    have b0 : ((2147483650 : Nat) : Int) ≤ (v2 3) + 2147483648 ∧ (v2 3) + 2147483648 ≤ ((2147483650 : Nat) : Int) := xXb hBd 0 rfl
                    have b1 : ((2147483648 : Nat) : Int) ≤ (v2 4) + 2147483648 ∧ (v2 4) + 2147483648 ≤ ((2147484548 : Nat) : Int) := xXb hBd 1 rfl
                    have b2 : ((2147483648 : Nat) : Int) ≤ (v2 5) + 2147483648 ∧ (v2 5) + 2147483648 ≤ ((2147484544 : Nat) : Int) := xXb hBd 2 rfl
                    have b3 : ((2147483652 : Nat) : Int) ≤ (v2 6) + 2147483648 ∧ (v2 6) + 2147483648 ≤ ((2147483652 : Nat) : Int) := xXb hBd 3 rfl
                    have b4 : ((2147483767 : Nat) : Int) ≤ (v2 7) + 2147483648 ∧ (v2 7) + 2147483648 ≤ ((2147483767 : Nat) : Int) := xXb hBd 4 rfl
                    have b5 : ((2147483760 : Nat) : Int) ≤ (v2 8) + 2147483648 ∧ (v2 8) + 2147483648 ≤ ((2147483775 : Nat) : Int) := xXb hBd 5 rfl
                    have f0 : (0 : Int) ≤ 7 ∧ xE E 35 7 = (v2 3) := xXf hF 0 rfl
                    have f1 : (v2 3) = 2 := xXf hF 1 rfl
                    have f2 : (0 : Int) ≤ 6 ∧ xE E 35 6 = (v2 4) := xXf hF 2 rfl
                    have f3 : (0 : Int) ≤ 5 ∧ xE E 35 5 = (v2 5) := xXf hF 3 rfl
                    have f4 : -2147483648 ≤ (v2 4) - (v2 5) → (v2 4) - (v2 5) < 2147483648 → (v2 6) = (v2 4) - (v2 5) := xXf hF 4 rfl
                    have f4 := f4 (by omega) (by omega)
                    have f5 : (v2 6) = 4 := xXf hF 5 rfl
                    have f6 : (0 : Int) ≤ (v2 5) ∧ xE E 36 (v2 5) = (v2 7) := xXf hF 6 rfl
                    have f7 : (v2 7) = 119 := xXf hF 7 rfl
                    have f8 : (0 : Int) ≤ (v2 5 + 1) ∧ xE E 36 (v2 5 + 1) = (v2 8) := xXf hF 8 rfl
                    have f9 : ¬ (v2 8) = 111 := xXf hF 9 rfl
                    have hI : E = E0 := hInv
                    show xΨfwwo x0 E0 E2 0
                    subst hI
                    unfold xΨfwwo
                    rw [if_neg]
                    intro h
                    unfold sW at h
                    simp only [tWb, Bool.and_true, Bool.and_eq_true, decide_eq_true_eq, List.length_cons, List.length_nil] at h
                    rw [show xE E 35 5 = (v2 5) by omega] at h
                    simp only [Int.add_assoc, Int.reduceAdd] at h
                    omega
                  · skip
                    rcases List.mem_cons.mp hx with ex | hx
                    · subst ex
                      obtain ⟨hF, hBd, hM⟩ := hXs
                      have b0 : ((2147483650 : Nat) : Int) ≤ (v2 3) + 2147483648 ∧ (v2 3) + 2147483648 ≤ ((2147483650 : Nat) : Int) := xXb hBd 0 rfl
                      have b1 : ((2147483648 : Nat) : Int) ≤ (v2 4) + 2147483648 ∧ (v2 4) + 2147483648 ≤ ((2147484548 : Nat) : Int) := xXb hBd 1 rfl
                      have b2 : ((2147483648 : Nat) : Int) ≤ (v2 5) + 2147483648 ∧ (v2 5) + 2147483648 ≤ ((2147484544 : Nat) : Int) := xXb hBd 2 rfl
                      have b3 : ((2147483652 : Nat) : Int) ≤ (v2 6) + 2147483648 ∧ (v2 6) + 2147483648 ≤ ((2147483652 : Nat) : Int) := xXb hBd 3 rfl
                      have b4 : ((2147483767 : Nat) : Int) ≤ (v2 7) + 2147483648 ∧ (v2 7) + 2147483648 ≤ ((2147483767 : Nat) : Int) := xXb hBd 4 rfl
                      have b5 : ((2147483520 : Nat) : Int) ≤ (v2 8) + 2147483648 ∧ (v2 8) + 2147483648 ≤ ((2147483758 : Nat) : Int) := xXb hBd 5 rfl
                      have f0 : (0 : Int) ≤ 7 ∧ xE E 35 7 = (v2 3) := xXf hF 0 rfl
                      have f1 : (v2 3) = 2 := xXf hF 1 rfl
                      have f2 : (0 : Int) ≤ 6 ∧ xE E 35 6 = (v2 4) := xXf hF 2 rfl
                      have f3 : (0 : Int) ≤ 5 ∧ xE E 35 5 = (v2 5) := xXf hF 3 rfl
                      have f4 : -2147483648 ≤ (v2 4) - (v2 5) → (v2 4) - (v2 5) < 2147483648 → (v2 6) = (v2 4) - (v2 5) := xXf hF 4 rfl
                      have f4 := f4 (by omega) (by omega)
                      have f5 : (v2 6) = 4 := xXf hF 5 rfl
                      have f6 : (0 : Int) ≤ (v2 5) ∧ xE E 36 (v2 5) = (v2 7) := xXf hF 6 rfl
                      have f7 : (v2 7) = 119 := xXf hF 7 rfl
                      have f8 : (0 : Int) ≤ (v2 5 + 1) ∧ xE E 36 (v2 5 + 1) = (v2 8) := xXf hF 8 rfl
                      have f9 : ¬ (v2 8) = 111 := xXf hF 9 rfl
                      have hI : E = E0 := hInv
                      show xΨfwwo x0 E0 E2 0
                      subst hI
                      unfold xΨfwwo
                      rw [if_neg]
                      intro h
                      unfold sW at h
                      simp only [tWb, Bool.and_true, Bool.and_eq_true, decide_eq_true_eq, List.length_cons, List.length_nil] at h
                      rw [show xE E 35 5 = (v2 5) by omega] at h
                      simp only [Int.add_assoc, Int.reduceAdd] at h
                      omega
                    · skip
                      rcases List.mem_cons.mp hx with ex | hx
                      · subst ex
                        obtain ⟨hF, hBd, hM⟩ := hXs
                        have b0 : ((2147483650 : Nat) : Int) ≤ (v2 3) + 2147483648 ∧ (v2 3) + 2147483648 ≤ ((2147483650 : Nat) : Int) := xXb hBd 0 rfl
                        have b1 : ((2147483648 : Nat) : Int) ≤ (v2 4) + 2147483648 ∧ (v2 4) + 2147483648 ≤ ((2147484548 : Nat) : Int) := xXb hBd 1 rfl
                        have b2 : ((2147483648 : Nat) : Int) ≤ (v2 5) + 2147483648 ∧ (v2 5) + 2147483648 ≤ ((2147484544 : Nat) : Int) := xXb hBd 2 rfl
                        have b3 : ((2147483652 : Nat) : Int) ≤ (v2 6) + 2147483648 ∧ (v2 6) + 2147483648 ≤ ((2147483652 : Nat) : Int) := xXb hBd 3 rfl
                        have b4 : ((2147483767 : Nat) : Int) ≤ (v2 7) + 2147483648 ∧ (v2 7) + 2147483648 ≤ ((2147483767 : Nat) : Int) := xXb hBd 4 rfl
                        have b5 : ((2147483759 : Nat) : Int) ≤ (v2 8) + 2147483648 ∧ (v2 8) + 2147483648 ≤ ((2147483759 : Nat) : Int) := xXb hBd 5 rfl
                        have b6 : ((2147483763 : Nat) : Int) ≤ (v2 9) + 2147483648 ∧ (v2 9) + 2147483648 ≤ ((2147483775 : Nat) : Int) := xXb hBd 6 rfl
                        have f0 : (0 : Int) ≤ 7 ∧ xE E 35 7 = (v2 3) := xXf hF 0 rfl
                        have f1 : (v2 3) = 2 := xXf hF 1 rfl
                        have f2 : (0 : Int) ≤ 6 ∧ xE E 35 6 = (v2 4) := xXf hF 2 rfl
                        have f3 : (0 : Int) ≤ 5 ∧ xE E 35 5 = (v2 5) := xXf hF 3 rfl
                        have f4 : -2147483648 ≤ (v2 4) - (v2 5) → (v2 4) - (v2 5) < 2147483648 → (v2 6) = (v2 4) - (v2 5) := xXf hF 4 rfl
                        have f4 := f4 (by omega) (by omega)
                        have f5 : (v2 6) = 4 := xXf hF 5 rfl
                        have f6 : (0 : Int) ≤ (v2 5) ∧ xE E 36 (v2 5) = (v2 7) := xXf hF 6 rfl
                        have f7 : (v2 7) = 119 := xXf hF 7 rfl
                        have f8 : (0 : Int) ≤ (v2 5 + 1) ∧ xE E 36 (v2 5 + 1) = (v2 8) := xXf hF 8 rfl
                        have f9 : (v2 8) = 111 := xXf hF 9 rfl
                        have f10 : (0 : Int) ≤ (v2 5 + 2) ∧ xE E 36 (v2 5 + 2) = (v2 9) := xXf hF 10 rfl
                        have f11 : ¬ (v2 9) = 114 := xXf hF 11 rfl
                        have hI : E = E0 := hInv
                        show xΨfwwo x0 E0 E2 0
                        subst hI
                        unfold xΨfwwo
                        rw [if_neg]
                        intro h
                        unfold sW at h
                        simp only [tWb, Bool.and_true, Bool.and_eq_true, decide_eq_true_eq, List.length_cons, List.length_nil] at h
                        rw [show xE E 35 5 = (v2 5) by omega] at h
                        simp only [Int.add_assoc, Int.reduceAdd] at h
                        omega
                      · skip
                        rcases List.mem_cons.mp hx with ex | hx
                        · subst ex
                          obtain ⟨hF, hBd, hM⟩ := hXs
                          have b0 : ((2147483650 : Nat) : Int) ≤ (v2 3) + 2147483648 ∧ (v2 3) + 2147483648 ≤ ((2147483650 : Nat) : Int) := xXb hBd 0 rfl
                          have b1 : ((2147483648 : Nat) : Int) ≤ (v2 4) + 2147483648 ∧ (v2 4) + 2147483648 ≤ ((2147484548 : Nat) : Int) := xXb hBd 1 rfl
                          have b2 : ((2147483648 : Nat) : Int) ≤ (v2 5) + 2147483648 ∧ (v2 5) + 2147483648 ≤ ((2147484544 : Nat) : Int) := xXb hBd 2 rfl
                          have b3 : ((2147483652 : Nat) : Int) ≤ (v2 6) + 2147483648 ∧ (v2 6) + 2147483648 ≤ ((2147483652 : Nat) : Int) := xXb hBd 3 rfl
                          have b4 : ((2147483767 : Nat) : Int) ≤ (v2 7) + 2147483648 ∧ (v2 7) + 2147483648 ≤ ((2147483767 : Nat) : Int) := xXb hBd 4 rfl
                          have b5 : ((2147483759 : Nat) : Int) ≤ (v2 8) + 2147483648 ∧ (v2 8) + 2147483648 ≤ ((2147483759 : Nat) : Int) := xXb hBd 5 rfl
                          have b6 : ((2147483520 : Nat) : Int) ≤ (v2 9) + 2147483648 ∧ (v2 9) + 2147483648 ≤ ((2147483761 : Nat) : Int) := xXb hBd 6 rfl
                          have f0 : (0 : Int) ≤ 7 ∧ xE E 35 7 = (v2 3) := xXf hF 0 rfl
                          have f1 : (v2 3) = 2 := xXf hF 1 rfl
                          have f2 : (0 : Int) ≤ 6 ∧ xE E 35 6 = (v2 4) := xXf hF 2 rfl
                          have f3 : (0 : Int) ≤ 5 ∧ xE E 35 5 = (v2 5) := xXf hF 3 rfl
                          have f4 : -2147483648 ≤ (v2 4) - (v2 5) → (v2 4) - (v2 5) < 2147483648 → (v2 6) = (v2 4) - (v2 5) := xXf hF 4 rfl
                          have f4 := f4 (by omega) (by omega)
                          have f5 : (v2 6) = 4 := xXf hF 5 rfl
                          have f6 : (0 : Int) ≤ (v2 5) ∧ xE E 36 (v2 5) = (v2 7) := xXf hF 6 rfl
                          have f7 : (v2 7) = 119 := xXf hF 7 rfl
                          have f8 : (0 : Int) ≤ (v2 5 + 1) ∧ xE E 36 (v2 5 + 1) = (v2 8) := xXf hF 8 rfl
                          have f9 : (v2 8) = 111 := xXf hF 9 rfl
                          have f10 : (0 : Int) ≤ (v2 5 + 2) ∧ xE E 36 (v2 5 + 2) = (v2 9) := xXf hF 10 rfl
                          have f11 : ¬ (v2 9) = 114 := xXf hF 11 rfl
                          have hI : E = E0 := hInv
                          show xΨfwwo x0 E0 E2 0
                          subst hI
                          unfold xΨfwwo
                          rw [if_neg]
                          intro h
                          unfold sW at h
                          simp only [tWb, Bool.and_true, Bool.and_eq_true, decide_eq_true_eq, List.length_cons, List.length_nil] at h
                          rw [show xE E 35 5 = (v2 5) by omega] at h
                          simp only [Int.add_assoc, Int.reduceAdd] at h
                          omega
                        · skip
                          rcases List.mem_cons.mp hx with ex | hx
                          · subst ex
                            obtain ⟨hF, hBd, hM⟩ := hXs
                            have b0 : ((2147483650 : Nat) : Int) ≤ (v2 3) + 2147483648 ∧ (v2 3) + 2147483648 ≤ ((2147483650 : Nat) : Int) := xXb hBd 0 rfl
                            have b1 : ((2147483648 : Nat) : Int) ≤ (v2 4) + 2147483648 ∧ (v2 4) + 2147483648 ≤ ((2147484548 : Nat) : Int) := xXb hBd 1 rfl
                            have b2 : ((2147483648 : Nat) : Int) ≤ (v2 5) + 2147483648 ∧ (v2 5) + 2147483648 ≤ ((2147484544 : Nat) : Int) := xXb hBd 2 rfl
                            have b3 : ((2147483652 : Nat) : Int) ≤ (v2 6) + 2147483648 ∧ (v2 6) + 2147483648 ≤ ((2147483652 : Nat) : Int) := xXb hBd 3 rfl
                            have b4 : ((2147483767 : Nat) : Int) ≤ (v2 7) + 2147483648 ∧ (v2 7) + 2147483648 ≤ ((2147483767 : Nat) : Int) := xXb hBd 4 rfl
                            have b5 : ((2147483759 : Nat) : Int) ≤ (v2 8) + 2147483648 ∧ (v2 8) + 2147483648 ≤ ((2147483759 : Nat) : Int) := xXb hBd 5 rfl
                            have b6 : ((2147483762 : Nat) : Int) ≤ (v2 9) + 2147483648 ∧ (v2 9) + 2147483648 ≤ ((2147483762 : Nat) : Int) := xXb hBd 6 rfl
                            have b7 : ((2147483749 : Nat) : Int) ≤ (v2 10) + 2147483648 ∧ (v2 10) + 2147483648 ≤ ((2147483775 : Nat) : Int) := xXb hBd 7 rfl
                            have f0 : (0 : Int) ≤ 7 ∧ xE E 35 7 = (v2 3) := xXf hF 0 rfl
                            have f1 : (v2 3) = 2 := xXf hF 1 rfl
                            have f2 : (0 : Int) ≤ 6 ∧ xE E 35 6 = (v2 4) := xXf hF 2 rfl
                            have f3 : (0 : Int) ≤ 5 ∧ xE E 35 5 = (v2 5) := xXf hF 3 rfl
                            have f4 : -2147483648 ≤ (v2 4) - (v2 5) → (v2 4) - (v2 5) < 2147483648 → (v2 6) = (v2 4) - (v2 5) := xXf hF 4 rfl
                            have f4 := f4 (by omega) (by omega)
                            have f5 : (v2 6) = 4 := xXf hF 5 rfl
                            have f6 : (0 : Int) ≤ (v2 5) ∧ xE E 36 (v2 5) = (v2 7) := xXf hF 6 rfl
                            have f7 : (v2 7) = 119 := xXf hF 7 rfl
                            have f8 : (0 : Int) ≤ (v2 5 + 1) ∧ xE E 36 (v2 5 + 1) = (v2 8) := xXf hF 8 rfl
                            have f9 : (v2 8) = 111 := xXf hF 9 rfl
                            have f10 : (0 : Int) ≤ (v2 5 + 2) ∧ xE E 36 (v2 5 + 2) = (v2 9) := xXf hF 10 rfl
                            have f11 : (v2 9) = 114 := xXf hF 11 rfl
                            have f12 : (0 : Int) ≤ (v2 5 + 3) ∧ xE E 36 (v2 5 + 3) = (v2 10) := xXf hF 12 rfl
                            have f13 : ¬ (v2 10) = 100 := xXf hF 13 rfl
                            have hI : E = E0 := hInv
                            show xΨfwwo x0 E0 E2 0
                            subst hI
                            unfold xΨfwwo
                            rw [if_neg]
                            intro h
                            unfold sW at h
                            simp only [tWb, Bool.and_true, Bool.and_eq_true, decide_eq_true_eq, List.length_cons, List.length_nil] at h
                            rw [show xE E 35 5 = (v2 5) by omega] at h
                            simp only [Int.add_assoc, Int.reduceAdd] at h
                            omega
                          · skip
                            rcases List.mem_cons.mp hx with ex | hx
                            · subst ex
                              obtain ⟨hF, hBd, hM⟩ := hXs
                              have b0 : ((2147483650 : Nat) : Int) ≤ (v2 3) + 2147483648 ∧ (v2 3) + 2147483648 ≤ ((2147483650 : Nat) : Int) := xXb hBd 0 rfl
                              have b1 : ((2147483648 : Nat) : Int) ≤ (v2 4) + 2147483648 ∧ (v2 4) + 2147483648 ≤ ((2147484548 : Nat) : Int) := xXb hBd 1 rfl
                              have b2 : ((2147483648 : Nat) : Int) ≤ (v2 5) + 2147483648 ∧ (v2 5) + 2147483648 ≤ ((2147484544 : Nat) : Int) := xXb hBd 2 rfl
                              have b3 : ((2147483652 : Nat) : Int) ≤ (v2 6) + 2147483648 ∧ (v2 6) + 2147483648 ≤ ((2147483652 : Nat) : Int) := xXb hBd 3 rfl
                              have b4 : ((2147483767 : Nat) : Int) ≤ (v2 7) + 2147483648 ∧ (v2 7) + 2147483648 ≤ ((2147483767 : Nat) : Int) := xXb hBd 4 rfl
                              have b5 : ((2147483759 : Nat) : Int) ≤ (v2 8) + 2147483648 ∧ (v2 8) + 2147483648 ≤ ((2147483759 : Nat) : Int) := xXb hBd 5 rfl
                              have b6 : ((2147483762 : Nat) : Int) ≤ (v2 9) + 2147483648 ∧ (v2 9) + 2147483648 ≤ ((2147483762 : Nat) : Int) := xXb hBd 6 rfl
                              have b7 : ((2147483520 : Nat) : Int) ≤ (v2 10) + 2147483648 ∧ (v2 10) + 2147483648 ≤ ((2147483747 : Nat) : Int) := xXb hBd 7 rfl
                              have f0 : (0 : Int) ≤ 7 ∧ xE E 35 7 = (v2 3) := xXf hF 0 rfl
                              have f1 : (v2 3) = 2 := xXf hF 1 rfl
                              have f2 : (0 : Int) ≤ 6 ∧ xE E 35 6 = (v2 4) := xXf hF 2 rfl
                              have f3 : (0 : Int) ≤ 5 ∧ xE E 35 5 = (v2 5) := xXf hF 3 rfl
                              have f4 : -2147483648 ≤ (v2 4) - (v2 5) → (v2 4) - (v2 5) < 2147483648 → (v2 6) = (v2 4) - (v2 5) := xXf hF 4 rfl
                              have f4 := f4 (by omega) (by omega)
                              have f5 : (v2 6) = 4 := xXf hF 5 rfl
                              have f6 : (0 : Int) ≤ (v2 5) ∧ xE E 36 (v2 5) = (v2 7) := xXf hF 6 rfl
                              have f7 : (v2 7) = 119 := xXf hF 7 rfl
                              have f8 : (0 : Int) ≤ (v2 5 + 1) ∧ xE E 36 (v2 5 + 1) = (v2 8) := xXf hF 8 rfl
                              have f9 : (v2 8) = 111 := xXf hF 9 rfl
                              have f10 : (0 : Int) ≤ (v2 5 + 2) ∧ xE E 36 (v2 5 + 2) = (v2 9) := xXf hF 10 rfl
                              have f11 : (v2 9) = 114 := xXf hF 11 rfl
                              have f12 : (0 : Int) ≤ (v2 5 + 3) ∧ xE E 36 (v2 5 + 3) = (v2 10) := xXf hF 12 rfl
                              have f13 : ¬ (v2 10) = 100 := xXf hF 13 rfl
                              have hI : E = E0 := hInv
                              show xΨfwwo x0 E0 E2 0
                              subst hI
                              unfold xΨfwwo
                              rw [if_neg]
                              intro h
                              unfold sW at h
                              simp only [tWb, Bool.and_true, Bool.and_eq_true, decide_eq_true_eq, List.length_cons, List.length_nil] at h
                              rw [show xE E 35 5 = (v2 5) by omega] at h
                              simp only [Int.add_assoc, Int.reduceAdd] at h
                              omega
                            · skip
                              have ex := List.mem_singleton.mp hx
                              subst ex
                              obtain ⟨hF, hBd, hM⟩ := hXs
                              have b0 : ((2147483650 : Nat) : Int) ≤ (v2 3) + 2147483648 ∧ (v2 3) + 2147483648 ≤ ((2147483650 : Nat) : Int) := xXb hBd 0 rfl
                              have b1 : ((2147483648 : Nat) : Int) ≤ (v2 4) + 2147483648 ∧ (v2 4) + 2147483648 ≤ ((2147484548 : Nat) : Int) := xXb hBd 1 rfl
                              have b2 : ((2147483648 : Nat) : Int) ≤ (v2 5) + 2147483648 ∧ (v2 5) + 2147483648 ≤ ((2147484544 : Nat) : Int) := xXb hBd 2 rfl
                              have b3 : ((2147483652 : Nat) : Int) ≤ (v2 6) + 2147483648 ∧ (v2 6) + 2147483648 ≤ ((2147483652 : Nat) : Int) := xXb hBd 3 rfl
                              have b4 : ((2147483767 : Nat) : Int) ≤ (v2 7) + 2147483648 ∧ (v2 7) + 2147483648 ≤ ((2147483767 : Nat) : Int) := xXb hBd 4 rfl
                              have b5 : ((2147483759 : Nat) : Int) ≤ (v2 8) + 2147483648 ∧ (v2 8) + 2147483648 ≤ ((2147483759 : Nat) : Int) := xXb hBd 5 rfl
                              have b6 : ((2147483762 : Nat) : Int) ≤ (v2 9) + 2147483648 ∧ (v2 9) + 2147483648 ≤ ((2147483762 : Nat) : Int) := xXb hBd 6 rfl
                              have b7 : ((2147483748 : Nat) : Int) ≤ (v2 10) + 2147483648 ∧ (v2 10) + 2147483648 ≤ ((2147483748 : Nat) : Int) := xXb hBd 7 rfl
                              have f0 : (0 : Int) ≤ 7 ∧ xE E 35 7 = (v2 3) := xXf hF 0 rfl
                              have f1 : (v2 3) = 2 := xXf hF 1 rfl
                              have f2 : (0 : Int) ≤ 6 ∧ xE E 35 6 = (v2 4) := xXf hF 2 rfl
                              have f3 : (0 : Int) ≤ 5 ∧ xE E 35 5 = (v2 5) := xXf hF 3 rfl
                              have f4 : -2147483648 ≤ (v2 4) - (v2 5) → (v2 4) - (v2 5) < 2147483648 → (v2 6) = (v2 4) - (v2 5) := xXf hF 4 rfl
                              have f4 := f4 (by omega) (by omega)
                              have f5 : (v2 6) = 4 := xXf hF 5 rfl
                              have f6 : (0 : Int) ≤ (v2 5) ∧ xE E 36 (v2 5) = (v2 7) := xXf hF 6 rfl
                              have f7 : (v2 7) = 119 := xXf hF 7 rfl
                              have f8 : (0 : Int) ≤ (v2 5 + 1) ∧ xE E 36 (v2 5 + 1) = (v2 8) := xXf hF 8 rfl
                              have f9 : (v2 8) = 111 := xXf hF 9 rfl
                              have f10 : (0 : Int) ≤ (v2 5 + 2) ∧ xE E 36 (v2 5 + 2) = (v2 9) := xXf hF 10 rfl
                              have f11 : (v2 9) = 114 := xXf hF 11 rfl
                              have f12 : (0 : Int) ≤ (v2 5 + 3) ∧ xE E 36 (v2 5 + 3) = (v2 10) := xXf hF 12 rfl
                              have f13 : (v2 10) = 100 := xXf hF 13 rfl
                              have hI : E = E0 := hInv
                              show xΨfwwo x0 E0 E2 1
                              subst hI
                              unfold xΨfwwo
                              rw [if_pos]
                              unfold sW
                              simp only [tWb, Bool.and_true, Bool.and_eq_true, decide_eq_true_eq, List.length_cons, List.length_nil]
                              rw [show xE E 35 5 = (v2 5) by omega]
                              simp only [Int.add_assoc, Int.reduceAdd]
                              refine ⟨by omega, by omega, ?_⟩
                              refine ⟨by omega, by omega, by omega, by omega⟩
noncomputable def zxfwop_ar0 : zyXp := (0, [], [0], [(24, 103079215105, 35, 56), (23, 0, 103079215105, 16)], [(103079215105, 2147483651, 2147483653)], [])
noncomputable def zxfwop_ar1 : zyXp := (0, [], [0], [(24, 103079215105, 35, 56), (23, 0, 103079215105, 16)], [(103079215105, 2147483648, 2147483649)], [])
noncomputable def zxfwop_ar2 : zyXp := (0, [], [0], [(24, 103079215105, 35, 56), (22, 0, 103079215105, 16), (24, 137438953473, 35, 48), (24, 171798691841, 35, 40), (2, 206158430209, 137438953473, 171798691841), (23, 0, 206158430209, 32)], [(103079215105, 2147483650, 2147483650), (137438953473, 2147483648, 2147484548), (171798691841, 2147483648, 2147484548), (206158430209, 2147483653, 2147484548)], [])
noncomputable def zxfwop_ar3 : zyXp := (0, [], [0], [(24, 103079215105, 35, 56), (22, 0, 103079215105, 16), (24, 137438953473, 35, 48), (24, 171798691841, 35, 40), (2, 206158430209, 137438953473, 171798691841), (23, 0, 206158430209, 32)], [(103079215105, 2147483650, 2147483650), (137438953473, 2147483648, 2147484548), (171798691841, 2147483648, 2147484548), (206158430209, 2147482748, 2147483651)], [])
noncomputable def zxfwop_ar4 : zyXp := (0, [], [0], [(24, 103079215105, 35, 56), (22, 0, 103079215105, 16), (24, 137438953473, 35, 48), (24, 171798691841, 35, 40), (2, 206158430209, 137438953473, 171798691841), (22, 0, 206158430209, 32), (24, 240518168577, 36, 171798691841), (23, 0, 240518168577, 888)], [(103079215105, 2147483650, 2147483650), (137438953473, 2147483648, 2147484548), (171798691841, 2147483648, 2147484544), (206158430209, 2147483652, 2147483652), (240518168577, 2147483760, 2147483775)], [])
noncomputable def zxfwop_ar5 : zyXp := (0, [], [0], [(24, 103079215105, 35, 56), (22, 0, 103079215105, 16), (24, 137438953473, 35, 48), (24, 171798691841, 35, 40), (2, 206158430209, 137438953473, 171798691841), (22, 0, 206158430209, 32), (24, 240518168577, 36, 171798691841), (23, 0, 240518168577, 888)], [(103079215105, 2147483650, 2147483650), (137438953473, 2147483648, 2147484548), (171798691841, 2147483648, 2147484544), (206158430209, 2147483652, 2147483652), (240518168577, 2147483520, 2147483758)], [])
noncomputable def zxfwop_ar6 : zyXp := (0, [], [0], [(24, 103079215105, 35, 56), (22, 0, 103079215105, 16), (24, 137438953473, 35, 48), (24, 171798691841, 35, 40), (2, 206158430209, 137438953473, 171798691841), (22, 0, 206158430209, 32), (24, 240518168577, 36, 171798691841), (22, 0, 240518168577, 888), (24, 274877906945, 36, 171798691849), (23, 0, 274877906945, 896)], [(103079215105, 2147483650, 2147483650), (137438953473, 2147483648, 2147484548), (171798691841, 2147483648, 2147484544), (206158430209, 2147483652, 2147483652), (240518168577, 2147483759, 2147483759), (274877906945, 2147483761, 2147483775)], [])
noncomputable def zxfwop_ar7 : zyXp := (0, [], [0], [(24, 103079215105, 35, 56), (22, 0, 103079215105, 16), (24, 137438953473, 35, 48), (24, 171798691841, 35, 40), (2, 206158430209, 137438953473, 171798691841), (22, 0, 206158430209, 32), (24, 240518168577, 36, 171798691841), (22, 0, 240518168577, 888), (24, 274877906945, 36, 171798691849), (23, 0, 274877906945, 896)], [(103079215105, 2147483650, 2147483650), (137438953473, 2147483648, 2147484548), (171798691841, 2147483648, 2147484544), (206158430209, 2147483652, 2147483652), (240518168577, 2147483759, 2147483759), (274877906945, 2147483520, 2147483759)], [])
noncomputable def zxfwop_ar8 : zyXp := (0, [], [0], [(24, 103079215105, 35, 56), (22, 0, 103079215105, 16), (24, 137438953473, 35, 48), (24, 171798691841, 35, 40), (2, 206158430209, 137438953473, 171798691841), (22, 0, 206158430209, 32), (24, 240518168577, 36, 171798691841), (22, 0, 240518168577, 888), (24, 274877906945, 36, 171798691849), (22, 0, 274877906945, 896), (24, 309237645313, 36, 171798691857), (23, 0, 309237645313, 808)], [(103079215105, 2147483650, 2147483650), (137438953473, 2147483648, 2147484548), (171798691841, 2147483648, 2147484544), (206158430209, 2147483652, 2147483652), (240518168577, 2147483759, 2147483759), (274877906945, 2147483760, 2147483760), (309237645313, 2147483750, 2147483775)], [])
noncomputable def zxfwop_ar9 : zyXp := (0, [], [0], [(24, 103079215105, 35, 56), (22, 0, 103079215105, 16), (24, 137438953473, 35, 48), (24, 171798691841, 35, 40), (2, 206158430209, 137438953473, 171798691841), (22, 0, 206158430209, 32), (24, 240518168577, 36, 171798691841), (22, 0, 240518168577, 888), (24, 274877906945, 36, 171798691849), (22, 0, 274877906945, 896), (24, 309237645313, 36, 171798691857), (23, 0, 309237645313, 808)], [(103079215105, 2147483650, 2147483650), (137438953473, 2147483648, 2147484548), (171798691841, 2147483648, 2147484544), (206158430209, 2147483652, 2147483652), (240518168577, 2147483759, 2147483759), (274877906945, 2147483760, 2147483760), (309237645313, 2147483520, 2147483748)], [])
noncomputable def zxfwop_ar10 : zyXp := (0, [], [0], [(24, 103079215105, 35, 56), (22, 0, 103079215105, 16), (24, 137438953473, 35, 48), (24, 171798691841, 35, 40), (2, 206158430209, 137438953473, 171798691841), (22, 0, 206158430209, 32), (24, 240518168577, 36, 171798691841), (22, 0, 240518168577, 888), (24, 274877906945, 36, 171798691849), (22, 0, 274877906945, 896), (24, 309237645313, 36, 171798691857), (22, 0, 309237645313, 808), (24, 343597383681, 36, 171798691865), (23, 0, 343597383681, 880)], [(103079215105, 2147483650, 2147483650), (137438953473, 2147483648, 2147484548), (171798691841, 2147483648, 2147484544), (206158430209, 2147483652, 2147483652), (240518168577, 2147483759, 2147483759), (274877906945, 2147483760, 2147483760), (309237645313, 2147483749, 2147483749), (343597383681, 2147483759, 2147483775)], [])
noncomputable def zxfwop_ar11 : zyXp := (0, [], [0], [(24, 103079215105, 35, 56), (22, 0, 103079215105, 16), (24, 137438953473, 35, 48), (24, 171798691841, 35, 40), (2, 206158430209, 137438953473, 171798691841), (22, 0, 206158430209, 32), (24, 240518168577, 36, 171798691841), (22, 0, 240518168577, 888), (24, 274877906945, 36, 171798691849), (22, 0, 274877906945, 896), (24, 309237645313, 36, 171798691857), (22, 0, 309237645313, 808), (24, 343597383681, 36, 171798691865), (23, 0, 343597383681, 880)], [(103079215105, 2147483650, 2147483650), (137438953473, 2147483648, 2147484548), (171798691841, 2147483648, 2147484544), (206158430209, 2147483652, 2147483652), (240518168577, 2147483759, 2147483759), (274877906945, 2147483760, 2147483760), (309237645313, 2147483749, 2147483749), (343597383681, 2147483520, 2147483757)], [])
noncomputable def zxfwop_ar12 : zyXp := (0, [], [8], [(24, 103079215105, 35, 56), (22, 0, 103079215105, 16), (24, 137438953473, 35, 48), (24, 171798691841, 35, 40), (2, 206158430209, 137438953473, 171798691841), (22, 0, 206158430209, 32), (24, 240518168577, 36, 171798691841), (22, 0, 240518168577, 888), (24, 274877906945, 36, 171798691849), (22, 0, 274877906945, 896), (24, 309237645313, 36, 171798691857), (22, 0, 309237645313, 808), (24, 343597383681, 36, 171798691865), (22, 0, 343597383681, 880)], [(103079215105, 2147483650, 2147483650), (137438953473, 2147483648, 2147484548), (171798691841, 2147483648, 2147484544), (206158430209, 2147483652, 2147483652), (240518168577, 2147483759, 2147483759), (274877906945, 2147483760, 2147483760), (309237645313, 2147483749, 2147483749), (343597383681, 2147483758, 2147483758)], [])
noncomputable def zpfwop_a : zyPh := (0, [283, 800035, 13], [(0, 4294967295), (0, 4294967295), (0, 4294967295)], [], [])
noncomputable def zpfwop (i : Nat) : zyPh := zpfwop_a
noncomputable def zXfwop (i : Nat) : List zyXp := []
noncomputable def zRfwop (i : Nat) : List zyXp := [zxfwop_ar0, zxfwop_ar1, zxfwop_ar2, zxfwop_ar3, zxfwop_ar4, zxfwop_ar5, zxfwop_ar6, zxfwop_ar7, zxfwop_ar8, zxfwop_ar9, zxfwop_ar10, zxfwop_ar11, zxfwop_ar12]
noncomputable def zFfwop (i : Nat) : zyR := []
noncomputable def zSfwop (i : Nat) : Nat := 0
def xΨfwop (_ : Nat → Int) (E E2 : zyEm) (r : Int) : Prop := r = if sW (xE E 36) (xE E 35 7) (xE E 35 5) (xE E 35 6) [111, 112, 101, 110] = true then 1 else 0
noncomputable def fpfwop : zyR := []
theorem zyfwop_run : zyrS zymc zxi72 (72, 0, 0, 2, 0) 6 zpfwop (fun _ _ => []) zFfwop zSfwop zXfwop zRfwop 1 = true := by decide +kernel
theorem zyfwop_ck : zyAll (fun i => xsubR (zFfwop i) fpfwop && ((zXfwop i).all xckX && (zRfwop i).all (fun x => xckX x && xrtB true x))) 1 = true := by decide +kernel
def xIfwop (i : Nat) (x0 : Nat → Int) (E0 : zyEm) (v : Nat → Int) (E : zyEm) : Prop := (E = E0)
def xMfwop (i : Nat) (x0 : Nat → Int) (E0 : zyEm) (v : Nat → Int) (E : zyEm) : Nat := (0)
theorem xWopen {l : Launch} {en : zEn} {me : zMe} (hen : zG zxMeta 72 = some en) (hme : zG zMeth 72 = some me) : xFc l zymc en me 6 [35, 100004] 0 fpfwop true xΦ0 xΨfwop := by
  have een : zG zxMeta 72 = some (zxi72, 2, 3, 5, 72, 0, 0, 2, 0) := rfl
  obtain ⟨me1, hme1, hOK⟩ := zall hen
  rw [hme] at hme1
  cases hme1
  rw [een] at hen
  cases hen
  have hr := zyfwop_run
  have hck := fun i hi => zyAll_iff zyfwop_ck i hi
  simp only [Bool.and_eq_true] at hck
  intro B
  refine xcut (mi := zymc) (B := B) hOK rfl rfl (ι := Fin 1) (fun i => zpfwop i.val) (fun _ _ => []) (fun i => zFfwop i.val) (fun i => zSfwop i.val) (fun i => zXfwop i.val) (fun i => zRfwop i.val) (fun i y2 ct en2 me2 h => by cases h) 200000 (fun i => zyAll_iff hr i.val i.isLt) (fun i => (hck i.val i.isLt).1) (fun i => (hck i.val i.isLt).2.1) (fun i => (hck i.val i.isLt).2.2) ⟨0, by decide⟩ ⟨rfl, rfl, rfl, rfl⟩ ⟨by decide, by decide⟩ (fun i x0 E0 v E => xIfwop i.val x0 E0 v E) (fun i x0 E0 v E => xMfwop i.val x0 E0 v E) ?_ ?_ ?_
  · intro x0 E hx0 hT hΦ
    have hΦ : xΦ0 x0 E := hΦ
    refine ⟨fun k p hp => ?_, ?_⟩
    · have hk : k < 3 := (List.getElem?_eq_some_iff.mp hp).1
      have hk : k = 0 ∨ k = 1 ∨ k = 2 := by omega
      rcases hk with rfl | rfl | rfl
      · have hp : some (0, 4294967295) = some p := hp
        cases hp
        show ((0 : Nat) : Int) ≤ 0 + 2147483648 ∧ 0 + 2147483648 ≤ ((4294967295 : Nat) : Int)
        omega
      · have hp : some (0, 4294967295) = some p := hp
        cases hp
        show ((0 : Nat) : Int) ≤ 0 + 2147483648 ∧ 0 + 2147483648 ≤ ((4294967295 : Nat) : Int)
        omega
      · have hp : some (0, 4294967295) = some p := hp
        cases hp
        show ((0 : Nat) : Int) ≤ x0 0 + 2147483648 ∧ x0 0 + 2147483648 ≤ ((4294967295 : Nat) : Int)
        have hx := hx0 0
        omega
    · show E = E
      rfl
  · intro x0 s Wg hRu hrx hT0 hΦ i v H hT hrv hInv hKc hFr0 hIH x hx ρ2 v2 N2 H2 locs lsB stA hAt hB hv hr2 hXs hag hfr hFr hT2
    rcases i with ⟨i, hi⟩
    have hi2 : i = 0 := by omega
    rcases hi2 with rfl
    · cases hx
  · intro x0 E0 E E2 hrx hT0 hΦ i v hT hrv hInv hKc hFr0 x hx v2 hr2 hXs hag hfr hFr hT2
    rcases i with ⟨i, hi⟩
    have hi2 : i = 0 := by omega
    rcases hi2 with rfl
    · have hx : x ∈ [zxfwop_ar0, zxfwop_ar1, zxfwop_ar2, zxfwop_ar3, zxfwop_ar4, zxfwop_ar5, zxfwop_ar6, zxfwop_ar7, zxfwop_ar8, zxfwop_ar9, zxfwop_ar10, zxfwop_ar11, zxfwop_ar12] := hx
      have hag : ∀ k, k < 3 → v2 k = v k := hag
      have hfr : xFr [] _ _ := hfr
      rcases List.mem_cons.mp hx with ex | hx
      · subst ex
        obtain ⟨hF, hBd, hM⟩ := hXs
        have b0 : ((2147483651 : Nat) : Int) ≤ (v2 3) + 2147483648 ∧ (v2 3) + 2147483648 ≤ ((2147483653 : Nat) : Int) := xXb hBd 0 rfl
        have f0 : (0 : Int) ≤ 7 ∧ xE E 35 7 = (v2 3) := xXf hF 0 rfl
        have f1 : ¬ (v2 3) = 2 := xXf hF 1 rfl
        have hI : E = E0 := hInv
        show xΨfwop x0 E0 E2 0
        subst hI
        unfold xΨfwop
        rw [if_neg]
        intro h
        unfold sW at h
        simp only [tWb, Bool.and_true, Bool.and_eq_true, decide_eq_true_eq, List.length_cons, List.length_nil] at h
        omega
      · skip
        rcases List.mem_cons.mp hx with ex | hx
        · subst ex
          obtain ⟨hF, hBd, hM⟩ := hXs
          have b0 : ((2147483648 : Nat) : Int) ≤ (v2 3) + 2147483648 ∧ (v2 3) + 2147483648 ≤ ((2147483649 : Nat) : Int) := xXb hBd 0 rfl
          have f0 : (0 : Int) ≤ 7 ∧ xE E 35 7 = (v2 3) := xXf hF 0 rfl
          have f1 : ¬ (v2 3) = 2 := xXf hF 1 rfl
          have hI : E = E0 := hInv
          show xΨfwop x0 E0 E2 0
          subst hI
          unfold xΨfwop
          rw [if_neg]
          intro h
          unfold sW at h
          simp only [tWb, Bool.and_true, Bool.and_eq_true, decide_eq_true_eq, List.length_cons, List.length_nil] at h
          omega
        · skip
          rcases List.mem_cons.mp hx with ex | hx
          · subst ex
            obtain ⟨hF, hBd, hM⟩ := hXs
            have b0 : ((2147483650 : Nat) : Int) ≤ (v2 3) + 2147483648 ∧ (v2 3) + 2147483648 ≤ ((2147483650 : Nat) : Int) := xXb hBd 0 rfl
            have b1 : ((2147483648 : Nat) : Int) ≤ (v2 4) + 2147483648 ∧ (v2 4) + 2147483648 ≤ ((2147484548 : Nat) : Int) := xXb hBd 1 rfl
            have b2 : ((2147483648 : Nat) : Int) ≤ (v2 5) + 2147483648 ∧ (v2 5) + 2147483648 ≤ ((2147484548 : Nat) : Int) := xXb hBd 2 rfl
            have b3 : ((2147483653 : Nat) : Int) ≤ (v2 6) + 2147483648 ∧ (v2 6) + 2147483648 ≤ ((2147484548 : Nat) : Int) := xXb hBd 3 rfl
            have f0 : (0 : Int) ≤ 7 ∧ xE E 35 7 = (v2 3) := xXf hF 0 rfl
            have f1 : (v2 3) = 2 := xXf hF 1 rfl
            have f2 : (0 : Int) ≤ 6 ∧ xE E 35 6 = (v2 4) := xXf hF 2 rfl
            have f3 : (0 : Int) ≤ 5 ∧ xE E 35 5 = (v2 5) := xXf hF 3 rfl
            have f4 : -2147483648 ≤ (v2 4) - (v2 5) → (v2 4) - (v2 5) < 2147483648 → (v2 6) = (v2 4) - (v2 5) := xXf hF 4 rfl
            have f4 := f4 (by omega) (by omega)
            have f5 : ¬ (v2 6) = 4 := xXf hF 5 rfl
            have hI : E = E0 := hInv
            show xΨfwop x0 E0 E2 0
            subst hI
            unfold xΨfwop
            rw [if_neg]
            intro h
            unfold sW at h
            simp only [tWb, Bool.and_true, Bool.and_eq_true, decide_eq_true_eq, List.length_cons, List.length_nil] at h
            rw [show xE E 35 5 = (v2 5) by omega] at h
            simp only [Int.add_assoc, Int.reduceAdd] at h
            omega
          · skip
            rcases List.mem_cons.mp hx with ex | hx
            · subst ex
              obtain ⟨hF, hBd, hM⟩ := hXs
              have b0 : ((2147483650 : Nat) : Int) ≤ (v2 3) + 2147483648 ∧ (v2 3) + 2147483648 ≤ ((2147483650 : Nat) : Int) := xXb hBd 0 rfl
              have b1 : ((2147483648 : Nat) : Int) ≤ (v2 4) + 2147483648 ∧ (v2 4) + 2147483648 ≤ ((2147484548 : Nat) : Int) := xXb hBd 1 rfl
              have b2 : ((2147483648 : Nat) : Int) ≤ (v2 5) + 2147483648 ∧ (v2 5) + 2147483648 ≤ ((2147484548 : Nat) : Int) := xXb hBd 2 rfl
              have b3 : ((2147482748 : Nat) : Int) ≤ (v2 6) + 2147483648 ∧ (v2 6) + 2147483648 ≤ ((2147483651 : Nat) : Int) := xXb hBd 3 rfl
              have f0 : (0 : Int) ≤ 7 ∧ xE E 35 7 = (v2 3) := xXf hF 0 rfl
              have f1 : (v2 3) = 2 := xXf hF 1 rfl
              have f2 : (0 : Int) ≤ 6 ∧ xE E 35 6 = (v2 4) := xXf hF 2 rfl
              have f3 : (0 : Int) ≤ 5 ∧ xE E 35 5 = (v2 5) := xXf hF 3 rfl
              have f4 : -2147483648 ≤ (v2 4) - (v2 5) → (v2 4) - (v2 5) < 2147483648 → (v2 6) = (v2 4) - (v2 5) := xXf hF 4 rfl
              have f4 := f4 (by omega) (by omega)
              have f5 : ¬ (v2 6) = 4 := xXf hF 5 rfl
              have hI : E = E0 := hInv
              show xΨfwop x0 E0 E2 0
              subst hI
              unfold xΨfwop
              rw [if_neg]
              intro h
              unfold sW at h
              simp only [tWb, Bool.and_true, Bool.and_eq_true, decide_eq_true_eq, List.length_cons, List.length_nil] at h
              rw [show xE E 35 5 = (v2 5) by omega] at h
              simp only [Int.add_assoc, Int.reduceAdd] at h
              omega
            · skip
              rcases List.mem_cons.mp hx with ex | hx
              · subst ex
                obtain ⟨hF, hBd, hM⟩ := hXs
                have b0 : ((2147483650 : Nat) : Int) ≤ (v2 3) + 2147483648 ∧ (v2 3) + 2147483648 ≤ ((2147483650 : Nat) : Int) := xXb hBd 0 rfl
                have b1 : ((2147483648 : Nat) : Int) ≤ (v2 4) + 2147483648 ∧ (v2 4) + 2147483648 ≤ ((2147484548 : Nat) : Int) := xXb hBd 1 rfl
                have b2 : ((2147483648 : Nat) : Int) ≤ (v2 5) + 2147483648 ∧ (v2 5) + 2147483648 ≤ ((2147484544 : Nat) : Int) := xXb hBd 2 rfl
                have b3 : ((2147483652 : Nat) : Int) ≤ (v2 6) + 2147483648 ∧ (v2 6) + 2147483648 ≤ ((2147483652 : Nat) : Int) := xXb hBd 3 rfl
                have b4 : ((2147483760 : Nat) : Int) ≤ (v2 7) + 2147483648 ∧ (v2 7) + 2147483648 ≤ ((2147483775 : Nat) : Int) := xXb hBd 4 rfl
                have f0 : (0 : Int) ≤ 7 ∧ xE E 35 7 = (v2 3) := xXf hF 0 rfl
                have f1 : (v2 3) = 2 := xXf hF 1 rfl
                have f2 : (0 : Int) ≤ 6 ∧ xE E 35 6 = (v2 4) := xXf hF 2 rfl
                have f3 : (0 : Int) ≤ 5 ∧ xE E 35 5 = (v2 5) := xXf hF 3 rfl
                have f4 : -2147483648 ≤ (v2 4) - (v2 5) → (v2 4) - (v2 5) < 2147483648 → (v2 6) = (v2 4) - (v2 5) := xXf hF 4 rfl
                have f4 := f4 (by omega) (by omega)
                have f5 : (v2 6) = 4 := xXf hF 5 rfl
                have f6 : (0 : Int) ≤ (v2 5) ∧ xE E 36 (v2 5) = (v2 7) := xXf hF 6 rfl
                have f7 : ¬ (v2 7) = 111 := xXf hF 7 rfl
                have hI : E = E0 := hInv
                show xΨfwop x0 E0 E2 0
                subst hI
                unfold xΨfwop
                rw [if_neg]
                intro h
                unfold sW at h
                simp only [tWb, Bool.and_true, Bool.and_eq_true, decide_eq_true_eq, List.length_cons, List.length_nil] at h
                rw [show xE E 35 5 = (v2 5) by omega] at h
                simp only [Int.add_assoc, Int.reduceAdd] at h
                omega
              · skip
                rcases List.mem_cons.mp hx with ex | hx
                · subst ex
                  obtain ⟨hF, hBd, hM⟩ := hXs
                  have b0 : ((2147483650 : Nat) : Int) ≤ (v2 3) + 2147483648 ∧ (v2 3) + 2147483648 ≤ ((2147483650 : Nat) : Int) := xXb hBd 0 rfl
                  have b1 : ((2147483648 : Nat) : Int) ≤ (v2 4) + 2147483648 ∧ (v2 4) + 2147483648 ≤ ((2147484548 : Nat) : Int) := xXb hBd 1 rfl
                  have b2 : ((2147483648 : Nat) : Int) ≤ (v2 5) + 2147483648 ∧ (v2 5) + 2147483648 ≤ ((2147484544 : Nat) : Int) := xXb hBd 2 rfl
                  have b3 : ((2147483652 : Nat) : Int) ≤ (v2 6) + 2147483648 ∧ (v2 6) + 2147483648 ≤ ((2147483652 : Nat) : Int) := xXb hBd 3 rfl
                  have b4 : ((2147483520 : Nat) : Int) ≤ (v2 7) + 2147483648 ∧ (v2 7) + 2147483648 ≤ ((2147483758 : Nat) : Int) := xXb hBd 4 rfl
                  have f0 : (0 : Int) ≤ 7 ∧ xE E 35 7 = (v2 3) := xXf hF 0 rfl
                  have f1 : (v2 3) = 2 := xXf hF 1 rfl
                  have f2 : (0 : Int) ≤ 6 ∧ xE E 35 6 = (v2 4) := xXf hF 2 rfl
                  have f3 : (0 : Int) ≤ 5 ∧ xE E 35 5 = (v2 5) := xXf hF 3 rfl
                  have f4 : -2147483648 ≤ (v2 4) - (v2 5) → (v2 4) - (v2 5) < 2147483648 → (v2 6) = (v2 4) - (v2 5) := xXf hF 4 rfl
                  have f4 := f4 (by omega) (by omega)
                  have f5 : (v2 6) = 4 := xXf hF 5 rfl
                  have f6 : (0 : Int) ≤ (v2 5) ∧ xE E 36 (v2 5) = (v2 7) := xXf hF 6 rfl
                  have f7 : ¬ (v2 7) = 111 := xXf hF 7 rfl
                  have hI : E = E0 := hInv
                  show xΨfwop x0 E0 E2 0
                  subst hI
                  unfold xΨfwop
                  rw [if_neg]
                  intro h
                  unfold sW at h
                  simp only [tWb, Bool.and_true, Bool.and_eq_true, decide_eq_true_eq, List.length_cons, List.length_nil] at h
                  rw [show xE E 35 5 = (v2 5) by omega] at h
                  simp only [Int.add_assoc, Int.reduceAdd] at h
                  omega
                · skip
                  rcases List.mem_cons.mp hx with ex | hx
                  · subst ex
                    obtain ⟨hF, hBd, hM⟩ := hXs
                    have b0 : ((2147483650 : Nat) : Int) ≤ (v2 3) + 2147483648 ∧ (v2 3) + 2147483648 ≤ ((2147483650 : Nat) : Int) := xXb hBd 0 rfl
                    have b1 : ((2147483648 : Nat) : Int) ≤ (v2 4) + 2147483648 ∧ (v2 4) + 2147483648 ≤ ((2147484548 : Nat) : Int) := xXb hBd 1 rfl
                    have b2 : ((2147483648 : Nat) : Int) ≤ (v2 5) + 2147483648 ∧ (v2 5) + 2147483648 ≤ ((2147484544 : Nat) : Int) := xXb hBd 2 rfl
                    have b3 : ((2147483652 : Nat) : Int) ≤ (v2 6) + 2147483648 ∧ (v2 6) + 2147483648 ≤ ((2147483652 : Nat) : Int) := xXb hBd 3 rfl
                    have b4 : ((2147483759 : Nat) : Int) ≤ (v2 7) + 2147483648 ∧ (v2 7) + 2147483648 ≤ ((2147483759 : Nat) : Int) := xXb hBd 4 rfl
                    have b5 : ((2147483761 : Nat) : Int) ≤ (v2 8) + 2147483648 ∧ (v2 8) + 2147483648 ≤ ((2147483775 : Nat) : Int) := xXb hBd 5 rfl
                    have f0 : (0 : Int) ≤ 7 ∧ xE E 35 7 = (v2 3) := xXf hF 0 rfl
                    have f1 : (v2 3) = 2 := xXf hF 1 rfl
                    have f2 : (0 : Int) ≤ 6 ∧ xE E 35 6 = (v2 4) := xXf hF 2 rfl
                    have f3 : (0 : Int) ≤ 5 ∧ xE E 35 5 = (v2 5) := xXf hF 3 rfl
                    have f4 : -2147483648 ≤ (v2 4) - (v2 5) → (v2 4) - (v2 5) < 2147483648 → (v2 6) = (v2 4) - (v2 5) := xXf hF 4 rfl
                    have f4 := f4 (by omega) (by omega)
                    have f5 : (v2 6) = 4 := xXf hF 5 rfl
                    have f6 : (0 : Int) ≤ (v2 5) ∧ xE E 36 (v2 5) = (v2 7) := xXf hF 6 rfl
                    have f7 : (v2 7) = 111 := xXf hF 7 rfl
                    have f8 : (0 : Int) ≤ (v2 5 + 1) ∧ xE E 36 (v2 5 + 1) = (v2 8) := xXf hF 8 rfl
                    have f9 : ¬ (v2 8) = 112 := xXf hF 9 rfl
                    have hI : E = E0 := hInv
                    show xΨfwop x0 E0 E2 0
                    subst hI
                    unfold xΨfwop
                    rw [if_neg]
                    intro h
                    unfold sW at h
                    simp only [tWb, Bool.and_true, Bool.and_eq_true, decide_eq_true_eq, List.length_cons, List.length_nil] at h
                    rw [show xE E 35 5 = (v2 5) by omega] at h
                    simp only [Int.add_assoc, Int.reduceAdd] at h
                    omega
                  · skip
                    rcases List.mem_cons.mp hx with ex | hx
                    · subst ex
                      obtain ⟨hF, hBd, hM⟩ := hXs
                      have b0 : ((2147483650 : Nat) : Int) ≤ (v2 3) + 2147483648 ∧ (v2 3) + 2147483648 ≤ ((2147483650 : Nat) : Int) := xXb hBd 0 rfl
                      have b1 : ((2147483648 : Nat) : Int) ≤ (v2 4) + 2147483648 ∧ (v2 4) + 2147483648 ≤ ((2147484548 : Nat) : Int) := xXb hBd 1 rfl
                      have b2 : ((2147483648 : Nat) : Int) ≤ (v2 5) + 2147483648 ∧ (v2 5) + 2147483648 ≤ ((2147484544 : Nat) : Int) := xXb hBd 2 rfl
                      have b3 : ((2147483652 : Nat) : Int) ≤ (v2 6) + 2147483648 ∧ (v2 6) + 2147483648 ≤ ((2147483652 : Nat) : Int) := xXb hBd 3 rfl
                      have b4 : ((2147483759 : Nat) : Int) ≤ (v2 7) + 2147483648 ∧ (v2 7) + 2147483648 ≤ ((2147483759 : Nat) : Int) := xXb hBd 4 rfl
                      have b5 : ((2147483520 : Nat) : Int) ≤ (v2 8) + 2147483648 ∧ (v2 8) + 2147483648 ≤ ((2147483759 : Nat) : Int) := xXb hBd 5 rfl
                      have f0 : (0 : Int) ≤ 7 ∧ xE E 35 7 = (v2 3) := xXf hF 0 rfl
                      have f1 : (v2 3) = 2 := xXf hF 1 rfl
                      have f2 : (0 : Int) ≤ 6 ∧ xE E 35 6 = (v2 4) := xXf hF 2 rfl
                      have f3 : (0 : Int) ≤ 5 ∧ xE E 35 5 = (v2 5) := xXf hF 3 rfl
                      have f4 : -2147483648 ≤ (v2 4) - (v2 5) → (v2 4) - (v2 5) < 2147483648 → (v2 6) = (v2 4) - (v2 5) := xXf hF 4 rfl
                      have f4 := f4 (by omega) (by omega)
                      have f5 : (v2 6) = 4 := xXf hF 5 rfl
                      have f6 : (0 : Int) ≤ (v2 5) ∧ xE E 36 (v2 5) = (v2 7) := xXf hF 6 rfl
                      have f7 : (v2 7) = 111 := xXf hF 7 rfl
                      have f8 : (0 : Int) ≤ (v2 5 + 1) ∧ xE E 36 (v2 5 + 1) = (v2 8) := xXf hF 8 rfl
                      have f9 : ¬ (v2 8) = 112 := xXf hF 9 rfl
                      have hI : E = E0 := hInv
                      show xΨfwop x0 E0 E2 0
                      subst hI
                      unfold xΨfwop
                      rw [if_neg]
                      intro h
                      unfold sW at h
                      simp only [tWb, Bool.and_true, Bool.and_eq_true, decide_eq_true_eq, List.length_cons, List.length_nil] at h
                      rw [show xE E 35 5 = (v2 5) by omega] at h
                      simp only [Int.add_assoc, Int.reduceAdd] at h
                      omega
                    · skip
                      rcases List.mem_cons.mp hx with ex | hx
                      · subst ex
                        obtain ⟨hF, hBd, hM⟩ := hXs
                        have b0 : ((2147483650 : Nat) : Int) ≤ (v2 3) + 2147483648 ∧ (v2 3) + 2147483648 ≤ ((2147483650 : Nat) : Int) := xXb hBd 0 rfl
                        have b1 : ((2147483648 : Nat) : Int) ≤ (v2 4) + 2147483648 ∧ (v2 4) + 2147483648 ≤ ((2147484548 : Nat) : Int) := xXb hBd 1 rfl
                        have b2 : ((2147483648 : Nat) : Int) ≤ (v2 5) + 2147483648 ∧ (v2 5) + 2147483648 ≤ ((2147484544 : Nat) : Int) := xXb hBd 2 rfl
                        have b3 : ((2147483652 : Nat) : Int) ≤ (v2 6) + 2147483648 ∧ (v2 6) + 2147483648 ≤ ((2147483652 : Nat) : Int) := xXb hBd 3 rfl
                        have b4 : ((2147483759 : Nat) : Int) ≤ (v2 7) + 2147483648 ∧ (v2 7) + 2147483648 ≤ ((2147483759 : Nat) : Int) := xXb hBd 4 rfl
                        have b5 : ((2147483760 : Nat) : Int) ≤ (v2 8) + 2147483648 ∧ (v2 8) + 2147483648 ≤ ((2147483760 : Nat) : Int) := xXb hBd 5 rfl
                        have b6 : ((2147483750 : Nat) : Int) ≤ (v2 9) + 2147483648 ∧ (v2 9) + 2147483648 ≤ ((2147483775 : Nat) : Int) := xXb hBd 6 rfl
                        have f0 : (0 : Int) ≤ 7 ∧ xE E 35 7 = (v2 3) := xXf hF 0 rfl
                        have f1 : (v2 3) = 2 := xXf hF 1 rfl
                        have f2 : (0 : Int) ≤ 6 ∧ xE E 35 6 = (v2 4) := xXf hF 2 rfl
                        have f3 : (0 : Int) ≤ 5 ∧ xE E 35 5 = (v2 5) := xXf hF 3 rfl
                        have f4 : -2147483648 ≤ (v2 4) - (v2 5) → (v2 4) - (v2 5) < 2147483648 → (v2 6) = (v2 4) - (v2 5) := xXf hF 4 rfl
                        have f4 := f4 (by omega) (by omega)
                        have f5 : (v2 6) = 4 := xXf hF 5 rfl
                        have f6 : (0 : Int) ≤ (v2 5) ∧ xE E 36 (v2 5) = (v2 7) := xXf hF 6 rfl
                        have f7 : (v2 7) = 111 := xXf hF 7 rfl
                        have f8 : (0 : Int) ≤ (v2 5 + 1) ∧ xE E 36 (v2 5 + 1) = (v2 8) := xXf hF 8 rfl
                        have f9 : (v2 8) = 112 := xXf hF 9 rfl
                        have f10 : (0 : Int) ≤ (v2 5 + 2) ∧ xE E 36 (v2 5 + 2) = (v2 9) := xXf hF 10 rfl
                        have f11 : ¬ (v2 9) = 101 := xXf hF 11 rfl
                        have hI : E = E0 := hInv
                        show xΨfwop x0 E0 E2 0
                        subst hI
                        unfold xΨfwop
                        rw [if_neg]
                        intro h
                        unfold sW at h
                        simp only [tWb, Bool.and_true, Bool.and_eq_true, decide_eq_true_eq, List.length_cons, List.length_nil] at h
                        rw [show xE E 35 5 = (v2 5) by omega] at h
                        simp only [Int.add_assoc, Int.reduceAdd] at h
                        omega
                      · skip
                        rcases List.mem_cons.mp hx with ex | hx
                        · subst ex
                          obtain ⟨hF, hBd, hM⟩ := hXs
                          have b0 : ((2147483650 : Nat) : Int) ≤ (v2 3) + 2147483648 ∧ (v2 3) + 2147483648 ≤ ((2147483650 : Nat) : Int) := xXb hBd 0 rfl
                          have b1 : ((2147483648 : Nat) : Int) ≤ (v2 4) + 2147483648 ∧ (v2 4) + 2147483648 ≤ ((2147484548 : Nat) : Int) := xXb hBd 1 rfl
                          have b2 : ((2147483648 : Nat) : Int) ≤ (v2 5) + 2147483648 ∧ (v2 5) + 2147483648 ≤ ((2147484544 : Nat) : Int) := xXb hBd 2 rfl
                          have b3 : ((2147483652 : Nat) : Int) ≤ (v2 6) + 2147483648 ∧ (v2 6) + 2147483648 ≤ ((2147483652 : Nat) : Int) := xXb hBd 3 rfl
                          have b4 : ((2147483759 : Nat) : Int) ≤ (v2 7) + 2147483648 ∧ (v2 7) + 2147483648 ≤ ((2147483759 : Nat) : Int) := xXb hBd 4 rfl
                          have b5 : ((2147483760 : Nat) : Int) ≤ (v2 8) + 2147483648 ∧ (v2 8) + 2147483648 ≤ ((2147483760 : Nat) : Int) := xXb hBd 5 rfl
                          have b6 : ((2147483520 : Nat) : Int) ≤ (v2 9) + 2147483648 ∧ (v2 9) + 2147483648 ≤ ((2147483748 : Nat) : Int) := xXb hBd 6 rfl
                          have f0 : (0 : Int) ≤ 7 ∧ xE E 35 7 = (v2 3) := xXf hF 0 rfl
                          have f1 : (v2 3) = 2 := xXf hF 1 rfl
                          have f2 : (0 : Int) ≤ 6 ∧ xE E 35 6 = (v2 4) := xXf hF 2 rfl
                          have f3 : (0 : Int) ≤ 5 ∧ xE E 35 5 = (v2 5) := xXf hF 3 rfl
                          have f4 : -2147483648 ≤ (v2 4) - (v2 5) → (v2 4) - (v2 5) < 2147483648 → (v2 6) = (v2 4) - (v2 5) := xXf hF 4 rfl
                          have f4 := f4 (by omega) (by omega)
                          have f5 : (v2 6) = 4 := xXf hF 5 rfl
                          have f6 : (0 : Int) ≤ (v2 5) ∧ xE E 36 (v2 5) = (v2 7) := xXf hF 6 rfl
                          have f7 : (v2 7) = 111 := xXf hF 7 rfl
                          have f8 : (0 : Int) ≤ (v2 5 + 1) ∧ xE E 36 (v2 5 + 1) = (v2 8) := xXf hF 8 rfl
                          have f9 : (v2 8) = 112 := xXf hF 9 rfl
                          have f10 : (0 : Int) ≤ (v2 5 + 2) ∧ xE E 36 (v2 5 + 2) = (v2 9) := xXf hF 10 rfl
                          have f11 : ¬ (v2 9) = 101 := xXf hF 11 rfl
                          have hI : E = E0 := hInv
                          show xΨfwop x0 E0 E2 0
                          subst hI
                          unfold xΨfwop
                          rw [if_neg]
                          intro h
                          unfold sW at h
                          simp only [tWb, Bool.and_true, Bool.and_eq_true, decide_eq_true_eq, List.length_cons, List.length_nil] at h
                          rw [show xE E 35 5 = (v2 5) by omega] at h
                          simp only [Int.add_assoc, Int.reduceAdd] at h
                          omega
                        · skip
                          rcases List.mem_cons.mp hx with ex | hx
                          · subst ex
                            obtain ⟨hF, hBd, hM⟩ := hXs
                            have b0 : ((2147483650 : Nat) : Int) ≤ (v2 3) + 2147483648 ∧ (v2 3) + 2147483648 ≤ ((2147483650 : Nat) : Int) := xXb hBd 0 rfl
                            have b1 : ((2147483648 : Nat) : Int) ≤ (v2 4) + 2147483648 ∧ (v2 4) + 2147483648 ≤ ((2147484548 : Nat) : Int) := xXb hBd 1 rfl
                            have b2 : ((2147483648 : Nat) : Int) ≤ (v2 5) + 2147483648 ∧ (v2 5) + 2147483648 ≤ ((2147484544 : Nat) : Int) := xXb hBd 2 rfl
                            have b3 : ((2147483652 : Nat) : Int) ≤ (v2 6) + 2147483648 ∧ (v2 6) + 2147483648 ≤ ((2147483652 : Nat) : Int) := xXb hBd 3 rfl
                            have b4 : ((2147483759 : Nat) : Int) ≤ (v2 7) + 2147483648 ∧ (v2 7) + 2147483648 ≤ ((2147483759 : Nat) : Int) := xXb hBd 4 rfl
                            have b5 : ((2147483760 : Nat) : Int) ≤ (v2 8) + 2147483648 ∧ (v2 8) + 2147483648 ≤ ((2147483760 : Nat) : Int) := xXb hBd 5 rfl
                            have b6 : ((2147483749 : Nat) : Int) ≤ (v2 9) + 2147483648 ∧ (v2 9) + 2147483648 ≤ ((2147483749 : Nat) : Int) := xXb hBd 6 rfl
                            have b7 : ((2147483759 : Nat) : Int) ≤ (v2 10) + 2147483648 ∧ (v2 10) + 2147483648 ≤ ((2147483775 : Nat) : Int) := xXb hBd 7 rfl
                            have f0 : (0 : Int) ≤ 7 ∧ xE E 35 7 = (v2 3) := xXf hF 0 rfl
                            have f1 : (v2 3) = 2 := xXf hF 1 rfl
                            have f2 : (0 : Int) ≤ 6 ∧ xE E 35 6 = (v2 4) := xXf hF 2 rfl
                            have f3 : (0 : Int) ≤ 5 ∧ xE E 35 5 = (v2 5) := xXf hF 3 rfl
                            have f4 : -2147483648 ≤ (v2 4) - (v2 5) → (v2 4) - (v2 5) < 2147483648 → (v2 6) = (v2 4) - (v2 5) := xXf hF 4 rfl
                            have f4 := f4 (by omega) (by omega)
                            have f5 : (v2 6) = 4 := xXf hF 5 rfl
                            have f6 : (0 : Int) ≤ (v2 5) ∧ xE E 36 (v2 5) = (v2 7) := xXf hF 6 rfl
                            have f7 : (v2 7) = 111 := xXf hF 7 rfl
                            have f8 : (0 : Int) ≤ (v2 5 + 1) ∧ xE E 36 (v2 5 + 1) = (v2 8) := xXf hF 8 rfl
                            have f9 : (v2 8) = 112 := xXf hF 9 rfl
                            have f10 : (0 : Int) ≤ (v2 5 + 2) ∧ xE E 36 (v2 5 + 2) = (v2 9) := xXf hF 10 rfl
                            have f11 : (v2 9) = 101 := xXf hF 11 rfl
                            have f12 : (0 : Int) ≤ (v2 5 + 3) ∧ xE E 36 (v2 5 + 3) = (v2 10) := xXf hF 12 rfl
                            have f13 : ¬ (v2 10) = 110 := xXf hF 13 rfl
                            have hI : E = E0 := hInv
                            show xΨfwop x0 E0 E2 0
                            subst hI
                            unfold xΨfwop
                            rw [if_neg]
                            intro h
                            unfold sW at h
                            simp only [tWb, Bool.and_true, Bool.and_eq_true, decide_eq_true_eq, List.length_cons, List.length_nil] at h
                            rw [show xE E 35 5 = (v2 5) by omega] at h
                            simp only [Int.add_assoc, Int.reduceAdd] at h
                            omega
                          · skip
                            rcases List.mem_cons.mp hx with ex | hx
                            · subst ex
                              obtain ⟨hF, hBd, hM⟩ := hXs
                              have b0 : ((2147483650 : Nat) : Int) ≤ (v2 3) + 2147483648 ∧ (v2 3) + 2147483648 ≤ ((2147483650 : Nat) : Int) := xXb hBd 0 rfl
                              have b1 : ((2147483648 : Nat) : Int) ≤ (v2 4) + 2147483648 ∧ (v2 4) + 2147483648 ≤ ((2147484548 : Nat) : Int) := xXb hBd 1 rfl
                              have b2 : ((2147483648 : Nat) : Int) ≤ (v2 5) + 2147483648 ∧ (v2 5) + 2147483648 ≤ ((2147484544 : Nat) : Int) := xXb hBd 2 rfl
                              have b3 : ((2147483652 : Nat) : Int) ≤ (v2 6) + 2147483648 ∧ (v2 6) + 2147483648 ≤ ((2147483652 : Nat) : Int) := xXb hBd 3 rfl
                              have b4 : ((2147483759 : Nat) : Int) ≤ (v2 7) + 2147483648 ∧ (v2 7) + 2147483648 ≤ ((2147483759 : Nat) : Int) := xXb hBd 4 rfl
                              have b5 : ((2147483760 : Nat) : Int) ≤ (v2 8) + 2147483648 ∧ (v2 8) + 2147483648 ≤ ((2147483760 : Nat) : Int) := xXb hBd 5 rfl
                              have b6 : ((2147483749 : Nat) : Int) ≤ (v2 9) + 2147483648 ∧ (v2 9) + 2147483648 ≤ ((2147483749 : Nat) : Int) := xXb hBd 6 rfl
                              have b7 : ((2147483520 : Nat) : Int) ≤ (v2 10) + 2147483648 ∧ (v2 10) + 2147483648 ≤ ((2147483757 : Nat) : Int) := xXb hBd 7 rfl
                              have f0 : (0 : Int) ≤ 7 ∧ xE E 35 7 = (v2 3) := xXf hF 0 rfl
                              have f1 : (v2 3) = 2 := xXf hF 1 rfl
                              have f2 : (0 : Int) ≤ 6 ∧ xE E 35 6 = (v2 4) := xXf hF 2 rfl
                              have f3 : (0 : Int) ≤ 5 ∧ xE E 35 5 = (v2 5) := xXf hF 3 rfl
                              have f4 : -2147483648 ≤ (v2 4) - (v2 5) → (v2 4) - (v2 5) < 2147483648 → (v2 6) = (v2 4) - (v2 5) := xXf hF 4 rfl
                              have f4 := f4 (by omega) (by omega)
                              have f5 : (v2 6) = 4 := xXf hF 5 rfl
                              have f6 : (0 : Int) ≤ (v2 5) ∧ xE E 36 (v2 5) = (v2 7) := xXf hF 6 rfl
                              have f7 : (v2 7) = 111 := xXf hF 7 rfl
                              have f8 : (0 : Int) ≤ (v2 5 + 1) ∧ xE E 36 (v2 5 + 1) = (v2 8) := xXf hF 8 rfl
                              have f9 : (v2 8) = 112 := xXf hF 9 rfl
                              have f10 : (0 : Int) ≤ (v2 5 + 2) ∧ xE E 36 (v2 5 + 2) = (v2 9) := xXf hF 10 rfl
                              have f11 : (v2 9) = 101 := xXf hF 11 rfl
                              have f12 : (0 : Int) ≤ (v2 5 + 3) ∧ xE E 36 (v2 5 + 3) = (v2 10) := xXf hF 12 rfl
                              have f13 : ¬ (v2 10) = 110 := xXf hF 13 rfl
                              have hI : E = E0 := hInv
                              show xΨfwop x0 E0 E2 0
                              subst hI
                              unfold xΨfwop
                              rw [if_neg]
                              intro h
                              unfold sW at h
                              simp only [tWb, Bool.and_true, Bool.and_eq_true, decide_eq_true_eq, List.length_cons, List.length_nil] at h
                              rw [show xE E 35 5 = (v2 5) by omega] at h
                              simp only [Int.add_assoc, Int.reduceAdd] at h
                              omega
                            · skip
                              have ex := List.mem_singleton.mp hx
                              subst ex
                              obtain ⟨hF, hBd, hM⟩ := hXs
                              have b0 : ((2147483650 : Nat) : Int) ≤ (v2 3) + 2147483648 ∧ (v2 3) + 2147483648 ≤ ((2147483650 : Nat) : Int) := xXb hBd 0 rfl
                              have b1 : ((2147483648 : Nat) : Int) ≤ (v2 4) + 2147483648 ∧ (v2 4) + 2147483648 ≤ ((2147484548 : Nat) : Int) := xXb hBd 1 rfl
                              have b2 : ((2147483648 : Nat) : Int) ≤ (v2 5) + 2147483648 ∧ (v2 5) + 2147483648 ≤ ((2147484544 : Nat) : Int) := xXb hBd 2 rfl
                              have b3 : ((2147483652 : Nat) : Int) ≤ (v2 6) + 2147483648 ∧ (v2 6) + 2147483648 ≤ ((2147483652 : Nat) : Int) := xXb hBd 3 rfl
                              have b4 : ((2147483759 : Nat) : Int) ≤ (v2 7) + 2147483648 ∧ (v2 7) + 2147483648 ≤ ((2147483759 : Nat) : Int) := xXb hBd 4 rfl
                              have b5 : ((2147483760 : Nat) : Int) ≤ (v2 8) + 2147483648 ∧ (v2 8) + 2147483648 ≤ ((2147483760 : Nat) : Int) := xXb hBd 5 rfl
                              have b6 : ((2147483749 : Nat) : Int) ≤ (v2 9) + 2147483648 ∧ (v2 9) + 2147483648 ≤ ((2147483749 : Nat) : Int) := xXb hBd 6 rfl
                              have b7 : ((2147483758 : Nat) : Int) ≤ (v2 10) + 2147483648 ∧ (v2 10) + 2147483648 ≤ ((2147483758 : Nat) : Int) := xXb hBd 7 rfl
                              have f0 : (0 : Int) ≤ 7 ∧ xE E 35 7 = (v2 3) := xXf hF 0 rfl
                              have f1 : (v2 3) = 2 := xXf hF 1 rfl
                              have f2 : (0 : Int) ≤ 6 ∧ xE E 35 6 = (v2 4) := xXf hF 2 rfl
                              have f3 : (0 : Int) ≤ 5 ∧ xE E 35 5 = (v2 5) := xXf hF 3 rfl
                              have f4 : -2147483648 ≤ (v2 4) - (v2 5) → (v2 4) - (v2 5) < 2147483648 → (v2 6) = (v2 4) - (v2 5) := xXf hF 4 rfl
                              have f4 := f4 (by omega) (by omega)
                              have f5 : (v2 6) = 4 := xXf hF 5 rfl
                              have f6 : (0 : Int) ≤ (v2 5) ∧ xE E 36 (v2 5) = (v2 7) := xXf hF 6 rfl
                              have f7 : (v2 7) = 111 := xXf hF 7 rfl
                              have f8 : (0 : Int) ≤ (v2 5 + 1) ∧ xE E 36 (v2 5 + 1) = (v2 8) := xXf hF 8 rfl
                              have f9 : (v2 8) = 112 := xXf hF 9 rfl
                              have f10 : (0 : Int) ≤ (v2 5 + 2) ∧ xE E 36 (v2 5 + 2) = (v2 9) := xXf hF 10 rfl
                              have f11 : (v2 9) = 101 := xXf hF 11 rfl
                              have f12 : (0 : Int) ≤ (v2 5 + 3) ∧ xE E 36 (v2 5 + 3) = (v2 10) := xXf hF 12 rfl
                              have f13 : (v2 10) = 110 := xXf hF 13 rfl
                              have hI : E = E0 := hInv
                              show xΨfwop x0 E0 E2 1
                              subst hI
                              unfold xΨfwop
                              rw [if_pos]
                              unfold sW
                              simp only [tWb, Bool.and_true, Bool.and_eq_true, decide_eq_true_eq, List.length_cons, List.length_nil]
                              rw [show xE E 35 5 = (v2 5) by omega]
                              simp only [Int.add_assoc, Int.reduceAdd]
                              refine ⟨by omega, by omega, ?_⟩
                              refine ⟨by omega, by omega, by omega, by omega⟩
noncomputable def zxfwsh_ar0 : zyXp := (0, [], [0], [(24, 103079215105, 35, 56), (23, 0, 103079215105, 16)], [(103079215105, 2147483651, 2147483653)], [])
noncomputable def zxfwsh_ar1 : zyXp := (0, [], [0], [(24, 103079215105, 35, 56), (23, 0, 103079215105, 16)], [(103079215105, 2147483648, 2147483649)], [])
noncomputable def zxfwsh_ar2 : zyXp := (0, [], [0], [(24, 103079215105, 35, 56), (22, 0, 103079215105, 16), (24, 137438953473, 35, 48), (24, 171798691841, 35, 40), (2, 206158430209, 137438953473, 171798691841), (23, 0, 206158430209, 32)], [(103079215105, 2147483650, 2147483650), (137438953473, 2147483648, 2147484548), (171798691841, 2147483648, 2147484548), (206158430209, 2147483653, 2147484548)], [])
noncomputable def zxfwsh_ar3 : zyXp := (0, [], [0], [(24, 103079215105, 35, 56), (22, 0, 103079215105, 16), (24, 137438953473, 35, 48), (24, 171798691841, 35, 40), (2, 206158430209, 137438953473, 171798691841), (23, 0, 206158430209, 32)], [(103079215105, 2147483650, 2147483650), (137438953473, 2147483648, 2147484548), (171798691841, 2147483648, 2147484548), (206158430209, 2147482748, 2147483651)], [])
noncomputable def zxfwsh_ar4 : zyXp := (0, [], [0], [(24, 103079215105, 35, 56), (22, 0, 103079215105, 16), (24, 137438953473, 35, 48), (24, 171798691841, 35, 40), (2, 206158430209, 137438953473, 171798691841), (22, 0, 206158430209, 32), (24, 240518168577, 36, 171798691841), (23, 0, 240518168577, 920)], [(103079215105, 2147483650, 2147483650), (137438953473, 2147483648, 2147484548), (171798691841, 2147483648, 2147484544), (206158430209, 2147483652, 2147483652), (240518168577, 2147483764, 2147483775)], [])
noncomputable def zxfwsh_ar5 : zyXp := (0, [], [0], [(24, 103079215105, 35, 56), (22, 0, 103079215105, 16), (24, 137438953473, 35, 48), (24, 171798691841, 35, 40), (2, 206158430209, 137438953473, 171798691841), (22, 0, 206158430209, 32), (24, 240518168577, 36, 171798691841), (23, 0, 240518168577, 920)], [(103079215105, 2147483650, 2147483650), (137438953473, 2147483648, 2147484548), (171798691841, 2147483648, 2147484544), (206158430209, 2147483652, 2147483652), (240518168577, 2147483520, 2147483762)], [])
noncomputable def zxfwsh_ar6 : zyXp := (0, [], [0], [(24, 103079215105, 35, 56), (22, 0, 103079215105, 16), (24, 137438953473, 35, 48), (24, 171798691841, 35, 40), (2, 206158430209, 137438953473, 171798691841), (22, 0, 206158430209, 32), (24, 240518168577, 36, 171798691841), (22, 0, 240518168577, 920), (24, 274877906945, 36, 171798691849), (23, 0, 274877906945, 832)], [(103079215105, 2147483650, 2147483650), (137438953473, 2147483648, 2147484548), (171798691841, 2147483648, 2147484544), (206158430209, 2147483652, 2147483652), (240518168577, 2147483763, 2147483763), (274877906945, 2147483753, 2147483775)], [])
noncomputable def zxfwsh_ar7 : zyXp := (0, [], [0], [(24, 103079215105, 35, 56), (22, 0, 103079215105, 16), (24, 137438953473, 35, 48), (24, 171798691841, 35, 40), (2, 206158430209, 137438953473, 171798691841), (22, 0, 206158430209, 32), (24, 240518168577, 36, 171798691841), (22, 0, 240518168577, 920), (24, 274877906945, 36, 171798691849), (23, 0, 274877906945, 832)], [(103079215105, 2147483650, 2147483650), (137438953473, 2147483648, 2147484548), (171798691841, 2147483648, 2147484544), (206158430209, 2147483652, 2147483652), (240518168577, 2147483763, 2147483763), (274877906945, 2147483520, 2147483751)], [])
noncomputable def zxfwsh_ar8 : zyXp := (0, [], [0], [(24, 103079215105, 35, 56), (22, 0, 103079215105, 16), (24, 137438953473, 35, 48), (24, 171798691841, 35, 40), (2, 206158430209, 137438953473, 171798691841), (22, 0, 206158430209, 32), (24, 240518168577, 36, 171798691841), (22, 0, 240518168577, 920), (24, 274877906945, 36, 171798691849), (22, 0, 274877906945, 832), (24, 309237645313, 36, 171798691857), (23, 0, 309237645313, 936)], [(103079215105, 2147483650, 2147483650), (137438953473, 2147483648, 2147484548), (171798691841, 2147483648, 2147484544), (206158430209, 2147483652, 2147483652), (240518168577, 2147483763, 2147483763), (274877906945, 2147483752, 2147483752), (309237645313, 2147483766, 2147483775)], [])
noncomputable def zxfwsh_ar9 : zyXp := (0, [], [0], [(24, 103079215105, 35, 56), (22, 0, 103079215105, 16), (24, 137438953473, 35, 48), (24, 171798691841, 35, 40), (2, 206158430209, 137438953473, 171798691841), (22, 0, 206158430209, 32), (24, 240518168577, 36, 171798691841), (22, 0, 240518168577, 920), (24, 274877906945, 36, 171798691849), (22, 0, 274877906945, 832), (24, 309237645313, 36, 171798691857), (23, 0, 309237645313, 936)], [(103079215105, 2147483650, 2147483650), (137438953473, 2147483648, 2147484548), (171798691841, 2147483648, 2147484544), (206158430209, 2147483652, 2147483652), (240518168577, 2147483763, 2147483763), (274877906945, 2147483752, 2147483752), (309237645313, 2147483520, 2147483764)], [])
noncomputable def zxfwsh_ar10 : zyXp := (0, [], [0], [(24, 103079215105, 35, 56), (22, 0, 103079215105, 16), (24, 137438953473, 35, 48), (24, 171798691841, 35, 40), (2, 206158430209, 137438953473, 171798691841), (22, 0, 206158430209, 32), (24, 240518168577, 36, 171798691841), (22, 0, 240518168577, 920), (24, 274877906945, 36, 171798691849), (22, 0, 274877906945, 832), (24, 309237645313, 36, 171798691857), (22, 0, 309237645313, 936), (24, 343597383681, 36, 171798691865), (23, 0, 343597383681, 928)], [(103079215105, 2147483650, 2147483650), (137438953473, 2147483648, 2147484548), (171798691841, 2147483648, 2147484544), (206158430209, 2147483652, 2147483652), (240518168577, 2147483763, 2147483763), (274877906945, 2147483752, 2147483752), (309237645313, 2147483765, 2147483765), (343597383681, 2147483765, 2147483775)], [])
noncomputable def zxfwsh_ar11 : zyXp := (0, [], [0], [(24, 103079215105, 35, 56), (22, 0, 103079215105, 16), (24, 137438953473, 35, 48), (24, 171798691841, 35, 40), (2, 206158430209, 137438953473, 171798691841), (22, 0, 206158430209, 32), (24, 240518168577, 36, 171798691841), (22, 0, 240518168577, 920), (24, 274877906945, 36, 171798691849), (22, 0, 274877906945, 832), (24, 309237645313, 36, 171798691857), (22, 0, 309237645313, 936), (24, 343597383681, 36, 171798691865), (23, 0, 343597383681, 928)], [(103079215105, 2147483650, 2147483650), (137438953473, 2147483648, 2147484548), (171798691841, 2147483648, 2147484544), (206158430209, 2147483652, 2147483652), (240518168577, 2147483763, 2147483763), (274877906945, 2147483752, 2147483752), (309237645313, 2147483765, 2147483765), (343597383681, 2147483520, 2147483763)], [])
noncomputable def zxfwsh_ar12 : zyXp := (0, [], [8], [(24, 103079215105, 35, 56), (22, 0, 103079215105, 16), (24, 137438953473, 35, 48), (24, 171798691841, 35, 40), (2, 206158430209, 137438953473, 171798691841), (22, 0, 206158430209, 32), (24, 240518168577, 36, 171798691841), (22, 0, 240518168577, 920), (24, 274877906945, 36, 171798691849), (22, 0, 274877906945, 832), (24, 309237645313, 36, 171798691857), (22, 0, 309237645313, 936), (24, 343597383681, 36, 171798691865), (22, 0, 343597383681, 928)], [(103079215105, 2147483650, 2147483650), (137438953473, 2147483648, 2147484548), (171798691841, 2147483648, 2147484544), (206158430209, 2147483652, 2147483652), (240518168577, 2147483763, 2147483763), (274877906945, 2147483752, 2147483752), (309237645313, 2147483765, 2147483765), (343597383681, 2147483764, 2147483764)], [])
noncomputable def zpfwsh_a : zyPh := (0, [283, 800043, 13], [(0, 4294967295), (0, 4294967295), (0, 4294967295)], [], [])
noncomputable def zpfwsh (i : Nat) : zyPh := zpfwsh_a
noncomputable def zXfwsh (i : Nat) : List zyXp := []
noncomputable def zRfwsh (i : Nat) : List zyXp := [zxfwsh_ar0, zxfwsh_ar1, zxfwsh_ar2, zxfwsh_ar3, zxfwsh_ar4, zxfwsh_ar5, zxfwsh_ar6, zxfwsh_ar7, zxfwsh_ar8, zxfwsh_ar9, zxfwsh_ar10, zxfwsh_ar11, zxfwsh_ar12]
noncomputable def zFfwsh (i : Nat) : zyR := []
noncomputable def zSfwsh (i : Nat) : Nat := 0
def xΨfwsh (_ : Nat → Int) (E E2 : zyEm) (r : Int) : Prop := r = if sW (xE E 36) (xE E 35 7) (xE E 35 5) (xE E 35 6) [115, 104, 117, 116] = true then 1 else 0
noncomputable def fpfwsh : zyR := []
theorem zyfwsh_run : zyrS zymc zxi72 (72, 0, 0, 2, 0) 6 zpfwsh (fun _ _ => []) zFfwsh zSfwsh zXfwsh zRfwsh 1 = true := by decide +kernel
theorem zyfwsh_ck : zyAll (fun i => xsubR (zFfwsh i) fpfwsh && ((zXfwsh i).all xckX && (zRfwsh i).all (fun x => xckX x && xrtB true x))) 1 = true := by decide +kernel
def xIfwsh (i : Nat) (x0 : Nat → Int) (E0 : zyEm) (v : Nat → Int) (E : zyEm) : Prop := (E = E0)
def xMfwsh (i : Nat) (x0 : Nat → Int) (E0 : zyEm) (v : Nat → Int) (E : zyEm) : Nat := (0)
theorem xWshut {l : Launch} {en : zEn} {me : zMe} (hen : zG zxMeta 72 = some en) (hme : zG zMeth 72 = some me) : xFc l zymc en me 6 [35, 100005] 0 fpfwsh true xΦ0 xΨfwsh := by
  have een : zG zxMeta 72 = some (zxi72, 2, 3, 5, 72, 0, 0, 2, 0) := rfl
  obtain ⟨me1, hme1, hOK⟩ := zall hen
  rw [hme] at hme1
  cases hme1
  rw [een] at hen
  cases hen
  have hr := zyfwsh_run
  have hck := fun i hi => zyAll_iff zyfwsh_ck i hi
  simp only [Bool.and_eq_true] at hck
  intro B
  refine xcut (mi := zymc) (B := B) hOK rfl rfl (ι := Fin 1) (fun i => zpfwsh i.val) (fun _ _ => []) (fun i => zFfwsh i.val) (fun i => zSfwsh i.val) (fun i => zXfwsh i.val) (fun i => zRfwsh i.val) (fun i y2 ct en2 me2 h => by cases h) 200000 (fun i => zyAll_iff hr i.val i.isLt) (fun i => (hck i.val i.isLt).1) (fun i => (hck i.val i.isLt).2.1) (fun i => (hck i.val i.isLt).2.2) ⟨0, by decide⟩ ⟨rfl, rfl, rfl, rfl⟩ ⟨by decide, by decide⟩ (fun i x0 E0 v E => xIfwsh i.val x0 E0 v E) (fun i x0 E0 v E => xMfwsh i.val x0 E0 v E) ?_ ?_ ?_
  · intro x0 E hx0 hT hΦ
    have hΦ : xΦ0 x0 E := hΦ
    refine ⟨fun k p hp => ?_, ?_⟩
    · have hk : k < 3 := (List.getElem?_eq_some_iff.mp hp).1
      have hk : k = 0 ∨ k = 1 ∨ k = 2 := by omega
      rcases hk with rfl | rfl | rfl
      · have hp : some (0, 4294967295) = some p := hp
        cases hp
        show ((0 : Nat) : Int) ≤ 0 + 2147483648 ∧ 0 + 2147483648 ≤ ((4294967295 : Nat) : Int)
        omega
      · have hp : some (0, 4294967295) = some p := hp
        cases hp
        show ((0 : Nat) : Int) ≤ 0 + 2147483648 ∧ 0 + 2147483648 ≤ ((4294967295 : Nat) : Int)
        omega
      · have hp : some (0, 4294967295) = some p := hp
        cases hp
        show ((0 : Nat) : Int) ≤ x0 0 + 2147483648 ∧ x0 0 + 2147483648 ≤ ((4294967295 : Nat) : Int)
        have hx := hx0 0
        omega
    · show E = E
      rfl
  · intro x0 s Wg hRu hrx hT0 hΦ i v H hT hrv hInv hKc hFr0 hIH x hx ρ2 v2 N2 H2 locs lsB stA hAt hB hv hr2 hXs hag hfr hFr hT2
    rcases i with ⟨i, hi⟩
    have hi2 : i = 0 := by omega
    rcases hi2 with rfl
    · cases hx
  · intro x0 E0 E E2 hrx hT0 hΦ i v hT hrv hInv hKc hFr0 x hx v2 hr2 hXs hag hfr hFr hT2
    rcases i with ⟨i, hi⟩
    have hi2 : i = 0 := by omega
    rcases hi2 with rfl
    · have hx : x ∈ [zxfwsh_ar0, zxfwsh_ar1, zxfwsh_ar2, zxfwsh_ar3, zxfwsh_ar4, zxfwsh_ar5, zxfwsh_ar6, zxfwsh_ar7, zxfwsh_ar8, zxfwsh_ar9, zxfwsh_ar10, zxfwsh_ar11, zxfwsh_ar12] := hx
      have hag : ∀ k, k < 3 → v2 k = v k := hag
      have hfr : xFr [] _ _ := hfr
      rcases List.mem_cons.mp hx with ex | hx
      · subst ex
        obtain ⟨hF, hBd, hM⟩ := hXs
        have b0 : ((2147483651 : Nat) : Int) ≤ (v2 3) + 2147483648 ∧ (v2 3) + 2147483648 ≤ ((2147483653 : Nat) : Int) := xXb hBd 0 rfl
        have f0 : (0 : Int) ≤ 7 ∧ xE E 35 7 = (v2 3) := xXf hF 0 rfl
        have f1 : ¬ (v2 3) = 2 := xXf hF 1 rfl
        have hI : E = E0 := hInv
        show xΨfwsh x0 E0 E2 0
        subst hI
        unfold xΨfwsh
        rw [if_neg]
        intro h
        unfold sW at h
        simp only [tWb, Bool.and_true, Bool.and_eq_true, decide_eq_true_eq, List.length_cons, List.length_nil] at h
        omega
      · skip
        rcases List.mem_cons.mp hx with ex | hx
        · subst ex
          obtain ⟨hF, hBd, hM⟩ := hXs
          have b0 : ((2147483648 : Nat) : Int) ≤ (v2 3) + 2147483648 ∧ (v2 3) + 2147483648 ≤ ((2147483649 : Nat) : Int) := xXb hBd 0 rfl
          have f0 : (0 : Int) ≤ 7 ∧ xE E 35 7 = (v2 3) := xXf hF 0 rfl
          have f1 : ¬ (v2 3) = 2 := xXf hF 1 rfl
          have hI : E = E0 := hInv
          show xΨfwsh x0 E0 E2 0
          subst hI
          unfold xΨfwsh
          rw [if_neg]
          intro h
          unfold sW at h
          simp only [tWb, Bool.and_true, Bool.and_eq_true, decide_eq_true_eq, List.length_cons, List.length_nil] at h
          omega
        · skip
          rcases List.mem_cons.mp hx with ex | hx
          · subst ex
            obtain ⟨hF, hBd, hM⟩ := hXs
            have b0 : ((2147483650 : Nat) : Int) ≤ (v2 3) + 2147483648 ∧ (v2 3) + 2147483648 ≤ ((2147483650 : Nat) : Int) := xXb hBd 0 rfl
            have b1 : ((2147483648 : Nat) : Int) ≤ (v2 4) + 2147483648 ∧ (v2 4) + 2147483648 ≤ ((2147484548 : Nat) : Int) := xXb hBd 1 rfl
            have b2 : ((2147483648 : Nat) : Int) ≤ (v2 5) + 2147483648 ∧ (v2 5) + 2147483648 ≤ ((2147484548 : Nat) : Int) := xXb hBd 2 rfl
            have b3 : ((2147483653 : Nat) : Int) ≤ (v2 6) + 2147483648 ∧ (v2 6) + 2147483648 ≤ ((2147484548 : Nat) : Int) := xXb hBd 3 rfl
            have f0 : (0 : Int) ≤ 7 ∧ xE E 35 7 = (v2 3) := xXf hF 0 rfl
            have f1 : (v2 3) = 2 := xXf hF 1 rfl
            have f2 : (0 : Int) ≤ 6 ∧ xE E 35 6 = (v2 4) := xXf hF 2 rfl
            have f3 : (0 : Int) ≤ 5 ∧ xE E 35 5 = (v2 5) := xXf hF 3 rfl
            have f4 : -2147483648 ≤ (v2 4) - (v2 5) → (v2 4) - (v2 5) < 2147483648 → (v2 6) = (v2 4) - (v2 5) := xXf hF 4 rfl
            have f4 := f4 (by omega) (by omega)
            have f5 : ¬ (v2 6) = 4 := xXf hF 5 rfl
            have hI : E = E0 := hInv
            show xΨfwsh x0 E0 E2 0
            subst hI
            unfold xΨfwsh
            rw [if_neg]
            intro h
            unfold sW at h
            simp only [tWb, Bool.and_true, Bool.and_eq_true, decide_eq_true_eq, List.length_cons, List.length_nil] at h
            rw [show xE E 35 5 = (v2 5) by omega] at h
            simp only [Int.add_assoc, Int.reduceAdd] at h
            omega
          · skip
            rcases List.mem_cons.mp hx with ex | hx
            · subst ex
              obtain ⟨hF, hBd, hM⟩ := hXs
              have b0 : ((2147483650 : Nat) : Int) ≤ (v2 3) + 2147483648 ∧ (v2 3) + 2147483648 ≤ ((2147483650 : Nat) : Int) := xXb hBd 0 rfl
              have b1 : ((2147483648 : Nat) : Int) ≤ (v2 4) + 2147483648 ∧ (v2 4) + 2147483648 ≤ ((2147484548 : Nat) : Int) := xXb hBd 1 rfl
              have b2 : ((2147483648 : Nat) : Int) ≤ (v2 5) + 2147483648 ∧ (v2 5) + 2147483648 ≤ ((2147484548 : Nat) : Int) := xXb hBd 2 rfl
              have b3 : ((2147482748 : Nat) : Int) ≤ (v2 6) + 2147483648 ∧ (v2 6) + 2147483648 ≤ ((2147483651 : Nat) : Int) := xXb hBd 3 rfl
              have f0 : (0 : Int) ≤ 7 ∧ xE E 35 7 = (v2 3) := xXf hF 0 rfl
              have f1 : (v2 3) = 2 := xXf hF 1 rfl
              have f2 : (0 : Int) ≤ 6 ∧ xE E 35 6 = (v2 4) := xXf hF 2 rfl
              have f3 : (0 : Int) ≤ 5 ∧ xE E 35 5 = (v2 5) := xXf hF 3 rfl
              have f4 : -2147483648 ≤ (v2 4) - (v2 5) → (v2 4) - (v2 5) < 2147483648 → (v2 6) = (v2 4) - (v2 5) := xXf hF 4 rfl
              have f4 := f4 (by omega) (by omega)
              have f5 : ¬ (v2 6) = 4 := xXf hF 5 rfl
              have hI : E = E0 := hInv
              show xΨfwsh x0 E0 E2 0
              subst hI
              unfold xΨfwsh
              rw [if_neg]
              intro h
              unfold sW at h
              simp only [tWb, Bool.and_true, Bool.and_eq_true, decide_eq_true_eq, List.length_cons, List.length_nil] at h
              rw [show xE E 35 5 = (v2 5) by omega] at h
              simp only [Int.add_assoc, Int.reduceAdd] at h
              omega
            · skip
              rcases List.mem_cons.mp hx with ex | hx
              · subst ex
                obtain ⟨hF, hBd, hM⟩ := hXs
                have b0 : ((2147483650 : Nat) : Int) ≤ (v2 3) + 2147483648 ∧ (v2 3) + 2147483648 ≤ ((2147483650 : Nat) : Int) := xXb hBd 0 rfl
                have b1 : ((2147483648 : Nat) : Int) ≤ (v2 4) + 2147483648 ∧ (v2 4) + 2147483648 ≤ ((2147484548 : Nat) : Int) := xXb hBd 1 rfl
                have b2 : ((2147483648 : Nat) : Int) ≤ (v2 5) + 2147483648 ∧ (v2 5) + 2147483648 ≤ ((2147484544 : Nat) : Int) := xXb hBd 2 rfl
                have b3 : ((2147483652 : Nat) : Int) ≤ (v2 6) + 2147483648 ∧ (v2 6) + 2147483648 ≤ ((2147483652 : Nat) : Int) := xXb hBd 3 rfl
                have b4 : ((2147483764 : Nat) : Int) ≤ (v2 7) + 2147483648 ∧ (v2 7) + 2147483648 ≤ ((2147483775 : Nat) : Int) := xXb hBd 4 rfl
                have f0 : (0 : Int) ≤ 7 ∧ xE E 35 7 = (v2 3) := xXf hF 0 rfl
                have f1 : (v2 3) = 2 := xXf hF 1 rfl
                have f2 : (0 : Int) ≤ 6 ∧ xE E 35 6 = (v2 4) := xXf hF 2 rfl
                have f3 : (0 : Int) ≤ 5 ∧ xE E 35 5 = (v2 5) := xXf hF 3 rfl
                have f4 : -2147483648 ≤ (v2 4) - (v2 5) → (v2 4) - (v2 5) < 2147483648 → (v2 6) = (v2 4) - (v2 5) := xXf hF 4 rfl
                have f4 := f4 (by omega) (by omega)
                have f5 : (v2 6) = 4 := xXf hF 5 rfl
                have f6 : (0 : Int) ≤ (v2 5) ∧ xE E 36 (v2 5) = (v2 7) := xXf hF 6 rfl
                have f7 : ¬ (v2 7) = 115 := xXf hF 7 rfl
                have hI : E = E0 := hInv
                show xΨfwsh x0 E0 E2 0
                subst hI
                unfold xΨfwsh
                rw [if_neg]
                intro h
                unfold sW at h
                simp only [tWb, Bool.and_true, Bool.and_eq_true, decide_eq_true_eq, List.length_cons, List.length_nil] at h
                rw [show xE E 35 5 = (v2 5) by omega] at h
                simp only [Int.add_assoc, Int.reduceAdd] at h
                omega
              · skip
                rcases List.mem_cons.mp hx with ex | hx
                · subst ex
                  obtain ⟨hF, hBd, hM⟩ := hXs
                  have b0 : ((2147483650 : Nat) : Int) ≤ (v2 3) + 2147483648 ∧ (v2 3) + 2147483648 ≤ ((2147483650 : Nat) : Int) := xXb hBd 0 rfl
                  have b1 : ((2147483648 : Nat) : Int) ≤ (v2 4) + 2147483648 ∧ (v2 4) + 2147483648 ≤ ((2147484548 : Nat) : Int) := xXb hBd 1 rfl
                  have b2 : ((2147483648 : Nat) : Int) ≤ (v2 5) + 2147483648 ∧ (v2 5) + 2147483648 ≤ ((2147484544 : Nat) : Int) := xXb hBd 2 rfl
                  have b3 : ((2147483652 : Nat) : Int) ≤ (v2 6) + 2147483648 ∧ (v2 6) + 2147483648 ≤ ((2147483652 : Nat) : Int) := xXb hBd 3 rfl
                  have b4 : ((2147483520 : Nat) : Int) ≤ (v2 7) + 2147483648 ∧ (v2 7) + 2147483648 ≤ ((2147483762 : Nat) : Int) := xXb hBd 4 rfl
                  have f0 : (0 : Int) ≤ 7 ∧ xE E 35 7 = (v2 3) := xXf hF 0 rfl
                  have f1 : (v2 3) = 2 := xXf hF 1 rfl
                  have f2 : (0 : Int) ≤ 6 ∧ xE E 35 6 = (v2 4) := xXf hF 2 rfl
                  have f3 : (0 : Int) ≤ 5 ∧ xE E 35 5 = (v2 5) := xXf hF 3 rfl
                  have f4 : -2147483648 ≤ (v2 4) - (v2 5) → (v2 4) - (v2 5) < 2147483648 → (v2 6) = (v2 4) - (v2 5) := xXf hF 4 rfl
                  have f4 := f4 (by omega) (by omega)
                  have f5 : (v2 6) = 4 := xXf hF 5 rfl
                  have f6 : (0 : Int) ≤ (v2 5) ∧ xE E 36 (v2 5) = (v2 7) := xXf hF 6 rfl
                  have f7 : ¬ (v2 7) = 115 := xXf hF 7 rfl
                  have hI : E = E0 := hInv
                  show xΨfwsh x0 E0 E2 0
                  subst hI
                  unfold xΨfwsh
                  rw [if_neg]
                  intro h
                  unfold sW at h
                  simp only [tWb, Bool.and_true, Bool.and_eq_true, decide_eq_true_eq, List.length_cons, List.length_nil] at h
                  rw [show xE E 35 5 = (v2 5) by omega] at h
                  simp only [Int.add_assoc, Int.reduceAdd] at h
                  omega
                · skip
                  rcases List.mem_cons.mp hx with ex | hx
                  · subst ex
                    obtain ⟨hF, hBd, hM⟩ := hXs
                    have b0 : ((2147483650 : Nat) : Int) ≤ (v2 3) + 2147483648 ∧ (v2 3) + 2147483648 ≤ ((2147483650 : Nat) : Int) := xXb hBd 0 rfl
                    have b1 : ((2147483648 : Nat) : Int) ≤ (v2 4) + 2147483648 ∧ (v2 4) + 2147483648 ≤ ((2147484548 : Nat) : Int) := xXb hBd 1 rfl
                    have b2 : ((2147483648 : Nat) : Int) ≤ (v2 5) + 2147483648 ∧ (v2 5) + 2147483648 ≤ ((2147484544 : Nat) : Int) := xXb hBd 2 rfl
                    have b3 : ((2147483652 : Nat) : Int) ≤ (v2 6) + 2147483648 ∧ (v2 6) + 2147483648 ≤ ((2147483652 : Nat) : Int) := xXb hBd 3 rfl
                    have b4 : ((2147483763 : Nat) : Int) ≤ (v2 7) + 2147483648 ∧ (v2 7) + 2147483648 ≤ ((2147483763 : Nat) : Int) := xXb hBd 4 rfl
                    have b5 : ((2147483753 : Nat) : Int) ≤ (v2 8) + 2147483648 ∧ (v2 8) + 2147483648 ≤ ((2147483775 : Nat) : Int) := xXb hBd 5 rfl
                    have f0 : (0 : Int) ≤ 7 ∧ xE E 35 7 = (v2 3) := xXf hF 0 rfl
                    have f1 : (v2 3) = 2 := xXf hF 1 rfl
                    have f2 : (0 : Int) ≤ 6 ∧ xE E 35 6 = (v2 4) := xXf hF 2 rfl
                    have f3 : (0 : Int) ≤ 5 ∧ xE E 35 5 = (v2 5) := xXf hF 3 rfl
                    have f4 : -2147483648 ≤ (v2 4) - (v2 5) → (v2 4) - (v2 5) < 2147483648 → (v2 6) = (v2 4) - (v2 5) := xXf hF 4 rfl
                    have f4 := f4 (by omega) (by omega)
                    have f5 : (v2 6) = 4 := xXf hF 5 rfl
                    have f6 : (0 : Int) ≤ (v2 5) ∧ xE E 36 (v2 5) = (v2 7) := xXf hF 6 rfl
                    have f7 : (v2 7) = 115 := xXf hF 7 rfl
                    have f8 : (0 : Int) ≤ (v2 5 + 1) ∧ xE E 36 (v2 5 + 1) = (v2 8) := xXf hF 8 rfl
                    have f9 : ¬ (v2 8) = 104 := xXf hF 9 rfl
                    have hI : E = E0 := hInv
                    show xΨfwsh x0 E0 E2 0
                    subst hI
                    unfold xΨfwsh
                    rw [if_neg]
                    intro h
                    unfold sW at h
                    simp only [tWb, Bool.and_true, Bool.and_eq_true, decide_eq_true_eq, List.length_cons, List.length_nil] at h
                    rw [show xE E 35 5 = (v2 5) by omega] at h
                    simp only [Int.add_assoc, Int.reduceAdd] at h
                    omega
                  · skip
                    rcases List.mem_cons.mp hx with ex | hx
                    · subst ex
                      obtain ⟨hF, hBd, hM⟩ := hXs
                      have b0 : ((2147483650 : Nat) : Int) ≤ (v2 3) + 2147483648 ∧ (v2 3) + 2147483648 ≤ ((2147483650 : Nat) : Int) := xXb hBd 0 rfl
                      have b1 : ((2147483648 : Nat) : Int) ≤ (v2 4) + 2147483648 ∧ (v2 4) + 2147483648 ≤ ((2147484548 : Nat) : Int) := xXb hBd 1 rfl
                      have b2 : ((2147483648 : Nat) : Int) ≤ (v2 5) + 2147483648 ∧ (v2 5) + 2147483648 ≤ ((2147484544 : Nat) : Int) := xXb hBd 2 rfl
                      have b3 : ((2147483652 : Nat) : Int) ≤ (v2 6) + 2147483648 ∧ (v2 6) + 2147483648 ≤ ((2147483652 : Nat) : Int) := xXb hBd 3 rfl
                      have b4 : ((2147483763 : Nat) : Int) ≤ (v2 7) + 2147483648 ∧ (v2 7) + 2147483648 ≤ ((2147483763 : Nat) : Int) := xXb hBd 4 rfl
                      have b5 : ((2147483520 : Nat) : Int) ≤ (v2 8) + 2147483648 ∧ (v2 8) + 2147483648 ≤ ((2147483751 : Nat) : Int) := xXb hBd 5 rfl
                      have f0 : (0 : Int) ≤ 7 ∧ xE E 35 7 = (v2 3) := xXf hF 0 rfl
                      have f1 : (v2 3) = 2 := xXf hF 1 rfl
                      have f2 : (0 : Int) ≤ 6 ∧ xE E 35 6 = (v2 4) := xXf hF 2 rfl
                      have f3 : (0 : Int) ≤ 5 ∧ xE E 35 5 = (v2 5) := xXf hF 3 rfl
                      have f4 : -2147483648 ≤ (v2 4) - (v2 5) → (v2 4) - (v2 5) < 2147483648 → (v2 6) = (v2 4) - (v2 5) := xXf hF 4 rfl
                      have f4 := f4 (by omega) (by omega)
                      have f5 : (v2 6) = 4 := xXf hF 5 rfl
                      have f6 : (0 : Int) ≤ (v2 5) ∧ xE E 36 (v2 5) = (v2 7) := xXf hF 6 rfl
                      have f7 : (v2 7) = 115 := xXf hF 7 rfl
                      have f8 : (0 : Int) ≤ (v2 5 + 1) ∧ xE E 36 (v2 5 + 1) = (v2 8) := xXf hF 8 rfl
                      have f9 : ¬ (v2 8) = 104 := xXf hF 9 rfl
                      have hI : E = E0 := hInv
                      show xΨfwsh x0 E0 E2 0
                      subst hI
                      unfold xΨfwsh
                      rw [if_neg]
                      intro h
                      unfold sW at h
                      simp only [tWb, Bool.and_true, Bool.and_eq_true, decide_eq_true_eq, List.length_cons, List.length_nil] at h
                      rw [show xE E 35 5 = (v2 5) by omega] at h
                      simp only [Int.add_assoc, Int.reduceAdd] at h
                      omega
                    · skip
                      rcases List.mem_cons.mp hx with ex | hx
                      · subst ex
                        obtain ⟨hF, hBd, hM⟩ := hXs
                        have b0 : ((2147483650 : Nat) : Int) ≤ (v2 3) + 2147483648 ∧ (v2 3) + 2147483648 ≤ ((2147483650 : Nat) : Int) := xXb hBd 0 rfl
                        have b1 : ((2147483648 : Nat) : Int) ≤ (v2 4) + 2147483648 ∧ (v2 4) + 2147483648 ≤ ((2147484548 : Nat) : Int) := xXb hBd 1 rfl
                        have b2 : ((2147483648 : Nat) : Int) ≤ (v2 5) + 2147483648 ∧ (v2 5) + 2147483648 ≤ ((2147484544 : Nat) : Int) := xXb hBd 2 rfl
                        have b3 : ((2147483652 : Nat) : Int) ≤ (v2 6) + 2147483648 ∧ (v2 6) + 2147483648 ≤ ((2147483652 : Nat) : Int) := xXb hBd 3 rfl
                        have b4 : ((2147483763 : Nat) : Int) ≤ (v2 7) + 2147483648 ∧ (v2 7) + 2147483648 ≤ ((2147483763 : Nat) : Int) := xXb hBd 4 rfl
                        have b5 : ((2147483752 : Nat) : Int) ≤ (v2 8) + 2147483648 ∧ (v2 8) + 2147483648 ≤ ((2147483752 : Nat) : Int) := xXb hBd 5 rfl
                        have b6 : ((2147483766 : Nat) : Int) ≤ (v2 9) + 2147483648 ∧ (v2 9) + 2147483648 ≤ ((2147483775 : Nat) : Int) := xXb hBd 6 rfl
                        have f0 : (0 : Int) ≤ 7 ∧ xE E 35 7 = (v2 3) := xXf hF 0 rfl
                        have f1 : (v2 3) = 2 := xXf hF 1 rfl
                        have f2 : (0 : Int) ≤ 6 ∧ xE E 35 6 = (v2 4) := xXf hF 2 rfl
                        have f3 : (0 : Int) ≤ 5 ∧ xE E 35 5 = (v2 5) := xXf hF 3 rfl
                        have f4 : -2147483648 ≤ (v2 4) - (v2 5) → (v2 4) - (v2 5) < 2147483648 → (v2 6) = (v2 4) - (v2 5) := xXf hF 4 rfl
                        have f4 := f4 (by omega) (by omega)
                        have f5 : (v2 6) = 4 := xXf hF 5 rfl
                        have f6 : (0 : Int) ≤ (v2 5) ∧ xE E 36 (v2 5) = (v2 7) := xXf hF 6 rfl
                        have f7 : (v2 7) = 115 := xXf hF 7 rfl
                        have f8 : (0 : Int) ≤ (v2 5 + 1) ∧ xE E 36 (v2 5 + 1) = (v2 8) := xXf hF 8 rfl
                        have f9 : (v2 8) = 104 := xXf hF 9 rfl
                        have f10 : (0 : Int) ≤ (v2 5 + 2) ∧ xE E 36 (v2 5 + 2) = (v2 9) := xXf hF 10 rfl
                        have f11 : ¬ (v2 9) = 117 := xXf hF 11 rfl
                        have hI : E = E0 := hInv
                        show xΨfwsh x0 E0 E2 0
                        subst hI
                        unfold xΨfwsh
                        rw [if_neg]
                        intro h
                        unfold sW at h
                        simp only [tWb, Bool.and_true, Bool.and_eq_true, decide_eq_true_eq, List.length_cons, List.length_nil] at h
                        rw [show xE E 35 5 = (v2 5) by omega] at h
                        simp only [Int.add_assoc, Int.reduceAdd] at h
                        omega
                      · skip
                        rcases List.mem_cons.mp hx with ex | hx
                        · subst ex
                          obtain ⟨hF, hBd, hM⟩ := hXs
                          have b0 : ((2147483650 : Nat) : Int) ≤ (v2 3) + 2147483648 ∧ (v2 3) + 2147483648 ≤ ((2147483650 : Nat) : Int) := xXb hBd 0 rfl
                          have b1 : ((2147483648 : Nat) : Int) ≤ (v2 4) + 2147483648 ∧ (v2 4) + 2147483648 ≤ ((2147484548 : Nat) : Int) := xXb hBd 1 rfl
                          have b2 : ((2147483648 : Nat) : Int) ≤ (v2 5) + 2147483648 ∧ (v2 5) + 2147483648 ≤ ((2147484544 : Nat) : Int) := xXb hBd 2 rfl
                          have b3 : ((2147483652 : Nat) : Int) ≤ (v2 6) + 2147483648 ∧ (v2 6) + 2147483648 ≤ ((2147483652 : Nat) : Int) := xXb hBd 3 rfl
                          have b4 : ((2147483763 : Nat) : Int) ≤ (v2 7) + 2147483648 ∧ (v2 7) + 2147483648 ≤ ((2147483763 : Nat) : Int) := xXb hBd 4 rfl
                          have b5 : ((2147483752 : Nat) : Int) ≤ (v2 8) + 2147483648 ∧ (v2 8) + 2147483648 ≤ ((2147483752 : Nat) : Int) := xXb hBd 5 rfl
                          have b6 : ((2147483520 : Nat) : Int) ≤ (v2 9) + 2147483648 ∧ (v2 9) + 2147483648 ≤ ((2147483764 : Nat) : Int) := xXb hBd 6 rfl
                          have f0 : (0 : Int) ≤ 7 ∧ xE E 35 7 = (v2 3) := xXf hF 0 rfl
                          have f1 : (v2 3) = 2 := xXf hF 1 rfl
                          have f2 : (0 : Int) ≤ 6 ∧ xE E 35 6 = (v2 4) := xXf hF 2 rfl
                          have f3 : (0 : Int) ≤ 5 ∧ xE E 35 5 = (v2 5) := xXf hF 3 rfl
                          have f4 : -2147483648 ≤ (v2 4) - (v2 5) → (v2 4) - (v2 5) < 2147483648 → (v2 6) = (v2 4) - (v2 5) := xXf hF 4 rfl
                          have f4 := f4 (by omega) (by omega)
                          have f5 : (v2 6) = 4 := xXf hF 5 rfl
                          have f6 : (0 : Int) ≤ (v2 5) ∧ xE E 36 (v2 5) = (v2 7) := xXf hF 6 rfl
                          have f7 : (v2 7) = 115 := xXf hF 7 rfl
                          have f8 : (0 : Int) ≤ (v2 5 + 1) ∧ xE E 36 (v2 5 + 1) = (v2 8) := xXf hF 8 rfl
                          have f9 : (v2 8) = 104 := xXf hF 9 rfl
                          have f10 : (0 : Int) ≤ (v2 5 + 2) ∧ xE E 36 (v2 5 + 2) = (v2 9) := xXf hF 10 rfl
                          have f11 : ¬ (v2 9) = 117 := xXf hF 11 rfl
                          have hI : E = E0 := hInv
                          show xΨfwsh x0 E0 E2 0
                          subst hI
                          unfold xΨfwsh
                          rw [if_neg]
                          intro h
                          unfold sW at h
                          simp only [tWb, Bool.and_true, Bool.and_eq_true, decide_eq_true_eq, List.length_cons, List.length_nil] at h
                          rw [show xE E 35 5 = (v2 5) by omega] at h
                          simp only [Int.add_assoc, Int.reduceAdd] at h
                          omega
                        · skip
                          rcases List.mem_cons.mp hx with ex | hx
                          · subst ex
                            obtain ⟨hF, hBd, hM⟩ := hXs
                            have b0 : ((2147483650 : Nat) : Int) ≤ (v2 3) + 2147483648 ∧ (v2 3) + 2147483648 ≤ ((2147483650 : Nat) : Int) := xXb hBd 0 rfl
                            have b1 : ((2147483648 : Nat) : Int) ≤ (v2 4) + 2147483648 ∧ (v2 4) + 2147483648 ≤ ((2147484548 : Nat) : Int) := xXb hBd 1 rfl
                            have b2 : ((2147483648 : Nat) : Int) ≤ (v2 5) + 2147483648 ∧ (v2 5) + 2147483648 ≤ ((2147484544 : Nat) : Int) := xXb hBd 2 rfl
                            have b3 : ((2147483652 : Nat) : Int) ≤ (v2 6) + 2147483648 ∧ (v2 6) + 2147483648 ≤ ((2147483652 : Nat) : Int) := xXb hBd 3 rfl
                            have b4 : ((2147483763 : Nat) : Int) ≤ (v2 7) + 2147483648 ∧ (v2 7) + 2147483648 ≤ ((2147483763 : Nat) : Int) := xXb hBd 4 rfl
                            have b5 : ((2147483752 : Nat) : Int) ≤ (v2 8) + 2147483648 ∧ (v2 8) + 2147483648 ≤ ((2147483752 : Nat) : Int) := xXb hBd 5 rfl
                            have b6 : ((2147483765 : Nat) : Int) ≤ (v2 9) + 2147483648 ∧ (v2 9) + 2147483648 ≤ ((2147483765 : Nat) : Int) := xXb hBd 6 rfl
                            have b7 : ((2147483765 : Nat) : Int) ≤ (v2 10) + 2147483648 ∧ (v2 10) + 2147483648 ≤ ((2147483775 : Nat) : Int) := xXb hBd 7 rfl
                            have f0 : (0 : Int) ≤ 7 ∧ xE E 35 7 = (v2 3) := xXf hF 0 rfl
                            have f1 : (v2 3) = 2 := xXf hF 1 rfl
                            have f2 : (0 : Int) ≤ 6 ∧ xE E 35 6 = (v2 4) := xXf hF 2 rfl
                            have f3 : (0 : Int) ≤ 5 ∧ xE E 35 5 = (v2 5) := xXf hF 3 rfl
                            have f4 : -2147483648 ≤ (v2 4) - (v2 5) → (v2 4) - (v2 5) < 2147483648 → (v2 6) = (v2 4) - (v2 5) := xXf hF 4 rfl
                            have f4 := f4 (by omega) (by omega)
                            have f5 : (v2 6) = 4 := xXf hF 5 rfl
                            have f6 : (0 : Int) ≤ (v2 5) ∧ xE E 36 (v2 5) = (v2 7) := xXf hF 6 rfl
                            have f7 : (v2 7) = 115 := xXf hF 7 rfl
                            have f8 : (0 : Int) ≤ (v2 5 + 1) ∧ xE E 36 (v2 5 + 1) = (v2 8) := xXf hF 8 rfl
                            have f9 : (v2 8) = 104 := xXf hF 9 rfl
                            have f10 : (0 : Int) ≤ (v2 5 + 2) ∧ xE E 36 (v2 5 + 2) = (v2 9) := xXf hF 10 rfl
                            have f11 : (v2 9) = 117 := xXf hF 11 rfl
                            have f12 : (0 : Int) ≤ (v2 5 + 3) ∧ xE E 36 (v2 5 + 3) = (v2 10) := xXf hF 12 rfl
                            have f13 : ¬ (v2 10) = 116 := xXf hF 13 rfl
                            have hI : E = E0 := hInv
                            show xΨfwsh x0 E0 E2 0
                            subst hI
                            unfold xΨfwsh
                            rw [if_neg]
                            intro h
                            unfold sW at h
                            simp only [tWb, Bool.and_true, Bool.and_eq_true, decide_eq_true_eq, List.length_cons, List.length_nil] at h
                            rw [show xE E 35 5 = (v2 5) by omega] at h
                            simp only [Int.add_assoc, Int.reduceAdd] at h
                            omega
                          · skip
                            rcases List.mem_cons.mp hx with ex | hx
                            · subst ex
                              obtain ⟨hF, hBd, hM⟩ := hXs
                              have b0 : ((2147483650 : Nat) : Int) ≤ (v2 3) + 2147483648 ∧ (v2 3) + 2147483648 ≤ ((2147483650 : Nat) : Int) := xXb hBd 0 rfl
                              have b1 : ((2147483648 : Nat) : Int) ≤ (v2 4) + 2147483648 ∧ (v2 4) + 2147483648 ≤ ((2147484548 : Nat) : Int) := xXb hBd 1 rfl
                              have b2 : ((2147483648 : Nat) : Int) ≤ (v2 5) + 2147483648 ∧ (v2 5) + 2147483648 ≤ ((2147484544 : Nat) : Int) := xXb hBd 2 rfl
                              have b3 : ((2147483652 : Nat) : Int) ≤ (v2 6) + 2147483648 ∧ (v2 6) + 2147483648 ≤ ((2147483652 : Nat) : Int) := xXb hBd 3 rfl
                              have b4 : ((2147483763 : Nat) : Int) ≤ (v2 7) + 2147483648 ∧ (v2 7) + 2147483648 ≤ ((2147483763 : Nat) : Int) := xXb hBd 4 rfl
                              have b5 : ((2147483752 : Nat) : Int) ≤ (v2 8) + 2147483648 ∧ (v2 8) + 2147483648 ≤ ((2147483752 : Nat) : Int) := xXb hBd 5 rfl
                              have b6 : ((2147483765 : Nat) : Int) ≤ (v2 9) + 2147483648 ∧ (v2 9) + 2147483648 ≤ ((2147483765 : Nat) : Int) := xXb hBd 6 rfl
                              have b7 : ((2147483520 : Nat) : Int) ≤ (v2 10) + 2147483648 ∧ (v2 10) + 2147483648 ≤ ((2147483763 : Nat) : Int) := xXb hBd 7 rfl
                              have f0 : (0 : Int) ≤ 7 ∧ xE E 35 7 = (v2 3) := xXf hF 0 rfl
                              have f1 : (v2 3) = 2 := xXf hF 1 rfl
                              have f2 : (0 : Int) ≤ 6 ∧ xE E 35 6 = (v2 4) := xXf hF 2 rfl
                              have f3 : (0 : Int) ≤ 5 ∧ xE E 35 5 = (v2 5) := xXf hF 3 rfl
                              have f4 : -2147483648 ≤ (v2 4) - (v2 5) → (v2 4) - (v2 5) < 2147483648 → (v2 6) = (v2 4) - (v2 5) := xXf hF 4 rfl
                              have f4 := f4 (by omega) (by omega)
                              have f5 : (v2 6) = 4 := xXf hF 5 rfl
                              have f6 : (0 : Int) ≤ (v2 5) ∧ xE E 36 (v2 5) = (v2 7) := xXf hF 6 rfl
                              have f7 : (v2 7) = 115 := xXf hF 7 rfl
                              have f8 : (0 : Int) ≤ (v2 5 + 1) ∧ xE E 36 (v2 5 + 1) = (v2 8) := xXf hF 8 rfl
                              have f9 : (v2 8) = 104 := xXf hF 9 rfl
                              have f10 : (0 : Int) ≤ (v2 5 + 2) ∧ xE E 36 (v2 5 + 2) = (v2 9) := xXf hF 10 rfl
                              have f11 : (v2 9) = 117 := xXf hF 11 rfl
                              have f12 : (0 : Int) ≤ (v2 5 + 3) ∧ xE E 36 (v2 5 + 3) = (v2 10) := xXf hF 12 rfl
                              have f13 : ¬ (v2 10) = 116 := xXf hF 13 rfl
                              have hI : E = E0 := hInv
                              show xΨfwsh x0 E0 E2 0
                              subst hI
                              unfold xΨfwsh
                              rw [if_neg]
                              intro h
                              unfold sW at h
                              simp only [tWb, Bool.and_true, Bool.and_eq_true, decide_eq_true_eq, List.length_cons, List.length_nil] at h
                              rw [show xE E 35 5 = (v2 5) by omega] at h
                              simp only [Int.add_assoc, Int.reduceAdd] at h
                              omega
                            · skip
                              have ex := List.mem_singleton.mp hx
                              subst ex
                              obtain ⟨hF, hBd, hM⟩ := hXs
                              have b0 : ((2147483650 : Nat) : Int) ≤ (v2 3) + 2147483648 ∧ (v2 3) + 2147483648 ≤ ((2147483650 : Nat) : Int) := xXb hBd 0 rfl
                              have b1 : ((2147483648 : Nat) : Int) ≤ (v2 4) + 2147483648 ∧ (v2 4) + 2147483648 ≤ ((2147484548 : Nat) : Int) := xXb hBd 1 rfl
                              have b2 : ((2147483648 : Nat) : Int) ≤ (v2 5) + 2147483648 ∧ (v2 5) + 2147483648 ≤ ((2147484544 : Nat) : Int) := xXb hBd 2 rfl
                              have b3 : ((2147483652 : Nat) : Int) ≤ (v2 6) + 2147483648 ∧ (v2 6) + 2147483648 ≤ ((2147483652 : Nat) : Int) := xXb hBd 3 rfl
                              have b4 : ((2147483763 : Nat) : Int) ≤ (v2 7) + 2147483648 ∧ (v2 7) + 2147483648 ≤ ((2147483763 : Nat) : Int) := xXb hBd 4 rfl
                              have b5 : ((2147483752 : Nat) : Int) ≤ (v2 8) + 2147483648 ∧ (v2 8) + 2147483648 ≤ ((2147483752 : Nat) : Int) := xXb hBd 5 rfl
                              have b6 : ((2147483765 : Nat) : Int) ≤ (v2 9) + 2147483648 ∧ (v2 9) + 2147483648 ≤ ((2147483765 : Nat) : Int) := xXb hBd 6 rfl
                              have b7 : ((2147483764 : Nat) : Int) ≤ (v2 10) + 2147483648 ∧ (v2 10) + 2147483648 ≤ ((2147483764 : Nat) : Int) := xXb hBd 7 rfl
                              have f0 : (0 : Int) ≤ 7 ∧ xE E 35 7 = (v2 3) := xXf hF 0 rfl
                              have f1 : (v2 3) = 2 := xXf hF 1 rfl
                              have f2 : (0 : Int) ≤ 6 ∧ xE E 35 6 = (v2 4) := xXf hF 2 rfl
                              have f3 : (0 : Int) ≤ 5 ∧ xE E 35 5 = (v2 5) := xXf hF 3 rfl
                              have f4 : -2147483648 ≤ (v2 4) - (v2 5) → (v2 4) - (v2 5) < 2147483648 → (v2 6) = (v2 4) - (v2 5) := xXf hF 4 rfl
                              have f4 := f4 (by omega) (by omega)
                              have f5 : (v2 6) = 4 := xXf hF 5 rfl
                              have f6 : (0 : Int) ≤ (v2 5) ∧ xE E 36 (v2 5) = (v2 7) := xXf hF 6 rfl
                              have f7 : (v2 7) = 115 := xXf hF 7 rfl
                              have f8 : (0 : Int) ≤ (v2 5 + 1) ∧ xE E 36 (v2 5 + 1) = (v2 8) := xXf hF 8 rfl
                              have f9 : (v2 8) = 104 := xXf hF 9 rfl
                              have f10 : (0 : Int) ≤ (v2 5 + 2) ∧ xE E 36 (v2 5 + 2) = (v2 9) := xXf hF 10 rfl
                              have f11 : (v2 9) = 117 := xXf hF 11 rfl
                              have f12 : (0 : Int) ≤ (v2 5 + 3) ∧ xE E 36 (v2 5 + 3) = (v2 10) := xXf hF 12 rfl
                              have f13 : (v2 10) = 116 := xXf hF 13 rfl
                              have hI : E = E0 := hInv
                              show xΨfwsh x0 E0 E2 1
                              subst hI
                              unfold xΨfwsh
                              rw [if_pos]
                              unfold sW
                              simp only [tWb, Bool.and_true, Bool.and_eq_true, decide_eq_true_eq, List.length_cons, List.length_nil]
                              rw [show xE E 35 5 = (v2 5) by omega]
                              simp only [Int.add_assoc, Int.reduceAdd]
                              refine ⟨by omega, by omega, ?_⟩
                              refine ⟨by omega, by omega, by omega, by omega⟩
