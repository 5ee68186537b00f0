/-! THE CLASS reads: isWord, for each word (printed by m3.py) -/
def xΦ0 (_ : Nat → Int) (_ : zyEm) : Prop := True
noncomputable def zxfwsi_ar0 : zyXp := (0, [], [0], [(24, 103079215105, 35, 56), (23, 0, 103079215105, 16)], [(103079215105, 2147483651, 2147483653)], [])
noncomputable def zxfwsi_ar1 : zyXp := (0, [], [0], [(24, 103079215105, 35, 56), (23, 0, 103079215105, 16)], [(103079215105, 2147483648, 2147483649)], [])
noncomputable def zxfwsi_ar2 : zyXp := (0, [], [0], [(24, 103079215105, 35, 56), (22, 0, 103079215105, 16), (24, 137438953473, 35, 48), (24, 171798691841, 35, 40), (2, 206158430209, 137438953473, 171798691841), (23, 0, 206158430209, 32)], [(103079215105, 2147483650, 2147483650), (137438953473, 2147483648, 2147484548), (171798691841, 2147483648, 2147484548), (206158430209, 2147483653, 2147484548)], [])
noncomputable def zxfwsi_ar3 : zyXp := (0, [], [0], [(24, 103079215105, 35, 56), (22, 0, 103079215105, 16), (24, 137438953473, 35, 48), (24, 171798691841, 35, 40), (2, 206158430209, 137438953473, 171798691841), (23, 0, 206158430209, 32)], [(103079215105, 2147483650, 2147483650), (137438953473, 2147483648, 2147484548), (171798691841, 2147483648, 2147484548), (206158430209, 2147482748, 2147483651)], [])
noncomputable def zxfwsi_ar4 : zyXp := (0, [], [0], [(24, 103079215105, 35, 56), (22, 0, 103079215105, 16), (24, 137438953473, 35, 48), (24, 171798691841, 35, 40), (2, 206158430209, 137438953473, 171798691841), (22, 0, 206158430209, 32), (24, 240518168577, 36, 171798691841), (23, 0, 240518168577, 920)], [(103079215105, 2147483650, 2147483650), (137438953473, 2147483648, 2147484548), (171798691841, 2147483648, 2147484544), (206158430209, 2147483652, 2147483652), (240518168577, 2147483764, 2147483775)], [])
noncomputable def zxfwsi_ar5 : zyXp := (0, [], [0], [(24, 103079215105, 35, 56), (22, 0, 103079215105, 16), (24, 137438953473, 35, 48), (24, 171798691841, 35, 40), (2, 206158430209, 137438953473, 171798691841), (22, 0, 206158430209, 32), (24, 240518168577, 36, 171798691841), (23, 0, 240518168577, 920)], [(103079215105, 2147483650, 2147483650), (137438953473, 2147483648, 2147484548), (171798691841, 2147483648, 2147484544), (206158430209, 2147483652, 2147483652), (240518168577, 2147483520, 2147483762)], [])
noncomputable def zxfwsi_ar6 : zyXp := (0, [], [0], [(24, 103079215105, 35, 56), (22, 0, 103079215105, 16), (24, 137438953473, 35, 48), (24, 171798691841, 35, 40), (2, 206158430209, 137438953473, 171798691841), (22, 0, 206158430209, 32), (24, 240518168577, 36, 171798691841), (22, 0, 240518168577, 920), (24, 274877906945, 36, 171798691849), (23, 0, 274877906945, 840)], [(103079215105, 2147483650, 2147483650), (137438953473, 2147483648, 2147484548), (171798691841, 2147483648, 2147484544), (206158430209, 2147483652, 2147483652), (240518168577, 2147483763, 2147483763), (274877906945, 2147483754, 2147483775)], [])
noncomputable def zxfwsi_ar7 : zyXp := (0, [], [0], [(24, 103079215105, 35, 56), (22, 0, 103079215105, 16), (24, 137438953473, 35, 48), (24, 171798691841, 35, 40), (2, 206158430209, 137438953473, 171798691841), (22, 0, 206158430209, 32), (24, 240518168577, 36, 171798691841), (22, 0, 240518168577, 920), (24, 274877906945, 36, 171798691849), (23, 0, 274877906945, 840)], [(103079215105, 2147483650, 2147483650), (137438953473, 2147483648, 2147484548), (171798691841, 2147483648, 2147484544), (206158430209, 2147483652, 2147483652), (240518168577, 2147483763, 2147483763), (274877906945, 2147483520, 2147483752)], [])
noncomputable def zxfwsi_ar8 : zyXp := (0, [], [0], [(24, 103079215105, 35, 56), (22, 0, 103079215105, 16), (24, 137438953473, 35, 48), (24, 171798691841, 35, 40), (2, 206158430209, 137438953473, 171798691841), (22, 0, 206158430209, 32), (24, 240518168577, 36, 171798691841), (22, 0, 240518168577, 920), (24, 274877906945, 36, 171798691849), (22, 0, 274877906945, 840), (24, 309237645313, 36, 171798691857), (23, 0, 309237645313, 976)], [(103079215105, 2147483650, 2147483650), (137438953473, 2147483648, 2147484548), (171798691841, 2147483648, 2147484544), (206158430209, 2147483652, 2147483652), (240518168577, 2147483763, 2147483763), (274877906945, 2147483753, 2147483753), (309237645313, 2147483771, 2147483775)], [])
noncomputable def zxfwsi_ar9 : zyXp := (0, [], [0], [(24, 103079215105, 35, 56), (22, 0, 103079215105, 16), (24, 137438953473, 35, 48), (24, 171798691841, 35, 40), (2, 206158430209, 137438953473, 171798691841), (22, 0, 206158430209, 32), (24, 240518168577, 36, 171798691841), (22, 0, 240518168577, 920), (24, 274877906945, 36, 171798691849), (22, 0, 274877906945, 840), (24, 309237645313, 36, 171798691857), (23, 0, 309237645313, 976)], [(103079215105, 2147483650, 2147483650), (137438953473, 2147483648, 2147484548), (171798691841, 2147483648, 2147484544), (206158430209, 2147483652, 2147483652), (240518168577, 2147483763, 2147483763), (274877906945, 2147483753, 2147483753), (309237645313, 2147483520, 2147483769)], [])
noncomputable def zxfwsi_ar10 : zyXp := (0, [], [0], [(24, 103079215105, 35, 56), (22, 0, 103079215105, 16), (24, 137438953473, 35, 48), (24, 171798691841, 35, 40), (2, 206158430209, 137438953473, 171798691841), (22, 0, 206158430209, 32), (24, 240518168577, 36, 171798691841), (22, 0, 240518168577, 920), (24, 274877906945, 36, 171798691849), (22, 0, 274877906945, 840), (24, 309237645313, 36, 171798691857), (22, 0, 309237645313, 976), (24, 343597383681, 36, 171798691865), (23, 0, 343597383681, 808)], [(103079215105, 2147483650, 2147483650), (137438953473, 2147483648, 2147484548), (171798691841, 2147483648, 2147484544), (206158430209, 2147483652, 2147483652), (240518168577, 2147483763, 2147483763), (274877906945, 2147483753, 2147483753), (309237645313, 2147483770, 2147483770), (343597383681, 2147483750, 2147483775)], [])
noncomputable def zxfwsi_ar11 : zyXp := (0, [], [0], [(24, 103079215105, 35, 56), (22, 0, 103079215105, 16), (24, 137438953473, 35, 48), (24, 171798691841, 35, 40), (2, 206158430209, 137438953473, 171798691841), (22, 0, 206158430209, 32), (24, 240518168577, 36, 171798691841), (22, 0, 240518168577, 920), (24, 274877906945, 36, 171798691849), (22, 0, 274877906945, 840), (24, 309237645313, 36, 171798691857), (22, 0, 309237645313, 976), (24, 343597383681, 36, 171798691865), (23, 0, 343597383681, 808)], [(103079215105, 2147483650, 2147483650), (137438953473, 2147483648, 2147484548), (171798691841, 2147483648, 2147484544), (206158430209, 2147483652, 2147483652), (240518168577, 2147483763, 2147483763), (274877906945, 2147483753, 2147483753), (309237645313, 2147483770, 2147483770), (343597383681, 2147483520, 2147483748)], [])
noncomputable def zxfwsi_ar12 : zyXp := (0, [], [8], [(24, 103079215105, 35, 56), (22, 0, 103079215105, 16), (24, 137438953473, 35, 48), (24, 171798691841, 35, 40), (2, 206158430209, 137438953473, 171798691841), (22, 0, 206158430209, 32), (24, 240518168577, 36, 171798691841), (22, 0, 240518168577, 920), (24, 274877906945, 36, 171798691849), (22, 0, 274877906945, 840), (24, 309237645313, 36, 171798691857), (22, 0, 309237645313, 976), (24, 343597383681, 36, 171798691865), (22, 0, 343597383681, 808)], [(103079215105, 2147483650, 2147483650), (137438953473, 2147483648, 2147484548), (171798691841, 2147483648, 2147484544), (206158430209, 2147483652, 2147483652), (240518168577, 2147483763, 2147483763), (274877906945, 2147483753, 2147483753), (309237645313, 2147483770, 2147483770), (343597383681, 2147483749, 2147483749)], [])
noncomputable def zpfwsi_a : zyPh := (0, [283, 800003, 13], [(0, 4294967295), (0, 4294967295), (0, 4294967295)], [], [])
noncomputable def zpfwsi (i : Nat) : zyPh := zpfwsi_a
noncomputable def zXfwsi (i : Nat) : List zyXp := []
noncomputable def zRfwsi (i : Nat) : List zyXp := [zxfwsi_ar0, zxfwsi_ar1, zxfwsi_ar2, zxfwsi_ar3, zxfwsi_ar4, zxfwsi_ar5, zxfwsi_ar6, zxfwsi_ar7, zxfwsi_ar8, zxfwsi_ar9, zxfwsi_ar10, zxfwsi_ar11, zxfwsi_ar12]
noncomputable def zFfwsi (i : Nat) : zyR := []
noncomputable def zSfwsi (i : Nat) : Nat := 0
def xΨfwsi (_ : Nat → Int) (E E2 : zyEm) (r : Int) : Prop := r = if sW (xE E 36) (xE E 35 7) (xE E 35 5) (xE E 35 6) [115, 105, 122, 101] = true then 1 else 0
noncomputable def fpfwsi : zyR := []
theorem zyfwsi_run : zyrS zymc zxi72 (72, 0, 0, 2, 0) 6 zpfwsi (fun _ _ => []) zFfwsi zSfwsi zXfwsi zRfwsi 1 = true := by decide +kernel
theorem zyfwsi_ck : zyAll (fun i => xsubR (zFfwsi i) fpfwsi && ((zXfwsi i).all xckX && (zRfwsi i).all (fun x => xckX x && xrtB true x))) 1 = true := by decide +kernel
def xIfwsi (i : Nat) (x0 : Nat → Int) (E0 : zyEm) (v : Nat → Int) (E : zyEm) : Prop := (E = E0)
def xMfwsi (i : Nat) (x0 : Nat → Int) (E0 : zyEm) (v : Nat → Int) (E : zyEm) : Nat := (0)
theorem xWsize {l : Launch} {en : zEn} {me : zMe} (hen : zG zxMeta 72 = some en) (hme : zG zMeth 72 = some me) : xFc l zymc en me 6 [35, 100000] 0 fpfwsi true xΦ0 xΨfwsi := by
  have een : zG zxMeta 72 = some (zxi72, 2, 3, 5, 72, 0, 0, 2, 0) := rfl
  obtain ⟨me1, hme1, hOK⟩ := zall hen
  rw [hme] at hme1
  cases hme1
  rw [een] at hen
  cases hen
  have hr := zyfwsi_run
  have hck := fun i hi => zyAll_iff zyfwsi_ck i hi
  simp only [Bool.and_eq_true] at hck
  refine xcut (mi := zymc) hOK rfl rfl (ι := Fin 1) (fun i => zpfwsi i.val) (fun _ _ => []) (fun i => zFfwsi i.val) (fun i => zSfwsi i.val) (fun i => zXfwsi i.val) (fun i => zRfwsi i.val) (fun i y2 ct en2 me2 h => by cases h) 200000 (fun i => zyAll_iff hr i.val i.isLt) (fun i => (hck i.val i.isLt).1) (fun i => (hck i.val i.isLt).2.1) (fun i => (hck i.val i.isLt).2.2) ⟨0, by decide⟩ ⟨rfl, rfl, rfl, rfl⟩ ⟨by decide, by decide⟩ (fun i x0 E0 v E => xIfwsi i.val x0 E0 v E) (fun i x0 E0 v E => xMfwsi i.val x0 E0 v E) ?_ ?_ ?_
  · intro x0 E hx0 hT hΦ
    have hΦ : xΦ0 x0 E := hΦ
    refine ⟨fun k p hp => ?_, ?_⟩
    · have hk : k < 3 := (List.getElem?_eq_some_iff.mp hp).1
      have hk : k = 0 ∨ k = 1 ∨ k = 2 := by omega
      rcases hk with rfl | rfl | rfl
      · have hp : some (0, 4294967295) = some p := hp
        cases hp
        show ((0 : Nat) : Int) ≤ 0 + 2147483648 ∧ 0 + 2147483648 ≤ ((4294967295 : Nat) : Int)
        omega
      · have hp : some (0, 4294967295) = some p := hp
        cases hp
        show ((0 : Nat) : Int) ≤ 0 + 2147483648 ∧ 0 + 2147483648 ≤ ((4294967295 : Nat) : Int)
        omega
      · have hp : some (0, 4294967295) = some p := hp
        cases hp
        show ((0 : Nat) : Int) ≤ x0 0 + 2147483648 ∧ x0 0 + 2147483648 ≤ ((4294967295 : Nat) : Int)
        have hx := hx0 0
        omega
    · show E = E
      rfl
  · intro x0 B s Wg hRu hrx hT0 hΦ i v H hT hrv hInv hKc hFr0 hIH x hx ρ2 v2 N2 H2 locs lsB stA hAt hB hv hr2 hXs hag hfr hFr hT2
    rcases i with ⟨i, hi⟩
    have hi2 : i = 0 := by omega
    rcases hi2 with rfl
    · cases hx
  · intro x0 E0 E E2 hrx hT0 hΦ i v hT hrv hInv hKc hFr0 x hx v2 hr2 hXs hag hfr hFr hT2
    rcases i with ⟨i, hi⟩
    have hi2 : i = 0 := by omega
    rcases hi2 with rfl
    · have hx : x ∈ [zxfwsi_ar0, zxfwsi_ar1, zxfwsi_ar2, zxfwsi_ar3, zxfwsi_ar4, zxfwsi_ar5, zxfwsi_ar6, zxfwsi_ar7, zxfwsi_ar8, zxfwsi_ar9, zxfwsi_ar10, zxfwsi_ar11, zxfwsi_ar12] := hx
      have hag : ∀ k, k < 3 → v2 k = v k := hag
      have hfr : xFr [] _ _ := hfr
      rcases List.mem_cons.mp hx with ex | hx
      · subst ex
        obtain ⟨hF, hBd, hM⟩ := hXs
        have b0 : ((2147483651 : Nat) : Int) ≤ (v2 3) + 2147483648 ∧ (v2 3) + 2147483648 ≤ ((2147483653 : Nat) : Int) := xXb hBd 0 rfl
        have f0 : (0 : Int) ≤ 7 ∧ xE E 35 7 = (v2 3) := xXf hF 0 rfl
        have f1 : ¬ (v2 3) = 2 := xXf hF 1 rfl
        have hI : E = E0 := hInv
        show xΨfwsi x0 E0 E2 0
        subst hI
        unfold xΨfwsi
        rw [if_neg]
        intro h
        unfold sW at h
        simp only [tWb, Bool.and_true, Bool.and_eq_true, decide_eq_true_eq, List.length_cons, List.length_nil] at h
        omega
      · skip
        rcases List.mem_cons.mp hx with ex | hx
        · subst ex
          obtain ⟨hF, hBd, hM⟩ := hXs
          have b0 : ((2147483648 : Nat) : Int) ≤ (v2 3) + 2147483648 ∧ (v2 3) + 2147483648 ≤ ((2147483649 : Nat) : Int) := xXb hBd 0 rfl
          have f0 : (0 : Int) ≤ 7 ∧ xE E 35 7 = (v2 3) := xXf hF 0 rfl
          have f1 : ¬ (v2 3) = 2 := xXf hF 1 rfl
          have hI : E = E0 := hInv
          show xΨfwsi x0 E0 E2 0
          subst hI
          unfold xΨfwsi
          rw [if_neg]
          intro h
          unfold sW at h
          simp only [tWb, Bool.and_true, Bool.and_eq_true, decide_eq_true_eq, List.length_cons, List.length_nil] at h
          omega
        · skip
          rcases List.mem_cons.mp hx with ex | hx
          · subst ex
            obtain ⟨hF, hBd, hM⟩ := hXs
            have b0 : ((2147483650 : Nat) : Int) ≤ (v2 3) + 2147483648 ∧ (v2 3) + 2147483648 ≤ ((2147483650 : Nat) : Int) := xXb hBd 0 rfl
            have b1 : ((2147483648 : Nat) : Int) ≤ (v2 4) + 2147483648 ∧ (v2 4) + 2147483648 ≤ ((2147484548 : Nat) : Int) := xXb hBd 1 rfl
            have b2 : ((2147483648 : Nat) : Int) ≤ (v2 5) + 2147483648 ∧ (v2 5) + 2147483648 ≤ ((2147484548 : Nat) : Int) := xXb hBd 2 rfl
            have b3 : ((2147483653 : Nat) : Int) ≤ (v2 6) + 2147483648 ∧ (v2 6) + 2147483648 ≤ ((2147484548 : Nat) : Int) := xXb hBd 3 rfl
            have f0 : (0 : Int) ≤ 7 ∧ xE E 35 7 = (v2 3) := xXf hF 0 rfl
            have f1 : (v2 3) = 2 := xXf hF 1 rfl
            have f2 : (0 : Int) ≤ 6 ∧ xE E 35 6 = (v2 4) := xXf hF 2 rfl
            have f3 : (0 : Int) ≤ 5 ∧ xE E 35 5 = (v2 5) := xXf hF 3 rfl
            have f4 : -2147483648 ≤ (v2 4) - (v2 5) → (v2 4) - (v2 5) < 2147483648 → (v2 6) = (v2 4) - (v2 5) := xXf hF 4 rfl
            have f4 := f4 (by omega) (by omega)
            have f5 : ¬ (v2 6) = 4 := xXf hF 5 rfl
            have hI : E = E0 := hInv
            show xΨfwsi x0 E0 E2 0
            subst hI
            unfold xΨfwsi
            rw [if_neg]
            intro h
            unfold sW at h
            simp only [tWb, Bool.and_true, Bool.and_eq_true, decide_eq_true_eq, List.length_cons, List.length_nil] at h
            rw [show xE E 35 5 = (v2 5) by omega] at h
            simp only [Int.add_assoc, Int.reduceAdd] at h
            omega
          · skip
            rcases List.mem_cons.mp hx with ex | hx
            · subst ex
              obtain ⟨hF, hBd, hM⟩ := hXs
              have b0 : ((2147483650 : Nat) : Int) ≤ (v2 3) + 2147483648 ∧ (v2 3) + 2147483648 ≤ ((2147483650 : Nat) : Int) := xXb hBd 0 rfl
              have b1 : ((2147483648 : Nat) : Int) ≤ (v2 4) + 2147483648 ∧ (v2 4) + 2147483648 ≤ ((2147484548 : Nat) : Int) := xXb hBd 1 rfl
              have b2 : ((2147483648 : Nat) : Int) ≤ (v2 5) + 2147483648 ∧ (v2 5) + 2147483648 ≤ ((2147484548 : Nat) : Int) := xXb hBd 2 rfl
              have b3 : ((2147482748 : Nat) : Int) ≤ (v2 6) + 2147483648 ∧ (v2 6) + 2147483648 ≤ ((2147483651 : Nat) : Int) := xXb hBd 3 rfl
              have f0 : (0 : Int) ≤ 7 ∧ xE E 35 7 = (v2 3) := xXf hF 0 rfl
              have f1 : (v2 3) = 2 := xXf hF 1 rfl
              have f2 : (0 : Int) ≤ 6 ∧ xE E 35 6 = (v2 4) := xXf hF 2 rfl
              have f3 : (0 : Int) ≤ 5 ∧ xE E 35 5 = (v2 5) := xXf hF 3 rfl
              have f4 : -2147483648 ≤ (v2 4) - (v2 5) → (v2 4) - (v2 5) < 2147483648 → (v2 6) = (v2 4) - (v2 5) := xXf hF 4 rfl
              have f4 := f4 (by omega) (by omega)
              have f5 : ¬ (v2 6) = 4 := xXf hF 5 rfl
              have hI : E = E0 := hInv
              show xΨfwsi x0 E0 E2 0
              subst hI
              unfold xΨfwsi
              rw [if_neg]
              intro h
              unfold sW at h
              simp only [tWb, Bool.and_true, Bool.and_eq_true, decide_eq_true_eq, List.length_cons, List.length_nil] at h
              rw [show xE E 35 5 = (v2 5) by omega] at h
              simp only [Int.add_assoc, Int.reduceAdd] at h
              omega
            · skip
              rcases List.mem_cons.mp hx with ex | hx
              · subst ex
                obtain ⟨hF, hBd, hM⟩ := hXs
                have b0 : ((2147483650 : Nat) : Int) ≤ (v2 3) + 2147483648 ∧ (v2 3) + 2147483648 ≤ ((2147483650 : Nat) : Int) := xXb hBd 0 rfl
                have b1 : ((2147483648 : Nat) : Int) ≤ (v2 4) + 2147483648 ∧ (v2 4) + 2147483648 ≤ ((2147484548 : Nat) : Int) := xXb hBd 1 rfl
                have b2 : ((2147483648 : Nat) : Int) ≤ (v2 5) + 2147483648 ∧ (v2 5) + 2147483648 ≤ ((2147484544 : Nat) : Int) := xXb hBd 2 rfl
                have b3 : ((2147483652 : Nat) : Int) ≤ (v2 6) + 2147483648 ∧ (v2 6) + 2147483648 ≤ ((2147483652 : Nat) : Int) := xXb hBd 3 rfl
                have b4 : ((2147483764 : Nat) : Int) ≤ (v2 7) + 2147483648 ∧ (v2 7) + 2147483648 ≤ ((2147483775 : Nat) : Int) := xXb hBd 4 rfl
                have f0 : (0 : Int) ≤ 7 ∧ xE E 35 7 = (v2 3) := xXf hF 0 rfl
                have f1 : (v2 3) = 2 := xXf hF 1 rfl
                have f2 : (0 : Int) ≤ 6 ∧ xE E 35 6 = (v2 4) := xXf hF 2 rfl
                have f3 : (0 : Int) ≤ 5 ∧ xE E 35 5 = (v2 5) := xXf hF 3 rfl
                have f4 : -2147483648 ≤ (v2 4) - (v2 5) → (v2 4) - (v2 5) < 2147483648 → (v2 6) = (v2 4) - (v2 5) := xXf hF 4 rfl
                have f4 := f4 (by omega) (by omega)
                have f5 : (v2 6) = 4 := xXf hF 5 rfl
                have f6 : (0 : Int) ≤ (v2 5) ∧ xE E 36 (v2 5) = (v2 7) := xXf hF 6 rfl
                have f7 : ¬ (v2 7) = 115 := xXf hF 7 rfl
                have hI : E = E0 := hInv
                show xΨfwsi x0 E0 E2 0
                subst hI
                unfold xΨfwsi
                rw [if_neg]
                intro h
                unfold sW at h
                simp only [tWb, Bool.and_true, Bool.and_eq_true, decide_eq_true_eq, List.length_cons, List.length_nil] at h
                rw [show xE E 35 5 = (v2 5) by omega] at h
                simp only [Int.add_assoc, Int.reduceAdd] at h
                omega
              · skip
                rcases List.mem_cons.mp hx with ex | hx
                · subst ex
                  obtain ⟨hF, hBd, hM⟩ := hXs
                  have b0 : ((2147483650 : Nat) : Int) ≤ (v2 3) + 2147483648 ∧ (v2 3) + 2147483648 ≤ ((2147483650 : Nat) : Int) := xXb hBd 0 rfl
                  have b1 : ((2147483648 : Nat) : Int) ≤ (v2 4) + 2147483648 ∧ (v2 4) + 2147483648 ≤ ((2147484548 : Nat) : Int) := xXb hBd 1 rfl
                  have b2 : ((2147483648 : Nat) : Int) ≤ (v2 5) + 2147483648 ∧ (v2 5) + 2147483648 ≤ ((2147484544 : Nat) : Int) := xXb hBd 2 rfl
                  have b3 : ((2147483652 : Nat) : Int) ≤ (v2 6) + 2147483648 ∧ (v2 6) + 2147483648 ≤ ((2147483652 : Nat) : Int) := xXb hBd 3 rfl
                  have b4 : ((2147483520 : Nat) : Int) ≤ (v2 7) + 2147483648 ∧ (v2 7) + 2147483648 ≤ ((2147483762 : Nat) : Int) := xXb hBd 4 rfl
                  have f0 : (0 : Int) ≤ 7 ∧ xE E 35 7 = (v2 3) := xXf hF 0 rfl
                  have f1 : (v2 3) = 2 := xXf hF 1 rfl
                  have f2 : (0 : Int) ≤ 6 ∧ xE E 35 6 = (v2 4) := xXf hF 2 rfl
                  have f3 : (0 : Int) ≤ 5 ∧ xE E 35 5 = (v2 5) := xXf hF 3 rfl
                  have f4 : -2147483648 ≤ (v2 4) - (v2 5) → (v2 4) - (v2 5) < 2147483648 → (v2 6) = (v2 4) - (v2 5) := xXf hF 4 rfl
                  have f4 := f4 (by omega) (by omega)
                  have f5 : (v2 6) = 4 := xXf hF 5 rfl
                  have f6 : (0 : Int) ≤ (v2 5) ∧ xE E 36 (v2 5) = (v2 7) := xXf hF 6 rfl
                  have f7 : ¬ (v2 7) = 115 := xXf hF 7 rfl
                  have hI : E = E0 := hInv
                  show xΨfwsi x0 E0 E2 0
                  subst hI
                  unfold xΨfwsi
                  rw [if_neg]
                  intro h
                  unfold sW at h
                  simp only [tWb, Bool.and_true, Bool.and_eq_true, decide_eq_true_eq, List.length_cons, List.length_nil] at h
                  rw [show xE E 35 5 = (v2 5) by omega] at h
                  simp only [Int.add_assoc, Int.reduceAdd] at h
                  omega
                · skip
                  rcases List.mem_cons.mp hx with ex | hx
                  · subst ex
                    obtain ⟨hF, hBd, hM⟩ := hXs
                    have b0 : ((2147483650 : Nat) : Int) ≤ (v2 3) + 2147483648 ∧ (v2 3) + 2147483648 ≤ ((2147483650 : Nat) : Int) := xXb hBd 0 rfl
                    have b1 : ((2147483648 : Nat) : Int) ≤ (v2 4) + 2147483648 ∧ (v2 4) + 2147483648 ≤ ((2147484548 : Nat) : Int) := xXb hBd 1 rfl
                    have b2 : ((2147483648 : Nat) : Int) ≤ (v2 5) + 2147483648 ∧ (v2 5) + 2147483648 ≤ ((2147484544 : Nat) : Int) := xXb hBd 2 rfl
                    have b3 : ((2147483652 : Nat) : Int) ≤ (v2 6) + 2147483648 ∧ (v2 6) + 2147483648 ≤ ((2147483652 : Nat) : Int) := xXb hBd 3 rfl
                    have b4 : ((2147483763 : Nat) : Int) ≤ (v2 7) + 2147483648 ∧ (v2 7) + 2147483648 ≤ ((2147483763 : Nat) : Int) := xXb hBd 4 rfl
                    have b5 : ((2147483754 : Nat) : Int) ≤ (v2 8) + 2147483648 ∧ (v2 8) + 2147483648 ≤ ((2147483775 : Nat) : Int) := xXb hBd 5 rfl
                    have f0 : (0 : Int) ≤ 7 ∧ xE E 35 7 = (v2 3) := xXf hF 0 rfl
                    have f1 : (v2 3) = 2 := xXf hF 1 rfl
                    have f2 : (0 : Int) ≤ 6 ∧ xE E 35 6 = (v2 4) := xXf hF 2 rfl
                    have f3 : (0 : Int) ≤ 5 ∧ xE E 35 5 = (v2 5) := xXf hF 3 rfl
                    have f4 : -2147483648 ≤ (v2 4) - (v2 5) → (v2 4) - (v2 5) < 2147483648 → (v2 6) = (v2 4) - (v2 5) := xXf hF 4 rfl
                    have f4 := f4 (by omega) (by omega)
                    have f5 : (v2 6) = 4 := xXf hF 5 rfl
                    have f6 : (0 : Int) ≤ (v2 5) ∧ xE E 36 (v2 5) = (v2 7) := xXf hF 6 rfl
                    have f7 : (v2 7) = 115 := xXf hF 7 rfl
                    have f8 : (0 : Int) ≤ (v2 5 + 1) ∧ xE E 36 (v2 5 + 1) = (v2 8) := xXf hF 8 rfl
                    have f9 : ¬ (v2 8) = 105 := xXf hF 9 rfl
                    have hI : E = E0 := hInv
                    show xΨfwsi x0 E0 E2 0
                    subst hI
                    unfold xΨfwsi
                    rw [if_neg]
                    intro h
                    unfold sW at h
                    simp only [tWb, Bool.and_true, Bool.and_eq_true, decide_eq_true_eq, List.length_cons, List.length_nil] at h
                    rw [show xE E 35 5 = (v2 5) by omega] at h
                    simp only [Int.add_assoc, Int.reduceAdd] at h
                    omega
                  · skip
                    rcases List.mem_cons.mp hx with ex | hx
                    · subst ex
                      obtain ⟨hF, hBd, hM⟩ := hXs
                      have b0 : ((2147483650 : Nat) : Int) ≤ (v2 3) + 2147483648 ∧ (v2 3) + 2147483648 ≤ ((2147483650 : Nat) : Int) := xXb hBd 0 rfl
                      have b1 : ((2147483648 : Nat) : Int) ≤ (v2 4) + 2147483648 ∧ (v2 4) + 2147483648 ≤ ((2147484548 : Nat) : Int) := xXb hBd 1 rfl
                      have b2 : ((2147483648 : Nat) : Int) ≤ (v2 5) + 2147483648 ∧ (v2 5) + 2147483648 ≤ ((2147484544 : Nat) : Int) := xXb hBd 2 rfl
                      have b3 : ((2147483652 : Nat) : Int) ≤ (v2 6) + 2147483648 ∧ (v2 6) + 2147483648 ≤ ((2147483652 : Nat) : Int) := xXb hBd 3 rfl
                      have b4 : ((2147483763 : Nat) : Int) ≤ (v2 7) + 2147483648 ∧ (v2 7) + 2147483648 ≤ ((2147483763 : Nat) : Int) := xXb hBd 4 rfl
                      have b5 : ((2147483520 : Nat) : Int) ≤ (v2 8) + 2147483648 ∧ (v2 8) + 2147483648 ≤ ((2147483752 : Nat) : Int) := xXb hBd 5 rfl
                      have f0 : (0 : Int) ≤ 7 ∧ xE E 35 7 = (v2 3) := xXf hF 0 rfl
                      have f1 : (v2 3) = 2 := xXf hF 1 rfl
                      have f2 : (0 : Int) ≤ 6 ∧ xE E 35 6 = (v2 4) := xXf hF 2 rfl
                      have f3 : (0 : Int) ≤ 5 ∧ xE E 35 5 = (v2 5) := xXf hF 3 rfl
                      have f4 : -2147483648 ≤ (v2 4) - (v2 5) → (v2 4) - (v2 5) < 2147483648 → (v2 6) = (v2 4) - (v2 5) := xXf hF 4 rfl
                      have f4 := f4 (by omega) (by omega)
                      have f5 : (v2 6) = 4 := xXf hF 5 rfl
                      have f6 : (0 : Int) ≤ (v2 5) ∧ xE E 36 (v2 5) = (v2 7) := xXf hF 6 rfl
                      have f7 : (v2 7) = 115 := xXf hF 7 rfl
                      have f8 : (0 : Int) ≤ (v2 5 + 1) ∧ xE E 36 (v2 5 + 1) = (v2 8) := xXf hF 8 rfl
                      have f9 : ¬ (v2 8) = 105 := xXf hF 9 rfl
                      have hI : E = E0 := hInv
                      show xΨfwsi x0 E0 E2 0
                      subst hI
                      unfold xΨfwsi
                      rw [if_neg]
                      intro h
                      unfold sW at h
                      simp only [tWb, Bool.and_true, Bool.and_eq_true, decide_eq_true_eq, List.length_cons, List.length_nil] at h
                      rw [show xE E 35 5 = (v2 5) by omega] at h
                      simp only [Int.add_assoc, Int.reduceAdd] at h
                      omega
                    · skip
                      rcases List.mem_cons.mp hx with ex | hx
                      · subst ex
                        obtain ⟨hF, hBd, hM⟩ := hXs
                        have b0 : ((2147483650 : Nat) : Int) ≤ (v2 3) + 2147483648 ∧ (v2 3) + 2147483648 ≤ ((2147483650 : Nat) : Int) := xXb hBd 0 rfl
                        have b1 : ((2147483648 : Nat) : Int) ≤ (v2 4) + 2147483648 ∧ (v2 4) + 2147483648 ≤ ((2147484548 : Nat) : Int) := xXb hBd 1 rfl
                        have b2 : ((2147483648 : Nat) : Int) ≤ (v2 5) + 2147483648 ∧ (v2 5) + 2147483648 ≤ ((2147484544 : Nat) : Int) := xXb hBd 2 rfl
                        have b3 : ((2147483652 : Nat) : Int) ≤ (v2 6) + 2147483648 ∧ (v2 6) + 2147483648 ≤ ((2147483652 : Nat) : Int) := xXb hBd 3 rfl
                        have b4 : ((2147483763 : Nat) : Int) ≤ (v2 7) + 2147483648 ∧ (v2 7) + 2147483648 ≤ ((2147483763 : Nat) : Int) := xXb hBd 4 rfl
                        have b5 : ((2147483753 : Nat) : Int) ≤ (v2 8) + 2147483648 ∧ (v2 8) + 2147483648 ≤ ((2147483753 : Nat) : Int) := xXb hBd 5 rfl
                        have b6 : ((2147483771 : Nat) : Int) ≤ (v2 9) + 2147483648 ∧ (v2 9) + 2147483648 ≤ ((2147483775 : Nat) : Int) := xXb hBd 6 rfl
                        have f0 : (0 : Int) ≤ 7 ∧ xE E 35 7 = (v2 3) := xXf hF 0 rfl
                        have f1 : (v2 3) = 2 := xXf hF 1 rfl
                        have f2 : (0 : Int) ≤ 6 ∧ xE E 35 6 = (v2 4) := xXf hF 2 rfl
                        have f3 : (0 : Int) ≤ 5 ∧ xE E 35 5 = (v2 5) := xXf hF 3 rfl
                        have f4 : -2147483648 ≤ (v2 4) - (v2 5) → (v2 4) - (v2 5) < 2147483648 → (v2 6) = (v2 4) - (v2 5) := xXf hF 4 rfl
                        have f4 := f4 (by omega) (by omega)
                        have f5 : (v2 6) = 4 := xXf hF 5 rfl
                        have f6 : (0 : Int) ≤ (v2 5) ∧ xE E 36 (v2 5) = (v2 7) := xXf hF 6 rfl
                        have f7 : (v2 7) = 115 := xXf hF 7 rfl
                        have f8 : (0 : Int) ≤ (v2 5 + 1) ∧ xE E 36 (v2 5 + 1) = (v2 8) := xXf hF 8 rfl
                        have f9 : (v2 8) = 105 := xXf hF 9 rfl
                        have f10 : (0 : Int) ≤ (v2 5 + 2) ∧ xE E 36 (v2 5 + 2) = (v2 9) := xXf hF 10 rfl
                        have f11 : ¬ (v2 9) = 122 := xXf hF 11 rfl
                        have hI : E = E0 := hInv
                        show xΨfwsi x0 E0 E2 0
                        subst hI
                        unfold xΨfwsi
                        rw [if_neg]
                        intro h
                        unfold sW at h
                        simp only [tWb, Bool.and_true, Bool.and_eq_true, decide_eq_true_eq, List.length_cons, List.length_nil] at h
                        rw [show xE E 35 5 = (v2 5) by omega] at h
                        simp only [Int.add_assoc, Int.reduceAdd] at h
                        omega
                      · skip
                        rcases List.mem_cons.mp hx with ex | hx
                        · subst ex
                          obtain ⟨hF, hBd, hM⟩ := hXs
                          have b0 : ((2147483650 : Nat) : Int) ≤ (v2 3) + 2147483648 ∧ (v2 3) + 2147483648 ≤ ((2147483650 : Nat) : Int) := xXb hBd 0 rfl
                          have b1 : ((2147483648 : Nat) : Int) ≤ (v2 4) + 2147483648 ∧ (v2 4) + 2147483648 ≤ ((2147484548 : Nat) : Int) := xXb hBd 1 rfl
                          have b2 : ((2147483648 : Nat) : Int) ≤ (v2 5) + 2147483648 ∧ (v2 5) + 2147483648 ≤ ((2147484544 : Nat) : Int) := xXb hBd 2 rfl
                          have b3 : ((2147483652 : Nat) : Int) ≤ (v2 6) + 2147483648 ∧ (v2 6) + 2147483648 ≤ ((2147483652 : Nat) : Int) := xXb hBd 3 rfl
                          have b4 : ((2147483763 : Nat) : Int) ≤ (v2 7) + 2147483648 ∧ (v2 7) + 2147483648 ≤ ((2147483763 : Nat) : Int) := xXb hBd 4 rfl
                          have b5 : ((2147483753 : Nat) : Int) ≤ (v2 8) + 2147483648 ∧ (v2 8) + 2147483648 ≤ ((2147483753 : Nat) : Int) := xXb hBd 5 rfl
                          have b6 : ((2147483520 : Nat) : Int) ≤ (v2 9) + 2147483648 ∧ (v2 9) + 2147483648 ≤ ((2147483769 : Nat) : Int) := xXb hBd 6 rfl
                          have f0 : (0 : Int) ≤ 7 ∧ xE E 35 7 = (v2 3) := xXf hF 0 rfl
                          have f1 : (v2 3) = 2 := xXf hF 1 rfl
                          have f2 : (0 : Int) ≤ 6 ∧ xE E 35 6 = (v2 4) := xXf hF 2 rfl
                          have f3 : (0 : Int) ≤ 5 ∧ xE E 35 5 = (v2 5) := xXf hF 3 rfl
                          have f4 : -2147483648 ≤ (v2 4) - (v2 5) → (v2 4) - (v2 5) < 2147483648 → (v2 6) = (v2 4) - (v2 5) := xXf hF 4 rfl
                          have f4 := f4 (by omega) (by omega)
                          have f5 : (v2 6) = 4 := xXf hF 5 rfl
                          have f6 : (0 : Int) ≤ (v2 5) ∧ xE E 36 (v2 5) = (v2 7) := xXf hF 6 rfl
                          have f7 : (v2 7) = 115 := xXf hF 7 rfl
                          have f8 : (0 : Int) ≤ (v2 5 + 1) ∧ xE E 36 (v2 5 + 1) = (v2 8) := xXf hF 8 rfl
                          have f9 : (v2 8) = 105 := xXf hF 9 rfl
                          have f10 : (0 : Int) ≤ (v2 5 + 2) ∧ xE E 36 (v2 5 + 2) = (v2 9) := xXf hF 10 rfl
                          have f11 : ¬ (v2 9) = 122 := xXf hF 11 rfl
                          have hI : E = E0 := hInv
                          show xΨfwsi x0 E0 E2 0
                          subst hI
                          unfold xΨfwsi
                          rw [if_neg]
                          intro h
                          unfold sW at h
                          simp only [tWb, Bool.and_true, Bool.and_eq_true, decide_eq_true_eq, List.length_cons, List.length_nil] at h
                          rw [show xE E 35 5 = (v2 5) by omega] at h
                          simp only [Int.add_assoc, Int.reduceAdd] at h
                          omega
                        · skip
                          rcases List.mem_cons.mp hx with ex | hx
                          · subst ex
                            obtain ⟨hF, hBd, hM⟩ := hXs
                            have b0 : ((2147483650 : Nat) : Int) ≤ (v2 3) + 2147483648 ∧ (v2 3) + 2147483648 ≤ ((2147483650 : Nat) : Int) := xXb hBd 0 rfl
                            have b1 : ((2147483648 : Nat) : Int) ≤ (v2 4) + 2147483648 ∧ (v2 4) + 2147483648 ≤ ((2147484548 : Nat) : Int) := xXb hBd 1 rfl
                            have b2 : ((2147483648 : Nat) : Int) ≤ (v2 5) + 2147483648 ∧ (v2 5) + 2147483648 ≤ ((2147484544 : Nat) : Int) := xXb hBd 2 rfl
                            have b3 : ((2147483652 : Nat) : Int) ≤ (v2 6) + 2147483648 ∧ (v2 6) + 2147483648 ≤ ((2147483652 : Nat) : Int) := xXb hBd 3 rfl
                            have b4 : ((2147483763 : Nat) : Int) ≤ (v2 7) + 2147483648 ∧ (v2 7) + 2147483648 ≤ ((2147483763 : Nat) : Int) := xXb hBd 4 rfl
                            have b5 : ((2147483753 : Nat) : Int) ≤ (v2 8) + 2147483648 ∧ (v2 8) + 2147483648 ≤ ((2147483753 : Nat) : Int) := xXb hBd 5 rfl
                            have b6 : ((2147483770 : Nat) : Int) ≤ (v2 9) + 2147483648 ∧ (v2 9) + 2147483648 ≤ ((2147483770 : Nat) : Int) := xXb hBd 6 rfl
                            have b7 : ((2147483750 : Nat) : Int) ≤ (v2 10) + 2147483648 ∧ (v2 10) + 2147483648 ≤ ((2147483775 : Nat) : Int) := xXb hBd 7 rfl
                            have f0 : (0 : Int) ≤ 7 ∧ xE E 35 7 = (v2 3) := xXf hF 0 rfl
                            have f1 : (v2 3) = 2 := xXf hF 1 rfl
                            have f2 : (0 : Int) ≤ 6 ∧ xE E 35 6 = (v2 4) := xXf hF 2 rfl
                            have f3 : (0 : Int) ≤ 5 ∧ xE E 35 5 = (v2 5) := xXf hF 3 rfl
                            have f4 : -2147483648 ≤ (v2 4) - (v2 5) → (v2 4) - (v2 5) < 2147483648 → (v2 6) = (v2 4) - (v2 5) := xXf hF 4 rfl
                            have f4 := f4 (by omega) (by omega)
                            have f5 : (v2 6) = 4 := xXf hF 5 rfl
                            have f6 : (0 : Int) ≤ (v2 5) ∧ xE E 36 (v2 5) = (v2 7) := xXf hF 6 rfl
                            have f7 : (v2 7) = 115 := xXf hF 7 rfl
                            have f8 : (0 : Int) ≤ (v2 5 + 1) ∧ xE E 36 (v2 5 + 1) = (v2 8) := xXf hF 8 rfl
                            have f9 : (v2 8) = 105 := xXf hF 9 rfl
                            have f10 : (0 : Int) ≤ (v2 5 + 2) ∧ xE E 36 (v2 5 + 2) = (v2 9) := xXf hF 10 rfl
                            have f11 : (v2 9) = 122 := xXf hF 11 rfl
                            have f12 : (0 : Int) ≤ (v2 5 + 3) ∧ xE E 36 (v2 5 + 3) = (v2 10) := xXf hF 12 rfl
                            have f13 : ¬ (v2 10) = 101 := xXf hF 13 rfl
                            have hI : E = E0 := hInv
                            show xΨfwsi x0 E0 E2 0
                            subst hI
                            unfold xΨfwsi
                            rw [if_neg]
                            intro h
                            unfold sW at h
                            simp only [tWb, Bool.and_true, Bool.and_eq_true, decide_eq_true_eq, List.length_cons, List.length_nil] at h
                            rw [show xE E 35 5 = (v2 5) by omega] at h
                            simp only [Int.add_assoc, Int.reduceAdd] at h
                            omega
                          · skip
                            rcases List.mem_cons.mp hx with ex | hx
                            · subst ex
                              obtain ⟨hF, hBd, hM⟩ := hXs
                              have b0 : ((2147483650 : Nat) : Int) ≤ (v2 3) + 2147483648 ∧ (v2 3) + 2147483648 ≤ ((2147483650 : Nat) : Int) := xXb hBd 0 rfl
                              have b1 : ((2147483648 : Nat) : Int) ≤ (v2 4) + 2147483648 ∧ (v2 4) + 2147483648 ≤ ((2147484548 : Nat) : Int) := xXb hBd 1 rfl
                              have b2 : ((2147483648 : Nat) : Int) ≤ (v2 5) + 2147483648 ∧ (v2 5) + 2147483648 ≤ ((2147484544 : Nat) : Int) := xXb hBd 2 rfl
                              have b3 : ((2147483652 : Nat) : Int) ≤ (v2 6) + 2147483648 ∧ (v2 6) + 2147483648 ≤ ((2147483652 : Nat) : Int) := xXb hBd 3 rfl
                              have b4 : ((2147483763 : Nat) : Int) ≤ (v2 7) + 2147483648 ∧ (v2 7) + 2147483648 ≤ ((2147483763 : Nat) : Int) := xXb hBd 4 rfl
                              have b5 : ((2147483753 : Nat) : Int) ≤ (v2 8) + 2147483648 ∧ (v2 8) + 2147483648 ≤ ((2147483753 : Nat) : Int) := xXb hBd 5 rfl
                              have b6 : ((2147483770 : Nat) : Int) ≤ (v2 9) + 2147483648 ∧ (v2 9) + 2147483648 ≤ ((2147483770 : Nat) : Int) := xXb hBd 6 rfl
                              have b7 : ((2147483520 : Nat) : Int) ≤ (v2 10) + 2147483648 ∧ (v2 10) + 2147483648 ≤ ((2147483748 : Nat) : Int) := xXb hBd 7 rfl
                              have f0 : (0 : Int) ≤ 7 ∧ xE E 35 7 = (v2 3) := xXf hF 0 rfl
                              have f1 : (v2 3) = 2 := xXf hF 1 rfl
                              have f2 : (0 : Int) ≤ 6 ∧ xE E 35 6 = (v2 4) := xXf hF 2 rfl
                              have f3 : (0 : Int) ≤ 5 ∧ xE E 35 5 = (v2 5) := xXf hF 3 rfl
                              have f4 : -2147483648 ≤ (v2 4) - (v2 5) → (v2 4) - (v2 5) < 2147483648 → (v2 6) = (v2 4) - (v2 5) := xXf hF 4 rfl
                              have f4 := f4 (by omega) (by omega)
                              have f5 : (v2 6) = 4 := xXf hF 5 rfl
                              have f6 : (0 : Int) ≤ (v2 5) ∧ xE E 36 (v2 5) = (v2 7) := xXf hF 6 rfl
                              have f7 : (v2 7) = 115 := xXf hF 7 rfl
                              have f8 : (0 : Int) ≤ (v2 5 + 1) ∧ xE E 36 (v2 5 + 1) = (v2 8) := xXf hF 8 rfl
                              have f9 : (v2 8) = 105 := xXf hF 9 rfl
                              have f10 : (0 : Int) ≤ (v2 5 + 2) ∧ xE E 36 (v2 5 + 2) = (v2 9) := xXf hF 10 rfl
                              have f11 : (v2 9) = 122 := xXf hF 11 rfl
                              have f12 : (0 : Int) ≤ (v2 5 + 3) ∧ xE E 36 (v2 5 + 3) = (v2 10) := xXf hF 12 rfl
                              have f13 : ¬ (v2 10) = 101 := xXf hF 13 rfl
                              have hI : E = E0 := hInv
                              show xΨfwsi x0 E0 E2 0
                              subst hI
                              unfold xΨfwsi
                              rw [if_neg]
                              intro h
                              unfold sW at h
                              simp only [tWb, Bool.and_true, Bool.and_eq_true, decide_eq_true_eq, List.length_cons, List.length_nil] at h
                              rw [show xE E 35 5 = (v2 5) by omega] at h
                              simp only [Int.add_assoc, Int.reduceAdd] at h
                              omega
                            · skip
                              have ex := List.mem_singleton.mp hx
                              subst ex
                              obtain ⟨hF, hBd, hM⟩ := hXs
                              have b0 : ((2147483650 : Nat) : Int) ≤ (v2 3) + 2147483648 ∧ (v2 3) + 2147483648 ≤ ((2147483650 : Nat) : Int) := xXb hBd 0 rfl
                              have b1 : ((2147483648 : Nat) : Int) ≤ (v2 4) + 2147483648 ∧ (v2 4) + 2147483648 ≤ ((2147484548 : Nat) : Int) := xXb hBd 1 rfl
                              have b2 : ((2147483648 : Nat) : Int) ≤ (v2 5) + 2147483648 ∧ (v2 5) + 2147483648 ≤ ((2147484544 : Nat) : Int) := xXb hBd 2 rfl
                              have b3 : ((2147483652 : Nat) : Int) ≤ (v2 6) + 2147483648 ∧ (v2 6) + 2147483648 ≤ ((2147483652 : Nat) : Int) := xXb hBd 3 rfl
                              have b4 : ((2147483763 : Nat) : Int) ≤ (v2 7) + 2147483648 ∧ (v2 7) + 2147483648 ≤ ((2147483763 : Nat) : Int) := xXb hBd 4 rfl
                              have b5 : ((2147483753 : Nat) : Int) ≤ (v2 8) + 2147483648 ∧ (v2 8) + 2147483648 ≤ ((2147483753 : Nat) : Int) := xXb hBd 5 rfl
                              have b6 : ((2147483770 : Nat) : Int) ≤ (v2 9) + 2147483648 ∧ (v2 9) + 2147483648 ≤ ((2147483770 : Nat) : Int) := xXb hBd 6 rfl
                              have b7 : ((2147483749 : Nat) : Int) ≤ (v2 10) + 2147483648 ∧ (v2 10) + 2147483648 ≤ ((2147483749 : Nat) : Int) := xXb hBd 7 rfl
                              have f0 : (0 : Int) ≤ 7 ∧ xE E 35 7 = (v2 3) := xXf hF 0 rfl
                              have f1 : (v2 3) = 2 := xXf hF 1 rfl
                              have f2 : (0 : Int) ≤ 6 ∧ xE E 35 6 = (v2 4) := xXf hF 2 rfl
                              have f3 : (0 : Int) ≤ 5 ∧ xE E 35 5 = (v2 5) := xXf hF 3 rfl
                              have f4 : -2147483648 ≤ (v2 4) - (v2 5) → (v2 4) - (v2 5) < 2147483648 → (v2 6) = (v2 4) - (v2 5) := xXf hF 4 rfl
                              have f4 := f4 (by omega) (by omega)
                              have f5 : (v2 6) = 4 := xXf hF 5 rfl
                              have f6 : (0 : Int) ≤ (v2 5) ∧ xE E 36 (v2 5) = (v2 7) := xXf hF 6 rfl
                              have f7 : (v2 7) = 115 := xXf hF 7 rfl
                              have f8 : (0 : Int) ≤ (v2 5 + 1) ∧ xE E 36 (v2 5 + 1) = (v2 8) := xXf hF 8 rfl
                              have f9 : (v2 8) = 105 := xXf hF 9 rfl
                              have f10 : (0 : Int) ≤ (v2 5 + 2) ∧ xE E 36 (v2 5 + 2) = (v2 9) := xXf hF 10 rfl
                              have f11 : (v2 9) = 122 := xXf hF 11 rfl
                              have f12 : (0 : Int) ≤ (v2 5 + 3) ∧ xE E 36 (v2 5 + 3) = (v2 10) := xXf hF 12 rfl
                              have f13 : (v2 10) = 101 := xXf hF 13 rfl
                              have hI : E = E0 := hInv
                              show xΨfwsi x0 E0 E2 1
                              subst hI
                              unfold xΨfwsi
                              rw [if_pos]
                              unfold sW
                              simp only [tWb, Bool.and_true, Bool.and_eq_true, decide_eq_true_eq, List.length_cons, List.length_nil]
                              rw [show xE E 35 5 = (v2 5) by omega]
                              simp only [Int.add_assoc, Int.reduceAdd]
                              refine ⟨by omega, by omega, ?_⟩
                              refine ⟨by omega, by omega, by omega, by omega⟩
