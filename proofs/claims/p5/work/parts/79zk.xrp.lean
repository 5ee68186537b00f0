/-! THE REFERENCE takes a number (printed by m18.py) -/
noncomputable def zxftm_zx0 : zyXp := (0, [595, 34359738369, 68719476737, 13], [], [], [], [])
noncomputable def zpftm_z : zyPh := (0, [595, 34359738369, 68719476737, 13], [(0, 4294967295), (0, 4294967295), (0, 4294967295), (0, 4294967295)], [], [])
noncomputable def zxftm_ax0 : zyXp := (19, [595, 34359738369, 68719476737, 274877906945], [595], [(22, 0, 206158430209, 16), (21, 0, 274877906945, 34359738369), (21, 0, 68719476737, 274877906945), (22, 0, 137438953473, 0)], [(34359738369, 0, 2147484647), (68719476737, 2147483648, 4294967295), (137438953473, 2147483648, 2147483648), (206158430209, 2147483650, 2147483650), (274877906945, 2147483648, 2147484647)], [(1212452, 137438953473), (1212453, 171798691841)])
noncomputable def zxftm_ar0 : zyXp := (0, [], [274877906945], [(23, 0, 206158430209, 16), (20, 0, 0, 137438953473), (20, 0, 274877906945, 34359738369), (20, 0, 0, 137438953473), (23, 0, 137438953473, 0)], [(34359738369, 2147483649, 4294967295), (137438953473, 2147483649, 2147483657), (206158430209, 2147483651, 2147483652), (274877906945, 2147483648, 2147484647)], [(1212452, 137438953473), (1212453, 171798691841)])
noncomputable def zxftm_ar1 : zyXp := (0, [], [274877906945], [(23, 0, 206158430209, 16), (20, 0, 0, 137438953473), (21, 0, 274877906945, 34359738369), (20, 0, 68719476737, 274877906945), (20, 0, 0, 137438953473), (23, 0, 137438953473, 0)], [(34359738369, 0, 2147484647), (68719476737, 0, 2147484646), (137438953473, 2147483649, 2147483657), (206158430209, 2147483651, 2147483652), (274877906945, 2147483648, 2147484647)], [(1212452, 137438953473), (1212453, 171798691841)])
noncomputable def zxftm_ar2 : zyXp := (0, [], [274877906945], [(23, 0, 206158430209, 16), (20, 0, 0, 137438953473), (21, 0, 274877906945, 34359738369), (21, 0, 68719476737, 274877906945), (23, 0, 137438953473, 0)], [(34359738369, 0, 2147484647), (68719476737, 2147483648, 4294967295), (137438953473, 2147483649, 2147483657), (206158430209, 2147483651, 2147483652), (274877906945, 2147483648, 2147484647)], [(1212452, 137438953473), (1212453, 171798691841)])
noncomputable def zxftm_ar3 : zyXp := (0, [], [274877906945], [(23, 0, 206158430209, 16), (21, 0, 0, 137438953473), (23, 0, 206158430209, 32), (20, 0, 274877906945, 34359738369)], [(34359738369, 2147483649, 4294967295), (137438953473, 2147483648, 2147483648), (206158430209, 2147483651, 2147483651), (240518168577, 2147483648, 2147484548), (274877906945, 2147483648, 2147484647)], [(1212452, 16), (1212453, 240518168577)])
noncomputable def zxftm_ar4 : zyXp := (0, [], [274877906945], [(23, 0, 206158430209, 16), (21, 0, 0, 137438953473), (23, 0, 206158430209, 32), (21, 0, 274877906945, 34359738369), (20, 0, 68719476737, 274877906945)], [(34359738369, 0, 2147484647), (68719476737, 0, 2147484646), (137438953473, 2147483648, 2147483648), (206158430209, 2147483651, 2147483651), (240518168577, 2147483648, 2147484548), (274877906945, 2147483648, 2147484647)], [(1212452, 16), (1212453, 240518168577)])
noncomputable def zxftm_ar5 : zyXp := (0, [], [274877906945], [(23, 0, 206158430209, 16), (21, 0, 0, 137438953473), (23, 0, 206158430209, 32), (21, 0, 274877906945, 34359738369), (21, 0, 68719476737, 274877906945)], [(34359738369, 0, 2147484647), (68719476737, 2147483648, 4294967295), (137438953473, 2147483648, 2147483648), (206158430209, 2147483651, 2147483651), (240518168577, 2147483648, 2147484548), (274877906945, 2147483648, 2147484647)], [(1212452, 16), (1212453, 240518168577)])
noncomputable def zxftm_ar6 : zyXp := (0, [], [274877906945], [(23, 0, 206158430209, 16), (21, 0, 0, 137438953473), (22, 0, 206158430209, 32), (20, 0, 274877906945, 34359738369)], [(34359738369, 2147483649, 4294967295), (137438953473, 2147483648, 2147483648), (206158430209, 2147483652, 2147483652), (240518168577, 2147483648, 2147484548), (274877906945, 2147483648, 2147484647)], [(1212452, 8), (1212453, 240518168577)])
noncomputable def zxftm_ar7 : zyXp := (0, [], [274877906945], [(23, 0, 206158430209, 16), (21, 0, 0, 137438953473), (22, 0, 206158430209, 32), (21, 0, 274877906945, 34359738369), (20, 0, 68719476737, 274877906945)], [(34359738369, 0, 2147484647), (68719476737, 0, 2147484646), (137438953473, 2147483648, 2147483648), (206158430209, 2147483652, 2147483652), (240518168577, 2147483648, 2147484548), (274877906945, 2147483648, 2147484647)], [(1212452, 8), (1212453, 240518168577)])
noncomputable def zxftm_ar8 : zyXp := (0, [], [274877906945], [(23, 0, 206158430209, 16), (21, 0, 0, 137438953473), (22, 0, 206158430209, 32), (21, 0, 274877906945, 34359738369), (21, 0, 68719476737, 274877906945)], [(34359738369, 0, 2147484647), (68719476737, 2147483648, 4294967295), (137438953473, 2147483648, 2147483648), (206158430209, 2147483652, 2147483652), (240518168577, 2147483648, 2147484548), (274877906945, 2147483648, 2147484647)], [(1212452, 8), (1212453, 240518168577)])
noncomputable def zxftm_ar9 : zyXp := (0, [], [274877906945], [(23, 0, 206158430209, 16), (20, 0, 0, 137438953473), (20, 0, 274877906945, 34359738369), (20, 0, 0, 137438953473), (23, 0, 137438953473, 0)], [(34359738369, 2147483649, 4294967295), (137438953473, 2147483649, 2147483657), (206158430209, 2147483648, 2147483649), (274877906945, 2147483648, 2147484647)], [(1212452, 137438953473), (1212453, 171798691841)])
noncomputable def zxftm_ar10 : zyXp := (0, [], [274877906945], [(23, 0, 206158430209, 16), (20, 0, 0, 137438953473), (21, 0, 274877906945, 34359738369), (20, 0, 68719476737, 274877906945), (20, 0, 0, 137438953473), (23, 0, 137438953473, 0)], [(34359738369, 0, 2147484647), (68719476737, 0, 2147484646), (137438953473, 2147483649, 2147483657), (206158430209, 2147483648, 2147483649), (274877906945, 2147483648, 2147484647)], [(1212452, 137438953473), (1212453, 171798691841)])
noncomputable def zxftm_ar11 : zyXp := (0, [], [274877906945], [(23, 0, 206158430209, 16), (20, 0, 0, 137438953473), (21, 0, 274877906945, 34359738369), (21, 0, 68719476737, 274877906945), (23, 0, 137438953473, 0)], [(34359738369, 0, 2147484647), (68719476737, 2147483648, 4294967295), (137438953473, 2147483649, 2147483657), (206158430209, 2147483648, 2147483649), (274877906945, 2147483648, 2147484647)], [(1212452, 137438953473), (1212453, 171798691841)])
noncomputable def zxftm_ar12 : zyXp := (0, [], [274877906945], [(23, 0, 206158430209, 16), (21, 0, 0, 137438953473), (23, 0, 206158430209, 32), (20, 0, 274877906945, 34359738369)], [(34359738369, 2147483649, 4294967295), (137438953473, 2147483648, 2147483648), (206158430209, 2147483648, 2147483649), (240518168577, 2147483648, 2147484548), (274877906945, 2147483648, 2147484647)], [(1212452, 16), (1212453, 240518168577)])
noncomputable def zxftm_ar13 : zyXp := (0, [], [274877906945], [(23, 0, 206158430209, 16), (21, 0, 0, 137438953473), (23, 0, 206158430209, 32), (21, 0, 274877906945, 34359738369), (20, 0, 68719476737, 274877906945)], [(34359738369, 0, 2147484647), (68719476737, 0, 2147484646), (137438953473, 2147483648, 2147483648), (206158430209, 2147483648, 2147483649), (240518168577, 2147483648, 2147484548), (274877906945, 2147483648, 2147484647)], [(1212452, 16), (1212453, 240518168577)])
noncomputable def zxftm_ar14 : zyXp := (0, [], [274877906945], [(23, 0, 206158430209, 16), (21, 0, 0, 137438953473), (23, 0, 206158430209, 32), (21, 0, 274877906945, 34359738369), (21, 0, 68719476737, 274877906945)], [(34359738369, 0, 2147484647), (68719476737, 2147483648, 4294967295), (137438953473, 2147483648, 2147483648), (206158430209, 2147483648, 2147483649), (240518168577, 2147483648, 2147484548), (274877906945, 2147483648, 2147484647)], [(1212452, 16), (1212453, 240518168577)])
noncomputable def zxftm_ar15 : zyXp := (0, [], [274877906945], [(22, 0, 206158430209, 16), (20, 0, 274877906945, 34359738369), (20, 0, 0, 137438953473), (23, 0, 137438953473, 0)], [(34359738369, 2147483649, 4294967295), (137438953473, 2147483649, 2147483657), (206158430209, 2147483650, 2147483650), (274877906945, 2147483648, 2147484647)], [(1212452, 137438953473), (1212453, 171798691841)])
noncomputable def zxftm_ar16 : zyXp := (0, [], [274877906945], [(22, 0, 206158430209, 16), (20, 0, 274877906945, 34359738369), (21, 0, 0, 137438953473)], [(34359738369, 2147483649, 4294967295), (137438953473, 2147483648, 2147483648), (206158430209, 2147483650, 2147483650), (240518168577, 2147483648, 2147484548), (274877906945, 2147483648, 2147484647)], [(1212452, 24), (1212453, 240518168577)])
noncomputable def zxftm_ar17 : zyXp := (0, [], [274877906945], [(22, 0, 206158430209, 16), (21, 0, 274877906945, 34359738369), (20, 0, 68719476737, 274877906945), (20, 0, 0, 137438953473), (23, 0, 137438953473, 0)], [(34359738369, 0, 2147484647), (68719476737, 0, 2147484646), (137438953473, 2147483649, 2147483657), (206158430209, 2147483650, 2147483650), (274877906945, 2147483648, 2147484647)], [(1212452, 137438953473), (1212453, 171798691841)])
noncomputable def zxftm_ar18 : zyXp := (0, [], [274877906945], [(22, 0, 206158430209, 16), (21, 0, 274877906945, 34359738369), (20, 0, 68719476737, 274877906945), (21, 0, 0, 137438953473)], [(34359738369, 0, 2147484647), (68719476737, 0, 2147484646), (137438953473, 2147483648, 2147483648), (206158430209, 2147483650, 2147483650), (240518168577, 2147483648, 2147484548), (274877906945, 2147483648, 2147484647)], [(1212452, 24), (1212453, 240518168577)])
noncomputable def zxftm_ar19 : zyXp := (0, [], [274877906945], [(22, 0, 206158430209, 16), (21, 0, 274877906945, 34359738369), (21, 0, 68719476737, 274877906945), (23, 0, 137438953473, 0)], [(34359738369, 0, 2147484647), (68719476737, 2147483648, 4294967295), (137438953473, 2147483649, 2147483657), (206158430209, 2147483650, 2147483650), (274877906945, 2147483648, 2147484647)], [(1212452, 137438953473), (1212453, 171798691841)])
noncomputable def zpftm_a : zyPh := (0, [595, 34359738369, 68719476737, 13], [(0, 4294967295), (0, 4294967295), (0, 4294967295), (0, 4294967295), (2147483648, 2147483657), (0, 4294967295), (2147483648, 2147483652), (2147483648, 2147484548), (2147483648, 2147484647)], [(1212452, 137438953473), (1212453, 171798691841), (1212456, 206158430209), (1212454, 240518168577), (1212457, 274877906945)], [])
noncomputable def zxftm_br0 : zyXp := (0, [], [103079215105], [], [(103079215105, 2147483648, 2147484647)], [])
noncomputable def zpftm_b : zyPh := (22, [595, 34359738369, 68719476737, 103079215105], [(0, 4294967295), (0, 4294967295), (0, 4294967295), (2147483648, 2147484647)], [], [])
noncomputable def zpftm (i : Nat) : zyPh := zif (Nat.beq i 0) (zpftm_z) (zif (Nat.beq i 1) (zpftm_a) (zpftm_b))
noncomputable def zXftm (i : Nat) : List zyXp := zif (Nat.beq i 0) ([zxftm_zx0]) (zif (Nat.beq i 1) ([zxftm_ax0]) ([]))
noncomputable def zRftm (i : Nat) : List zyXp := zif (Nat.beq i 0) ([]) (zif (Nat.beq i 1) ([zxftm_ar0, zxftm_ar1, zxftm_ar2, zxftm_ar3, zxftm_ar4, zxftm_ar5, zxftm_ar6, zxftm_ar7, zxftm_ar8, zxftm_ar9, zxftm_ar10, zxftm_ar11, zxftm_ar12, zxftm_ar13, zxftm_ar14, zxftm_ar15, zxftm_ar16, zxftm_ar17, zxftm_ar18, zxftm_ar19]) ([zxftm_br0]))
noncomputable def zFftm (i : Nat) : zyR := zif (Nat.beq i 0) ([]) (zif (Nat.beq i 1) ([(74, 36, 37)]) ([]))
noncomputable def zSftm (i : Nat) : Nat := zif (Nat.beq i 0) (0) (zif (Nat.beq i 1) (0) (0))
/-- a number is taken, or it is a fault -/
def xΦtm (_ : Nat → Int) (E : zyEm) : Prop := xE E 74 36 = 0 → xE E 74 40 = 2 → xE E 74 39 ≤ xE E 74 42
def xΨtm (x : Nat → Int) (E E2 : zyEm) (r : Int) : Prop := if xE E 74 36 = 0 then (if xE E 74 40 = 2 then (if x 0 ≤ xE E 74 41 ∧ xE E 74 41 ≤ x 1 then xE E2 74 36 = 0 ∧ r = xE E 74 41 ∧ xRD (xE E 84) (xE E 74 42) (xE E 74 39) E2 else xE E2 74 36 = 3 ∧ xE E2 74 37 = xE E 74 38) else xE E2 74 36 = (if xE E 74 40 = 4 then 1 else 2) ∧ xE E2 74 37 = xE E 74 38) else xE E2 74 36 = xE E 74 36 ∧ xE E2 74 37 = xE E 74 37
noncomputable def fpftm : zyR := [(74, 36, 41), (74, 43, 43)]
theorem zyftm_run : zyrS zymx zxi320 (320, 0, 0, 1, 0) 4 zpftm (fun _ _ => []) zFftm zSftm zXftm zRftm 3 = true := by decide +kernel
theorem zyftm_ck : zyAll (fun i => xsubR (zFftm i) fpftm && ((zXftm i).all xckX && (zRftm i).all (fun x => xckX x && xrtB true x))) 3 = true := by decide +kernel
def xIftm (i : Nat) (x0 : Nat → Int) (E0 : zyEm) (v : Nat → Int) (E : zyEm) : Prop := if i = 0 then (E = E0 ∧ (v 1) = x0 0 ∧ (v 2) = x0 1) else if i = 1 then (E = E0 ∧ (v 1) = x0 0 ∧ (v 2) = x0 1) else (xE E0 74 36 = 0 ∧ xE E0 74 40 = 2 ∧ (x0 0 ≤ xE E0 74 41 ∧ xE E0 74 41 ≤ x0 1) ∧ xE E 74 36 = 0 ∧ (v 3) = xE E0 74 41 ∧ xRD (xE E0 84) (xE E0 74 42) (xE E0 74 39) E)
def xMftm (i : Nat) (x0 : Nat → Int) (E0 : zyEm) (v : Nat → Int) (E : zyEm) : Nat := if i = 0 then (3) else if i = 1 then (2) else (1)
theorem xTm {l : Launch} {en : zEn} {me : zMe} (hen : zG zxMeta 320 = some en) (hme : zG zMeth 320 = some me) : xFc l zymx en me 4 [74] 2 fpftm true xΦtm xΨtm := by
  have een : zG zxMeta 320 = some (zxi320, 3, 4, 11, 320, 0, 0, 1, 0) := rfl
  obtain ⟨me1, hme1, hOK⟩ := zall hen
  rw [hme] at hme1
  cases hme1
  rw [een] at hen
  cases hen
  have hr := zyftm_run
  have hck := fun i hi => zyAll_iff zyftm_ck i hi
  simp only [Bool.and_eq_true] at hck
  obtain ⟨mefrd, hmefrd, -⟩ := zall (show zG zxMeta 314 = some (zxi314, 1, 1, 11, 314, 0, 0, 0, 0) from rfl)
  have hfrd := xRd (l := l) (show zG zxMeta 314 = some (zxi314, 1, 1, 11, 314, 0, 0, 0, 0) from rfl) hmefrd
  intro B
  refine xcut (mi := zymx) (B := B) hOK rfl rfl (ι := Fin 3) (fun i => zpftm i.val) (fun _ _ => []) (fun i => zFftm i.val) (fun i => zSftm i.val) (fun i => zXftm i.val) (fun i => zRftm i.val) (fun i y2 ct en2 me2 h => by cases h) 200000 (fun i => zyAll_iff hr i.val i.isLt) (fun i => (hck i.val i.isLt).1) (fun i => (hck i.val i.isLt).2.1) (fun i => (hck i.val i.isLt).2.2) ⟨0, by decide⟩ ⟨rfl, rfl, rfl, rfl⟩ ⟨by decide, by decide⟩ (fun i x0 E0 v E => xIftm i.val x0 E0 v E) (fun i x0 E0 v E => xMftm i.val x0 E0 v E) ?_ ?_ ?_
  · intro x0 E hx0 hT hΦ
    have hΦ : xΦtm x0 E := hΦ
    refine ⟨fun k p hp => ?_, ?_⟩
    · have hk : k < 4 := (List.getElem?_eq_some_iff.mp hp).1
      have hk : k = 0 ∨ k = 1 ∨ k = 2 ∨ k = 3 := by omega
      rcases hk with rfl | rfl | rfl | rfl
      · have hp : some (0, 4294967295) = some p := hp
        cases hp
        show ((0 : Nat) : Int) ≤ 0 + 2147483648 ∧ 0 + 2147483648 ≤ ((4294967295 : Nat) : Int)
        omega
      · have hp : some (0, 4294967295) = some p := hp
        cases hp
        show ((0 : Nat) : Int) ≤ x0 0 + 2147483648 ∧ x0 0 + 2147483648 ≤ ((4294967295 : Nat) : Int)
        have hx := hx0 0
        omega
      · have hp : some (0, 4294967295) = some p := hp
        cases hp
        show ((0 : Nat) : Int) ≤ x0 1 + 2147483648 ∧ x0 1 + 2147483648 ≤ ((4294967295 : Nat) : Int)
        have hx := hx0 1
        omega
      · have hp : some (0, 4294967295) = some p := hp
        cases hp
        show ((0 : Nat) : Int) ≤ x0 2 + 2147483648 ∧ x0 2 + 2147483648 ≤ ((4294967295 : Nat) : Int)
        have hx := hx0 2
        omega
    · show E = E ∧ (x0 0) = x0 0 ∧ (x0 1) = x0 1
      exact ⟨rfl, rfl, rfl⟩
  · intro x0 s Wg hRu hrx hT0 hΦ i v H hT hrv hInv hKc hFr0 hIH x hx ρ2 v2 N2 H2 locs lsB stA hAt hB hv hr2 hXs hag hfr hFr hT2
    rcases i with ⟨i, hi⟩
    have hi2 : i = 0 ∨ i = 1 ∨ i = 2 := by omega
    rcases hi2 with rfl | rfl | rfl
    · have hx : x ∈ [zxftm_zx0] := hx
      have hag : ∀ k, k < 4 → v2 k = v k := hag
      have hfr : xFr [] _ _ := hfr
      have ex := List.mem_singleton.mp hx
      subst ex
      obtain ⟨hF, hBd, hM⟩ := hXs
      have r1 := hr2 1
      have r2 := hr2 2
      have g1 : v2 1 = v 1 := hag 1 (by decide)
      have g2 : v2 2 = v 2 := hag 2 (by decide)
      have e74_36 : xE (zyEl zymx B H2) 74 36 = xE (zyEl zymx B H) 74 36 := xFr_E hfr rfl
      have e74_37 : xE (zyEl zymx B H2) 74 37 = xE (zyEl zymx B H) 74 37 := xFr_E hfr rfl
      have e74_38 : xE (zyEl zymx B H2) 74 38 = xE (zyEl zymx B H) 74 38 := xFr_E hfr rfl
      have e74_39 : xE (zyEl zymx B H2) 74 39 = xE (zyEl zymx B H) 74 39 := xFr_E hfr rfl
      have e74_40 : xE (zyEl zymx B H2) 74 40 = xE (zyEl zymx B H) 74 40 := xFr_E hfr rfl
      have e74_41 : xE (zyEl zymx B H2) 74 41 = xE (zyEl zymx B H) 74 41 := xFr_E hfr rfl
      have e74_42 : xE (zyEl zymx B H2) 74 42 = xE (zyEl zymx B H) 74 42 := xFr_E hfr rfl
      have q74_42 : xE (zyEl zymx B H) 74 42 = xE (zyEl zymx B s.heap) 74 42 := xFr_E hFr0 rfl
      have e84 : ∀ i, xE (zyEl zymx B H2) 84 i = xE (zyEl zymx B H) 84 i := fun i => xFr_E hfr rfl
      have q84 : ∀ i, xE (zyEl zymx B H) 84 i = xE (zyEl zymx B s.heap) 84 i := fun i => xFr_E hFr0 rfl
      have hI : (zyEl zymx B H) = (zyEl zymx B s.heap) ∧ (v 1) = x0 0 ∧ (v 2) = x0 1 := hInv
      have q74_36 : xE (zyEl zymx B H) 74 36 = xE (zyEl zymx B s.heap) 74 36 := by rw [hI.1]
      have q74_37 : xE (zyEl zymx B H) 74 37 = xE (zyEl zymx B s.heap) 74 37 := by rw [hI.1]
      have q74_38 : xE (zyEl zymx B H) 74 38 = xE (zyEl zymx B s.heap) 74 38 := by rw [hI.1]
      have q74_39 : xE (zyEl zymx B H) 74 39 = xE (zyEl zymx B s.heap) 74 39 := by rw [hI.1]
      have q74_40 : xE (zyEl zymx B H) 74 40 = xE (zyEl zymx B s.heap) 74 40 := by rw [hI.1]
      have q74_41 : xE (zyEl zymx B H) 74 41 = xE (zyEl zymx B s.heap) 74 41 := by rw [hI.1]
      obtain ⟨hE, i1, i2⟩ := hI
      have z74_36 : ((2147483648 : Nat) : Int) ≤ xE (zyEl zymx B H2) 74 36 + 2147483648 ∧ xE (zyEl zymx B H2) 74 36 + 2147483648 ≤ ((2147483657 : Nat) : Int) := xTyF hT2 74 36 36 rfl rfl rfl rfl rfl rfl
      have z74_37 : ((0 : Nat) : Int) ≤ xE (zyEl zymx B H2) 74 37 + 2147483648 ∧ xE (zyEl zymx B H2) 74 37 + 2147483648 ≤ ((4294967295 : Nat) : Int) := xTyF hT2 74 37 37 rfl rfl rfl rfl rfl rfl
      have z74_40 : ((2147483648 : Nat) : Int) ≤ xE (zyEl zymx B H2) 74 40 + 2147483648 ∧ xE (zyEl zymx B H2) 74 40 + 2147483648 ≤ ((2147483652 : Nat) : Int) := xTyF hT2 74 40 40 rfl rfl rfl rfl rfl rfl
      have z74_38 : ((2147483648 : Nat) : Int) ≤ xE (zyEl zymx B H2) 74 38 + 2147483648 ∧ xE (zyEl zymx B H2) 74 38 + 2147483648 ≤ ((2147484548 : Nat) : Int) := xTyF hT2 74 38 38 rfl rfl rfl rfl rfl rfl
      have z74_41 : ((2147483648 : Nat) : Int) ≤ xE (zyEl zymx B H2) 74 41 + 2147483648 ∧ xE (zyEl zymx B H2) 74 41 + 2147483648 ≤ ((2147484647 : Nat) : Int) := xTyF hT2 74 41 41 rfl rfl rfl rfl rfl rfl
      refine xGo hIH hAt hB hv hFr ⟨1, by decide⟩ [0, 34359738369, 68719476737, 0] [0, (v2 1), (v2 2), 0, xE (zyEl zymx B H2) 74 36, xE (zyEl zymx B H2) 74 37, xE (zyEl zymx B H2) 74 40, xE (zyEl zymx B H2) 74 38, xE (zyEl zymx B H2) 74 41] rfl ⟨by decide +kernel, ⟨rfl, by decide +kernel⟩, (xcs_c rfl (xcs_c rfl (xcs_c rfl (xcs_c rfl xcs_n)))), (xe_0 (xe_f (by omega) (xe_f (by omega) (xe_0 (xe_c (by omega) (by omega) rfl (xe_f (xE_r _ _ _) (xe_c (by omega) (by omega) rfl (xe_c (by omega) (by omega) rfl (xe_c (by omega) (by omega) rfl xe_n))))))))), (xkq_c hT2 74 36 (q := 36) rfl rfl rfl rfl rfl rfl rfl rfl rfl rfl rfl (xkq_c hT2 74 37 (q := 37) rfl rfl rfl rfl rfl rfl rfl rfl rfl rfl rfl (xkq_c hT2 74 40 (q := 40) rfl rfl rfl rfl rfl rfl rfl rfl rfl rfl rfl (xkq_c hT2 74 38 (q := 38) rfl rfl rfl rfl rfl rfl rfl rfl rfl rfl rfl (xkq_c hT2 74 41 (q := 41) rfl rfl rfl rfl rfl rfl rfl rfl rfl rfl rfl xkq_n)))))⟩ xst_n ?_ ?_
      · show (zyEl zymx B H2) = (zyEl zymx B s.heap) ∧ ((v2 1) : Int) = x0 0 ∧ ((v2 2) : Int) = x0 1
        exact ⟨(xFr_n hfr).trans hE, by omega, by omega⟩
      · show 2 < 3
        omega
    · have hx : x ∈ [zxftm_ax0] := hx
      have hag : ∀ k, k < 9 → v2 k = v k := hag
      have hfr : xFr [(74, 36, 37)] _ _ := hfr
      have ex := List.mem_singleton.mp hx
      subst ex
      obtain ⟨hF, hBd, hM⟩ := hXs
      have r5 := hr2 5
      have g1 : v2 1 = v 1 := hag 1 (by decide)
      have g2 : v2 2 = v 2 := hag 2 (by decide)
      have g4 : v2 4 = v 4 := hag 4 (by decide)
      have g5 : v2 5 = v 5 := hag 5 (by decide)
      have g6 : v2 6 = v 6 := hag 6 (by decide)
      have g7 : v2 7 = v 7 := hag 7 (by decide)
      have g8 : v2 8 = v 8 := hag 8 (by decide)
      have b0 : ((0 : Nat) : Int) ≤ (v2 1) + 2147483648 ∧ (v2 1) + 2147483648 ≤ ((2147484647 : Nat) : Int) := xXb hBd 0 rfl
      have b1 : ((2147483648 : Nat) : Int) ≤ (v2 2) + 2147483648 ∧ (v2 2) + 2147483648 ≤ ((4294967295 : Nat) : Int) := xXb hBd 1 rfl
      have b2 : ((2147483648 : Nat) : Int) ≤ (v2 4) + 2147483648 ∧ (v2 4) + 2147483648 ≤ ((2147483648 : Nat) : Int) := xXb hBd 2 rfl
      have b3 : ((2147483650 : Nat) : Int) ≤ (v2 6) + 2147483648 ∧ (v2 6) + 2147483648 ≤ ((2147483650 : Nat) : Int) := xXb hBd 3 rfl
      have b4 : ((2147483648 : Nat) : Int) ≤ (v2 8) + 2147483648 ∧ (v2 8) + 2147483648 ≤ ((2147484647 : Nat) : Int) := xXb hBd 4 rfl
      have k0 : xE (zyEl zymx B H) 74 36 = v 4 := xKcf hKc 0 rfl rfl
      have k1 : xE (zyEl zymx B H) 74 37 = v 5 := xKcf hKc 1 rfl rfl
      have k2 : xE (zyEl zymx B H) 74 40 = v 6 := xKcf hKc 2 rfl rfl
      have k3 : xE (zyEl zymx B H) 74 38 = v 7 := xKcf hKc 3 rfl rfl
      have k4 : xE (zyEl zymx B H) 74 41 = v 8 := xKcf hKc 4 rfl rfl
      have f0 : (v2 6) = 2 := xXf hF 0 rfl
      have f1 : (v2 1) ≤ (v2 8) := xXf hF 1 rfl
      have f2 : (v2 8) ≤ (v2 2) := xXf hF 2 rfl
      have f3 : (v2 4) = 0 := xXf hF 3 rfl
      have m0 : xE (zyEl zymx B H2) 74 36 = (v2 4) := xXm hM 0 rfl
      have m1 : xE (zyEl zymx B H2) 74 37 = (v2 5) := xXm hM 1 rfl
      have e74_38 : xE (zyEl zymx B H2) 74 38 = xE (zyEl zymx B H) 74 38 := xFr_E hfr rfl
      have e74_39 : xE (zyEl zymx B H2) 74 39 = xE (zyEl zymx B H) 74 39 := xFr_E hfr rfl
      have e74_40 : xE (zyEl zymx B H2) 74 40 = xE (zyEl zymx B H) 74 40 := xFr_E hfr rfl
      have e74_41 : xE (zyEl zymx B H2) 74 41 = xE (zyEl zymx B H) 74 41 := xFr_E hfr rfl
      have e74_42 : xE (zyEl zymx B H2) 74 42 = xE (zyEl zymx B H) 74 42 := xFr_E hfr rfl
      have q74_42 : xE (zyEl zymx B H) 74 42 = xE (zyEl zymx B s.heap) 74 42 := xFr_E hFr0 rfl
      have e84 : ∀ i, xE (zyEl zymx B H2) 84 i = xE (zyEl zymx B H) 84 i := fun i => xFr_E hfr rfl
      have q84 : ∀ i, xE (zyEl zymx B H) 84 i = xE (zyEl zymx B s.heap) 84 i := fun i => xFr_E hFr0 rfl
      have hI : (zyEl zymx B H) = (zyEl zymx B s.heap) ∧ (v 1) = x0 0 ∧ (v 2) = x0 1 := hInv
      have q74_36 : xE (zyEl zymx B H) 74 36 = xE (zyEl zymx B s.heap) 74 36 := by rw [hI.1]
      have q74_37 : xE (zyEl zymx B H) 74 37 = xE (zyEl zymx B s.heap) 74 37 := by rw [hI.1]
      have q74_38 : xE (zyEl zymx B H) 74 38 = xE (zyEl zymx B s.heap) 74 38 := by rw [hI.1]
      have q74_39 : xE (zyEl zymx B H) 74 39 = xE (zyEl zymx B s.heap) 74 39 := by rw [hI.1]
      have q74_40 : xE (zyEl zymx B H) 74 40 = xE (zyEl zymx B s.heap) 74 40 := by rw [hI.1]
      have q74_41 : xE (zyEl zymx B H) 74 41 = xE (zyEl zymx B s.heap) 74 41 := by rw [hI.1]
      obtain ⟨hE, i1, i2⟩ := hI
      refine xCa hRu hIH hAt hB hv hFr (hfrd B) (ix := 450) (ax := 5024) rfl rfl rfl hmefrd ⟨_, rfl, rfl, by decide⟩ ⟨rfl, rfl, rfl⟩ (by decide) [] [] [] rfl ⟨rfl, rfl⟩ (by decide +kernel) xcs_n (by decide +kernel) ?_ (fun H3 r hT3 hf3 hFr3 hr3 hΨ3 => ?_)
      · show xΦrd (xfv []) (zyEl zymx B H2)
        have hP : xE (zyEl zymx B s.heap) 74 36 = 0 → xE (zyEl zymx B s.heap) 74 40 = 2 → xE (zyEl zymx B s.heap) 74 39 ≤ xE (zyEl zymx B s.heap) 74 42 := hΦ
        have hP := hP (by omega) (by omega)
        unfold xΦrd
        omega
      · have hΨ3 : xΨrd (xfv []) (zyEl zymx B H2) (zyEl zymx B H3) r := hΨ3
        have d74_36 : xE (zyEl zymx B H3) 74 36 = xE (zyEl zymx B H2) 74 36 := xFr_E hf3 rfl
        have d74_37 : xE (zyEl zymx B H3) 74 37 = xE (zyEl zymx B H2) 74 37 := xFr_E hf3 rfl
        have d74_42 : xE (zyEl zymx B H3) 74 42 = xE (zyEl zymx B H2) 74 42 := xFr_E hf3 rfl
        have d84 : ∀ i, xE (zyEl zymx B H3) 84 i = xE (zyEl zymx B H2) 84 i := fun i => xFr_E hf3 rfl
        unfold xΨrd at hΨ3
        rw [show xE (zyEl zymx B H2) 84 = xE (zyEl zymx B s.heap) 84 from funext fun i => (e84 i).trans (q84 i), show xE (zyEl zymx B H2) 74 42 = xE (zyEl zymx B s.heap) 74 42 by omega, show xE (zyEl zymx B H2) 74 39 = xE (zyEl zymx B s.heap) 74 39 by omega] at hΨ3
        refine ⟨⟨2, by decide⟩, [0, 34359738369, 68719476737, 274877906945], [0, (v2 1), (v2 2), (v2 8)], rfl, ⟨by decide +kernel, ⟨rfl, by decide +kernel⟩, (xcs_c rfl (xcs_c rfl (xcs_c rfl (xcs_c rfl xcs_n)))), (xe_0 (xe_f (by omega) (xe_f (by omega) (xe_c (by omega) (by omega) rfl xe_n)))), xkq_n⟩, (by rw [if_neg (by decide)]; exact xst_n), ?_, ?_⟩
        · show xE (zyEl zymx B s.heap) 74 36 = 0 ∧ xE (zyEl zymx B s.heap) 74 40 = 2 ∧ (x0 0 ≤ xE (zyEl zymx B s.heap) 74 41 ∧ xE (zyEl zymx B s.heap) 74 41 ≤ x0 1) ∧ xE (zyEl zymx B H3) 74 36 = 0 ∧ ((v2 8) : Int) = xE (zyEl zymx B s.heap) 74 41 ∧ xRD (xE (zyEl zymx B s.heap) 84) (xE (zyEl zymx B s.heap) 74 42) (xE (zyEl zymx B s.heap) 74 39) (zyEl zymx B H3)
          exact ⟨by omega, by omega, by omega, by omega, by omega, hΨ3⟩
        · show 1 < 2
          omega
    · cases hx
  · intro x0 E0 E E2 hrx hT0 hΦ i v hT hrv hInv hKc hFr0 x hx v2 hr2 hXs hag hfr hFr hT2
    rcases i with ⟨i, hi⟩
    have hi2 : i = 0 ∨ i = 1 ∨ i = 2 := by omega
    rcases hi2 with rfl | rfl | rfl
    · cases hx
    · have hx : x ∈ [zxftm_ar0, zxftm_ar1, zxftm_ar2, zxftm_ar3, zxftm_ar4, zxftm_ar5, zxftm_ar6, zxftm_ar7, zxftm_ar8, zxftm_ar9, zxftm_ar10, zxftm_ar11, zxftm_ar12, zxftm_ar13, zxftm_ar14, zxftm_ar15, zxftm_ar16, zxftm_ar17, zxftm_ar18, zxftm_ar19] := hx
      have hag : ∀ k, k < 9 → v2 k = v k := hag
      have hfr : xFr [(74, 36, 37)] _ _ := hfr
      rcases List.mem_cons.mp hx with ex | hx
      · subst ex
        obtain ⟨hF, hBd, hM⟩ := hXs
        have r5 := hr2 5
        have g1 : v2 1 = v 1 := hag 1 (by decide)
        have g2 : v2 2 = v 2 := hag 2 (by decide)
        have g4 : v2 4 = v 4 := hag 4 (by decide)
        have g5 : v2 5 = v 5 := hag 5 (by decide)
        have g6 : v2 6 = v 6 := hag 6 (by decide)
        have g7 : v2 7 = v 7 := hag 7 (by decide)
        have g8 : v2 8 = v 8 := hag 8 (by decide)
        have b0 : ((2147483649 : Nat) : Int) ≤ (v2 1) + 2147483648 ∧ (v2 1) + 2147483648 ≤ ((4294967295 : Nat) : Int) := xXb hBd 0 rfl
        have b1 : ((2147483649 : Nat) : Int) ≤ (v2 4) + 2147483648 ∧ (v2 4) + 2147483648 ≤ ((2147483657 : Nat) : Int) := xXb hBd 1 rfl
        have b2 : ((2147483651 : Nat) : Int) ≤ (v2 6) + 2147483648 ∧ (v2 6) + 2147483648 ≤ ((2147483652 : Nat) : Int) := xXb hBd 2 rfl
        have b3 : ((2147483648 : Nat) : Int) ≤ (v2 8) + 2147483648 ∧ (v2 8) + 2147483648 ≤ ((2147484647 : Nat) : Int) := xXb hBd 3 rfl
        have k0 : xE E 74 36 = v 4 := xKcf hKc 0 rfl rfl
        have k1 : xE E 74 37 = v 5 := xKcf hKc 1 rfl rfl
        have k2 : xE E 74 40 = v 6 := xKcf hKc 2 rfl rfl
        have k3 : xE E 74 38 = v 7 := xKcf hKc 3 rfl rfl
        have k4 : xE E 74 41 = v 8 := xKcf hKc 4 rfl rfl
        have f0 : ¬ (v2 6) = 2 := xXf hF 0 rfl
        have f1 : 0 < (v2 4) := xXf hF 1 rfl
        have f2 : (v2 8) < (v2 1) := xXf hF 2 rfl
        have f3 : 0 < (v2 4) := xXf hF 3 rfl
        have f4 : ¬ (v2 4) = 0 := xXf hF 4 rfl
        have m0 : xE E2 74 36 = (v2 4) := xXm hM 0 rfl
        have m1 : xE E2 74 37 = (v2 5) := xXm hM 1 rfl
        have e74_38 : xE E2 74 38 = xE E 74 38 := xFr_E hfr rfl
        have e74_39 : xE E2 74 39 = xE E 74 39 := xFr_E hfr rfl
        have e74_40 : xE E2 74 40 = xE E 74 40 := xFr_E hfr rfl
        have e74_41 : xE E2 74 41 = xE E 74 41 := xFr_E hfr rfl
        have e74_42 : xE E2 74 42 = xE E 74 42 := xFr_E hfr rfl
        have q74_42 : xE E 74 42 = xE E0 74 42 := xFr_E hFr0 rfl
        have e84 : ∀ i, xE E2 84 i = xE E 84 i := fun i => xFr_E hfr rfl
        have q84 : ∀ i, xE E 84 i = xE E0 84 i := fun i => xFr_E hFr0 rfl
        have hI : E = E0 ∧ (v 1) = x0 0 ∧ (v 2) = x0 1 := hInv
        have q74_36 : xE E 74 36 = xE E0 74 36 := by rw [hI.1]
        have q74_37 : xE E 74 37 = xE E0 74 37 := by rw [hI.1]
        have q74_38 : xE E 74 38 = xE E0 74 38 := by rw [hI.1]
        have q74_39 : xE E 74 39 = xE E0 74 39 := by rw [hI.1]
        have q74_40 : xE E 74 40 = xE E0 74 40 := by rw [hI.1]
        have q74_41 : xE E 74 41 = xE E0 74 41 := by rw [hI.1]
        show xΨtm x0 E0 E2 (v2 8)
        obtain ⟨hE, i1, i2⟩ := hI
        unfold xΨtm
        by_cases c1 : xE E0 74 36 = 0
        · rw [if_pos c1]
          by_cases c2 : xE E0 74 40 = 2
          · rw [if_pos c2]
            by_cases c3 : x0 0 ≤ xE E0 74 41 ∧ xE E0 74 41 ≤ x0 1
            · exfalso
              omega
            · rw [if_neg c3]
              first | exact ⟨by omega, by omega⟩ | (exfalso; omega)
          · rw [if_neg c2]
            by_cases c3 : xE E0 74 40 = 4
            · rw [if_pos c3]
              first | exact ⟨by omega, by omega⟩ | (exfalso; omega)
            · rw [if_neg c3]
              first | exact ⟨by omega, by omega⟩ | (exfalso; omega)
        · rw [if_neg c1]
          first | exact ⟨by omega, by omega⟩ | (exfalso; omega)
      · skip
        rcases List.mem_cons.mp hx with ex | hx
        · subst ex
          obtain ⟨hF, hBd, hM⟩ := hXs
          have r5 := hr2 5
          have g1 : v2 1 = v 1 := hag 1 (by decide)
          have g2 : v2 2 = v 2 := hag 2 (by decide)
          have g4 : v2 4 = v 4 := hag 4 (by decide)
          have g5 : v2 5 = v 5 := hag 5 (by decide)
          have g6 : v2 6 = v 6 := hag 6 (by decide)
          have g7 : v2 7 = v 7 := hag 7 (by decide)
          have g8 : v2 8 = v 8 := hag 8 (by decide)
          have b0 : ((0 : Nat) : Int) ≤ (v2 1) + 2147483648 ∧ (v2 1) + 2147483648 ≤ ((2147484647 : Nat) : Int) := xXb hBd 0 rfl
          have b1 : ((0 : Nat) : Int) ≤ (v2 2) + 2147483648 ∧ (v2 2) + 2147483648 ≤ ((2147484646 : Nat) : Int) := xXb hBd 1 rfl
          have b2 : ((2147483649 : Nat) : Int) ≤ (v2 4) + 2147483648 ∧ (v2 4) + 2147483648 ≤ ((2147483657 : Nat) : Int) := xXb hBd 2 rfl
          have b3 : ((2147483651 : Nat) : Int) ≤ (v2 6) + 2147483648 ∧ (v2 6) + 2147483648 ≤ ((2147483652 : Nat) : Int) := xXb hBd 3 rfl
          have b4 : ((2147483648 : Nat) : Int) ≤ (v2 8) + 2147483648 ∧ (v2 8) + 2147483648 ≤ ((2147484647 : Nat) : Int) := xXb hBd 4 rfl
          have k0 : xE E 74 36 = v 4 := xKcf hKc 0 rfl rfl
          have k1 : xE E 74 37 = v 5 := xKcf hKc 1 rfl rfl
          have k2 : xE E 74 40 = v 6 := xKcf hKc 2 rfl rfl
          have k3 : xE E 74 38 = v 7 := xKcf hKc 3 rfl rfl
          have k4 : xE E 74 41 = v 8 := xKcf hKc 4 rfl rfl
          have f0 : ¬ (v2 6) = 2 := xXf hF 0 rfl
          have f1 : 0 < (v2 4) := xXf hF 1 rfl
          have f2 : (v2 1) ≤ (v2 8) := xXf hF 2 rfl
          have f3 : (v2 2) < (v2 8) := xXf hF 3 rfl
          have f4 : 0 < (v2 4) := xXf hF 4 rfl
          have f5 : ¬ (v2 4) = 0 := xXf hF 5 rfl
          have m0 : xE E2 74 36 = (v2 4) := xXm hM 0 rfl
          have m1 : xE E2 74 37 = (v2 5) := xXm hM 1 rfl
          have e74_38 : xE E2 74 38 = xE E 74 38 := xFr_E hfr rfl
          have e74_39 : xE E2 74 39 = xE E 74 39 := xFr_E hfr rfl
          have e74_40 : xE E2 74 40 = xE E 74 40 := xFr_E hfr rfl
          have e74_41 : xE E2 74 41 = xE E 74 41 := xFr_E hfr rfl
          have e74_42 : xE E2 74 42 = xE E 74 42 := xFr_E hfr rfl
          have q74_42 : xE E 74 42 = xE E0 74 42 := xFr_E hFr0 rfl
          have e84 : ∀ i, xE E2 84 i = xE E 84 i := fun i => xFr_E hfr rfl
          have q84 : ∀ i, xE E 84 i = xE E0 84 i := fun i => xFr_E hFr0 rfl
          have hI : E = E0 ∧ (v 1) = x0 0 ∧ (v 2) = x0 1 := hInv
          have q74_36 : xE E 74 36 = xE E0 74 36 := by rw [hI.1]
          have q74_37 : xE E 74 37 = xE E0 74 37 := by rw [hI.1]
          have q74_38 : xE E 74 38 = xE E0 74 38 := by rw [hI.1]
          have q74_39 : xE E 74 39 = xE E0 74 39 := by rw [hI.1]
          have q74_40 : xE E 74 40 = xE E0 74 40 := by rw [hI.1]
          have q74_41 : xE E 74 41 = xE E0 74 41 := by rw [hI.1]
          show xΨtm x0 E0 E2 (v2 8)
          obtain ⟨hE, i1, i2⟩ := hI
          unfold xΨtm
          by_cases c1 : xE E0 74 36 = 0
          · rw [if_pos c1]
            by_cases c2 : xE E0 74 40 = 2
            · rw [if_pos c2]
              by_cases c3 : x0 0 ≤ xE E0 74 41 ∧ xE E0 74 41 ≤ x0 1
              · exfalso
                omega
              · rw [if_neg c3]
                first | exact ⟨by omega, by omega⟩ | (exfalso; omega)
            · rw [if_neg c2]
              by_cases c3 : xE E0 74 40 = 4
              · rw [if_pos c3]
                first | exact ⟨by omega, by omega⟩ | (exfalso; omega)
              · rw [if_neg c3]
                first | exact ⟨by omega, by omega⟩ | (exfalso; omega)
          · rw [if_neg c1]
            first | exact ⟨by omega, by omega⟩ | (exfalso; omega)
        · skip
          rcases List.mem_cons.mp hx with ex | hx
          · subst ex
            obtain ⟨hF, hBd, hM⟩ := hXs
            have r5 := hr2 5
            have g1 : v2 1 = v 1 := hag 1 (by decide)
            have g2 : v2 2 = v 2 := hag 2 (by decide)
            have g4 : v2 4 = v 4 := hag 4 (by decide)
            have g5 : v2 5 = v 5 := hag 5 (by decide)
            have g6 : v2 6 = v 6 := hag 6 (by decide)
            have g7 : v2 7 = v 7 := hag 7 (by decide)
            have g8 : v2 8 = v 8 := hag 8 (by decide)
            have b0 : ((0 : Nat) : Int) ≤ (v2 1) + 2147483648 ∧ (v2 1) + 2147483648 ≤ ((2147484647 : Nat) : Int) := xXb hBd 0 rfl
            have b1 : ((2147483648 : Nat) : Int) ≤ (v2 2) + 2147483648 ∧ (v2 2) + 2147483648 ≤ ((4294967295 : Nat) : Int) := xXb hBd 1 rfl
            have b2 : ((2147483649 : Nat) : Int) ≤ (v2 4) + 2147483648 ∧ (v2 4) + 2147483648 ≤ ((2147483657 : Nat) : Int) := xXb hBd 2 rfl
            have b3 : ((2147483651 : Nat) : Int) ≤ (v2 6) + 2147483648 ∧ (v2 6) + 2147483648 ≤ ((2147483652 : Nat) : Int) := xXb hBd 3 rfl
            have b4 : ((2147483648 : Nat) : Int) ≤ (v2 8) + 2147483648 ∧ (v2 8) + 2147483648 ≤ ((2147484647 : Nat) : Int) := xXb hBd 4 rfl
            have k0 : xE E 74 36 = v 4 := xKcf hKc 0 rfl rfl
            have k1 : xE E 74 37 = v 5 := xKcf hKc 1 rfl rfl
            have k2 : xE E 74 40 = v 6 := xKcf hKc 2 rfl rfl
            have k3 : xE E 74 38 = v 7 := xKcf hKc 3 rfl rfl
            have k4 : xE E 74 41 = v 8 := xKcf hKc 4 rfl rfl
            have f0 : ¬ (v2 6) = 2 := xXf hF 0 rfl
            have f1 : 0 < (v2 4) := xXf hF 1 rfl
            have f2 : (v2 1) ≤ (v2 8) := xXf hF 2 rfl
            have f3 : (v2 8) ≤ (v2 2) := xXf hF 3 rfl
            have f4 : ¬ (v2 4) = 0 := xXf hF 4 rfl
            have m0 : xE E2 74 36 = (v2 4) := xXm hM 0 rfl
            have m1 : xE E2 74 37 = (v2 5) := xXm hM 1 rfl
            have e74_38 : xE E2 74 38 = xE E 74 38 := xFr_E hfr rfl
            have e74_39 : xE E2 74 39 = xE E 74 39 := xFr_E hfr rfl
            have e74_40 : xE E2 74 40 = xE E 74 40 := xFr_E hfr rfl
            have e74_41 : xE E2 74 41 = xE E 74 41 := xFr_E hfr rfl
            have e74_42 : xE E2 74 42 = xE E 74 42 := xFr_E hfr rfl
            have q74_42 : xE E 74 42 = xE E0 74 42 := xFr_E hFr0 rfl
            have e84 : ∀ i, xE E2 84 i = xE E 84 i := fun i => xFr_E hfr rfl
            have q84 : ∀ i, xE E 84 i = xE E0 84 i := fun i => xFr_E hFr0 rfl
            have hI : E = E0 ∧ (v 1) = x0 0 ∧ (v 2) = x0 1 := hInv
            have q74_36 : xE E 74 36 = xE E0 74 36 := by rw [hI.1]
            have q74_37 : xE E 74 37 = xE E0 74 37 := by rw [hI.1]
            have q74_38 : xE E 74 38 = xE E0 74 38 := by rw [hI.1]
            have q74_39 : xE E 74 39 = xE E0 74 39 := by rw [hI.1]
            have q74_40 : xE E 74 40 = xE E0 74 40 := by rw [hI.1]
            have q74_41 : xE E 74 41 = xE E0 74 41 := by rw [hI.1]
            show xΨtm x0 E0 E2 (v2 8)
            obtain ⟨hE, i1, i2⟩ := hI
            unfold xΨtm
            by_cases c1 : xE E0 74 36 = 0
            · rw [if_pos c1]
              by_cases c2 : xE E0 74 40 = 2
              · rw [if_pos c2]
                by_cases c3 : x0 0 ≤ xE E0 74 41 ∧ xE E0 74 41 ≤ x0 1
                · exfalso
                  omega
                · rw [if_neg c3]
                  first | exact ⟨by omega, by omega⟩ | (exfalso; omega)
              · rw [if_neg c2]
                by_cases c3 : xE E0 74 40 = 4
                · rw [if_pos c3]
                  first | exact ⟨by omega, by omega⟩ | (exfalso; omega)
                · rw [if_neg c3]
                  first | exact ⟨by omega, by omega⟩ | (exfalso; omega)
            · rw [if_neg c1]
              first | exact ⟨by omega, by omega⟩ | (exfalso; omega)
          · skip
            rcases List.mem_cons.mp hx with ex | hx
            · subst ex
              obtain ⟨hF, hBd, hM⟩ := hXs
              have g1 : v2 1 = v 1 := hag 1 (by decide)
              have g2 : v2 2 = v 2 := hag 2 (by decide)
              have g4 : v2 4 = v 4 := hag 4 (by decide)
              have g5 : v2 5 = v 5 := hag 5 (by decide)
              have g6 : v2 6 = v 6 := hag 6 (by decide)
              have g7 : v2 7 = v 7 := hag 7 (by decide)
              have g8 : v2 8 = v 8 := hag 8 (by decide)
              have b0 : ((2147483649 : Nat) : Int) ≤ (v2 1) + 2147483648 ∧ (v2 1) + 2147483648 ≤ ((4294967295 : Nat) : Int) := xXb hBd 0 rfl
              have b1 : ((2147483648 : Nat) : Int) ≤ (v2 4) + 2147483648 ∧ (v2 4) + 2147483648 ≤ ((2147483648 : Nat) : Int) := xXb hBd 1 rfl
              have b2 : ((2147483651 : Nat) : Int) ≤ (v2 6) + 2147483648 ∧ (v2 6) + 2147483648 ≤ ((2147483651 : Nat) : Int) := xXb hBd 2 rfl
              have b3 : ((2147483648 : Nat) : Int) ≤ (v2 7) + 2147483648 ∧ (v2 7) + 2147483648 ≤ ((2147484548 : Nat) : Int) := xXb hBd 3 rfl
              have b4 : ((2147483648 : Nat) : Int) ≤ (v2 8) + 2147483648 ∧ (v2 8) + 2147483648 ≤ ((2147484647 : Nat) : Int) := xXb hBd 4 rfl
              have k0 : xE E 74 36 = v 4 := xKcf hKc 0 rfl rfl
              have k1 : xE E 74 37 = v 5 := xKcf hKc 1 rfl rfl
              have k2 : xE E 74 40 = v 6 := xKcf hKc 2 rfl rfl
              have k3 : xE E 74 38 = v 7 := xKcf hKc 3 rfl rfl
              have k4 : xE E 74 41 = v 8 := xKcf hKc 4 rfl rfl
              have f0 : ¬ (v2 6) = 2 := xXf hF 0 rfl
              have f1 : (v2 4) ≤ 0 := xXf hF 1 rfl
              have f2 : ¬ (v2 6) = 4 := xXf hF 2 rfl
              have f3 : (v2 8) < (v2 1) := xXf hF 3 rfl
              have m0 : xE E2 74 36 = 2 := xXm hM 0 rfl
              have m1 : xE E2 74 37 = (v2 7) := xXm hM 1 rfl
              have e74_38 : xE E2 74 38 = xE E 74 38 := xFr_E hfr rfl
              have e74_39 : xE E2 74 39 = xE E 74 39 := xFr_E hfr rfl
              have e74_40 : xE E2 74 40 = xE E 74 40 := xFr_E hfr rfl
              have e74_41 : xE E2 74 41 = xE E 74 41 := xFr_E hfr rfl
              have e74_42 : xE E2 74 42 = xE E 74 42 := xFr_E hfr rfl
              have q74_42 : xE E 74 42 = xE E0 74 42 := xFr_E hFr0 rfl
              have e84 : ∀ i, xE E2 84 i = xE E 84 i := fun i => xFr_E hfr rfl
              have q84 : ∀ i, xE E 84 i = xE E0 84 i := fun i => xFr_E hFr0 rfl
              have hI : E = E0 ∧ (v 1) = x0 0 ∧ (v 2) = x0 1 := hInv
              have q74_36 : xE E 74 36 = xE E0 74 36 := by rw [hI.1]
              have q74_37 : xE E 74 37 = xE E0 74 37 := by rw [hI.1]
              have q74_38 : xE E 74 38 = xE E0 74 38 := by rw [hI.1]
              have q74_39 : xE E 74 39 = xE E0 74 39 := by rw [hI.1]
              have q74_40 : xE E 74 40 = xE E0 74 40 := by rw [hI.1]
              have q74_41 : xE E 74 41 = xE E0 74 41 := by rw [hI.1]
              show xΨtm x0 E0 E2 (v2 8)
              obtain ⟨hE, i1, i2⟩ := hI
              unfold xΨtm
              by_cases c1 : xE E0 74 36 = 0
              · rw [if_pos c1]
                by_cases c2 : xE E0 74 40 = 2
                · rw [if_pos c2]
                  by_cases c3 : x0 0 ≤ xE E0 74 41 ∧ xE E0 74 41 ≤ x0 1
                  · exfalso
                    omega
                  · rw [if_neg c3]
                    first | exact ⟨by omega, by omega⟩ | (exfalso; omega)
                · rw [if_neg c2]
                  by_cases c3 : xE E0 74 40 = 4
                  · rw [if_pos c3]
                    first | exact ⟨by omega, by omega⟩ | (exfalso; omega)
                  · rw [if_neg c3]
                    first | exact ⟨by omega, by omega⟩ | (exfalso; omega)
              · rw [if_neg c1]
                first | exact ⟨by omega, by omega⟩ | (exfalso; omega)
            · skip
              rcases List.mem_cons.mp hx with ex | hx
              · subst ex
                obtain ⟨hF, hBd, hM⟩ := hXs
                have g1 : v2 1 = v 1 := hag 1 (by decide)
                have g2 : v2 2 = v 2 := hag 2 (by decide)
                have g4 : v2 4 = v 4 := hag 4 (by decide)
                have g5 : v2 5 = v 5 := hag 5 (by decide)
                have g6 : v2 6 = v 6 := hag 6 (by decide)
                have g7 : v2 7 = v 7 := hag 7 (by decide)
                have g8 : v2 8 = v 8 := hag 8 (by decide)
                have b0 : ((0 : Nat) : Int) ≤ (v2 1) + 2147483648 ∧ (v2 1) + 2147483648 ≤ ((2147484647 : Nat) : Int) := xXb hBd 0 rfl
                have b1 : ((0 : Nat) : Int) ≤ (v2 2) + 2147483648 ∧ (v2 2) + 2147483648 ≤ ((2147484646 : Nat) : Int) := xXb hBd 1 rfl
                have b2 : ((2147483648 : Nat) : Int) ≤ (v2 4) + 2147483648 ∧ (v2 4) + 2147483648 ≤ ((2147483648 : Nat) : Int) := xXb hBd 2 rfl
                have b3 : ((2147483651 : Nat) : Int) ≤ (v2 6) + 2147483648 ∧ (v2 6) + 2147483648 ≤ ((2147483651 : Nat) : Int) := xXb hBd 3 rfl
                have b4 : ((2147483648 : Nat) : Int) ≤ (v2 7) + 2147483648 ∧ (v2 7) + 2147483648 ≤ ((2147484548 : Nat) : Int) := xXb hBd 4 rfl
                have b5 : ((2147483648 : Nat) : Int) ≤ (v2 8) + 2147483648 ∧ (v2 8) + 2147483648 ≤ ((2147484647 : Nat) : Int) := xXb hBd 5 rfl
                have k0 : xE E 74 36 = v 4 := xKcf hKc 0 rfl rfl
                have k1 : xE E 74 37 = v 5 := xKcf hKc 1 rfl rfl
                have k2 : xE E 74 40 = v 6 := xKcf hKc 2 rfl rfl
                have k3 : xE E 74 38 = v 7 := xKcf hKc 3 rfl rfl
                have k4 : xE E 74 41 = v 8 := xKcf hKc 4 rfl rfl
                have f0 : ¬ (v2 6) = 2 := xXf hF 0 rfl
                have f1 : (v2 4) ≤ 0 := xXf hF 1 rfl
                have f2 : ¬ (v2 6) = 4 := xXf hF 2 rfl
                have f3 : (v2 1) ≤ (v2 8) := xXf hF 3 rfl
                have f4 : (v2 2) < (v2 8) := xXf hF 4 rfl
                have m0 : xE E2 74 36 = 2 := xXm hM 0 rfl
                have m1 : xE E2 74 37 = (v2 7) := xXm hM 1 rfl
                have e74_38 : xE E2 74 38 = xE E 74 38 := xFr_E hfr rfl
                have e74_39 : xE E2 74 39 = xE E 74 39 := xFr_E hfr rfl
                have e74_40 : xE E2 74 40 = xE E 74 40 := xFr_E hfr rfl
                have e74_41 : xE E2 74 41 = xE E 74 41 := xFr_E hfr rfl
                have e74_42 : xE E2 74 42 = xE E 74 42 := xFr_E hfr rfl
                have q74_42 : xE E 74 42 = xE E0 74 42 := xFr_E hFr0 rfl
                have e84 : ∀ i, xE E2 84 i = xE E 84 i := fun i => xFr_E hfr rfl
                have q84 : ∀ i, xE E 84 i = xE E0 84 i := fun i => xFr_E hFr0 rfl
                have hI : E = E0 ∧ (v 1) = x0 0 ∧ (v 2) = x0 1 := hInv
                have q74_36 : xE E 74 36 = xE E0 74 36 := by rw [hI.1]
                have q74_37 : xE E 74 37 = xE E0 74 37 := by rw [hI.1]
                have q74_38 : xE E 74 38 = xE E0 74 38 := by rw [hI.1]
                have q74_39 : xE E 74 39 = xE E0 74 39 := by rw [hI.1]
                have q74_40 : xE E 74 40 = xE E0 74 40 := by rw [hI.1]
                have q74_41 : xE E 74 41 = xE E0 74 41 := by rw [hI.1]
                show xΨtm x0 E0 E2 (v2 8)
                obtain ⟨hE, i1, i2⟩ := hI
                unfold xΨtm
                by_cases c1 : xE E0 74 36 = 0
                · rw [if_pos c1]
                  by_cases c2 : xE E0 74 40 = 2
                  · rw [if_pos c2]
                    by_cases c3 : x0 0 ≤ xE E0 74 41 ∧ xE E0 74 41 ≤ x0 1
                    · exfalso
                      omega
                    · rw [if_neg c3]
                      first | exact ⟨by omega, by omega⟩ | (exfalso; omega)
                  · rw [if_neg c2]
                    by_cases c3 : xE E0 74 40 = 4
                    · rw [if_pos c3]
                      first | exact ⟨by omega, by omega⟩ | (exfalso; omega)
                    · rw [if_neg c3]
                      first | exact ⟨by omega, by omega⟩ | (exfalso; omega)
                · rw [if_neg c1]
                  first | exact ⟨by omega, by omega⟩ | (exfalso; omega)
              · skip
                rcases List.mem_cons.mp hx with ex | hx
                · subst ex
                  obtain ⟨hF, hBd, hM⟩ := hXs
                  have g1 : v2 1 = v 1 := hag 1 (by decide)
                  have g2 : v2 2 = v 2 := hag 2 (by decide)
                  have g4 : v2 4 = v 4 := hag 4 (by decide)
                  have g5 : v2 5 = v 5 := hag 5 (by decide)
                  have g6 : v2 6 = v 6 := hag 6 (by decide)
                  have g7 : v2 7 = v 7 := hag 7 (by decide)
                  have g8 : v2 8 = v 8 := hag 8 (by decide)
                  have b0 : ((0 : Nat) : Int) ≤ (v2 1) + 2147483648 ∧ (v2 1) + 2147483648 ≤ ((2147484647 : Nat) : Int) := xXb hBd 0 rfl
                  have b1 : ((2147483648 : Nat) : Int) ≤ (v2 2) + 2147483648 ∧ (v2 2) + 2147483648 ≤ ((4294967295 : Nat) : Int) := xXb hBd 1 rfl
                  have b2 : ((2147483648 : Nat) : Int) ≤ (v2 4) + 2147483648 ∧ (v2 4) + 2147483648 ≤ ((2147483648 : Nat) : Int) := xXb hBd 2 rfl
                  have b3 : ((2147483651 : Nat) : Int) ≤ (v2 6) + 2147483648 ∧ (v2 6) + 2147483648 ≤ ((2147483651 : Nat) : Int) := xXb hBd 3 rfl
                  have b4 : ((2147483648 : Nat) : Int) ≤ (v2 7) + 2147483648 ∧ (v2 7) + 2147483648 ≤ ((2147484548 : Nat) : Int) := xXb hBd 4 rfl
                  have b5 : ((2147483648 : Nat) : Int) ≤ (v2 8) + 2147483648 ∧ (v2 8) + 2147483648 ≤ ((2147484647 : Nat) : Int) := xXb hBd 5 rfl
                  have k0 : xE E 74 36 = v 4 := xKcf hKc 0 rfl rfl
                  have k1 : xE E 74 37 = v 5 := xKcf hKc 1 rfl rfl
                  have k2 : xE E 74 40 = v 6 := xKcf hKc 2 rfl rfl
                  have k3 : xE E 74 38 = v 7 := xKcf hKc 3 rfl rfl
                  have k4 : xE E 74 41 = v 8 := xKcf hKc 4 rfl rfl
                  have f0 : ¬ (v2 6) = 2 := xXf hF 0 rfl
                  have f1 : (v2 4) ≤ 0 := xXf hF 1 rfl
                  have f2 : ¬ (v2 6) = 4 := xXf hF 2 rfl
                  have f3 : (v2 1) ≤ (v2 8) := xXf hF 3 rfl
                  have f4 : (v2 8) ≤ (v2 2) := xXf hF 4 rfl
                  have m0 : xE E2 74 36 = 2 := xXm hM 0 rfl
                  have m1 : xE E2 74 37 = (v2 7) := xXm hM 1 rfl
                  have e74_38 : xE E2 74 38 = xE E 74 38 := xFr_E hfr rfl
                  have e74_39 : xE E2 74 39 = xE E 74 39 := xFr_E hfr rfl
                  have e74_40 : xE E2 74 40 = xE E 74 40 := xFr_E hfr rfl
                  have e74_41 : xE E2 74 41 = xE E 74 41 := xFr_E hfr rfl
                  have e74_42 : xE E2 74 42 = xE E 74 42 := xFr_E hfr rfl
                  have q74_42 : xE E 74 42 = xE E0 74 42 := xFr_E hFr0 rfl
                  have e84 : ∀ i, xE E2 84 i = xE E 84 i := fun i => xFr_E hfr rfl
                  have q84 : ∀ i, xE E 84 i = xE E0 84 i := fun i => xFr_E hFr0 rfl
                  have hI : E = E0 ∧ (v 1) = x0 0 ∧ (v 2) = x0 1 := hInv
                  have q74_36 : xE E 74 36 = xE E0 74 36 := by rw [hI.1]
                  have q74_37 : xE E 74 37 = xE E0 74 37 := by rw [hI.1]
                  have q74_38 : xE E 74 38 = xE E0 74 38 := by rw [hI.1]
                  have q74_39 : xE E 74 39 = xE E0 74 39 := by rw [hI.1]
                  have q74_40 : xE E 74 40 = xE E0 74 40 := by rw [hI.1]
                  have q74_41 : xE E 74 41 = xE E0 74 41 := by rw [hI.1]
                  show xΨtm x0 E0 E2 (v2 8)
                  obtain ⟨hE, i1, i2⟩ := hI
                  unfold xΨtm
                  by_cases c1 : xE E0 74 36 = 0
                  · rw [if_pos c1]
                    by_cases c2 : xE E0 74 40 = 2
                    · rw [if_pos c2]
                      by_cases c3 : x0 0 ≤ xE E0 74 41 ∧ xE E0 74 41 ≤ x0 1
                      · exfalso
                        omega
                      · rw [if_neg c3]
                        first | exact ⟨by omega, by omega⟩ | (exfalso; omega)
                    · rw [if_neg c2]
                      by_cases c3 : xE E0 74 40 = 4
                      · rw [if_pos c3]
                        first | exact ⟨by omega, by omega⟩ | (exfalso; omega)
                      · rw [if_neg c3]
                        first | exact ⟨by omega, by omega⟩ | (exfalso; omega)
                  · rw [if_neg c1]
                    first | exact ⟨by omega, by omega⟩ | (exfalso; omega)
                · skip
                  rcases List.mem_cons.mp hx with ex | hx
                  · subst ex
                    obtain ⟨hF, hBd, hM⟩ := hXs
                    have g1 : v2 1 = v 1 := hag 1 (by decide)
                    have g2 : v2 2 = v 2 := hag 2 (by decide)
                    have g4 : v2 4 = v 4 := hag 4 (by decide)
                    have g5 : v2 5 = v 5 := hag 5 (by decide)
                    have g6 : v2 6 = v 6 := hag 6 (by decide)
                    have g7 : v2 7 = v 7 := hag 7 (by decide)
                    have g8 : v2 8 = v 8 := hag 8 (by decide)
                    have b0 : ((2147483649 : Nat) : Int) ≤ (v2 1) + 2147483648 ∧ (v2 1) + 2147483648 ≤ ((4294967295 : Nat) : Int) := xXb hBd 0 rfl
                    have b1 : ((2147483648 : Nat) : Int) ≤ (v2 4) + 2147483648 ∧ (v2 4) + 2147483648 ≤ ((2147483648 : Nat) : Int) := xXb hBd 1 rfl
                    have b2 : ((2147483652 : Nat) : Int) ≤ (v2 6) + 2147483648 ∧ (v2 6) + 2147483648 ≤ ((2147483652 : Nat) : Int) := xXb hBd 2 rfl
                    have b3 : ((2147483648 : Nat) : Int) ≤ (v2 7) + 2147483648 ∧ (v2 7) + 2147483648 ≤ ((2147484548 : Nat) : Int) := xXb hBd 3 rfl
                    have b4 : ((2147483648 : Nat) : Int) ≤ (v2 8) + 2147483648 ∧ (v2 8) + 2147483648 ≤ ((2147484647 : Nat) : Int) := xXb hBd 4 rfl
                    have k0 : xE E 74 36 = v 4 := xKcf hKc 0 rfl rfl
                    have k1 : xE E 74 37 = v 5 := xKcf hKc 1 rfl rfl
                    have k2 : xE E 74 40 = v 6 := xKcf hKc 2 rfl rfl
                    have k3 : xE E 74 38 = v 7 := xKcf hKc 3 rfl rfl
                    have k4 : xE E 74 41 = v 8 := xKcf hKc 4 rfl rfl
                    have f0 : ¬ (v2 6) = 2 := xXf hF 0 rfl
                    have f1 : (v2 4) ≤ 0 := xXf hF 1 rfl
                    have f2 : (v2 6) = 4 := xXf hF 2 rfl
                    have f3 : (v2 8) < (v2 1) := xXf hF 3 rfl
                    have m0 : xE E2 74 36 = 1 := xXm hM 0 rfl
                    have m1 : xE E2 74 37 = (v2 7) := xXm hM 1 rfl
                    have e74_38 : xE E2 74 38 = xE E 74 38 := xFr_E hfr rfl
                    have e74_39 : xE E2 74 39 = xE E 74 39 := xFr_E hfr rfl
                    have e74_40 : xE E2 74 40 = xE E 74 40 := xFr_E hfr rfl
                    have e74_41 : xE E2 74 41 = xE E 74 41 := xFr_E hfr rfl
                    have e74_42 : xE E2 74 42 = xE E 74 42 := xFr_E hfr rfl
                    have q74_42 : xE E 74 42 = xE E0 74 42 := xFr_E hFr0 rfl
                    have e84 : ∀ i, xE E2 84 i = xE E 84 i := fun i => xFr_E hfr rfl
                    have q84 : ∀ i, xE E 84 i = xE E0 84 i := fun i => xFr_E hFr0 rfl
                    have hI : E = E0 ∧ (v 1) = x0 0 ∧ (v 2) = x0 1 := hInv
                    have q74_36 : xE E 74 36 = xE E0 74 36 := by rw [hI.1]
                    have q74_37 : xE E 74 37 = xE E0 74 37 := by rw [hI.1]
                    have q74_38 : xE E 74 38 = xE E0 74 38 := by rw [hI.1]
                    have q74_39 : xE E 74 39 = xE E0 74 39 := by rw [hI.1]
                    have q74_40 : xE E 74 40 = xE E0 74 40 := by rw [hI.1]
                    have q74_41 : xE E 74 41 = xE E0 74 41 := by rw [hI.1]
                    show xΨtm x0 E0 E2 (v2 8)
                    obtain ⟨hE, i1, i2⟩ := hI
                    unfold xΨtm
                    by_cases c1 : xE E0 74 36 = 0
                    · rw [if_pos c1]
                      by_cases c2 : xE E0 74 40 = 2
                      · rw [if_pos c2]
                        by_cases c3 : x0 0 ≤ xE E0 74 41 ∧ xE E0 74 41 ≤ x0 1
                        · exfalso
                          omega
                        · rw [if_neg c3]
                          first | exact ⟨by omega, by omega⟩ | (exfalso; omega)
                      · rw [if_neg c2]
                        by_cases c3 : xE E0 74 40 = 4
                        · rw [if_pos c3]
                          first | exact ⟨by omega, by omega⟩ | (exfalso; omega)
                        · rw [if_neg c3]
                          first | exact ⟨by omega, by omega⟩ | (exfalso; omega)
                    · rw [if_neg c1]
                      first | exact ⟨by omega, by omega⟩ | (exfalso; omega)
                  · skip
                    rcases List.mem_cons.mp hx with ex | hx
                    · subst ex
                      obtain ⟨hF, hBd, hM⟩ := hXs
                      have g1 : v2 1 = v 1 := hag 1 (by decide)
                      have g2 : v2 2 = v 2 := hag 2 (by decide)
                      have g4 : v2 4 = v 4 := hag 4 (by decide)
                      have g5 : v2 5 = v 5 := hag 5 (by decide)
                      have g6 : v2 6 = v 6 := hag 6 (by decide)
                      have g7 : v2 7 = v 7 := hag 7 (by decide)
                      have g8 : v2 8 = v 8 := hag 8 (by decide)
                      have b0 : ((0 : Nat) : Int) ≤ (v2 1) + 2147483648 ∧ (v2 1) + 2147483648 ≤ ((2147484647 : Nat) : Int) := xXb hBd 0 rfl
                      have b1 : ((0 : Nat) : Int) ≤ (v2 2) + 2147483648 ∧ (v2 2) + 2147483648 ≤ ((2147484646 : Nat) : Int) := xXb hBd 1 rfl
                      have b2 : ((2147483648 : Nat) : Int) ≤ (v2 4) + 2147483648 ∧ (v2 4) + 2147483648 ≤ ((2147483648 : Nat) : Int) := xXb hBd 2 rfl
                      have b3 : ((2147483652 : Nat) : Int) ≤ (v2 6) + 2147483648 ∧ (v2 6) + 2147483648 ≤ ((2147483652 : Nat) : Int) := xXb hBd 3 rfl
                      have b4 : ((2147483648 : Nat) : Int) ≤ (v2 7) + 2147483648 ∧ (v2 7) + 2147483648 ≤ ((2147484548 : Nat) : Int) := xXb hBd 4 rfl
                      have b5 : ((2147483648 : Nat) : Int) ≤ (v2 8) + 2147483648 ∧ (v2 8) + 2147483648 ≤ ((2147484647 : Nat) : Int) := xXb hBd 5 rfl
                      have k0 : xE E 74 36 = v 4 := xKcf hKc 0 rfl rfl
                      have k1 : xE E 74 37 = v 5 := xKcf hKc 1 rfl rfl
                      have k2 : xE E 74 40 = v 6 := xKcf hKc 2 rfl rfl
                      have k3 : xE E 74 38 = v 7 := xKcf hKc 3 rfl rfl
                      have k4 : xE E 74 41 = v 8 := xKcf hKc 4 rfl rfl
                      have f0 : ¬ (v2 6) = 2 := xXf hF 0 rfl
                      have f1 : (v2 4) ≤ 0 := xXf hF 1 rfl
                      have f2 : (v2 6) = 4 := xXf hF 2 rfl
                      have f3 : (v2 1) ≤ (v2 8) := xXf hF 3 rfl
                      have f4 : (v2 2) < (v2 8) := xXf hF 4 rfl
                      have m0 : xE E2 74 36 = 1 := xXm hM 0 rfl
                      have m1 : xE E2 74 37 = (v2 7) := xXm hM 1 rfl
                      have e74_38 : xE E2 74 38 = xE E 74 38 := xFr_E hfr rfl
                      have e74_39 : xE E2 74 39 = xE E 74 39 := xFr_E hfr rfl
                      have e74_40 : xE E2 74 40 = xE E 74 40 := xFr_E hfr rfl
                      have e74_41 : xE E2 74 41 = xE E 74 41 := xFr_E hfr rfl
                      have e74_42 : xE E2 74 42 = xE E 74 42 := xFr_E hfr rfl
                      have q74_42 : xE E 74 42 = xE E0 74 42 := xFr_E hFr0 rfl
                      have e84 : ∀ i, xE E2 84 i = xE E 84 i := fun i => xFr_E hfr rfl
                      have q84 : ∀ i, xE E 84 i = xE E0 84 i := fun i => xFr_E hFr0 rfl
                      have hI : E = E0 ∧ (v 1) = x0 0 ∧ (v 2) = x0 1 := hInv
                      have q74_36 : xE E 74 36 = xE E0 74 36 := by rw [hI.1]
                      have q74_37 : xE E 74 37 = xE E0 74 37 := by rw [hI.1]
                      have q74_38 : xE E 74 38 = xE E0 74 38 := by rw [hI.1]
                      have q74_39 : xE E 74 39 = xE E0 74 39 := by rw [hI.1]
                      have q74_40 : xE E 74 40 = xE E0 74 40 := by rw [hI.1]
                      have q74_41 : xE E 74 41 = xE E0 74 41 := by rw [hI.1]
                      show xΨtm x0 E0 E2 (v2 8)
                      obtain ⟨hE, i1, i2⟩ := hI
                      unfold xΨtm
                      by_cases c1 : xE E0 74 36 = 0
                      · rw [if_pos c1]
                        by_cases c2 : xE E0 74 40 = 2
                        · rw [if_pos c2]
                          by_cases c3 : x0 0 ≤ xE E0 74 41 ∧ xE E0 74 41 ≤ x0 1
                          · exfalso
                            omega
                          · rw [if_neg c3]
                            first | exact ⟨by omega, by omega⟩ | (exfalso; omega)
                        · rw [if_neg c2]
                          by_cases c3 : xE E0 74 40 = 4
                          · rw [if_pos c3]
                            first | exact ⟨by omega, by omega⟩ | (exfalso; omega)
                          · rw [if_neg c3]
                            first | exact ⟨by omega, by omega⟩ | (exfalso; omega)
                      · rw [if_neg c1]
                        first | exact ⟨by omega, by omega⟩ | (exfalso; omega)
                    · skip
                      rcases List.mem_cons.mp hx with ex | hx
                      · subst ex
                        obtain ⟨hF, hBd, hM⟩ := hXs
                        have g1 : v2 1 = v 1 := hag 1 (by decide)
                        have g2 : v2 2 = v 2 := hag 2 (by decide)
                        have g4 : v2 4 = v 4 := hag 4 (by decide)
                        have g5 : v2 5 = v 5 := hag 5 (by decide)
                        have g6 : v2 6 = v 6 := hag 6 (by decide)
                        have g7 : v2 7 = v 7 := hag 7 (by decide)
                        have g8 : v2 8 = v 8 := hag 8 (by decide)
                        have b0 : ((0 : Nat) : Int) ≤ (v2 1) + 2147483648 ∧ (v2 1) + 2147483648 ≤ ((2147484647 : Nat) : Int) := xXb hBd 0 rfl
                        have b1 : ((2147483648 : Nat) : Int) ≤ (v2 2) + 2147483648 ∧ (v2 2) + 2147483648 ≤ ((4294967295 : Nat) : Int) := xXb hBd 1 rfl
                        have b2 : ((2147483648 : Nat) : Int) ≤ (v2 4) + 2147483648 ∧ (v2 4) + 2147483648 ≤ ((2147483648 : Nat) : Int) := xXb hBd 2 rfl
                        have b3 : ((2147483652 : Nat) : Int) ≤ (v2 6) + 2147483648 ∧ (v2 6) + 2147483648 ≤ ((2147483652 : Nat) : Int) := xXb hBd 3 rfl
                        have b4 : ((2147483648 : Nat) : Int) ≤ (v2 7) + 2147483648 ∧ (v2 7) + 2147483648 ≤ ((2147484548 : Nat) : Int) := xXb hBd 4 rfl
                        have b5 : ((2147483648 : Nat) : Int) ≤ (v2 8) + 2147483648 ∧ (v2 8) + 2147483648 ≤ ((2147484647 : Nat) : Int) := xXb hBd 5 rfl
                        have k0 : xE E 74 36 = v 4 := xKcf hKc 0 rfl rfl
                        have k1 : xE E 74 37 = v 5 := xKcf hKc 1 rfl rfl
                        have k2 : xE E 74 40 = v 6 := xKcf hKc 2 rfl rfl
                        have k3 : xE E 74 38 = v 7 := xKcf hKc 3 rfl rfl
                        have k4 : xE E 74 41 = v 8 := xKcf hKc 4 rfl rfl
                        have f0 : ¬ (v2 6) = 2 := xXf hF 0 rfl
                        have f1 : (v2 4) ≤ 0 := xXf hF 1 rfl
                        have f2 : (v2 6) = 4 := xXf hF 2 rfl
                        have f3 : (v2 1) ≤ (v2 8) := xXf hF 3 rfl
                        have f4 : (v2 8) ≤ (v2 2) := xXf hF 4 rfl
                        have m0 : xE E2 74 36 = 1 := xXm hM 0 rfl
                        have m1 : xE E2 74 37 = (v2 7) := xXm hM 1 rfl
                        have e74_38 : xE E2 74 38 = xE E 74 38 := xFr_E hfr rfl
                        have e74_39 : xE E2 74 39 = xE E 74 39 := xFr_E hfr rfl
                        have e74_40 : xE E2 74 40 = xE E 74 40 := xFr_E hfr rfl
                        have e74_41 : xE E2 74 41 = xE E 74 41 := xFr_E hfr rfl
                        have e74_42 : xE E2 74 42 = xE E 74 42 := xFr_E hfr rfl
                        have q74_42 : xE E 74 42 = xE E0 74 42 := xFr_E hFr0 rfl
                        have e84 : ∀ i, xE E2 84 i = xE E 84 i := fun i => xFr_E hfr rfl
                        have q84 : ∀ i, xE E 84 i = xE E0 84 i := fun i => xFr_E hFr0 rfl
                        have hI : E = E0 ∧ (v 1) = x0 0 ∧ (v 2) = x0 1 := hInv
                        have q74_36 : xE E 74 36 = xE E0 74 36 := by rw [hI.1]
                        have q74_37 : xE E 74 37 = xE E0 74 37 := by rw [hI.1]
                        have q74_38 : xE E 74 38 = xE E0 74 38 := by rw [hI.1]
                        have q74_39 : xE E 74 39 = xE E0 74 39 := by rw [hI.1]
                        have q74_40 : xE E 74 40 = xE E0 74 40 := by rw [hI.1]
                        have q74_41 : xE E 74 41 = xE E0 74 41 := by rw [hI.1]
                        show xΨtm x0 E0 E2 (v2 8)
                        obtain ⟨hE, i1, i2⟩ := hI
                        unfold xΨtm
                        by_cases c1 : xE E0 74 36 = 0
                        · rw [if_pos c1]
                          by_cases c2 : xE E0 74 40 = 2
                          · rw [if_pos c2]
                            by_cases c3 : x0 0 ≤ xE E0 74 41 ∧ xE E0 74 41 ≤ x0 1
                            · exfalso
                              omega
                            · rw [if_neg c3]
                              first | exact ⟨by omega, by omega⟩ | (exfalso; omega)
                          · rw [if_neg c2]
                            by_cases c3 : xE E0 74 40 = 4
                            · rw [if_pos c3]
                              first | exact ⟨by omega, by omega⟩ | (exfalso; omega)
                            · rw [if_neg c3]
                              first | exact ⟨by omega, by omega⟩ | (exfalso; omega)
                        · rw [if_neg c1]
                          first | exact ⟨by omega, by omega⟩ | (exfalso; omega)
                      · skip
                        rcases List.mem_cons.mp hx with ex | hx
                        · subst ex
                          obtain ⟨hF, hBd, hM⟩ := hXs
                          have r5 := hr2 5
                          have g1 : v2 1 = v 1 := hag 1 (by decide)
                          have g2 : v2 2 = v 2 := hag 2 (by decide)
                          have g4 : v2 4 = v 4 := hag 4 (by decide)
                          have g5 : v2 5 = v 5 := hag 5 (by decide)
                          have g6 : v2 6 = v 6 := hag 6 (by decide)
                          have g7 : v2 7 = v 7 := hag 7 (by decide)
                          have g8 : v2 8 = v 8 := hag 8 (by decide)
                          have b0 : ((2147483649 : Nat) : Int) ≤ (v2 1) + 2147483648 ∧ (v2 1) + 2147483648 ≤ ((4294967295 : Nat) : Int) := xXb hBd 0 rfl
                          have b1 : ((2147483649 : Nat) : Int) ≤ (v2 4) + 2147483648 ∧ (v2 4) + 2147483648 ≤ ((2147483657 : Nat) : Int) := xXb hBd 1 rfl
                          have b2 : ((2147483648 : Nat) : Int) ≤ (v2 6) + 2147483648 ∧ (v2 6) + 2147483648 ≤ ((2147483649 : Nat) : Int) := xXb hBd 2 rfl
                          have b3 : ((2147483648 : Nat) : Int) ≤ (v2 8) + 2147483648 ∧ (v2 8) + 2147483648 ≤ ((2147484647 : Nat) : Int) := xXb hBd 3 rfl
                          have k0 : xE E 74 36 = v 4 := xKcf hKc 0 rfl rfl
                          have k1 : xE E 74 37 = v 5 := xKcf hKc 1 rfl rfl
                          have k2 : xE E 74 40 = v 6 := xKcf hKc 2 rfl rfl
                          have k3 : xE E 74 38 = v 7 := xKcf hKc 3 rfl rfl
                          have k4 : xE E 74 41 = v 8 := xKcf hKc 4 rfl rfl
                          have f0 : ¬ (v2 6) = 2 := xXf hF 0 rfl
                          have f1 : 0 < (v2 4) := xXf hF 1 rfl
                          have f2 : (v2 8) < (v2 1) := xXf hF 2 rfl
                          have f3 : 0 < (v2 4) := xXf hF 3 rfl
                          have f4 : ¬ (v2 4) = 0 := xXf hF 4 rfl
                          have m0 : xE E2 74 36 = (v2 4) := xXm hM 0 rfl
                          have m1 : xE E2 74 37 = (v2 5) := xXm hM 1 rfl
                          have e74_38 : xE E2 74 38 = xE E 74 38 := xFr_E hfr rfl
                          have e74_39 : xE E2 74 39 = xE E 74 39 := xFr_E hfr rfl
                          have e74_40 : xE E2 74 40 = xE E 74 40 := xFr_E hfr rfl
                          have e74_41 : xE E2 74 41 = xE E 74 41 := xFr_E hfr rfl
                          have e74_42 : xE E2 74 42 = xE E 74 42 := xFr_E hfr rfl
                          have q74_42 : xE E 74 42 = xE E0 74 42 := xFr_E hFr0 rfl
                          have e84 : ∀ i, xE E2 84 i = xE E 84 i := fun i => xFr_E hfr rfl
                          have q84 : ∀ i, xE E 84 i = xE E0 84 i := fun i => xFr_E hFr0 rfl
                          have hI : E = E0 ∧ (v 1) = x0 0 ∧ (v 2) = x0 1 := hInv
                          have q74_36 : xE E 74 36 = xE E0 74 36 := by rw [hI.1]
                          have q74_37 : xE E 74 37 = xE E0 74 37 := by rw [hI.1]
                          have q74_38 : xE E 74 38 = xE E0 74 38 := by rw [hI.1]
                          have q74_39 : xE E 74 39 = xE E0 74 39 := by rw [hI.1]
                          have q74_40 : xE E 74 40 = xE E0 74 40 := by rw [hI.1]
                          have q74_41 : xE E 74 41 = xE E0 74 41 := by rw [hI.1]
                          show xΨtm x0 E0 E2 (v2 8)
                          obtain ⟨hE, i1, i2⟩ := hI
                          unfold xΨtm
                          by_cases c1 : xE E0 74 36 = 0
                          · rw [if_pos c1]
                            by_cases c2 : xE E0 74 40 = 2
                            · rw [if_pos c2]
                              by_cases c3 : x0 0 ≤ xE E0 74 41 ∧ xE E0 74 41 ≤ x0 1
                              · exfalso
                                omega
                              · rw [if_neg c3]
                                first | exact ⟨by omega, by omega⟩ | (exfalso; omega)
                            · rw [if_neg c2]
                              by_cases c3 : xE E0 74 40 = 4
                              · rw [if_pos c3]
                                first | exact ⟨by omega, by omega⟩ | (exfalso; omega)
                              · rw [if_neg c3]
                                first | exact ⟨by omega, by omega⟩ | (exfalso; omega)
                          · rw [if_neg c1]
                            first | exact ⟨by omega, by omega⟩ | (exfalso; omega)
                        · skip
                          rcases List.mem_cons.mp hx with ex | hx
                          · subst ex
                            obtain ⟨hF, hBd, hM⟩ := hXs
                            have r5 := hr2 5
                            have g1 : v2 1 = v 1 := hag 1 (by decide)
                            have g2 : v2 2 = v 2 := hag 2 (by decide)
                            have g4 : v2 4 = v 4 := hag 4 (by decide)
                            have g5 : v2 5 = v 5 := hag 5 (by decide)
                            have g6 : v2 6 = v 6 := hag 6 (by decide)
                            have g7 : v2 7 = v 7 := hag 7 (by decide)
                            have g8 : v2 8 = v 8 := hag 8 (by decide)
                            have b0 : ((0 : Nat) : Int) ≤ (v2 1) + 2147483648 ∧ (v2 1) + 2147483648 ≤ ((2147484647 : Nat) : Int) := xXb hBd 0 rfl
                            have b1 : ((0 : Nat) : Int) ≤ (v2 2) + 2147483648 ∧ (v2 2) + 2147483648 ≤ ((2147484646 : Nat) : Int) := xXb hBd 1 rfl
                            have b2 : ((2147483649 : Nat) : Int) ≤ (v2 4) + 2147483648 ∧ (v2 4) + 2147483648 ≤ ((2147483657 : Nat) : Int) := xXb hBd 2 rfl
                            have b3 : ((2147483648 : Nat) : Int) ≤ (v2 6) + 2147483648 ∧ (v2 6) + 2147483648 ≤ ((2147483649 : Nat) : Int) := xXb hBd 3 rfl
                            have b4 : ((2147483648 : Nat) : Int) ≤ (v2 8) + 2147483648 ∧ (v2 8) + 2147483648 ≤ ((2147484647 : Nat) : Int) := xXb hBd 4 rfl
                            have k0 : xE E 74 36 = v 4 := xKcf hKc 0 rfl rfl
                            have k1 : xE E 74 37 = v 5 := xKcf hKc 1 rfl rfl
                            have k2 : xE E 74 40 = v 6 := xKcf hKc 2 rfl rfl
                            have k3 : xE E 74 38 = v 7 := xKcf hKc 3 rfl rfl
                            have k4 : xE E 74 41 = v 8 := xKcf hKc 4 rfl rfl
                            have f0 : ¬ (v2 6) = 2 := xXf hF 0 rfl
                            have f1 : 0 < (v2 4) := xXf hF 1 rfl
                            have f2 : (v2 1) ≤ (v2 8) := xXf hF 2 rfl
                            have f3 : (v2 2) < (v2 8) := xXf hF 3 rfl
                            have f4 : 0 < (v2 4) := xXf hF 4 rfl
                            have f5 : ¬ (v2 4) = 0 := xXf hF 5 rfl
                            have m0 : xE E2 74 36 = (v2 4) := xXm hM 0 rfl
                            have m1 : xE E2 74 37 = (v2 5) := xXm hM 1 rfl
                            have e74_38 : xE E2 74 38 = xE E 74 38 := xFr_E hfr rfl
                            have e74_39 : xE E2 74 39 = xE E 74 39 := xFr_E hfr rfl
                            have e74_40 : xE E2 74 40 = xE E 74 40 := xFr_E hfr rfl
                            have e74_41 : xE E2 74 41 = xE E 74 41 := xFr_E hfr rfl
                            have e74_42 : xE E2 74 42 = xE E 74 42 := xFr_E hfr rfl
                            have q74_42 : xE E 74 42 = xE E0 74 42 := xFr_E hFr0 rfl
                            have e84 : ∀ i, xE E2 84 i = xE E 84 i := fun i => xFr_E hfr rfl
                            have q84 : ∀ i, xE E 84 i = xE E0 84 i := fun i => xFr_E hFr0 rfl
                            have hI : E = E0 ∧ (v 1) = x0 0 ∧ (v 2) = x0 1 := hInv
                            have q74_36 : xE E 74 36 = xE E0 74 36 := by rw [hI.1]
                            have q74_37 : xE E 74 37 = xE E0 74 37 := by rw [hI.1]
                            have q74_38 : xE E 74 38 = xE E0 74 38 := by rw [hI.1]
                            have q74_39 : xE E 74 39 = xE E0 74 39 := by rw [hI.1]
                            have q74_40 : xE E 74 40 = xE E0 74 40 := by rw [hI.1]
                            have q74_41 : xE E 74 41 = xE E0 74 41 := by rw [hI.1]
                            show xΨtm x0 E0 E2 (v2 8)
                            obtain ⟨hE, i1, i2⟩ := hI
                            unfold xΨtm
                            by_cases c1 : xE E0 74 36 = 0
                            · rw [if_pos c1]
                              by_cases c2 : xE E0 74 40 = 2
                              · rw [if_pos c2]
                                by_cases c3 : x0 0 ≤ xE E0 74 41 ∧ xE E0 74 41 ≤ x0 1
                                · exfalso
                                  omega
                                · rw [if_neg c3]
                                  first | exact ⟨by omega, by omega⟩ | (exfalso; omega)
                              · rw [if_neg c2]
                                by_cases c3 : xE E0 74 40 = 4
                                · rw [if_pos c3]
                                  first | exact ⟨by omega, by omega⟩ | (exfalso; omega)
                                · rw [if_neg c3]
                                  first | exact ⟨by omega, by omega⟩ | (exfalso; omega)
                            · rw [if_neg c1]
                              first | exact ⟨by omega, by omega⟩ | (exfalso; omega)
                          · skip
                            rcases List.mem_cons.mp hx with ex | hx
                            · subst ex
                              obtain ⟨hF, hBd, hM⟩ := hXs
                              have r5 := hr2 5
                              have g1 : v2 1 = v 1 := hag 1 (by decide)
                              have g2 : v2 2 = v 2 := hag 2 (by decide)
                              have g4 : v2 4 = v 4 := hag 4 (by decide)
                              have g5 : v2 5 = v 5 := hag 5 (by decide)
                              have g6 : v2 6 = v 6 := hag 6 (by decide)
                              have g7 : v2 7 = v 7 := hag 7 (by decide)
                              have g8 : v2 8 = v 8 := hag 8 (by decide)
                              have b0 : ((0 : Nat) : Int) ≤ (v2 1) + 2147483648 ∧ (v2 1) + 2147483648 ≤ ((2147484647 : Nat) : Int) := xXb hBd 0 rfl
                              have b1 : ((2147483648 : Nat) : Int) ≤ (v2 2) + 2147483648 ∧ (v2 2) + 2147483648 ≤ ((4294967295 : Nat) : Int) := xXb hBd 1 rfl
                              have b2 : ((2147483649 : Nat) : Int) ≤ (v2 4) + 2147483648 ∧ (v2 4) + 2147483648 ≤ ((2147483657 : Nat) : Int) := xXb hBd 2 rfl
                              have b3 : ((2147483648 : Nat) : Int) ≤ (v2 6) + 2147483648 ∧ (v2 6) + 2147483648 ≤ ((2147483649 : Nat) : Int) := xXb hBd 3 rfl
                              have b4 : ((2147483648 : Nat) : Int) ≤ (v2 8) + 2147483648 ∧ (v2 8) + 2147483648 ≤ ((2147484647 : Nat) : Int) := xXb hBd 4 rfl
                              have k0 : xE E 74 36 = v 4 := xKcf hKc 0 rfl rfl
                              have k1 : xE E 74 37 = v 5 := xKcf hKc 1 rfl rfl
                              have k2 : xE E 74 40 = v 6 := xKcf hKc 2 rfl rfl
                              have k3 : xE E 74 38 = v 7 := xKcf hKc 3 rfl rfl
                              have k4 : xE E 74 41 = v 8 := xKcf hKc 4 rfl rfl
                              have f0 : ¬ (v2 6) = 2 := xXf hF 0 rfl
                              have f1 : 0 < (v2 4) := xXf hF 1 rfl
                              have f2 : (v2 1) ≤ (v2 8) := xXf hF 2 rfl
                              have f3 : (v2 8) ≤ (v2 2) := xXf hF 3 rfl
                              have f4 : ¬ (v2 4) = 0 := xXf hF 4 rfl
                              have m0 : xE E2 74 36 = (v2 4) := xXm hM 0 rfl
                              have m1 : xE E2 74 37 = (v2 5) := xXm hM 1 rfl
                              have e74_38 : xE E2 74 38 = xE E 74 38 := xFr_E hfr rfl
                              have e74_39 : xE E2 74 39 = xE E 74 39 := xFr_E hfr rfl
                              have e74_40 : xE E2 74 40 = xE E 74 40 := xFr_E hfr rfl
                              have e74_41 : xE E2 74 41 = xE E 74 41 := xFr_E hfr rfl
                              have e74_42 : xE E2 74 42 = xE E 74 42 := xFr_E hfr rfl
                              have q74_42 : xE E 74 42 = xE E0 74 42 := xFr_E hFr0 rfl
                              have e84 : ∀ i, xE E2 84 i = xE E 84 i := fun i => xFr_E hfr rfl
                              have q84 : ∀ i, xE E 84 i = xE E0 84 i := fun i => xFr_E hFr0 rfl
                              have hI : E = E0 ∧ (v 1) = x0 0 ∧ (v 2) = x0 1 := hInv
                              have q74_36 : xE E 74 36 = xE E0 74 36 := by rw [hI.1]
                              have q74_37 : xE E 74 37 = xE E0 74 37 := by rw [hI.1]
                              have q74_38 : xE E 74 38 = xE E0 74 38 := by rw [hI.1]
                              have q74_39 : xE E 74 39 = xE E0 74 39 := by rw [hI.1]
                              have q74_40 : xE E 74 40 = xE E0 74 40 := by rw [hI.1]
                              have q74_41 : xE E 74 41 = xE E0 74 41 := by rw [hI.1]
                              show xΨtm x0 E0 E2 (v2 8)
                              obtain ⟨hE, i1, i2⟩ := hI
                              unfold xΨtm
                              by_cases c1 : xE E0 74 36 = 0
                              · rw [if_pos c1]
                                by_cases c2 : xE E0 74 40 = 2
                                · rw [if_pos c2]
                                  by_cases c3 : x0 0 ≤ xE E0 74 41 ∧ xE E0 74 41 ≤ x0 1
                                  · exfalso
                                    omega
                                  · rw [if_neg c3]
                                    first | exact ⟨by omega, by omega⟩ | (exfalso; omega)
                                · rw [if_neg c2]
                                  by_cases c3 : xE E0 74 40 = 4
                                  · rw [if_pos c3]
                                    first | exact ⟨by omega, by omega⟩ | (exfalso; omega)
                                  · rw [if_neg c3]
                                    first | exact ⟨by omega, by omega⟩ | (exfalso; omega)
                              · rw [if_neg c1]
                                first | exact ⟨by omega, by omega⟩ | (exfalso; omega)
                            · skip
                              rcases List.mem_cons.mp hx with ex | hx
                              · subst ex
                                obtain ⟨hF, hBd, hM⟩ := hXs
                                have g1 : v2 1 = v 1 := hag 1 (by decide)
                                have g2 : v2 2 = v 2 := hag 2 (by decide)
                                have g4 : v2 4 = v 4 := hag 4 (by decide)
                                have g5 : v2 5 = v 5 := hag 5 (by decide)
                                have g6 : v2 6 = v 6 := hag 6 (by decide)
                                have g7 : v2 7 = v 7 := hag 7 (by decide)
                                have g8 : v2 8 = v 8 := hag 8 (by decide)
                                have b0 : ((2147483649 : Nat) : Int) ≤ (v2 1) + 2147483648 ∧ (v2 1) + 2147483648 ≤ ((4294967295 : Nat) : Int) := xXb hBd 0 rfl
                                have b1 : ((2147483648 : Nat) : Int) ≤ (v2 4) + 2147483648 ∧ (v2 4) + 2147483648 ≤ ((2147483648 : Nat) : Int) := xXb hBd 1 rfl
                                have b2 : ((2147483648 : Nat) : Int) ≤ (v2 6) + 2147483648 ∧ (v2 6) + 2147483648 ≤ ((2147483649 : Nat) : Int) := xXb hBd 2 rfl
                                have b3 : ((2147483648 : Nat) : Int) ≤ (v2 7) + 2147483648 ∧ (v2 7) + 2147483648 ≤ ((2147484548 : Nat) : Int) := xXb hBd 3 rfl
                                have b4 : ((2147483648 : Nat) : Int) ≤ (v2 8) + 2147483648 ∧ (v2 8) + 2147483648 ≤ ((2147484647 : Nat) : Int) := xXb hBd 4 rfl
                                have k0 : xE E 74 36 = v 4 := xKcf hKc 0 rfl rfl
                                have k1 : xE E 74 37 = v 5 := xKcf hKc 1 rfl rfl
                                have k2 : xE E 74 40 = v 6 := xKcf hKc 2 rfl rfl
                                have k3 : xE E 74 38 = v 7 := xKcf hKc 3 rfl rfl
                                have k4 : xE E 74 41 = v 8 := xKcf hKc 4 rfl rfl
                                have f0 : ¬ (v2 6) = 2 := xXf hF 0 rfl
                                have f1 : (v2 4) ≤ 0 := xXf hF 1 rfl
                                have f2 : ¬ (v2 6) = 4 := xXf hF 2 rfl
                                have f3 : (v2 8) < (v2 1) := xXf hF 3 rfl
                                have m0 : xE E2 74 36 = 2 := xXm hM 0 rfl
                                have m1 : xE E2 74 37 = (v2 7) := xXm hM 1 rfl
                                have e74_38 : xE E2 74 38 = xE E 74 38 := xFr_E hfr rfl
                                have e74_39 : xE E2 74 39 = xE E 74 39 := xFr_E hfr rfl
                                have e74_40 : xE E2 74 40 = xE E 74 40 := xFr_E hfr rfl
                                have e74_41 : xE E2 74 41 = xE E 74 41 := xFr_E hfr rfl
                                have e74_42 : xE E2 74 42 = xE E 74 42 := xFr_E hfr rfl
                                have q74_42 : xE E 74 42 = xE E0 74 42 := xFr_E hFr0 rfl
                                have e84 : ∀ i, xE E2 84 i = xE E 84 i := fun i => xFr_E hfr rfl
                                have q84 : ∀ i, xE E 84 i = xE E0 84 i := fun i => xFr_E hFr0 rfl
                                have hI : E = E0 ∧ (v 1) = x0 0 ∧ (v 2) = x0 1 := hInv
                                have q74_36 : xE E 74 36 = xE E0 74 36 := by rw [hI.1]
                                have q74_37 : xE E 74 37 = xE E0 74 37 := by rw [hI.1]
                                have q74_38 : xE E 74 38 = xE E0 74 38 := by rw [hI.1]
                                have q74_39 : xE E 74 39 = xE E0 74 39 := by rw [hI.1]
                                have q74_40 : xE E 74 40 = xE E0 74 40 := by rw [hI.1]
                                have q74_41 : xE E 74 41 = xE E0 74 41 := by rw [hI.1]
                                show xΨtm x0 E0 E2 (v2 8)
                                obtain ⟨hE, i1, i2⟩ := hI
                                unfold xΨtm
                                by_cases c1 : xE E0 74 36 = 0
                                · rw [if_pos c1]
                                  by_cases c2 : xE E0 74 40 = 2
                                  · rw [if_pos c2]
                                    by_cases c3 : x0 0 ≤ xE E0 74 41 ∧ xE E0 74 41 ≤ x0 1
                                    · exfalso
                                      omega
                                    · rw [if_neg c3]
                                      first | exact ⟨by omega, by omega⟩ | (exfalso; omega)
                                  · rw [if_neg c2]
                                    by_cases c3 : xE E0 74 40 = 4
                                    · rw [if_pos c3]
                                      first | exact ⟨by omega, by omega⟩ | (exfalso; omega)
                                    · rw [if_neg c3]
                                      first | exact ⟨by omega, by omega⟩ | (exfalso; omega)
                                · rw [if_neg c1]
                                  first | exact ⟨by omega, by omega⟩ | (exfalso; omega)
                              · skip
                                rcases List.mem_cons.mp hx with ex | hx
                                · subst ex
                                  obtain ⟨hF, hBd, hM⟩ := hXs
                                  have g1 : v2 1 = v 1 := hag 1 (by decide)
                                  have g2 : v2 2 = v 2 := hag 2 (by decide)
                                  have g4 : v2 4 = v 4 := hag 4 (by decide)
                                  have g5 : v2 5 = v 5 := hag 5 (by decide)
                                  have g6 : v2 6 = v 6 := hag 6 (by decide)
                                  have g7 : v2 7 = v 7 := hag 7 (by decide)
                                  have g8 : v2 8 = v 8 := hag 8 (by decide)
                                  have b0 : ((0 : Nat) : Int) ≤ (v2 1) + 2147483648 ∧ (v2 1) + 2147483648 ≤ ((2147484647 : Nat) : Int) := xXb hBd 0 rfl
                                  have b1 : ((0 : Nat) : Int) ≤ (v2 2) + 2147483648 ∧ (v2 2) + 2147483648 ≤ ((2147484646 : Nat) : Int) := xXb hBd 1 rfl
                                  have b2 : ((2147483648 : Nat) : Int) ≤ (v2 4) + 2147483648 ∧ (v2 4) + 2147483648 ≤ ((2147483648 : Nat) : Int) := xXb hBd 2 rfl
                                  have b3 : ((2147483648 : Nat) : Int) ≤ (v2 6) + 2147483648 ∧ (v2 6) + 2147483648 ≤ ((2147483649 : Nat) : Int) := xXb hBd 3 rfl
                                  have b4 : ((2147483648 : Nat) : Int) ≤ (v2 7) + 2147483648 ∧ (v2 7) + 2147483648 ≤ ((2147484548 : Nat) : Int) := xXb hBd 4 rfl
                                  have b5 : ((2147483648 : Nat) : Int) ≤ (v2 8) + 2147483648 ∧ (v2 8) + 2147483648 ≤ ((2147484647 : Nat) : Int) := xXb hBd 5 rfl
                                  have k0 : xE E 74 36 = v 4 := xKcf hKc 0 rfl rfl
                                  have k1 : xE E 74 37 = v 5 := xKcf hKc 1 rfl rfl
                                  have k2 : xE E 74 40 = v 6 := xKcf hKc 2 rfl rfl
                                  have k3 : xE E 74 38 = v 7 := xKcf hKc 3 rfl rfl
                                  have k4 : xE E 74 41 = v 8 := xKcf hKc 4 rfl rfl
                                  have f0 : ¬ (v2 6) = 2 := xXf hF 0 rfl
                                  have f1 : (v2 4) ≤ 0 := xXf hF 1 rfl
                                  have f2 : ¬ (v2 6) = 4 := xXf hF 2 rfl
                                  have f3 : (v2 1) ≤ (v2 8) := xXf hF 3 rfl
                                  have f4 : (v2 2) < (v2 8) := xXf hF 4 rfl
                                  have m0 : xE E2 74 36 = 2 := xXm hM 0 rfl
                                  have m1 : xE E2 74 37 = (v2 7) := xXm hM 1 rfl
                                  have e74_38 : xE E2 74 38 = xE E 74 38 := xFr_E hfr rfl
                                  have e74_39 : xE E2 74 39 = xE E 74 39 := xFr_E hfr rfl
                                  have e74_40 : xE E2 74 40 = xE E 74 40 := xFr_E hfr rfl
                                  have e74_41 : xE E2 74 41 = xE E 74 41 := xFr_E hfr rfl
                                  have e74_42 : xE E2 74 42 = xE E 74 42 := xFr_E hfr rfl
                                  have q74_42 : xE E 74 42 = xE E0 74 42 := xFr_E hFr0 rfl
                                  have e84 : ∀ i, xE E2 84 i = xE E 84 i := fun i => xFr_E hfr rfl
                                  have q84 : ∀ i, xE E 84 i = xE E0 84 i := fun i => xFr_E hFr0 rfl
                                  have hI : E = E0 ∧ (v 1) = x0 0 ∧ (v 2) = x0 1 := hInv
                                  have q74_36 : xE E 74 36 = xE E0 74 36 := by rw [hI.1]
                                  have q74_37 : xE E 74 37 = xE E0 74 37 := by rw [hI.1]
                                  have q74_38 : xE E 74 38 = xE E0 74 38 := by rw [hI.1]
                                  have q74_39 : xE E 74 39 = xE E0 74 39 := by rw [hI.1]
                                  have q74_40 : xE E 74 40 = xE E0 74 40 := by rw [hI.1]
                                  have q74_41 : xE E 74 41 = xE E0 74 41 := by rw [hI.1]
                                  show xΨtm x0 E0 E2 (v2 8)
                                  obtain ⟨hE, i1, i2⟩ := hI
                                  unfold xΨtm
                                  by_cases c1 : xE E0 74 36 = 0
                                  · rw [if_pos c1]
                                    by_cases c2 : xE E0 74 40 = 2
                                    · rw [if_pos c2]
                                      by_cases c3 : x0 0 ≤ xE E0 74 41 ∧ xE E0 74 41 ≤ x0 1
                                      · exfalso
                                        omega
                                      · rw [if_neg c3]
                                        first | exact ⟨by omega, by omega⟩ | (exfalso; omega)
                                    · rw [if_neg c2]
                                      by_cases c3 : xE E0 74 40 = 4
                                      · rw [if_pos c3]
                                        first | exact ⟨by omega, by omega⟩ | (exfalso; omega)
                                      · rw [if_neg c3]
                                        first | exact ⟨by omega, by omega⟩ | (exfalso; omega)
                                  · rw [if_neg c1]
                                    first | exact ⟨by omega, by omega⟩ | (exfalso; omega)
                                · skip
                                  rcases List.mem_cons.mp hx with ex | hx
                                  · subst ex
                                    obtain ⟨hF, hBd, hM⟩ := hXs
                                    have g1 : v2 1 = v 1 := hag 1 (by decide)
                                    have g2 : v2 2 = v 2 := hag 2 (by decide)
                                    have g4 : v2 4 = v 4 := hag 4 (by decide)
                                    have g5 : v2 5 = v 5 := hag 5 (by decide)
                                    have g6 : v2 6 = v 6 := hag 6 (by decide)
                                    have g7 : v2 7 = v 7 := hag 7 (by decide)
                                    have g8 : v2 8 = v 8 := hag 8 (by decide)
                                    have b0 : ((0 : Nat) : Int) ≤ (v2 1) + 2147483648 ∧ (v2 1) + 2147483648 ≤ ((2147484647 : Nat) : Int) := xXb hBd 0 rfl
                                    have b1 : ((2147483648 : Nat) : Int) ≤ (v2 2) + 2147483648 ∧ (v2 2) + 2147483648 ≤ ((4294967295 : Nat) : Int) := xXb hBd 1 rfl
                                    have b2 : ((2147483648 : Nat) : Int) ≤ (v2 4) + 2147483648 ∧ (v2 4) + 2147483648 ≤ ((2147483648 : Nat) : Int) := xXb hBd 2 rfl
                                    have b3 : ((2147483648 : Nat) : Int) ≤ (v2 6) + 2147483648 ∧ (v2 6) + 2147483648 ≤ ((2147483649 : Nat) : Int) := xXb hBd 3 rfl
                                    have b4 : ((2147483648 : Nat) : Int) ≤ (v2 7) + 2147483648 ∧ (v2 7) + 2147483648 ≤ ((2147484548 : Nat) : Int) := xXb hBd 4 rfl
                                    have b5 : ((2147483648 : Nat) : Int) ≤ (v2 8) + 2147483648 ∧ (v2 8) + 2147483648 ≤ ((2147484647 : Nat) : Int) := xXb hBd 5 rfl
                                    have k0 : xE E 74 36 = v 4 := xKcf hKc 0 rfl rfl
                                    have k1 : xE E 74 37 = v 5 := xKcf hKc 1 rfl rfl
                                    have k2 : xE E 74 40 = v 6 := xKcf hKc 2 rfl rfl
                                    have k3 : xE E 74 38 = v 7 := xKcf hKc 3 rfl rfl
                                    have k4 : xE E 74 41 = v 8 := xKcf hKc 4 rfl rfl
                                    have f0 : ¬ (v2 6) = 2 := xXf hF 0 rfl
                                    have f1 : (v2 4) ≤ 0 := xXf hF 1 rfl
                                    have f2 : ¬ (v2 6) = 4 := xXf hF 2 rfl
                                    have f3 : (v2 1) ≤ (v2 8) := xXf hF 3 rfl
                                    have f4 : (v2 8) ≤ (v2 2) := xXf hF 4 rfl
                                    have m0 : xE E2 74 36 = 2 := xXm hM 0 rfl
                                    have m1 : xE E2 74 37 = (v2 7) := xXm hM 1 rfl
                                    have e74_38 : xE E2 74 38 = xE E 74 38 := xFr_E hfr rfl
                                    have e74_39 : xE E2 74 39 = xE E 74 39 := xFr_E hfr rfl
                                    have e74_40 : xE E2 74 40 = xE E 74 40 := xFr_E hfr rfl
                                    have e74_41 : xE E2 74 41 = xE E 74 41 := xFr_E hfr rfl
                                    have e74_42 : xE E2 74 42 = xE E 74 42 := xFr_E hfr rfl
                                    have q74_42 : xE E 74 42 = xE E0 74 42 := xFr_E hFr0 rfl
                                    have e84 : ∀ i, xE E2 84 i = xE E 84 i := fun i => xFr_E hfr rfl
                                    have q84 : ∀ i, xE E 84 i = xE E0 84 i := fun i => xFr_E hFr0 rfl
                                    have hI : E = E0 ∧ (v 1) = x0 0 ∧ (v 2) = x0 1 := hInv
                                    have q74_36 : xE E 74 36 = xE E0 74 36 := by rw [hI.1]
                                    have q74_37 : xE E 74 37 = xE E0 74 37 := by rw [hI.1]
                                    have q74_38 : xE E 74 38 = xE E0 74 38 := by rw [hI.1]
                                    have q74_39 : xE E 74 39 = xE E0 74 39 := by rw [hI.1]
                                    have q74_40 : xE E 74 40 = xE E0 74 40 := by rw [hI.1]
                                    have q74_41 : xE E 74 41 = xE E0 74 41 := by rw [hI.1]
                                    show xΨtm x0 E0 E2 (v2 8)
                                    obtain ⟨hE, i1, i2⟩ := hI
                                    unfold xΨtm
                                    by_cases c1 : xE E0 74 36 = 0
                                    · rw [if_pos c1]
                                      by_cases c2 : xE E0 74 40 = 2
                                      · rw [if_pos c2]
                                        by_cases c3 : x0 0 ≤ xE E0 74 41 ∧ xE E0 74 41 ≤ x0 1
                                        · exfalso
                                          omega
                                        · rw [if_neg c3]
                                          first | exact ⟨by omega, by omega⟩ | (exfalso; omega)
                                      · rw [if_neg c2]
                                        by_cases c3 : xE E0 74 40 = 4
                                        · rw [if_pos c3]
                                          first | exact ⟨by omega, by omega⟩ | (exfalso; omega)
                                        · rw [if_neg c3]
                                          first | exact ⟨by omega, by omega⟩ | (exfalso; omega)
                                    · rw [if_neg c1]
                                      first | exact ⟨by omega, by omega⟩ | (exfalso; omega)
                                  · skip
                                    rcases List.mem_cons.mp hx with ex | hx
                                    · subst ex
                                      obtain ⟨hF, hBd, hM⟩ := hXs
                                      have r5 := hr2 5
                                      have g1 : v2 1 = v 1 := hag 1 (by decide)
                                      have g2 : v2 2 = v 2 := hag 2 (by decide)
                                      have g4 : v2 4 = v 4 := hag 4 (by decide)
                                      have g5 : v2 5 = v 5 := hag 5 (by decide)
                                      have g6 : v2 6 = v 6 := hag 6 (by decide)
                                      have g7 : v2 7 = v 7 := hag 7 (by decide)
                                      have g8 : v2 8 = v 8 := hag 8 (by decide)
                                      have b0 : ((2147483649 : Nat) : Int) ≤ (v2 1) + 2147483648 ∧ (v2 1) + 2147483648 ≤ ((4294967295 : Nat) : Int) := xXb hBd 0 rfl
                                      have b1 : ((2147483649 : Nat) : Int) ≤ (v2 4) + 2147483648 ∧ (v2 4) + 2147483648 ≤ ((2147483657 : Nat) : Int) := xXb hBd 1 rfl
                                      have b2 : ((2147483650 : Nat) : Int) ≤ (v2 6) + 2147483648 ∧ (v2 6) + 2147483648 ≤ ((2147483650 : Nat) : Int) := xXb hBd 2 rfl
                                      have b3 : ((2147483648 : Nat) : Int) ≤ (v2 8) + 2147483648 ∧ (v2 8) + 2147483648 ≤ ((2147484647 : Nat) : Int) := xXb hBd 3 rfl
                                      have k0 : xE E 74 36 = v 4 := xKcf hKc 0 rfl rfl
                                      have k1 : xE E 74 37 = v 5 := xKcf hKc 1 rfl rfl
                                      have k2 : xE E 74 40 = v 6 := xKcf hKc 2 rfl rfl
                                      have k3 : xE E 74 38 = v 7 := xKcf hKc 3 rfl rfl
                                      have k4 : xE E 74 41 = v 8 := xKcf hKc 4 rfl rfl
                                      have f0 : (v2 6) = 2 := xXf hF 0 rfl
                                      have f1 : (v2 8) < (v2 1) := xXf hF 1 rfl
                                      have f2 : 0 < (v2 4) := xXf hF 2 rfl
                                      have f3 : ¬ (v2 4) = 0 := xXf hF 3 rfl
                                      have m0 : xE E2 74 36 = (v2 4) := xXm hM 0 rfl
                                      have m1 : xE E2 74 37 = (v2 5) := xXm hM 1 rfl
                                      have e74_38 : xE E2 74 38 = xE E 74 38 := xFr_E hfr rfl
                                      have e74_39 : xE E2 74 39 = xE E 74 39 := xFr_E hfr rfl
                                      have e74_40 : xE E2 74 40 = xE E 74 40 := xFr_E hfr rfl
                                      have e74_41 : xE E2 74 41 = xE E 74 41 := xFr_E hfr rfl
                                      have e74_42 : xE E2 74 42 = xE E 74 42 := xFr_E hfr rfl
                                      have q74_42 : xE E 74 42 = xE E0 74 42 := xFr_E hFr0 rfl
                                      have e84 : ∀ i, xE E2 84 i = xE E 84 i := fun i => xFr_E hfr rfl
                                      have q84 : ∀ i, xE E 84 i = xE E0 84 i := fun i => xFr_E hFr0 rfl
                                      have hI : E = E0 ∧ (v 1) = x0 0 ∧ (v 2) = x0 1 := hInv
                                      have q74_36 : xE E 74 36 = xE E0 74 36 := by rw [hI.1]
                                      have q74_37 : xE E 74 37 = xE E0 74 37 := by rw [hI.1]
                                      have q74_38 : xE E 74 38 = xE E0 74 38 := by rw [hI.1]
                                      have q74_39 : xE E 74 39 = xE E0 74 39 := by rw [hI.1]
                                      have q74_40 : xE E 74 40 = xE E0 74 40 := by rw [hI.1]
                                      have q74_41 : xE E 74 41 = xE E0 74 41 := by rw [hI.1]
                                      show xΨtm x0 E0 E2 (v2 8)
                                      obtain ⟨hE, i1, i2⟩ := hI
                                      unfold xΨtm
                                      by_cases c1 : xE E0 74 36 = 0
                                      · rw [if_pos c1]
                                        by_cases c2 : xE E0 74 40 = 2
                                        · rw [if_pos c2]
                                          by_cases c3 : x0 0 ≤ xE E0 74 41 ∧ xE E0 74 41 ≤ x0 1
                                          · exfalso
                                            omega
                                          · rw [if_neg c3]
                                            first | exact ⟨by omega, by omega⟩ | (exfalso; omega)
                                        · rw [if_neg c2]
                                          by_cases c3 : xE E0 74 40 = 4
                                          · rw [if_pos c3]
                                            first | exact ⟨by omega, by omega⟩ | (exfalso; omega)
                                          · rw [if_neg c3]
                                            first | exact ⟨by omega, by omega⟩ | (exfalso; omega)
                                      · rw [if_neg c1]
                                        first | exact ⟨by omega, by omega⟩ | (exfalso; omega)
                                    · skip
                                      rcases List.mem_cons.mp hx with ex | hx
                                      · subst ex
                                        obtain ⟨hF, hBd, hM⟩ := hXs
                                        have g1 : v2 1 = v 1 := hag 1 (by decide)
                                        have g2 : v2 2 = v 2 := hag 2 (by decide)
                                        have g4 : v2 4 = v 4 := hag 4 (by decide)
                                        have g5 : v2 5 = v 5 := hag 5 (by decide)
                                        have g6 : v2 6 = v 6 := hag 6 (by decide)
                                        have g7 : v2 7 = v 7 := hag 7 (by decide)
                                        have g8 : v2 8 = v 8 := hag 8 (by decide)
                                        have b0 : ((2147483649 : Nat) : Int) ≤ (v2 1) + 2147483648 ∧ (v2 1) + 2147483648 ≤ ((4294967295 : Nat) : Int) := xXb hBd 0 rfl
                                        have b1 : ((2147483648 : Nat) : Int) ≤ (v2 4) + 2147483648 ∧ (v2 4) + 2147483648 ≤ ((2147483648 : Nat) : Int) := xXb hBd 1 rfl
                                        have b2 : ((2147483650 : Nat) : Int) ≤ (v2 6) + 2147483648 ∧ (v2 6) + 2147483648 ≤ ((2147483650 : Nat) : Int) := xXb hBd 2 rfl
                                        have b3 : ((2147483648 : Nat) : Int) ≤ (v2 7) + 2147483648 ∧ (v2 7) + 2147483648 ≤ ((2147484548 : Nat) : Int) := xXb hBd 3 rfl
                                        have b4 : ((2147483648 : Nat) : Int) ≤ (v2 8) + 2147483648 ∧ (v2 8) + 2147483648 ≤ ((2147484647 : Nat) : Int) := xXb hBd 4 rfl
                                        have k0 : xE E 74 36 = v 4 := xKcf hKc 0 rfl rfl
                                        have k1 : xE E 74 37 = v 5 := xKcf hKc 1 rfl rfl
                                        have k2 : xE E 74 40 = v 6 := xKcf hKc 2 rfl rfl
                                        have k3 : xE E 74 38 = v 7 := xKcf hKc 3 rfl rfl
                                        have k4 : xE E 74 41 = v 8 := xKcf hKc 4 rfl rfl
                                        have f0 : (v2 6) = 2 := xXf hF 0 rfl
                                        have f1 : (v2 8) < (v2 1) := xXf hF 1 rfl
                                        have f2 : (v2 4) ≤ 0 := xXf hF 2 rfl
                                        have m0 : xE E2 74 36 = 3 := xXm hM 0 rfl
                                        have m1 : xE E2 74 37 = (v2 7) := xXm hM 1 rfl
                                        have e74_38 : xE E2 74 38 = xE E 74 38 := xFr_E hfr rfl
                                        have e74_39 : xE E2 74 39 = xE E 74 39 := xFr_E hfr rfl
                                        have e74_40 : xE E2 74 40 = xE E 74 40 := xFr_E hfr rfl
                                        have e74_41 : xE E2 74 41 = xE E 74 41 := xFr_E hfr rfl
                                        have e74_42 : xE E2 74 42 = xE E 74 42 := xFr_E hfr rfl
                                        have q74_42 : xE E 74 42 = xE E0 74 42 := xFr_E hFr0 rfl
                                        have e84 : ∀ i, xE E2 84 i = xE E 84 i := fun i => xFr_E hfr rfl
                                        have q84 : ∀ i, xE E 84 i = xE E0 84 i := fun i => xFr_E hFr0 rfl
                                        have hI : E = E0 ∧ (v 1) = x0 0 ∧ (v 2) = x0 1 := hInv
                                        have q74_36 : xE E 74 36 = xE E0 74 36 := by rw [hI.1]
                                        have q74_37 : xE E 74 37 = xE E0 74 37 := by rw [hI.1]
                                        have q74_38 : xE E 74 38 = xE E0 74 38 := by rw [hI.1]
                                        have q74_39 : xE E 74 39 = xE E0 74 39 := by rw [hI.1]
                                        have q74_40 : xE E 74 40 = xE E0 74 40 := by rw [hI.1]
                                        have q74_41 : xE E 74 41 = xE E0 74 41 := by rw [hI.1]
                                        show xΨtm x0 E0 E2 (v2 8)
                                        obtain ⟨hE, i1, i2⟩ := hI
                                        unfold xΨtm
                                        by_cases c1 : xE E0 74 36 = 0
                                        · rw [if_pos c1]
                                          by_cases c2 : xE E0 74 40 = 2
                                          · rw [if_pos c2]
                                            by_cases c3 : x0 0 ≤ xE E0 74 41 ∧ xE E0 74 41 ≤ x0 1
                                            · exfalso
                                              omega
                                            · rw [if_neg c3]
                                              first | exact ⟨by omega, by omega⟩ | (exfalso; omega)
                                          · rw [if_neg c2]
                                            by_cases c3 : xE E0 74 40 = 4
                                            · rw [if_pos c3]
                                              first | exact ⟨by omega, by omega⟩ | (exfalso; omega)
                                            · rw [if_neg c3]
                                              first | exact ⟨by omega, by omega⟩ | (exfalso; omega)
                                        · rw [if_neg c1]
                                          first | exact ⟨by omega, by omega⟩ | (exfalso; omega)
                                      · skip
                                        rcases List.mem_cons.mp hx with ex | hx
                                        · subst ex
                                          obtain ⟨hF, hBd, hM⟩ := hXs
                                          have r5 := hr2 5
                                          have g1 : v2 1 = v 1 := hag 1 (by decide)
                                          have g2 : v2 2 = v 2 := hag 2 (by decide)
                                          have g4 : v2 4 = v 4 := hag 4 (by decide)
                                          have g5 : v2 5 = v 5 := hag 5 (by decide)
                                          have g6 : v2 6 = v 6 := hag 6 (by decide)
                                          have g7 : v2 7 = v 7 := hag 7 (by decide)
                                          have g8 : v2 8 = v 8 := hag 8 (by decide)
                                          have b0 : ((0 : Nat) : Int) ≤ (v2 1) + 2147483648 ∧ (v2 1) + 2147483648 ≤ ((2147484647 : Nat) : Int) := xXb hBd 0 rfl
                                          have b1 : ((0 : Nat) : Int) ≤ (v2 2) + 2147483648 ∧ (v2 2) + 2147483648 ≤ ((2147484646 : Nat) : Int) := xXb hBd 1 rfl
                                          have b2 : ((2147483649 : Nat) : Int) ≤ (v2 4) + 2147483648 ∧ (v2 4) + 2147483648 ≤ ((2147483657 : Nat) : Int) := xXb hBd 2 rfl
                                          have b3 : ((2147483650 : Nat) : Int) ≤ (v2 6) + 2147483648 ∧ (v2 6) + 2147483648 ≤ ((2147483650 : Nat) : Int) := xXb hBd 3 rfl
                                          have b4 : ((2147483648 : Nat) : Int) ≤ (v2 8) + 2147483648 ∧ (v2 8) + 2147483648 ≤ ((2147484647 : Nat) : Int) := xXb hBd 4 rfl
                                          have k0 : xE E 74 36 = v 4 := xKcf hKc 0 rfl rfl
                                          have k1 : xE E 74 37 = v 5 := xKcf hKc 1 rfl rfl
                                          have k2 : xE E 74 40 = v 6 := xKcf hKc 2 rfl rfl
                                          have k3 : xE E 74 38 = v 7 := xKcf hKc 3 rfl rfl
                                          have k4 : xE E 74 41 = v 8 := xKcf hKc 4 rfl rfl
                                          have f0 : (v2 6) = 2 := xXf hF 0 rfl
                                          have f1 : (v2 1) ≤ (v2 8) := xXf hF 1 rfl
                                          have f2 : (v2 2) < (v2 8) := xXf hF 2 rfl
                                          have f3 : 0 < (v2 4) := xXf hF 3 rfl
                                          have f4 : ¬ (v2 4) = 0 := xXf hF 4 rfl
                                          have m0 : xE E2 74 36 = (v2 4) := xXm hM 0 rfl
                                          have m1 : xE E2 74 37 = (v2 5) := xXm hM 1 rfl
                                          have e74_38 : xE E2 74 38 = xE E 74 38 := xFr_E hfr rfl
                                          have e74_39 : xE E2 74 39 = xE E 74 39 := xFr_E hfr rfl
                                          have e74_40 : xE E2 74 40 = xE E 74 40 := xFr_E hfr rfl
                                          have e74_41 : xE E2 74 41 = xE E 74 41 := xFr_E hfr rfl
                                          have e74_42 : xE E2 74 42 = xE E 74 42 := xFr_E hfr rfl
                                          have q74_42 : xE E 74 42 = xE E0 74 42 := xFr_E hFr0 rfl
                                          have e84 : ∀ i, xE E2 84 i = xE E 84 i := fun i => xFr_E hfr rfl
                                          have q84 : ∀ i, xE E 84 i = xE E0 84 i := fun i => xFr_E hFr0 rfl
                                          have hI : E = E0 ∧ (v 1) = x0 0 ∧ (v 2) = x0 1 := hInv
                                          have q74_36 : xE E 74 36 = xE E0 74 36 := by rw [hI.1]
                                          have q74_37 : xE E 74 37 = xE E0 74 37 := by rw [hI.1]
                                          have q74_38 : xE E 74 38 = xE E0 74 38 := by rw [hI.1]
                                          have q74_39 : xE E 74 39 = xE E0 74 39 := by rw [hI.1]
                                          have q74_40 : xE E 74 40 = xE E0 74 40 := by rw [hI.1]
                                          have q74_41 : xE E 74 41 = xE E0 74 41 := by rw [hI.1]
                                          show xΨtm x0 E0 E2 (v2 8)
                                          obtain ⟨hE, i1, i2⟩ := hI
                                          unfold xΨtm
                                          by_cases c1 : xE E0 74 36 = 0
                                          · rw [if_pos c1]
                                            by_cases c2 : xE E0 74 40 = 2
                                            · rw [if_pos c2]
                                              by_cases c3 : x0 0 ≤ xE E0 74 41 ∧ xE E0 74 41 ≤ x0 1
                                              · exfalso
                                                omega
                                              · rw [if_neg c3]
                                                first | exact ⟨by omega, by omega⟩ | (exfalso; omega)
                                            · rw [if_neg c2]
                                              by_cases c3 : xE E0 74 40 = 4
                                              · rw [if_pos c3]
                                                first | exact ⟨by omega, by omega⟩ | (exfalso; omega)
                                              · rw [if_neg c3]
                                                first | exact ⟨by omega, by omega⟩ | (exfalso; omega)
                                          · rw [if_neg c1]
                                            first | exact ⟨by omega, by omega⟩ | (exfalso; omega)
                                        · skip
                                          rcases List.mem_cons.mp hx with ex | hx
                                          · subst ex
                                            obtain ⟨hF, hBd, hM⟩ := hXs
                                            have g1 : v2 1 = v 1 := hag 1 (by decide)
                                            have g2 : v2 2 = v 2 := hag 2 (by decide)
                                            have g4 : v2 4 = v 4 := hag 4 (by decide)
                                            have g5 : v2 5 = v 5 := hag 5 (by decide)
                                            have g6 : v2 6 = v 6 := hag 6 (by decide)
                                            have g7 : v2 7 = v 7 := hag 7 (by decide)
                                            have g8 : v2 8 = v 8 := hag 8 (by decide)
                                            have b0 : ((0 : Nat) : Int) ≤ (v2 1) + 2147483648 ∧ (v2 1) + 2147483648 ≤ ((2147484647 : Nat) : Int) := xXb hBd 0 rfl
                                            have b1 : ((0 : Nat) : Int) ≤ (v2 2) + 2147483648 ∧ (v2 2) + 2147483648 ≤ ((2147484646 : Nat) : Int) := xXb hBd 1 rfl
                                            have b2 : ((2147483648 : Nat) : Int) ≤ (v2 4) + 2147483648 ∧ (v2 4) + 2147483648 ≤ ((2147483648 : Nat) : Int) := xXb hBd 2 rfl
                                            have b3 : ((2147483650 : Nat) : Int) ≤ (v2 6) + 2147483648 ∧ (v2 6) + 2147483648 ≤ ((2147483650 : Nat) : Int) := xXb hBd 3 rfl
                                            have b4 : ((2147483648 : Nat) : Int) ≤ (v2 7) + 2147483648 ∧ (v2 7) + 2147483648 ≤ ((2147484548 : Nat) : Int) := xXb hBd 4 rfl
                                            have b5 : ((2147483648 : Nat) : Int) ≤ (v2 8) + 2147483648 ∧ (v2 8) + 2147483648 ≤ ((2147484647 : Nat) : Int) := xXb hBd 5 rfl
                                            have k0 : xE E 74 36 = v 4 := xKcf hKc 0 rfl rfl
                                            have k1 : xE E 74 37 = v 5 := xKcf hKc 1 rfl rfl
                                            have k2 : xE E 74 40 = v 6 := xKcf hKc 2 rfl rfl
                                            have k3 : xE E 74 38 = v 7 := xKcf hKc 3 rfl rfl
                                            have k4 : xE E 74 41 = v 8 := xKcf hKc 4 rfl rfl
                                            have f0 : (v2 6) = 2 := xXf hF 0 rfl
                                            have f1 : (v2 1) ≤ (v2 8) := xXf hF 1 rfl
                                            have f2 : (v2 2) < (v2 8) := xXf hF 2 rfl
                                            have f3 : (v2 4) ≤ 0 := xXf hF 3 rfl
                                            have m0 : xE E2 74 36 = 3 := xXm hM 0 rfl
                                            have m1 : xE E2 74 37 = (v2 7) := xXm hM 1 rfl
                                            have e74_38 : xE E2 74 38 = xE E 74 38 := xFr_E hfr rfl
                                            have e74_39 : xE E2 74 39 = xE E 74 39 := xFr_E hfr rfl
                                            have e74_40 : xE E2 74 40 = xE E 74 40 := xFr_E hfr rfl
                                            have e74_41 : xE E2 74 41 = xE E 74 41 := xFr_E hfr rfl
                                            have e74_42 : xE E2 74 42 = xE E 74 42 := xFr_E hfr rfl
                                            have q74_42 : xE E 74 42 = xE E0 74 42 := xFr_E hFr0 rfl
                                            have e84 : ∀ i, xE E2 84 i = xE E 84 i := fun i => xFr_E hfr rfl
                                            have q84 : ∀ i, xE E 84 i = xE E0 84 i := fun i => xFr_E hFr0 rfl
                                            have hI : E = E0 ∧ (v 1) = x0 0 ∧ (v 2) = x0 1 := hInv
                                            have q74_36 : xE E 74 36 = xE E0 74 36 := by rw [hI.1]
                                            have q74_37 : xE E 74 37 = xE E0 74 37 := by rw [hI.1]
                                            have q74_38 : xE E 74 38 = xE E0 74 38 := by rw [hI.1]
                                            have q74_39 : xE E 74 39 = xE E0 74 39 := by rw [hI.1]
                                            have q74_40 : xE E 74 40 = xE E0 74 40 := by rw [hI.1]
                                            have q74_41 : xE E 74 41 = xE E0 74 41 := by rw [hI.1]
                                            show xΨtm x0 E0 E2 (v2 8)
                                            obtain ⟨hE, i1, i2⟩ := hI
                                            unfold xΨtm
                                            by_cases c1 : xE E0 74 36 = 0
                                            · rw [if_pos c1]
                                              by_cases c2 : xE E0 74 40 = 2
                                              · rw [if_pos c2]
                                                by_cases c3 : x0 0 ≤ xE E0 74 41 ∧ xE E0 74 41 ≤ x0 1
                                                · exfalso
                                                  omega
                                                · rw [if_neg c3]
                                                  first | exact ⟨by omega, by omega⟩ | (exfalso; omega)
                                              · rw [if_neg c2]
                                                by_cases c3 : xE E0 74 40 = 4
                                                · rw [if_pos c3]
                                                  first | exact ⟨by omega, by omega⟩ | (exfalso; omega)
                                                · rw [if_neg c3]
                                                  first | exact ⟨by omega, by omega⟩ | (exfalso; omega)
                                            · rw [if_neg c1]
                                              first | exact ⟨by omega, by omega⟩ | (exfalso; omega)
                                          · skip
                                            have ex := List.mem_singleton.mp hx
                                            subst ex
                                            obtain ⟨hF, hBd, hM⟩ := hXs
                                            have r5 := hr2 5
                                            have g1 : v2 1 = v 1 := hag 1 (by decide)
                                            have g2 : v2 2 = v 2 := hag 2 (by decide)
                                            have g4 : v2 4 = v 4 := hag 4 (by decide)
                                            have g5 : v2 5 = v 5 := hag 5 (by decide)
                                            have g6 : v2 6 = v 6 := hag 6 (by decide)
                                            have g7 : v2 7 = v 7 := hag 7 (by decide)
                                            have g8 : v2 8 = v 8 := hag 8 (by decide)
                                            have b0 : ((0 : Nat) : Int) ≤ (v2 1) + 2147483648 ∧ (v2 1) + 2147483648 ≤ ((2147484647 : Nat) : Int) := xXb hBd 0 rfl
                                            have b1 : ((2147483648 : Nat) : Int) ≤ (v2 2) + 2147483648 ∧ (v2 2) + 2147483648 ≤ ((4294967295 : Nat) : Int) := xXb hBd 1 rfl
                                            have b2 : ((2147483649 : Nat) : Int) ≤ (v2 4) + 2147483648 ∧ (v2 4) + 2147483648 ≤ ((2147483657 : Nat) : Int) := xXb hBd 2 rfl
                                            have b3 : ((2147483650 : Nat) : Int) ≤ (v2 6) + 2147483648 ∧ (v2 6) + 2147483648 ≤ ((2147483650 : Nat) : Int) := xXb hBd 3 rfl
                                            have b4 : ((2147483648 : Nat) : Int) ≤ (v2 8) + 2147483648 ∧ (v2 8) + 2147483648 ≤ ((2147484647 : Nat) : Int) := xXb hBd 4 rfl
                                            have k0 : xE E 74 36 = v 4 := xKcf hKc 0 rfl rfl
                                            have k1 : xE E 74 37 = v 5 := xKcf hKc 1 rfl rfl
                                            have k2 : xE E 74 40 = v 6 := xKcf hKc 2 rfl rfl
                                            have k3 : xE E 74 38 = v 7 := xKcf hKc 3 rfl rfl
                                            have k4 : xE E 74 41 = v 8 := xKcf hKc 4 rfl rfl
                                            have f0 : (v2 6) = 2 := xXf hF 0 rfl
                                            have f1 : (v2 1) ≤ (v2 8) := xXf hF 1 rfl
                                            have f2 : (v2 8) ≤ (v2 2) := xXf hF 2 rfl
                                            have f3 : ¬ (v2 4) = 0 := xXf hF 3 rfl
                                            have m0 : xE E2 74 36 = (v2 4) := xXm hM 0 rfl
                                            have m1 : xE E2 74 37 = (v2 5) := xXm hM 1 rfl
                                            have e74_38 : xE E2 74 38 = xE E 74 38 := xFr_E hfr rfl
                                            have e74_39 : xE E2 74 39 = xE E 74 39 := xFr_E hfr rfl
                                            have e74_40 : xE E2 74 40 = xE E 74 40 := xFr_E hfr rfl
                                            have e74_41 : xE E2 74 41 = xE E 74 41 := xFr_E hfr rfl
                                            have e74_42 : xE E2 74 42 = xE E 74 42 := xFr_E hfr rfl
                                            have q74_42 : xE E 74 42 = xE E0 74 42 := xFr_E hFr0 rfl
                                            have e84 : ∀ i, xE E2 84 i = xE E 84 i := fun i => xFr_E hfr rfl
                                            have q84 : ∀ i, xE E 84 i = xE E0 84 i := fun i => xFr_E hFr0 rfl
                                            have hI : E = E0 ∧ (v 1) = x0 0 ∧ (v 2) = x0 1 := hInv
                                            have q74_36 : xE E 74 36 = xE E0 74 36 := by rw [hI.1]
                                            have q74_37 : xE E 74 37 = xE E0 74 37 := by rw [hI.1]
                                            have q74_38 : xE E 74 38 = xE E0 74 38 := by rw [hI.1]
                                            have q74_39 : xE E 74 39 = xE E0 74 39 := by rw [hI.1]
                                            have q74_40 : xE E 74 40 = xE E0 74 40 := by rw [hI.1]
                                            have q74_41 : xE E 74 41 = xE E0 74 41 := by rw [hI.1]
                                            show xΨtm x0 E0 E2 (v2 8)
                                            obtain ⟨hE, i1, i2⟩ := hI
                                            unfold xΨtm
                                            by_cases c1 : xE E0 74 36 = 0
                                            · rw [if_pos c1]
                                              by_cases c2 : xE E0 74 40 = 2
                                              · rw [if_pos c2]
                                                by_cases c3 : x0 0 ≤ xE E0 74 41 ∧ xE E0 74 41 ≤ x0 1
                                                · exfalso
                                                  omega
                                                · rw [if_neg c3]
                                                  first | exact ⟨by omega, by omega⟩ | (exfalso; omega)
                                              · rw [if_neg c2]
                                                by_cases c3 : xE E0 74 40 = 4
                                                · rw [if_pos c3]
                                                  first | exact ⟨by omega, by omega⟩ | (exfalso; omega)
                                                · rw [if_neg c3]
                                                  first | exact ⟨by omega, by omega⟩ | (exfalso; omega)
                                            · rw [if_neg c1]
                                              first | exact ⟨by omega, by omega⟩ | (exfalso; omega)
    · have hx : x ∈ [zxftm_br0] := hx
      have hag : ∀ k, k < 4 → v2 k = v k := hag
      have hfr : xFr [] _ _ := hfr
      have ex := List.mem_singleton.mp hx
      subst ex
      obtain ⟨hF, hBd, hM⟩ := hXs
      have g1 : v2 1 = v 1 := hag 1 (by decide)
      have g2 : v2 2 = v 2 := hag 2 (by decide)
      have g3 : v2 3 = v 3 := hag 3 (by decide)
      have b0 : ((2147483648 : Nat) : Int) ≤ (v2 3) + 2147483648 ∧ (v2 3) + 2147483648 ≤ ((2147484647 : Nat) : Int) := xXb hBd 0 rfl
      have e74_36 : xE E2 74 36 = xE E 74 36 := xFr_E hfr rfl
      have e74_37 : xE E2 74 37 = xE E 74 37 := xFr_E hfr rfl
      have e74_38 : xE E2 74 38 = xE E 74 38 := xFr_E hfr rfl
      have e74_39 : xE E2 74 39 = xE E 74 39 := xFr_E hfr rfl
      have e74_40 : xE E2 74 40 = xE E 74 40 := xFr_E hfr rfl
      have e74_41 : xE E2 74 41 = xE E 74 41 := xFr_E hfr rfl
      have e74_42 : xE E2 74 42 = xE E 74 42 := xFr_E hfr rfl
      have q74_42 : xE E 74 42 = xE E0 74 42 := xFr_E hFr0 rfl
      have e84 : ∀ i, xE E2 84 i = xE E 84 i := fun i => xFr_E hfr rfl
      have q84 : ∀ i, xE E 84 i = xE E0 84 i := fun i => xFr_E hFr0 rfl
      have hI : xE E0 74 36 = 0 ∧ xE E0 74 40 = 2 ∧ (x0 0 ≤ xE E0 74 41 ∧ xE E0 74 41 ≤ x0 1) ∧ xE E 74 36 = 0 ∧ (v 3) = xE E0 74 41 ∧ xRD (xE E0 84) (xE E0 74 42) (xE E0 74 39) E := hInv
      show xΨtm x0 E0 E2 (v2 3)
      obtain ⟨i1, i2, i3, i4, i5, i6⟩ := hI
      unfold xΨtm
      rw [if_pos i1, if_pos i2, if_pos i3]
      refine ⟨by omega, by omega, ?_⟩
      have hE : E2 = E := xFr_n hfr
      rw [hE]
      exact i6
