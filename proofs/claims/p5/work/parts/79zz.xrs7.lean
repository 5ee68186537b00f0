/-! THE REFERENCE reads a bobbin (printed by m26.py) -/
noncomputable def zxfbb_zx0 : zyXp := (0, [595, 13], [], [], [], [])
noncomputable def zpfbb_z : zyPh := (0, [595, 13], [(0, 4294967295), (0, 4294967295)], [], [])
noncomputable def zxfbb_ax0 : zyXp := (31, [595, 13], [595], [(20, 0, 206158430209, 64), (21, 0, 0, 68719476737)], [(68719476737, 2147483648, 2147483648), (206158430209, 2147483648, 2147483655)], [(1212452, 68719476737), (1212453, 103079215105)])
noncomputable def zxfbb_ar0 : zyXp := (0, [], [], [(21, 0, 206158430209, 64), (21, 0, 0, 68719476737)], [(68719476737, 2147483648, 2147483648), (137438953473, 2147483648, 2147484548), (206158430209, 2147483656, 2147483656)], [(1212452, 48), (1212453, 137438953473)])
noncomputable def zpfbb_a : zyPh := (0, [595, 13], [(0, 4294967295), (0, 4294967295), (2147483648, 2147483648), (0, 4294967295), (2147483648, 2147484548), (2147483648, 2147483652), (2147483648, 2147483656)], [(1212452, 68719476737), (1212453, 103079215105), (1212454, 137438953473), (1212456, 171798691841), (1228802, 206158430209)], [])
noncomputable def zxfbb_bx0 : zyXp := (58, [595, 13], [206158430209, 595, 595], [(3, 309237645313, 32, 240518168577), (3, 343597383681, 309237645313, 274877906945), (22, 0, 171798691841, 16), (21, 0, 206158430209, 0), (21, 0, 377957122041, 206158430209), (21, 0, 0, 68719476737)], [(68719476737, 2147483648, 2147483648), (171798691841, 2147483650, 2147483650), (206158430209, 2147483648, 2147483727), (240518168577, 2147483649, 2147483652), (274877906945, 2147483649, 2147483653), (309237645313, 2147483652, 2147483664), (343597383681, 2147483652, 2147483728)], [(1212452, 68719476737), (1212453, 103079215105)])
noncomputable def zxfbb_br0 : zyXp := (0, [], [], [(3, 309237645313, 32, 240518168577), (3, 343597383681, 309237645313, 274877906945), (23, 0, 171798691841, 16), (21, 0, 0, 68719476737), (23, 0, 171798691841, 32), (21, 0, 206158430209, 0), (20, 0, 377957122041, 206158430209)], [(68719476737, 2147483648, 2147483648), (137438953473, 2147483648, 2147484548), (171798691841, 2147483651, 2147483651), (206158430209, 2147483652, 2147484647), (240518168577, 2147483649, 2147483652), (274877906945, 2147483649, 2147483653), (309237645313, 2147483652, 2147483664), (343597383681, 2147483652, 2147483728)], [(1212452, 16), (1212453, 137438953473)])
noncomputable def zxfbb_br1 : zyXp := (0, [], [], [(3, 309237645313, 32, 240518168577), (3, 343597383681, 309237645313, 274877906945), (23, 0, 171798691841, 16), (21, 0, 0, 68719476737), (23, 0, 171798691841, 32), (21, 0, 206158430209, 0), (21, 0, 377957122041, 206158430209)], [(68719476737, 2147483648, 2147483648), (137438953473, 2147483648, 2147484548), (171798691841, 2147483651, 2147483651), (206158430209, 2147483648, 2147483727), (240518168577, 2147483649, 2147483652), (274877906945, 2147483649, 2147483653), (309237645313, 2147483652, 2147483664), (343597383681, 2147483652, 2147483728)], [(1212452, 16), (1212453, 137438953473)])
noncomputable def zxfbb_br2 : zyXp := (0, [], [], [(3, 309237645313, 32, 240518168577), (3, 343597383681, 309237645313, 274877906945), (23, 0, 171798691841, 16), (21, 0, 0, 68719476737), (22, 0, 171798691841, 32), (21, 0, 206158430209, 0), (20, 0, 377957122041, 206158430209)], [(68719476737, 2147483648, 2147483648), (137438953473, 2147483648, 2147484548), (171798691841, 2147483652, 2147483652), (206158430209, 2147483652, 2147484647), (240518168577, 2147483649, 2147483652), (274877906945, 2147483649, 2147483653), (309237645313, 2147483652, 2147483664), (343597383681, 2147483652, 2147483728)], [(1212452, 8), (1212453, 137438953473)])
noncomputable def zxfbb_br3 : zyXp := (0, [], [], [(3, 309237645313, 32, 240518168577), (3, 343597383681, 309237645313, 274877906945), (23, 0, 171798691841, 16), (21, 0, 0, 68719476737), (22, 0, 171798691841, 32), (21, 0, 206158430209, 0), (21, 0, 377957122041, 206158430209)], [(68719476737, 2147483648, 2147483648), (137438953473, 2147483648, 2147484548), (171798691841, 2147483652, 2147483652), (206158430209, 2147483648, 2147483727), (240518168577, 2147483649, 2147483652), (274877906945, 2147483649, 2147483653), (309237645313, 2147483652, 2147483664), (343597383681, 2147483652, 2147483728)], [(1212452, 8), (1212453, 137438953473)])
noncomputable def zxfbb_br4 : zyXp := (0, [], [], [(3, 309237645313, 32, 240518168577), (3, 343597383681, 309237645313, 274877906945), (23, 0, 171798691841, 16), (21, 0, 0, 68719476737), (23, 0, 171798691841, 32), (21, 0, 206158430209, 0), (20, 0, 377957122041, 206158430209)], [(68719476737, 2147483648, 2147483648), (137438953473, 2147483648, 2147484548), (171798691841, 2147483648, 2147483649), (206158430209, 2147483652, 2147484647), (240518168577, 2147483649, 2147483652), (274877906945, 2147483649, 2147483653), (309237645313, 2147483652, 2147483664), (343597383681, 2147483652, 2147483728)], [(1212452, 16), (1212453, 137438953473)])
noncomputable def zxfbb_br5 : zyXp := (0, [], [], [(3, 309237645313, 32, 240518168577), (3, 343597383681, 309237645313, 274877906945), (23, 0, 171798691841, 16), (21, 0, 0, 68719476737), (23, 0, 171798691841, 32), (21, 0, 206158430209, 0), (21, 0, 377957122041, 206158430209)], [(68719476737, 2147483648, 2147483648), (137438953473, 2147483648, 2147484548), (171798691841, 2147483648, 2147483649), (206158430209, 2147483648, 2147483727), (240518168577, 2147483649, 2147483652), (274877906945, 2147483649, 2147483653), (309237645313, 2147483652, 2147483664), (343597383681, 2147483652, 2147483728)], [(1212452, 16), (1212453, 137438953473)])
noncomputable def zxfbb_br6 : zyXp := (0, [], [], [(3, 309237645313, 32, 240518168577), (3, 343597383681, 309237645313, 274877906945), (22, 0, 171798691841, 16), (21, 0, 206158430209, 0), (20, 0, 377957122041, 206158430209), (21, 0, 0, 68719476737)], [(68719476737, 2147483648, 2147483648), (137438953473, 2147483648, 2147484548), (171798691841, 2147483650, 2147483650), (206158430209, 2147483652, 2147484647), (240518168577, 2147483649, 2147483652), (274877906945, 2147483649, 2147483653), (309237645313, 2147483652, 2147483664), (343597383681, 2147483652, 2147483728)], [(1212452, 24), (1212453, 137438953473)])
noncomputable def zpfbb_b : zyPh := (34, [595, 13], [(0, 4294967295), (0, 4294967295), (2147483648, 2147483648), (0, 4294967295), (2147483648, 2147484548), (2147483648, 2147483652), (2147483648, 2147484647), (2147483649, 2147483652), (2147483649, 2147483653)], [(1212452, 68719476737), (1212453, 103079215105), (1212454, 137438953473), (1212456, 171798691841), (1212457, 206158430209), (1228800, 240518168577), (1228801, 274877906945)], [])
noncomputable def zxfbb_cx0 : zyXp := (87, [595, 206158430209], [595], [(22, 0, 240518168577, 0), (21, 0, 0, 68719476737)], [(68719476737, 2147483648, 2147483648), (206158430209, 2147483648, 2147484647), (240518168577, 2147483648, 2147483648)], [(1212452, 68719476737), (1212453, 103079215105)])
noncomputable def zxfbb_cr0 : zyXp := (0, [], [], [(23, 0, 240518168577, 0), (21, 0, 0, 68719476737)], [(68719476737, 2147483648, 2147483648), (137438953473, 2147483648, 2147484548), (240518168577, 2147483649, 2147483649)], [(1212452, 32), (1212453, 137438953473)])
noncomputable def zpfbb_c : zyPh := (61, [595, 13], [(0, 4294967295), (0, 4294967295), (2147483648, 2147483648), (0, 4294967295), (2147483648, 2147484548), (2147483648, 2147483652), (2147483648, 2147484647), (2147483648, 2147483649)], [(1212452, 68719476737), (1212453, 103079215105), (1212454, 137438953473), (1212456, 171798691841), (1212457, 206158430209)], [240518168577, 595])
noncomputable def zxfbb_dx0 : zyXp := (92, [595, 34359738369], [34359738369, 595], [], [], [])
noncomputable def zpfbb_d : zyPh := (90, [595, 34359738369], [(0, 4294967295), (0, 4294967295)], [], [])
noncomputable def zxfbb_er0 : zyXp := (0, [], [], [], [], [])
noncomputable def zpfbb_e : zyPh := (95, [595, 13], [(0, 4294967295), (0, 4294967295), (0, 4294967295)], [], [68719476737])
noncomputable def zpfbb (i : Nat) : zyPh := zif (Nat.beq i 0) (zpfbb_z) (zif (Nat.beq i 1) (zpfbb_a) (zif (Nat.beq i 2) (zpfbb_b) (zif (Nat.beq i 3) (zpfbb_c) (zif (Nat.beq i 4) (zpfbb_d) (zpfbb_e)))))
noncomputable def zXfbb (i : Nat) : List zyXp := zif (Nat.beq i 0) ([zxfbb_zx0]) (zif (Nat.beq i 1) ([zxfbb_ax0]) (zif (Nat.beq i 2) ([zxfbb_bx0]) (zif (Nat.beq i 3) ([zxfbb_cx0]) (zif (Nat.beq i 4) ([zxfbb_dx0]) ([])))))
noncomputable def zRfbb (i : Nat) : List zyXp := zif (Nat.beq i 0) ([]) (zif (Nat.beq i 1) ([zxfbb_ar0]) (zif (Nat.beq i 2) ([zxfbb_br0, zxfbb_br1, zxfbb_br2, zxfbb_br3, zxfbb_br4, zxfbb_br5, zxfbb_br6]) (zif (Nat.beq i 3) ([zxfbb_cr0]) (zif (Nat.beq i 4) ([]) ([zxfbb_er0])))))
noncomputable def zFfbb (i : Nat) : zyR := zif (Nat.beq i 0) ([]) (zif (Nat.beq i 1) ([(74, 36, 37)]) (zif (Nat.beq i 2) ([(74, 36, 37)]) (zif (Nat.beq i 3) ([(74, 36, 37)]) (zif (Nat.beq i 4) ([]) ([])))))
noncomputable def zSfbb (i : Nat) : Nat := zif (Nat.beq i 0) (0) (zif (Nat.beq i 1) (0) (zif (Nat.beq i 2) (0) (zif (Nat.beq i 3) (0) (zif (Nat.beq i 4) (0) (0)))))
/-- a bobbin is read -/
def xΦbb (_ : Nat → Int) (E : zyEm) : Prop := xE E 74 36 = 0 ∧ xE E 74 39 ≤ xE E 74 42 ∧ (1 ≤ xE E 75 0 ∧ xE E 75 0 ≤ 4) ∧ (1 ≤ xE E 75 1 ∧ xE E 75 1 ≤ 5) ∧ (0 ≤ xE E 75 2 ∧ xE E 75 2 ≤ 8) ∧ ∀ b, 0 ≤ b → b < xE E 75 2 → 0 ≤ xE E 75 (136 + b)
def xΨbb (_ : Nat → Int) (E E2 : zyEm) (_ : Int) : Prop := ∀ p0, xE E 74 38 = tFr (xE E 84) (xE E 74 42) p0 → xRs (xE E 84) (xE E 74 42) E2 (pBobbin (xE E 84) (xE E 74 42) p0 (xE E 74 39) (xE E 75))
noncomputable def fpfbb : zyR := [(74, 36, 41), (74, 43, 43), (75, 2, 2), (75, 136, 159)]
theorem zyfbb_run : zyrS zymx zxi322 (322, 0, 0, 0, 0) 7 zpfbb (fun _ _ => []) zFfbb zSfbb zXfbb zRfbb 6 = true := by decide +kernel
theorem zyfbb_ck : zyAll (fun i => xsubR (zFfbb i) fpfbb && ((zXfbb i).all xckX && (zRfbb i).all (fun x => xckX x && xrtB false x))) 6 = true := by decide +kernel
def xIfbb (i : Nat) (x0 : Nat → Int) (E0 : zyEm) (v : Nat → Int) (E : zyEm) : Prop := if i = 0 then (E = E0) else if i = 1 then (E = E0) else if i = 2 then ((¬ 8 ≤ xE E0 75 2) ∧ xE E 74 36 = 0 ∧ (∀ k, xE E 75 k = xE E0 75 k) ∧ ((xE E0 74 39)) ≤ (xE E0 74 42) ∧ xRD (xE E0 84) (xE E0 74 42) ((xE E0 74 39)) E) else if i = 3 then ((¬ 8 ≤ xE E0 75 2) ∧ xE E 74 36 = 0 ∧ (∀ k, xE E 75 k = xE E0 75 k) ∧ (((xE E0 74 39)) ≤ (xE E0 74 42) ∧ xRD (xE E0 84) (xE E0 74 42) ((xE E0 74 39)) E) ∧ tKd (xE E0 84) (xE E0 74 42) (xE E0 74 39) = 3 ∧ (0 ≤ tNm (xE E0 84) (xE E0 74 42) (xE E0 74 39) ∧ tNm (xE E0 84) (xE E0 74 42) (xE E0 74 39) < sN (xE E0 75 0) (xE E0 75 1)) ∧ (v 7) = (if pTak (xE E0 75) (tNm (xE E0 84) (xE E0 74 42) (xE E0 74 39)) (pF (xE E0 75 0) (xE E0 75 1) (tNm (xE E0 84) (xE E0 74 42) (xE E0 74 39))) (xE E0 75 2).toNat = true then 1 else 0)) else if i = 4 then ((¬ 8 ≤ xE E0 75 2) ∧ xE E 74 36 = 0 ∧ (∀ k, xE E 75 k = xE E0 75 k) ∧ ((tNx (xE E0 84) (xE E0 74 42) (xE E0 74 39)) ≤ (xE E0 74 42) ∧ xRD (xE E0 84) (xE E0 74 42) (tNx (xE E0 84) (xE E0 74 42) (xE E0 74 39)) E) ∧ tKd (xE E0 84) (xE E0 74 42) (xE E0 74 39) = 3 ∧ (0 ≤ tNm (xE E0 84) (xE E0 74 42) (xE E0 74 39) ∧ tNm (xE E0 84) (xE E0 74 42) (xE E0 74 39) < sN (xE E0 75 0) (xE E0 75 1)) ∧ ¬ (pTak (xE E0 75) (tNm (xE E0 84) (xE E0 74 42) (xE E0 74 39)) (pF (xE E0 75 0) (xE E0 75 1) (tNm (xE E0 84) (xE E0 74 42) (xE E0 74 39))) (xE E0 75 2).toNat = true) ∧ (v 1) = tNm (xE E0 84) (xE E0 74 42) (xE E0 74 39)) else ((¬ 8 ≤ xE E0 75 2) ∧ xE E 74 36 = 0 ∧ (∀ k, 0 ≤ k → xE E 75 k = pNew (xE E0 75) (tNm (xE E0 84) (xE E0 74 42) (xE E0 74 39)) k) ∧ ((tNx (xE E0 84) (xE E0 74 42) (xE E0 74 39)) ≤ (xE E0 74 42) ∧ xRD (xE E0 84) (xE E0 74 42) (tNx (xE E0 84) (xE E0 74 42) (xE E0 74 39)) E) ∧ tKd (xE E0 84) (xE E0 74 42) (xE E0 74 39) = 3 ∧ (0 ≤ tNm (xE E0 84) (xE E0 74 42) (xE E0 74 39) ∧ tNm (xE E0 84) (xE E0 74 42) (xE E0 74 39) < sN (xE E0 75 0) (xE E0 75 1)) ∧ ¬ (pTak (xE E0 75) (tNm (xE E0 84) (xE E0 74 42) (xE E0 74 39)) (pF (xE E0 75 0) (xE E0 75 1) (tNm (xE E0 84) (xE E0 74 42) (xE E0 74 39))) (xE E0 75 2).toNat = true))
def xMfbb (i : Nat) (x0 : Nat → Int) (E0 : zyEm) (v : Nat → Int) (E : zyEm) : Nat := if i = 0 then (9) else if i = 1 then (8) else if i = 2 then (7) else if i = 3 then (6) else if i = 4 then (5) else (4)
theorem xBb {l : Launch} {en : zEn} {me : zMe} (hen : zG zxMeta 322 = some en) (hme : zG zMeth 322 = some me) : xFc l zymx en me 7 [74] 0 fpfbb false xΦbb xΨbb := by
  have een : zG zxMeta 322 = some (zxi322, 1, 2, 11, 322, 0, 0, 0, 0) := rfl
  obtain ⟨me1, hme1, hOK⟩ := zall hen
  rw [hme] at hme1
  cases hme1
  rw [een] at hen
  cases hen
  have hr := zyfbb_run
  have hck := fun i hi => zyAll_iff zyfbb_ck i hi
  simp only [Bool.and_eq_true] at hck
  obtain ⟨mefrd, hmefrd, -⟩ := zall (show zG zxMeta 314 = some (zxi314, 1, 1, 11, 314, 0, 0, 0, 0) from rfl)
  have hfrd := xRd (l := l) (show zG zxMeta 314 = some (zxi314, 1, 1, 11, 314, 0, 0, 0, 0) from rfl) hmefrd
  obtain ⟨mefit, hmefit, -⟩ := zall (show zG zxMeta 273 = some (zxi273, 2, 2, 11, 273, 0, 0, 2, 0) from rfl)
  have hfit := xIt (l := l) (show zG zxMeta 273 = some (zxi273, 2, 2, 11, 273, 0, 0, 2, 0) from rfl) hmefit
  obtain ⟨mefcn, hmefcn, -⟩ := zall (show zG zxMeta 274 = some (zxi274, 2, 3, 11, 274, 0, 0, 1, 0) from rfl)
  have hfcn := xCn (l := l) (show zG zxMeta 274 = some (zxi274, 2, 3, 11, 274, 0, 0, 1, 0) from rfl) hmefcn
  intro B
  refine xcut (mi := zymx) (B := B) hOK rfl rfl (ι := Fin 6) (fun i => zpfbb i.val) (fun _ _ => []) (fun i => zFfbb i.val) (fun i => zSfbb i.val) (fun i => zXfbb i.val) (fun i => zRfbb i.val) (fun i y2 ct en2 me2 h => by cases h) 200000 (fun i => zyAll_iff hr i.val i.isLt) (fun i => (hck i.val i.isLt).1) (fun i => (hck i.val i.isLt).2.1) (fun i => (hck i.val i.isLt).2.2) ⟨0, by decide⟩ ⟨rfl, rfl, rfl, rfl⟩ ⟨by decide, by decide⟩ (fun i x0 E0 v E => xIfbb i.val x0 E0 v E) (fun i x0 E0 v E => xMfbb i.val x0 E0 v E) ?_ ?_ ?_
  · intro x0 E hx0 hT hΦ
    have hΦ : xΦbb x0 E := hΦ
    refine ⟨fun k p hp => ?_, ?_⟩
    · have hk : k < 2 := (List.getElem?_eq_some_iff.mp hp).1
      have hk : k = 0 ∨ k = 1 := by omega
      rcases hk with rfl | rfl
      · have hp : some (0, 4294967295) = some p := hp
        cases hp
        show ((0 : Nat) : Int) ≤ 0 + 2147483648 ∧ 0 + 2147483648 ≤ ((4294967295 : Nat) : Int)
        omega
      · have hp : some (0, 4294967295) = some p := hp
        cases hp
        show ((0 : Nat) : Int) ≤ x0 0 + 2147483648 ∧ x0 0 + 2147483648 ≤ ((4294967295 : Nat) : Int)
        have hx := hx0 0
        omega
    · show E = E
      rfl
  · intro x0 s Wg hRu hrx hT0 hΦ i v H hT hrv hInv hKc hFr0 hIH x hx ρ2 v2 N2 H2 locs lsB stA hAt hB hv hr2 hXs hag hfr hFr hT2
    rcases i with ⟨i, hi⟩
    have hi2 : i = 0 ∨ i = 1 ∨ i = 2 ∨ i = 3 ∨ i = 4 ∨ i = 5 := by omega
    rcases hi2 with rfl | rfl | rfl | rfl | rfl | rfl
    · have hx : x ∈ [zxfbb_zx0] := hx
      have hag : ∀ k, k < 2 → v2 k = v k := hag
      have hfr : xFr [] _ _ := hfr
      have ex := List.mem_singleton.mp hx
      subst ex
      obtain ⟨hF, hBd, hM⟩ := hXs
      have e74_36 : xE (zyEl zymx B H2) 74 36 = xE (zyEl zymx B H) 74 36 := xFr_E hfr rfl
      have e74_37 : xE (zyEl zymx B H2) 74 37 = xE (zyEl zymx B H) 74 37 := xFr_E hfr rfl
      have e74_38 : xE (zyEl zymx B H2) 74 38 = xE (zyEl zymx B H) 74 38 := xFr_E hfr rfl
      have e74_39 : xE (zyEl zymx B H2) 74 39 = xE (zyEl zymx B H) 74 39 := xFr_E hfr rfl
      have e74_40 : xE (zyEl zymx B H2) 74 40 = xE (zyEl zymx B H) 74 40 := xFr_E hfr rfl
      have e74_41 : xE (zyEl zymx B H2) 74 41 = xE (zyEl zymx B H) 74 41 := xFr_E hfr rfl
      have e74_42 : xE (zyEl zymx B H2) 74 42 = xE (zyEl zymx B H) 74 42 := xFr_E hfr rfl
      have q74_42 : xE (zyEl zymx B H) 74 42 = xE (zyEl zymx B s.heap) 74 42 := xFr_E hFr0 rfl
      have e75_0 : xE (zyEl zymx B H2) 75 0 = xE (zyEl zymx B H) 75 0 := xFr_E hfr rfl
      have q75_0 : xE (zyEl zymx B H) 75 0 = xE (zyEl zymx B s.heap) 75 0 := xFr_E hFr0 rfl
      have e75_1 : xE (zyEl zymx B H2) 75 1 = xE (zyEl zymx B H) 75 1 := xFr_E hfr rfl
      have q75_1 : xE (zyEl zymx B H) 75 1 = xE (zyEl zymx B s.heap) 75 1 := xFr_E hFr0 rfl
      have e75_2 : xE (zyEl zymx B H2) 75 2 = xE (zyEl zymx B H) 75 2 := xFr_E hfr rfl
      have e84 : ∀ i, xE (zyEl zymx B H2) 84 i = xE (zyEl zymx B H) 84 i := fun i => xFr_E hfr rfl
      have q84 : ∀ i, xE (zyEl zymx B H) 84 i = xE (zyEl zymx B s.heap) 84 i := fun i => xFr_E hFr0 rfl
      have e75 : ∀ i, xE (zyEl zymx B H2) 75 i = xE (zyEl zymx B H) 75 i := fun i => xFr_E hfr rfl
      have hI : (zyEl zymx B H) = (zyEl zymx B s.heap) := hInv
      have q74_36 : xE (zyEl zymx B H) 74 36 = xE (zyEl zymx B s.heap) 74 36 := by rw [hI]
      have q74_37 : xE (zyEl zymx B H) 74 37 = xE (zyEl zymx B s.heap) 74 37 := by rw [hI]
      have q74_38 : xE (zyEl zymx B H) 74 38 = xE (zyEl zymx B s.heap) 74 38 := by rw [hI]
      have q74_39 : xE (zyEl zymx B H) 74 39 = xE (zyEl zymx B s.heap) 74 39 := by rw [hI]
      have q74_40 : xE (zyEl zymx B H) 74 40 = xE (zyEl zymx B s.heap) 74 40 := by rw [hI]
      have q74_41 : xE (zyEl zymx B H) 74 41 = xE (zyEl zymx B s.heap) 74 41 := by rw [hI]
      have q75_2 : xE (zyEl zymx B H) 75 2 = xE (zyEl zymx B s.heap) 75 2 := by rw [hI]
      have q75 : ∀ i, xE (zyEl zymx B H) 75 i = xE (zyEl zymx B s.heap) 75 i := fun i => by rw [hI]
      obtain ⟨hP1, hP2, hP3, hP4, hP5, hP6⟩ := (show xΦbb x0 (zyEl zymx B s.heap) from hΦ)
      have hE := hI
      have z74_36 : ((2147483648 : Nat) : Int) ≤ xE (zyEl zymx B H2) 74 36 + 2147483648 ∧ xE (zyEl zymx B H2) 74 36 + 2147483648 ≤ ((2147483657 : Nat) : Int) := xTyF hT2 74 36 36 rfl rfl rfl rfl rfl rfl
      have z74_37 : ((0 : Nat) : Int) ≤ xE (zyEl zymx B H2) 74 37 + 2147483648 ∧ xE (zyEl zymx B H2) 74 37 + 2147483648 ≤ ((4294967295 : Nat) : Int) := xTyF hT2 74 37 37 rfl rfl rfl rfl rfl rfl
      have z74_38 : ((2147483648 : Nat) : Int) ≤ xE (zyEl zymx B H2) 74 38 + 2147483648 ∧ xE (zyEl zymx B H2) 74 38 + 2147483648 ≤ ((2147484548 : Nat) : Int) := xTyF hT2 74 38 38 rfl rfl rfl rfl rfl rfl
      have z74_40 : ((2147483648 : Nat) : Int) ≤ xE (zyEl zymx B H2) 74 40 + 2147483648 ∧ xE (zyEl zymx B H2) 74 40 + 2147483648 ≤ ((2147483652 : Nat) : Int) := xTyF hT2 74 40 40 rfl rfl rfl rfl rfl rfl
      have z75_2 : ((0 : Nat) : Int) ≤ xE (zyEl zymx B H2) 75 2 + 2147483648 ∧ xE (zyEl zymx B H2) 75 2 + 2147483648 ≤ ((4294967295 : Nat) : Int) := xTyF hT2 75 2 0 rfl rfl rfl rfl rfl rfl
      refine xGo hIH hAt hB hv hFr ⟨1, by decide⟩ [0, 0] [0, 0, xE (zyEl zymx B H2) 74 36, xE (zyEl zymx B H2) 74 37, xE (zyEl zymx B H2) 74 38, xE (zyEl zymx B H2) 74 40, xE (zyEl zymx B H2) 75 2] rfl ⟨by decide +kernel, ⟨rfl, by decide +kernel⟩, (xcs_c rfl (xcs_c rfl xcs_n)), (xe_0 (xe_0 (xe_c (by omega) (by omega) rfl (xe_f (xE_r _ _ _) (xe_c (by omega) (by omega) rfl (xe_c (by omega) (by omega) rfl (xe_c (by omega) (by omega) rfl xe_n))))))), (xkq_c hT2 74 36 (q := 36) rfl rfl rfl rfl rfl rfl rfl rfl rfl rfl rfl (xkq_c hT2 74 37 (q := 37) rfl rfl rfl rfl rfl rfl rfl rfl rfl rfl rfl (xkq_c hT2 74 38 (q := 38) rfl rfl rfl rfl rfl rfl rfl rfl rfl rfl rfl (xkq_c hT2 74 40 (q := 40) rfl rfl rfl rfl rfl rfl rfl rfl rfl rfl rfl (xkq_c hT2 75 2 (q := 0) rfl rfl rfl rfl rfl rfl rfl rfl rfl rfl rfl xkq_n)))))⟩ xst_n ?_ ?_
      · show (zyEl zymx B H2) = (zyEl zymx B s.heap)
        exact (xFr_n hfr).trans hI
      · show 8 < 9
        omega
    · have hx : x ∈ [zxfbb_ax0] := hx
      have hag : ∀ k, k < 7 → v2 k = v k := hag
      have hfr : xFr [(74, 36, 37)] _ _ := hfr
      have ex := List.mem_singleton.mp hx
      subst ex
      obtain ⟨hF, hBd, hM⟩ := hXs
      have r3 := hr2 3
      have g2 : v2 2 = v 2 := hag 2 (by decide)
      have g3 : v2 3 = v 3 := hag 3 (by decide)
      have g4 : v2 4 = v 4 := hag 4 (by decide)
      have g5 : v2 5 = v 5 := hag 5 (by decide)
      have g6 : v2 6 = v 6 := hag 6 (by decide)
      have b0 : ((2147483648 : Nat) : Int) ≤ (v2 2) + 2147483648 ∧ (v2 2) + 2147483648 ≤ ((2147483648 : Nat) : Int) := xXb hBd 0 rfl
      have b1 : ((2147483648 : Nat) : Int) ≤ (v2 6) + 2147483648 ∧ (v2 6) + 2147483648 ≤ ((2147483655 : Nat) : Int) := xXb hBd 1 rfl
      have k0 : xE (zyEl zymx B H) 74 36 = v 2 := xKcf hKc 0 rfl rfl
      have k1 : xE (zyEl zymx B H) 74 37 = v 3 := xKcf hKc 1 rfl rfl
      have k2 : xE (zyEl zymx B H) 74 38 = v 4 := xKcf hKc 2 rfl rfl
      have k3 : xE (zyEl zymx B H) 74 40 = v 5 := xKcf hKc 3 rfl rfl
      have k4 : xE (zyEl zymx B H) 75 2 = v 6 := xKcf hKc 4 rfl rfl
      have f0 : (v2 6) < 8 := xXf hF 0 rfl
      have f1 : (v2 2) ≤ 0 := xXf hF 1 rfl
      have m0 : xE (zyEl zymx B H2) 74 36 = (v2 2) := xXm hM 0 rfl
      have m1 : xE (zyEl zymx B H2) 74 37 = (v2 3) := xXm hM 1 rfl
      have e74_38 : xE (zyEl zymx B H2) 74 38 = xE (zyEl zymx B H) 74 38 := xFr_E hfr rfl
      have e74_39 : xE (zyEl zymx B H2) 74 39 = xE (zyEl zymx B H) 74 39 := xFr_E hfr rfl
      have e74_40 : xE (zyEl zymx B H2) 74 40 = xE (zyEl zymx B H) 74 40 := xFr_E hfr rfl
      have e74_41 : xE (zyEl zymx B H2) 74 41 = xE (zyEl zymx B H) 74 41 := xFr_E hfr rfl
      have e74_42 : xE (zyEl zymx B H2) 74 42 = xE (zyEl zymx B H) 74 42 := xFr_E hfr rfl
      have q74_42 : xE (zyEl zymx B H) 74 42 = xE (zyEl zymx B s.heap) 74 42 := xFr_E hFr0 rfl
      have e75_0 : xE (zyEl zymx B H2) 75 0 = xE (zyEl zymx B H) 75 0 := xFr_E hfr rfl
      have q75_0 : xE (zyEl zymx B H) 75 0 = xE (zyEl zymx B s.heap) 75 0 := xFr_E hFr0 rfl
      have e75_1 : xE (zyEl zymx B H2) 75 1 = xE (zyEl zymx B H) 75 1 := xFr_E hfr rfl
      have q75_1 : xE (zyEl zymx B H) 75 1 = xE (zyEl zymx B s.heap) 75 1 := xFr_E hFr0 rfl
      have e75_2 : xE (zyEl zymx B H2) 75 2 = xE (zyEl zymx B H) 75 2 := xFr_E hfr rfl
      have e84 : ∀ i, xE (zyEl zymx B H2) 84 i = xE (zyEl zymx B H) 84 i := fun i => xFr_E hfr rfl
      have q84 : ∀ i, xE (zyEl zymx B H) 84 i = xE (zyEl zymx B s.heap) 84 i := fun i => xFr_E hFr0 rfl
      have e75 : ∀ i, xE (zyEl zymx B H2) 75 i = xE (zyEl zymx B H) 75 i := fun i => xFr_E hfr rfl
      have hI : (zyEl zymx B H) = (zyEl zymx B s.heap) := hInv
      have q74_36 : xE (zyEl zymx B H) 74 36 = xE (zyEl zymx B s.heap) 74 36 := by rw [hI]
      have q74_37 : xE (zyEl zymx B H) 74 37 = xE (zyEl zymx B s.heap) 74 37 := by rw [hI]
      have q74_38 : xE (zyEl zymx B H) 74 38 = xE (zyEl zymx B s.heap) 74 38 := by rw [hI]
      have q74_39 : xE (zyEl zymx B H) 74 39 = xE (zyEl zymx B s.heap) 74 39 := by rw [hI]
      have q74_40 : xE (zyEl zymx B H) 74 40 = xE (zyEl zymx B s.heap) 74 40 := by rw [hI]
      have q74_41 : xE (zyEl zymx B H) 74 41 = xE (zyEl zymx B s.heap) 74 41 := by rw [hI]
      have q75_2 : xE (zyEl zymx B H) 75 2 = xE (zyEl zymx B s.heap) 75 2 := by rw [hI]
      have q75 : ∀ i, xE (zyEl zymx B H) 75 i = xE (zyEl zymx B s.heap) 75 i := fun i => by rw [hI]
      have hE := hI
      have h752 := q75 2
      obtain ⟨hP1, hP2, hP3, hP4, hP5, hP6⟩ := (show xΦbb x0 (zyEl zymx B s.heap) from hΦ)
      have hc : ∀ k, xE (zyEl zymx B H) 75 k = xE (zyEl zymx B s.heap) 75 k := fun k => by rw [hE]
      refine xCa hRu hIH hAt hB hv hFr (hfrd B) (ix := 450) (ax := 5024) rfl rfl rfl hmefrd ⟨_, rfl, rfl, by decide⟩ ⟨rfl, rfl, rfl⟩ (by decide) [] [] [] rfl ⟨rfl, rfl⟩ (by decide +kernel) xcs_n (by decide +kernel) ?_ (fun H3 r hT3 hf3 hFr3 hr3 hΨ3 => ?_)
      · show xΦrd (xfv []) (zyEl zymx B H2)
        unfold xΦrd
        omega
      · have hΨ3 : xΨrd (xfv []) (zyEl zymx B H2) (zyEl zymx B H3) r := hΨ3
        have d74_36 : xE (zyEl zymx B H3) 74 36 = xE (zyEl zymx B H2) 74 36 := xFr_E hf3 rfl
        have d74_37 : xE (zyEl zymx B H3) 74 37 = xE (zyEl zymx B H2) 74 37 := xFr_E hf3 rfl
        have d74_42 : xE (zyEl zymx B H3) 74 42 = xE (zyEl zymx B H2) 74 42 := xFr_E hf3 rfl
        have d75_0 : xE (zyEl zymx B H3) 75 0 = xE (zyEl zymx B H2) 75 0 := xFr_E hf3 rfl
        have d75_1 : xE (zyEl zymx B H3) 75 1 = xE (zyEl zymx B H2) 75 1 := xFr_E hf3 rfl
        have d75_2 : xE (zyEl zymx B H3) 75 2 = xE (zyEl zymx B H2) 75 2 := xFr_E hf3 rfl
        have d84 : ∀ i, xE (zyEl zymx B H3) 84 i = xE (zyEl zymx B H2) 84 i := fun i => xFr_E hf3 rfl
        have d75 : ∀ i, xE (zyEl zymx B H3) 75 i = xE (zyEl zymx B H2) 75 i := fun i => xFr_E hf3 rfl
        have z74_36 : ((2147483648 : Nat) : Int) ≤ xE (zyEl zymx B H3) 74 36 + 2147483648 ∧ xE (zyEl zymx B H3) 74 36 + 2147483648 ≤ ((2147483657 : Nat) : Int) := xTyF hT3 74 36 36 rfl rfl rfl rfl rfl rfl
        have z74_37 : ((0 : Nat) : Int) ≤ xE (zyEl zymx B H3) 74 37 + 2147483648 ∧ xE (zyEl zymx B H3) 74 37 + 2147483648 ≤ ((4294967295 : Nat) : Int) := xTyF hT3 74 37 37 rfl rfl rfl rfl rfl rfl
        have z74_38 : ((2147483648 : Nat) : Int) ≤ xE (zyEl zymx B H3) 74 38 + 2147483648 ∧ xE (zyEl zymx B H3) 74 38 + 2147483648 ≤ ((2147484548 : Nat) : Int) := xTyF hT3 74 38 38 rfl rfl rfl rfl rfl rfl
        have z74_40 : ((2147483648 : Nat) : Int) ≤ xE (zyEl zymx B H3) 74 40 + 2147483648 ∧ xE (zyEl zymx B H3) 74 40 + 2147483648 ≤ ((2147483652 : Nat) : Int) := xTyF hT3 74 40 40 rfl rfl rfl rfl rfl rfl
        have z74_41 : ((2147483648 : Nat) : Int) ≤ xE (zyEl zymx B H3) 74 41 + 2147483648 ∧ xE (zyEl zymx B H3) 74 41 + 2147483648 ≤ ((2147484647 : Nat) : Int) := xTyF hT3 74 41 41 rfl rfl rfl rfl rfl rfl
        have z75_0 : ((0 : Nat) : Int) ≤ xE (zyEl zymx B H3) 75 0 + 2147483648 ∧ xE (zyEl zymx B H3) 75 0 + 2147483648 ≤ ((4294967295 : Nat) : Int) := xTyF hT3 75 0 0 rfl rfl rfl rfl rfl rfl
        have z75_1 : ((0 : Nat) : Int) ≤ xE (zyEl zymx B H3) 75 1 + 2147483648 ∧ xE (zyEl zymx B H3) 75 1 + 2147483648 ≤ ((4294967295 : Nat) : Int) := xTyF hT3 75 1 0 rfl rfl rfl rfl rfl rfl
        unfold xΨrd at hΨ3
        rw [show xE (zyEl zymx B H2) 84 = xE (zyEl zymx B s.heap) 84 from funext fun i => (e84 i).trans (q84 i), show xE (zyEl zymx B H2) 74 42 = xE (zyEl zymx B s.heap) 74 42 by omega, show xE (zyEl zymx B H2) 74 39 = (xE (zyEl zymx B s.heap) 74 39) by omega] at hΨ3
        refine ⟨⟨2, by decide⟩, [0, 0], [0, 0, xE (zyEl zymx B H3) 74 36, xE (zyEl zymx B H3) 74 37, xE (zyEl zymx B H3) 74 38, xE (zyEl zymx B H3) 74 40, xE (zyEl zymx B H3) 74 41, xE (zyEl zymx B H3) 75 0, xE (zyEl zymx B H3) 75 1], rfl, ⟨by decide +kernel, ⟨rfl, by decide +kernel⟩, (xcs_c rfl (xcs_c rfl xcs_n)), (xe_0 (xe_0 (xe_c (by omega) (by omega) rfl (xe_f (xE_r _ _ _) (xe_c (by omega) (by omega) rfl (xe_c (by omega) (by omega) rfl (xe_c (by omega) (by omega) rfl (xe_c (by omega) (by omega) rfl (xe_c (by omega) (by omega) rfl xe_n))))))))), (xkq_c hT3 74 36 (q := 36) rfl rfl rfl rfl rfl rfl rfl rfl rfl rfl rfl (xkq_c hT3 74 37 (q := 37) rfl rfl rfl rfl rfl rfl rfl rfl rfl rfl rfl (xkq_c hT3 74 38 (q := 38) rfl rfl rfl rfl rfl rfl rfl rfl rfl rfl rfl (xkq_c hT3 74 40 (q := 40) rfl rfl rfl rfl rfl rfl rfl rfl rfl rfl rfl (xkq_c hT3 74 41 (q := 41) rfl rfl rfl rfl rfl rfl rfl rfl rfl rfl rfl (xkq_c hT3 75 0 (q := 0) rfl rfl rfl rfl rfl rfl rfl rfl rfl rfl rfl (xkq_c hT3 75 1 (q := 0) rfl rfl rfl rfl rfl rfl rfl rfl rfl rfl rfl xkq_n)))))))⟩, (by rw [if_neg (by decide)]; exact xst_n), ?_, ?_⟩
        · show (¬ 8 ≤ xE (zyEl zymx B s.heap) 75 2) ∧ xE (zyEl zymx B H3) 74 36 = 0 ∧ (∀ k, xE (zyEl zymx B H3) 75 k = xE (zyEl zymx B s.heap) 75 k) ∧ ((xE (zyEl zymx B s.heap) 74 39)) ≤ (xE (zyEl zymx B s.heap) 74 42) ∧ xRD (xE (zyEl zymx B s.heap) 84) (xE (zyEl zymx B s.heap) 74 42) ((xE (zyEl zymx B s.heap) 74 39)) (zyEl zymx B H3)
          exact ⟨by omega, by omega, fun k => (d75 k).trans ((e75 k).trans (hc k)), hP2, hΨ3⟩
        · show 7 < 8
          omega
    · have hx : x ∈ [zxfbb_bx0] := hx
      have hag : ∀ k, k < 9 → v2 k = v k := hag
      have hfr : xFr [(74, 36, 37)] _ _ := hfr
      have ex := List.mem_singleton.mp hx
      subst ex
      obtain ⟨hF, hBd, hM⟩ := hXs
      have r3 := hr2 3
      have g2 : v2 2 = v 2 := hag 2 (by decide)
      have g3 : v2 3 = v 3 := hag 3 (by decide)
      have g4 : v2 4 = v 4 := hag 4 (by decide)
      have g5 : v2 5 = v 5 := hag 5 (by decide)
      have g6 : v2 6 = v 6 := hag 6 (by decide)
      have g7 : v2 7 = v 7 := hag 7 (by decide)
      have g8 : v2 8 = v 8 := hag 8 (by decide)
      have b0 : ((2147483648 : Nat) : Int) ≤ (v2 2) + 2147483648 ∧ (v2 2) + 2147483648 ≤ ((2147483648 : Nat) : Int) := xXb hBd 0 rfl
      have b1 : ((2147483650 : Nat) : Int) ≤ (v2 5) + 2147483648 ∧ (v2 5) + 2147483648 ≤ ((2147483650 : Nat) : Int) := xXb hBd 1 rfl
      have b2 : ((2147483648 : Nat) : Int) ≤ (v2 6) + 2147483648 ∧ (v2 6) + 2147483648 ≤ ((2147483727 : Nat) : Int) := xXb hBd 2 rfl
      have b3 : ((2147483649 : Nat) : Int) ≤ (v2 7) + 2147483648 ∧ (v2 7) + 2147483648 ≤ ((2147483652 : Nat) : Int) := xXb hBd 3 rfl
      have b4 : ((2147483649 : Nat) : Int) ≤ (v2 8) + 2147483648 ∧ (v2 8) + 2147483648 ≤ ((2147483653 : Nat) : Int) := xXb hBd 4 rfl
      have b5 : ((2147483652 : Nat) : Int) ≤ (v2 9) + 2147483648 ∧ (v2 9) + 2147483648 ≤ ((2147483664 : Nat) : Int) := xXb hBd 5 rfl
      have b6 : ((2147483652 : Nat) : Int) ≤ (v2 10) + 2147483648 ∧ (v2 10) + 2147483648 ≤ ((2147483728 : Nat) : Int) := xXb hBd 6 rfl
      have k0 : xE (zyEl zymx B H) 74 36 = v 2 := xKcf hKc 0 rfl rfl
      have k1 : xE (zyEl zymx B H) 74 37 = v 3 := xKcf hKc 1 rfl rfl
      have k2 : xE (zyEl zymx B H) 74 38 = v 4 := xKcf hKc 2 rfl rfl
      have k3 : xE (zyEl zymx B H) 74 40 = v 5 := xKcf hKc 3 rfl rfl
      have k4 : xE (zyEl zymx B H) 74 41 = v 6 := xKcf hKc 4 rfl rfl
      have k5 : xE (zyEl zymx B H) 75 0 = v 7 := xKcf hKc 5 rfl rfl
      have k6 : xE (zyEl zymx B H) 75 1 = v 8 := xKcf hKc 6 rfl rfl
      have f0 : -2147483648 ≤ 4 * (v2 7) → 4 * (v2 7) < 2147483648 → (v2 9) = 4 * (v2 7) := xXf hF 0 rfl
      have f0 := f0 (by omega) (by omega)
      have f1 : -2147483648 ≤ (v2 9) * (v2 8) → (v2 9) * (v2 8) < 2147483648 → (v2 10) = (v2 9) * (v2 8) := xXf hF 1 rfl
      have f2 : (v2 5) = 2 := xXf hF 2 rfl
      have f3 : 0 ≤ (v2 6) := xXf hF 3 rfl
      have f4 : (v2 6) ≤ (v2 10 + (-1)) := xXf hF 4 rfl
      have f5 : (v2 2) ≤ 0 := xXf hF 5 rfl
      have m0 : xE (zyEl zymx B H2) 74 36 = (v2 2) := xXm hM 0 rfl
      have m1 : xE (zyEl zymx B H2) 74 37 = (v2 3) := xXm hM 1 rfl
      have e74_38 : xE (zyEl zymx B H2) 74 38 = xE (zyEl zymx B H) 74 38 := xFr_E hfr rfl
      have e74_39 : xE (zyEl zymx B H2) 74 39 = xE (zyEl zymx B H) 74 39 := xFr_E hfr rfl
      have e74_40 : xE (zyEl zymx B H2) 74 40 = xE (zyEl zymx B H) 74 40 := xFr_E hfr rfl
      have e74_41 : xE (zyEl zymx B H2) 74 41 = xE (zyEl zymx B H) 74 41 := xFr_E hfr rfl
      have e74_42 : xE (zyEl zymx B H2) 74 42 = xE (zyEl zymx B H) 74 42 := xFr_E hfr rfl
      have q74_42 : xE (zyEl zymx B H) 74 42 = xE (zyEl zymx B s.heap) 74 42 := xFr_E hFr0 rfl
      have e75_0 : xE (zyEl zymx B H2) 75 0 = xE (zyEl zymx B H) 75 0 := xFr_E hfr rfl
      have q75_0 : xE (zyEl zymx B H) 75 0 = xE (zyEl zymx B s.heap) 75 0 := xFr_E hFr0 rfl
      have e75_1 : xE (zyEl zymx B H2) 75 1 = xE (zyEl zymx B H) 75 1 := xFr_E hfr rfl
      have q75_1 : xE (zyEl zymx B H) 75 1 = xE (zyEl zymx B s.heap) 75 1 := xFr_E hFr0 rfl
      have e75_2 : xE (zyEl zymx B H2) 75 2 = xE (zyEl zymx B H) 75 2 := xFr_E hfr rfl
      have e84 : ∀ i, xE (zyEl zymx B H2) 84 i = xE (zyEl zymx B H) 84 i := fun i => xFr_E hfr rfl
      have q84 : ∀ i, xE (zyEl zymx B H) 84 i = xE (zyEl zymx B s.heap) 84 i := fun i => xFr_E hFr0 rfl
      have e75 : ∀ i, xE (zyEl zymx B H2) 75 i = xE (zyEl zymx B H) 75 i := fun i => xFr_E hfr rfl
      have hI : (¬ 8 ≤ xE (zyEl zymx B s.heap) 75 2) ∧ xE (zyEl zymx B H) 74 36 = 0 ∧ (∀ k, xE (zyEl zymx B H) 75 k = xE (zyEl zymx B s.heap) 75 k) ∧ ((xE (zyEl zymx B s.heap) 74 39)) ≤ (xE (zyEl zymx B s.heap) 74 42) ∧ xRD (xE (zyEl zymx B s.heap) 84) (xE (zyEl zymx B s.heap) 74 42) ((xE (zyEl zymx B s.heap) 74 39)) (zyEl zymx B H) := hInv
      obtain ⟨hnb, i1, hc, hp, hs⟩ := hI
      obtain ⟨hP1, hP2, hP3, hP4, hP5, hP6⟩ := (show xΦbb x0 (zyEl zymx B s.heap) from hΦ)
      obtain ⟨s1, s1b, s2, s3, s4, s5, s6, s7, s8⟩ := xRD_i hs hp
      have h750 := hc 0
      have h751 := hc 1
      obtain ⟨w1, w2, w3⟩ := sN_of (r := xE (zyEl zymx B s.heap) 75 0) (c := (v2 8)) (A := (v2 9)) (by omega) (by omega) (by omega) f1
      rw [show (v2 8) = xE (zyEl zymx B s.heap) 75 1 by omega] at w1
      have c3 : tKd (xE (zyEl zymx B s.heap) 84) (xE (zyEl zymx B s.heap) 74 42) (xE (zyEl zymx B s.heap) 74 39) = 3 := by omega
      have s6 := s6 c3
      have hcc : xE (zyEl zymx B H2) 75 = xE (zyEl zymx B s.heap) 75 := funext fun k => (e75 k).trans (hc k)
      refine xCa hRu hIH hAt hB hv hFr (hfit B) (ix := 320) (ax := 4368) rfl rfl rfl hmefit ⟨_, rfl, rfl, by decide⟩ ⟨rfl, rfl, rfl⟩ (by decide) [206158430209] [595] [(v2 6)] rfl ⟨rfl, rfl⟩ (by decide +kernel) (xcs_c rfl xcs_n) (by decide +kernel) ?_ (fun H3 r hT3 hf3 hFr3 hr3 hΨ3 => ?_)
      · show xΦit (xfv [(v2 6)]) (zyEl zymx B H2)
        unfold xΦit
        rw [hcc]
        exact ⟨hP3, hP4, ⟨by show 0 ≤ (v2 6); omega, by show (v2 6) < _; omega⟩, hP5, hP6⟩
      · have hΨ3 : xΨit (xfv [(v2 6)]) (zyEl zymx B H2) (zyEl zymx B H3) r := hΨ3
        have d74_36 : xE (zyEl zymx B H3) 74 36 = xE (zyEl zymx B H2) 74 36 := xFr_E hf3 rfl
        have d74_37 : xE (zyEl zymx B H3) 74 37 = xE (zyEl zymx B H2) 74 37 := xFr_E hf3 rfl
        have d74_38 : xE (zyEl zymx B H3) 74 38 = xE (zyEl zymx B H2) 74 38 := xFr_E hf3 rfl
        have d74_39 : xE (zyEl zymx B H3) 74 39 = xE (zyEl zymx B H2) 74 39 := xFr_E hf3 rfl
        have d74_40 : xE (zyEl zymx B H3) 74 40 = xE (zyEl zymx B H2) 74 40 := xFr_E hf3 rfl
        have d74_41 : xE (zyEl zymx B H3) 74 41 = xE (zyEl zymx B H2) 74 41 := xFr_E hf3 rfl
        have d74_42 : xE (zyEl zymx B H3) 74 42 = xE (zyEl zymx B H2) 74 42 := xFr_E hf3 rfl
        have d75_0 : xE (zyEl zymx B H3) 75 0 = xE (zyEl zymx B H2) 75 0 := xFr_E hf3 rfl
        have d75_1 : xE (zyEl zymx B H3) 75 1 = xE (zyEl zymx B H2) 75 1 := xFr_E hf3 rfl
        have d75_2 : xE (zyEl zymx B H3) 75 2 = xE (zyEl zymx B H2) 75 2 := xFr_E hf3 rfl
        have d84 : ∀ i, xE (zyEl zymx B H3) 84 i = xE (zyEl zymx B H2) 84 i := fun i => xFr_E hf3 rfl
        have d75 : ∀ i, xE (zyEl zymx B H3) 75 i = xE (zyEl zymx B H2) 75 i := fun i => xFr_E hf3 rfl
        have z74_36 : ((2147483648 : Nat) : Int) ≤ xE (zyEl zymx B H3) 74 36 + 2147483648 ∧ xE (zyEl zymx B H3) 74 36 + 2147483648 ≤ ((2147483657 : Nat) : Int) := xTyF hT3 74 36 36 rfl rfl rfl rfl rfl rfl
        have z74_37 : ((0 : Nat) : Int) ≤ xE (zyEl zymx B H3) 74 37 + 2147483648 ∧ xE (zyEl zymx B H3) 74 37 + 2147483648 ≤ ((4294967295 : Nat) : Int) := xTyF hT3 74 37 37 rfl rfl rfl rfl rfl rfl
        have z74_38 : ((2147483648 : Nat) : Int) ≤ xE (zyEl zymx B H3) 74 38 + 2147483648 ∧ xE (zyEl zymx B H3) 74 38 + 2147483648 ≤ ((2147484548 : Nat) : Int) := xTyF hT3 74 38 38 rfl rfl rfl rfl rfl rfl
        have z74_40 : ((2147483648 : Nat) : Int) ≤ xE (zyEl zymx B H3) 74 40 + 2147483648 ∧ xE (zyEl zymx B H3) 74 40 + 2147483648 ≤ ((2147483652 : Nat) : Int) := xTyF hT3 74 40 40 rfl rfl rfl rfl rfl rfl
        have z74_41 : ((2147483648 : Nat) : Int) ≤ xE (zyEl zymx B H3) 74 41 + 2147483648 ∧ xE (zyEl zymx B H3) 74 41 + 2147483648 ≤ ((2147484647 : Nat) : Int) := xTyF hT3 74 41 41 rfl rfl rfl rfl rfl rfl
        have hr : r = if pTak (xE (zyEl zymx B H2) 75) (v2 6) (pF (xE (zyEl zymx B H2) 75 0) (xE (zyEl zymx B H2) 75 1) (v2 6)) (xE (zyEl zymx B H2) 75 2).toNat = true then 1 else 0 := hΨ3
        rw [hcc, show (v2 6) = tNm (xE (zyEl zymx B s.heap) 84) (xE (zyEl zymx B s.heap) 74 42) (xE (zyEl zymx B s.heap) 74 39) by omega] at hr
        have hE3 : (zyEl zymx B H3) = (zyEl zymx B H2) := xFr_n hf3
        have hs2 := xRD_k hs hfr rfl rfl rfl rfl rfl
        have hb01 : r = 0 ∨ r = 1 := by
          rw [hr]
          split
          · exact Or.inr rfl
          · exact Or.inl rfl
        refine ⟨⟨3, by decide⟩, [0, 0], [0, 0, xE (zyEl zymx B H3) 74 36, xE (zyEl zymx B H3) 74 37, xE (zyEl zymx B H3) 74 38, xE (zyEl zymx B H3) 74 40, xE (zyEl zymx B H3) 74 41, r], rfl, ⟨by decide +kernel, ⟨rfl, by decide +kernel⟩, (xcs_c rfl (xcs_c rfl xcs_n)), (xe_0 (xe_0 (xe_c (by omega) (by omega) rfl (xe_f (xE_r _ _ _) (xe_c (by omega) (by omega) rfl (xe_c (by omega) (by omega) rfl (xe_c (by omega) (by omega) rfl (xe_c (by omega) (by omega) rfl xe_n)))))))), (xkq_c hT3 74 36 (q := 36) rfl rfl rfl rfl rfl rfl rfl rfl rfl rfl rfl (xkq_c hT3 74 37 (q := 37) rfl rfl rfl rfl rfl rfl rfl rfl rfl rfl rfl (xkq_c hT3 74 38 (q := 38) rfl rfl rfl rfl rfl rfl rfl rfl rfl rfl rfl (xkq_c hT3 74 40 (q := 40) rfl rfl rfl rfl rfl rfl rfl rfl rfl rfl rfl (xkq_c hT3 74 41 (q := 41) rfl rfl rfl rfl rfl rfl rfl rfl rfl rfl rfl xkq_n)))))⟩, (by rw [if_pos rfl]; exact ⟨7, [595], rfl, by decide, rfl, (xst_r rfl xst_n)⟩), ?_, ?_⟩
        · show (¬ 8 ≤ xE (zyEl zymx B s.heap) 75 2) ∧ xE (zyEl zymx B H3) 74 36 = 0 ∧ (∀ k, xE (zyEl zymx B H3) 75 k = xE (zyEl zymx B s.heap) 75 k) ∧ (((xE (zyEl zymx B s.heap) 74 39)) ≤ (xE (zyEl zymx B s.heap) 74 42) ∧ xRD (xE (zyEl zymx B s.heap) 84) (xE (zyEl zymx B s.heap) 74 42) ((xE (zyEl zymx B s.heap) 74 39)) (zyEl zymx B H3)) ∧ tKd (xE (zyEl zymx B s.heap) 84) (xE (zyEl zymx B s.heap) 74 42) (xE (zyEl zymx B s.heap) 74 39) = 3 ∧ (0 ≤ tNm (xE (zyEl zymx B s.heap) 84) (xE (zyEl zymx B s.heap) 74 42) (xE (zyEl zymx B s.heap) 74 39) ∧ tNm (xE (zyEl zymx B s.heap) 84) (xE (zyEl zymx B s.heap) 74 42) (xE (zyEl zymx B s.heap) 74 39) < sN (xE (zyEl zymx B s.heap) 75 0) (xE (zyEl zymx B s.heap) 75 1)) ∧ (r : Int) = (if pTak (xE (zyEl zymx B s.heap) 75) (tNm (xE (zyEl zymx B s.heap) 84) (xE (zyEl zymx B s.heap) 74 42) (xE (zyEl zymx B s.heap) 74 39)) (pF (xE (zyEl zymx B s.heap) 75 0) (xE (zyEl zymx B s.heap) 75 1) (tNm (xE (zyEl zymx B s.heap) 84) (xE (zyEl zymx B s.heap) 74 42) (xE (zyEl zymx B s.heap) 74 39))) (xE (zyEl zymx B s.heap) 75 2).toNat = true then 1 else 0)
          refine ⟨hnb, by omega, fun k => (d75 k).trans ((e75 k).trans (hc k)), ⟨hp, by rw [hE3]; exact hs2⟩, c3, ⟨by omega, by omega⟩, hr⟩
        · show 6 < 7
          omega
    · have hx : x ∈ [zxfbb_cx0] := hx
      have hag : ∀ k, k < 8 → v2 k = v k := hag
      have hfr : xFr [(74, 36, 37)] _ _ := hfr
      have ex := List.mem_singleton.mp hx
      subst ex
      obtain ⟨hF, hBd, hM⟩ := hXs
      have r3 := hr2 3
      have g2 : v2 2 = v 2 := hag 2 (by decide)
      have g3 : v2 3 = v 3 := hag 3 (by decide)
      have g4 : v2 4 = v 4 := hag 4 (by decide)
      have g5 : v2 5 = v 5 := hag 5 (by decide)
      have g6 : v2 6 = v 6 := hag 6 (by decide)
      have g7 : v2 7 = v 7 := hag 7 (by decide)
      have b0 : ((2147483648 : Nat) : Int) ≤ (v2 2) + 2147483648 ∧ (v2 2) + 2147483648 ≤ ((2147483648 : Nat) : Int) := xXb hBd 0 rfl
      have b1 : ((2147483648 : Nat) : Int) ≤ (v2 6) + 2147483648 ∧ (v2 6) + 2147483648 ≤ ((2147484647 : Nat) : Int) := xXb hBd 1 rfl
      have b2 : ((2147483648 : Nat) : Int) ≤ (v2 7) + 2147483648 ∧ (v2 7) + 2147483648 ≤ ((2147483648 : Nat) : Int) := xXb hBd 2 rfl
      have k0 : xE (zyEl zymx B H) 74 36 = v 2 := xKcf hKc 0 rfl rfl
      have k1 : xE (zyEl zymx B H) 74 37 = v 3 := xKcf hKc 1 rfl rfl
      have k2 : xE (zyEl zymx B H) 74 38 = v 4 := xKcf hKc 2 rfl rfl
      have k3 : xE (zyEl zymx B H) 74 40 = v 5 := xKcf hKc 3 rfl rfl
      have k4 : xE (zyEl zymx B H) 74 41 = v 6 := xKcf hKc 4 rfl rfl
      have f0 : (v2 7) = 0 := xXf hF 0 rfl
      have f1 : (v2 2) ≤ 0 := xXf hF 1 rfl
      have m0 : xE (zyEl zymx B H2) 74 36 = (v2 2) := xXm hM 0 rfl
      have m1 : xE (zyEl zymx B H2) 74 37 = (v2 3) := xXm hM 1 rfl
      have e74_38 : xE (zyEl zymx B H2) 74 38 = xE (zyEl zymx B H) 74 38 := xFr_E hfr rfl
      have e74_39 : xE (zyEl zymx B H2) 74 39 = xE (zyEl zymx B H) 74 39 := xFr_E hfr rfl
      have e74_40 : xE (zyEl zymx B H2) 74 40 = xE (zyEl zymx B H) 74 40 := xFr_E hfr rfl
      have e74_41 : xE (zyEl zymx B H2) 74 41 = xE (zyEl zymx B H) 74 41 := xFr_E hfr rfl
      have e74_42 : xE (zyEl zymx B H2) 74 42 = xE (zyEl zymx B H) 74 42 := xFr_E hfr rfl
      have q74_42 : xE (zyEl zymx B H) 74 42 = xE (zyEl zymx B s.heap) 74 42 := xFr_E hFr0 rfl
      have e75_0 : xE (zyEl zymx B H2) 75 0 = xE (zyEl zymx B H) 75 0 := xFr_E hfr rfl
      have q75_0 : xE (zyEl zymx B H) 75 0 = xE (zyEl zymx B s.heap) 75 0 := xFr_E hFr0 rfl
      have e75_1 : xE (zyEl zymx B H2) 75 1 = xE (zyEl zymx B H) 75 1 := xFr_E hfr rfl
      have q75_1 : xE (zyEl zymx B H) 75 1 = xE (zyEl zymx B s.heap) 75 1 := xFr_E hFr0 rfl
      have e75_2 : xE (zyEl zymx B H2) 75 2 = xE (zyEl zymx B H) 75 2 := xFr_E hfr rfl
      have e84 : ∀ i, xE (zyEl zymx B H2) 84 i = xE (zyEl zymx B H) 84 i := fun i => xFr_E hfr rfl
      have q84 : ∀ i, xE (zyEl zymx B H) 84 i = xE (zyEl zymx B s.heap) 84 i := fun i => xFr_E hFr0 rfl
      have e75 : ∀ i, xE (zyEl zymx B H2) 75 i = xE (zyEl zymx B H) 75 i := fun i => xFr_E hfr rfl
      have hI : (¬ 8 ≤ xE (zyEl zymx B s.heap) 75 2) ∧ xE (zyEl zymx B H) 74 36 = 0 ∧ (∀ k, xE (zyEl zymx B H) 75 k = xE (zyEl zymx B s.heap) 75 k) ∧ (((xE (zyEl zymx B s.heap) 74 39)) ≤ (xE (zyEl zymx B s.heap) 74 42) ∧ xRD (xE (zyEl zymx B s.heap) 84) (xE (zyEl zymx B s.heap) 74 42) ((xE (zyEl zymx B s.heap) 74 39)) (zyEl zymx B H)) ∧ tKd (xE (zyEl zymx B s.heap) 84) (xE (zyEl zymx B s.heap) 74 42) (xE (zyEl zymx B s.heap) 74 39) = 3 ∧ (0 ≤ tNm (xE (zyEl zymx B s.heap) 84) (xE (zyEl zymx B s.heap) 74 42) (xE (zyEl zymx B s.heap) 74 39) ∧ tNm (xE (zyEl zymx B s.heap) 84) (xE (zyEl zymx B s.heap) 74 42) (xE (zyEl zymx B s.heap) 74 39) < sN (xE (zyEl zymx B s.heap) 75 0) (xE (zyEl zymx B s.heap) 75 1)) ∧ (v 7) = (if pTak (xE (zyEl zymx B s.heap) 75) (tNm (xE (zyEl zymx B s.heap) 84) (xE (zyEl zymx B s.heap) 74 42) (xE (zyEl zymx B s.heap) 74 39)) (pF (xE (zyEl zymx B s.heap) 75 0) (xE (zyEl zymx B s.heap) 75 1) (tNm (xE (zyEl zymx B s.heap) 84) (xE (zyEl zymx B s.heap) 74 42) (xE (zyEl zymx B s.heap) 74 39))) (xE (zyEl zymx B s.heap) 75 2).toNat = true then 1 else 0) := hInv
      obtain ⟨hnb, i1, hc, ⟨hp, hs⟩, c3, hnd, hr⟩ := hI
      obtain ⟨hP1, hP2, hP3, hP4, hP5, hP6⟩ := (show xΦbb x0 (zyEl zymx B s.heap) from hΦ)
      obtain ⟨s1, s1b, s2, s3, s4, s5, s6, s7, s8⟩ := xRD_i hs hp
      have s6 := s6 c3
      have ct : ¬ (pTak (xE (zyEl zymx B s.heap) 75) (tNm (xE (zyEl zymx B s.heap) 84) (xE (zyEl zymx B s.heap) 74 42) (xE (zyEl zymx B s.heap) 74 39)) (pF (xE (zyEl zymx B s.heap) 75 0) (xE (zyEl zymx B s.heap) 75 1) (tNm (xE (zyEl zymx B s.heap) 84) (xE (zyEl zymx B s.heap) 74 42) (xE (zyEl zymx B s.heap) 74 39))) (xE (zyEl zymx B s.heap) 75 2).toNat = true) := fun ct => by
        rw [if_pos ct] at hr
        omega
      have s4 := s4 (by omega)
      refine xCa hRu hIH hAt hB hv hFr (hfrd B) (ix := 450) (ax := 5024) rfl rfl rfl hmefrd ⟨_, rfl, rfl, by decide⟩ ⟨rfl, rfl, rfl⟩ (by decide) [] [] [] rfl ⟨rfl, rfl⟩ (by decide +kernel) xcs_n (by decide +kernel) ?_ (fun H3 r hT3 hf3 hFr3 hr3 hΨ3 => ?_)
      · show xΦrd (xfv []) (zyEl zymx B H2)
        unfold xΦrd
        omega
      · have hΨ3 : xΨrd (xfv []) (zyEl zymx B H2) (zyEl zymx B H3) r := hΨ3
        have d74_36 : xE (zyEl zymx B H3) 74 36 = xE (zyEl zymx B H2) 74 36 := xFr_E hf3 rfl
        have d74_37 : xE (zyEl zymx B H3) 74 37 = xE (zyEl zymx B H2) 74 37 := xFr_E hf3 rfl
        have d74_42 : xE (zyEl zymx B H3) 74 42 = xE (zyEl zymx B H2) 74 42 := xFr_E hf3 rfl
        have d75_0 : xE (zyEl zymx B H3) 75 0 = xE (zyEl zymx B H2) 75 0 := xFr_E hf3 rfl
        have d75_1 : xE (zyEl zymx B H3) 75 1 = xE (zyEl zymx B H2) 75 1 := xFr_E hf3 rfl
        have d75_2 : xE (zyEl zymx B H3) 75 2 = xE (zyEl zymx B H2) 75 2 := xFr_E hf3 rfl
        have d84 : ∀ i, xE (zyEl zymx B H3) 84 i = xE (zyEl zymx B H2) 84 i := fun i => xFr_E hf3 rfl
        have d75 : ∀ i, xE (zyEl zymx B H3) 75 i = xE (zyEl zymx B H2) 75 i := fun i => xFr_E hf3 rfl
        unfold xΨrd at hΨ3
        rw [show xE (zyEl zymx B H2) 84 = xE (zyEl zymx B s.heap) 84 from funext fun i => (e84 i).trans (q84 i), show xE (zyEl zymx B H2) 74 42 = xE (zyEl zymx B s.heap) 74 42 by omega, show xE (zyEl zymx B H2) 74 39 = tNx (xE (zyEl zymx B s.heap) 84) (xE (zyEl zymx B s.heap) 74 42) (xE (zyEl zymx B s.heap) 74 39) by omega] at hΨ3
        refine ⟨⟨4, by decide⟩, [0, 206158430209], [0, (v2 6)], rfl, ⟨by decide +kernel, ⟨rfl, by decide +kernel⟩, (xcs_c rfl (xcs_c rfl xcs_n)), (xe_0 (xe_f (by omega) xe_n)), xkq_n⟩, (by rw [if_neg (by decide)]; exact xst_n), ?_, ?_⟩
        · show (¬ 8 ≤ xE (zyEl zymx B s.heap) 75 2) ∧ xE (zyEl zymx B H3) 74 36 = 0 ∧ (∀ k, xE (zyEl zymx B H3) 75 k = xE (zyEl zymx B s.heap) 75 k) ∧ ((tNx (xE (zyEl zymx B s.heap) 84) (xE (zyEl zymx B s.heap) 74 42) (xE (zyEl zymx B s.heap) 74 39)) ≤ (xE (zyEl zymx B s.heap) 74 42) ∧ xRD (xE (zyEl zymx B s.heap) 84) (xE (zyEl zymx B s.heap) 74 42) (tNx (xE (zyEl zymx B s.heap) 84) (xE (zyEl zymx B s.heap) 74 42) (xE (zyEl zymx B s.heap) 74 39)) (zyEl zymx B H3)) ∧ tKd (xE (zyEl zymx B s.heap) 84) (xE (zyEl zymx B s.heap) 74 42) (xE (zyEl zymx B s.heap) 74 39) = 3 ∧ (0 ≤ tNm (xE (zyEl zymx B s.heap) 84) (xE (zyEl zymx B s.heap) 74 42) (xE (zyEl zymx B s.heap) 74 39) ∧ tNm (xE (zyEl zymx B s.heap) 84) (xE (zyEl zymx B s.heap) 74 42) (xE (zyEl zymx B s.heap) 74 39) < sN (xE (zyEl zymx B s.heap) 75 0) (xE (zyEl zymx B s.heap) 75 1)) ∧ ¬ (pTak (xE (zyEl zymx B s.heap) 75) (tNm (xE (zyEl zymx B s.heap) 84) (xE (zyEl zymx B s.heap) 74 42) (xE (zyEl zymx B s.heap) 74 39)) (pF (xE (zyEl zymx B s.heap) 75 0) (xE (zyEl zymx B s.heap) 75 1) (tNm (xE (zyEl zymx B s.heap) 84) (xE (zyEl zymx B s.heap) 74 42) (xE (zyEl zymx B s.heap) 74 39))) (xE (zyEl zymx B s.heap) 75 2).toNat = true) ∧ ((v2 6) : Int) = tNm (xE (zyEl zymx B s.heap) 84) (xE (zyEl zymx B s.heap) 74 42) (xE (zyEl zymx B s.heap) 74 39)
          exact ⟨hnb, by omega, fun k => (d75 k).trans ((e75 k).trans (hc k)), ⟨s4.2.1, hΨ3⟩, c3, hnd, ct, by omega⟩
        · show 5 < 6
          omega
    · have hx : x ∈ [zxfbb_dx0] := hx
      have hag : ∀ k, k < 2 → v2 k = v k := hag
      have hfr : xFr [] _ _ := hfr
      have ex := List.mem_singleton.mp hx
      subst ex
      obtain ⟨hF, hBd, hM⟩ := hXs
      have r1 := hr2 1
      have g1 : v2 1 = v 1 := hag 1 (by decide)
      have e74_36 : xE (zyEl zymx B H2) 74 36 = xE (zyEl zymx B H) 74 36 := xFr_E hfr rfl
      have e74_37 : xE (zyEl zymx B H2) 74 37 = xE (zyEl zymx B H) 74 37 := xFr_E hfr rfl
      have e74_38 : xE (zyEl zymx B H2) 74 38 = xE (zyEl zymx B H) 74 38 := xFr_E hfr rfl
      have e74_39 : xE (zyEl zymx B H2) 74 39 = xE (zyEl zymx B H) 74 39 := xFr_E hfr rfl
      have e74_40 : xE (zyEl zymx B H2) 74 40 = xE (zyEl zymx B H) 74 40 := xFr_E hfr rfl
      have e74_41 : xE (zyEl zymx B H2) 74 41 = xE (zyEl zymx B H) 74 41 := xFr_E hfr rfl
      have e74_42 : xE (zyEl zymx B H2) 74 42 = xE (zyEl zymx B H) 74 42 := xFr_E hfr rfl
      have q74_42 : xE (zyEl zymx B H) 74 42 = xE (zyEl zymx B s.heap) 74 42 := xFr_E hFr0 rfl
      have e75_0 : xE (zyEl zymx B H2) 75 0 = xE (zyEl zymx B H) 75 0 := xFr_E hfr rfl
      have q75_0 : xE (zyEl zymx B H) 75 0 = xE (zyEl zymx B s.heap) 75 0 := xFr_E hFr0 rfl
      have e75_1 : xE (zyEl zymx B H2) 75 1 = xE (zyEl zymx B H) 75 1 := xFr_E hfr rfl
      have q75_1 : xE (zyEl zymx B H) 75 1 = xE (zyEl zymx B s.heap) 75 1 := xFr_E hFr0 rfl
      have e75_2 : xE (zyEl zymx B H2) 75 2 = xE (zyEl zymx B H) 75 2 := xFr_E hfr rfl
      have e84 : ∀ i, xE (zyEl zymx B H2) 84 i = xE (zyEl zymx B H) 84 i := fun i => xFr_E hfr rfl
      have q84 : ∀ i, xE (zyEl zymx B H) 84 i = xE (zyEl zymx B s.heap) 84 i := fun i => xFr_E hFr0 rfl
      have e75 : ∀ i, xE (zyEl zymx B H2) 75 i = xE (zyEl zymx B H) 75 i := fun i => xFr_E hfr rfl
      have hI : (¬ 8 ≤ xE (zyEl zymx B s.heap) 75 2) ∧ xE (zyEl zymx B H) 74 36 = 0 ∧ (∀ k, xE (zyEl zymx B H) 75 k = xE (zyEl zymx B s.heap) 75 k) ∧ ((tNx (xE (zyEl zymx B s.heap) 84) (xE (zyEl zymx B s.heap) 74 42) (xE (zyEl zymx B s.heap) 74 39)) ≤ (xE (zyEl zymx B s.heap) 74 42) ∧ xRD (xE (zyEl zymx B s.heap) 84) (xE (zyEl zymx B s.heap) 74 42) (tNx (xE (zyEl zymx B s.heap) 84) (xE (zyEl zymx B s.heap) 74 42) (xE (zyEl zymx B s.heap) 74 39)) (zyEl zymx B H)) ∧ tKd (xE (zyEl zymx B s.heap) 84) (xE (zyEl zymx B s.heap) 74 42) (xE (zyEl zymx B s.heap) 74 39) = 3 ∧ (0 ≤ tNm (xE (zyEl zymx B s.heap) 84) (xE (zyEl zymx B s.heap) 74 42) (xE (zyEl zymx B s.heap) 74 39) ∧ tNm (xE (zyEl zymx B s.heap) 84) (xE (zyEl zymx B s.heap) 74 42) (xE (zyEl zymx B s.heap) 74 39) < sN (xE (zyEl zymx B s.heap) 75 0) (xE (zyEl zymx B s.heap) 75 1)) ∧ ¬ (pTak (xE (zyEl zymx B s.heap) 75) (tNm (xE (zyEl zymx B s.heap) 84) (xE (zyEl zymx B s.heap) 74 42) (xE (zyEl zymx B s.heap) 74 39)) (pF (xE (zyEl zymx B s.heap) 75 0) (xE (zyEl zymx B s.heap) 75 1) (tNm (xE (zyEl zymx B s.heap) 84) (xE (zyEl zymx B s.heap) 74 42) (xE (zyEl zymx B s.heap) 74 39))) (xE (zyEl zymx B s.heap) 75 2).toNat = true) ∧ (v 1) = tNm (xE (zyEl zymx B s.heap) 84) (xE (zyEl zymx B s.heap) 74 42) (xE (zyEl zymx B s.heap) 74 39) := hInv
      obtain ⟨hnb, i1, hc, ⟨hp, hs⟩, c3, hnd, ct, i2⟩ := hI
      have h752 := hc 2
      obtain ⟨hP1, hP2, hP3, hP4, hP5, hP6⟩ := (show xΦbb x0 (zyEl zymx B s.heap) from hΦ)
      have hEE : (zyEl zymx B H2) = (zyEl zymx B H) := xFr_n hfr
      have hcc : xE (zyEl zymx B H2) 75 = xE (zyEl zymx B s.heap) 75 := funext fun k => (e75 k).trans (hc k)
      refine xCa hRu hIH hAt hB hv hFr (hfcn B) (ix := 323) (ax := 4384) rfl rfl rfl hmefcn ⟨_, rfl, rfl, by decide⟩ ⟨rfl, rfl, rfl⟩ (by decide) [34359738369] [] [(v2 1)] rfl ⟨rfl, rfl⟩ (by decide +kernel) (xcs_c rfl xcs_n) (by decide +kernel) ?_ (fun H3 r hT3 hf3 hFr3 hr3 hΨ3 => ?_)
      · show xΦcn (xfv [(v2 1)]) (zyEl zymx B H2)
        unfold xΦcn
        rw [hcc]
        omega
      · have hΨ3 : xΨcn (xfv [(v2 1)]) (zyEl zymx B H2) (zyEl zymx B H3) r := hΨ3
        have d74_36 : xE (zyEl zymx B H3) 74 36 = xE (zyEl zymx B H2) 74 36 := xFr_E hf3 rfl
        have d74_37 : xE (zyEl zymx B H3) 74 37 = xE (zyEl zymx B H2) 74 37 := xFr_E hf3 rfl
        have d74_38 : xE (zyEl zymx B H3) 74 38 = xE (zyEl zymx B H2) 74 38 := xFr_E hf3 rfl
        have d74_39 : xE (zyEl zymx B H3) 74 39 = xE (zyEl zymx B H2) 74 39 := xFr_E hf3 rfl
        have d74_40 : xE (zyEl zymx B H3) 74 40 = xE (zyEl zymx B H2) 74 40 := xFr_E hf3 rfl
        have d74_41 : xE (zyEl zymx B H3) 74 41 = xE (zyEl zymx B H2) 74 41 := xFr_E hf3 rfl
        have d74_42 : xE (zyEl zymx B H3) 74 42 = xE (zyEl zymx B H2) 74 42 := xFr_E hf3 rfl
        have d75_0 : xE (zyEl zymx B H3) 75 0 = xE (zyEl zymx B H2) 75 0 := xFr_E hf3 rfl
        have d75_1 : xE (zyEl zymx B H3) 75 1 = xE (zyEl zymx B H2) 75 1 := xFr_E hf3 rfl
        have d84 : ∀ i, xE (zyEl zymx B H3) 84 i = xE (zyEl zymx B H2) 84 i := fun i => xFr_E hf3 rfl
        have hr : ∀ k, 0 ≤ k → xE (zyEl zymx B H3) 75 k = pNew (xE (zyEl zymx B H2) 75) (v2 1) k := hΨ3
        rw [hcc, show (v2 1) = tNm (xE (zyEl zymx B s.heap) 84) (xE (zyEl zymx B s.heap) 74 42) (xE (zyEl zymx B s.heap) 74 39) by omega] at hr
        refine ⟨⟨5, by decide⟩, [0, 0], [0, 0, r], rfl, ⟨by decide +kernel, ⟨rfl, by decide +kernel⟩, (xcs_c rfl (xcs_c rfl xcs_n)), (xe_0 (xe_0 (xe_f (by omega) xe_n))), xkq_n⟩, (by rw [if_pos rfl]; exact ⟨2, [], rfl, by decide, rfl, xst_n⟩), ?_, ?_⟩
        · show (¬ 8 ≤ xE (zyEl zymx B s.heap) 75 2) ∧ xE (zyEl zymx B H3) 74 36 = 0 ∧ (∀ k, 0 ≤ k → xE (zyEl zymx B H3) 75 k = pNew (xE (zyEl zymx B s.heap) 75) (tNm (xE (zyEl zymx B s.heap) 84) (xE (zyEl zymx B s.heap) 74 42) (xE (zyEl zymx B s.heap) 74 39)) k) ∧ ((tNx (xE (zyEl zymx B s.heap) 84) (xE (zyEl zymx B s.heap) 74 42) (xE (zyEl zymx B s.heap) 74 39)) ≤ (xE (zyEl zymx B s.heap) 74 42) ∧ xRD (xE (zyEl zymx B s.heap) 84) (xE (zyEl zymx B s.heap) 74 42) (tNx (xE (zyEl zymx B s.heap) 84) (xE (zyEl zymx B s.heap) 74 42) (xE (zyEl zymx B s.heap) 74 39)) (zyEl zymx B H3)) ∧ tKd (xE (zyEl zymx B s.heap) 84) (xE (zyEl zymx B s.heap) 74 42) (xE (zyEl zymx B s.heap) 74 39) = 3 ∧ (0 ≤ tNm (xE (zyEl zymx B s.heap) 84) (xE (zyEl zymx B s.heap) 74 42) (xE (zyEl zymx B s.heap) 74 39) ∧ tNm (xE (zyEl zymx B s.heap) 84) (xE (zyEl zymx B s.heap) 74 42) (xE (zyEl zymx B s.heap) 74 39) < sN (xE (zyEl zymx B s.heap) 75 0) (xE (zyEl zymx B s.heap) 75 1)) ∧ ¬ (pTak (xE (zyEl zymx B s.heap) 75) (tNm (xE (zyEl zymx B s.heap) 84) (xE (zyEl zymx B s.heap) 74 42) (xE (zyEl zymx B s.heap) 74 39)) (pF (xE (zyEl zymx B s.heap) 75 0) (xE (zyEl zymx B s.heap) 75 1) (tNm (xE (zyEl zymx B s.heap) 84) (xE (zyEl zymx B s.heap) 74 42) (xE (zyEl zymx B s.heap) 74 39))) (xE (zyEl zymx B s.heap) 75 2).toNat = true)
          exact ⟨hnb, by omega, hr, ⟨hp, xRD_k (by rw [hEE]; exact hs) hf3 rfl rfl rfl rfl rfl⟩, c3, hnd, ct⟩
        · show 4 < 5
          omega
    · cases hx
  · intro x0 E0 E E2 hrx hT0 hΦ i v hT hrv hInv hKc hFr0 x hx v2 hr2 hXs hag hfr hFr hT2
    rcases i with ⟨i, hi⟩
    have hi2 : i = 0 ∨ i = 1 ∨ i = 2 ∨ i = 3 ∨ i = 4 ∨ i = 5 := by omega
    rcases hi2 with rfl | rfl | rfl | rfl | rfl | rfl
    · cases hx
    · have hx : x ∈ [zxfbb_ar0] := hx
      have hag : ∀ k, k < 7 → v2 k = v k := hag
      have hfr : xFr [(74, 36, 37)] _ _ := hfr
      have ex := List.mem_singleton.mp hx
      subst ex
      obtain ⟨hF, hBd, hM⟩ := hXs
      have g2 : v2 2 = v 2 := hag 2 (by decide)
      have g3 : v2 3 = v 3 := hag 3 (by decide)
      have g4 : v2 4 = v 4 := hag 4 (by decide)
      have g5 : v2 5 = v 5 := hag 5 (by decide)
      have g6 : v2 6 = v 6 := hag 6 (by decide)
      have b0 : ((2147483648 : Nat) : Int) ≤ (v2 2) + 2147483648 ∧ (v2 2) + 2147483648 ≤ ((2147483648 : Nat) : Int) := xXb hBd 0 rfl
      have b1 : ((2147483648 : Nat) : Int) ≤ (v2 4) + 2147483648 ∧ (v2 4) + 2147483648 ≤ ((2147484548 : Nat) : Int) := xXb hBd 1 rfl
      have b2 : ((2147483656 : Nat) : Int) ≤ (v2 6) + 2147483648 ∧ (v2 6) + 2147483648 ≤ ((2147483656 : Nat) : Int) := xXb hBd 2 rfl
      have k0 : xE E 74 36 = v 2 := xKcf hKc 0 rfl rfl
      have k1 : xE E 74 37 = v 3 := xKcf hKc 1 rfl rfl
      have k2 : xE E 74 38 = v 4 := xKcf hKc 2 rfl rfl
      have k3 : xE E 74 40 = v 5 := xKcf hKc 3 rfl rfl
      have k4 : xE E 75 2 = v 6 := xKcf hKc 4 rfl rfl
      have f0 : 8 ≤ (v2 6) := xXf hF 0 rfl
      have f1 : (v2 2) ≤ 0 := xXf hF 1 rfl
      have m0 : xE E2 74 36 = 6 := xXm hM 0 rfl
      have m1 : xE E2 74 37 = (v2 4) := xXm hM 1 rfl
      have e74_38 : xE E2 74 38 = xE E 74 38 := xFr_E hfr rfl
      have e74_39 : xE E2 74 39 = xE E 74 39 := xFr_E hfr rfl
      have e74_40 : xE E2 74 40 = xE E 74 40 := xFr_E hfr rfl
      have e74_41 : xE E2 74 41 = xE E 74 41 := xFr_E hfr rfl
      have e74_42 : xE E2 74 42 = xE E 74 42 := xFr_E hfr rfl
      have q74_42 : xE E 74 42 = xE E0 74 42 := xFr_E hFr0 rfl
      have e75_0 : xE E2 75 0 = xE E 75 0 := xFr_E hfr rfl
      have q75_0 : xE E 75 0 = xE E0 75 0 := xFr_E hFr0 rfl
      have e75_1 : xE E2 75 1 = xE E 75 1 := xFr_E hfr rfl
      have q75_1 : xE E 75 1 = xE E0 75 1 := xFr_E hFr0 rfl
      have e75_2 : xE E2 75 2 = xE E 75 2 := xFr_E hfr rfl
      have e84 : ∀ i, xE E2 84 i = xE E 84 i := fun i => xFr_E hfr rfl
      have q84 : ∀ i, xE E 84 i = xE E0 84 i := fun i => xFr_E hFr0 rfl
      have e75 : ∀ i, xE E2 75 i = xE E 75 i := fun i => xFr_E hfr rfl
      have hI : E = E0 := hInv
      have q74_36 : xE E 74 36 = xE E0 74 36 := by rw [hI]
      have q74_37 : xE E 74 37 = xE E0 74 37 := by rw [hI]
      have q74_38 : xE E 74 38 = xE E0 74 38 := by rw [hI]
      have q74_39 : xE E 74 39 = xE E0 74 39 := by rw [hI]
      have q74_40 : xE E 74 40 = xE E0 74 40 := by rw [hI]
      have q74_41 : xE E 74 41 = xE E0 74 41 := by rw [hI]
      have q75_2 : xE E 75 2 = xE E0 75 2 := by rw [hI]
      have q75 : ∀ i, xE E 75 i = xE E0 75 i := fun i => by rw [hI]
      show xΨbb x0 E0 E2 0
      have hE := hI
      have h752 := q75 2
      obtain ⟨hP1, hP2, hP3, hP4, hP5, hP6⟩ := (show xΦbb x0 E0 from hΦ)
      unfold xΨbb
      intro p0 h0
      unfold pBobbin
      first
        | (exfalso; omega)
        | (rw [if_pos (by omega)]; exact xRs_e (xEr_n (by omega) (by omega) (by omega)))
    · have hx : x ∈ [zxfbb_br0, zxfbb_br1, zxfbb_br2, zxfbb_br3, zxfbb_br4, zxfbb_br5, zxfbb_br6] := hx
      have hag : ∀ k, k < 9 → v2 k = v k := hag
      have hfr : xFr [(74, 36, 37)] _ _ := hfr
      rcases List.mem_cons.mp hx with ex | hx
      · subst ex
        obtain ⟨hF, hBd, hM⟩ := hXs
        have g2 : v2 2 = v 2 := hag 2 (by decide)
        have g3 : v2 3 = v 3 := hag 3 (by decide)
        have g4 : v2 4 = v 4 := hag 4 (by decide)
        have g5 : v2 5 = v 5 := hag 5 (by decide)
        have g6 : v2 6 = v 6 := hag 6 (by decide)
        have g7 : v2 7 = v 7 := hag 7 (by decide)
        have g8 : v2 8 = v 8 := hag 8 (by decide)
        have b0 : ((2147483648 : Nat) : Int) ≤ (v2 2) + 2147483648 ∧ (v2 2) + 2147483648 ≤ ((2147483648 : Nat) : Int) := xXb hBd 0 rfl
        have b1 : ((2147483648 : Nat) : Int) ≤ (v2 4) + 2147483648 ∧ (v2 4) + 2147483648 ≤ ((2147484548 : Nat) : Int) := xXb hBd 1 rfl
        have b2 : ((2147483651 : Nat) : Int) ≤ (v2 5) + 2147483648 ∧ (v2 5) + 2147483648 ≤ ((2147483651 : Nat) : Int) := xXb hBd 2 rfl
        have b3 : ((2147483652 : Nat) : Int) ≤ (v2 6) + 2147483648 ∧ (v2 6) + 2147483648 ≤ ((2147484647 : Nat) : Int) := xXb hBd 3 rfl
        have b4 : ((2147483649 : Nat) : Int) ≤ (v2 7) + 2147483648 ∧ (v2 7) + 2147483648 ≤ ((2147483652 : Nat) : Int) := xXb hBd 4 rfl
        have b5 : ((2147483649 : Nat) : Int) ≤ (v2 8) + 2147483648 ∧ (v2 8) + 2147483648 ≤ ((2147483653 : Nat) : Int) := xXb hBd 5 rfl
        have b6 : ((2147483652 : Nat) : Int) ≤ (v2 9) + 2147483648 ∧ (v2 9) + 2147483648 ≤ ((2147483664 : Nat) : Int) := xXb hBd 6 rfl
        have b7 : ((2147483652 : Nat) : Int) ≤ (v2 10) + 2147483648 ∧ (v2 10) + 2147483648 ≤ ((2147483728 : Nat) : Int) := xXb hBd 7 rfl
        have k0 : xE E 74 36 = v 2 := xKcf hKc 0 rfl rfl
        have k1 : xE E 74 37 = v 3 := xKcf hKc 1 rfl rfl
        have k2 : xE E 74 38 = v 4 := xKcf hKc 2 rfl rfl
        have k3 : xE E 74 40 = v 5 := xKcf hKc 3 rfl rfl
        have k4 : xE E 74 41 = v 6 := xKcf hKc 4 rfl rfl
        have k5 : xE E 75 0 = v 7 := xKcf hKc 5 rfl rfl
        have k6 : xE E 75 1 = v 8 := xKcf hKc 6 rfl rfl
        have f0 : -2147483648 ≤ 4 * (v2 7) → 4 * (v2 7) < 2147483648 → (v2 9) = 4 * (v2 7) := xXf hF 0 rfl
        have f0 := f0 (by omega) (by omega)
        have f1 : -2147483648 ≤ (v2 9) * (v2 8) → (v2 9) * (v2 8) < 2147483648 → (v2 10) = (v2 9) * (v2 8) := xXf hF 1 rfl
        have f2 : ¬ (v2 5) = 2 := xXf hF 2 rfl
        have f3 : (v2 2) ≤ 0 := xXf hF 3 rfl
        have f4 : ¬ (v2 5) = 4 := xXf hF 4 rfl
        have f5 : 0 ≤ (v2 6) := xXf hF 5 rfl
        have f6 : (v2 10 + (-1)) < (v2 6) := xXf hF 6 rfl
        have m0 : xE E2 74 36 = 2 := xXm hM 0 rfl
        have m1 : xE E2 74 37 = (v2 4) := xXm hM 1 rfl
        have e74_38 : xE E2 74 38 = xE E 74 38 := xFr_E hfr rfl
        have e74_39 : xE E2 74 39 = xE E 74 39 := xFr_E hfr rfl
        have e74_40 : xE E2 74 40 = xE E 74 40 := xFr_E hfr rfl
        have e74_41 : xE E2 74 41 = xE E 74 41 := xFr_E hfr rfl
        have e74_42 : xE E2 74 42 = xE E 74 42 := xFr_E hfr rfl
        have q74_42 : xE E 74 42 = xE E0 74 42 := xFr_E hFr0 rfl
        have e75_0 : xE E2 75 0 = xE E 75 0 := xFr_E hfr rfl
        have q75_0 : xE E 75 0 = xE E0 75 0 := xFr_E hFr0 rfl
        have e75_1 : xE E2 75 1 = xE E 75 1 := xFr_E hfr rfl
        have q75_1 : xE E 75 1 = xE E0 75 1 := xFr_E hFr0 rfl
        have e75_2 : xE E2 75 2 = xE E 75 2 := xFr_E hfr rfl
        have e84 : ∀ i, xE E2 84 i = xE E 84 i := fun i => xFr_E hfr rfl
        have q84 : ∀ i, xE E 84 i = xE E0 84 i := fun i => xFr_E hFr0 rfl
        have e75 : ∀ i, xE E2 75 i = xE E 75 i := fun i => xFr_E hfr rfl
        have hI : (¬ 8 ≤ xE E0 75 2) ∧ xE E 74 36 = 0 ∧ (∀ k, xE E 75 k = xE E0 75 k) ∧ ((xE E0 74 39)) ≤ (xE E0 74 42) ∧ xRD (xE E0 84) (xE E0 74 42) ((xE E0 74 39)) E := hInv
        show xΨbb x0 E0 E2 0
        obtain ⟨hnb, i1, hc, hp, hs⟩ := hI
        obtain ⟨hP1, hP2, hP3, hP4, hP5, hP6⟩ := (show xΦbb x0 E0 from hΦ)
        obtain ⟨s1, s1b, s2, s3, s4, s5, s6, s7, s8⟩ := xRD_i hs hp
        have h750 := hc 0
        have h751 := hc 1
        obtain ⟨w1, w2, w3⟩ := sN_of (r := xE E0 75 0) (c := (v2 8)) (A := (v2 9)) (by omega) (by omega) (by omega) f1
        rw [show (v2 8) = xE E0 75 1 by omega] at w1
        unfold xΨbb
        intro p0 h0
        unfold pBobbin
        rw [if_neg hnb]
        refine xRs_e ?_
        unfold pNum
        by_cases c3 : tKd (xE E0 84) (xE E0 74 42) (xE E0 74 39) = 3
        · rw [if_pos c3]
          have s6 := s6 c3
          first
            | (exfalso; omega)
            | (rw [if_neg (by omega)]; exact xEr_n (by omega) (by omega) (by omega))
        · rw [if_neg c3]
          unfold pMis
          by_cases c1 : tKd (xE E0 84) (xE E0 74 42) (xE E0 74 39) = 1
          · rw [if_pos c1]
            first
              | (exfalso; omega)
              | exact xEr_n (by omega) (by omega) (by omega)
          · rw [if_neg c1]
            first
              | (exfalso; omega)
              | exact xEr_n (by omega) (by omega) (by omega)
      · skip
        rcases List.mem_cons.mp hx with ex | hx
        · subst ex
          obtain ⟨hF, hBd, hM⟩ := hXs
          have g2 : v2 2 = v 2 := hag 2 (by decide)
          have g3 : v2 3 = v 3 := hag 3 (by decide)
          have g4 : v2 4 = v 4 := hag 4 (by decide)
          have g5 : v2 5 = v 5 := hag 5 (by decide)
          have g6 : v2 6 = v 6 := hag 6 (by decide)
          have g7 : v2 7 = v 7 := hag 7 (by decide)
          have g8 : v2 8 = v 8 := hag 8 (by decide)
          have b0 : ((2147483648 : Nat) : Int) ≤ (v2 2) + 2147483648 ∧ (v2 2) + 2147483648 ≤ ((2147483648 : Nat) : Int) := xXb hBd 0 rfl
          have b1 : ((2147483648 : Nat) : Int) ≤ (v2 4) + 2147483648 ∧ (v2 4) + 2147483648 ≤ ((2147484548 : Nat) : Int) := xXb hBd 1 rfl
          have b2 : ((2147483651 : Nat) : Int) ≤ (v2 5) + 2147483648 ∧ (v2 5) + 2147483648 ≤ ((2147483651 : Nat) : Int) := xXb hBd 2 rfl
          have b3 : ((2147483648 : Nat) : Int) ≤ (v2 6) + 2147483648 ∧ (v2 6) + 2147483648 ≤ ((2147483727 : Nat) : Int) := xXb hBd 3 rfl
          have b4 : ((2147483649 : Nat) : Int) ≤ (v2 7) + 2147483648 ∧ (v2 7) + 2147483648 ≤ ((2147483652 : Nat) : Int) := xXb hBd 4 rfl
          have b5 : ((2147483649 : Nat) : Int) ≤ (v2 8) + 2147483648 ∧ (v2 8) + 2147483648 ≤ ((2147483653 : Nat) : Int) := xXb hBd 5 rfl
          have b6 : ((2147483652 : Nat) : Int) ≤ (v2 9) + 2147483648 ∧ (v2 9) + 2147483648 ≤ ((2147483664 : Nat) : Int) := xXb hBd 6 rfl
          have b7 : ((2147483652 : Nat) : Int) ≤ (v2 10) + 2147483648 ∧ (v2 10) + 2147483648 ≤ ((2147483728 : Nat) : Int) := xXb hBd 7 rfl
          have k0 : xE E 74 36 = v 2 := xKcf hKc 0 rfl rfl
          have k1 : xE E 74 37 = v 3 := xKcf hKc 1 rfl rfl
          have k2 : xE E 74 38 = v 4 := xKcf hKc 2 rfl rfl
          have k3 : xE E 74 40 = v 5 := xKcf hKc 3 rfl rfl
          have k4 : xE E 74 41 = v 6 := xKcf hKc 4 rfl rfl
          have k5 : xE E 75 0 = v 7 := xKcf hKc 5 rfl rfl
          have k6 : xE E 75 1 = v 8 := xKcf hKc 6 rfl rfl
          have f0 : -2147483648 ≤ 4 * (v2 7) → 4 * (v2 7) < 2147483648 → (v2 9) = 4 * (v2 7) := xXf hF 0 rfl
          have f0 := f0 (by omega) (by omega)
          have f1 : -2147483648 ≤ (v2 9) * (v2 8) → (v2 9) * (v2 8) < 2147483648 → (v2 10) = (v2 9) * (v2 8) := xXf hF 1 rfl
          have f2 : ¬ (v2 5) = 2 := xXf hF 2 rfl
          have f3 : (v2 2) ≤ 0 := xXf hF 3 rfl
          have f4 : ¬ (v2 5) = 4 := xXf hF 4 rfl
          have f5 : 0 ≤ (v2 6) := xXf hF 5 rfl
          have f6 : (v2 6) ≤ (v2 10 + (-1)) := xXf hF 6 rfl
          have m0 : xE E2 74 36 = 2 := xXm hM 0 rfl
          have m1 : xE E2 74 37 = (v2 4) := xXm hM 1 rfl
          have e74_38 : xE E2 74 38 = xE E 74 38 := xFr_E hfr rfl
          have e74_39 : xE E2 74 39 = xE E 74 39 := xFr_E hfr rfl
          have e74_40 : xE E2 74 40 = xE E 74 40 := xFr_E hfr rfl
          have e74_41 : xE E2 74 41 = xE E 74 41 := xFr_E hfr rfl
          have e74_42 : xE E2 74 42 = xE E 74 42 := xFr_E hfr rfl
          have q74_42 : xE E 74 42 = xE E0 74 42 := xFr_E hFr0 rfl
          have e75_0 : xE E2 75 0 = xE E 75 0 := xFr_E hfr rfl
          have q75_0 : xE E 75 0 = xE E0 75 0 := xFr_E hFr0 rfl
          have e75_1 : xE E2 75 1 = xE E 75 1 := xFr_E hfr rfl
          have q75_1 : xE E 75 1 = xE E0 75 1 := xFr_E hFr0 rfl
          have e75_2 : xE E2 75 2 = xE E 75 2 := xFr_E hfr rfl
          have e84 : ∀ i, xE E2 84 i = xE E 84 i := fun i => xFr_E hfr rfl
          have q84 : ∀ i, xE E 84 i = xE E0 84 i := fun i => xFr_E hFr0 rfl
          have e75 : ∀ i, xE E2 75 i = xE E 75 i := fun i => xFr_E hfr rfl
          have hI : (¬ 8 ≤ xE E0 75 2) ∧ xE E 74 36 = 0 ∧ (∀ k, xE E 75 k = xE E0 75 k) ∧ ((xE E0 74 39)) ≤ (xE E0 74 42) ∧ xRD (xE E0 84) (xE E0 74 42) ((xE E0 74 39)) E := hInv
          show xΨbb x0 E0 E2 0
          obtain ⟨hnb, i1, hc, hp, hs⟩ := hI
          obtain ⟨hP1, hP2, hP3, hP4, hP5, hP6⟩ := (show xΦbb x0 E0 from hΦ)
          obtain ⟨s1, s1b, s2, s3, s4, s5, s6, s7, s8⟩ := xRD_i hs hp
          have h750 := hc 0
          have h751 := hc 1
          obtain ⟨w1, w2, w3⟩ := sN_of (r := xE E0 75 0) (c := (v2 8)) (A := (v2 9)) (by omega) (by omega) (by omega) f1
          rw [show (v2 8) = xE E0 75 1 by omega] at w1
          unfold xΨbb
          intro p0 h0
          unfold pBobbin
          rw [if_neg hnb]
          refine xRs_e ?_
          unfold pNum
          by_cases c3 : tKd (xE E0 84) (xE E0 74 42) (xE E0 74 39) = 3
          · rw [if_pos c3]
            have s6 := s6 c3
            first
              | (exfalso; omega)
              | (rw [if_neg (by omega)]; exact xEr_n (by omega) (by omega) (by omega))
          · rw [if_neg c3]
            unfold pMis
            by_cases c1 : tKd (xE E0 84) (xE E0 74 42) (xE E0 74 39) = 1
            · rw [if_pos c1]
              first
                | (exfalso; omega)
                | exact xEr_n (by omega) (by omega) (by omega)
            · rw [if_neg c1]
              first
                | (exfalso; omega)
                | exact xEr_n (by omega) (by omega) (by omega)
        · skip
          rcases List.mem_cons.mp hx with ex | hx
          · subst ex
            obtain ⟨hF, hBd, hM⟩ := hXs
            have g2 : v2 2 = v 2 := hag 2 (by decide)
            have g3 : v2 3 = v 3 := hag 3 (by decide)
            have g4 : v2 4 = v 4 := hag 4 (by decide)
            have g5 : v2 5 = v 5 := hag 5 (by decide)
            have g6 : v2 6 = v 6 := hag 6 (by decide)
            have g7 : v2 7 = v 7 := hag 7 (by decide)
            have g8 : v2 8 = v 8 := hag 8 (by decide)
            have b0 : ((2147483648 : Nat) : Int) ≤ (v2 2) + 2147483648 ∧ (v2 2) + 2147483648 ≤ ((2147483648 : Nat) : Int) := xXb hBd 0 rfl
            have b1 : ((2147483648 : Nat) : Int) ≤ (v2 4) + 2147483648 ∧ (v2 4) + 2147483648 ≤ ((2147484548 : Nat) : Int) := xXb hBd 1 rfl
            have b2 : ((2147483652 : Nat) : Int) ≤ (v2 5) + 2147483648 ∧ (v2 5) + 2147483648 ≤ ((2147483652 : Nat) : Int) := xXb hBd 2 rfl
            have b3 : ((2147483652 : Nat) : Int) ≤ (v2 6) + 2147483648 ∧ (v2 6) + 2147483648 ≤ ((2147484647 : Nat) : Int) := xXb hBd 3 rfl
            have b4 : ((2147483649 : Nat) : Int) ≤ (v2 7) + 2147483648 ∧ (v2 7) + 2147483648 ≤ ((2147483652 : Nat) : Int) := xXb hBd 4 rfl
            have b5 : ((2147483649 : Nat) : Int) ≤ (v2 8) + 2147483648 ∧ (v2 8) + 2147483648 ≤ ((2147483653 : Nat) : Int) := xXb hBd 5 rfl
            have b6 : ((2147483652 : Nat) : Int) ≤ (v2 9) + 2147483648 ∧ (v2 9) + 2147483648 ≤ ((2147483664 : Nat) : Int) := xXb hBd 6 rfl
            have b7 : ((2147483652 : Nat) : Int) ≤ (v2 10) + 2147483648 ∧ (v2 10) + 2147483648 ≤ ((2147483728 : Nat) : Int) := xXb hBd 7 rfl
            have k0 : xE E 74 36 = v 2 := xKcf hKc 0 rfl rfl
            have k1 : xE E 74 37 = v 3 := xKcf hKc 1 rfl rfl
            have k2 : xE E 74 38 = v 4 := xKcf hKc 2 rfl rfl
            have k3 : xE E 74 40 = v 5 := xKcf hKc 3 rfl rfl
            have k4 : xE E 74 41 = v 6 := xKcf hKc 4 rfl rfl
            have k5 : xE E 75 0 = v 7 := xKcf hKc 5 rfl rfl
            have k6 : xE E 75 1 = v 8 := xKcf hKc 6 rfl rfl
            have f0 : -2147483648 ≤ 4 * (v2 7) → 4 * (v2 7) < 2147483648 → (v2 9) = 4 * (v2 7) := xXf hF 0 rfl
            have f0 := f0 (by omega) (by omega)
            have f1 : -2147483648 ≤ (v2 9) * (v2 8) → (v2 9) * (v2 8) < 2147483648 → (v2 10) = (v2 9) * (v2 8) := xXf hF 1 rfl
            have f2 : ¬ (v2 5) = 2 := xXf hF 2 rfl
            have f3 : (v2 2) ≤ 0 := xXf hF 3 rfl
            have f4 : (v2 5) = 4 := xXf hF 4 rfl
            have f5 : 0 ≤ (v2 6) := xXf hF 5 rfl
            have f6 : (v2 10 + (-1)) < (v2 6) := xXf hF 6 rfl
            have m0 : xE E2 74 36 = 1 := xXm hM 0 rfl
            have m1 : xE E2 74 37 = (v2 4) := xXm hM 1 rfl
            have e74_38 : xE E2 74 38 = xE E 74 38 := xFr_E hfr rfl
            have e74_39 : xE E2 74 39 = xE E 74 39 := xFr_E hfr rfl
            have e74_40 : xE E2 74 40 = xE E 74 40 := xFr_E hfr rfl
            have e74_41 : xE E2 74 41 = xE E 74 41 := xFr_E hfr rfl
            have e74_42 : xE E2 74 42 = xE E 74 42 := xFr_E hfr rfl
            have q74_42 : xE E 74 42 = xE E0 74 42 := xFr_E hFr0 rfl
            have e75_0 : xE E2 75 0 = xE E 75 0 := xFr_E hfr rfl
            have q75_0 : xE E 75 0 = xE E0 75 0 := xFr_E hFr0 rfl
            have e75_1 : xE E2 75 1 = xE E 75 1 := xFr_E hfr rfl
            have q75_1 : xE E 75 1 = xE E0 75 1 := xFr_E hFr0 rfl
            have e75_2 : xE E2 75 2 = xE E 75 2 := xFr_E hfr rfl
            have e84 : ∀ i, xE E2 84 i = xE E 84 i := fun i => xFr_E hfr rfl
            have q84 : ∀ i, xE E 84 i = xE E0 84 i := fun i => xFr_E hFr0 rfl
            have e75 : ∀ i, xE E2 75 i = xE E 75 i := fun i => xFr_E hfr rfl
            have hI : (¬ 8 ≤ xE E0 75 2) ∧ xE E 74 36 = 0 ∧ (∀ k, xE E 75 k = xE E0 75 k) ∧ ((xE E0 74 39)) ≤ (xE E0 74 42) ∧ xRD (xE E0 84) (xE E0 74 42) ((xE E0 74 39)) E := hInv
            show xΨbb x0 E0 E2 0
            obtain ⟨hnb, i1, hc, hp, hs⟩ := hI
            obtain ⟨hP1, hP2, hP3, hP4, hP5, hP6⟩ := (show xΦbb x0 E0 from hΦ)
            obtain ⟨s1, s1b, s2, s3, s4, s5, s6, s7, s8⟩ := xRD_i hs hp
            have h750 := hc 0
            have h751 := hc 1
            obtain ⟨w1, w2, w3⟩ := sN_of (r := xE E0 75 0) (c := (v2 8)) (A := (v2 9)) (by omega) (by omega) (by omega) f1
            rw [show (v2 8) = xE E0 75 1 by omega] at w1
            unfold xΨbb
            intro p0 h0
            unfold pBobbin
            rw [if_neg hnb]
            refine xRs_e ?_
            unfold pNum
            by_cases c3 : tKd (xE E0 84) (xE E0 74 42) (xE E0 74 39) = 3
            · rw [if_pos c3]
              have s6 := s6 c3
              first
                | (exfalso; omega)
                | (rw [if_neg (by omega)]; exact xEr_n (by omega) (by omega) (by omega))
            · rw [if_neg c3]
              unfold pMis
              by_cases c1 : tKd (xE E0 84) (xE E0 74 42) (xE E0 74 39) = 1
              · rw [if_pos c1]
                first
                  | (exfalso; omega)
                  | exact xEr_n (by omega) (by omega) (by omega)
              · rw [if_neg c1]
                first
                  | (exfalso; omega)
                  | exact xEr_n (by omega) (by omega) (by omega)
          · skip
            rcases List.mem_cons.mp hx with ex | hx
            · subst ex
              obtain ⟨hF, hBd, hM⟩ := hXs
              have g2 : v2 2 = v 2 := hag 2 (by decide)
              have g3 : v2 3 = v 3 := hag 3 (by decide)
              have g4 : v2 4 = v 4 := hag 4 (by decide)
              have g5 : v2 5 = v 5 := hag 5 (by decide)
              have g6 : v2 6 = v 6 := hag 6 (by decide)
              have g7 : v2 7 = v 7 := hag 7 (by decide)
              have g8 : v2 8 = v 8 := hag 8 (by decide)
              have b0 : ((2147483648 : Nat) : Int) ≤ (v2 2) + 2147483648 ∧ (v2 2) + 2147483648 ≤ ((2147483648 : Nat) : Int) := xXb hBd 0 rfl
              have b1 : ((2147483648 : Nat) : Int) ≤ (v2 4) + 2147483648 ∧ (v2 4) + 2147483648 ≤ ((2147484548 : Nat) : Int) := xXb hBd 1 rfl
              have b2 : ((2147483652 : Nat) : Int) ≤ (v2 5) + 2147483648 ∧ (v2 5) + 2147483648 ≤ ((2147483652 : Nat) : Int) := xXb hBd 2 rfl
              have b3 : ((2147483648 : Nat) : Int) ≤ (v2 6) + 2147483648 ∧ (v2 6) + 2147483648 ≤ ((2147483727 : Nat) : Int) := xXb hBd 3 rfl
              have b4 : ((2147483649 : Nat) : Int) ≤ (v2 7) + 2147483648 ∧ (v2 7) + 2147483648 ≤ ((2147483652 : Nat) : Int) := xXb hBd 4 rfl
              have b5 : ((2147483649 : Nat) : Int) ≤ (v2 8) + 2147483648 ∧ (v2 8) + 2147483648 ≤ ((2147483653 : Nat) : Int) := xXb hBd 5 rfl
              have b6 : ((2147483652 : Nat) : Int) ≤ (v2 9) + 2147483648 ∧ (v2 9) + 2147483648 ≤ ((2147483664 : Nat) : Int) := xXb hBd 6 rfl
              have b7 : ((2147483652 : Nat) : Int) ≤ (v2 10) + 2147483648 ∧ (v2 10) + 2147483648 ≤ ((2147483728 : Nat) : Int) := xXb hBd 7 rfl
              have k0 : xE E 74 36 = v 2 := xKcf hKc 0 rfl rfl
              have k1 : xE E 74 37 = v 3 := xKcf hKc 1 rfl rfl
              have k2 : xE E 74 38 = v 4 := xKcf hKc 2 rfl rfl
              have k3 : xE E 74 40 = v 5 := xKcf hKc 3 rfl rfl
              have k4 : xE E 74 41 = v 6 := xKcf hKc 4 rfl rfl
              have k5 : xE E 75 0 = v 7 := xKcf hKc 5 rfl rfl
              have k6 : xE E 75 1 = v 8 := xKcf hKc 6 rfl rfl
              have f0 : -2147483648 ≤ 4 * (v2 7) → 4 * (v2 7) < 2147483648 → (v2 9) = 4 * (v2 7) := xXf hF 0 rfl
              have f0 := f0 (by omega) (by omega)
              have f1 : -2147483648 ≤ (v2 9) * (v2 8) → (v2 9) * (v2 8) < 2147483648 → (v2 10) = (v2 9) * (v2 8) := xXf hF 1 rfl
              have f2 : ¬ (v2 5) = 2 := xXf hF 2 rfl
              have f3 : (v2 2) ≤ 0 := xXf hF 3 rfl
              have f4 : (v2 5) = 4 := xXf hF 4 rfl
              have f5 : 0 ≤ (v2 6) := xXf hF 5 rfl
              have f6 : (v2 6) ≤ (v2 10 + (-1)) := xXf hF 6 rfl
              have m0 : xE E2 74 36 = 1 := xXm hM 0 rfl
              have m1 : xE E2 74 37 = (v2 4) := xXm hM 1 rfl
              have e74_38 : xE E2 74 38 = xE E 74 38 := xFr_E hfr rfl
              have e74_39 : xE E2 74 39 = xE E 74 39 := xFr_E hfr rfl
              have e74_40 : xE E2 74 40 = xE E 74 40 := xFr_E hfr rfl
              have e74_41 : xE E2 74 41 = xE E 74 41 := xFr_E hfr rfl
              have e74_42 : xE E2 74 42 = xE E 74 42 := xFr_E hfr rfl
              have q74_42 : xE E 74 42 = xE E0 74 42 := xFr_E hFr0 rfl
              have e75_0 : xE E2 75 0 = xE E 75 0 := xFr_E hfr rfl
              have q75_0 : xE E 75 0 = xE E0 75 0 := xFr_E hFr0 rfl
              have e75_1 : xE E2 75 1 = xE E 75 1 := xFr_E hfr rfl
              have q75_1 : xE E 75 1 = xE E0 75 1 := xFr_E hFr0 rfl
              have e75_2 : xE E2 75 2 = xE E 75 2 := xFr_E hfr rfl
              have e84 : ∀ i, xE E2 84 i = xE E 84 i := fun i => xFr_E hfr rfl
              have q84 : ∀ i, xE E 84 i = xE E0 84 i := fun i => xFr_E hFr0 rfl
              have e75 : ∀ i, xE E2 75 i = xE E 75 i := fun i => xFr_E hfr rfl
              have hI : (¬ 8 ≤ xE E0 75 2) ∧ xE E 74 36 = 0 ∧ (∀ k, xE E 75 k = xE E0 75 k) ∧ ((xE E0 74 39)) ≤ (xE E0 74 42) ∧ xRD (xE E0 84) (xE E0 74 42) ((xE E0 74 39)) E := hInv
              show xΨbb x0 E0 E2 0
              obtain ⟨hnb, i1, hc, hp, hs⟩ := hI
              obtain ⟨hP1, hP2, hP3, hP4, hP5, hP6⟩ := (show xΦbb x0 E0 from hΦ)
              obtain ⟨s1, s1b, s2, s3, s4, s5, s6, s7, s8⟩ := xRD_i hs hp
              have h750 := hc 0
              have h751 := hc 1
              obtain ⟨w1, w2, w3⟩ := sN_of (r := xE E0 75 0) (c := (v2 8)) (A := (v2 9)) (by omega) (by omega) (by omega) f1
              rw [show (v2 8) = xE E0 75 1 by omega] at w1
              unfold xΨbb
              intro p0 h0
              unfold pBobbin
              rw [if_neg hnb]
              refine xRs_e ?_
              unfold pNum
              by_cases c3 : tKd (xE E0 84) (xE E0 74 42) (xE E0 74 39) = 3
              · rw [if_pos c3]
                have s6 := s6 c3
                first
                  | (exfalso; omega)
                  | (rw [if_neg (by omega)]; exact xEr_n (by omega) (by omega) (by omega))
              · rw [if_neg c3]
                unfold pMis
                by_cases c1 : tKd (xE E0 84) (xE E0 74 42) (xE E0 74 39) = 1
                · rw [if_pos c1]
                  first
                    | (exfalso; omega)
                    | exact xEr_n (by omega) (by omega) (by omega)
                · rw [if_neg c1]
                  first
                    | (exfalso; omega)
                    | exact xEr_n (by omega) (by omega) (by omega)
            · skip
              rcases List.mem_cons.mp hx with ex | hx
              · subst ex
                obtain ⟨hF, hBd, hM⟩ := hXs
                have g2 : v2 2 = v 2 := hag 2 (by decide)
                have g3 : v2 3 = v 3 := hag 3 (by decide)
                have g4 : v2 4 = v 4 := hag 4 (by decide)
                have g5 : v2 5 = v 5 := hag 5 (by decide)
                have g6 : v2 6 = v 6 := hag 6 (by decide)
                have g7 : v2 7 = v 7 := hag 7 (by decide)
                have g8 : v2 8 = v 8 := hag 8 (by decide)
                have b0 : ((2147483648 : Nat) : Int) ≤ (v2 2) + 2147483648 ∧ (v2 2) + 2147483648 ≤ ((2147483648 : Nat) : Int) := xXb hBd 0 rfl
                have b1 : ((2147483648 : Nat) : Int) ≤ (v2 4) + 2147483648 ∧ (v2 4) + 2147483648 ≤ ((2147484548 : Nat) : Int) := xXb hBd 1 rfl
                have b2 : ((2147483648 : Nat) : Int) ≤ (v2 5) + 2147483648 ∧ (v2 5) + 2147483648 ≤ ((2147483649 : Nat) : Int) := xXb hBd 2 rfl
                have b3 : ((2147483652 : Nat) : Int) ≤ (v2 6) + 2147483648 ∧ (v2 6) + 2147483648 ≤ ((2147484647 : Nat) : Int) := xXb hBd 3 rfl
                have b4 : ((2147483649 : Nat) : Int) ≤ (v2 7) + 2147483648 ∧ (v2 7) + 2147483648 ≤ ((2147483652 : Nat) : Int) := xXb hBd 4 rfl
                have b5 : ((2147483649 : Nat) : Int) ≤ (v2 8) + 2147483648 ∧ (v2 8) + 2147483648 ≤ ((2147483653 : Nat) : Int) := xXb hBd 5 rfl
                have b6 : ((2147483652 : Nat) : Int) ≤ (v2 9) + 2147483648 ∧ (v2 9) + 2147483648 ≤ ((2147483664 : Nat) : Int) := xXb hBd 6 rfl
                have b7 : ((2147483652 : Nat) : Int) ≤ (v2 10) + 2147483648 ∧ (v2 10) + 2147483648 ≤ ((2147483728 : Nat) : Int) := xXb hBd 7 rfl
                have k0 : xE E 74 36 = v 2 := xKcf hKc 0 rfl rfl
                have k1 : xE E 74 37 = v 3 := xKcf hKc 1 rfl rfl
                have k2 : xE E 74 38 = v 4 := xKcf hKc 2 rfl rfl
                have k3 : xE E 74 40 = v 5 := xKcf hKc 3 rfl rfl
                have k4 : xE E 74 41 = v 6 := xKcf hKc 4 rfl rfl
                have k5 : xE E 75 0 = v 7 := xKcf hKc 5 rfl rfl
                have k6 : xE E 75 1 = v 8 := xKcf hKc 6 rfl rfl
                have f0 : -2147483648 ≤ 4 * (v2 7) → 4 * (v2 7) < 2147483648 → (v2 9) = 4 * (v2 7) := xXf hF 0 rfl
                have f0 := f0 (by omega) (by omega)
                have f1 : -2147483648 ≤ (v2 9) * (v2 8) → (v2 9) * (v2 8) < 2147483648 → (v2 10) = (v2 9) * (v2 8) := xXf hF 1 rfl
                have f2 : ¬ (v2 5) = 2 := xXf hF 2 rfl
                have f3 : (v2 2) ≤ 0 := xXf hF 3 rfl
                have f4 : ¬ (v2 5) = 4 := xXf hF 4 rfl
                have f5 : 0 ≤ (v2 6) := xXf hF 5 rfl
                have f6 : (v2 10 + (-1)) < (v2 6) := xXf hF 6 rfl
                have m0 : xE E2 74 36 = 2 := xXm hM 0 rfl
                have m1 : xE E2 74 37 = (v2 4) := xXm hM 1 rfl
                have e74_38 : xE E2 74 38 = xE E 74 38 := xFr_E hfr rfl
                have e74_39 : xE E2 74 39 = xE E 74 39 := xFr_E hfr rfl
                have e74_40 : xE E2 74 40 = xE E 74 40 := xFr_E hfr rfl
                have e74_41 : xE E2 74 41 = xE E 74 41 := xFr_E hfr rfl
                have e74_42 : xE E2 74 42 = xE E 74 42 := xFr_E hfr rfl
                have q74_42 : xE E 74 42 = xE E0 74 42 := xFr_E hFr0 rfl
                have e75_0 : xE E2 75 0 = xE E 75 0 := xFr_E hfr rfl
                have q75_0 : xE E 75 0 = xE E0 75 0 := xFr_E hFr0 rfl
                have e75_1 : xE E2 75 1 = xE E 75 1 := xFr_E hfr rfl
                have q75_1 : xE E 75 1 = xE E0 75 1 := xFr_E hFr0 rfl
                have e75_2 : xE E2 75 2 = xE E 75 2 := xFr_E hfr rfl
                have e84 : ∀ i, xE E2 84 i = xE E 84 i := fun i => xFr_E hfr rfl
                have q84 : ∀ i, xE E 84 i = xE E0 84 i := fun i => xFr_E hFr0 rfl
                have e75 : ∀ i, xE E2 75 i = xE E 75 i := fun i => xFr_E hfr rfl
                have hI : (¬ 8 ≤ xE E0 75 2) ∧ xE E 74 36 = 0 ∧ (∀ k, xE E 75 k = xE E0 75 k) ∧ ((xE E0 74 39)) ≤ (xE E0 74 42) ∧ xRD (xE E0 84) (xE E0 74 42) ((xE E0 74 39)) E := hInv
                show xΨbb x0 E0 E2 0
                obtain ⟨hnb, i1, hc, hp, hs⟩ := hI
                obtain ⟨hP1, hP2, hP3, hP4, hP5, hP6⟩ := (show xΦbb x0 E0 from hΦ)
                obtain ⟨s1, s1b, s2, s3, s4, s5, s6, s7, s8⟩ := xRD_i hs hp
                have h750 := hc 0
                have h751 := hc 1
                obtain ⟨w1, w2, w3⟩ := sN_of (r := xE E0 75 0) (c := (v2 8)) (A := (v2 9)) (by omega) (by omega) (by omega) f1
                rw [show (v2 8) = xE E0 75 1 by omega] at w1
                unfold xΨbb
                intro p0 h0
                unfold pBobbin
                rw [if_neg hnb]
                refine xRs_e ?_
                unfold pNum
                by_cases c3 : tKd (xE E0 84) (xE E0 74 42) (xE E0 74 39) = 3
                · rw [if_pos c3]
                  have s6 := s6 c3
                  first
                    | (exfalso; omega)
                    | (rw [if_neg (by omega)]; exact xEr_n (by omega) (by omega) (by omega))
                · rw [if_neg c3]
                  unfold pMis
                  by_cases c1 : tKd (xE E0 84) (xE E0 74 42) (xE E0 74 39) = 1
                  · rw [if_pos c1]
                    first
                      | (exfalso; omega)
                      | exact xEr_n (by omega) (by omega) (by omega)
                  · rw [if_neg c1]
                    first
                      | (exfalso; omega)
                      | exact xEr_n (by omega) (by omega) (by omega)
              · skip
                rcases List.mem_cons.mp hx with ex | hx
                · subst ex
                  obtain ⟨hF, hBd, hM⟩ := hXs
                  have g2 : v2 2 = v 2 := hag 2 (by decide)
                  have g3 : v2 3 = v 3 := hag 3 (by decide)
                  have g4 : v2 4 = v 4 := hag 4 (by decide)
                  have g5 : v2 5 = v 5 := hag 5 (by decide)
                  have g6 : v2 6 = v 6 := hag 6 (by decide)
                  have g7 : v2 7 = v 7 := hag 7 (by decide)
                  have g8 : v2 8 = v 8 := hag 8 (by decide)
                  have b0 : ((2147483648 : Nat) : Int) ≤ (v2 2) + 2147483648 ∧ (v2 2) + 2147483648 ≤ ((2147483648 : Nat) : Int) := xXb hBd 0 rfl
                  have b1 : ((2147483648 : Nat) : Int) ≤ (v2 4) + 2147483648 ∧ (v2 4) + 2147483648 ≤ ((2147484548 : Nat) : Int) := xXb hBd 1 rfl
                  have b2 : ((2147483648 : Nat) : Int) ≤ (v2 5) + 2147483648 ∧ (v2 5) + 2147483648 ≤ ((2147483649 : Nat) : Int) := xXb hBd 2 rfl
                  have b3 : ((2147483648 : Nat) : Int) ≤ (v2 6) + 2147483648 ∧ (v2 6) + 2147483648 ≤ ((2147483727 : Nat) : Int) := xXb hBd 3 rfl
                  have b4 : ((2147483649 : Nat) : Int) ≤ (v2 7) + 2147483648 ∧ (v2 7) + 2147483648 ≤ ((2147483652 : Nat) : Int) := xXb hBd 4 rfl
                  have b5 : ((2147483649 : Nat) : Int) ≤ (v2 8) + 2147483648 ∧ (v2 8) + 2147483648 ≤ ((2147483653 : Nat) : Int) := xXb hBd 5 rfl
                  have b6 : ((2147483652 : Nat) : Int) ≤ (v2 9) + 2147483648 ∧ (v2 9) + 2147483648 ≤ ((2147483664 : Nat) : Int) := xXb hBd 6 rfl
                  have b7 : ((2147483652 : Nat) : Int) ≤ (v2 10) + 2147483648 ∧ (v2 10) + 2147483648 ≤ ((2147483728 : Nat) : Int) := xXb hBd 7 rfl
                  have k0 : xE E 74 36 = v 2 := xKcf hKc 0 rfl rfl
                  have k1 : xE E 74 37 = v 3 := xKcf hKc 1 rfl rfl
                  have k2 : xE E 74 38 = v 4 := xKcf hKc 2 rfl rfl
                  have k3 : xE E 74 40 = v 5 := xKcf hKc 3 rfl rfl
                  have k4 : xE E 74 41 = v 6 := xKcf hKc 4 rfl rfl
                  have k5 : xE E 75 0 = v 7 := xKcf hKc 5 rfl rfl
                  have k6 : xE E 75 1 = v 8 := xKcf hKc 6 rfl rfl
                  have f0 : -2147483648 ≤ 4 * (v2 7) → 4 * (v2 7) < 2147483648 → (v2 9) = 4 * (v2 7) := xXf hF 0 rfl
                  have f0 := f0 (by omega) (by omega)
                  have f1 : -2147483648 ≤ (v2 9) * (v2 8) → (v2 9) * (v2 8) < 2147483648 → (v2 10) = (v2 9) * (v2 8) := xXf hF 1 rfl
                  have f2 : ¬ (v2 5) = 2 := xXf hF 2 rfl
                  have f3 : (v2 2) ≤ 0 := xXf hF 3 rfl
                  have f4 : ¬ (v2 5) = 4 := xXf hF 4 rfl
                  have f5 : 0 ≤ (v2 6) := xXf hF 5 rfl
                  have f6 : (v2 6) ≤ (v2 10 + (-1)) := xXf hF 6 rfl
                  have m0 : xE E2 74 36 = 2 := xXm hM 0 rfl
                  have m1 : xE E2 74 37 = (v2 4) := xXm hM 1 rfl
                  have e74_38 : xE E2 74 38 = xE E 74 38 := xFr_E hfr rfl
                  have e74_39 : xE E2 74 39 = xE E 74 39 := xFr_E hfr rfl
                  have e74_40 : xE E2 74 40 = xE E 74 40 := xFr_E hfr rfl
                  have e74_41 : xE E2 74 41 = xE E 74 41 := xFr_E hfr rfl
                  have e74_42 : xE E2 74 42 = xE E 74 42 := xFr_E hfr rfl
                  have q74_42 : xE E 74 42 = xE E0 74 42 := xFr_E hFr0 rfl
                  have e75_0 : xE E2 75 0 = xE E 75 0 := xFr_E hfr rfl
                  have q75_0 : xE E 75 0 = xE E0 75 0 := xFr_E hFr0 rfl
                  have e75_1 : xE E2 75 1 = xE E 75 1 := xFr_E hfr rfl
                  have q75_1 : xE E 75 1 = xE E0 75 1 := xFr_E hFr0 rfl
                  have e75_2 : xE E2 75 2 = xE E 75 2 := xFr_E hfr rfl
                  have e84 : ∀ i, xE E2 84 i = xE E 84 i := fun i => xFr_E hfr rfl
                  have q84 : ∀ i, xE E 84 i = xE E0 84 i := fun i => xFr_E hFr0 rfl
                  have e75 : ∀ i, xE E2 75 i = xE E 75 i := fun i => xFr_E hfr rfl
                  have hI : (¬ 8 ≤ xE E0 75 2) ∧ xE E 74 36 = 0 ∧ (∀ k, xE E 75 k = xE E0 75 k) ∧ ((xE E0 74 39)) ≤ (xE E0 74 42) ∧ xRD (xE E0 84) (xE E0 74 42) ((xE E0 74 39)) E := hInv
                  show xΨbb x0 E0 E2 0
                  obtain ⟨hnb, i1, hc, hp, hs⟩ := hI
                  obtain ⟨hP1, hP2, hP3, hP4, hP5, hP6⟩ := (show xΦbb x0 E0 from hΦ)
                  obtain ⟨s1, s1b, s2, s3, s4, s5, s6, s7, s8⟩ := xRD_i hs hp
                  have h750 := hc 0
                  have h751 := hc 1
                  obtain ⟨w1, w2, w3⟩ := sN_of (r := xE E0 75 0) (c := (v2 8)) (A := (v2 9)) (by omega) (by omega) (by omega) f1
                  rw [show (v2 8) = xE E0 75 1 by omega] at w1
                  unfold xΨbb
                  intro p0 h0
                  unfold pBobbin
                  rw [if_neg hnb]
                  refine xRs_e ?_
                  unfold pNum
                  by_cases c3 : tKd (xE E0 84) (xE E0 74 42) (xE E0 74 39) = 3
                  · rw [if_pos c3]
                    have s6 := s6 c3
                    first
                      | (exfalso; omega)
                      | (rw [if_neg (by omega)]; exact xEr_n (by omega) (by omega) (by omega))
                  · rw [if_neg c3]
                    unfold pMis
                    by_cases c1 : tKd (xE E0 84) (xE E0 74 42) (xE E0 74 39) = 1
                    · rw [if_pos c1]
                      first
                        | (exfalso; omega)
                        | exact xEr_n (by omega) (by omega) (by omega)
                    · rw [if_neg c1]
                      first
                        | (exfalso; omega)
                        | exact xEr_n (by omega) (by omega) (by omega)
                · skip
                  have ex := List.mem_singleton.mp hx
                  subst ex
                  obtain ⟨hF, hBd, hM⟩ := hXs
                  have g2 : v2 2 = v 2 := hag 2 (by decide)
                  have g3 : v2 3 = v 3 := hag 3 (by decide)
                  have g4 : v2 4 = v 4 := hag 4 (by decide)
                  have g5 : v2 5 = v 5 := hag 5 (by decide)
                  have g6 : v2 6 = v 6 := hag 6 (by decide)
                  have g7 : v2 7 = v 7 := hag 7 (by decide)
                  have g8 : v2 8 = v 8 := hag 8 (by decide)
                  have b0 : ((2147483648 : Nat) : Int) ≤ (v2 2) + 2147483648 ∧ (v2 2) + 2147483648 ≤ ((2147483648 : Nat) : Int) := xXb hBd 0 rfl
                  have b1 : ((2147483648 : Nat) : Int) ≤ (v2 4) + 2147483648 ∧ (v2 4) + 2147483648 ≤ ((2147484548 : Nat) : Int) := xXb hBd 1 rfl
                  have b2 : ((2147483650 : Nat) : Int) ≤ (v2 5) + 2147483648 ∧ (v2 5) + 2147483648 ≤ ((2147483650 : Nat) : Int) := xXb hBd 2 rfl
                  have b3 : ((2147483652 : Nat) : Int) ≤ (v2 6) + 2147483648 ∧ (v2 6) + 2147483648 ≤ ((2147484647 : Nat) : Int) := xXb hBd 3 rfl
                  have b4 : ((2147483649 : Nat) : Int) ≤ (v2 7) + 2147483648 ∧ (v2 7) + 2147483648 ≤ ((2147483652 : Nat) : Int) := xXb hBd 4 rfl
                  have b5 : ((2147483649 : Nat) : Int) ≤ (v2 8) + 2147483648 ∧ (v2 8) + 2147483648 ≤ ((2147483653 : Nat) : Int) := xXb hBd 5 rfl
                  have b6 : ((2147483652 : Nat) : Int) ≤ (v2 9) + 2147483648 ∧ (v2 9) + 2147483648 ≤ ((2147483664 : Nat) : Int) := xXb hBd 6 rfl
                  have b7 : ((2147483652 : Nat) : Int) ≤ (v2 10) + 2147483648 ∧ (v2 10) + 2147483648 ≤ ((2147483728 : Nat) : Int) := xXb hBd 7 rfl
                  have k0 : xE E 74 36 = v 2 := xKcf hKc 0 rfl rfl
                  have k1 : xE E 74 37 = v 3 := xKcf hKc 1 rfl rfl
                  have k2 : xE E 74 38 = v 4 := xKcf hKc 2 rfl rfl
                  have k3 : xE E 74 40 = v 5 := xKcf hKc 3 rfl rfl
                  have k4 : xE E 74 41 = v 6 := xKcf hKc 4 rfl rfl
                  have k5 : xE E 75 0 = v 7 := xKcf hKc 5 rfl rfl
                  have k6 : xE E 75 1 = v 8 := xKcf hKc 6 rfl rfl
                  have f0 : -2147483648 ≤ 4 * (v2 7) → 4 * (v2 7) < 2147483648 → (v2 9) = 4 * (v2 7) := xXf hF 0 rfl
                  have f0 := f0 (by omega) (by omega)
                  have f1 : -2147483648 ≤ (v2 9) * (v2 8) → (v2 9) * (v2 8) < 2147483648 → (v2 10) = (v2 9) * (v2 8) := xXf hF 1 rfl
                  have f2 : (v2 5) = 2 := xXf hF 2 rfl
                  have f3 : 0 ≤ (v2 6) := xXf hF 3 rfl
                  have f4 : (v2 10 + (-1)) < (v2 6) := xXf hF 4 rfl
                  have f5 : (v2 2) ≤ 0 := xXf hF 5 rfl
                  have m0 : xE E2 74 36 = 3 := xXm hM 0 rfl
                  have m1 : xE E2 74 37 = (v2 4) := xXm hM 1 rfl
                  have e74_38 : xE E2 74 38 = xE E 74 38 := xFr_E hfr rfl
                  have e74_39 : xE E2 74 39 = xE E 74 39 := xFr_E hfr rfl
                  have e74_40 : xE E2 74 40 = xE E 74 40 := xFr_E hfr rfl
                  have e74_41 : xE E2 74 41 = xE E 74 41 := xFr_E hfr rfl
                  have e74_42 : xE E2 74 42 = xE E 74 42 := xFr_E hfr rfl
                  have q74_42 : xE E 74 42 = xE E0 74 42 := xFr_E hFr0 rfl
                  have e75_0 : xE E2 75 0 = xE E 75 0 := xFr_E hfr rfl
                  have q75_0 : xE E 75 0 = xE E0 75 0 := xFr_E hFr0 rfl
                  have e75_1 : xE E2 75 1 = xE E 75 1 := xFr_E hfr rfl
                  have q75_1 : xE E 75 1 = xE E0 75 1 := xFr_E hFr0 rfl
                  have e75_2 : xE E2 75 2 = xE E 75 2 := xFr_E hfr rfl
                  have e84 : ∀ i, xE E2 84 i = xE E 84 i := fun i => xFr_E hfr rfl
                  have q84 : ∀ i, xE E 84 i = xE E0 84 i := fun i => xFr_E hFr0 rfl
                  have e75 : ∀ i, xE E2 75 i = xE E 75 i := fun i => xFr_E hfr rfl
                  have hI : (¬ 8 ≤ xE E0 75 2) ∧ xE E 74 36 = 0 ∧ (∀ k, xE E 75 k = xE E0 75 k) ∧ ((xE E0 74 39)) ≤ (xE E0 74 42) ∧ xRD (xE E0 84) (xE E0 74 42) ((xE E0 74 39)) E := hInv
                  show xΨbb x0 E0 E2 0
                  obtain ⟨hnb, i1, hc, hp, hs⟩ := hI
                  obtain ⟨hP1, hP2, hP3, hP4, hP5, hP6⟩ := (show xΦbb x0 E0 from hΦ)
                  obtain ⟨s1, s1b, s2, s3, s4, s5, s6, s7, s8⟩ := xRD_i hs hp
                  have h750 := hc 0
                  have h751 := hc 1
                  obtain ⟨w1, w2, w3⟩ := sN_of (r := xE E0 75 0) (c := (v2 8)) (A := (v2 9)) (by omega) (by omega) (by omega) f1
                  rw [show (v2 8) = xE E0 75 1 by omega] at w1
                  unfold xΨbb
                  intro p0 h0
                  unfold pBobbin
                  rw [if_neg hnb]
                  refine xRs_e ?_
                  unfold pNum
                  by_cases c3 : tKd (xE E0 84) (xE E0 74 42) (xE E0 74 39) = 3
                  · rw [if_pos c3]
                    have s6 := s6 c3
                    first
                      | (exfalso; omega)
                      | (rw [if_neg (by omega)]; exact xEr_n (by omega) (by omega) (by omega))
                  · rw [if_neg c3]
                    unfold pMis
                    by_cases c1 : tKd (xE E0 84) (xE E0 74 42) (xE E0 74 39) = 1
                    · rw [if_pos c1]
                      first
                        | (exfalso; omega)
                        | exact xEr_n (by omega) (by omega) (by omega)
                    · rw [if_neg c1]
                      first
                        | (exfalso; omega)
                        | exact xEr_n (by omega) (by omega) (by omega)
    · have hx : x ∈ [zxfbb_cr0] := hx
      have hag : ∀ k, k < 8 → v2 k = v k := hag
      have hfr : xFr [(74, 36, 37)] _ _ := hfr
      have ex := List.mem_singleton.mp hx
      subst ex
      obtain ⟨hF, hBd, hM⟩ := hXs
      have g2 : v2 2 = v 2 := hag 2 (by decide)
      have g3 : v2 3 = v 3 := hag 3 (by decide)
      have g4 : v2 4 = v 4 := hag 4 (by decide)
      have g5 : v2 5 = v 5 := hag 5 (by decide)
      have g6 : v2 6 = v 6 := hag 6 (by decide)
      have g7 : v2 7 = v 7 := hag 7 (by decide)
      have b0 : ((2147483648 : Nat) : Int) ≤ (v2 2) + 2147483648 ∧ (v2 2) + 2147483648 ≤ ((2147483648 : Nat) : Int) := xXb hBd 0 rfl
      have b1 : ((2147483648 : Nat) : Int) ≤ (v2 4) + 2147483648 ∧ (v2 4) + 2147483648 ≤ ((2147484548 : Nat) : Int) := xXb hBd 1 rfl
      have b2 : ((2147483649 : Nat) : Int) ≤ (v2 7) + 2147483648 ∧ (v2 7) + 2147483648 ≤ ((2147483649 : Nat) : Int) := xXb hBd 2 rfl
      have k0 : xE E 74 36 = v 2 := xKcf hKc 0 rfl rfl
      have k1 : xE E 74 37 = v 3 := xKcf hKc 1 rfl rfl
      have k2 : xE E 74 38 = v 4 := xKcf hKc 2 rfl rfl
      have k3 : xE E 74 40 = v 5 := xKcf hKc 3 rfl rfl
      have k4 : xE E 74 41 = v 6 := xKcf hKc 4 rfl rfl
      have f0 : ¬ (v2 7) = 0 := xXf hF 0 rfl
      have f1 : (v2 2) ≤ 0 := xXf hF 1 rfl
      have m0 : xE E2 74 36 = 4 := xXm hM 0 rfl
      have m1 : xE E2 74 37 = (v2 4) := xXm hM 1 rfl
      have e74_38 : xE E2 74 38 = xE E 74 38 := xFr_E hfr rfl
      have e74_39 : xE E2 74 39 = xE E 74 39 := xFr_E hfr rfl
      have e74_40 : xE E2 74 40 = xE E 74 40 := xFr_E hfr rfl
      have e74_41 : xE E2 74 41 = xE E 74 41 := xFr_E hfr rfl
      have e74_42 : xE E2 74 42 = xE E 74 42 := xFr_E hfr rfl
      have q74_42 : xE E 74 42 = xE E0 74 42 := xFr_E hFr0 rfl
      have e75_0 : xE E2 75 0 = xE E 75 0 := xFr_E hfr rfl
      have q75_0 : xE E 75 0 = xE E0 75 0 := xFr_E hFr0 rfl
      have e75_1 : xE E2 75 1 = xE E 75 1 := xFr_E hfr rfl
      have q75_1 : xE E 75 1 = xE E0 75 1 := xFr_E hFr0 rfl
      have e75_2 : xE E2 75 2 = xE E 75 2 := xFr_E hfr rfl
      have e84 : ∀ i, xE E2 84 i = xE E 84 i := fun i => xFr_E hfr rfl
      have q84 : ∀ i, xE E 84 i = xE E0 84 i := fun i => xFr_E hFr0 rfl
      have e75 : ∀ i, xE E2 75 i = xE E 75 i := fun i => xFr_E hfr rfl
      have hI : (¬ 8 ≤ xE E0 75 2) ∧ xE E 74 36 = 0 ∧ (∀ k, xE E 75 k = xE E0 75 k) ∧ (((xE E0 74 39)) ≤ (xE E0 74 42) ∧ xRD (xE E0 84) (xE E0 74 42) ((xE E0 74 39)) E) ∧ tKd (xE E0 84) (xE E0 74 42) (xE E0 74 39) = 3 ∧ (0 ≤ tNm (xE E0 84) (xE E0 74 42) (xE E0 74 39) ∧ tNm (xE E0 84) (xE E0 74 42) (xE E0 74 39) < sN (xE E0 75 0) (xE E0 75 1)) ∧ (v 7) = (if pTak (xE E0 75) (tNm (xE E0 84) (xE E0 74 42) (xE E0 74 39)) (pF (xE E0 75 0) (xE E0 75 1) (tNm (xE E0 84) (xE E0 74 42) (xE E0 74 39))) (xE E0 75 2).toNat = true then 1 else 0) := hInv
      show xΨbb x0 E0 E2 0
      obtain ⟨hnb, i1, hc, ⟨hp, hs⟩, c3, hnd, hr⟩ := hI
      obtain ⟨hP1, hP2, hP3, hP4, hP5, hP6⟩ := (show xΦbb x0 E0 from hΦ)
      obtain ⟨s1, s1b, s2, s3, s4, s5, s6, s7, s8⟩ := xRD_i hs hp
      have s6 := s6 c3
      unfold xΨbb
      intro p0 h0
      unfold pBobbin
      rw [if_neg hnb]
      refine xRs_e ?_
      unfold pNum
      have hnd2 : 0 ≤ tNm (xE E0 84) (xE E0 74 42) (xE E0 74 39) ∧ tNm (xE E0 84) (xE E0 74 42) (xE E0 74 39) ≤ sN (xE E0 75 0) (xE E0 75 1) - 1 := by omega
      rw [if_pos c3, if_pos hnd2]
      dsimp only
      by_cases ct : pTak (xE E0 75) (tNm (xE E0 84) (xE E0 74 42) (xE E0 74 39)) (pF (xE E0 75 0) (xE E0 75 1) (tNm (xE E0 84) (xE E0 74 42) (xE E0 74 39))) (xE E0 75 2).toNat = true
      · rw [if_pos ct] at hr
        rw [if_pos ct]
        first
          | (exfalso; omega)
          | exact xEr_n (by omega) (by omega) (by omega)
      · rw [if_neg ct] at hr
        exfalso
        omega
    · cases hx
    · have hx : x ∈ [zxfbb_er0] := hx
      have hag : ∀ k, k < 3 → v2 k = v k := hag
      have hfr : xFr [] _ _ := hfr
      have ex := List.mem_singleton.mp hx
      subst ex
      obtain ⟨hF, hBd, hM⟩ := hXs
      have g2 : v2 2 = v 2 := hag 2 (by decide)
      have e74_36 : xE E2 74 36 = xE E 74 36 := xFr_E hfr rfl
      have e74_37 : xE E2 74 37 = xE E 74 37 := xFr_E hfr rfl
      have e74_38 : xE E2 74 38 = xE E 74 38 := xFr_E hfr rfl
      have e74_39 : xE E2 74 39 = xE E 74 39 := xFr_E hfr rfl
      have e74_40 : xE E2 74 40 = xE E 74 40 := xFr_E hfr rfl
      have e74_41 : xE E2 74 41 = xE E 74 41 := xFr_E hfr rfl
      have e74_42 : xE E2 74 42 = xE E 74 42 := xFr_E hfr rfl
      have q74_42 : xE E 74 42 = xE E0 74 42 := xFr_E hFr0 rfl
      have e75_0 : xE E2 75 0 = xE E 75 0 := xFr_E hfr rfl
      have q75_0 : xE E 75 0 = xE E0 75 0 := xFr_E hFr0 rfl
      have e75_1 : xE E2 75 1 = xE E 75 1 := xFr_E hfr rfl
      have q75_1 : xE E 75 1 = xE E0 75 1 := xFr_E hFr0 rfl
      have e75_2 : xE E2 75 2 = xE E 75 2 := xFr_E hfr rfl
      have e84 : ∀ i, xE E2 84 i = xE E 84 i := fun i => xFr_E hfr rfl
      have q84 : ∀ i, xE E 84 i = xE E0 84 i := fun i => xFr_E hFr0 rfl
      have e75 : ∀ i, xE E2 75 i = xE E 75 i := fun i => xFr_E hfr rfl
      have hI : (¬ 8 ≤ xE E0 75 2) ∧ xE E 74 36 = 0 ∧ (∀ k, 0 ≤ k → xE E 75 k = pNew (xE E0 75) (tNm (xE E0 84) (xE E0 74 42) (xE E0 74 39)) k) ∧ ((tNx (xE E0 84) (xE E0 74 42) (xE E0 74 39)) ≤ (xE E0 74 42) ∧ xRD (xE E0 84) (xE E0 74 42) (tNx (xE E0 84) (xE E0 74 42) (xE E0 74 39)) E) ∧ tKd (xE E0 84) (xE E0 74 42) (xE E0 74 39) = 3 ∧ (0 ≤ tNm (xE E0 84) (xE E0 74 42) (xE E0 74 39) ∧ tNm (xE E0 84) (xE E0 74 42) (xE E0 74 39) < sN (xE E0 75 0) (xE E0 75 1)) ∧ ¬ (pTak (xE E0 75) (tNm (xE E0 84) (xE E0 74 42) (xE E0 74 39)) (pF (xE E0 75 0) (xE E0 75 1) (tNm (xE E0 84) (xE E0 74 42) (xE E0 74 39))) (xE E0 75 2).toNat = true) := hInv
      show xΨbb x0 E0 E2 0
      obtain ⟨hnb, i1, hc, ⟨hp, hs⟩, c3, hnd, ct⟩ := hI
      have hEE : E2 = E := xFr_n hfr
      unfold xΨbb
      intro p0 h0
      unfold pBobbin pNum
      have hnd2 : 0 ≤ tNm (xE E0 84) (xE E0 74 42) (xE E0 74 39) ∧ tNm (xE E0 84) (xE E0 74 42) (xE E0 74 39) ≤ sN (xE E0 75 0) (xE E0 75 1) - 1 := by omega
      rw [if_neg hnb, if_pos c3, if_pos hnd2]
      dsimp only
      rw [if_neg ct, hEE]
      exact ⟨i1, hp, hs, fun k k0 _ => hc k k0⟩
