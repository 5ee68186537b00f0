/-! THE CLASS: feed (printed by m16.py) -/
noncomputable def zxffe_zx0 : zyXp := (0, [3, 34359738369, 68719476737, 103079215105, 137438953473, 171798691841], [], [], [], [])
noncomputable def zpffe_z : zyPh := (0, [3, 34359738369, 68719476737, 103079215105, 137438953473, 171798691841], [(0, 4294967295), (0, 4294967295), (0, 4294967295), (0, 4294967295), (0, 4294967295), (0, 4294967295)], [], [])
noncomputable def zxffe_ax0 : zyXp := (23, [3, 34359738369, 68719476737, 103079215105, 137438953473, 171798691841], [34359738369, 283], [(21, 0, 7200, 206158430369)], [(206158430209, 2147483648, 2147484528)], [(573441, 206158430209)])
noncomputable def zxffe_ar0 : zyXp := (0, [], [34359738360], [(20, 0, 7200, 206158430369)], [(206158430209, 2147484529, 2147484548)], [(573441, 206158430209)])
noncomputable def zpffe_a : zyPh := (0, [3, 34359738369, 68719476737, 103079215105, 137438953473, 171798691841], [(0, 4294967295), (0, 4294967295), (0, 4294967295), (0, 4294967295), (0, 4294967295), (0, 4294967295), (2147483648, 2147484548)], [(573441, 206158430209)], [])
noncomputable def zxffe_b1x0 : zyXp := (31, [3, 34359738369, 68719476737, 103079215105, 137438953473, 171798691841], [68719476737, 283], [], [], [])
noncomputable def zpffe_b1 : zyPh := (26, [3, 34359738369, 68719476737, 103079215105, 137438953473, 171798691841], [(0, 4294967295), (0, 4294967295), (0, 4294967295), (0, 4294967295), (0, 4294967295), (0, 4294967295)], [], [])
noncomputable def zxffe_b2x0 : zyXp := (39, [3, 34359738369, 68719476737, 103079215105, 137438953473, 171798691841], [103079215105, 283], [], [], [])
noncomputable def zpffe_b2 : zyPh := (34, [3, 34359738369, 68719476737, 103079215105, 137438953473, 171798691841], [(0, 4294967295), (0, 4294967295), (0, 4294967295), (0, 4294967295), (0, 4294967295), (0, 4294967295)], [], [])
noncomputable def zxffe_b3x0 : zyXp := (48, [3, 34359738369, 68719476737, 103079215105, 137438953473, 171798691841], [137438953473, 283], [], [], [])
noncomputable def zpffe_b3 : zyPh := (42, [3, 34359738369, 68719476737, 103079215105, 137438953473, 171798691841], [(0, 4294967295), (0, 4294967295), (0, 4294967295), (0, 4294967295), (0, 4294967295), (0, 4294967295)], [], [])
noncomputable def zxffe_b4x0 : zyXp := (57, [3, 34359738369, 68719476737, 103079215105, 137438953473, 171798691841], [171798691841, 283], [], [], [])
noncomputable def zpffe_b4 : zyPh := (51, [3, 34359738369, 68719476737, 103079215105, 137438953473, 171798691841], [(0, 4294967295), (0, 4294967295), (0, 4294967295), (0, 4294967295), (0, 4294967295), (0, 4294967295)], [], [])
noncomputable def zxffe_b5r0 : zyXp := (0, [], [206158430209], [], [(206158430209, 2147483648, 2147484548)], [])
noncomputable def zpffe_b5 : zyPh := (60, [3, 34359738369, 68719476737, 103079215105, 137438953473, 171798691841], [(0, 4294967295), (0, 4294967295), (0, 4294967295), (0, 4294967295), (0, 4294967295), (0, 4294967295), (2147483648, 2147484548)], [(573441, 206158430209)], [])
noncomputable def zpffe (i : Nat) : zyPh := zif (Nat.beq i 0) (zpffe_z) (zif (Nat.beq i 1) (zpffe_a) (zif (Nat.beq i 2) (zpffe_b1) (zif (Nat.beq i 3) (zpffe_b2) (zif (Nat.beq i 4) (zpffe_b3) (zif (Nat.beq i 5) (zpffe_b4) (zpffe_b5))))))
noncomputable def zXffe (i : Nat) : List zyXp := zif (Nat.beq i 0) ([zxffe_zx0]) (zif (Nat.beq i 1) ([zxffe_ax0]) (zif (Nat.beq i 2) ([zxffe_b1x0]) (zif (Nat.beq i 3) ([zxffe_b2x0]) (zif (Nat.beq i 4) ([zxffe_b3x0]) (zif (Nat.beq i 5) ([zxffe_b4x0]) ([]))))))
noncomputable def zRffe (i : Nat) : List zyXp := zif (Nat.beq i 0) ([]) (zif (Nat.beq i 1) ([zxffe_ar0]) (zif (Nat.beq i 2) ([]) (zif (Nat.beq i 3) ([]) (zif (Nat.beq i 4) ([]) (zif (Nat.beq i 5) ([]) ([zxffe_b5r0]))))))
noncomputable def zFffe (i : Nat) : zyR := zif (Nat.beq i 0) ([]) (zif (Nat.beq i 1) ([]) (zif (Nat.beq i 2) ([]) (zif (Nat.beq i 3) ([]) (zif (Nat.beq i 4) ([]) (zif (Nat.beq i 5) ([]) ([]))))))
noncomputable def zSffe (i : Nat) : Nat := zif (Nat.beq i 0) (0) (zif (Nat.beq i 1) (0) (zif (Nat.beq i 2) (0) (zif (Nat.beq i 3) (0) (zif (Nat.beq i 4) (0) (zif (Nat.beq i 5) (0) (0))))))
/-- the k-th byte of five ints -/
def fbs (x : Nat → Int) (i : Int) : Int := fby (x (i / 4).toNat) (i % 4)
def xΦffe (_ : Nat → Int) (_ : zyEm) : Prop := True
def xΨffe (x : Nat → Int) (E E2 : zyEm) (r : Int) : Prop := if 880 < xE E 35 1 then r = -1 ∧ xE E2 35 1 = xE E 35 1 ∧ (∀ i, xE E2 36 i = xE E 36 i)
  else r = xE E 35 1 + 20 ∧ xE E2 35 1 = xE E 35 1 + 20 ∧ (∀ i, 0 ≤ i → i < 20 → xE E2 36 (xE E 35 1 + i) = fbs x i) ∧ (∀ i, 0 ≤ i → i < xE E 35 1 → xE E2 36 i = xE E 36 i)
noncomputable def fpffe : zyR := [(35, 1, 1), (36, 0, 899)]
theorem zyffe_run : zyrS zymc zxi120 (120, 0, 0, 1, 0) 2 zpffe (fun _ _ => []) zFffe zSffe zXffe zRffe 7 = true := by decide +kernel
theorem zyffe_ck : zyAll (fun i => xsubR (zFffe i) fpffe && ((zXffe i).all xckX && (zRffe i).all (fun x => xckX x && xrtB true x))) 7 = true := by decide +kernel
def xIffe (i : Nat) (x0 : Nat → Int) (E0 : zyEm) (v : Nat → Int) (E : zyEm) : Prop := if i = 0 then (E = E0 ∧ (v 1) = x0 0 ∧ (v 2) = x0 1 ∧ (v 3) = x0 2 ∧ (v 4) = x0 3 ∧ (v 5) = x0 4) else if i = 1 then (E = E0 ∧ (v 1) = x0 0 ∧ (v 2) = x0 1 ∧ (v 3) = x0 2 ∧ (v 4) = x0 3 ∧ (v 5) = x0 4) else if i = 2 then ((v 1) = x0 0 ∧ (v 2) = x0 1 ∧ (v 3) = x0 2 ∧ (v 4) = x0 3 ∧ (v 5) = x0 4 ∧ (xE E0 35 1 ≤ 880) ∧ (xE E 35 1 = xE E0 35 1 + 4) ∧ (∀ i, 0 ≤ i → i < 4 → xE E 36 (xE E0 35 1 + i) = fbs x0 i) ∧ (∀ i, 0 ≤ i → i < xE E0 35 1 → xE E 36 i = xE E0 36 i)) else if i = 3 then ((v 1) = x0 0 ∧ (v 2) = x0 1 ∧ (v 3) = x0 2 ∧ (v 4) = x0 3 ∧ (v 5) = x0 4 ∧ (xE E0 35 1 ≤ 880) ∧ (xE E 35 1 = xE E0 35 1 + 8) ∧ (∀ i, 0 ≤ i → i < 8 → xE E 36 (xE E0 35 1 + i) = fbs x0 i) ∧ (∀ i, 0 ≤ i → i < xE E0 35 1 → xE E 36 i = xE E0 36 i)) else if i = 4 then ((v 1) = x0 0 ∧ (v 2) = x0 1 ∧ (v 3) = x0 2 ∧ (v 4) = x0 3 ∧ (v 5) = x0 4 ∧ (xE E0 35 1 ≤ 880) ∧ (xE E 35 1 = xE E0 35 1 + 12) ∧ (∀ i, 0 ≤ i → i < 12 → xE E 36 (xE E0 35 1 + i) = fbs x0 i) ∧ (∀ i, 0 ≤ i → i < xE E0 35 1 → xE E 36 i = xE E0 36 i)) else if i = 5 then ((v 1) = x0 0 ∧ (v 2) = x0 1 ∧ (v 3) = x0 2 ∧ (v 4) = x0 3 ∧ (v 5) = x0 4 ∧ (xE E0 35 1 ≤ 880) ∧ (xE E 35 1 = xE E0 35 1 + 16) ∧ (∀ i, 0 ≤ i → i < 16 → xE E 36 (xE E0 35 1 + i) = fbs x0 i) ∧ (∀ i, 0 ≤ i → i < xE E0 35 1 → xE E 36 i = xE E0 36 i)) else ((v 1) = x0 0 ∧ (v 2) = x0 1 ∧ (v 3) = x0 2 ∧ (v 4) = x0 3 ∧ (v 5) = x0 4 ∧ (xE E0 35 1 ≤ 880) ∧ (xE E 35 1 = xE E0 35 1 + 20) ∧ (∀ i, 0 ≤ i → i < 20 → xE E 36 (xE E0 35 1 + i) = fbs x0 i) ∧ (∀ i, 0 ≤ i → i < xE E0 35 1 → xE E 36 i = xE E0 36 i))
def xMffe (i : Nat) (x0 : Nat → Int) (E0 : zyEm) (v : Nat → Int) (E : zyEm) : Nat := if i = 0 then (11) else if i = 1 then (10) else if i = 2 then (8) else if i = 3 then (7) else if i = 4 then (6) else if i = 5 then (5) else (4)
theorem xFe {l : Launch} {en : zEn} {me : zMe} (hen : zG zxMeta 120 = some en) (hme : zG zMeth 120 = some me) : xFc l zymc en me 2 [0] 5 fpffe true xΦffe xΨffe := by
  have een : zG zxMeta 120 = some (zxi120, 6, 6, 10, 120, 0, 0, 1, 0) := rfl
  obtain ⟨me1, hme1, hOK⟩ := zall hen
  rw [hme] at hme1
  cases hme1
  rw [een] at hen
  cases hen
  have hr := zyffe_run
  have hck := fun i hi => zyAll_iff zyffe_ck i hi
  simp only [Bool.and_eq_true] at hck
  obtain ⟨mefap, hmefap, -⟩ := zall (show zG zxMeta 57 = some (zxi57, 2, 3, 5, 57, 0, 0, 0, 0) from rfl)
  have hfap := xAp (l := l) (show zG zxMeta 57 = some (zxi57, 2, 3, 5, 57, 0, 0, 0, 0) from rfl) hmefap
  intro B
  refine xcut (mi := zymc) (B := B) hOK rfl rfl (ι := Fin 7) (fun i => zpffe i.val) (fun _ _ => []) (fun i => zFffe i.val) (fun i => zSffe i.val) (fun i => zXffe i.val) (fun i => zRffe i.val) (fun i y2 ct en2 me2 h => by cases h) 200000 (fun i => zyAll_iff hr i.val i.isLt) (fun i => (hck i.val i.isLt).1) (fun i => (hck i.val i.isLt).2.1) (fun i => (hck i.val i.isLt).2.2) ⟨0, by decide⟩ ⟨rfl, rfl, rfl, rfl⟩ ⟨by decide, by decide⟩ (fun i x0 E0 v E => xIffe i.val x0 E0 v E) (fun i x0 E0 v E => xMffe i.val x0 E0 v E) ?_ ?_ ?_
  · intro x0 E hx0 hT hΦ
    have hΦ : xΦffe x0 E := hΦ
    refine ⟨fun k p hp => ?_, ?_⟩
    · have hk : k < 6 := (List.getElem?_eq_some_iff.mp hp).1
      have hk : k = 0 ∨ k = 1 ∨ k = 2 ∨ k = 3 ∨ k = 4 ∨ k = 5 := by omega
      rcases hk with rfl | rfl | rfl | rfl | rfl | rfl
      · have hp : some (0, 4294967295) = some p := hp
        cases hp
        show ((0 : Nat) : Int) ≤ 0 + 2147483648 ∧ 0 + 2147483648 ≤ ((4294967295 : Nat) : Int)
        omega
      · have hp : some (0, 4294967295) = some p := hp
        cases hp
        show ((0 : Nat) : Int) ≤ x0 0 + 2147483648 ∧ x0 0 + 2147483648 ≤ ((4294967295 : Nat) : Int)
        have hx := hx0 0
        omega
      · have hp : some (0, 4294967295) = some p := hp
        cases hp
        show ((0 : Nat) : Int) ≤ x0 1 + 2147483648 ∧ x0 1 + 2147483648 ≤ ((4294967295 : Nat) : Int)
        have hx := hx0 1
        omega
      · have hp : some (0, 4294967295) = some p := hp
        cases hp
        show ((0 : Nat) : Int) ≤ x0 2 + 2147483648 ∧ x0 2 + 2147483648 ≤ ((4294967295 : Nat) : Int)
        have hx := hx0 2
        omega
      · have hp : some (0, 4294967295) = some p := hp
        cases hp
        show ((0 : Nat) : Int) ≤ x0 3 + 2147483648 ∧ x0 3 + 2147483648 ≤ ((4294967295 : Nat) : Int)
        have hx := hx0 3
        omega
      · have hp : some (0, 4294967295) = some p := hp
        cases hp
        show ((0 : Nat) : Int) ≤ x0 4 + 2147483648 ∧ x0 4 + 2147483648 ≤ ((4294967295 : Nat) : Int)
        have hx := hx0 4
        omega
    · show E = E ∧ (x0 0) = x0 0 ∧ (x0 1) = x0 1 ∧ (x0 2) = x0 2 ∧ (x0 3) = x0 3 ∧ (x0 4) = x0 4
      exact ⟨rfl, rfl, rfl, rfl, rfl, rfl⟩
  · intro x0 s Wg hRu hrx hT0 hΦ i v H hT hrv hInv hKc hFr0 hIH x hx ρ2 v2 N2 H2 locs lsB stA hAt hB hv hr2 hXs hag hfr hFr hT2
    rcases i with ⟨i, hi⟩
    have hi2 : i = 0 ∨ i = 1 ∨ i = 2 ∨ i = 3 ∨ i = 4 ∨ i = 5 ∨ i = 6 := by omega
    rcases hi2 with rfl | rfl | rfl | rfl | rfl | rfl | rfl
    · have hx : x ∈ [zxffe_zx0] := hx
      have hag : ∀ k, k < 6 → v2 k = v k := hag
      have hfr : xFr [] _ _ := hfr
      have ex := List.mem_singleton.mp hx
      subst ex
      obtain ⟨hF, hBd, hM⟩ := hXs
      have r1 := hr2 1
      have r2 := hr2 2
      have r3 := hr2 3
      have r4 := hr2 4
      have r5 := hr2 5
      have g1 : v2 1 = v 1 := hag 1 (by decide)
      have g2 : v2 2 = v 2 := hag 2 (by decide)
      have g3 : v2 3 = v 3 := hag 3 (by decide)
      have g4 : v2 4 = v 4 := hag 4 (by decide)
      have g5 : v2 5 = v 5 := hag 5 (by decide)
      have e35_1 : xE (zyEl zymc B H2) 35 1 = xE (zyEl zymc B H) 35 1 := xFr_E hfr rfl
      have e36 : ∀ i, xE (zyEl zymc B H2) 36 i = xE (zyEl zymc B H) 36 i := fun i => xFr_E hfr rfl
      have y35_1 : ((2147483648 : Nat) : Int) ≤ xE (zyEl zymc B s.heap) 35 1 + 2147483648 ∧ xE (zyEl zymc B s.heap) 35 1 + 2147483648 ≤ ((2147484548 : Nat) : Int) := xTyF hT0 35 1 1 rfl rfl rfl rfl rfl rfl
      have hI : (zyEl zymc B H) = (zyEl zymc B s.heap) ∧ (v 1) = x0 0 ∧ (v 2) = x0 1 ∧ (v 3) = x0 2 ∧ (v 4) = x0 3 ∧ (v 5) = x0 4 := hInv
      have q35_1 : xE (zyEl zymc B H) 35 1 = xE (zyEl zymc B s.heap) 35 1 := by rw [hI.1]
      have q36 : ∀ i, xE (zyEl zymc B H) 36 i = xE (zyEl zymc B s.heap) 36 i := fun i => by rw [hI.1]
      obtain ⟨hE, i1, i2, i3, i4, i5⟩ := hI
      have z35_1 : ((2147483648 : Nat) : Int) ≤ xE (zyEl zymc B H2) 35 1 + 2147483648 ∧ xE (zyEl zymc B H2) 35 1 + 2147483648 ≤ ((2147484548 : Nat) : Int) := xTyF hT2 35 1 1 rfl rfl rfl rfl rfl rfl
      refine xGo hIH hAt hB hv hFr ⟨1, by decide⟩ [0, 34359738369, 68719476737, 103079215105, 137438953473, 171798691841] [0, (v2 1), (v2 2), (v2 3), (v2 4), (v2 5), xE (zyEl zymc B H2) 35 1] rfl ⟨by decide +kernel, ⟨rfl, by decide +kernel⟩, (xcs_c rfl (xcs_c rfl (xcs_c rfl (xcs_c rfl (xcs_c rfl (xcs_c rfl xcs_n)))))), (xe_0 (xe_f (by omega) (xe_f (by omega) (xe_f (by omega) (xe_f (by omega) (xe_f (by omega) (xe_c (by omega) (by omega) rfl xe_n))))))), (xkq_c hT2 35 1 (q := 1) rfl rfl rfl rfl rfl rfl rfl rfl rfl rfl rfl xkq_n)⟩ xst_n ?_ ?_
      · show (zyEl zymc B H2) = (zyEl zymc B s.heap) ∧ ((v2 1) : Int) = x0 0 ∧ ((v2 2) : Int) = x0 1 ∧ ((v2 3) : Int) = x0 2 ∧ ((v2 4) : Int) = x0 3 ∧ ((v2 5) : Int) = x0 4
        exact ⟨(xFr_n hfr).trans hE, by omega, by omega, by omega, by omega, by omega⟩
      · show 10 < 11
        omega
    · have hx : x ∈ [zxffe_ax0] := hx
      have hag : ∀ k, k < 7 → v2 k = v k := hag
      have hfr : xFr [] _ _ := hfr
      have ex := List.mem_singleton.mp hx
      subst ex
      obtain ⟨hF, hBd, hM⟩ := hXs
      have r1 := hr2 1
      have r2 := hr2 2
      have r3 := hr2 3
      have r4 := hr2 4
      have r5 := hr2 5
      have g1 : v2 1 = v 1 := hag 1 (by decide)
      have g2 : v2 2 = v 2 := hag 2 (by decide)
      have g3 : v2 3 = v 3 := hag 3 (by decide)
      have g4 : v2 4 = v 4 := hag 4 (by decide)
      have g5 : v2 5 = v 5 := hag 5 (by decide)
      have g6 : v2 6 = v 6 := hag 6 (by decide)
      have b0 : ((2147483648 : Nat) : Int) ≤ (v2 6) + 2147483648 ∧ (v2 6) + 2147483648 ≤ ((2147484528 : Nat) : Int) := xXb hBd 0 rfl
      have k0 : xE (zyEl zymc B H) 35 1 = v 6 := xKcf hKc 0 rfl rfl
      have f0 : (v2 6 + 20) ≤ 900 := xXf hF 0 rfl
      have m0 : xE (zyEl zymc B H2) 35 1 = (v2 6) := xXm hM 0 rfl
      have e35_1 : xE (zyEl zymc B H2) 35 1 = xE (zyEl zymc B H) 35 1 := xFr_E hfr rfl
      have e36 : ∀ i, xE (zyEl zymc B H2) 36 i = xE (zyEl zymc B H) 36 i := fun i => xFr_E hfr rfl
      have y35_1 : ((2147483648 : Nat) : Int) ≤ xE (zyEl zymc B s.heap) 35 1 + 2147483648 ∧ xE (zyEl zymc B s.heap) 35 1 + 2147483648 ≤ ((2147484548 : Nat) : Int) := xTyF hT0 35 1 1 rfl rfl rfl rfl rfl rfl
      have hI : (zyEl zymc B H) = (zyEl zymc B s.heap) ∧ (v 1) = x0 0 ∧ (v 2) = x0 1 ∧ (v 3) = x0 2 ∧ (v 4) = x0 3 ∧ (v 5) = x0 4 := hInv
      have q35_1 : xE (zyEl zymc B H) 35 1 = xE (zyEl zymc B s.heap) 35 1 := by rw [hI.1]
      have q36 : ∀ i, xE (zyEl zymc B H) 36 i = xE (zyEl zymc B s.heap) 36 i := fun i => by rw [hI.1]
      obtain ⟨hE, i1, i2, i3, i4, i5⟩ := hI
      refine xCa hRu hIH hAt hB hv hFr (hfap B) (ix := 93) (ax := 913) rfl rfl rfl hmefap ⟨_, rfl, rfl, by decide⟩ ⟨rfl, rfl, rfl⟩ (by decide) [34359738369] [] [(v2 1)] rfl ⟨rfl, rfl⟩ (by decide +kernel) (xcs_c rfl xcs_n) (by decide +kernel) ?_ (fun H3 r hT3 hf3 hFr3 hr3 hΨ3 => ?_)
      · show xΦfap (xfv [(v2 1)]) (zyEl zymc B H2)
        unfold xΦfap
        omega
      · have hΨ3 : xΨfap (xfv [(v2 1)]) (zyEl zymc B H2) (zyEl zymc B H3) r := hΨ3
        skip
        obtain ⟨p1, p2, p3⟩ := hΨ3
        have hx : xfv [(v2 1)] 0 = x0 0 := by show (v2 1) = _; omega
        refine ⟨⟨2, by decide⟩, [0, 34359738369, 68719476737, 103079215105, 137438953473, 171798691841], [0, (v2 1), (v2 2), (v2 3), (v2 4), (v2 5)], rfl, ⟨by decide +kernel, ⟨rfl, by decide +kernel⟩, (xcs_c rfl (xcs_c rfl (xcs_c rfl (xcs_c rfl (xcs_c rfl (xcs_c rfl xcs_n)))))), (xe_0 (xe_f (by omega) (xe_f (by omega) (xe_f (by omega) (xe_f (by omega) (xe_f (by omega) xe_n)))))), xkq_n⟩, (by rw [if_neg (by decide)]; exact xst_n), ?_, ?_⟩
        · show ((v2 1) : Int) = x0 0 ∧ ((v2 2) : Int) = x0 1 ∧ ((v2 3) : Int) = x0 2 ∧ ((v2 4) : Int) = x0 3 ∧ ((v2 5) : Int) = x0 4 ∧ (xE (zyEl zymc B s.heap) 35 1 ≤ 880) ∧ (xE (zyEl zymc B H3) 35 1 = xE (zyEl zymc B s.heap) 35 1 + 4) ∧ (∀ i, 0 ≤ i → i < 4 → xE (zyEl zymc B H3) 36 (xE (zyEl zymc B s.heap) 35 1 + i) = fbs x0 i) ∧ (∀ i, 0 ≤ i → i < xE (zyEl zymc B s.heap) 35 1 → xE (zyEl zymc B H3) 36 i = xE (zyEl zymc B s.heap) 36 i)
          refine ⟨by omega, by omega, by omega, by omega, by omega, by omega, by omega, fun i k0 k1 => ?_, fun i k0 k1 => ?_⟩
          · by_cases hq : i < 0
            · omega
            · have w := p2 (i - 0) (by omega) (by omega)
              rw [show xE (zyEl zymc B H2) 35 1 + (i - 0) = xE (zyEl zymc B s.heap) 35 1 + i by omega, hx] at w
              rw [w]
              unfold fbs
              rw [show i / 4 = 0 by omega, show i % 4 = i - 0 by omega]
              rfl
          · rw [p3 _ (by omega) (by omega)]
            rw [e36, q36]
        · show 8 < 10
          omega
    · have hx : x ∈ [zxffe_b1x0] := hx
      have hag : ∀ k, k < 6 → v2 k = v k := hag
      have hfr : xFr [] _ _ := hfr
      have ex := List.mem_singleton.mp hx
      subst ex
      obtain ⟨hF, hBd, hM⟩ := hXs
      have r1 := hr2 1
      have r2 := hr2 2
      have r3 := hr2 3
      have r4 := hr2 4
      have r5 := hr2 5
      have g1 : v2 1 = v 1 := hag 1 (by decide)
      have g2 : v2 2 = v 2 := hag 2 (by decide)
      have g3 : v2 3 = v 3 := hag 3 (by decide)
      have g4 : v2 4 = v 4 := hag 4 (by decide)
      have g5 : v2 5 = v 5 := hag 5 (by decide)
      have e35_1 : xE (zyEl zymc B H2) 35 1 = xE (zyEl zymc B H) 35 1 := xFr_E hfr rfl
      have e36 : ∀ i, xE (zyEl zymc B H2) 36 i = xE (zyEl zymc B H) 36 i := fun i => xFr_E hfr rfl
      have y35_1 : ((2147483648 : Nat) : Int) ≤ xE (zyEl zymc B s.heap) 35 1 + 2147483648 ∧ xE (zyEl zymc B s.heap) 35 1 + 2147483648 ≤ ((2147484548 : Nat) : Int) := xTyF hT0 35 1 1 rfl rfl rfl rfl rfl rfl
      have hI : (v 1) = x0 0 ∧ (v 2) = x0 1 ∧ (v 3) = x0 2 ∧ (v 4) = x0 3 ∧ (v 5) = x0 4 ∧ (xE (zyEl zymc B s.heap) 35 1 ≤ 880) ∧ (xE (zyEl zymc B H) 35 1 = xE (zyEl zymc B s.heap) 35 1 + 4) ∧ (∀ i, 0 ≤ i → i < 4 → xE (zyEl zymc B H) 36 (xE (zyEl zymc B s.heap) 35 1 + i) = fbs x0 i) ∧ (∀ i, 0 ≤ i → i < xE (zyEl zymc B s.heap) 35 1 → xE (zyEl zymc B H) 36 i = xE (zyEl zymc B s.heap) 36 i) := hInv
      obtain ⟨i1, i2, i3, i4, i5, i6, i7, j1, j2⟩ := hI
      refine xCa hRu hIH hAt hB hv hFr (hfap B) (ix := 93) (ax := 913) rfl rfl rfl hmefap ⟨_, rfl, rfl, by decide⟩ ⟨rfl, rfl, rfl⟩ (by decide) [68719476737] [] [(v2 2)] rfl ⟨rfl, rfl⟩ (by decide +kernel) (xcs_c rfl xcs_n) (by decide +kernel) ?_ (fun H3 r hT3 hf3 hFr3 hr3 hΨ3 => ?_)
      · show xΦfap (xfv [(v2 2)]) (zyEl zymc B H2)
        unfold xΦfap
        omega
      · have hΨ3 : xΨfap (xfv [(v2 2)]) (zyEl zymc B H2) (zyEl zymc B H3) r := hΨ3
        skip
        obtain ⟨p1, p2, p3⟩ := hΨ3
        have hx : xfv [(v2 2)] 0 = x0 1 := by show (v2 2) = _; omega
        refine ⟨⟨3, by decide⟩, [0, 34359738369, 68719476737, 103079215105, 137438953473, 171798691841], [0, (v2 1), (v2 2), (v2 3), (v2 4), (v2 5)], rfl, ⟨by decide +kernel, ⟨rfl, by decide +kernel⟩, (xcs_c rfl (xcs_c rfl (xcs_c rfl (xcs_c rfl (xcs_c rfl (xcs_c rfl xcs_n)))))), (xe_0 (xe_f (by omega) (xe_f (by omega) (xe_f (by omega) (xe_f (by omega) (xe_f (by omega) xe_n)))))), xkq_n⟩, (by rw [if_neg (by decide)]; exact xst_n), ?_, ?_⟩
        · show ((v2 1) : Int) = x0 0 ∧ ((v2 2) : Int) = x0 1 ∧ ((v2 3) : Int) = x0 2 ∧ ((v2 4) : Int) = x0 3 ∧ ((v2 5) : Int) = x0 4 ∧ (xE (zyEl zymc B s.heap) 35 1 ≤ 880) ∧ (xE (zyEl zymc B H3) 35 1 = xE (zyEl zymc B s.heap) 35 1 + 8) ∧ (∀ i, 0 ≤ i → i < 8 → xE (zyEl zymc B H3) 36 (xE (zyEl zymc B s.heap) 35 1 + i) = fbs x0 i) ∧ (∀ i, 0 ≤ i → i < xE (zyEl zymc B s.heap) 35 1 → xE (zyEl zymc B H3) 36 i = xE (zyEl zymc B s.heap) 36 i)
          refine ⟨by omega, by omega, by omega, by omega, by omega, by omega, by omega, fun i k0 k1 => ?_, fun i k0 k1 => ?_⟩
          · by_cases hq : i < 4
            · rw [p3 _ (by omega) (by omega)]
              rw [e36]
              exact j1 i k0 hq
            · have w := p2 (i - 4) (by omega) (by omega)
              rw [show xE (zyEl zymc B H2) 35 1 + (i - 4) = xE (zyEl zymc B s.heap) 35 1 + i by omega, hx] at w
              rw [w]
              unfold fbs
              rw [show i / 4 = 1 by omega, show i % 4 = i - 4 by omega]
              rfl
          · rw [p3 _ (by omega) (by omega)]
            rw [e36]
            exact j2 i k0 k1
        · show 7 < 8
          omega
    · have hx : x ∈ [zxffe_b2x0] := hx
      have hag : ∀ k, k < 6 → v2 k = v k := hag
      have hfr : xFr [] _ _ := hfr
      have ex := List.mem_singleton.mp hx
      subst ex
      obtain ⟨hF, hBd, hM⟩ := hXs
      have r1 := hr2 1
      have r2 := hr2 2
      have r3 := hr2 3
      have r4 := hr2 4
      have r5 := hr2 5
      have g1 : v2 1 = v 1 := hag 1 (by decide)
      have g2 : v2 2 = v 2 := hag 2 (by decide)
      have g3 : v2 3 = v 3 := hag 3 (by decide)
      have g4 : v2 4 = v 4 := hag 4 (by decide)
      have g5 : v2 5 = v 5 := hag 5 (by decide)
      have e35_1 : xE (zyEl zymc B H2) 35 1 = xE (zyEl zymc B H) 35 1 := xFr_E hfr rfl
      have e36 : ∀ i, xE (zyEl zymc B H2) 36 i = xE (zyEl zymc B H) 36 i := fun i => xFr_E hfr rfl
      have y35_1 : ((2147483648 : Nat) : Int) ≤ xE (zyEl zymc B s.heap) 35 1 + 2147483648 ∧ xE (zyEl zymc B s.heap) 35 1 + 2147483648 ≤ ((2147484548 : Nat) : Int) := xTyF hT0 35 1 1 rfl rfl rfl rfl rfl rfl
      have hI : (v 1) = x0 0 ∧ (v 2) = x0 1 ∧ (v 3) = x0 2 ∧ (v 4) = x0 3 ∧ (v 5) = x0 4 ∧ (xE (zyEl zymc B s.heap) 35 1 ≤ 880) ∧ (xE (zyEl zymc B H) 35 1 = xE (zyEl zymc B s.heap) 35 1 + 8) ∧ (∀ i, 0 ≤ i → i < 8 → xE (zyEl zymc B H) 36 (xE (zyEl zymc B s.heap) 35 1 + i) = fbs x0 i) ∧ (∀ i, 0 ≤ i → i < xE (zyEl zymc B s.heap) 35 1 → xE (zyEl zymc B H) 36 i = xE (zyEl zymc B s.heap) 36 i) := hInv
      obtain ⟨i1, i2, i3, i4, i5, i6, i7, j1, j2⟩ := hI
      refine xCa hRu hIH hAt hB hv hFr (hfap B) (ix := 93) (ax := 913) rfl rfl rfl hmefap ⟨_, rfl, rfl, by decide⟩ ⟨rfl, rfl, rfl⟩ (by decide) [103079215105] [] [(v2 3)] rfl ⟨rfl, rfl⟩ (by decide +kernel) (xcs_c rfl xcs_n) (by decide +kernel) ?_ (fun H3 r hT3 hf3 hFr3 hr3 hΨ3 => ?_)
      · show xΦfap (xfv [(v2 3)]) (zyEl zymc B H2)
        unfold xΦfap
        omega
      · have hΨ3 : xΨfap (xfv [(v2 3)]) (zyEl zymc B H2) (zyEl zymc B H3) r := hΨ3
        skip
        obtain ⟨p1, p2, p3⟩ := hΨ3
        have hx : xfv [(v2 3)] 0 = x0 2 := by show (v2 3) = _; omega
        refine ⟨⟨4, by decide⟩, [0, 34359738369, 68719476737, 103079215105, 137438953473, 171798691841], [0, (v2 1), (v2 2), (v2 3), (v2 4), (v2 5)], rfl, ⟨by decide +kernel, ⟨rfl, by decide +kernel⟩, (xcs_c rfl (xcs_c rfl (xcs_c rfl (xcs_c rfl (xcs_c rfl (xcs_c rfl xcs_n)))))), (xe_0 (xe_f (by omega) (xe_f (by omega) (xe_f (by omega) (xe_f (by omega) (xe_f (by omega) xe_n)))))), xkq_n⟩, (by rw [if_neg (by decide)]; exact xst_n), ?_, ?_⟩
        · show ((v2 1) : Int) = x0 0 ∧ ((v2 2) : Int) = x0 1 ∧ ((v2 3) : Int) = x0 2 ∧ ((v2 4) : Int) = x0 3 ∧ ((v2 5) : Int) = x0 4 ∧ (xE (zyEl zymc B s.heap) 35 1 ≤ 880) ∧ (xE (zyEl zymc B H3) 35 1 = xE (zyEl zymc B s.heap) 35 1 + 12) ∧ (∀ i, 0 ≤ i → i < 12 → xE (zyEl zymc B H3) 36 (xE (zyEl zymc B s.heap) 35 1 + i) = fbs x0 i) ∧ (∀ i, 0 ≤ i → i < xE (zyEl zymc B s.heap) 35 1 → xE (zyEl zymc B H3) 36 i = xE (zyEl zymc B s.heap) 36 i)
          refine ⟨by omega, by omega, by omega, by omega, by omega, by omega, by omega, fun i k0 k1 => ?_, fun i k0 k1 => ?_⟩
          · by_cases hq : i < 8
            · rw [p3 _ (by omega) (by omega)]
              rw [e36]
              exact j1 i k0 hq
            · have w := p2 (i - 8) (by omega) (by omega)
              rw [show xE (zyEl zymc B H2) 35 1 + (i - 8) = xE (zyEl zymc B s.heap) 35 1 + i by omega, hx] at w
              rw [w]
              unfold fbs
              rw [show i / 4 = 2 by omega, show i % 4 = i - 8 by omega]
              rfl
          · rw [p3 _ (by omega) (by omega)]
            rw [e36]
            exact j2 i k0 k1
        · show 6 < 7
          omega
    · have hx : x ∈ [zxffe_b3x0] := hx
      have hag : ∀ k, k < 6 → v2 k = v k := hag
      have hfr : xFr [] _ _ := hfr
      have ex := List.mem_singleton.mp hx
      subst ex
      obtain ⟨hF, hBd, hM⟩ := hXs
      have r1 := hr2 1
      have r2 := hr2 2
      have r3 := hr2 3
      have r4 := hr2 4
      have r5 := hr2 5
      have g1 : v2 1 = v 1 := hag 1 (by decide)
      have g2 : v2 2 = v 2 := hag 2 (by decide)
      have g3 : v2 3 = v 3 := hag 3 (by decide)
      have g4 : v2 4 = v 4 := hag 4 (by decide)
      have g5 : v2 5 = v 5 := hag 5 (by decide)
      have e35_1 : xE (zyEl zymc B H2) 35 1 = xE (zyEl zymc B H) 35 1 := xFr_E hfr rfl
      have e36 : ∀ i, xE (zyEl zymc B H2) 36 i = xE (zyEl zymc B H) 36 i := fun i => xFr_E hfr rfl
      have y35_1 : ((2147483648 : Nat) : Int) ≤ xE (zyEl zymc B s.heap) 35 1 + 2147483648 ∧ xE (zyEl zymc B s.heap) 35 1 + 2147483648 ≤ ((2147484548 : Nat) : Int) := xTyF hT0 35 1 1 rfl rfl rfl rfl rfl rfl
      have hI : (v 1) = x0 0 ∧ (v 2) = x0 1 ∧ (v 3) = x0 2 ∧ (v 4) = x0 3 ∧ (v 5) = x0 4 ∧ (xE (zyEl zymc B s.heap) 35 1 ≤ 880) ∧ (xE (zyEl zymc B H) 35 1 = xE (zyEl zymc B s.heap) 35 1 + 12) ∧ (∀ i, 0 ≤ i → i < 12 → xE (zyEl zymc B H) 36 (xE (zyEl zymc B s.heap) 35 1 + i) = fbs x0 i) ∧ (∀ i, 0 ≤ i → i < xE (zyEl zymc B s.heap) 35 1 → xE (zyEl zymc B H) 36 i = xE (zyEl zymc B s.heap) 36 i) := hInv
      obtain ⟨i1, i2, i3, i4, i5, i6, i7, j1, j2⟩ := hI
      refine xCa hRu hIH hAt hB hv hFr (hfap B) (ix := 93) (ax := 913) rfl rfl rfl hmefap ⟨_, rfl, rfl, by decide⟩ ⟨rfl, rfl, rfl⟩ (by decide) [137438953473] [] [(v2 4)] rfl ⟨rfl, rfl⟩ (by decide +kernel) (xcs_c rfl xcs_n) (by decide +kernel) ?_ (fun H3 r hT3 hf3 hFr3 hr3 hΨ3 => ?_)
      · show xΦfap (xfv [(v2 4)]) (zyEl zymc B H2)
        unfold xΦfap
        omega
      · have hΨ3 : xΨfap (xfv [(v2 4)]) (zyEl zymc B H2) (zyEl zymc B H3) r := hΨ3
        skip
        obtain ⟨p1, p2, p3⟩ := hΨ3
        have hx : xfv [(v2 4)] 0 = x0 3 := by show (v2 4) = _; omega
        refine ⟨⟨5, by decide⟩, [0, 34359738369, 68719476737, 103079215105, 137438953473, 171798691841], [0, (v2 1), (v2 2), (v2 3), (v2 4), (v2 5)], rfl, ⟨by decide +kernel, ⟨rfl, by decide +kernel⟩, (xcs_c rfl (xcs_c rfl (xcs_c rfl (xcs_c rfl (xcs_c rfl (xcs_c rfl xcs_n)))))), (xe_0 (xe_f (by omega) (xe_f (by omega) (xe_f (by omega) (xe_f (by omega) (xe_f (by omega) xe_n)))))), xkq_n⟩, (by rw [if_neg (by decide)]; exact xst_n), ?_, ?_⟩
        · show ((v2 1) : Int) = x0 0 ∧ ((v2 2) : Int) = x0 1 ∧ ((v2 3) : Int) = x0 2 ∧ ((v2 4) : Int) = x0 3 ∧ ((v2 5) : Int) = x0 4 ∧ (xE (zyEl zymc B s.heap) 35 1 ≤ 880) ∧ (xE (zyEl zymc B H3) 35 1 = xE (zyEl zymc B s.heap) 35 1 + 16) ∧ (∀ i, 0 ≤ i → i < 16 → xE (zyEl zymc B H3) 36 (xE (zyEl zymc B s.heap) 35 1 + i) = fbs x0 i) ∧ (∀ i, 0 ≤ i → i < xE (zyEl zymc B s.heap) 35 1 → xE (zyEl zymc B H3) 36 i = xE (zyEl zymc B s.heap) 36 i)
          refine ⟨by omega, by omega, by omega, by omega, by omega, by omega, by omega, fun i k0 k1 => ?_, fun i k0 k1 => ?_⟩
          · by_cases hq : i < 12
            · rw [p3 _ (by omega) (by omega)]
              rw [e36]
              exact j1 i k0 hq
            · have w := p2 (i - 12) (by omega) (by omega)
              rw [show xE (zyEl zymc B H2) 35 1 + (i - 12) = xE (zyEl zymc B s.heap) 35 1 + i by omega, hx] at w
              rw [w]
              unfold fbs
              rw [show i / 4 = 3 by omega, show i % 4 = i - 12 by omega]
              rfl
          · rw [p3 _ (by omega) (by omega)]
            rw [e36]
            exact j2 i k0 k1
        · show 5 < 6
          omega
    · have hx : x ∈ [zxffe_b4x0] := hx
      have hag : ∀ k, k < 6 → v2 k = v k := hag
      have hfr : xFr [] _ _ := hfr
      have ex := List.mem_singleton.mp hx
      subst ex
      obtain ⟨hF, hBd, hM⟩ := hXs
      have r1 := hr2 1
      have r2 := hr2 2
      have r3 := hr2 3
      have r4 := hr2 4
      have r5 := hr2 5
      have g1 : v2 1 = v 1 := hag 1 (by decide)
      have g2 : v2 2 = v 2 := hag 2 (by decide)
      have g3 : v2 3 = v 3 := hag 3 (by decide)
      have g4 : v2 4 = v 4 := hag 4 (by decide)
      have g5 : v2 5 = v 5 := hag 5 (by decide)
      have e35_1 : xE (zyEl zymc B H2) 35 1 = xE (zyEl zymc B H) 35 1 := xFr_E hfr rfl
      have e36 : ∀ i, xE (zyEl zymc B H2) 36 i = xE (zyEl zymc B H) 36 i := fun i => xFr_E hfr rfl
      have y35_1 : ((2147483648 : Nat) : Int) ≤ xE (zyEl zymc B s.heap) 35 1 + 2147483648 ∧ xE (zyEl zymc B s.heap) 35 1 + 2147483648 ≤ ((2147484548 : Nat) : Int) := xTyF hT0 35 1 1 rfl rfl rfl rfl rfl rfl
      have hI : (v 1) = x0 0 ∧ (v 2) = x0 1 ∧ (v 3) = x0 2 ∧ (v 4) = x0 3 ∧ (v 5) = x0 4 ∧ (xE (zyEl zymc B s.heap) 35 1 ≤ 880) ∧ (xE (zyEl zymc B H) 35 1 = xE (zyEl zymc B s.heap) 35 1 + 16) ∧ (∀ i, 0 ≤ i → i < 16 → xE (zyEl zymc B H) 36 (xE (zyEl zymc B s.heap) 35 1 + i) = fbs x0 i) ∧ (∀ i, 0 ≤ i → i < xE (zyEl zymc B s.heap) 35 1 → xE (zyEl zymc B H) 36 i = xE (zyEl zymc B s.heap) 36 i) := hInv
      obtain ⟨i1, i2, i3, i4, i5, i6, i7, j1, j2⟩ := hI
      refine xCa hRu hIH hAt hB hv hFr (hfap B) (ix := 93) (ax := 913) rfl rfl rfl hmefap ⟨_, rfl, rfl, by decide⟩ ⟨rfl, rfl, rfl⟩ (by decide) [171798691841] [] [(v2 5)] rfl ⟨rfl, rfl⟩ (by decide +kernel) (xcs_c rfl xcs_n) (by decide +kernel) ?_ (fun H3 r hT3 hf3 hFr3 hr3 hΨ3 => ?_)
      · show xΦfap (xfv [(v2 5)]) (zyEl zymc B H2)
        unfold xΦfap
        omega
      · have hΨ3 : xΨfap (xfv [(v2 5)]) (zyEl zymc B H2) (zyEl zymc B H3) r := hΨ3
        have z35_1 : ((2147483648 : Nat) : Int) ≤ xE (zyEl zymc B H3) 35 1 + 2147483648 ∧ xE (zyEl zymc B H3) 35 1 + 2147483648 ≤ ((2147484548 : Nat) : Int) := xTyF hT3 35 1 1 rfl rfl rfl rfl rfl rfl
        obtain ⟨p1, p2, p3⟩ := hΨ3
        have hx : xfv [(v2 5)] 0 = x0 4 := by show (v2 5) = _; omega
        refine ⟨⟨6, by decide⟩, [0, 34359738369, 68719476737, 103079215105, 137438953473, 171798691841], [0, (v2 1), (v2 2), (v2 3), (v2 4), (v2 5), xE (zyEl zymc B H3) 35 1], rfl, ⟨by decide +kernel, ⟨rfl, by decide +kernel⟩, (xcs_c rfl (xcs_c rfl (xcs_c rfl (xcs_c rfl (xcs_c rfl (xcs_c rfl xcs_n)))))), (xe_0 (xe_f (by omega) (xe_f (by omega) (xe_f (by omega) (xe_f (by omega) (xe_f (by omega) (xe_c (by omega) (by omega) rfl xe_n))))))), (xkq_c hT3 35 1 (q := 1) rfl rfl rfl rfl rfl rfl rfl rfl rfl rfl rfl xkq_n)⟩, (by rw [if_neg (by decide)]; exact xst_n), ?_, ?_⟩
        · show ((v2 1) : Int) = x0 0 ∧ ((v2 2) : Int) = x0 1 ∧ ((v2 3) : Int) = x0 2 ∧ ((v2 4) : Int) = x0 3 ∧ ((v2 5) : Int) = x0 4 ∧ (xE (zyEl zymc B s.heap) 35 1 ≤ 880) ∧ (xE (zyEl zymc B H3) 35 1 = xE (zyEl zymc B s.heap) 35 1 + 20) ∧ (∀ i, 0 ≤ i → i < 20 → xE (zyEl zymc B H3) 36 (xE (zyEl zymc B s.heap) 35 1 + i) = fbs x0 i) ∧ (∀ i, 0 ≤ i → i < xE (zyEl zymc B s.heap) 35 1 → xE (zyEl zymc B H3) 36 i = xE (zyEl zymc B s.heap) 36 i)
          refine ⟨by omega, by omega, by omega, by omega, by omega, by omega, by omega, fun i k0 k1 => ?_, fun i k0 k1 => ?_⟩
          · by_cases hq : i < 16
            · rw [p3 _ (by omega) (by omega)]
              rw [e36]
              exact j1 i k0 hq
            · have w := p2 (i - 16) (by omega) (by omega)
              rw [show xE (zyEl zymc B H2) 35 1 + (i - 16) = xE (zyEl zymc B s.heap) 35 1 + i by omega, hx] at w
              rw [w]
              unfold fbs
              rw [show i / 4 = 4 by omega, show i % 4 = i - 16 by omega]
              rfl
          · rw [p3 _ (by omega) (by omega)]
            rw [e36]
            exact j2 i k0 k1
        · show 4 < 5
          omega
    · cases hx
  · intro x0 E0 E E2 hrx hT0 hΦ i v hT hrv hInv hKc hFr0 x hx v2 hr2 hXs hag hfr hFr hT2
    rcases i with ⟨i, hi⟩
    have hi2 : i = 0 ∨ i = 1 ∨ i = 2 ∨ i = 3 ∨ i = 4 ∨ i = 5 ∨ i = 6 := by omega
    rcases hi2 with rfl | rfl | rfl | rfl | rfl | rfl | rfl
    · cases hx
    · have hx : x ∈ [zxffe_ar0] := hx
      have hag : ∀ k, k < 7 → v2 k = v k := hag
      have hfr : xFr [] _ _ := hfr
      have ex := List.mem_singleton.mp hx
      subst ex
      obtain ⟨hF, hBd, hM⟩ := hXs
      have g1 : v2 1 = v 1 := hag 1 (by decide)
      have g2 : v2 2 = v 2 := hag 2 (by decide)
      have g3 : v2 3 = v 3 := hag 3 (by decide)
      have g4 : v2 4 = v 4 := hag 4 (by decide)
      have g5 : v2 5 = v 5 := hag 5 (by decide)
      have g6 : v2 6 = v 6 := hag 6 (by decide)
      have b0 : ((2147484529 : Nat) : Int) ≤ (v2 6) + 2147483648 ∧ (v2 6) + 2147483648 ≤ ((2147484548 : Nat) : Int) := xXb hBd 0 rfl
      have k0 : xE E 35 1 = v 6 := xKcf hKc 0 rfl rfl
      have f0 : 900 < (v2 6 + 20) := xXf hF 0 rfl
      have m0 : xE E2 35 1 = (v2 6) := xXm hM 0 rfl
      have e35_1 : xE E2 35 1 = xE E 35 1 := xFr_E hfr rfl
      have e36 : ∀ i, xE E2 36 i = xE E 36 i := fun i => xFr_E hfr rfl
      have y35_1 : ((2147483648 : Nat) : Int) ≤ xE E0 35 1 + 2147483648 ∧ xE E0 35 1 + 2147483648 ≤ ((2147484548 : Nat) : Int) := xTyF hT0 35 1 1 rfl rfl rfl rfl rfl rfl
      have hI : E = E0 ∧ (v 1) = x0 0 ∧ (v 2) = x0 1 ∧ (v 3) = x0 2 ∧ (v 4) = x0 3 ∧ (v 5) = x0 4 := hInv
      have q35_1 : xE E 35 1 = xE E0 35 1 := by rw [hI.1]
      have q36 : ∀ i, xE E 36 i = xE E0 36 i := fun i => by rw [hI.1]
      show xΨffe x0 E0 E2 (-1)
      obtain ⟨hE, i1, i2, i3, i4, i5⟩ := hI
      unfold xΨffe
      rw [if_pos (by omega)]
      exact ⟨by omega, by omega, fun i => by rw [e36 i, q36 i]⟩
    · cases hx
    · cases hx
    · cases hx
    · cases hx
    · have hx : x ∈ [zxffe_b5r0] := hx
      have hag : ∀ k, k < 7 → v2 k = v k := hag
      have hfr : xFr [] _ _ := hfr
      have ex := List.mem_singleton.mp hx
      subst ex
      obtain ⟨hF, hBd, hM⟩ := hXs
      have g1 : v2 1 = v 1 := hag 1 (by decide)
      have g2 : v2 2 = v 2 := hag 2 (by decide)
      have g3 : v2 3 = v 3 := hag 3 (by decide)
      have g4 : v2 4 = v 4 := hag 4 (by decide)
      have g5 : v2 5 = v 5 := hag 5 (by decide)
      have g6 : v2 6 = v 6 := hag 6 (by decide)
      have b0 : ((2147483648 : Nat) : Int) ≤ (v2 6) + 2147483648 ∧ (v2 6) + 2147483648 ≤ ((2147484548 : Nat) : Int) := xXb hBd 0 rfl
      have k0 : xE E 35 1 = v 6 := xKcf hKc 0 rfl rfl
      have e35_1 : xE E2 35 1 = xE E 35 1 := xFr_E hfr rfl
      have e36 : ∀ i, xE E2 36 i = xE E 36 i := fun i => xFr_E hfr rfl
      have y35_1 : ((2147483648 : Nat) : Int) ≤ xE E0 35 1 + 2147483648 ∧ xE E0 35 1 + 2147483648 ≤ ((2147484548 : Nat) : Int) := xTyF hT0 35 1 1 rfl rfl rfl rfl rfl rfl
      have hI : (v 1) = x0 0 ∧ (v 2) = x0 1 ∧ (v 3) = x0 2 ∧ (v 4) = x0 3 ∧ (v 5) = x0 4 ∧ (xE E0 35 1 ≤ 880) ∧ (xE E 35 1 = xE E0 35 1 + 20) ∧ (∀ i, 0 ≤ i → i < 20 → xE E 36 (xE E0 35 1 + i) = fbs x0 i) ∧ (∀ i, 0 ≤ i → i < xE E0 35 1 → xE E 36 i = xE E0 36 i) := hInv
      show xΨffe x0 E0 E2 (v2 6)
      obtain ⟨i1, i2, i3, i4, i5, i6, i7, j1, j2⟩ := hI
      unfold xΨffe
      rw [if_neg (by omega)]
      exact ⟨by omega, by omega, fun i k0 k1 => (e36 _).trans (j1 i k0 k1), fun i k0 k1 => (e36 _).trans (j2 i k0 k1)⟩
