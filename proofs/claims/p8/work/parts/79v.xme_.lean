section
/-! THE CLASS: begin (printed by m13.py) -/
noncomputable def zxfel0_ax0 : zyXp := (2, [315, 19, 68719476737, 68719476737], [], [], [(68719476737, 2147483648, 2147483655)], [])
noncomputable def zpfel0_a : zyPh := (0, [315, 19, 68719476737, 13], [(0, 4294967295), (0, 4294967295), (2147483648, 2147483655), (0, 4294967295)], [], [])
noncomputable def zxfel0_bx0 : zyXp := (2, [315, 19, 68719476737, 137438953465], [], [], [(68719476737, 2147483648, 2147483655), (103079215105, 2147483649, 2147483655), (137438953465, 2147483648, 2147483654)], [])
noncomputable def zxfel0_br0 : zyXp := (0, [], [], [], [], [])
noncomputable def zpfel0_b : zyPh := (2, [315, 19, 68719476737, 103079215105], [(0, 4294967295), (0, 4294967295), (2147483648, 2147483655), (2147483648, 2147483655)], [], [])
noncomputable def zpfel0 (i : Nat) : zyPh := zif (Nat.beq i 0) (zpfel0_a) (zpfel0_b)
noncomputable def zXfel0 (i : Nat) : List zyXp := zif (Nat.beq i 0) ([zxfel0_ax0]) ([zxfel0_bx0])
noncomputable def zRfel0 (i : Nat) : List zyXp := zif (Nat.beq i 0) ([]) ([zxfel0_br0])
noncomputable def zFfel0 (i : Nat) : zyR := zif (Nat.beq i 0) ([]) ([(42, 0, 7)])
noncomputable def zSfel0 (i : Nat) : Nat := zif (Nat.beq i 0) (0) (0)
def xΦel (x : Nat → Int) (_ : zyEm) : Prop := 0 ≤ x 0 ∧ x 0 ≤ 7
def xΨ0 (_ : Nat → Int) (_ _ : zyEm) (_ : Int) : Prop := True
noncomputable def fpfel0 : zyR := [(42, 0, 7)]
theorem zyfel0_run : zyrS zymc zxi87 (87, 0, 0, 0, 0) 2 zpfel0 (fun _ _ => []) zFfel0 zSfel0 zXfel0 zRfel0 2 = true := by decide +kernel
theorem zyfel0_ck : zyAll (fun i => xsubR (zFfel0 i) fpfel0 && ((zXfel0 i).all xckX && (zRfel0 i).all (fun x => xckX x && xrtB false x))) 2 = true := by decide +kernel
def xIfel0 (i : Nat) (x0 : Nat → Int) (E0 : zyEm) (v : Nat → Int) (E : zyEm) : Prop := if i = 0 then (E = E0) else (True)
def xMfel0 (i : Nat) (x0 : Nat → Int) (E0 : zyEm) (v : Nat → Int) (E : zyEm) : Nat := if i = 0 then (100) else (((v 3)).toNat)
theorem xEl0 {l : Launch} {en : zEn} {me : zMe} (hen : zG zxMeta 87 = some en) (hme : zG zMeth 87 = some me) : xFc l zymc en me 2 [39, 2] 1 fpfel0 false xΦel xΨ0 := by
  have een : zG zxMeta 87 = some (zxi87, 3, 4, 7, 87, 0, 0, 0, 0) := rfl
  obtain ⟨me1, hme1, hOK⟩ := zall hen
  rw [hme] at hme1
  cases hme1
  rw [een] at hen
  cases hen
  have hr := zyfel0_run
  have hck := fun i hi => zyAll_iff zyfel0_ck i hi
  simp only [Bool.and_eq_true] at hck
  intro B
  refine xcut (mi := zymc) (B := B) hOK rfl rfl (ι := Fin 2) (fun i => zpfel0 i.val) (fun _ _ => []) (fun i => zFfel0 i.val) (fun i => zSfel0 i.val) (fun i => zXfel0 i.val) (fun i => zRfel0 i.val) (fun i y2 ct en2 me2 h => by cases h) 200000 (fun i => zyAll_iff hr i.val i.isLt) (fun i => (hck i.val i.isLt).1) (fun i => (hck i.val i.isLt).2.1) (fun i => (hck i.val i.isLt).2.2) ⟨0, by decide⟩ ⟨rfl, rfl, rfl, rfl⟩ ⟨by decide, by decide⟩ (fun i x0 E0 v E => xIfel0 i.val x0 E0 v E) (fun i x0 E0 v E => xMfel0 i.val x0 E0 v E) ?_ ?_ ?_
  · intro x0 E hx0 hT hΦ
    have hΦ : xΦel x0 E := hΦ
    refine ⟨fun k p hp => ?_, ?_⟩
    · have hk : k < 4 := (List.getElem?_eq_some_iff.mp hp).1
      have hk : k = 0 ∨ k = 1 ∨ k = 2 ∨ k = 3 := by omega
      rcases hk with rfl | rfl | rfl | rfl
      · have hp : some (0, 4294967295) = some p := hp
        cases hp
        show ((0 : Nat) : Int) ≤ 0 + 2147483648 ∧ 0 + 2147483648 ≤ ((4294967295 : Nat) : Int)
        omega
      · have hp : some (0, 4294967295) = some p := hp
        cases hp
        show ((0 : Nat) : Int) ≤ 0 + 2147483648 ∧ 0 + 2147483648 ≤ ((4294967295 : Nat) : Int)
        omega
      · have hp : some (2147483648, 2147483655) = some p := hp
        cases hp
        show ((2147483648 : Nat) : Int) ≤ x0 0 + 2147483648 ∧ x0 0 + 2147483648 ≤ ((2147483655 : Nat) : Int)
        have hx := hx0 0
        have hP := hΦ.1
        have hP2 := hΦ.2
        omega
      · have hp : some (0, 4294967295) = some p := hp
        cases hp
        show ((0 : Nat) : Int) ≤ x0 1 + 2147483648 ∧ x0 1 + 2147483648 ≤ ((4294967295 : Nat) : Int)
        have hx := hx0 1
        omega
    · show E = E
      rfl
  · intro x0 s Wg hRu hrx hT0 hΦ i v H hT hrv hInv hKc hFr0 hIH x hx ρ2 v2 N2 H2 locs lsB stA hAt hB hv hr2 hXs hag hfr hFr hT2
    rcases i with ⟨i, hi⟩
    have hi2 : i = 0 ∨ i = 1 := by omega
    rcases hi2 with rfl | rfl
    · have hx : x ∈ [zxfel0_ax0] := hx
      have hag : ∀ k, k < 4 → v2 k = v k := hag
      have hfr : xFr [] _ _ := hfr
      have ex := List.mem_singleton.mp hx
      subst ex
      obtain ⟨hF, hBd, hM⟩ := hXs
      have g2 : v2 2 = v 2 := hag 2 (by decide)
      have b0 : ((2147483648 : Nat) : Int) ≤ (v2 2) + 2147483648 ∧ (v2 2) + 2147483648 ≤ ((2147483655 : Nat) : Int) := xXb hBd 0 rfl
      have hI : (zyEl zymc B H) = (zyEl zymc B s.heap) := hInv
      refine xGo hIH hAt hB hv hFr ⟨1, by decide⟩ [0, 0, 68719476737, 68719476737] [0, 0, (v2 2), (v2 2)] rfl ⟨by decide +kernel, ⟨rfl, by decide +kernel⟩, (xcs_c rfl (xcs_c rfl (xcs_c rfl (xcs_c rfl xcs_n)))), (xe_0 (xe_0 (xe_c (by omega) (by omega) rfl (xe_c (by omega) (by omega) rfl xe_n)))), xkq_n⟩ xst_n ?_ ?_
      · show True
        trivial
      · show (((v2 2) : Int)).toNat < 100
        omega
    · have hx : x ∈ [zxfel0_bx0] := hx
      have hag : ∀ k, k < 4 → v2 k = v k := hag
      have hfr : xFr [(42, 0, 7)] _ _ := hfr
      have ex := List.mem_singleton.mp hx
      subst ex
      obtain ⟨hF, hBd, hM⟩ := hXs
      have g2 : v2 2 = v 2 := hag 2 (by decide)
      have g3 : v2 3 = v 3 := hag 3 (by decide)
      have b0 : ((2147483648 : Nat) : Int) ≤ (v2 2) + 2147483648 ∧ (v2 2) + 2147483648 ≤ ((2147483655 : Nat) : Int) := xXb hBd 0 rfl
      have b1 : ((2147483649 : Nat) : Int) ≤ (v2 3) + 2147483648 ∧ (v2 3) + 2147483648 ≤ ((2147483655 : Nat) : Int) := xXb hBd 1 rfl
      have b2 : ((2147483648 : Nat) : Int) ≤ (v2 3 + (-1)) + 2147483648 ∧ (v2 3 + (-1)) + 2147483648 ≤ ((2147483654 : Nat) : Int) := xXb hBd 2 rfl
      have hI : True := hInv
      refine xGo hIH hAt hB hv hFr ⟨1, by decide⟩ [0, 0, 68719476737, 137438953465] [0, 0, (v2 2), (v2 3 + (-1))] rfl ⟨by decide +kernel, ⟨rfl, by decide +kernel⟩, (xcs_c rfl (xcs_c rfl (xcs_c rfl (xcs_c rfl xcs_n)))), (xe_0 (xe_0 (xe_c (by omega) (by omega) rfl (xe_c (by omega) (by omega) rfl xe_n)))), xkq_n⟩ xst_n ?_ ?_
      · show True
        trivial
      · show (((v2 3 + (-1)) : Int)).toNat < ((v 3)).toNat
        omega
  · intro x0 E0 E E2 hrx hT0 hΦ i v hT hrv hInv hKc hFr0 x hx v2 hr2 hXs hag hfr hFr hT2
    rcases i with ⟨i, hi⟩
    have hi2 : i = 0 ∨ i = 1 := by omega
    rcases hi2 with rfl | rfl
    · cases hx
    · have hx : x ∈ [zxfel0_br0] := hx
      have hag : ∀ k, k < 4 → v2 k = v k := hag
      have hfr : xFr [(42, 0, 7)] _ _ := hfr
      have ex := List.mem_singleton.mp hx
      subst ex
      obtain ⟨hF, hBd, hM⟩ := hXs
      have g2 : v2 2 = v 2 := hag 2 (by decide)
      have g3 : v2 3 = v 3 := hag 3 (by decide)
      have hI : True := hInv
      show xΨ0 x0 E0 E2 0
      trivial
noncomputable def zxfbg0_ax0 : zyXp := (23, [315, 11, 0], [], [], [], [])
noncomputable def zpfbg0_a : zyPh := (0, [315, 11, 13], [(0, 4294967295), (0, 4294967295), (0, 4294967295)], [], [])
noncomputable def zxfbg0_bx0 : zyXp := (49, [315, 11, 68719476737], [68719476737, 19, 315], [(24, 103079215105, 39, 0), (20, 0, 68719476737, 103079215105), (24, 137438953473, 14, 68719476737)], [(68719476737, 2147483648, 2147483655), (103079215105, 2147483649, 2147483656), (137438953473, 2147483648, 2147483727)], [])
noncomputable def zxfbg0_br0 : zyXp := (0, [], [], [(24, 103079215105, 39, 0), (21, 0, 68719476737, 103079215105)], [(68719476737, 2147483648, 2147483656), (103079215105, 2147483648, 2147483656)], [])
noncomputable def zpfbg0_b : zyPh := (23, [315, 11, 68719476737], [(0, 4294967295), (0, 4294967295), (2147483648, 2147483656)], [], [])
noncomputable def zxfbg0_cx0 : zyXp := (23, [315, 11, 68719476745], [], [], [(68719476737, 2147483648, 2147483655), (68719476745, 2147483649, 2147483656)], [])
noncomputable def zpfbg0_c : zyPh := (52, [315, 11, 68719476737], [(0, 4294967295), (0, 4294967295), (2147483648, 2147483655)], [], [])
noncomputable def zpfbg0 (i : Nat) : zyPh := zif (Nat.beq i 0) (zpfbg0_a) (zif (Nat.beq i 1) (zpfbg0_b) (zpfbg0_c))
noncomputable def zXfbg0 (i : Nat) : List zyXp := zif (Nat.beq i 0) ([zxfbg0_ax0]) (zif (Nat.beq i 1) ([zxfbg0_bx0]) ([zxfbg0_cx0]))
noncomputable def zRfbg0 (i : Nat) : List zyXp := zif (Nat.beq i 0) ([]) (zif (Nat.beq i 1) ([zxfbg0_br0]) ([]))
noncomputable def zFfbg0 (i : Nat) : zyR := zif (Nat.beq i 0) ([(39, 0, 1), (45, 1, 1)]) (zif (Nat.beq i 1) ([(40, 0, 7)]) ([]))
noncomputable def zSfbg0 (i : Nat) : Nat := zif (Nat.beq i 0) (0) (zif (Nat.beq i 1) (0) (0))
noncomputable def fpfbg0 : zyR := [(39, 0, 1), (45, 1, 1), (40, 0, 7), (42, 0, 7)]
theorem zyfbg0_run : zyrS zymc zxi86 (86, 0, 0, 0, 0) 3 zpfbg0 (fun _ _ => []) zFfbg0 zSfbg0 zXfbg0 zRfbg0 3 = true := by decide +kernel
theorem zyfbg0_ck : zyAll (fun i => xsubR (zFfbg0 i) fpfbg0 && ((zXfbg0 i).all xckX && (zRfbg0 i).all (fun x => xckX x && xrtB false x))) 3 = true := by decide +kernel
def xIfbg0 (i : Nat) (x0 : Nat → Int) (E0 : zyEm) (v : Nat → Int) (E : zyEm) : Prop := if i = 0 then (E = E0) else if i = 1 then (True) else (True)
def xMfbg0 (i : Nat) (x0 : Nat → Int) (E0 : zyEm) (v : Nat → Int) (E : zyEm) : Nat := if i = 0 then (1000) else if i = 1 then (3 * (20 - (v 2)).toNat + 2) else (3 * (20 - (v 2)).toNat)
theorem xBg0 {l : Launch} {en : zEn} {me : zMe} (hen : zG zxMeta 86 = some en) (hme : zG zMeth 86 = some me) : xFc l zymc en me 3 [39, 1] 0 fpfbg0 false xΦ0 xΨ0 := by
  have een : zG zxMeta 86 = some (zxi86, 2, 3, 7, 86, 0, 0, 0, 0) := rfl
  obtain ⟨me1, hme1, hOK⟩ := zall hen
  rw [hme] at hme1
  cases hme1
  rw [een] at hen
  cases hen
  have hr := zyfbg0_run
  have hck := fun i hi => zyAll_iff zyfbg0_ck i hi
  simp only [Bool.and_eq_true] at hck
  obtain ⟨mefel0, hmefel0, -⟩ := zall (show zG zxMeta 87 = some (zxi87, 3, 4, 7, 87, 0, 0, 0, 0) from rfl)
  have hfel0 := xEl0 (l := l) (show zG zxMeta 87 = some (zxi87, 3, 4, 7, 87, 0, 0, 0, 0) from rfl) hmefel0
  intro B
  refine xcut (mi := zymc) (B := B) hOK rfl rfl (ι := Fin 3) (fun i => zpfbg0 i.val) (fun _ _ => []) (fun i => zFfbg0 i.val) (fun i => zSfbg0 i.val) (fun i => zXfbg0 i.val) (fun i => zRfbg0 i.val) (fun i y2 ct en2 me2 h => by cases h) 200000 (fun i => zyAll_iff hr i.val i.isLt) (fun i => (hck i.val i.isLt).1) (fun i => (hck i.val i.isLt).2.1) (fun i => (hck i.val i.isLt).2.2) ⟨0, by decide⟩ ⟨rfl, rfl, rfl, rfl⟩ ⟨by decide, by decide⟩ (fun i x0 E0 v E => xIfbg0 i.val x0 E0 v E) (fun i x0 E0 v E => xMfbg0 i.val x0 E0 v E) ?_ ?_ ?_
  · intro x0 E hx0 hT hΦ
    have hΦ : xΦ0 x0 E := hΦ
    refine ⟨fun k p hp => ?_, ?_⟩
    · have hk : k < 3 := (List.getElem?_eq_some_iff.mp hp).1
      have hk : k = 0 ∨ k = 1 ∨ k = 2 := by omega
      rcases hk with rfl | rfl | rfl
      · have hp : some (0, 4294967295) = some p := hp
        cases hp
        show ((0 : Nat) : Int) ≤ 0 + 2147483648 ∧ 0 + 2147483648 ≤ ((4294967295 : Nat) : Int)
        omega
      · have hp : some (0, 4294967295) = some p := hp
        cases hp
        show ((0 : Nat) : Int) ≤ 0 + 2147483648 ∧ 0 + 2147483648 ≤ ((4294967295 : Nat) : Int)
        omega
      · have hp : some (0, 4294967295) = some p := hp
        cases hp
        show ((0 : Nat) : Int) ≤ x0 0 + 2147483648 ∧ x0 0 + 2147483648 ≤ ((4294967295 : Nat) : Int)
        have hx := hx0 0
        omega
    · show E = E
      rfl
  · intro x0 s Wg hRu hrx hT0 hΦ i v H hT hrv hInv hKc hFr0 hIH x hx ρ2 v2 N2 H2 locs lsB stA hAt hB hv hr2 hXs hag hfr hFr hT2
    rcases i with ⟨i, hi⟩
    have hi2 : i = 0 ∨ i = 1 ∨ i = 2 := by omega
    rcases hi2 with rfl | rfl | rfl
    · have hx : x ∈ [zxfbg0_ax0] := hx
      have hag : ∀ k, k < 3 → v2 k = v k := hag
      have hfr : xFr [(39, 0, 1), (45, 1, 1)] _ _ := hfr
      have ex := List.mem_singleton.mp hx
      subst ex
      obtain ⟨hF, hBd, hM⟩ := hXs
      have hI : (zyEl zymc B H) = (zyEl zymc B s.heap) := hInv
      refine xGo hIH hAt hB hv hFr ⟨1, by decide⟩ [0, 0, 0] [0, 0, 0] rfl ⟨by decide +kernel, ⟨rfl, by decide +kernel⟩, (xcs_c rfl (xcs_c rfl (xcs_c rfl xcs_n))), (xe_0 (xe_0 (xe_c (by omega) (by omega) rfl xe_n))), xkq_n⟩ xst_n ?_ ?_
      · show True
        trivial
      · show 3 * (20 - (0 : Int)).toNat + 2 < 1000
        omega
    · have hx : x ∈ [zxfbg0_bx0] := hx
      have hag : ∀ k, k < 3 → v2 k = v k := hag
      have hfr : xFr [(40, 0, 7)] _ _ := hfr
      have ex := List.mem_singleton.mp hx
      subst ex
      obtain ⟨hF, hBd, hM⟩ := hXs
      have g2 : v2 2 = v 2 := hag 2 (by decide)
      have b0 : ((2147483648 : Nat) : Int) ≤ (v2 2) + 2147483648 ∧ (v2 2) + 2147483648 ≤ ((2147483655 : Nat) : Int) := xXb hBd 0 rfl
      have b1 : ((2147483649 : Nat) : Int) ≤ (v2 3) + 2147483648 ∧ (v2 3) + 2147483648 ≤ ((2147483656 : Nat) : Int) := xXb hBd 1 rfl
      have b2 : ((2147483648 : Nat) : Int) ≤ (v2 4) + 2147483648 ∧ (v2 4) + 2147483648 ≤ ((2147483727 : Nat) : Int) := xXb hBd 2 rfl
      have f0 : (0 : Int) ≤ 0 ∧ xE (zyEl zymc B H) 39 0 = (v2 3) := xXf hF 0 rfl
      have f1 : (v2 2) < (v2 3) := xXf hF 1 rfl
      have f2 : (0 : Int) ≤ (v2 2) ∧ xE (zyEl zymc B H) 14 (v2 2) = (v2 4) := xXf hF 2 rfl
      have hI : True := hInv
      refine xCa hRu hIH hAt hB hv hFr (hfel0 B) (ix := 58) (ax := 1392) rfl rfl rfl hmefel0 ⟨_, rfl, rfl, by decide⟩ ⟨rfl, rfl, rfl⟩ (by decide) [68719476737] [] [(v2 2)] rfl ⟨rfl, rfl⟩ (by decide +kernel) (xcs_c rfl xcs_n) (by decide +kernel) ?_ (fun H3 r hT3 hf3 hFr3 hr3 hΨ3 => ?_)
      · show xΦel (xfv [(v2 2)]) (zyEl zymc B H2)
        exact ⟨by show 0 ≤ (v2 2); omega, by show (v2 2) ≤ 7; omega⟩
      · have hΨ3 : xΨ0 (xfv [(v2 2)]) (zyEl zymc B H2) (zyEl zymc B H3) r := hΨ3
        skip
        skip
        refine ⟨⟨2, by decide⟩, [0, 0, 68719476737], [0, 0, (v2 2)], rfl, ⟨by decide +kernel, ⟨rfl, by decide +kernel⟩, (xcs_c rfl (xcs_c rfl (xcs_c rfl xcs_n))), (xe_0 (xe_0 (xe_c (by omega) (by omega) rfl xe_n))), xkq_n⟩, (by rw [if_neg (by decide)]; exact xst_n), ?_, ?_⟩
        · show True
          trivial
        · show 3 * (20 - ((v2 2) : Int)).toNat < 3 * (20 - (v 2)).toNat + 2
          omega
    · have hx : x ∈ [zxfbg0_cx0] := hx
      have hag : ∀ k, k < 3 → v2 k = v k := hag
      have hfr : xFr [] _ _ := hfr
      have ex := List.mem_singleton.mp hx
      subst ex
      obtain ⟨hF, hBd, hM⟩ := hXs
      have g2 : v2 2 = v 2 := hag 2 (by decide)
      have b0 : ((2147483648 : Nat) : Int) ≤ (v2 2) + 2147483648 ∧ (v2 2) + 2147483648 ≤ ((2147483655 : Nat) : Int) := xXb hBd 0 rfl
      have b1 : ((2147483649 : Nat) : Int) ≤ (v2 2 + 1) + 2147483648 ∧ (v2 2 + 1) + 2147483648 ≤ ((2147483656 : Nat) : Int) := xXb hBd 1 rfl
      have hI : True := hInv
      refine xGo hIH hAt hB hv hFr ⟨1, by decide⟩ [0, 0, 68719476745] [0, 0, (v2 2 + 1)] rfl ⟨by decide +kernel, ⟨rfl, by decide +kernel⟩, (xcs_c rfl (xcs_c rfl (xcs_c rfl xcs_n))), (xe_0 (xe_0 (xe_c (by omega) (by omega) rfl xe_n))), xkq_n⟩ xst_n ?_ ?_
      · show True
        trivial
      · show 3 * (20 - ((v2 2 + 1) : Int)).toNat + 2 < 3 * (20 - (v 2)).toNat
        omega
  · intro x0 E0 E E2 hrx hT0 hΦ i v hT hrv hInv hKc hFr0 x hx v2 hr2 hXs hag hfr hFr hT2
    rcases i with ⟨i, hi⟩
    have hi2 : i = 0 ∨ i = 1 ∨ i = 2 := by omega
    rcases hi2 with rfl | rfl | rfl
    · cases hx
    · have hx : x ∈ [zxfbg0_br0] := hx
      have hag : ∀ k, k < 3 → v2 k = v k := hag
      have hfr : xFr [(40, 0, 7)] _ _ := hfr
      have ex := List.mem_singleton.mp hx
      subst ex
      obtain ⟨hF, hBd, hM⟩ := hXs
      have g2 : v2 2 = v 2 := hag 2 (by decide)
      have b0 : ((2147483648 : Nat) : Int) ≤ (v2 2) + 2147483648 ∧ (v2 2) + 2147483648 ≤ ((2147483656 : Nat) : Int) := xXb hBd 0 rfl
      have b1 : ((2147483648 : Nat) : Int) ≤ (v2 3) + 2147483648 ∧ (v2 3) + 2147483648 ≤ ((2147483656 : Nat) : Int) := xXb hBd 1 rfl
      have f0 : (0 : Int) ≤ 0 ∧ xE E 39 0 = (v2 3) := xXf hF 0 rfl
      have f1 : (v2 3) ≤ (v2 2) := xXf hF 1 rfl
      have hI : True := hInv
      show xΨ0 x0 E0 E2 0
      trivial
    · cases hx
noncomputable def zxfel17_ax0 : zyXp := (2, [315, 155, 68719476737, 68719476737], [], [], [(68719476737, 2147483648, 2147483655)], [])
noncomputable def zpfel17_a : zyPh := (0, [315, 155, 68719476737, 13], [(0, 4294967295), (0, 4294967295), (2147483648, 2147483655), (0, 4294967295)], [], [])
noncomputable def zxfel17_bx0 : zyXp := (2, [315, 155, 68719476737, 137438953465], [], [], [(68719476737, 2147483648, 2147483655), (103079215105, 2147483649, 2147483655), (137438953465, 2147483648, 2147483654)], [])
noncomputable def zxfel17_br0 : zyXp := (0, [], [], [], [], [])
noncomputable def zpfel17_b : zyPh := (2, [315, 155, 68719476737, 103079215105], [(0, 4294967295), (0, 4294967295), (2147483648, 2147483655), (2147483648, 2147483655)], [], [])
noncomputable def zpfel17 (i : Nat) : zyPh := zif (Nat.beq i 0) (zpfel17_a) (zpfel17_b)
noncomputable def zXfel17 (i : Nat) : List zyXp := zif (Nat.beq i 0) ([zxfel17_ax0]) ([zxfel17_bx0])
noncomputable def zRfel17 (i : Nat) : List zyXp := zif (Nat.beq i 0) ([]) ([zxfel17_br0])
noncomputable def zFfel17 (i : Nat) : zyR := zif (Nat.beq i 0) ([]) ([(42, 0, 7)])
noncomputable def zSfel17 (i : Nat) : Nat := zif (Nat.beq i 0) (0) (0)
noncomputable def fpfel17 : zyR := [(42, 0, 7)]
theorem zyfel17_run : zyrS zymc zxi87 (87, 0, 0, 0, 0) 2 zpfel17 (fun _ _ => []) zFfel17 zSfel17 zXfel17 zRfel17 2 = true := by decide +kernel
theorem zyfel17_ck : zyAll (fun i => xsubR (zFfel17 i) fpfel17 && ((zXfel17 i).all xckX && (zRfel17 i).all (fun x => xckX x && xrtB false x))) 2 = true := by decide +kernel
def xIfel17 (i : Nat) (x0 : Nat → Int) (E0 : zyEm) (v : Nat → Int) (E : zyEm) : Prop := if i = 0 then (E = E0) else (True)
def xMfel17 (i : Nat) (x0 : Nat → Int) (E0 : zyEm) (v : Nat → Int) (E : zyEm) : Nat := if i = 0 then (100) else (((v 3)).toNat)
theorem xEl17 {l : Launch} {en : zEn} {me : zMe} (hen : zG zxMeta 87 = some en) (hme : zG zMeth 87 = some me) : xFc l zymc en me 2 [39, 19] 1 fpfel17 false xΦel xΨ0 := by
  have een : zG zxMeta 87 = some (zxi87, 3, 4, 7, 87, 0, 0, 0, 0) := rfl
  obtain ⟨me1, hme1, hOK⟩ := zall hen
  rw [hme] at hme1
  cases hme1
  rw [een] at hen
  cases hen
  have hr := zyfel17_run
  have hck := fun i hi => zyAll_iff zyfel17_ck i hi
  simp only [Bool.and_eq_true] at hck
  intro B
  refine xcut (mi := zymc) (B := B) hOK rfl rfl (ι := Fin 2) (fun i => zpfel17 i.val) (fun _ _ => []) (fun i => zFfel17 i.val) (fun i => zSfel17 i.val) (fun i => zXfel17 i.val) (fun i => zRfel17 i.val) (fun i y2 ct en2 me2 h => by cases h) 200000 (fun i => zyAll_iff hr i.val i.isLt) (fun i => (hck i.val i.isLt).1) (fun i => (hck i.val i.isLt).2.1) (fun i => (hck i.val i.isLt).2.2) ⟨0, by decide⟩ ⟨rfl, rfl, rfl, rfl⟩ ⟨by decide, by decide⟩ (fun i x0 E0 v E => xIfel17 i.val x0 E0 v E) (fun i x0 E0 v E => xMfel17 i.val x0 E0 v E) ?_ ?_ ?_
  · intro x0 E hx0 hT hΦ
    have hΦ : xΦel x0 E := hΦ
    refine ⟨fun k p hp => ?_, ?_⟩
    · have hk : k < 4 := (List.getElem?_eq_some_iff.mp hp).1
      have hk : k = 0 ∨ k = 1 ∨ k = 2 ∨ k = 3 := by omega
      rcases hk with rfl | rfl | rfl | rfl
      · have hp : some (0, 4294967295) = some p := hp
        cases hp
        show ((0 : Nat) : Int) ≤ 0 + 2147483648 ∧ 0 + 2147483648 ≤ ((4294967295 : Nat) : Int)
        omega
      · have hp : some (0, 4294967295) = some p := hp
        cases hp
        show ((0 : Nat) : Int) ≤ 0 + 2147483648 ∧ 0 + 2147483648 ≤ ((4294967295 : Nat) : Int)
        omega
      · have hp : some (2147483648, 2147483655) = some p := hp
        cases hp
        show ((2147483648 : Nat) : Int) ≤ x0 0 + 2147483648 ∧ x0 0 + 2147483648 ≤ ((2147483655 : Nat) : Int)
        have hx := hx0 0
        have hP := hΦ.1
        have hP2 := hΦ.2
        omega
      · have hp : some (0, 4294967295) = some p := hp
        cases hp
        show ((0 : Nat) : Int) ≤ x0 1 + 2147483648 ∧ x0 1 + 2147483648 ≤ ((4294967295 : Nat) : Int)
        have hx := hx0 1
        omega
    · show E = E
      rfl
  · intro x0 s Wg hRu hrx hT0 hΦ i v H hT hrv hInv hKc hFr0 hIH x hx ρ2 v2 N2 H2 locs lsB stA hAt hB hv hr2 hXs hag hfr hFr hT2
    rcases i with ⟨i, hi⟩
    have hi2 : i = 0 ∨ i = 1 := by omega
    rcases hi2 with rfl | rfl
    · have hx : x ∈ [zxfel17_ax0] := hx
      have hag : ∀ k, k < 4 → v2 k = v k := hag
      have hfr : xFr [] _ _ := hfr
      have ex := List.mem_singleton.mp hx
      subst ex
      obtain ⟨hF, hBd, hM⟩ := hXs
      have g2 : v2 2 = v 2 := hag 2 (by decide)
      have b0 : ((2147483648 : Nat) : Int) ≤ (v2 2) + 2147483648 ∧ (v2 2) + 2147483648 ≤ ((2147483655 : Nat) : Int) := xXb hBd 0 rfl
      have hI : (zyEl zymc B H) = (zyEl zymc B s.heap) := hInv
      refine xGo hIH hAt hB hv hFr ⟨1, by decide⟩ [0, 0, 68719476737, 68719476737] [0, 0, (v2 2), (v2 2)] rfl ⟨by decide +kernel, ⟨rfl, by decide +kernel⟩, (xcs_c rfl (xcs_c rfl (xcs_c rfl (xcs_c rfl xcs_n)))), (xe_0 (xe_0 (xe_c (by omega) (by omega) rfl (xe_c (by omega) (by omega) rfl xe_n)))), xkq_n⟩ xst_n ?_ ?_
      · show True
        trivial
      · show (((v2 2) : Int)).toNat < 100
        omega
    · have hx : x ∈ [zxfel17_bx0] := hx
      have hag : ∀ k, k < 4 → v2 k = v k := hag
      have hfr : xFr [(42, 0, 7)] _ _ := hfr
      have ex := List.mem_singleton.mp hx
      subst ex
      obtain ⟨hF, hBd, hM⟩ := hXs
      have g2 : v2 2 = v 2 := hag 2 (by decide)
      have g3 : v2 3 = v 3 := hag 3 (by decide)
      have b0 : ((2147483648 : Nat) : Int) ≤ (v2 2) + 2147483648 ∧ (v2 2) + 2147483648 ≤ ((2147483655 : Nat) : Int) := xXb hBd 0 rfl
      have b1 : ((2147483649 : Nat) : Int) ≤ (v2 3) + 2147483648 ∧ (v2 3) + 2147483648 ≤ ((2147483655 : Nat) : Int) := xXb hBd 1 rfl
      have b2 : ((2147483648 : Nat) : Int) ≤ (v2 3 + (-1)) + 2147483648 ∧ (v2 3 + (-1)) + 2147483648 ≤ ((2147483654 : Nat) : Int) := xXb hBd 2 rfl
      have hI : True := hInv
      refine xGo hIH hAt hB hv hFr ⟨1, by decide⟩ [0, 0, 68719476737, 137438953465] [0, 0, (v2 2), (v2 3 + (-1))] rfl ⟨by decide +kernel, ⟨rfl, by decide +kernel⟩, (xcs_c rfl (xcs_c rfl (xcs_c rfl (xcs_c rfl xcs_n)))), (xe_0 (xe_0 (xe_c (by omega) (by omega) rfl (xe_c (by omega) (by omega) rfl xe_n)))), xkq_n⟩ xst_n ?_ ?_
      · show True
        trivial
      · show (((v2 3 + (-1)) : Int)).toNat < ((v 3)).toNat
        omega
  · intro x0 E0 E E2 hrx hT0 hΦ i v hT hrv hInv hKc hFr0 x hx v2 hr2 hXs hag hfr hFr hT2
    rcases i with ⟨i, hi⟩
    have hi2 : i = 0 ∨ i = 1 := by omega
    rcases hi2 with rfl | rfl
    · cases hx
    · have hx : x ∈ [zxfel17_br0] := hx
      have hag : ∀ k, k < 4 → v2 k = v k := hag
      have hfr : xFr [(42, 0, 7)] _ _ := hfr
      have ex := List.mem_singleton.mp hx
      subst ex
      obtain ⟨hF, hBd, hM⟩ := hXs
      have g2 : v2 2 = v 2 := hag 2 (by decide)
      have g3 : v2 3 = v 3 := hag 3 (by decide)
      have hI : True := hInv
      show xΨ0 x0 E0 E2 0
      trivial
noncomputable def zxfbg17_ax0 : zyXp := (23, [315, 147, 0], [], [], [], [])
noncomputable def zpfbg17_a : zyPh := (0, [315, 147, 13], [(0, 4294967295), (0, 4294967295), (0, 4294967295)], [], [])
noncomputable def zxfbg17_bx0 : zyXp := (49, [315, 147, 68719476737], [68719476737, 155, 315], [(24, 103079215105, 39, 0), (20, 0, 68719476737, 103079215105), (24, 137438953473, 31, 68719476737)], [(68719476737, 2147483648, 2147483655), (103079215105, 2147483649, 2147483656), (137438953473, 2147483648, 2147483727)], [])
noncomputable def zxfbg17_br0 : zyXp := (0, [], [], [(24, 103079215105, 39, 0), (21, 0, 68719476737, 103079215105)], [(68719476737, 2147483648, 2147483656), (103079215105, 2147483648, 2147483656)], [])
noncomputable def zpfbg17_b : zyPh := (23, [315, 147, 68719476737], [(0, 4294967295), (0, 4294967295), (2147483648, 2147483656)], [], [])
noncomputable def zxfbg17_cx0 : zyXp := (23, [315, 147, 68719476745], [], [], [(68719476737, 2147483648, 2147483655), (68719476745, 2147483649, 2147483656)], [])
noncomputable def zpfbg17_c : zyPh := (52, [315, 147, 68719476737], [(0, 4294967295), (0, 4294967295), (2147483648, 2147483655)], [], [])
noncomputable def zpfbg17 (i : Nat) : zyPh := zif (Nat.beq i 0) (zpfbg17_a) (zif (Nat.beq i 1) (zpfbg17_b) (zpfbg17_c))
noncomputable def zXfbg17 (i : Nat) : List zyXp := zif (Nat.beq i 0) ([zxfbg17_ax0]) (zif (Nat.beq i 1) ([zxfbg17_bx0]) ([zxfbg17_cx0]))
noncomputable def zRfbg17 (i : Nat) : List zyXp := zif (Nat.beq i 0) ([]) (zif (Nat.beq i 1) ([zxfbg17_br0]) ([]))
noncomputable def zFfbg17 (i : Nat) : zyR := zif (Nat.beq i 0) ([(39, 0, 1), (45, 1, 1)]) (zif (Nat.beq i 1) ([(40, 0, 7)]) ([]))
noncomputable def zSfbg17 (i : Nat) : Nat := zif (Nat.beq i 0) (0) (zif (Nat.beq i 1) (0) (0))
noncomputable def fpfbg17 : zyR := [(39, 0, 1), (45, 1, 1), (40, 0, 7), (42, 0, 7)]
theorem zyfbg17_run : zyrS zymc zxi86 (86, 0, 0, 0, 0) 3 zpfbg17 (fun _ _ => []) zFfbg17 zSfbg17 zXfbg17 zRfbg17 3 = true := by decide +kernel
theorem zyfbg17_ck : zyAll (fun i => xsubR (zFfbg17 i) fpfbg17 && ((zXfbg17 i).all xckX && (zRfbg17 i).all (fun x => xckX x && xrtB false x))) 3 = true := by decide +kernel
def xIfbg17 (i : Nat) (x0 : Nat → Int) (E0 : zyEm) (v : Nat → Int) (E : zyEm) : Prop := if i = 0 then (E = E0) else if i = 1 then (True) else (True)
def xMfbg17 (i : Nat) (x0 : Nat → Int) (E0 : zyEm) (v : Nat → Int) (E : zyEm) : Nat := if i = 0 then (1000) else if i = 1 then (3 * (20 - (v 2)).toNat + 2) else (3 * (20 - (v 2)).toNat)
theorem xBg17 {l : Launch} {en : zEn} {me : zMe} (hen : zG zxMeta 86 = some en) (hme : zG zMeth 86 = some me) : xFc l zymc en me 3 [39, 18] 0 fpfbg17 false xΦ0 xΨ0 := by
  have een : zG zxMeta 86 = some (zxi86, 2, 3, 7, 86, 0, 0, 0, 0) := rfl
  obtain ⟨me1, hme1, hOK⟩ := zall hen
  rw [hme] at hme1
  cases hme1
  rw [een] at hen
  cases hen
  have hr := zyfbg17_run
  have hck := fun i hi => zyAll_iff zyfbg17_ck i hi
  simp only [Bool.and_eq_true] at hck
  obtain ⟨mefel17, hmefel17, -⟩ := zall (show zG zxMeta 87 = some (zxi87, 3, 4, 7, 87, 0, 0, 0, 0) from rfl)
  have hfel17 := xEl17 (l := l) (show zG zxMeta 87 = some (zxi87, 3, 4, 7, 87, 0, 0, 0, 0) from rfl) hmefel17
  intro B
  refine xcut (mi := zymc) (B := B) hOK rfl rfl (ι := Fin 3) (fun i => zpfbg17 i.val) (fun _ _ => []) (fun i => zFfbg17 i.val) (fun i => zSfbg17 i.val) (fun i => zXfbg17 i.val) (fun i => zRfbg17 i.val) (fun i y2 ct en2 me2 h => by cases h) 200000 (fun i => zyAll_iff hr i.val i.isLt) (fun i => (hck i.val i.isLt).1) (fun i => (hck i.val i.isLt).2.1) (fun i => (hck i.val i.isLt).2.2) ⟨0, by decide⟩ ⟨rfl, rfl, rfl, rfl⟩ ⟨by decide, by decide⟩ (fun i x0 E0 v E => xIfbg17 i.val x0 E0 v E) (fun i x0 E0 v E => xMfbg17 i.val x0 E0 v E) ?_ ?_ ?_
  · intro x0 E hx0 hT hΦ
    have hΦ : xΦ0 x0 E := hΦ
    refine ⟨fun k p hp => ?_, ?_⟩
    · have hk : k < 3 := (List.getElem?_eq_some_iff.mp hp).1
      have hk : k = 0 ∨ k = 1 ∨ k = 2 := by omega
      rcases hk with rfl | rfl | rfl
      · have hp : some (0, 4294967295) = some p := hp
        cases hp
        show ((0 : Nat) : Int) ≤ 0 + 2147483648 ∧ 0 + 2147483648 ≤ ((4294967295 : Nat) : Int)
        omega
      · have hp : some (0, 4294967295) = some p := hp
        cases hp
        show ((0 : Nat) : Int) ≤ 0 + 2147483648 ∧ 0 + 2147483648 ≤ ((4294967295 : Nat) : Int)
        omega
      · have hp : some (0, 4294967295) = some p := hp
        cases hp
        show ((0 : Nat) : Int) ≤ x0 0 + 2147483648 ∧ x0 0 + 2147483648 ≤ ((4294967295 : Nat) : Int)
        have hx := hx0 0
        omega
    · show E = E
      rfl
  · intro x0 s Wg hRu hrx hT0 hΦ i v H hT hrv hInv hKc hFr0 hIH x hx ρ2 v2 N2 H2 locs lsB stA hAt hB hv hr2 hXs hag hfr hFr hT2
    rcases i with ⟨i, hi⟩
    have hi2 : i = 0 ∨ i = 1 ∨ i = 2 := by omega
    rcases hi2 with rfl | rfl | rfl
    · have hx : x ∈ [zxfbg17_ax0] := hx
      have hag : ∀ k, k < 3 → v2 k = v k := hag
      have hfr : xFr [(39, 0, 1), (45, 1, 1)] _ _ := hfr
      have ex := List.mem_singleton.mp hx
      subst ex
      obtain ⟨hF, hBd, hM⟩ := hXs
      have hI : (zyEl zymc B H) = (zyEl zymc B s.heap) := hInv
      refine xGo hIH hAt hB hv hFr ⟨1, by decide⟩ [0, 0, 0] [0, 0, 0] rfl ⟨by decide +kernel, ⟨rfl, by decide +kernel⟩, (xcs_c rfl (xcs_c rfl (xcs_c rfl xcs_n))), (xe_0 (xe_0 (xe_c (by omega) (by omega) rfl xe_n))), xkq_n⟩ xst_n ?_ ?_
      · show True
        trivial
      · show 3 * (20 - (0 : Int)).toNat + 2 < 1000
        omega
    · have hx : x ∈ [zxfbg17_bx0] := hx
      have hag : ∀ k, k < 3 → v2 k = v k := hag
      have hfr : xFr [(40, 0, 7)] _ _ := hfr
      have ex := List.mem_singleton.mp hx
      subst ex
      obtain ⟨hF, hBd, hM⟩ := hXs
      have g2 : v2 2 = v 2 := hag 2 (by decide)
      have b0 : ((2147483648 : Nat) : Int) ≤ (v2 2) + 2147483648 ∧ (v2 2) + 2147483648 ≤ ((2147483655 : Nat) : Int) := xXb hBd 0 rfl
      have b1 : ((2147483649 : Nat) : Int) ≤ (v2 3) + 2147483648 ∧ (v2 3) + 2147483648 ≤ ((2147483656 : Nat) : Int) := xXb hBd 1 rfl
      have b2 : ((2147483648 : Nat) : Int) ≤ (v2 4) + 2147483648 ∧ (v2 4) + 2147483648 ≤ ((2147483727 : Nat) : Int) := xXb hBd 2 rfl
      have f0 : (0 : Int) ≤ 0 ∧ xE (zyEl zymc B H) 39 0 = (v2 3) := xXf hF 0 rfl
      have f1 : (v2 2) < (v2 3) := xXf hF 1 rfl
      have f2 : (0 : Int) ≤ (v2 2) ∧ xE (zyEl zymc B H) 31 (v2 2) = (v2 4) := xXf hF 2 rfl
      have hI : True := hInv
      refine xCa hRu hIH hAt hB hv hFr (hfel17 B) (ix := 58) (ax := 1392) rfl rfl rfl hmefel17 ⟨_, rfl, rfl, by decide⟩ ⟨rfl, rfl, rfl⟩ (by decide) [68719476737] [] [(v2 2)] rfl ⟨rfl, rfl⟩ (by decide +kernel) (xcs_c rfl xcs_n) (by decide +kernel) ?_ (fun H3 r hT3 hf3 hFr3 hr3 hΨ3 => ?_)
      · show xΦel (xfv [(v2 2)]) (zyEl zymc B H2)
        exact ⟨by show 0 ≤ (v2 2); omega, by show (v2 2) ≤ 7; omega⟩
      · have hΨ3 : xΨ0 (xfv [(v2 2)]) (zyEl zymc B H2) (zyEl zymc B H3) r := hΨ3
        skip
        skip
        refine ⟨⟨2, by decide⟩, [0, 0, 68719476737], [0, 0, (v2 2)], rfl, ⟨by decide +kernel, ⟨rfl, by decide +kernel⟩, (xcs_c rfl (xcs_c rfl (xcs_c rfl xcs_n))), (xe_0 (xe_0 (xe_c (by omega) (by omega) rfl xe_n))), xkq_n⟩, (by rw [if_neg (by decide)]; exact xst_n), ?_, ?_⟩
        · show True
          trivial
        · show 3 * (20 - ((v2 2) : Int)).toNat < 3 * (20 - (v 2)).toNat + 2
          omega
    · have hx : x ∈ [zxfbg17_cx0] := hx
      have hag : ∀ k, k < 3 → v2 k = v k := hag
      have hfr : xFr [] _ _ := hfr
      have ex := List.mem_singleton.mp hx
      subst ex
      obtain ⟨hF, hBd, hM⟩ := hXs
      have g2 : v2 2 = v 2 := hag 2 (by decide)
      have b0 : ((2147483648 : Nat) : Int) ≤ (v2 2) + 2147483648 ∧ (v2 2) + 2147483648 ≤ ((2147483655 : Nat) : Int) := xXb hBd 0 rfl
      have b1 : ((2147483649 : Nat) : Int) ≤ (v2 2 + 1) + 2147483648 ∧ (v2 2 + 1) + 2147483648 ≤ ((2147483656 : Nat) : Int) := xXb hBd 1 rfl
      have hI : True := hInv
      refine xGo hIH hAt hB hv hFr ⟨1, by decide⟩ [0, 0, 68719476745] [0, 0, (v2 2 + 1)] rfl ⟨by decide +kernel, ⟨rfl, by decide +kernel⟩, (xcs_c rfl (xcs_c rfl (xcs_c rfl xcs_n))), (xe_0 (xe_0 (xe_c (by omega) (by omega) rfl xe_n))), xkq_n⟩ xst_n ?_ ?_
      · show True
        trivial
      · show 3 * (20 - ((v2 2 + 1) : Int)).toNat + 2 < 3 * (20 - (v 2)).toNat
        omega
  · intro x0 E0 E E2 hrx hT0 hΦ i v hT hrv hInv hKc hFr0 x hx v2 hr2 hXs hag hfr hFr hT2
    rcases i with ⟨i, hi⟩
    have hi2 : i = 0 ∨ i = 1 ∨ i = 2 := by omega
    rcases hi2 with rfl | rfl | rfl
    · cases hx
    · have hx : x ∈ [zxfbg17_br0] := hx
      have hag : ∀ k, k < 3 → v2 k = v k := hag
      have hfr : xFr [(40, 0, 7)] _ _ := hfr
      have ex := List.mem_singleton.mp hx
      subst ex
      obtain ⟨hF, hBd, hM⟩ := hXs
      have g2 : v2 2 = v 2 := hag 2 (by decide)
      have b0 : ((2147483648 : Nat) : Int) ≤ (v2 2) + 2147483648 ∧ (v2 2) + 2147483648 ≤ ((2147483656 : Nat) : Int) := xXb hBd 0 rfl
      have b1 : ((2147483648 : Nat) : Int) ≤ (v2 3) + 2147483648 ∧ (v2 3) + 2147483648 ≤ ((2147483656 : Nat) : Int) := xXb hBd 1 rfl
      have f0 : (0 : Int) ≤ 0 ∧ xE E 39 0 = (v2 3) := xXf hF 0 rfl
      have f1 : (v2 3) ≤ (v2 2) := xXf hF 1 rfl
      have hI : True := hInv
      show xΨ0 x0 E0 E2 0
      trivial
    · cases hx
end
section
/-! REFERENCES that are known at a phase's end -/
noncomputable def zymrB (B : zyB) (m : List (Nat × Nat)) (need : List (Nat × Nat)) : Bool := List.rec (motive := fun _ => Bool) true (fun p _ ih => zand (zand (zand (Nat.beq (Nat.mod p.2 8) 3) (zget B (Nat.div p.1 16384) (fun c => Nat.ble (Nat.succ (Nat.mod p.1 16384)) (zylenB c)))) (zylk false (fun v => Nat.beq v p.2) p.1 m)) ih) need
def xRk (B : zCx) (l : List (Nat × Nat)) (E : zyEm) : Prop := ∀ p ∈ l, E (p.1 / 16384) (p.1 % 16384) = some (.ref (zad B (p.2 / 8)))
theorem zymrB_iff {P : zyP} {X : zyX} {U : State} {m : List (Nat × Nat)} {H : Heap} (hM : zyMem P X U m H) : ∀ {need : List (Nat × Nat)}, zymrB P.1 m need = true → xRk (zyb X) need (zyEl P.1 (zyb X) H) := by
  intro need
  induction need with
  | nil => intro _ p hp; cases hp
  | cons g t ih =>
    intro h p hp
    have h : zand (zand (zand (Nat.beq (Nat.mod g.2 8) 3) (zget P.1 (Nat.div g.1 16384) (fun c => Nat.ble (Nat.succ (Nat.mod g.1 16384)) (zylenB c)))) (zylk false (fun v => Nat.beq v g.2) g.1 m)) (zymrB P.1 m t) = true := h
    obtain ⟨h1, h2⟩ := zand_iff h
    obtain ⟨h1, h3⟩ := zand_iff h1
    obtain ⟨h1, h4⟩ := zand_iff h1
    rcases List.mem_cons.mp hp with e | e
    · rw [e]
      obtain ⟨c, hc, h4⟩ := zget_iff h4
      have h4 := zbleT h4
      rw [zylen_eq] at h4
      obtain ⟨w, g1, g2⟩ := hM.2.1 _ c _ hc h4
      rw [zylk_eq] at h3
      unfold zyEt at g2
      have e1 : Nat.div g.1 16384 * 16384 + Nat.mod g.1 16384 = g.1 := by
        show g.1 / 16384 * 16384 + g.1 % 16384 = g.1
        omega
      rw [e1] at g2
      cases hq : zyl m g.1 with
      | none => rw [hq] at h3; cases h3
      | some v =>
        rw [hq] at h3 g2
        have h3 : v = g.2 := zbeqT h3
        rw [h3] at g2
        have g2 : zyV X g.2 w := g2
        have e2 := zyv_3 g2 (zbeqT h1)
        rw [e2] at g1
        exact g1
    · exact ih h2 p e
theorem xRk_g {B : zCx} {l : List (Nat × Nat)} {E : zyEm} (h : xRk B l E) (j : Nat) {p : Nat × Nat} (hj : l[j]? = some p) : E (p.1 / 16384) (p.1 % 16384) = some (.ref (zad B (p.2 / 8))) := h p (List.mem_of_getElem? hj)
noncomputable def zystR (B : zyB) (xs : List zyXp) (rk : List (Nat × Nat)) : zyK := fun w _ _ pc ls st _ fs m => List.rec (motive := fun _ => Bool) (zyanyB (fun x => zand (zyxpB B x w pc ls st m) (zymrB B m.1 rk)) xs) (fun _ _ _ => false) fs
noncomputable def zybtR (B : zyB) (xs : List zyXp) (rk : List (Nat × Nat)) : zW → List Nat → zyM → Bool := fun w v m => zyanyB (fun x => zand (zyxpB B x w x.1 [] v m) (zymrB B m.1 rk)) xs
noncomputable def zyrR (mi : zyB) (cf : Nat → zT) (yy : zY) (dep : Nat) (φ : Nat → zyPh) (tb : Nat → Nat → List zyCt) (fp : Nat → zyR) (sp : Nat → Nat) (xs rs : Nat → List zyXp) (rkx rkr : Nat → List (Nat × Nat)) (k : Nat) : Bool := zyAll (fun i => zyok (zybtR mi (rs i) (rkr i)) (mi, tb i, fp i, [], sp i) (zystR mi (xs i) (rkx i)) 200000 (zyln (φ i).2.2.1, (φ i).2.2.1) cf yy (φ i).1 (φ i).2.1 (φ i).2.2.2.2 (dep, 0, 0) [] ((φ i).2.2.2.1, [])) k
theorem xcutR {l : Launch} {mi : zyB} {B : zCx} {y0 : Nat} {en : zEn} {me : zMe} (hOK : zOK y0 en me) (hc0 : en.2.2.2.2.2.1 = 0) (hs0 : en.2.2.2.2.2.2.1 = 0) {dep : Nat} {As : List Value} {x0 v0 : Nat → Int} (hx0 : xRg x0) (hrv0 : xRg v0) {fpm : zyR} {rt : Bool} {Φ : (Nat → Int) → zyEm → Prop} {Ψ : (Nat → Int) → zyEm → zyEm → Int → Prop} {ι : Type} (φ : ι → zyPh) (tb : ι → Nat → List zyCt) (fp : ι → zyR) (sp : ι → Nat) (xs rs : ι → List zyXp) (rkx rkr : ι → List (Nat × Nat)) (hCon : ∀ i, zyCons l (mi, tb i, fp i, [], sp i) zyJ0) (n : Nat)
    (hrun : ∀ i, zyok (zybtR mi (rs i) (rkr i)) (mi, tb i, fp i, [], sp i) (zystR mi (xs i) (rkx i)) n (zyln (φ i).2.2.1, (φ i).2.2.1) en.1 en.2.2.2.2 (φ i).1 (φ i).2.1 (φ i).2.2.2.2 (dep, 0, 0) [] ((φ i).2.2.2.1, []) = true)
    (hfp : ∀ i, xsubR (fp i) fpm = true) (hckX : ∀ i, (xs i).all xckX = true) (hckR : ∀ i, (rs i).all (fun x => xckX x && xrtB rt x) = true)
    (i0 : ι) (hi0 : (φ i0).1 = 0 ∧ (φ i0).2.1.length = en.2.2.1 ∧ (φ i0).2.2.2.1 = [] ∧ (φ i0).2.2.2.2 = []) (hAl : (lg_sl As).length ≤ en.2.2.1) (hA : ∀ (i c : Nat), (φ i0).2.1[i]? = some c → ¬ c = 13 → ∃ w, (i, w) ∈ lv_args 0 As ∧ zyv (fun k => Int32.ofInt (v0 k)) (φ i0).2.2.1.length (zad B) c w)
    (Inv : ι → (Nat → Int) → zyEm → (Nat → Int) → zyEm → Prop) (Mu : ι → (Nat → Int) → zyEm → (Nat → Int) → zyEm → Nat)
    (h0 : ∀ (E : zyEm), zyTy mi E → Φ x0 E → xEnv v0 (φ i0).2.2.1 ∧ Inv i0 x0 E v0 E)
    (hstop : ∀ (x0 : Nat → Int) (s : State) (Wg : zyWt), xRu l mi en dep B s Wg → xRg x0 → zyTy mi (zyEl mi B s.heap) → Φ x0 (zyEl mi B s.heap) → ∀ (i : ι) (v : Nat → Int) (H : Heap), zyTy mi (zyEl mi B H) → xRg v → Inv i x0 (zyEl mi B s.heap) v (zyEl mi B H) → xKc (φ i).2.2.2.1 v (zyEl mi B H) → xFr fpm (zyEl mi B s.heap) (zyEl mi B H) → xIH mi en.2.2.1 B s fpm φ (fun i => Inv i x0 (zyEl mi B s.heap)) (fun i => Mu i x0 (zyEl mi B s.heap)) (Mu i x0 (zyEl mi B s.heap) v (zyEl mi B H)) Wg →
      ∀ x ∈ xs i, ∀ (ρ2 : Nat → Int32) (v2 : Nat → Int) (N2 : Nat) (H2 : Heap) (locs : List Loc) (lsB : Array Slot) (stA : List Value), zyAt mi B s en.2.2.1 x ρ2 N2 H2 locs lsB stA → xBd ρ2 x.2.2.2.2.1 → (∀ k, xI (ρ2 k) = v2 k) → xRg v2 → xXs x v2 (zyEl mi B H) (zyEl mi B H2) → (∀ k, k < (φ i).2.2.1.length → v2 k = v k) → xFr (fp i) (zyEl mi B H) (zyEl mi B H2) → xFr fpm (zyEl mi B s.heap) (zyEl mi B H2) → zyTy mi (zyEl mi B H2) → xRk B (rkx i) (zyEl mi B H2) → Wg H2 locs x.1 lsB stA)
    (hret : ∀ (x0 : Nat → Int) (E0 E E2 : zyEm), xRg x0 → zyTy mi E0 → Φ x0 E0 → ∀ (i : ι) (v : Nat → Int), zyTy mi E → xRg v → Inv i x0 E0 v E → xKc (φ i).2.2.2.1 v E → xFr fpm E0 E → ∀ x ∈ rs i, ∀ (v2 : Nat → Int), xRg v2 → xXs x v2 E E2 → (∀ k, k < (φ i).2.2.1.length → v2 k = v k) → xFr (fp i) E E2 → xFr fpm E0 E2 → zyTy mi E2 → xRk B (rkr i) E2 → Ψ x0 E0 E2 (xrv x.2.2.1 v2)) : xMt l mi B en me dep As (Φ x0) (fun E E2 vo => xFr fpm E E2 ∧ ∃ z : Int32, vo = (if rt = true then some (.int z) else none) ∧ Ψ x0 E E2 (xI z)) := by
  unfold xMt
  have hOK' := hOK
  obtain ⟨hrow, hnum, hrk, hcn, hcls, hml40, hpl, g, hin, hg1, hgw⟩ := hOK
  refine zMet_ofW hpl ?_
  intro p e s mt args below meth c s₁ Bd hml hv
  obtain ⟨rfl, hK, hI, hΦ⟩ := hv
  have hown : s.vm.findClass me.2.2.2 = some mt.cls := by rw [← hcls]; exact findClass_of_methodNamed Bd.named
  have hent := lv_entry As (n := en.2.2.1) hAl
  rw [lg_entry_eq]
  generalize (lg_sl (As) ++ List.replicate (en.2.2.1 - (lg_sl (As)).length) Slot.unset).toArray = lsA at hent ⊢
  have hlocks := Bd.notSynchronized
  have hT0 := zyTy_of hI
  have hRu : xRu l mi en dep B s (fun H locs pc lsB stA => W p l e { frames := dep, cells := en.2.2.2.2.2.1, slots := en.2.2.2.2.2.2.1, locals := 64 * dep } s mt (As).toArray below meth c H locs 0 0 (MQ below (zyHq mi B (fun E E2 vo => xFr fpm E E2 ∧ ∃ z : Int32, vo = (if rt = true then some (.int z) else none) ∧ Ψ x0 E E2 (xI z))) (As).toArray s en.2.2.2.2.2.1 en.2.2.2.2.2.2.1 (fun q => zbs B ≤ q)) (F0 mt pc lsB stA)) := xRu_ok hOK' hc0 hs0 Bd.exec Bd.bytes hml hown hK
  have hJp : zyJp [] zyJ0 := zyJ0_p (fun p hp => by cases hp)
  have claim : ∀ (M : Nat), ∀ (i : ι) (v : Nat → Int) (H : Heap) (locs : List Loc) (lsB : Array Slot) (stB : List Value), zyMI mi B zyJ0 s H → zyOut mi B s.heap H → xFr fpm (zyEl mi B s.heap) (zyEl mi B H) → xRg v → Inv i (x0) (zyEl mi B s.heap) v (zyEl mi B H) → zySs mi B en.2.2.1 (φ i) (fun k => Int32.ofInt (v k)) H locs lsB stB → Mu i (x0) (zyEl mi B s.heap) v (zyEl mi B H) = M →
      W p l e { frames := dep, cells := en.2.2.2.2.2.1, slots := en.2.2.2.2.2.2.1, locals := 64 * dep } s mt (As).toArray below meth c H locs 0 0 (MQ below (zyHq mi B (fun E E2 vo => xFr fpm E E2 ∧ ∃ z : Int32, vo = (if rt = true then some (.int z) else none) ∧ Ψ x0 E E2 (xI z))) (As).toArray s en.2.2.2.2.2.1 en.2.2.2.2.2.2.1 (fun q => zbs B ≤ q)) (F0 mt (φ i).1 lsB stB) := by
    intro M
    induction M using Nat.strongRecOn with
    | ind M IH =>
      intro i vv H locs lsB stB hIH hout hFr0 hrv hInv hSs hM
      have hKc : xKc (φ i).2.2.2.1 vv (zyEl mi B H) := xKc_of (ρ := fun k => Int32.ofInt (vv k)) (fun k => xI_ofInt (hrv k)) hSs.2.2.2.2.2
      obtain ⟨ρ, hρ⟩ : ∃ ρ : Nat → Int32, ρ = fun k => Int32.ofInt (vv k) := ⟨_, rfl⟩
      have hρv : ∀ k, xI (ρ k) = vv k := fun k => by rw [hρ]; exact xI_ofInt (hrv k)
      rw [← hρ] at hSs
      have hr := hrun i
      rw [zyln_eq] at hr
      refine zymain (l := l) (bt := zybtR mi (rs i) (rkr i)) (stop := zystR mi (xs i) (rkx i)) (fun _ _ _ _ _ _ _ _ _ _ => rfl) n (B, ρ, (φ i).2.2.1.length, ρ, (φ i).2.2.1.length, (zyEl mi B H, fun q => H[q]?), zyJ0) y0 en me (hCon i) hOK' ((φ i).2.2.1.length, (φ i).2.2.1) (φ i).1 (φ i).2.1 (φ i).2.2.2.2 (dep, 0, 0) [] ((φ i).2.2.2.1, []) hr p e { frames := dep, cells := en.2.2.2.2.2.1, slots := en.2.2.2.2.2.2.1, locals := 64 * dep } s mt (As).toArray below meth c _ H locs lsB stB ⟨Bd.exec, Bd.bytes, hml, hown, ⟨hK, hJp⟩, Nat.le_refl _, Nat.le_refl _, Nat.le_refl _, Nat.le_refl _⟩ (zyRl_new hIH hSs) ?_ ?_
      · intro n' ρ2 w2 v m2 H2 locs2 lsC pc vo cells slots hn' hbk hX hM2 hlo hc hs hvo hri
        have hbk : zybtR mi (rs i) (rkr i) w2 v m2 = true := hbk
        obtain ⟨x, hx, hxb⟩ := zyanyB_iff hbk
        obtain ⟨hxb, hxr⟩ := zand_iff hxb
        obtain ⟨-, -, e2, hXs, hI2⟩ := zyxp_iff (X := zyre (B, ρ, (φ i).2.2.1.length, ρ, (φ i).2.2.1.length, (zyEl mi B H, fun q => H[q]?), zyJ0) ρ2 w2.1) (P := (mi, tb i, fp i, [], sp i)) rfl hX.1 hX.2.2 hM2 hxb
        have hout2 : zyOut mi B s.heap H2 := fun q hq => (hM2.2.2.2.2.2 q hq).trans (hout q hq)
        have hvo2 : zyvo (zyXn B ρ2 w2.1) x.2.2.1 vo := by
          rw [← e2]
          exact hvo
        have hck := List.all_eq_true.mp (hckR i) x hx
        rw [Bool.and_eq_true] at hck
        have hXi := xXs_of (v := fun k => xI (ρ2 k)) (fun k => rfl) hXs hck.1
        have hFr2 : xFr (fp i) (zyEl mi B H) (zyEl mi B H2) := fun a k hf => hM2.2.2.1 a k hf
        have hFr3 : xFr fpm (zyEl mi B s.heap) (zyEl mi B H2) := xFr_trans hFr0 (xFr_mono (hfp i) hFr2)
        have hag : ∀ k, k < (φ i).2.2.1.length → xI (ρ2 k) = vv k := fun k hk => by rw [← hρv]; exact congrArg xI (hX.2.1.2 k hk)
        have hΨ0 := hret (x0) (zyEl mi B s.heap) (zyEl mi B H) (zyEl mi B H2) hx0 hT0 hΦ i vv (zyTy_of hIH) hrv hInv hKc hFr0 x hx (fun k => xI (ρ2 k)) (fun k => xI_r _) hXi hag hFr2 hFr3 (zyTy_of hI2) (zymrB_iff (P := (mi, tb i, fp i, [], sp i)) hM2 hxr)
        have hΨ : xFr fpm (zyEl mi B s.heap) (zyEl mi B H2) ∧ ∃ z : Int32, vo = (if rt = true then some (.int z) else none) ∧ Ψ (x0) (zyEl mi B s.heap) (zyEl mi B H2) (xI z) := by
          refine ⟨hFr3, ?_⟩
          have hck2 := hck.2
          have hck1 := hck.1
          unfold xrtB at hck2
          cases hrt : rt with
          | true =>
            rw [hrt] at hck2
            cases hst : x.2.2.1 with
            | nil => rw [hst] at hck2; cases hck2
            | cons c0 t0 =>
              rw [hst] at hck2
              cases t0 with
              | cons c1 t1 => cases hck2
              | nil =>
                have hck2 := of_decide_eq_true hck2
                rw [hst] at hvo2 hΨ0
                refine ⟨_, zyvo_1 hck2 hvo2, ?_⟩
                have hof : xofB x.2.2.2.2.1 c0 = true := by
                  unfold xckX at hck1
                  simp only [Bool.and_eq_true, List.all_eq_true] at hck1
                  have := hck1.2.2.2 c0 (by rw [hst]; exact List.mem_singleton.mpr rfl)
                  rw [Bool.or_eq_true, decide_eq_true_eq] at this
                  rcases this with z | z
                  · omega
                  · exact z
                rw [xofB_iff (v := fun k => xI (ρ2 k)) (fun k => rfl) hXs.2.1 hof]
                exact hΨ0
          | false =>
            rw [hrt] at hck2
            cases hst : x.2.2.1 with
            | cons c0 t0 => rw [hst] at hck2; cases hck2
            | nil =>
              rw [hst] at hvo2 hΨ0
              exact ⟨0, zyvo_0 hvo2, hΨ0⟩
        have hq : ∀ t : State, t.heap = H2 → s.WarmedH t.vm → zyHq mi B (fun E E2 vo => xFr fpm E E2 ∧ ∃ z : Int32, vo = (if rt = true then some (.int z) else none) ∧ Ψ x0 E E2 (xI z)) (As).toArray s (.returned vo) t := fun t ht hW => by
          subst ht
          exact ⟨vo, rfl, hK.warm hW, hI2.moved hW.alike, hΨ, hout2⟩
        refine W.widen hc hs ?_
        rcases hri with ⟨hd, x, ty, rfl, hty, hnar⟩ | ⟨hd, x, rfl, hty⟩ | ⟨hd, rfl, hty⟩
        · exact W.zret Bd.exec Bd.bytes (by rw [Bd.returns]; exact hty) hnar hq hlo hd hlocks
        · exact W.lret Bd.exec Bd.bytes (by rw [Bd.returns]; exact hty) hq hlo hd hlocks
        · exact W.vret Bd.exec Bd.bytes (by rw [Bd.returns]; exact hty) hq hlo hd hlocks
      · intro ρ2 N2 w2 pc ls st q m2 H2 locs2 lsC stA hs hR2
        have hs : zyanyB (fun x => zand (zyxpB mi x w2 pc ls st m2) (zymrB mi m2.1 (rkx i))) (xs i) = true := hs
        obtain ⟨x, hx, hxb⟩ := zyanyB_iff hs
        obtain ⟨hxb, hxr⟩ := zand_iff hxb
        obtain ⟨e1, e3, e2, hXs, hI2⟩ := zyxp_iff (X := zyre (B, ρ, (φ i).2.2.1.length, ρ, (φ i).2.2.1.length, (zyEl mi B H, fun q => H[q]?), zyJ0) ρ2 N2) (P := (mi, tb i, fp i, [], sp i)) rfl hR2.1.1 hR2.1.2.2.2 hR2.2.1 hxb
        have hout2 : zyOut mi B s.heap H2 := fun q hq => (hR2.2.1.2.2.2.2.2 q hq).trans (hout q hq)
        have hq1 : q.1 = dep := hR2.2.2.2.2.2.1
        have hq2 : q.2.1 ≤ en.2.2.2.2.2.1 := hR2.2.2.2.2.2.2.1
        have hq3 : q.2.2 ≤ en.2.2.2.2.2.2.1 := hR2.2.2.2.2.2.2.2
        have eq2 : q.2.1 = 0 := by omega
        have eq3 : q.2.2 = 0 := by omega
        rw [eq2, eq3, e1]
        have hck := List.all_eq_true.mp (hckX i) x hx
        have hXi := xXs_of (v := fun k => xI (ρ2 k)) (fun k => rfl) hXs hck
        have hFr2 : xFr (fp i) (zyEl mi B H) (zyEl mi B H2) := fun a k hf => hR2.2.1.2.2.1 a k hf
        have hag : ∀ k, k < (φ i).2.2.1.length → xI (ρ2 k) = vv k := fun k hk => by rw [← hρv]; exact congrArg xI (hR2.1.2.2.1.2 k hk)
        refine hstop (x0) s _ hRu hx0 hT0 hΦ i vv H (zyTy_of hIH) hrv hInv hKc hFr0 ?_ x hx ρ2 (fun k => xI (ρ2 k)) N2 H2 locs2 lsC stA ⟨hI2, hout2, hR2.2.2.1, ⟨hR2.2.2.2.1.2.1, hR2.2.2.2.1.2.2.1⟩, fun i c hc hn => hR2.2.2.2.1.2.2.2 i c (e3.2 i c hc hn) hn, ?_⟩ hXs.2.1 (fun k => rfl) (fun k => xI_r _) hXi hag hFr2 (xFr_trans hFr0 (xFr_mono (hfp i) hFr2)) (zyTy_of hI2) (zymrB_iff (P := (mi, tb i, fp i, [], sp i)) hR2.2.1 hxr)
        · intro i2 v' H3 locs3 lsD stB3 hI3 hout3 hFr3 hrv3 hInv3 hSs3 hmu
          exact IH _ (by rw [← hM]; exact hmu) i2 v' H3 locs3 lsD stB3 hI3 hout3 hFr3 hrv3 hInv3 hSs3 rfl
        · rw [← e2]
          exact zySt_map (X := zyre (B, ρ, (φ i).2.2.1.length, ρ, (φ i).2.2.1.length, (zyEl mi B H, fun q => H[q]?), zyJ0) ρ2 N2) (X2 := zyXn B ρ2 N2) (fun v w h => h) hR2.2.2.2.2.1
  obtain ⟨b0, b1⟩ := h0 (zyEl mi B s.heap) hT0 hΦ
  obtain ⟨p0, p1, p2, p3⟩ := hi0
  have hSs : zySs mi B en.2.2.1 (φ i0) (fun k => Int32.ofInt (v0 k)) s.heap [] lsA [] → W p l e { frames := dep, cells := en.2.2.2.2.2.1, slots := en.2.2.2.2.2.2.1, locals := 64 * dep } s mt (As).toArray below meth c s.heap [] 0 0 (MQ below (zyHq mi B (fun E E2 vo => xFr fpm E E2 ∧ ∃ z : Int32, vo = (if rt = true then some (.int z) else none) ∧ Ψ x0 E E2 (xI z))) (As).toArray s en.2.2.2.2.2.1 en.2.2.2.2.2.2.1 (fun q => zbs B ≤ q)) (F0 mt 0 lsA []) := fun h => by
    have hfin := claim _ i0 _ s.heap [] lsA [] hI (fun q _ => rfl) xFr_refl hrv0 b1 h rfl
    rw [p0] at hfin
    exact hfin
  refine hSs ⟨fun x hx => (by cases hx), ⟨hent.1, hent.2.1⟩, ⟨p1, fun i c hc hn => ?_⟩, xEnv_z hrv0 b0, ?_, ?_⟩
  · obtain ⟨w, q1, q2⟩ := hA i c hc hn
    exact ⟨w, hent.2.2 (i, w) q1, q2⟩
  · rw [p3]
    trivial
  · rw [p2]
    exact fun p hp => by cases hp
theorem xcutr {l : Launch} {mi : zyB} {B : zCx} {y0 : Nat} {en : zEn} {me : zMe} (hOK : zOK y0 en me) (hc0 : en.2.2.2.2.2.1 = 0) (hs0 : en.2.2.2.2.2.2.1 = 0) {dep na : Nat} {ps : List Nat} {fpm : zyR} {rt : Bool} {Φ : (Nat → Int) → zyEm → Prop} {Ψ : (Nat → Int) → zyEm → zyEm → Int → Prop} {ι : Type} (φ : ι → zyPh) (tb : ι → Nat → List zyCt) (fp : ι → zyR) (sp : ι → Nat) (xs rs : ι → List zyXp) (rkx rkr : ι → List (Nat × Nat)) (hCon : ∀ i, zyCons l (mi, tb i, fp i, [], sp i) zyJ0) (n : Nat)
    (hrun : ∀ i, zyok (zybtR mi (rs i) (rkr i)) (mi, tb i, fp i, [], sp i) (zystR mi (xs i) (rkx i)) n (zyln (φ i).2.2.1, (φ i).2.2.1) en.1 en.2.2.2.2 (φ i).1 (φ i).2.1 (φ i).2.2.2.2 (dep, 0, 0) [] ((φ i).2.2.2.1, []) = true)
    (hfp : ∀ i, xsubR (fp i) fpm = true) (hckX : ∀ i, (xs i).all xckX = true) (hckR : ∀ i, (rs i).all (fun x => xckX x && xrtB rt x) = true)
    (i0 : ι) (hi0 : (φ i0).1 = 0 ∧ (φ i0).2.1 = xL0 ps na en.2.2.1 ∧ (φ i0).2.2.2.1 = [] ∧ (φ i0).2.2.2.2 = []) (hna : ps.length + na ≤ en.2.2.1 ∧ ps.length + na ≤ (φ i0).2.2.1.length)
    (Inv : ι → (Nat → Int) → zyEm → (Nat → Int) → zyEm → Prop) (Mu : ι → (Nat → Int) → zyEm → (Nat → Int) → zyEm → Nat)
    (h0 : ∀ (x : Nat → Int) (E : zyEm), xRg x → zyTy mi E → Φ x E → xEnv (xv0 ps.length x) (φ i0).2.2.1 ∧ Inv i0 x E (xv0 ps.length x) E)
    (hstop : ∀ (x0 : Nat → Int) (s : State) (Wg : zyWt), xRu l mi en dep B s Wg → xRg x0 → zyTy mi (zyEl mi B s.heap) → Φ x0 (zyEl mi B s.heap) → ∀ (i : ι) (v : Nat → Int) (H : Heap), zyTy mi (zyEl mi B H) → xRg v → Inv i x0 (zyEl mi B s.heap) v (zyEl mi B H) → xKc (φ i).2.2.2.1 v (zyEl mi B H) → xFr fpm (zyEl mi B s.heap) (zyEl mi B H) → xIH mi en.2.2.1 B s fpm φ (fun i => Inv i x0 (zyEl mi B s.heap)) (fun i => Mu i x0 (zyEl mi B s.heap)) (Mu i x0 (zyEl mi B s.heap) v (zyEl mi B H)) Wg →
      ∀ x ∈ xs i, ∀ (ρ2 : Nat → Int32) (v2 : Nat → Int) (N2 : Nat) (H2 : Heap) (locs : List Loc) (lsB : Array Slot) (stA : List Value), zyAt mi B s en.2.2.1 x ρ2 N2 H2 locs lsB stA → xBd ρ2 x.2.2.2.2.1 → (∀ k, xI (ρ2 k) = v2 k) → xRg v2 → xXs x v2 (zyEl mi B H) (zyEl mi B H2) → (∀ k, k < (φ i).2.2.1.length → v2 k = v k) → xFr (fp i) (zyEl mi B H) (zyEl mi B H2) → xFr fpm (zyEl mi B s.heap) (zyEl mi B H2) → zyTy mi (zyEl mi B H2) → xRk B (rkx i) (zyEl mi B H2) → Wg H2 locs x.1 lsB stA)
    (hret : ∀ (x0 : Nat → Int) (E0 E E2 : zyEm), xRg x0 → zyTy mi E0 → Φ x0 E0 → ∀ (i : ι) (v : Nat → Int), zyTy mi E → xRg v → Inv i x0 E0 v E → xKc (φ i).2.2.2.1 v E → xFr fpm E0 E → ∀ x ∈ rs i, ∀ (v2 : Nat → Int), xRg v2 → xXs x v2 E E2 → (∀ k, k < (φ i).2.2.1.length → v2 k = v k) → xFr (fp i) E E2 → xFr fpm E0 E2 → zyTy mi E2 → xRk B (rkr i) E2 → Ψ x0 E0 E2 (xrv x.2.2.1 v2)) : xFcB l mi B en me dep ps na fpm rt Φ Ψ := by
  intro as has
  have hx0 : xRg (xfv (as.map xI)) := fun k => by rw [xfv_map]; exact xI_r _
  have hll : (lg_sl (xAg B ps as)).length = ps.length + na := by
    unfold xAg
    rw [xrefs_len, zylg_len, has]
  refine xcutR (As := xAg B ps as) (x0 := xfv (as.map xI)) (v0 := xv0 ps.length (xfv (as.map xI))) hOK hc0 hs0 hx0 (xv0_r hx0 _) φ tb fp sp xs rs rkx rkr hCon n hrun hfp hckX hckR i0 ⟨hi0.1, ?_, hi0.2.2⟩ (by rw [hll]; exact hna.1) (fun i c hc hn => ?_) Inv Mu (fun E => h0 _ E hx0) hstop hret
  · rw [hi0.2.1]
    unfold xL0
    rw [List.length_append, List.length_map, zyL0a_len]
    omega
  · rw [hi0.2.1] at hc
    unfold xL0 at hc
    by_cases hi : i < ps.length
    · rw [List.getElem?_append_left (by rw [List.length_map]; exact hi), List.getElem?_map] at hc
      obtain ⟨p, hp⟩ : ∃ p, ps[i]? = some p := ⟨ps[i], List.getElem?_eq_getElem hi⟩
      rw [hp] at hc
      have hc : some (8 * p + 3) = some c := hc
      cases hc
      have hm := xrefs_mem (B := B) (r := as.map Value.int) (o := 0) hp
      rw [Nat.zero_add] at hm
      exact ⟨.ref (zad B p), hm, Or.inl ⟨Or.inr (Or.inr (Or.inr (Or.inl ⟨by omega, by rw [show (8 * p + 3) / 8 = p by omega]⟩))), fun q => by omega, fun q => by omega⟩⟩
    · rw [List.getElem?_append_right (by rw [List.length_map]; omega), List.length_map] at hc
      obtain ⟨q1, q2⟩ := zyL0a_get hc hn
      obtain ⟨x, hx⟩ : ∃ x, as[i - ps.length]? = some x := ⟨as[i - ps.length]'(by omega), List.getElem?_eq_getElem (by omega)⟩
      refine ⟨.int x, ?_, ?_⟩
      · have hm := zyargs_mem (o := ps.length) hx
        rw [show ps.length + (i - ps.length) = i by omega] at hm
        exact xrefs_mem2 (o := 0) (by rw [Nat.zero_add]; exact hm)
      · rw [q2, show ps.length + (i - ps.length) = i by omega]
        refine zyv_sym (by omega) ?_
        have e1 : xv0 ps.length (xfv (as.map xI)) i = xI x := by
          have := xv0_ge (x := xfv (as.map xI)) (m := ps.length) (k := i - ps.length)
          rw [show ps.length + (i - ps.length) = i by omega, xfv_map, hx] at this
          exact this
        show Int32.ofInt (xv0 ps.length (xfv (as.map xI)) i) = x
        rw [e1]
        exact xofI x
end
section
/-! THE CLASS: load (printed by m14.py) -/
noncomputable def zxfld18_zx0 : zyXp := (0, [3, 34359738369, 13], [], [], [], [])
noncomputable def zpfld18_z : zyPh := (0, [3, 34359738369, 13], [(0, 4294967295), (0, 4294967295), (0, 4294967295)], [], [])
noncomputable def zxfld18_ax0 : zyXp := (30, [3, 13, 13], [147, 34359738369, 283], [(21, 0, 34359738369, 0), (24, 103079215105, 35, 8), (21, 0, 103079215105, 34359738369)], [(34359738369, 2147483648, 2147484548), (103079215105, 2147483648, 2147484548)], [])
noncomputable def zxfld18_ar0 : zyXp := (0, [], [34359738360], [(20, 0, 34359738369, 0)], [(34359738369, 0, 2147483647)], [(0, 8)])
noncomputable def zxfld18_ar1 : zyXp := (0, [], [34359738360], [(21, 0, 34359738369, 0), (24, 103079215105, 35, 8), (20, 0, 103079215105, 34359738369)], [(34359738369, 2147483649, 4294967295), (103079215105, 2147483648, 2147484548)], [(0, 8)])
noncomputable def zpfld18_a : zyPh := (0, [3, 34359738369, 13], [(0, 4294967295), (0, 4294967295), (0, 4294967295)], [(1, 11), (2, 147)], [])
noncomputable def zxfld18_bx0 : zyXp := (69, [3, 13, 13], [147, 315], [(23, 0, 103079215105, 0)], [(103079215105, 2147483649, 2147483649)], [])
noncomputable def zxfld18_br0 : zyXp := (0, [], [34359738360], [(22, 0, 103079215105, 0)], [(103079215105, 2147483648, 2147483648)], [(0, 72)])
noncomputable def zpfld18_b : zyPh := (33, [3, 13, 13], [(0, 4294967295), (0, 4294967295), (0, 4294967295), (2147483648, 2147483649)], [(1, 11), (2, 147)], [103079215105])
noncomputable def zxfld18_cr0 : zyXp := (0, [], [103079215105], [(24, 103079215105, 19, 16)], [(103079215105, 2147483648, 2147483728)], [(0, 0), (1097728, 0), (606209, 0)])
noncomputable def zpfld18_c : zyPh := (72, [3, 13, 13], [(0, 4294967295), (0, 4294967295), (0, 4294967295)], [(1, 147), (2, 11)], [])
noncomputable def zpfld18 (i : Nat) : zyPh := zif (Nat.beq i 0) (zpfld18_z) (zif (Nat.beq i 1) (zpfld18_a) (zif (Nat.beq i 2) (zpfld18_b) (zpfld18_c)))
noncomputable def zXfld18 (i : Nat) : List zyXp := zif (Nat.beq i 0) ([zxfld18_zx0]) (zif (Nat.beq i 1) ([zxfld18_ax0]) (zif (Nat.beq i 2) ([zxfld18_bx0]) ([])))
noncomputable def zRfld18 (i : Nat) : List zyXp := zif (Nat.beq i 0) ([]) (zif (Nat.beq i 1) ([zxfld18_ar0, zxfld18_ar1]) (zif (Nat.beq i 2) ([zxfld18_br0]) ([zxfld18_cr0])))
noncomputable def zFfld18 (i : Nat) : zyR := zif (Nat.beq i 0) ([]) (zif (Nat.beq i 1) ([(0, 0, 0)]) (zif (Nat.beq i 2) ([(0, 0, 2)]) ([(0, 0, 0), (67, 0, 0), (37, 1, 1)])))
noncomputable def zSfld18 (i : Nat) : Nat := zif (Nat.beq i 0) (0) (zif (Nat.beq i 1) (0) (zif (Nat.beq i 2) (0) (0)))
theorem xAb17_bg {E E2 : zyEm} {S : Int → Int} (h : xAb17 E S) (hf : xFr [(0, 0, 2), (67, 0, 0), (37, 1, 1), (39, 0, 1), (45, 1, 1), (40, 0, 7), (42, 0, 7)] E E2)   : xAb17 E2 S := by
  obtain ⟨a0, a1, a2, a3, a4, a5, a6⟩ := h
  refine ⟨a0, ?_, ?_, ?_, ?_, ?_, ?_⟩
  · rw [(show xE E2 19 0 = xE E 19 0 from xFr_E hf rfl), (show xE E2 19 1 = xE E 19 1 from xFr_E hf rfl), (show xE E2 19 2 = xE E 19 2 from xFr_E hf rfl), (show xE E2 19 3 = xE E 19 3 from xFr_E hf rfl)]
    exact a1
  · intro s s0 s1
    rw [(show xE E2 21 s = xE E 21 s from xFr_E hf rfl)]
    exact a2 s s0 s1
  · rw [(show xE E2 18 5 = xE E 18 5 from xFr_E hf rfl)]
    refine ⟨a3.1, fun k k0 k1 => ?_⟩
    rw [(show xE E2 31 k = xE E 31 k from xFr_E hf rfl), (show xE E2 32 k = xE E 32 k from xFr_E hf rfl)]
    exact a3.2 k k0 k1
  · intro k k0 k1
    rw [(show xE E2 27 k = xE E 27 k from xFr_E hf rfl), (show xE E2 28 k = xE E 28 k from xFr_E hf rfl), (show xE E2 29 k = xE E 29 k from xFr_E hf rfl), (show xE E2 30 k = xE E 30 k from xFr_E hf rfl)]
    exact a4 k k0 k1
  · rw [(show xE E2 18 8 = xE E 18 8 from xFr_E hf rfl), (show xE E2 33 1 = xE E 33 1 from xFr_E hf rfl)]
    exact a5
  · intro k k0 k1
    rw [(show xE E2 34 k = xE E 34 k from xFr_E hf rfl)]
    exact a6 k k0 k1
theorem xGeo17_bg {E E2 : zyEm} {r c : Nat} (h : xGeo17 E r c) (hf : xFr [(0, 0, 2), (67, 0, 0), (37, 1, 1), (39, 0, 1), (45, 1, 1), (40, 0, 7), (42, 0, 7)] E E2) : xGeo17 E2 r c := by
  refine ⟨fun s hs => ?_, fun g hg => ?_⟩
  · rw [(show xE E2 20 s = xE E 20 s from xFr_E hf rfl), (show xE E2 21 s = xE E 21 s from xFr_E hf rfl), (show xE E2 22 s = xE E 22 s from xFr_E hf rfl), (show xE E2 23 s = xE E 23 s from xFr_E hf rfl), (show xE E2 24 s = xE E 24 s from xFr_E hf rfl)]
    exact h.1 s hs
  · rw [(show xE E2 25 g = xE E 25 g from xFr_E hf rfl), (show xE E2 26 g = xE E 26 g from xFr_E hf rfl)]
    exact h.2 g hg
theorem xOutA17_0 {R : pR} {E2 : zyEm} {r : Int} (h : xOutA17 R E2 r) (hr : r = 0) : ∃ w a, R = .error (w, a) ∧ xE E2 35 2 = w ∧ xE E2 35 3 = a := by
  cases R with
  | error e => exact ⟨e.1, e.2, rfl, h.2⟩
  | ok x =>
    have h1 : r = 1 := h.1
    omega
theorem xOutA17_1 {R : pR} {E2 : zyEm} {r : Int} (h : xOutA17 R E2 r) (hr : ¬ r = 0) : ∃ p S, R = .ok (p, S) ∧ xAb17 E2 S := by
  cases R with
  | error e => exact absurd h.1 hr
  | ok x => exact ⟨x.1, x.2, rfl, h.2⟩
theorem xOutA17_r {R : pR} {E2 : zyEm} {r : Int} (h : xOutA17 R E2 r) : r = 0 ∨ r = 1 := by
  cases R with
  | error e => exact Or.inl h.1
  | ok x => exact Or.inr h.1
def xΦld18 (B : zCx) (_ : Nat → Int) (E : zyEm) : Prop := E 0 1 = some (.ref (zad B 1)) ∧ E 0 2 = some (.ref (zad B 18))
/-- load, spare at 18 -/
def xΨld18 (B : zCx) (x : Nat → Int) (E E2 : zyEm) (r : Int) : Prop := (if 0 ≤ x 0 ∧ x 0 ≤ xE E 35 1 then (match pAll (xE E 36) (x 0) with
  | .ok (_, S) => r = sN (S 0) (S 1) ∧ xE E2 0 0 = 0 ∧ E2 0 1 = some (.ref (zad B 18)) ∧ E2 0 2 = some (.ref (zad B 1)) ∧ xAb17 E2 S ∧ xGeo17 E2 (S 0).toNat (S 1).toNat
  | .error (w, a) => r = -1 ∧ xE E2 0 0 = 9 ∧ E2 0 1 = some (.ref (zad B 1)) ∧ E2 0 2 = some (.ref (zad B 18)) ∧ xE E2 35 2 = w ∧ xE E2 35 3 = a) ∧ xE E2 35 1 = 0
  else r = -1 ∧ xE E2 0 0 = 1 ∧ xE E2 35 1 = xE E 35 1 ∧ E2 0 1 = some (.ref (zad B 1)) ∧ E2 0 2 = some (.ref (zad B 18))) ∧ xJk17 E E2
noncomputable def fpfld18 : zyR := [(0, 0, 2), (67, 0, 0), (37, 1, 1), (39, 0, 1), (45, 1, 1), (40, 0, 7), (42, 0, 7), (35, 1, 8), (18, 5, 5), (18, 8, 8), (19, 0, 3), (20, 0, 79), (21, 0, 79), (22, 0, 79), (23, 0, 79), (24, 0, 79), (25, 0, 30), (26, 0, 30), (27, 0, 30), (28, 0, 30), (29, 0, 30), (30, 0, 30), (33, 1, 1), (34, 0, 59), (31, 0, 7), (32, 0, 7)]
noncomputable def rkxfld18 (i : Nat) : List (Nat × Nat) := zif (Nat.beq i 0) ([]) (zif (Nat.beq i 1) ([(1, 11), (2, 147)]) (zif (Nat.beq i 2) ([(1, 147), (2, 11)]) ([])))
noncomputable def rkrfld18 (i : Nat) : List (Nat × Nat) := zif (Nat.beq i 0) ([]) (zif (Nat.beq i 1) ([(1, 11), (2, 147)]) (zif (Nat.beq i 2) ([(1, 11), (2, 147)]) ([(1, 147), (2, 11)])))
theorem zyfld18_run : zyrR zymc zxi121 (121, 0, 0, 1, 0) 12 zpfld18 (fun _ _ => []) zFfld18 zSfld18 zXfld18 zRfld18 rkxfld18 rkrfld18 4 = true := by decide +kernel
theorem zyfld18_ck : zyAll (fun i => xsubR (zFfld18 i) fpfld18 && ((zXfld18 i).all xckX && (zRfld18 i).all (fun x => xckX x && xrtB true x))) 4 = true := by decide +kernel
def xIfld18 (i : Nat) (x0 : Nat → Int) (E0 : zyEm) (v : Nat → Int) (E : zyEm) : Prop := if i = 0 then (E = E0 ∧ (v 1) = x0 0) else if i = 1 then (E = E0 ∧ (v 1) = x0 0) else if i = 2 then ((0 ≤ x0 0 ∧ x0 0 ≤ xE E0 35 1) ∧ xOutA17 (pAll (xE E0 36) (x0 0)) E (v 3) ∧ xJk17 E0 E ∧ (∀ p S, pAll (xE E0 36) (x0 0) = .ok (p, S) → xGeo17 E (S 0).toNat (S 1).toNat) ∧ xE E 35 1 = 0) else ((0 ≤ x0 0 ∧ x0 0 ≤ xE E0 35 1) ∧ ∃ p S, pAll (xE E0 36) (x0 0) = .ok (p, S) ∧ xAb17 E S ∧ xGeo17 E (S 0).toNat (S 1).toNat ∧ xJk17 E0 E ∧ xE E 35 1 = 0)
def xMfld18 (i : Nat) (x0 : Nat → Int) (E0 : zyEm) (v : Nat → Int) (E : zyEm) : Nat := if i = 0 then (4) else if i = 1 then (3) else if i = 2 then (2) else (1)
theorem xLd18 {l : Launch} {en : zEn} {me : zMe} (hen : zG zxMeta 121 = some en) (hme : zG zMeth 121 = some me) : ∀ B, xFcB l zymc B en me 12 [0] 1 fpfld18 true (xΦld18 B) (xΨld18 B) := by
  have een : zG zxMeta 121 = some (zxi121, 2, 3, 10, 121, 0, 0, 1, 0) := rfl
  obtain ⟨me1, hme1, hOK⟩ := zall hen
  rw [hme] at hme1
  cases hme1
  rw [een] at hen
  cases hen
  have hr := zyfld18_run
  have hck := fun i hi => zyAll_iff zyfld18_ck i hi
  simp only [Bool.and_eq_true] at hck
  obtain ⟨mefra17, hmefra17, -⟩ := zall (show zG zxMeta 58 = some (zxi58, 3, 4, 5, 58, 0, 0, 2, 0) from rfl)
  have hfra17 := xRa17 (l := l) (show zG zxMeta 58 = some (zxi58, 3, 4, 5, 58, 0, 0, 2, 0) from rfl) hmefra17
  obtain ⟨mefbg17, hmefbg17, -⟩ := zall (show zG zxMeta 86 = some (zxi86, 2, 3, 7, 86, 0, 0, 0, 0) from rfl)
  have hfbg17 := xBg17 (l := l) (show zG zxMeta 86 = some (zxi86, 2, 3, 7, 86, 0, 0, 0, 0) from rfl) hmefbg17
  intro B
  refine xcutr (mi := zymc) (B := B) hOK rfl rfl (ι := Fin 4) (fun i => zpfld18 i.val) (fun _ _ => []) (fun i => zFfld18 i.val) (fun i => zSfld18 i.val) (fun i => zXfld18 i.val) (fun i => zRfld18 i.val) (fun i => rkxfld18 i.val) (fun i => rkrfld18 i.val) (fun i y2 ct en2 me2 h => by cases h) 200000 (fun i => zyAll_iff hr i.val i.isLt) (fun i => (hck i.val i.isLt).1) (fun i => (hck i.val i.isLt).2.1) (fun i => (hck i.val i.isLt).2.2) ⟨0, by decide⟩ ⟨rfl, rfl, rfl, rfl⟩ ⟨by decide, by decide⟩ (fun i x0 E0 v E => xIfld18 i.val x0 E0 v E) (fun i x0 E0 v E => xMfld18 i.val x0 E0 v E) ?_ ?_ ?_
  · intro x0 E hx0 hT hΦ
    have hΦ : (xΦld18 B) x0 E := hΦ
    refine ⟨fun k p hp => ?_, ?_⟩
    · have hk : k < 3 := (List.getElem?_eq_some_iff.mp hp).1
      have hk : k = 0 ∨ k = 1 ∨ k = 2 := by omega
      rcases hk with rfl | rfl | rfl
      · have hp : some (0, 4294967295) = some p := hp
        cases hp
        show ((0 : Nat) : Int) ≤ 0 + 2147483648 ∧ 0 + 2147483648 ≤ ((4294967295 : Nat) : Int)
        omega
      · have hp : some (0, 4294967295) = some p := hp
        cases hp
        show ((0 : Nat) : Int) ≤ x0 0 + 2147483648 ∧ x0 0 + 2147483648 ≤ ((4294967295 : Nat) : Int)
        have hx := hx0 0
        omega
      · have hp : some (0, 4294967295) = some p := hp
        cases hp
        show ((0 : Nat) : Int) ≤ x0 1 + 2147483648 ∧ x0 1 + 2147483648 ≤ ((4294967295 : Nat) : Int)
        have hx := hx0 1
        omega
    · show E = E ∧ (x0 0) = x0 0
      exact ⟨rfl, rfl⟩
  · intro x0 s Wg hRu hrx hT0 hΦ i v H hT hrv hInv hKc hFr0 hIH x hx ρ2 v2 N2 H2 locs lsB stA hAt hB hv hr2 hXs hag hfr hFr hT2 hRk
    rcases i with ⟨i, hi⟩
    have hi2 : i = 0 ∨ i = 1 ∨ i = 2 ∨ i = 3 := by omega
    rcases hi2 with rfl | rfl | rfl | rfl
    · have hx : x ∈ [zxfld18_zx0] := hx
      have hag : ∀ k, k < 3 → v2 k = v k := hag
      have hfr : xFr [] _ _ := hfr
      have hRk : xRk B [] _ := hRk
      have ex := List.mem_singleton.mp hx
      subst ex
      obtain ⟨hF, hBd, hM⟩ := hXs
      have r1 := hr2 1
      have g1 : v2 1 = v 1 := hag 1 (by decide)
      have e35_1 : xE (zyEl zymc B H2) 35 1 = xE (zyEl zymc B H) 35 1 := xFr_E hfr rfl
      have e35_2 : xE (zyEl zymc B H2) 35 2 = xE (zyEl zymc B H) 35 2 := xFr_E hfr rfl
      have e35_3 : xE (zyEl zymc B H2) 35 3 = xE (zyEl zymc B H) 35 3 := xFr_E hfr rfl
      have e19_2 : xE (zyEl zymc B H2) 19 2 = xE (zyEl zymc B H) 19 2 := xFr_E hfr rfl
      have e36 : ∀ i, xE (zyEl zymc B H2) 36 i = xE (zyEl zymc B H) 36 i := fun i => xFr_E hfr rfl
      have q36 : ∀ i, xE (zyEl zymc B H) 36 i = xE (zyEl zymc B s.heap) 36 i := fun i => xFr_E hFr0 rfl
      have e21 : ∀ i, xE (zyEl zymc B H2) 21 i = xE (zyEl zymc B H) 21 i := fun i => xFr_E hfr rfl
      have e22 : ∀ i, xE (zyEl zymc B H2) 22 i = xE (zyEl zymc B H) 22 i := fun i => xFr_E hfr rfl
      have hI : (zyEl zymc B H) = (zyEl zymc B s.heap) ∧ (v 1) = x0 0 := hInv
      have q35_1 : xE (zyEl zymc B H) 35 1 = xE (zyEl zymc B s.heap) 35 1 := by rw [hI.1]
      have q35_2 : xE (zyEl zymc B H) 35 2 = xE (zyEl zymc B s.heap) 35 2 := by rw [hI.1]
      have q35_3 : xE (zyEl zymc B H) 35 3 = xE (zyEl zymc B s.heap) 35 3 := by rw [hI.1]
      have q19_2 : xE (zyEl zymc B H) 19 2 = xE (zyEl zymc B s.heap) 19 2 := by rw [hI.1]
      have q21 : ∀ i, xE (zyEl zymc B H) 21 i = xE (zyEl zymc B s.heap) 21 i := fun i => by rw [hI.1]
      have q22 : ∀ i, xE (zyEl zymc B H) 22 i = xE (zyEl zymc B s.heap) 22 i := fun i => by rw [hI.1]
      refine xGo hIH hAt hB hv hFr ⟨1, by decide⟩ [0, 34359738369, 0] [0, (v2 1), 0] rfl ⟨by decide +kernel, ⟨rfl, by decide +kernel⟩, (xcs_c rfl (xcs_c rfl (xcs_c rfl xcs_n))), (xe_0 (xe_f (by omega) (xe_0 xe_n))), (xkq_r 0 1 1 rfl rfl rfl rfl rfl (by rw [xFr_n hfr, hI.1]; exact hΦ.1) (xkq_r 0 2 18 rfl rfl rfl rfl rfl (by rw [xFr_n hfr, hI.1]; exact hΦ.2) xkq_n))⟩ xst_n ?_ ?_
      · show (zyEl zymc B H2) = (zyEl zymc B s.heap) ∧ ((v2 1) : Int) = x0 0
        exact ⟨(xFr_n hfr).trans hI.1, by omega⟩
      · show 3 < 4
        omega
    · have hx : x ∈ [zxfld18_ax0] := hx
      have hag : ∀ k, k < 3 → v2 k = v k := hag
      have hfr : xFr [(0, 0, 0)] _ _ := hfr
      have hRk : xRk B [(1, 11), (2, 147)] _ := hRk
      have ex := List.mem_singleton.mp hx
      subst ex
      obtain ⟨hF, hBd, hM⟩ := hXs
      have g1 : v2 1 = v 1 := hag 1 (by decide)
      have b0 : ((2147483648 : Nat) : Int) ≤ (v2 1) + 2147483648 ∧ (v2 1) + 2147483648 ≤ ((2147484548 : Nat) : Int) := xXb hBd 0 rfl
      have b1 : ((2147483648 : Nat) : Int) ≤ (v2 3) + 2147483648 ∧ (v2 3) + 2147483648 ≤ ((2147484548 : Nat) : Int) := xXb hBd 1 rfl
      have f0 : 0 ≤ (v2 1) := xXf hF 0 rfl
      have f1 : (0 : Int) ≤ 1 ∧ xE (zyEl zymc B H) 35 1 = (v2 3) := xXf hF 1 rfl
      have f2 : (v2 1) ≤ (v2 3) := xXf hF 2 rfl
      have e35_1 : xE (zyEl zymc B H2) 35 1 = xE (zyEl zymc B H) 35 1 := xFr_E hfr rfl
      have e35_2 : xE (zyEl zymc B H2) 35 2 = xE (zyEl zymc B H) 35 2 := xFr_E hfr rfl
      have e35_3 : xE (zyEl zymc B H2) 35 3 = xE (zyEl zymc B H) 35 3 := xFr_E hfr rfl
      have e19_2 : xE (zyEl zymc B H2) 19 2 = xE (zyEl zymc B H) 19 2 := xFr_E hfr rfl
      have e36 : ∀ i, xE (zyEl zymc B H2) 36 i = xE (zyEl zymc B H) 36 i := fun i => xFr_E hfr rfl
      have q36 : ∀ i, xE (zyEl zymc B H) 36 i = xE (zyEl zymc B s.heap) 36 i := fun i => xFr_E hFr0 rfl
      have e21 : ∀ i, xE (zyEl zymc B H2) 21 i = xE (zyEl zymc B H) 21 i := fun i => xFr_E hfr rfl
      have e22 : ∀ i, xE (zyEl zymc B H2) 22 i = xE (zyEl zymc B H) 22 i := fun i => xFr_E hfr rfl
      have hI : (zyEl zymc B H) = (zyEl zymc B s.heap) ∧ (v 1) = x0 0 := hInv
      have q35_1 : xE (zyEl zymc B H) 35 1 = xE (zyEl zymc B s.heap) 35 1 := by rw [hI.1]
      have q35_2 : xE (zyEl zymc B H) 35 2 = xE (zyEl zymc B s.heap) 35 2 := by rw [hI.1]
      have q35_3 : xE (zyEl zymc B H) 35 3 = xE (zyEl zymc B s.heap) 35 3 := by rw [hI.1]
      have q19_2 : xE (zyEl zymc B H) 19 2 = xE (zyEl zymc B s.heap) 19 2 := by rw [hI.1]
      have q21 : ∀ i, xE (zyEl zymc B H) 21 i = xE (zyEl zymc B s.heap) 21 i := fun i => by rw [hI.1]
      have q22 : ∀ i, xE (zyEl zymc B H) 22 i = xE (zyEl zymc B s.heap) 22 i := fun i => by rw [hI.1]
      have o1 := xRk_g hRk 0 rfl
      have o2 := xRk_g hRk 1 rfl
      have o1 : (zyEl zymc B H2) 0 1 = some (.ref (zad B 1)) := o1
      have o2 : (zyEl zymc B H2) 0 2 = some (.ref (zad B 18)) := o2
      have tt : xE (zyEl zymc B H2) 36 = xE (zyEl zymc B s.heap) 36 := funext fun i => (e36 i).trans (q36 i)
      refine xCaq hRu hIH hAt hB hv hFr (hfra17 B) (ix := 101) (ax := 929) rfl rfl rfl hmefra17 ⟨_, rfl, rfl, by decide⟩ ⟨rfl, rfl, rfl⟩ (by decide) 34359738369 [] (v2 1) rfl (by decide +kernel) rfl (by decide +kernel) ?_ (fun H3 r hT3 hf3 hFr3 hr3 hΨ3 => ?_)
      · show xΦra17 (xfv [(v2 1)]) (zyEl zymc B H2)
        exact ⟨by show 0 ≤ (v2 1); omega, by show (v2 1) ≤ 900; omega⟩
      · have hΨ3 : xΨra17 (xfv [(v2 1)]) (zyEl zymc B H2) (zyEl zymc B H3) r := hΨ3
        have d36 : ∀ i, xE (zyEl zymc B H3) 36 i = xE (zyEl zymc B H2) 36 i := fun i => xFr_E hf3 rfl
        have hx : xfv [(v2 1)] 0 = x0 0 := by show (v2 1) = _; omega
        obtain ⟨w1, w2, w3, w4⟩ := hΨ3
        rw [tt, hx] at w1 w3
        have hr01 := xOutA17_r w1
        refine ⟨⟨2, by decide⟩, [0, 0, 0], [0, 0, 0, r], rfl, ⟨by decide +kernel, ⟨rfl, by decide +kernel⟩, (xcs_c rfl (xcs_c rfl (xcs_c rfl xcs_n))), (xe_0 (xe_0 (xe_0 (xe_c (by omega) (by omega) rfl xe_n)))), (xkq_r 0 1 1 rfl rfl rfl rfl rfl ((hf3 0 1 rfl).trans o1) (xkq_r 0 2 18 rfl rfl rfl rfl rfl ((hf3 0 2 rfl).trans o2) xkq_n))⟩, (by rw [if_pos rfl]; exact ⟨3, [], rfl, by decide, rfl, xst_n⟩), ?_, ?_⟩
        · show (0 ≤ x0 0 ∧ x0 0 ≤ xE (zyEl zymc B s.heap) 35 1) ∧ xOutA17 (pAll (xE (zyEl zymc B s.heap) 36) (x0 0)) (zyEl zymc B H3) (r : Int) ∧ xJk17 (zyEl zymc B s.heap) (zyEl zymc B H3) ∧ (∀ p S, pAll (xE (zyEl zymc B s.heap) 36) (x0 0) = .ok (p, S) → xGeo17 (zyEl zymc B H3) (S 0).toNat (S 1).toNat) ∧ xE (zyEl zymc B H3) 35 1 = 0
          refine ⟨by omega, w1, fun i i0 i1 => ?_, w3, w4⟩
          have w := w2 i i0 i1
          rw [e21 i, q21 i, e22 i, q22 i] at w
          exact w
        · show 2 < 3
          omega
    · have hx : x ∈ [zxfld18_bx0] := hx
      have hag : ∀ k, k < 4 → v2 k = v k := hag
      have hfr : xFr [(0, 0, 2)] _ _ := hfr
      have hRk : xRk B [(1, 147), (2, 11)] _ := hRk
      have ex := List.mem_singleton.mp hx
      subst ex
      obtain ⟨hF, hBd, hM⟩ := hXs
      have g3 : v2 3 = v 3 := hag 3 (by decide)
      have b0 : ((2147483649 : Nat) : Int) ≤ (v2 3) + 2147483648 ∧ (v2 3) + 2147483648 ≤ ((2147483649 : Nat) : Int) := xXb hBd 0 rfl
      have f0 : ¬ (v2 3) = 0 := xXf hF 0 rfl
      have e35_1 : xE (zyEl zymc B H2) 35 1 = xE (zyEl zymc B H) 35 1 := xFr_E hfr rfl
      have e35_2 : xE (zyEl zymc B H2) 35 2 = xE (zyEl zymc B H) 35 2 := xFr_E hfr rfl
      have e35_3 : xE (zyEl zymc B H2) 35 3 = xE (zyEl zymc B H) 35 3 := xFr_E hfr rfl
      have e19_2 : xE (zyEl zymc B H2) 19 2 = xE (zyEl zymc B H) 19 2 := xFr_E hfr rfl
      have e36 : ∀ i, xE (zyEl zymc B H2) 36 i = xE (zyEl zymc B H) 36 i := fun i => xFr_E hfr rfl
      have q36 : ∀ i, xE (zyEl zymc B H) 36 i = xE (zyEl zymc B s.heap) 36 i := fun i => xFr_E hFr0 rfl
      have e21 : ∀ i, xE (zyEl zymc B H2) 21 i = xE (zyEl zymc B H) 21 i := fun i => xFr_E hfr rfl
      have e22 : ∀ i, xE (zyEl zymc B H2) 22 i = xE (zyEl zymc B H) 22 i := fun i => xFr_E hfr rfl
      have hI : (0 ≤ x0 0 ∧ x0 0 ≤ xE (zyEl zymc B s.heap) 35 1) ∧ xOutA17 (pAll (xE (zyEl zymc B s.heap) 36) (x0 0)) (zyEl zymc B H) (v 3) ∧ xJk17 (zyEl zymc B s.heap) (zyEl zymc B H) ∧ (∀ p S, pAll (xE (zyEl zymc B s.heap) 36) (x0 0) = .ok (p, S) → xGeo17 (zyEl zymc B H) (S 0).toNat (S 1).toNat) ∧ xE (zyEl zymc B H) 35 1 = 0 := hInv
      obtain ⟨i0, i1, ij, i2, i3⟩ := hI
      rw [show (v 3) = v2 3 by omega] at i1
      have o1 := xRk_g hRk 0 rfl
      have o2 := xRk_g hRk 1 rfl
      have o1 : (zyEl zymc B H2) 0 1 = some (.ref (zad B 18)) := o1
      have o2 : (zyEl zymc B H2) 0 2 = some (.ref (zad B 1)) := o2
      obtain ⟨pp, S, e1, e2⟩ := xOutA17_1 i1 (by omega)
      refine xCa hRu hIH hAt hB hv hFr (hfbg17 B) (ix := 82) (ax := 1377) rfl rfl rfl hmefbg17 ⟨_, rfl, rfl, by decide⟩ ⟨rfl, rfl, rfl⟩ (by decide) [] [] [] rfl ⟨rfl, rfl⟩ (by decide +kernel) xcs_n (by decide +kernel) ?_ (fun H3 r hT3 hf3 hFr3 hr3 hΨ3 => ?_)
      · show xΦ0 (xfv []) (zyEl zymc B H2)
        exact trivial
      · have hΨ3 : xΨ0 (xfv []) (zyEl zymc B H2) (zyEl zymc B H3) r := hΨ3
        have d35_1 : xE (zyEl zymc B H3) 35 1 = xE (zyEl zymc B H2) 35 1 := xFr_E hf3 rfl
        have d35_2 : xE (zyEl zymc B H3) 35 2 = xE (zyEl zymc B H2) 35 2 := xFr_E hf3 rfl
        have d35_3 : xE (zyEl zymc B H3) 35 3 = xE (zyEl zymc B H2) 35 3 := xFr_E hf3 rfl
        have d19_2 : xE (zyEl zymc B H3) 19 2 = xE (zyEl zymc B H2) 19 2 := xFr_E hf3 rfl
        have d36 : ∀ i, xE (zyEl zymc B H3) 36 i = xE (zyEl zymc B H2) 36 i := fun i => xFr_E hf3 rfl
        have d21 : ∀ i, xE (zyEl zymc B H3) 21 i = xE (zyEl zymc B H2) 21 i := fun i => xFr_E hf3 rfl
        have d22 : ∀ i, xE (zyEl zymc B H3) 22 i = xE (zyEl zymc B H2) 22 i := fun i => xFr_E hf3 rfl
        skip
        refine ⟨⟨3, by decide⟩, [0, 0, 0], [0, 0, 0], rfl, ⟨by decide +kernel, ⟨rfl, by decide +kernel⟩, (xcs_c rfl (xcs_c rfl (xcs_c rfl xcs_n))), (xe_0 (xe_0 (xe_0 xe_n))), (xkq_r 0 1 18 rfl rfl rfl rfl rfl ((hf3 0 1 rfl).trans o1) (xkq_r 0 2 1 rfl rfl rfl rfl rfl ((hf3 0 2 rfl).trans o2) xkq_n))⟩, (by rw [if_neg (by decide)]; exact xst_n), ?_, ?_⟩
        · show (0 ≤ x0 0 ∧ x0 0 ≤ xE (zyEl zymc B s.heap) 35 1) ∧ ∃ p S, pAll (xE (zyEl zymc B s.heap) 36) (x0 0) = .ok (p, S) ∧ xAb17 (zyEl zymc B H3) S ∧ xGeo17 (zyEl zymc B H3) (S 0).toNat (S 1).toNat ∧ xJk17 (zyEl zymc B s.heap) (zyEl zymc B H3) ∧ xE (zyEl zymc B H3) 35 1 = 0
          exact ⟨i0, pp, S, e1, xAb17_bg e2 (xFr_trans (xFr_mono (by decide) hfr) (xFr_mono (by decide) hf3)), xGeo17_bg (i2 _ _ e1) (xFr_trans (xFr_mono (by decide) hfr) (xFr_mono (by decide) hf3)), fun i i0 i1 => by have w := ij i i0 i1; rw [d21 i, e21 i, d22 i, e22 i]; exact w, by omega⟩
        · show 1 < 2
          omega
    · cases hx
  · intro x0 E0 E E2 hrx hT0 hΦ i v hT hrv hInv hKc hFr0 x hx v2 hr2 hXs hag hfr hFr hT2 hRk
    rcases i with ⟨i, hi⟩
    have hi2 : i = 0 ∨ i = 1 ∨ i = 2 ∨ i = 3 := by omega
    rcases hi2 with rfl | rfl | rfl | rfl
    · cases hx
    · have hx : x ∈ [zxfld18_ar0, zxfld18_ar1] := hx
      have hag : ∀ k, k < 3 → v2 k = v k := hag
      have hfr : xFr [(0, 0, 0)] _ _ := hfr
      have hRk : xRk B [(1, 11), (2, 147)] _ := hRk
      rcases List.mem_cons.mp hx with ex | hx
      · subst ex
        obtain ⟨hF, hBd, hM⟩ := hXs
        have g1 : v2 1 = v 1 := hag 1 (by decide)
        have b0 : ((0 : Nat) : Int) ≤ (v2 1) + 2147483648 ∧ (v2 1) + 2147483648 ≤ ((2147483647 : Nat) : Int) := xXb hBd 0 rfl
        have f0 : (v2 1) < 0 := xXf hF 0 rfl
        have m0 : xE E2 0 0 = 1 := xXm hM 0 rfl
        have e35_1 : xE E2 35 1 = xE E 35 1 := xFr_E hfr rfl
        have e35_2 : xE E2 35 2 = xE E 35 2 := xFr_E hfr rfl
        have e35_3 : xE E2 35 3 = xE E 35 3 := xFr_E hfr rfl
        have e19_2 : xE E2 19 2 = xE E 19 2 := xFr_E hfr rfl
        have e36 : ∀ i, xE E2 36 i = xE E 36 i := fun i => xFr_E hfr rfl
        have q36 : ∀ i, xE E 36 i = xE E0 36 i := fun i => xFr_E hFr0 rfl
        have e21 : ∀ i, xE E2 21 i = xE E 21 i := fun i => xFr_E hfr rfl
        have e22 : ∀ i, xE E2 22 i = xE E 22 i := fun i => xFr_E hfr rfl
        have hI : E = E0 ∧ (v 1) = x0 0 := hInv
        have q35_1 : xE E 35 1 = xE E0 35 1 := by rw [hI.1]
        have q35_2 : xE E 35 2 = xE E0 35 2 := by rw [hI.1]
        have q35_3 : xE E 35 3 = xE E0 35 3 := by rw [hI.1]
        have q19_2 : xE E 19 2 = xE E0 19 2 := by rw [hI.1]
        have q21 : ∀ i, xE E 21 i = xE E0 21 i := fun i => by rw [hI.1]
        have q22 : ∀ i, xE E 22 i = xE E0 22 i := fun i => by rw [hI.1]
        show (xΨld18 B) x0 E0 E2 (-1)
        have o1 := xRk_g hRk 0 rfl
        have o2 := xRk_g hRk 1 rfl
        have o1 : E2 0 1 = some (.ref (zad B 1)) := o1
        have o2 : E2 0 2 = some (.ref (zad B 18)) := o2
        unfold xΨld18
        rw [if_neg (by omega)]
        exact ⟨⟨by omega, by omega, by omega, o1, o2⟩, fun i i0 i1 => Or.inl ⟨by rw [e21 i, q21 i], by rw [e22 i, q22 i]⟩⟩
      · skip
        have ex := List.mem_singleton.mp hx
        subst ex
        obtain ⟨hF, hBd, hM⟩ := hXs
        have g1 : v2 1 = v 1 := hag 1 (by decide)
        have b0 : ((2147483649 : Nat) : Int) ≤ (v2 1) + 2147483648 ∧ (v2 1) + 2147483648 ≤ ((4294967295 : Nat) : Int) := xXb hBd 0 rfl
        have b1 : ((2147483648 : Nat) : Int) ≤ (v2 3) + 2147483648 ∧ (v2 3) + 2147483648 ≤ ((2147484548 : Nat) : Int) := xXb hBd 1 rfl
        have f0 : 0 ≤ (v2 1) := xXf hF 0 rfl
        have f1 : (0 : Int) ≤ 1 ∧ xE E 35 1 = (v2 3) := xXf hF 1 rfl
        have f2 : (v2 3) < (v2 1) := xXf hF 2 rfl
        have m0 : xE E2 0 0 = 1 := xXm hM 0 rfl
        have e35_1 : xE E2 35 1 = xE E 35 1 := xFr_E hfr rfl
        have e35_2 : xE E2 35 2 = xE E 35 2 := xFr_E hfr rfl
        have e35_3 : xE E2 35 3 = xE E 35 3 := xFr_E hfr rfl
        have e19_2 : xE E2 19 2 = xE E 19 2 := xFr_E hfr rfl
        have e36 : ∀ i, xE E2 36 i = xE E 36 i := fun i => xFr_E hfr rfl
        have q36 : ∀ i, xE E 36 i = xE E0 36 i := fun i => xFr_E hFr0 rfl
        have e21 : ∀ i, xE E2 21 i = xE E 21 i := fun i => xFr_E hfr rfl
        have e22 : ∀ i, xE E2 22 i = xE E 22 i := fun i => xFr_E hfr rfl
        have hI : E = E0 ∧ (v 1) = x0 0 := hInv
        have q35_1 : xE E 35 1 = xE E0 35 1 := by rw [hI.1]
        have q35_2 : xE E 35 2 = xE E0 35 2 := by rw [hI.1]
        have q35_3 : xE E 35 3 = xE E0 35 3 := by rw [hI.1]
        have q19_2 : xE E 19 2 = xE E0 19 2 := by rw [hI.1]
        have q21 : ∀ i, xE E 21 i = xE E0 21 i := fun i => by rw [hI.1]
        have q22 : ∀ i, xE E 22 i = xE E0 22 i := fun i => by rw [hI.1]
        show (xΨld18 B) x0 E0 E2 (-1)
        have o1 := xRk_g hRk 0 rfl
        have o2 := xRk_g hRk 1 rfl
        have o1 : E2 0 1 = some (.ref (zad B 1)) := o1
        have o2 : E2 0 2 = some (.ref (zad B 18)) := o2
        unfold xΨld18
        rw [if_neg (by omega)]
        exact ⟨⟨by omega, by omega, by omega, o1, o2⟩, fun i i0 i1 => Or.inl ⟨by rw [e21 i, q21 i], by rw [e22 i, q22 i]⟩⟩
    · have hx : x ∈ [zxfld18_br0] := hx
      have hag : ∀ k, k < 4 → v2 k = v k := hag
      have hfr : xFr [(0, 0, 2)] _ _ := hfr
      have hRk : xRk B [(1, 11), (2, 147)] _ := hRk
      have ex := List.mem_singleton.mp hx
      subst ex
      obtain ⟨hF, hBd, hM⟩ := hXs
      have g3 : v2 3 = v 3 := hag 3 (by decide)
      have b0 : ((2147483648 : Nat) : Int) ≤ (v2 3) + 2147483648 ∧ (v2 3) + 2147483648 ≤ ((2147483648 : Nat) : Int) := xXb hBd 0 rfl
      have f0 : (v2 3) = 0 := xXf hF 0 rfl
      have m0 : xE E2 0 0 = 9 := xXm hM 0 rfl
      have e35_1 : xE E2 35 1 = xE E 35 1 := xFr_E hfr rfl
      have e35_2 : xE E2 35 2 = xE E 35 2 := xFr_E hfr rfl
      have e35_3 : xE E2 35 3 = xE E 35 3 := xFr_E hfr rfl
      have e19_2 : xE E2 19 2 = xE E 19 2 := xFr_E hfr rfl
      have e36 : ∀ i, xE E2 36 i = xE E 36 i := fun i => xFr_E hfr rfl
      have q36 : ∀ i, xE E 36 i = xE E0 36 i := fun i => xFr_E hFr0 rfl
      have e21 : ∀ i, xE E2 21 i = xE E 21 i := fun i => xFr_E hfr rfl
      have e22 : ∀ i, xE E2 22 i = xE E 22 i := fun i => xFr_E hfr rfl
      have hI : (0 ≤ x0 0 ∧ x0 0 ≤ xE E0 35 1) ∧ xOutA17 (pAll (xE E0 36) (x0 0)) E (v 3) ∧ xJk17 E0 E ∧ (∀ p S, pAll (xE E0 36) (x0 0) = .ok (p, S) → xGeo17 E (S 0).toNat (S 1).toNat) ∧ xE E 35 1 = 0 := hInv
      show (xΨld18 B) x0 E0 E2 (-1)
      obtain ⟨i0, i1, ij, i2, i3⟩ := hI
      rw [show (v 3) = v2 3 by omega] at i1
      have o1 := xRk_g hRk 0 rfl
      have o2 := xRk_g hRk 1 rfl
      have o1 : E2 0 1 = some (.ref (zad B 1)) := o1
      have o2 : E2 0 2 = some (.ref (zad B 18)) := o2
      obtain ⟨w, a, e1, e2, e3⟩ := xOutA17_0 i1 (by omega)
      unfold xΨld18
      rw [if_pos i0, e1]
      exact ⟨⟨⟨by omega, by omega, o1, o2, by omega, by omega⟩, by omega⟩, fun i i0 i1 => by have w := ij i i0 i1; rw [e21 i, e22 i]; exact w⟩
    · have hx : x ∈ [zxfld18_cr0] := hx
      have hag : ∀ k, k < 3 → v2 k = v k := hag
      have hfr : xFr [(0, 0, 0), (67, 0, 0), (37, 1, 1)] _ _ := hfr
      have hRk : xRk B [(1, 147), (2, 11)] _ := hRk
      have ex := List.mem_singleton.mp hx
      subst ex
      obtain ⟨hF, hBd, hM⟩ := hXs
      have b0 : ((2147483648 : Nat) : Int) ≤ (v2 3) + 2147483648 ∧ (v2 3) + 2147483648 ≤ ((2147483728 : Nat) : Int) := xXb hBd 0 rfl
      have f0 : (0 : Int) ≤ 2 ∧ xE E 19 2 = (v2 3) := xXf hF 0 rfl
      have m0 : xE E2 0 0 = 0 := xXm hM 0 rfl
      have m1 : xE E2 67 0 = 0 := xXm hM 1 rfl
      have m2 : xE E2 37 1 = 0 := xXm hM 2 rfl
      have e35_1 : xE E2 35 1 = xE E 35 1 := xFr_E hfr rfl
      have e35_2 : xE E2 35 2 = xE E 35 2 := xFr_E hfr rfl
      have e35_3 : xE E2 35 3 = xE E 35 3 := xFr_E hfr rfl
      have e19_2 : xE E2 19 2 = xE E 19 2 := xFr_E hfr rfl
      have e36 : ∀ i, xE E2 36 i = xE E 36 i := fun i => xFr_E hfr rfl
      have q36 : ∀ i, xE E 36 i = xE E0 36 i := fun i => xFr_E hFr0 rfl
      have e21 : ∀ i, xE E2 21 i = xE E 21 i := fun i => xFr_E hfr rfl
      have e22 : ∀ i, xE E2 22 i = xE E 22 i := fun i => xFr_E hfr rfl
      have hI : (0 ≤ x0 0 ∧ x0 0 ≤ xE E0 35 1) ∧ ∃ p S, pAll (xE E0 36) (x0 0) = .ok (p, S) ∧ xAb17 E S ∧ xGeo17 E (S 0).toNat (S 1).toNat ∧ xJk17 E0 E ∧ xE E 35 1 = 0 := hInv
      show (xΨld18 B) x0 E0 E2 (v2 3)
      obtain ⟨i0, pp, S, i1, i2, i3, ij, i4⟩ := hI
      have o1 := xRk_g hRk 0 rfl
      have o2 := xRk_g hRk 1 rfl
      have o1 : E2 0 1 = some (.ref (zad B 18)) := o1
      have o2 : E2 0 2 = some (.ref (zad B 1)) := o2
      have hs := i2.2.1.2.2.1
      unfold xΨld18
      rw [if_pos i0, i1]
      exact ⟨⟨⟨by omega, by omega, o1, o2, xAb17_bg i2 (xFr_mono (by decide) hfr), xGeo17_bg i3 (xFr_mono (by decide) hfr)⟩, by omega⟩, fun i i0 i1 => by have w := ij i i0 i1; rw [e21 i, e22 i]; exact w⟩
noncomputable def zxfld1_zx0 : zyXp := (0, [3, 34359738369, 13], [], [], [], [])
noncomputable def zpfld1_z : zyPh := (0, [3, 34359738369, 13], [(0, 4294967295), (0, 4294967295), (0, 4294967295)], [], [])
noncomputable def zxfld1_ax0 : zyXp := (30, [3, 13, 13], [11, 34359738369, 283], [(21, 0, 34359738369, 0), (24, 103079215105, 35, 8), (21, 0, 103079215105, 34359738369)], [(34359738369, 2147483648, 2147484548), (103079215105, 2147483648, 2147484548)], [])
noncomputable def zxfld1_ar0 : zyXp := (0, [], [34359738360], [(20, 0, 34359738369, 0)], [(34359738369, 0, 2147483647)], [(0, 8)])
noncomputable def zxfld1_ar1 : zyXp := (0, [], [34359738360], [(21, 0, 34359738369, 0), (24, 103079215105, 35, 8), (20, 0, 103079215105, 34359738369)], [(34359738369, 2147483649, 4294967295), (103079215105, 2147483648, 2147484548)], [(0, 8)])
noncomputable def zpfld1_a : zyPh := (0, [3, 34359738369, 13], [(0, 4294967295), (0, 4294967295), (0, 4294967295)], [(1, 147), (2, 11)], [])
noncomputable def zxfld1_bx0 : zyXp := (69, [3, 13, 13], [11, 315], [(23, 0, 103079215105, 0)], [(103079215105, 2147483649, 2147483649)], [])
noncomputable def zxfld1_br0 : zyXp := (0, [], [34359738360], [(22, 0, 103079215105, 0)], [(103079215105, 2147483648, 2147483648)], [(0, 72)])
noncomputable def zpfld1_b : zyPh := (33, [3, 13, 13], [(0, 4294967295), (0, 4294967295), (0, 4294967295), (2147483648, 2147483649)], [(1, 147), (2, 11)], [103079215105])
noncomputable def zxfld1_cr0 : zyXp := (0, [], [103079215105], [(24, 103079215105, 2, 16)], [(103079215105, 2147483648, 2147483728)], [(0, 0), (1097728, 0), (606209, 0)])
noncomputable def zpfld1_c : zyPh := (72, [3, 13, 13], [(0, 4294967295), (0, 4294967295), (0, 4294967295)], [(1, 11), (2, 147)], [])
noncomputable def zpfld1 (i : Nat) : zyPh := zif (Nat.beq i 0) (zpfld1_z) (zif (Nat.beq i 1) (zpfld1_a) (zif (Nat.beq i 2) (zpfld1_b) (zpfld1_c)))
noncomputable def zXfld1 (i : Nat) : List zyXp := zif (Nat.beq i 0) ([zxfld1_zx0]) (zif (Nat.beq i 1) ([zxfld1_ax0]) (zif (Nat.beq i 2) ([zxfld1_bx0]) ([])))
noncomputable def zRfld1 (i : Nat) : List zyXp := zif (Nat.beq i 0) ([]) (zif (Nat.beq i 1) ([zxfld1_ar0, zxfld1_ar1]) (zif (Nat.beq i 2) ([zxfld1_br0]) ([zxfld1_cr0])))
noncomputable def zFfld1 (i : Nat) : zyR := zif (Nat.beq i 0) ([]) (zif (Nat.beq i 1) ([(0, 0, 0)]) (zif (Nat.beq i 2) ([(0, 0, 2)]) ([(0, 0, 0), (67, 0, 0), (37, 1, 1)])))
noncomputable def zSfld1 (i : Nat) : Nat := zif (Nat.beq i 0) (0) (zif (Nat.beq i 1) (0) (zif (Nat.beq i 2) (0) (0)))
theorem xAb0_bg {E E2 : zyEm} {S : Int → Int} (h : xAb0 E S) (hf : xFr [(0, 0, 2), (67, 0, 0), (37, 1, 1), (39, 0, 1), (45, 1, 1), (40, 0, 7), (42, 0, 7)] E E2)   : xAb0 E2 S := by
  obtain ⟨a0, a1, a2, a3, a4, a5, a6⟩ := h
  refine ⟨a0, ?_, ?_, ?_, ?_, ?_, ?_⟩
  · rw [(show xE E2 2 0 = xE E 2 0 from xFr_E hf rfl), (show xE E2 2 1 = xE E 2 1 from xFr_E hf rfl), (show xE E2 2 2 = xE E 2 2 from xFr_E hf rfl), (show xE E2 2 3 = xE E 2 3 from xFr_E hf rfl)]
    exact a1
  · intro s s0 s1
    rw [(show xE E2 4 s = xE E 4 s from xFr_E hf rfl)]
    exact a2 s s0 s1
  · rw [(show xE E2 1 5 = xE E 1 5 from xFr_E hf rfl)]
    refine ⟨a3.1, fun k k0 k1 => ?_⟩
    rw [(show xE E2 14 k = xE E 14 k from xFr_E hf rfl), (show xE E2 15 k = xE E 15 k from xFr_E hf rfl)]
    exact a3.2 k k0 k1
  · intro k k0 k1
    rw [(show xE E2 10 k = xE E 10 k from xFr_E hf rfl), (show xE E2 11 k = xE E 11 k from xFr_E hf rfl), (show xE E2 12 k = xE E 12 k from xFr_E hf rfl), (show xE E2 13 k = xE E 13 k from xFr_E hf rfl)]
    exact a4 k k0 k1
  · rw [(show xE E2 1 8 = xE E 1 8 from xFr_E hf rfl), (show xE E2 16 1 = xE E 16 1 from xFr_E hf rfl)]
    exact a5
  · intro k k0 k1
    rw [(show xE E2 17 k = xE E 17 k from xFr_E hf rfl)]
    exact a6 k k0 k1
theorem xGeo0_bg {E E2 : zyEm} {r c : Nat} (h : xGeo0 E r c) (hf : xFr [(0, 0, 2), (67, 0, 0), (37, 1, 1), (39, 0, 1), (45, 1, 1), (40, 0, 7), (42, 0, 7)] E E2) : xGeo0 E2 r c := by
  refine ⟨fun s hs => ?_, fun g hg => ?_⟩
  · rw [(show xE E2 3 s = xE E 3 s from xFr_E hf rfl), (show xE E2 4 s = xE E 4 s from xFr_E hf rfl), (show xE E2 5 s = xE E 5 s from xFr_E hf rfl), (show xE E2 6 s = xE E 6 s from xFr_E hf rfl), (show xE E2 7 s = xE E 7 s from xFr_E hf rfl)]
    exact h.1 s hs
  · rw [(show xE E2 8 g = xE E 8 g from xFr_E hf rfl), (show xE E2 9 g = xE E 9 g from xFr_E hf rfl)]
    exact h.2 g hg
theorem xOutA0_0 {R : pR} {E2 : zyEm} {r : Int} (h : xOutA0 R E2 r) (hr : r = 0) : ∃ w a, R = .error (w, a) ∧ xE E2 35 2 = w ∧ xE E2 35 3 = a := by
  cases R with
  | error e => exact ⟨e.1, e.2, rfl, h.2⟩
  | ok x =>
    have h1 : r = 1 := h.1
    omega
theorem xOutA0_1 {R : pR} {E2 : zyEm} {r : Int} (h : xOutA0 R E2 r) (hr : ¬ r = 0) : ∃ p S, R = .ok (p, S) ∧ xAb0 E2 S := by
  cases R with
  | error e => exact absurd h.1 hr
  | ok x => exact ⟨x.1, x.2, rfl, h.2⟩
theorem xOutA0_r {R : pR} {E2 : zyEm} {r : Int} (h : xOutA0 R E2 r) : r = 0 ∨ r = 1 := by
  cases R with
  | error e => exact Or.inl h.1
  | ok x => exact Or.inr h.1
def xΦld1 (B : zCx) (_ : Nat → Int) (E : zyEm) : Prop := E 0 1 = some (.ref (zad B 18)) ∧ E 0 2 = some (.ref (zad B 1))
/-- load, spare at 1 -/
def xΨld1 (B : zCx) (x : Nat → Int) (E E2 : zyEm) (r : Int) : Prop := (if 0 ≤ x 0 ∧ x 0 ≤ xE E 35 1 then (match pAll (xE E 36) (x 0) with
  | .ok (_, S) => r = sN (S 0) (S 1) ∧ xE E2 0 0 = 0 ∧ E2 0 1 = some (.ref (zad B 1)) ∧ E2 0 2 = some (.ref (zad B 18)) ∧ xAb0 E2 S ∧ xGeo0 E2 (S 0).toNat (S 1).toNat
  | .error (w, a) => r = -1 ∧ xE E2 0 0 = 9 ∧ E2 0 1 = some (.ref (zad B 18)) ∧ E2 0 2 = some (.ref (zad B 1)) ∧ xE E2 35 2 = w ∧ xE E2 35 3 = a) ∧ xE E2 35 1 = 0
  else r = -1 ∧ xE E2 0 0 = 1 ∧ xE E2 35 1 = xE E 35 1 ∧ E2 0 1 = some (.ref (zad B 18)) ∧ E2 0 2 = some (.ref (zad B 1))) ∧ xJk0 E E2
noncomputable def fpfld1 : zyR := [(0, 0, 2), (67, 0, 0), (37, 1, 1), (39, 0, 1), (45, 1, 1), (40, 0, 7), (42, 0, 7), (35, 1, 8), (1, 5, 5), (1, 8, 8), (2, 0, 3), (3, 0, 79), (4, 0, 79), (5, 0, 79), (6, 0, 79), (7, 0, 79), (8, 0, 30), (9, 0, 30), (10, 0, 30), (11, 0, 30), (12, 0, 30), (13, 0, 30), (16, 1, 1), (17, 0, 59), (14, 0, 7), (15, 0, 7)]
noncomputable def rkxfld1 (i : Nat) : List (Nat × Nat) := zif (Nat.beq i 0) ([]) (zif (Nat.beq i 1) ([(1, 147), (2, 11)]) (zif (Nat.beq i 2) ([(1, 11), (2, 147)]) ([])))
noncomputable def rkrfld1 (i : Nat) : List (Nat × Nat) := zif (Nat.beq i 0) ([]) (zif (Nat.beq i 1) ([(1, 147), (2, 11)]) (zif (Nat.beq i 2) ([(1, 147), (2, 11)]) ([(1, 11), (2, 147)])))
theorem zyfld1_run : zyrR zymc zxi121 (121, 0, 0, 1, 0) 12 zpfld1 (fun _ _ => []) zFfld1 zSfld1 zXfld1 zRfld1 rkxfld1 rkrfld1 4 = true := by decide +kernel
theorem zyfld1_ck : zyAll (fun i => xsubR (zFfld1 i) fpfld1 && ((zXfld1 i).all xckX && (zRfld1 i).all (fun x => xckX x && xrtB true x))) 4 = true := by decide +kernel
def xIfld1 (i : Nat) (x0 : Nat → Int) (E0 : zyEm) (v : Nat → Int) (E : zyEm) : Prop := if i = 0 then (E = E0 ∧ (v 1) = x0 0) else if i = 1 then (E = E0 ∧ (v 1) = x0 0) else if i = 2 then ((0 ≤ x0 0 ∧ x0 0 ≤ xE E0 35 1) ∧ xOutA0 (pAll (xE E0 36) (x0 0)) E (v 3) ∧ xJk0 E0 E ∧ (∀ p S, pAll (xE E0 36) (x0 0) = .ok (p, S) → xGeo0 E (S 0).toNat (S 1).toNat) ∧ xE E 35 1 = 0) else ((0 ≤ x0 0 ∧ x0 0 ≤ xE E0 35 1) ∧ ∃ p S, pAll (xE E0 36) (x0 0) = .ok (p, S) ∧ xAb0 E S ∧ xGeo0 E (S 0).toNat (S 1).toNat ∧ xJk0 E0 E ∧ xE E 35 1 = 0)
def xMfld1 (i : Nat) (x0 : Nat → Int) (E0 : zyEm) (v : Nat → Int) (E : zyEm) : Nat := if i = 0 then (4) else if i = 1 then (3) else if i = 2 then (2) else (1)
theorem xLd1 {l : Launch} {en : zEn} {me : zMe} (hen : zG zxMeta 121 = some en) (hme : zG zMeth 121 = some me) : ∀ B, xFcB l zymc B en me 12 [0] 1 fpfld1 true (xΦld1 B) (xΨld1 B) := by
  have een : zG zxMeta 121 = some (zxi121, 2, 3, 10, 121, 0, 0, 1, 0) := rfl
  obtain ⟨me1, hme1, hOK⟩ := zall hen
  rw [hme] at hme1
  cases hme1
  rw [een] at hen
  cases hen
  have hr := zyfld1_run
  have hck := fun i hi => zyAll_iff zyfld1_ck i hi
  simp only [Bool.and_eq_true] at hck
  obtain ⟨mefra0, hmefra0, -⟩ := zall (show zG zxMeta 58 = some (zxi58, 3, 4, 5, 58, 0, 0, 2, 0) from rfl)
  have hfra0 := xRa0 (l := l) (show zG zxMeta 58 = some (zxi58, 3, 4, 5, 58, 0, 0, 2, 0) from rfl) hmefra0
  obtain ⟨mefbg0, hmefbg0, -⟩ := zall (show zG zxMeta 86 = some (zxi86, 2, 3, 7, 86, 0, 0, 0, 0) from rfl)
  have hfbg0 := xBg0 (l := l) (show zG zxMeta 86 = some (zxi86, 2, 3, 7, 86, 0, 0, 0, 0) from rfl) hmefbg0
  intro B
  refine xcutr (mi := zymc) (B := B) hOK rfl rfl (ι := Fin 4) (fun i => zpfld1 i.val) (fun _ _ => []) (fun i => zFfld1 i.val) (fun i => zSfld1 i.val) (fun i => zXfld1 i.val) (fun i => zRfld1 i.val) (fun i => rkxfld1 i.val) (fun i => rkrfld1 i.val) (fun i y2 ct en2 me2 h => by cases h) 200000 (fun i => zyAll_iff hr i.val i.isLt) (fun i => (hck i.val i.isLt).1) (fun i => (hck i.val i.isLt).2.1) (fun i => (hck i.val i.isLt).2.2) ⟨0, by decide⟩ ⟨rfl, rfl, rfl, rfl⟩ ⟨by decide, by decide⟩ (fun i x0 E0 v E => xIfld1 i.val x0 E0 v E) (fun i x0 E0 v E => xMfld1 i.val x0 E0 v E) ?_ ?_ ?_
  · intro x0 E hx0 hT hΦ
    have hΦ : (xΦld1 B) x0 E := hΦ
    refine ⟨fun k p hp => ?_, ?_⟩
    · have hk : k < 3 := (List.getElem?_eq_some_iff.mp hp).1
      have hk : k = 0 ∨ k = 1 ∨ k = 2 := by omega
      rcases hk with rfl | rfl | rfl
      · have hp : some (0, 4294967295) = some p := hp
        cases hp
        show ((0 : Nat) : Int) ≤ 0 + 2147483648 ∧ 0 + 2147483648 ≤ ((4294967295 : Nat) : Int)
        omega
      · have hp : some (0, 4294967295) = some p := hp
        cases hp
        show ((0 : Nat) : Int) ≤ x0 0 + 2147483648 ∧ x0 0 + 2147483648 ≤ ((4294967295 : Nat) : Int)
        have hx := hx0 0
        omega
      · have hp : some (0, 4294967295) = some p := hp
        cases hp
        show ((0 : Nat) : Int) ≤ x0 1 + 2147483648 ∧ x0 1 + 2147483648 ≤ ((4294967295 : Nat) : Int)
        have hx := hx0 1
        omega
    · show E = E ∧ (x0 0) = x0 0
      exact ⟨rfl, rfl⟩
  · intro x0 s Wg hRu hrx hT0 hΦ i v H hT hrv hInv hKc hFr0 hIH x hx ρ2 v2 N2 H2 locs lsB stA hAt hB hv hr2 hXs hag hfr hFr hT2 hRk
    rcases i with ⟨i, hi⟩
    have hi2 : i = 0 ∨ i = 1 ∨ i = 2 ∨ i = 3 := by omega
    rcases hi2 with rfl | rfl | rfl | rfl
    · have hx : x ∈ [zxfld1_zx0] := hx
      have hag : ∀ k, k < 3 → v2 k = v k := hag
      have hfr : xFr [] _ _ := hfr
      have hRk : xRk B [] _ := hRk
      have ex := List.mem_singleton.mp hx
      subst ex
      obtain ⟨hF, hBd, hM⟩ := hXs
      have r1 := hr2 1
      have g1 : v2 1 = v 1 := hag 1 (by decide)
      have e35_1 : xE (zyEl zymc B H2) 35 1 = xE (zyEl zymc B H) 35 1 := xFr_E hfr rfl
      have e35_2 : xE (zyEl zymc B H2) 35 2 = xE (zyEl zymc B H) 35 2 := xFr_E hfr rfl
      have e35_3 : xE (zyEl zymc B H2) 35 3 = xE (zyEl zymc B H) 35 3 := xFr_E hfr rfl
      have e2_2 : xE (zyEl zymc B H2) 2 2 = xE (zyEl zymc B H) 2 2 := xFr_E hfr rfl
      have e36 : ∀ i, xE (zyEl zymc B H2) 36 i = xE (zyEl zymc B H) 36 i := fun i => xFr_E hfr rfl
      have q36 : ∀ i, xE (zyEl zymc B H) 36 i = xE (zyEl zymc B s.heap) 36 i := fun i => xFr_E hFr0 rfl
      have e4 : ∀ i, xE (zyEl zymc B H2) 4 i = xE (zyEl zymc B H) 4 i := fun i => xFr_E hfr rfl
      have e5 : ∀ i, xE (zyEl zymc B H2) 5 i = xE (zyEl zymc B H) 5 i := fun i => xFr_E hfr rfl
      have hI : (zyEl zymc B H) = (zyEl zymc B s.heap) ∧ (v 1) = x0 0 := hInv
      have q35_1 : xE (zyEl zymc B H) 35 1 = xE (zyEl zymc B s.heap) 35 1 := by rw [hI.1]
      have q35_2 : xE (zyEl zymc B H) 35 2 = xE (zyEl zymc B s.heap) 35 2 := by rw [hI.1]
      have q35_3 : xE (zyEl zymc B H) 35 3 = xE (zyEl zymc B s.heap) 35 3 := by rw [hI.1]
      have q2_2 : xE (zyEl zymc B H) 2 2 = xE (zyEl zymc B s.heap) 2 2 := by rw [hI.1]
      have q4 : ∀ i, xE (zyEl zymc B H) 4 i = xE (zyEl zymc B s.heap) 4 i := fun i => by rw [hI.1]
      have q5 : ∀ i, xE (zyEl zymc B H) 5 i = xE (zyEl zymc B s.heap) 5 i := fun i => by rw [hI.1]
      refine xGo hIH hAt hB hv hFr ⟨1, by decide⟩ [0, 34359738369, 0] [0, (v2 1), 0] rfl ⟨by decide +kernel, ⟨rfl, by decide +kernel⟩, (xcs_c rfl (xcs_c rfl (xcs_c rfl xcs_n))), (xe_0 (xe_f (by omega) (xe_0 xe_n))), (xkq_r 0 1 18 rfl rfl rfl rfl rfl (by rw [xFr_n hfr, hI.1]; exact hΦ.1) (xkq_r 0 2 1 rfl rfl rfl rfl rfl (by rw [xFr_n hfr, hI.1]; exact hΦ.2) xkq_n))⟩ xst_n ?_ ?_
      · show (zyEl zymc B H2) = (zyEl zymc B s.heap) ∧ ((v2 1) : Int) = x0 0
        exact ⟨(xFr_n hfr).trans hI.1, by omega⟩
      · show 3 < 4
        omega
    · have hx : x ∈ [zxfld1_ax0] := hx
      have hag : ∀ k, k < 3 → v2 k = v k := hag
      have hfr : xFr [(0, 0, 0)] _ _ := hfr
      have hRk : xRk B [(1, 147), (2, 11)] _ := hRk
      have ex := List.mem_singleton.mp hx
      subst ex
      obtain ⟨hF, hBd, hM⟩ := hXs
      have g1 : v2 1 = v 1 := hag 1 (by decide)
      have b0 : ((2147483648 : Nat) : Int) ≤ (v2 1) + 2147483648 ∧ (v2 1) + 2147483648 ≤ ((2147484548 : Nat) : Int) := xXb hBd 0 rfl
      have b1 : ((2147483648 : Nat) : Int) ≤ (v2 3) + 2147483648 ∧ (v2 3) + 2147483648 ≤ ((2147484548 : Nat) : Int) := xXb hBd 1 rfl
      have f0 : 0 ≤ (v2 1) := xXf hF 0 rfl
      have f1 : (0 : Int) ≤ 1 ∧ xE (zyEl zymc B H) 35 1 = (v2 3) := xXf hF 1 rfl
      have f2 : (v2 1) ≤ (v2 3) := xXf hF 2 rfl
      have e35_1 : xE (zyEl zymc B H2) 35 1 = xE (zyEl zymc B H) 35 1 := xFr_E hfr rfl
      have e35_2 : xE (zyEl zymc B H2) 35 2 = xE (zyEl zymc B H) 35 2 := xFr_E hfr rfl
      have e35_3 : xE (zyEl zymc B H2) 35 3 = xE (zyEl zymc B H) 35 3 := xFr_E hfr rfl
      have e2_2 : xE (zyEl zymc B H2) 2 2 = xE (zyEl zymc B H) 2 2 := xFr_E hfr rfl
      have e36 : ∀ i, xE (zyEl zymc B H2) 36 i = xE (zyEl zymc B H) 36 i := fun i => xFr_E hfr rfl
      have q36 : ∀ i, xE (zyEl zymc B H) 36 i = xE (zyEl zymc B s.heap) 36 i := fun i => xFr_E hFr0 rfl
      have e4 : ∀ i, xE (zyEl zymc B H2) 4 i = xE (zyEl zymc B H) 4 i := fun i => xFr_E hfr rfl
      have e5 : ∀ i, xE (zyEl zymc B H2) 5 i = xE (zyEl zymc B H) 5 i := fun i => xFr_E hfr rfl
      have hI : (zyEl zymc B H) = (zyEl zymc B s.heap) ∧ (v 1) = x0 0 := hInv
      have q35_1 : xE (zyEl zymc B H) 35 1 = xE (zyEl zymc B s.heap) 35 1 := by rw [hI.1]
      have q35_2 : xE (zyEl zymc B H) 35 2 = xE (zyEl zymc B s.heap) 35 2 := by rw [hI.1]
      have q35_3 : xE (zyEl zymc B H) 35 3 = xE (zyEl zymc B s.heap) 35 3 := by rw [hI.1]
      have q2_2 : xE (zyEl zymc B H) 2 2 = xE (zyEl zymc B s.heap) 2 2 := by rw [hI.1]
      have q4 : ∀ i, xE (zyEl zymc B H) 4 i = xE (zyEl zymc B s.heap) 4 i := fun i => by rw [hI.1]
      have q5 : ∀ i, xE (zyEl zymc B H) 5 i = xE (zyEl zymc B s.heap) 5 i := fun i => by rw [hI.1]
      have o1 := xRk_g hRk 0 rfl
      have o2 := xRk_g hRk 1 rfl
      have o1 : (zyEl zymc B H2) 0 1 = some (.ref (zad B 18)) := o1
      have o2 : (zyEl zymc B H2) 0 2 = some (.ref (zad B 1)) := o2
      have tt : xE (zyEl zymc B H2) 36 = xE (zyEl zymc B s.heap) 36 := funext fun i => (e36 i).trans (q36 i)
      refine xCaq hRu hIH hAt hB hv hFr (hfra0 B) (ix := 101) (ax := 929) rfl rfl rfl hmefra0 ⟨_, rfl, rfl, by decide⟩ ⟨rfl, rfl, rfl⟩ (by decide) 34359738369 [] (v2 1) rfl (by decide +kernel) rfl (by decide +kernel) ?_ (fun H3 r hT3 hf3 hFr3 hr3 hΨ3 => ?_)
      · show xΦra0 (xfv [(v2 1)]) (zyEl zymc B H2)
        exact ⟨by show 0 ≤ (v2 1); omega, by show (v2 1) ≤ 900; omega⟩
      · have hΨ3 : xΨra0 (xfv [(v2 1)]) (zyEl zymc B H2) (zyEl zymc B H3) r := hΨ3
        have d36 : ∀ i, xE (zyEl zymc B H3) 36 i = xE (zyEl zymc B H2) 36 i := fun i => xFr_E hf3 rfl
        have hx : xfv [(v2 1)] 0 = x0 0 := by show (v2 1) = _; omega
        obtain ⟨w1, w2, w3, w4⟩ := hΨ3
        rw [tt, hx] at w1 w3
        have hr01 := xOutA0_r w1
        refine ⟨⟨2, by decide⟩, [0, 0, 0], [0, 0, 0, r], rfl, ⟨by decide +kernel, ⟨rfl, by decide +kernel⟩, (xcs_c rfl (xcs_c rfl (xcs_c rfl xcs_n))), (xe_0 (xe_0 (xe_0 (xe_c (by omega) (by omega) rfl xe_n)))), (xkq_r 0 1 18 rfl rfl rfl rfl rfl ((hf3 0 1 rfl).trans o1) (xkq_r 0 2 1 rfl rfl rfl rfl rfl ((hf3 0 2 rfl).trans o2) xkq_n))⟩, (by rw [if_pos rfl]; exact ⟨3, [], rfl, by decide, rfl, xst_n⟩), ?_, ?_⟩
        · show (0 ≤ x0 0 ∧ x0 0 ≤ xE (zyEl zymc B s.heap) 35 1) ∧ xOutA0 (pAll (xE (zyEl zymc B s.heap) 36) (x0 0)) (zyEl zymc B H3) (r : Int) ∧ xJk0 (zyEl zymc B s.heap) (zyEl zymc B H3) ∧ (∀ p S, pAll (xE (zyEl zymc B s.heap) 36) (x0 0) = .ok (p, S) → xGeo0 (zyEl zymc B H3) (S 0).toNat (S 1).toNat) ∧ xE (zyEl zymc B H3) 35 1 = 0
          refine ⟨by omega, w1, fun i i0 i1 => ?_, w3, w4⟩
          have w := w2 i i0 i1
          rw [e4 i, q4 i, e5 i, q5 i] at w
          exact w
        · show 2 < 3
          omega
    · have hx : x ∈ [zxfld1_bx0] := hx
      have hag : ∀ k, k < 4 → v2 k = v k := hag
      have hfr : xFr [(0, 0, 2)] _ _ := hfr
      have hRk : xRk B [(1, 11), (2, 147)] _ := hRk
      have ex := List.mem_singleton.mp hx
      subst ex
      obtain ⟨hF, hBd, hM⟩ := hXs
      have g3 : v2 3 = v 3 := hag 3 (by decide)
      have b0 : ((2147483649 : Nat) : Int) ≤ (v2 3) + 2147483648 ∧ (v2 3) + 2147483648 ≤ ((2147483649 : Nat) : Int) := xXb hBd 0 rfl
      have f0 : ¬ (v2 3) = 0 := xXf hF 0 rfl
      have e35_1 : xE (zyEl zymc B H2) 35 1 = xE (zyEl zymc B H) 35 1 := xFr_E hfr rfl
      have e35_2 : xE (zyEl zymc B H2) 35 2 = xE (zyEl zymc B H) 35 2 := xFr_E hfr rfl
      have e35_3 : xE (zyEl zymc B H2) 35 3 = xE (zyEl zymc B H) 35 3 := xFr_E hfr rfl
      have e2_2 : xE (zyEl zymc B H2) 2 2 = xE (zyEl zymc B H) 2 2 := xFr_E hfr rfl
      have e36 : ∀ i, xE (zyEl zymc B H2) 36 i = xE (zyEl zymc B H) 36 i := fun i => xFr_E hfr rfl
      have q36 : ∀ i, xE (zyEl zymc B H) 36 i = xE (zyEl zymc B s.heap) 36 i := fun i => xFr_E hFr0 rfl
      have e4 : ∀ i, xE (zyEl zymc B H2) 4 i = xE (zyEl zymc B H) 4 i := fun i => xFr_E hfr rfl
      have e5 : ∀ i, xE (zyEl zymc B H2) 5 i = xE (zyEl zymc B H) 5 i := fun i => xFr_E hfr rfl
      have hI : (0 ≤ x0 0 ∧ x0 0 ≤ xE (zyEl zymc B s.heap) 35 1) ∧ xOutA0 (pAll (xE (zyEl zymc B s.heap) 36) (x0 0)) (zyEl zymc B H) (v 3) ∧ xJk0 (zyEl zymc B s.heap) (zyEl zymc B H) ∧ (∀ p S, pAll (xE (zyEl zymc B s.heap) 36) (x0 0) = .ok (p, S) → xGeo0 (zyEl zymc B H) (S 0).toNat (S 1).toNat) ∧ xE (zyEl zymc B H) 35 1 = 0 := hInv
      obtain ⟨i0, i1, ij, i2, i3⟩ := hI
      rw [show (v 3) = v2 3 by omega] at i1
      have o1 := xRk_g hRk 0 rfl
      have o2 := xRk_g hRk 1 rfl
      have o1 : (zyEl zymc B H2) 0 1 = some (.ref (zad B 1)) := o1
      have o2 : (zyEl zymc B H2) 0 2 = some (.ref (zad B 18)) := o2
      obtain ⟨pp, S, e1, e2⟩ := xOutA0_1 i1 (by omega)
      refine xCa hRu hIH hAt hB hv hFr (hfbg0 B) (ix := 82) (ax := 1377) rfl rfl rfl hmefbg0 ⟨_, rfl, rfl, by decide⟩ ⟨rfl, rfl, rfl⟩ (by decide) [] [] [] rfl ⟨rfl, rfl⟩ (by decide +kernel) xcs_n (by decide +kernel) ?_ (fun H3 r hT3 hf3 hFr3 hr3 hΨ3 => ?_)
      · show xΦ0 (xfv []) (zyEl zymc B H2)
        exact trivial
      · have hΨ3 : xΨ0 (xfv []) (zyEl zymc B H2) (zyEl zymc B H3) r := hΨ3
        have d35_1 : xE (zyEl zymc B H3) 35 1 = xE (zyEl zymc B H2) 35 1 := xFr_E hf3 rfl
        have d35_2 : xE (zyEl zymc B H3) 35 2 = xE (zyEl zymc B H2) 35 2 := xFr_E hf3 rfl
        have d35_3 : xE (zyEl zymc B H3) 35 3 = xE (zyEl zymc B H2) 35 3 := xFr_E hf3 rfl
        have d2_2 : xE (zyEl zymc B H3) 2 2 = xE (zyEl zymc B H2) 2 2 := xFr_E hf3 rfl
        have d36 : ∀ i, xE (zyEl zymc B H3) 36 i = xE (zyEl zymc B H2) 36 i := fun i => xFr_E hf3 rfl
        have d4 : ∀ i, xE (zyEl zymc B H3) 4 i = xE (zyEl zymc B H2) 4 i := fun i => xFr_E hf3 rfl
        have d5 : ∀ i, xE (zyEl zymc B H3) 5 i = xE (zyEl zymc B H2) 5 i := fun i => xFr_E hf3 rfl
        skip
        refine ⟨⟨3, by decide⟩, [0, 0, 0], [0, 0, 0], rfl, ⟨by decide +kernel, ⟨rfl, by decide +kernel⟩, (xcs_c rfl (xcs_c rfl (xcs_c rfl xcs_n))), (xe_0 (xe_0 (xe_0 xe_n))), (xkq_r 0 1 1 rfl rfl rfl rfl rfl ((hf3 0 1 rfl).trans o1) (xkq_r 0 2 18 rfl rfl rfl rfl rfl ((hf3 0 2 rfl).trans o2) xkq_n))⟩, (by rw [if_neg (by decide)]; exact xst_n), ?_, ?_⟩
        · show (0 ≤ x0 0 ∧ x0 0 ≤ xE (zyEl zymc B s.heap) 35 1) ∧ ∃ p S, pAll (xE (zyEl zymc B s.heap) 36) (x0 0) = .ok (p, S) ∧ xAb0 (zyEl zymc B H3) S ∧ xGeo0 (zyEl zymc B H3) (S 0).toNat (S 1).toNat ∧ xJk0 (zyEl zymc B s.heap) (zyEl zymc B H3) ∧ xE (zyEl zymc B H3) 35 1 = 0
          exact ⟨i0, pp, S, e1, xAb0_bg e2 (xFr_trans (xFr_mono (by decide) hfr) (xFr_mono (by decide) hf3)), xGeo0_bg (i2 _ _ e1) (xFr_trans (xFr_mono (by decide) hfr) (xFr_mono (by decide) hf3)), fun i i0 i1 => by have w := ij i i0 i1; rw [d4 i, e4 i, d5 i, e5 i]; exact w, by omega⟩
        · show 1 < 2
          omega
    · cases hx
  · intro x0 E0 E E2 hrx hT0 hΦ i v hT hrv hInv hKc hFr0 x hx v2 hr2 hXs hag hfr hFr hT2 hRk
    rcases i with ⟨i, hi⟩
    have hi2 : i = 0 ∨ i = 1 ∨ i = 2 ∨ i = 3 := by omega
    rcases hi2 with rfl | rfl | rfl | rfl
    · cases hx
    · have hx : x ∈ [zxfld1_ar0, zxfld1_ar1] := hx
      have hag : ∀ k, k < 3 → v2 k = v k := hag
      have hfr : xFr [(0, 0, 0)] _ _ := hfr
      have hRk : xRk B [(1, 147), (2, 11)] _ := hRk
      rcases List.mem_cons.mp hx with ex | hx
      · subst ex
        obtain ⟨hF, hBd, hM⟩ := hXs
        have g1 : v2 1 = v 1 := hag 1 (by decide)
        have b0 : ((0 : Nat) : Int) ≤ (v2 1) + 2147483648 ∧ (v2 1) + 2147483648 ≤ ((2147483647 : Nat) : Int) := xXb hBd 0 rfl
        have f0 : (v2 1) < 0 := xXf hF 0 rfl
        have m0 : xE E2 0 0 = 1 := xXm hM 0 rfl
        have e35_1 : xE E2 35 1 = xE E 35 1 := xFr_E hfr rfl
        have e35_2 : xE E2 35 2 = xE E 35 2 := xFr_E hfr rfl
        have e35_3 : xE E2 35 3 = xE E 35 3 := xFr_E hfr rfl
        have e2_2 : xE E2 2 2 = xE E 2 2 := xFr_E hfr rfl
        have e36 : ∀ i, xE E2 36 i = xE E 36 i := fun i => xFr_E hfr rfl
        have q36 : ∀ i, xE E 36 i = xE E0 36 i := fun i => xFr_E hFr0 rfl
        have e4 : ∀ i, xE E2 4 i = xE E 4 i := fun i => xFr_E hfr rfl
        have e5 : ∀ i, xE E2 5 i = xE E 5 i := fun i => xFr_E hfr rfl
        have hI : E = E0 ∧ (v 1) = x0 0 := hInv
        have q35_1 : xE E 35 1 = xE E0 35 1 := by rw [hI.1]
        have q35_2 : xE E 35 2 = xE E0 35 2 := by rw [hI.1]
        have q35_3 : xE E 35 3 = xE E0 35 3 := by rw [hI.1]
        have q2_2 : xE E 2 2 = xE E0 2 2 := by rw [hI.1]
        have q4 : ∀ i, xE E 4 i = xE E0 4 i := fun i => by rw [hI.1]
        have q5 : ∀ i, xE E 5 i = xE E0 5 i := fun i => by rw [hI.1]
        show (xΨld1 B) x0 E0 E2 (-1)
        have o1 := xRk_g hRk 0 rfl
        have o2 := xRk_g hRk 1 rfl
        have o1 : E2 0 1 = some (.ref (zad B 18)) := o1
        have o2 : E2 0 2 = some (.ref (zad B 1)) := o2
        unfold xΨld1
        rw [if_neg (by omega)]
        exact ⟨⟨by omega, by omega, by omega, o1, o2⟩, fun i i0 i1 => Or.inl ⟨by rw [e4 i, q4 i], by rw [e5 i, q5 i]⟩⟩
      · skip
        have ex := List.mem_singleton.mp hx
        subst ex
        obtain ⟨hF, hBd, hM⟩ := hXs
        have g1 : v2 1 = v 1 := hag 1 (by decide)
        have b0 : ((2147483649 : Nat) : Int) ≤ (v2 1) + 2147483648 ∧ (v2 1) + 2147483648 ≤ ((4294967295 : Nat) : Int) := xXb hBd 0 rfl
        have b1 : ((2147483648 : Nat) : Int) ≤ (v2 3) + 2147483648 ∧ (v2 3) + 2147483648 ≤ ((2147484548 : Nat) : Int) := xXb hBd 1 rfl
        have f0 : 0 ≤ (v2 1) := xXf hF 0 rfl
        have f1 : (0 : Int) ≤ 1 ∧ xE E 35 1 = (v2 3) := xXf hF 1 rfl
        have f2 : (v2 3) < (v2 1) := xXf hF 2 rfl
        have m0 : xE E2 0 0 = 1 := xXm hM 0 rfl
        have e35_1 : xE E2 35 1 = xE E 35 1 := xFr_E hfr rfl
        have e35_2 : xE E2 35 2 = xE E 35 2 := xFr_E hfr rfl
        have e35_3 : xE E2 35 3 = xE E 35 3 := xFr_E hfr rfl
        have e2_2 : xE E2 2 2 = xE E 2 2 := xFr_E hfr rfl
        have e36 : ∀ i, xE E2 36 i = xE E 36 i := fun i => xFr_E hfr rfl
        have q36 : ∀ i, xE E 36 i = xE E0 36 i := fun i => xFr_E hFr0 rfl
        have e4 : ∀ i, xE E2 4 i = xE E 4 i := fun i => xFr_E hfr rfl
        have e5 : ∀ i, xE E2 5 i = xE E 5 i := fun i => xFr_E hfr rfl
        have hI : E = E0 ∧ (v 1) = x0 0 := hInv
        have q35_1 : xE E 35 1 = xE E0 35 1 := by rw [hI.1]
        have q35_2 : xE E 35 2 = xE E0 35 2 := by rw [hI.1]
        have q35_3 : xE E 35 3 = xE E0 35 3 := by rw [hI.1]
        have q2_2 : xE E 2 2 = xE E0 2 2 := by rw [hI.1]
        have q4 : ∀ i, xE E 4 i = xE E0 4 i := fun i => by rw [hI.1]
        have q5 : ∀ i, xE E 5 i = xE E0 5 i := fun i => by rw [hI.1]
        show (xΨld1 B) x0 E0 E2 (-1)
        have o1 := xRk_g hRk 0 rfl
        have o2 := xRk_g hRk 1 rfl
        have o1 : E2 0 1 = some (.ref (zad B 18)) := o1
        have o2 : E2 0 2 = some (.ref (zad B 1)) := o2
        unfold xΨld1
        rw [if_neg (by omega)]
        exact ⟨⟨by omega, by omega, by omega, o1, o2⟩, fun i i0 i1 => Or.inl ⟨by rw [e4 i, q4 i], by rw [e5 i, q5 i]⟩⟩
    · have hx : x ∈ [zxfld1_br0] := hx
      have hag : ∀ k, k < 4 → v2 k = v k := hag
      have hfr : xFr [(0, 0, 2)] _ _ := hfr
      have hRk : xRk B [(1, 147), (2, 11)] _ := hRk
      have ex := List.mem_singleton.mp hx
      subst ex
      obtain ⟨hF, hBd, hM⟩ := hXs
      have g3 : v2 3 = v 3 := hag 3 (by decide)
      have b0 : ((2147483648 : Nat) : Int) ≤ (v2 3) + 2147483648 ∧ (v2 3) + 2147483648 ≤ ((2147483648 : Nat) : Int) := xXb hBd 0 rfl
      have f0 : (v2 3) = 0 := xXf hF 0 rfl
      have m0 : xE E2 0 0 = 9 := xXm hM 0 rfl
      have e35_1 : xE E2 35 1 = xE E 35 1 := xFr_E hfr rfl
      have e35_2 : xE E2 35 2 = xE E 35 2 := xFr_E hfr rfl
      have e35_3 : xE E2 35 3 = xE E 35 3 := xFr_E hfr rfl
      have e2_2 : xE E2 2 2 = xE E 2 2 := xFr_E hfr rfl
      have e36 : ∀ i, xE E2 36 i = xE E 36 i := fun i => xFr_E hfr rfl
      have q36 : ∀ i, xE E 36 i = xE E0 36 i := fun i => xFr_E hFr0 rfl
      have e4 : ∀ i, xE E2 4 i = xE E 4 i := fun i => xFr_E hfr rfl
      have e5 : ∀ i, xE E2 5 i = xE E 5 i := fun i => xFr_E hfr rfl
      have hI : (0 ≤ x0 0 ∧ x0 0 ≤ xE E0 35 1) ∧ xOutA0 (pAll (xE E0 36) (x0 0)) E (v 3) ∧ xJk0 E0 E ∧ (∀ p S, pAll (xE E0 36) (x0 0) = .ok (p, S) → xGeo0 E (S 0).toNat (S 1).toNat) ∧ xE E 35 1 = 0 := hInv
      show (xΨld1 B) x0 E0 E2 (-1)
      obtain ⟨i0, i1, ij, i2, i3⟩ := hI
      rw [show (v 3) = v2 3 by omega] at i1
      have o1 := xRk_g hRk 0 rfl
      have o2 := xRk_g hRk 1 rfl
      have o1 : E2 0 1 = some (.ref (zad B 18)) := o1
      have o2 : E2 0 2 = some (.ref (zad B 1)) := o2
      obtain ⟨w, a, e1, e2, e3⟩ := xOutA0_0 i1 (by omega)
      unfold xΨld1
      rw [if_pos i0, e1]
      exact ⟨⟨⟨by omega, by omega, o1, o2, by omega, by omega⟩, by omega⟩, fun i i0 i1 => by have w := ij i i0 i1; rw [e4 i, e5 i]; exact w⟩
    · have hx : x ∈ [zxfld1_cr0] := hx
      have hag : ∀ k, k < 3 → v2 k = v k := hag
      have hfr : xFr [(0, 0, 0), (67, 0, 0), (37, 1, 1)] _ _ := hfr
      have hRk : xRk B [(1, 11), (2, 147)] _ := hRk
      have ex := List.mem_singleton.mp hx
      subst ex
      obtain ⟨hF, hBd, hM⟩ := hXs
      have b0 : ((2147483648 : Nat) : Int) ≤ (v2 3) + 2147483648 ∧ (v2 3) + 2147483648 ≤ ((2147483728 : Nat) : Int) := xXb hBd 0 rfl
      have f0 : (0 : Int) ≤ 2 ∧ xE E 2 2 = (v2 3) := xXf hF 0 rfl
      have m0 : xE E2 0 0 = 0 := xXm hM 0 rfl
      have m1 : xE E2 67 0 = 0 := xXm hM 1 rfl
      have m2 : xE E2 37 1 = 0 := xXm hM 2 rfl
      have e35_1 : xE E2 35 1 = xE E 35 1 := xFr_E hfr rfl
      have e35_2 : xE E2 35 2 = xE E 35 2 := xFr_E hfr rfl
      have e35_3 : xE E2 35 3 = xE E 35 3 := xFr_E hfr rfl
      have e2_2 : xE E2 2 2 = xE E 2 2 := xFr_E hfr rfl
      have e36 : ∀ i, xE E2 36 i = xE E 36 i := fun i => xFr_E hfr rfl
      have q36 : ∀ i, xE E 36 i = xE E0 36 i := fun i => xFr_E hFr0 rfl
      have e4 : ∀ i, xE E2 4 i = xE E 4 i := fun i => xFr_E hfr rfl
      have e5 : ∀ i, xE E2 5 i = xE E 5 i := fun i => xFr_E hfr rfl
      have hI : (0 ≤ x0 0 ∧ x0 0 ≤ xE E0 35 1) ∧ ∃ p S, pAll (xE E0 36) (x0 0) = .ok (p, S) ∧ xAb0 E S ∧ xGeo0 E (S 0).toNat (S 1).toNat ∧ xJk0 E0 E ∧ xE E 35 1 = 0 := hInv
      show (xΨld1 B) x0 E0 E2 (v2 3)
      obtain ⟨i0, pp, S, i1, i2, i3, ij, i4⟩ := hI
      have o1 := xRk_g hRk 0 rfl
      have o2 := xRk_g hRk 1 rfl
      have o1 : E2 0 1 = some (.ref (zad B 1)) := o1
      have o2 : E2 0 2 = some (.ref (zad B 18)) := o2
      have hs := i2.2.1.2.2.1
      unfold xΨld1
      rw [if_pos i0, i1]
      exact ⟨⟨⟨by omega, by omega, o1, o2, xAb0_bg i2 (xFr_mono (by decide) hfr), xGeo0_bg i3 (xFr_mono (by decide) hfr)⟩, by omega⟩, fun i i0 i1 => by have w := ij i i0 i1; rw [e4 i, e5 i]; exact w⟩
end
section
/-! A BYTE made of an int and stored at once -/
def xI8 (a : Int) : Int := xI (Int32.ofInt a).toInt8.toInt32
theorem xI8_r (a : Int) : -128 ≤ xI8 a ∧ xI8 a ≤ 127 := by
  unfold xI8 xI
  rw [Int8.toInt_toInt32]
  have h1 := Int8.le_toInt (Int32.ofInt a).toInt8
  have h2 := Int8.toInt_lt (Int32.ofInt a).toInt8
  omega
/-- the k-th byte of an int, the highest first -/
def fby (x k : Int) : Int := xI8 (xop 9 x (24 - 8 * k))
section XSB
variable {l : Launch} {mi : zyB} {en : zEn} {dep : Nat} {B : zCx} {s : State} {fpm : zyR} {ι : Type} {φ : ι → zyPh} {Inv : ι → (Nat → Int) → zyEm → Prop} {Mu : ι → (Nat → Int) → zyEm → Nat} {M : Nat} {Wg : zyWt} {x : zyXp} {ρ2 : Nat → Int32} {v2 : Nat → Int} {N : Nat} {H : Heap} {locs : List Loc} {lsB : Array Slot} {stA : List Value}
theorem xSb (hRu : xRu l mi en dep B s Wg) (hIH : xIH mi en.2.2.1 B s fpm φ Inv Mu M Wg) (hAt : zyAt mi B s en.2.2.1 x ρ2 N H locs lsB stA) (hB : xBd ρ2 x.2.2.2.2.1) (hv : ∀ k, xI (ρ2 k) = v2 k) (hFr : xFr fpm (zyEl mi B s.heap) (zyEl mi B H)) (a : Nat) {ax ax2 : Nat} {c : zyCl} (cv cj : Nat) (V J : Int) (hst : x.2.2.1 = [cv, cj, 8 * a + 3]) (hrow : en.1 x.1 = (.i2b, x.1 + 1, ax)) (hrow2 : en.1 (x.1 + 1) = (.bastore, x.1 + 1 + 1, ax2)) (h22 : c.1 = 22) (hg : zG mi a = some c) (hck : (decide (cv % 8 ≤ 1) && xofB x.2.2.2.2.1 cv && decide (cj % 8 ≤ 1) && xofB x.2.2.2.2.1 cj) = true) (hV : xc v2 cv = V) (hJ : xc v2 cj = J) (hJ0 : 0 ≤ J) (hJn : J < (c.2.1 : Int)) (hrows : ∀ r ∈ c.2.2, (r.1 : Int) ≤ J → J ≤ (r.2.1 : Int) → r.2.2 % 8 = 2 ∧ ((r.2.2 / 34359738368 : Nat) : Int) ≤ -128 + 2147483648 ∧ 127 + 2147483648 ≤ ((r.2.2 / 8 % 4294967296 : Nat) : Int)) (hin : zyin fpm a J.toNat = true)
    (kk : ∀ (H3 : Heap), zyTy mi (zyEl mi B H3) → xE (zyEl mi B H3) a J = xI8 V → (∀ (a2 : Nat) (k2 : Int), 0 ≤ k2 → ¬ (a2 = a ∧ k2 = J) → xE (zyEl mi B H3) a2 k2 = xE (zyEl mi B H) a2 k2) → (∀ a2 k2, ¬ (a2 = a ∧ k2 = J.toNat) → zyEl mi B H3 a2 k2 = zyEl mi B H a2 k2) → xFr fpm (zyEl mi B s.heap) (zyEl mi B H3) → ∃ (i2 : ι) (cs : List Nat) (L : List Int), (φ i2).1 = x.1 + 1 + 1 ∧ xJ mi B en.2.2.1 x v2 (φ i2) (zyEl mi B H3) cs L ∧ (φ i2).2.2.2.2 = [] ∧ Inv i2 (xfv L) (zyEl mi B H3) ∧ Mu i2 (xfv L) (zyEl mi B H3) < M) : Wg H locs x.1 lsB stA := by
  have hs := hAt.2.2.2.2.2
  rw [hst] at hs
  obtain ⟨w0, t0, rfl, a0, hs⟩ := zySt_c hs
  obtain ⟨w1, t1, rfl, a1, hs⟩ := zySt_c hs
  obtain ⟨w2, t2, rfl, a2, hs⟩ := zySt_c hs
  have e3 := zySt_n hs
  subst e3
  rw [Bool.and_eq_true, Bool.and_eq_true, Bool.and_eq_true, decide_eq_true_eq, decide_eq_true_eq] at hck
  obtain ⟨⟨⟨k1, k2⟩, k3⟩, k4⟩ := hck
  obtain ⟨z0, rfl⟩ := zyv_int a0 (by omega)
  obtain ⟨z1, rfl⟩ := zyv_int a1 (by omega)
  have e2 := zyv_3 a2 (by omega)
  rw [show (8 * a + 3) / 8 = a by omega] at e2
  have e2 : w2 = .ref (zad B a) := e2
  have e0 : xI z0 = V := by
    rw [show z0 = zyw ρ2 cv from zyw_of a0 k1, xofB_iff hv hB k2]
    exact hV
  have e1 : xI z1 = J := by
    rw [show z1 = zyw ρ2 cj from zyw_of a1 k3, xofB_iff hv hB k4]
    exact hJ
  have r1 := xI_r z1
  have e1 : z1 = Int32.ofNat J.toNat := by
    apply xI_inj
    rw [e1, xI_nat (by omega)]
    have : xsg J.toNat = ((J.toNat : Nat) : Int) := if_pos (by omega)
    omega
  have e8 : xI z0.toInt8.toInt32 = xI8 V := by
    unfold xI8
    rw [← e0, xofI]
  have rg := xI8_r V
  rw [e2, e1]
  refine hRu.2.2 x.1 ax z0 _ H locs lsB hrow ?_
  have bz := xI_zB z0.toInt8.toInt32
  refine hRu.2.1 (x.1 + 1) ax2 a J.toNat c z0.toInt8.toInt32 H locs lsB (Or.inr (Or.inl ⟨h22, hrow2, ?_, ?_⟩)) hg (by omega) (fun r hr q1 q2 => ?_) hAt.1 hAt.2.2.1 (fun H3 locs3 hI3 hO3 hlo3 h1 h2 => ?_)
  · have e8 : z0.toInt8.toInt32.toInt = xI8 V := e8
    omega
  · have e8 : z0.toInt8.toInt32.toInt = xI8 V := e8
    omega
  · obtain ⟨p1, p2, p3⟩ := hrows r hr (by omega) (by omega)
    exact ⟨p1, by omega, by omega⟩
  · have hFr3 : xFr fpm (zyEl mi B s.heap) (zyEl mi B H3) := by
      intro a2 k2 hk
      rw [h2 a2 k2 (fun z => by rw [z.1, z.2] at hk; rw [hk] at hin; cases hin)]
      exact hFr a2 k2 hk
    obtain ⟨i2, cs, L, p1, p2, p3, p4, p5⟩ := kk H3 (zyTy_of hI3) (by rw [xE_s h1 rfl]; exact e8) (fun a2 k2 hk0 hne => by
      unfold xE
      rw [h2 a2 k2.toNat (fun z => hne ⟨z.1, by omega⟩)]) h2 hFr3
    have g := (xe_env p2.2.2.2.1).2
    rw [← p1]
    refine hIH i2 (xfv L) H3 locs3 lsB [] hI3 (fun q hq => (hO3 q hq).trans (hAt.2.1 q hq)) hFr3 g p4 (xJ_s hAt hB hv p2 hlo3 ?_) p5
    rw [p3]
    trivial
end XSB
end
section
/-! THE CLASS: append (printed by m15.py) -/
noncomputable def zxfap_ax0 : zyXp := (3, [283, 34359738369, 192], [], [], [], [])
noncomputable def zpfap_a : zyPh := (0, [283, 34359738369, 13], [(0, 4294967295), (0, 4294967295), (0, 4294967295)], [], [])
noncomputable def zxfap_bx0 : zyXp := (28, [283, 34359738369, 68719476737], [137438953473, 103079215105, 291], [(21, 0, 68719476737, 0), (24, 103079215105, 35, 8), (20, 0, 103079215105, 7200), (9, 137438953473, 34359738369, 68719476737)], [(68719476737, 2147483648, 2147483672), (103079215105, 2147483648, 2147484547)], [])
noncomputable def zxfap_bx1 : zyXp := (3, [283, 34359738369, 103079215041], [], [(21, 0, 68719476737, 0), (24, 103079215105, 35, 8), (21, 0, 103079215105, 7200)], [(68719476737, 2147483648, 2147483672), (103079215105, 2147484548, 2147484548), (103079215041, 2147483640, 2147483664)], [])
noncomputable def zxfap_br0 : zyXp := (0, [], [], [(20, 0, 68719476737, 0)], [(68719476737, 2147483640, 2147483647)], [])
noncomputable def zpfap_b : zyPh := (3, [283, 34359738369, 68719476737], [(0, 4294967295), (0, 4294967295), (2147483640, 2147483672)], [], [])
noncomputable def zxfap_cx0 : zyXp := (3, [283, 34359738369, 103079215041], [], [], [(68719476737, 2147483648, 2147483672), (103079215105, 2147483648, 2147484547), (103079215041, 2147483640, 2147483664)], [(573441, 103079215113)])
noncomputable def zpfap_c : zyPh := (30, [283, 34359738369, 68719476737], [(0, 4294967295), (0, 4294967295), (2147483648, 2147483672), (2147483648, 2147484547)], [(573441, 103079215105)], [])
noncomputable def zpfap (i : Nat) : zyPh := zif (Nat.beq i 0) (zpfap_a) (zif (Nat.beq i 1) (zpfap_b) (zpfap_c))
noncomputable def zXfap (i : Nat) : List zyXp := zif (Nat.beq i 0) ([zxfap_ax0]) (zif (Nat.beq i 1) ([zxfap_bx0, zxfap_bx1]) ([zxfap_cx0]))
noncomputable def zRfap (i : Nat) : List zyXp := zif (Nat.beq i 0) ([]) (zif (Nat.beq i 1) ([zxfap_br0]) ([]))
noncomputable def zFfap (i : Nat) : zyR := zif (Nat.beq i 0) ([]) (zif (Nat.beq i 1) ([]) ([(35, 1, 1)]))
noncomputable def zSfap (i : Nat) : Nat := zif (Nat.beq i 0) (0) (zif (Nat.beq i 1) (0) (0))
def xΦfap (_ : Nat → Int) (E : zyEm) : Prop := xE E 35 1 ≤ 896
def xΨfap (x : Nat → Int) (E E2 : zyEm) (_ : Int) : Prop := xE E2 35 1 = xE E 35 1 + 4 ∧ (∀ k, 0 ≤ k → k < 4 → xE E2 36 (xE E 35 1 + k) = fby (x 0) k) ∧ (∀ k, 0 ≤ k → k < xE E 35 1 → xE E2 36 k = xE E 36 k)
noncomputable def fpfap : zyR := [(35, 1, 1), (36, 0, 899)]
theorem zyfap_run : zyrS zymc zxi57 (57, 0, 0, 0, 0) 1 zpfap (fun _ _ => []) zFfap zSfap zXfap zRfap 3 = true := by decide +kernel
theorem zyfap_ck : zyAll (fun i => xsubR (zFfap i) fpfap && ((zXfap i).all xckX && (zRfap i).all (fun x => xckX x && xrtB false x))) 3 = true := by decide +kernel
def xIfap (i : Nat) (x0 : Nat → Int) (E0 : zyEm) (v : Nat → Int) (E : zyEm) : Prop := if i = 0 then (E = E0 ∧ (v 1) = x0 0) else if i = 1 then ((v 1) = x0 0 ∧ (xE E0 35 1 ≤ 896) ∧ ∃ j : Int, (v 2) = 24 - 8 * j ∧ xE E 35 1 = xE E0 35 1 + j ∧ (0 ≤ j ∧ j ≤ 4) ∧ (∀ k, 0 ≤ k → k < j → xE E 36 (xE E0 35 1 + k) = fby (x0 0) k) ∧ (∀ k, 0 ≤ k → k < xE E0 35 1 → xE E 36 k = xE E0 36 k)) else ((v 1) = x0 0 ∧ (xE E0 35 1 ≤ 896) ∧ ∃ j : Int, (v 2) = 24 - 8 * j ∧ j ≤ 3 ∧ xE E 35 1 = xE E0 35 1 + j ∧ (0 ≤ j) ∧ (∀ k, 0 ≤ k → k < j + 1 → xE E 36 (xE E0 35 1 + k) = fby (x0 0) k) ∧ (∀ k, 0 ≤ k → k < xE E0 35 1 → xE E 36 k = xE E0 36 k))
def xMfap (i : Nat) (x0 : Nat → Int) (E0 : zyEm) (v : Nat → Int) (E : zyEm) : Nat := if i = 0 then (1000) else if i = 1 then (2 * (100 + (v 2)).toNat + 1) else (2 * (100 + (v 2)).toNat)
theorem xAp {l : Launch} {en : zEn} {me : zMe} (hen : zG zxMeta 57 = some en) (hme : zG zMeth 57 = some me) : xFc l zymc en me 1 [35] 1 fpfap false xΦfap xΨfap := by
  have een : zG zxMeta 57 = some (zxi57, 2, 3, 5, 57, 0, 0, 0, 0) := rfl
  obtain ⟨me1, hme1, hOK⟩ := zall hen
  rw [hme] at hme1
  cases hme1
  rw [een] at hen
  cases hen
  have hr := zyfap_run
  have hck := fun i hi => zyAll_iff zyfap_ck i hi
  simp only [Bool.and_eq_true] at hck
  intro B
  refine xcut (mi := zymc) (B := B) hOK rfl rfl (ι := Fin 3) (fun i => zpfap i.val) (fun _ _ => []) (fun i => zFfap i.val) (fun i => zSfap i.val) (fun i => zXfap i.val) (fun i => zRfap i.val) (fun i y2 ct en2 me2 h => by cases h) 200000 (fun i => zyAll_iff hr i.val i.isLt) (fun i => (hck i.val i.isLt).1) (fun i => (hck i.val i.isLt).2.1) (fun i => (hck i.val i.isLt).2.2) ⟨0, by decide⟩ ⟨rfl, rfl, rfl, rfl⟩ ⟨by decide, by decide⟩ (fun i x0 E0 v E => xIfap i.val x0 E0 v E) (fun i x0 E0 v E => xMfap i.val x0 E0 v E) ?_ ?_ ?_
  · intro x0 E hx0 hT hΦ
    have hΦ : xΦfap x0 E := hΦ
    refine ⟨fun k p hp => ?_, ?_⟩
    · have hk : k < 3 := (List.getElem?_eq_some_iff.mp hp).1
      have hk : k = 0 ∨ k = 1 ∨ k = 2 := by omega
      rcases hk with rfl | rfl | rfl
      · have hp : some (0, 4294967295) = some p := hp
        cases hp
        show ((0 : Nat) : Int) ≤ 0 + 2147483648 ∧ 0 + 2147483648 ≤ ((4294967295 : Nat) : Int)
        omega
      · have hp : some (0, 4294967295) = some p := hp
        cases hp
        show ((0 : Nat) : Int) ≤ x0 0 + 2147483648 ∧ x0 0 + 2147483648 ≤ ((4294967295 : Nat) : Int)
        have hx := hx0 0
        omega
      · have hp : some (0, 4294967295) = some p := hp
        cases hp
        show ((0 : Nat) : Int) ≤ x0 1 + 2147483648 ∧ x0 1 + 2147483648 ≤ ((4294967295 : Nat) : Int)
        have hx := hx0 1
        omega
    · show E = E ∧ (x0 0) = x0 0
      exact ⟨rfl, rfl⟩
  · intro x0 s Wg hRu hrx hT0 hΦ i v H hT hrv hInv hKc hFr0 hIH x hx ρ2 v2 N2 H2 locs lsB stA hAt hB hv hr2 hXs hag hfr hFr hT2
    rcases i with ⟨i, hi⟩
    have hi2 : i = 0 ∨ i = 1 ∨ i = 2 := by omega
    rcases hi2 with rfl | rfl | rfl
    · have hx : x ∈ [zxfap_ax0] := hx
      have hag : ∀ k, k < 3 → v2 k = v k := hag
      have hfr : xFr [] _ _ := hfr
      have ex := List.mem_singleton.mp hx
      subst ex
      obtain ⟨hF, hBd, hM⟩ := hXs
      have r1 := hr2 1
      have g1 : v2 1 = v 1 := hag 1 (by decide)
      have e35_1 : xE (zyEl zymc B H2) 35 1 = xE (zyEl zymc B H) 35 1 := xFr_E hfr rfl
      have e36 : ∀ i, xE (zyEl zymc B H2) 36 i = xE (zyEl zymc B H) 36 i := fun i => xFr_E hfr rfl
      have y35_1 : ((2147483648 : Nat) : Int) ≤ xE (zyEl zymc B s.heap) 35 1 + 2147483648 ∧ xE (zyEl zymc B s.heap) 35 1 + 2147483648 ≤ ((2147484548 : Nat) : Int) := xTyF hT0 35 1 1 rfl rfl rfl rfl rfl rfl
      have hI : (zyEl zymc B H) = (zyEl zymc B s.heap) ∧ (v 1) = x0 0 := hInv
      have q35_1 : xE (zyEl zymc B H) 35 1 = xE (zyEl zymc B s.heap) 35 1 := by rw [hI.1]
      have q36 : ∀ i, xE (zyEl zymc B H) 36 i = xE (zyEl zymc B s.heap) 36 i := fun i => by rw [hI.1]
      have hP : xE (zyEl zymc B s.heap) 35 1 ≤ 896 := hΦ
      refine xGo hIH hAt hB hv hFr ⟨1, by decide⟩ [0, 34359738369, 192] [0, (v2 1), 24] rfl ⟨by decide +kernel, ⟨rfl, by decide +kernel⟩, (xcs_c rfl (xcs_c rfl (xcs_c rfl xcs_n))), (xe_0 (xe_f (by omega) (xe_c (by omega) (by omega) rfl xe_n))), xkq_n⟩ xst_n ?_ ?_
      · show ((v2 1) : Int) = x0 0 ∧ (xE (zyEl zymc B s.heap) 35 1 ≤ 896) ∧ ∃ j : Int, (24 : Int) = 24 - 8 * j ∧ xE (zyEl zymc B H2) 35 1 = xE (zyEl zymc B s.heap) 35 1 + j ∧ (0 ≤ j ∧ j ≤ 4) ∧ (∀ k, 0 ≤ k → k < j → xE (zyEl zymc B H2) 36 (xE (zyEl zymc B s.heap) 35 1 + k) = fby (x0 0) k) ∧ (∀ k, 0 ≤ k → k < xE (zyEl zymc B s.heap) 35 1 → xE (zyEl zymc B H2) 36 k = xE (zyEl zymc B s.heap) 36 k)
        exact ⟨by omega, by omega, 0, by omega, by omega, by omega, fun k k0 k1 => by omega, fun k k0 k1 => (e36 k).trans (q36 k)⟩
      · show 2 * (100 + (24 : Int)).toNat + 1 < 1000
        omega
    · have hx : x ∈ [zxfap_bx0, zxfap_bx1] := hx
      have hag : ∀ k, k < 3 → v2 k = v k := hag
      have hfr : xFr [] _ _ := hfr
      rcases List.mem_cons.mp hx with ex | hx
      · subst ex
        obtain ⟨hF, hBd, hM⟩ := hXs
        have r1 := hr2 1
        have r4 := hr2 4
        have g1 : v2 1 = v 1 := hag 1 (by decide)
        have g2 : v2 2 = v 2 := hag 2 (by decide)
        have b0 : ((2147483648 : Nat) : Int) ≤ (v2 2) + 2147483648 ∧ (v2 2) + 2147483648 ≤ ((2147483672 : Nat) : Int) := xXb hBd 0 rfl
        have b1 : ((2147483648 : Nat) : Int) ≤ (v2 3) + 2147483648 ∧ (v2 3) + 2147483648 ≤ ((2147484547 : Nat) : Int) := xXb hBd 1 rfl
        have f0 : 0 ≤ (v2 2) := xXf hF 0 rfl
        have f1 : (0 : Int) ≤ 1 ∧ xE (zyEl zymc B H) 35 1 = (v2 3) := xXf hF 1 rfl
        have f2 : (v2 3) < 900 := xXf hF 2 rfl
        have f3 : (v2 4) = xop 9 (v2 1) (v2 2) := xXf hF 3 rfl
        have e35_1 : xE (zyEl zymc B H2) 35 1 = xE (zyEl zymc B H) 35 1 := xFr_E hfr rfl
        have e36 : ∀ i, xE (zyEl zymc B H2) 36 i = xE (zyEl zymc B H) 36 i := fun i => xFr_E hfr rfl
        have y35_1 : ((2147483648 : Nat) : Int) ≤ xE (zyEl zymc B s.heap) 35 1 + 2147483648 ∧ xE (zyEl zymc B s.heap) 35 1 + 2147483648 ≤ ((2147484548 : Nat) : Int) := xTyF hT0 35 1 1 rfl rfl rfl rfl rfl rfl
        have hI : (v 1) = x0 0 ∧ (xE (zyEl zymc B s.heap) 35 1 ≤ 896) ∧ ∃ j : Int, (v 2) = 24 - 8 * j ∧ xE (zyEl zymc B H) 35 1 = xE (zyEl zymc B s.heap) 35 1 + j ∧ (0 ≤ j ∧ j ≤ 4) ∧ (∀ k, 0 ≤ k → k < j → xE (zyEl zymc B H) 36 (xE (zyEl zymc B s.heap) 35 1 + k) = fby (x0 0) k) ∧ (∀ k, 0 ≤ k → k < xE (zyEl zymc B s.heap) 35 1 → xE (zyEl zymc B H) 36 k = xE (zyEl zymc B s.heap) 36 k) := hInv
        obtain ⟨i0, i1, j, i2, i3, i4, i5, i6⟩ := hI
        refine xSb hRu hIH hAt hB hv hFr 36 (ax := 0) (ax2 := 0) 137438953473 103079215105 (v2 4) (v2 3) rfl rfl rfl rfl rfl (by decide +kernel) rfl rfl (by omega) (by show (v2 3) < ((900 : Nat) : Int); omega) (fun r hr q1 q2 => by rw [List.mem_singleton.mp hr]; exact ⟨rfl, by show ((2147483520 : Nat) : Int) ≤ -128 + 2147483648; omega, by show (127 : Int) + 2147483648 ≤ ((2147483775 : Nat) : Int); omega⟩) (zyin_iff.mpr ⟨(36, 0, 899), by decide, rfl, Nat.zero_le _, by show Int.toNat (v2 3) ≤ 899; omega⟩) (fun H3 hT3 hst3 hne3 hfn3 hFr3 => ?_)
        have hfe3 : ∀ (a2 : Nat) (k2 : Int), ¬ a2 = 36 → xE (zyEl zymc B H3) a2 k2 = xE (zyEl zymc B H2) a2 k2 := fun a2 k2 hne => by unfold xE; rw [hfn3 a2 k2.toNat (fun z => hne z.1)]
        have d35_1 : xE (zyEl zymc B H3) 35 1 = xE (zyEl zymc B H2) 35 1 := hfe3 35 1 (fun z => absurd z (by decide))
        have z35_1 : ((2147483648 : Nat) : Int) ≤ xE (zyEl zymc B H3) 35 1 + 2147483648 ∧ xE (zyEl zymc B H3) 35 1 + 2147483648 ≤ ((2147484548 : Nat) : Int) := xTyF hT3 35 1 1 rfl rfl rfl rfl rfl rfl
        refine ⟨⟨2, by decide⟩, [0, 34359738369, 68719476737], [0, (v2 1), (v2 2), xE (zyEl zymc B H3) 35 1], rfl, ⟨by decide +kernel, ⟨rfl, by decide +kernel⟩, (xcs_c rfl (xcs_c rfl (xcs_c rfl xcs_n))), (xe_0 (xe_f (by omega) (xe_c (by omega) (by omega) rfl (xe_c (by omega) (by omega) rfl xe_n)))), (xkq_c hT3 35 1 (q := 1) rfl rfl rfl rfl rfl rfl rfl rfl rfl rfl rfl xkq_n)⟩, rfl, ?_, ?_⟩
        · show ((v2 1) : Int) = x0 0 ∧ (xE (zyEl zymc B s.heap) 35 1 ≤ 896) ∧ ∃ j : Int, ((v2 2) : Int) = 24 - 8 * j ∧ j ≤ 3 ∧ xE (zyEl zymc B H3) 35 1 = xE (zyEl zymc B s.heap) 35 1 + j ∧ (0 ≤ j) ∧ (∀ k, 0 ≤ k → k < j + 1 → xE (zyEl zymc B H3) 36 (xE (zyEl zymc B s.heap) 35 1 + k) = fby (x0 0) k) ∧ (∀ k, 0 ≤ k → k < xE (zyEl zymc B s.heap) 35 1 → xE (zyEl zymc B H3) 36 k = xE (zyEl zymc B s.heap) 36 k)
          refine ⟨by omega, by omega, j, by omega, by omega, by omega, by omega, fun k k0 k1 => ?_, fun k k0 k1 => ?_⟩
          · by_cases e : k = j
            · rw [e, show xE (zyEl zymc B s.heap) 35 1 + j = (v2 3) by omega, hst3]
              unfold fby
              rw [f3]
              congr 2 <;> omega
            · rw [hne3 36 _ (by omega) (fun z => e (by have := z.2; omega)), e36 _]
              exact i5 k k0 (by omega)
          · rw [hne3 36 _ k0 (fun z => by have := z.2; omega), e36 _]
            exact i6 k k0 k1
        · show 2 * (100 + ((v2 2) : Int)).toNat < 2 * (100 + (v 2)).toNat + 1
          omega
      · skip
        have ex := List.mem_singleton.mp hx
        subst ex
        obtain ⟨hF, hBd, hM⟩ := hXs
        have r1 := hr2 1
        have g1 : v2 1 = v 1 := hag 1 (by decide)
        have g2 : v2 2 = v 2 := hag 2 (by decide)
        have b0 : ((2147483648 : Nat) : Int) ≤ (v2 2) + 2147483648 ∧ (v2 2) + 2147483648 ≤ ((2147483672 : Nat) : Int) := xXb hBd 0 rfl
        have b1 : ((2147484548 : Nat) : Int) ≤ (v2 3) + 2147483648 ∧ (v2 3) + 2147483648 ≤ ((2147484548 : Nat) : Int) := xXb hBd 1 rfl
        have b2 : ((2147483640 : Nat) : Int) ≤ (v2 2 + (-8)) + 2147483648 ∧ (v2 2 + (-8)) + 2147483648 ≤ ((2147483664 : Nat) : Int) := xXb hBd 2 rfl
        have f0 : 0 ≤ (v2 2) := xXf hF 0 rfl
        have f1 : (0 : Int) ≤ 1 ∧ xE (zyEl zymc B H) 35 1 = (v2 3) := xXf hF 1 rfl
        have f2 : 900 ≤ (v2 3) := xXf hF 2 rfl
        have e35_1 : xE (zyEl zymc B H2) 35 1 = xE (zyEl zymc B H) 35 1 := xFr_E hfr rfl
        have e36 : ∀ i, xE (zyEl zymc B H2) 36 i = xE (zyEl zymc B H) 36 i := fun i => xFr_E hfr rfl
        have y35_1 : ((2147483648 : Nat) : Int) ≤ xE (zyEl zymc B s.heap) 35 1 + 2147483648 ∧ xE (zyEl zymc B s.heap) 35 1 + 2147483648 ≤ ((2147484548 : Nat) : Int) := xTyF hT0 35 1 1 rfl rfl rfl rfl rfl rfl
        have hI : (v 1) = x0 0 ∧ (xE (zyEl zymc B s.heap) 35 1 ≤ 896) ∧ ∃ j : Int, (v 2) = 24 - 8 * j ∧ xE (zyEl zymc B H) 35 1 = xE (zyEl zymc B s.heap) 35 1 + j ∧ (0 ≤ j ∧ j ≤ 4) ∧ (∀ k, 0 ≤ k → k < j → xE (zyEl zymc B H) 36 (xE (zyEl zymc B s.heap) 35 1 + k) = fby (x0 0) k) ∧ (∀ k, 0 ≤ k → k < xE (zyEl zymc B s.heap) 35 1 → xE (zyEl zymc B H) 36 k = xE (zyEl zymc B s.heap) 36 k) := hInv
        obtain ⟨i0, i1, j, i2, i3, i4, i5, i6⟩ := hI
        exfalso
        omega
    · have hx : x ∈ [zxfap_cx0] := hx
      have hag : ∀ k, k < 4 → v2 k = v k := hag
      have hfr : xFr [(35, 1, 1)] _ _ := hfr
      have ex := List.mem_singleton.mp hx
      subst ex
      obtain ⟨hF, hBd, hM⟩ := hXs
      have r1 := hr2 1
      have g1 : v2 1 = v 1 := hag 1 (by decide)
      have g2 : v2 2 = v 2 := hag 2 (by decide)
      have g3 : v2 3 = v 3 := hag 3 (by decide)
      have b0 : ((2147483648 : Nat) : Int) ≤ (v2 2) + 2147483648 ∧ (v2 2) + 2147483648 ≤ ((2147483672 : Nat) : Int) := xXb hBd 0 rfl
      have b1 : ((2147483648 : Nat) : Int) ≤ (v2 3) + 2147483648 ∧ (v2 3) + 2147483648 ≤ ((2147484547 : Nat) : Int) := xXb hBd 1 rfl
      have b2 : ((2147483640 : Nat) : Int) ≤ (v2 2 + (-8)) + 2147483648 ∧ (v2 2 + (-8)) + 2147483648 ≤ ((2147483664 : Nat) : Int) := xXb hBd 2 rfl
      have k0 : xE (zyEl zymc B H) 35 1 = v 3 := xKcf hKc 0 rfl rfl
      have m0 : xE (zyEl zymc B H2) 35 1 = (v2 3 + 1) := xXm hM 0 rfl
      have e36 : ∀ i, xE (zyEl zymc B H2) 36 i = xE (zyEl zymc B H) 36 i := fun i => xFr_E hfr rfl
      have y35_1 : ((2147483648 : Nat) : Int) ≤ xE (zyEl zymc B s.heap) 35 1 + 2147483648 ∧ xE (zyEl zymc B s.heap) 35 1 + 2147483648 ≤ ((2147484548 : Nat) : Int) := xTyF hT0 35 1 1 rfl rfl rfl rfl rfl rfl
      have hI : (v 1) = x0 0 ∧ (xE (zyEl zymc B s.heap) 35 1 ≤ 896) ∧ ∃ j : Int, (v 2) = 24 - 8 * j ∧ j ≤ 3 ∧ xE (zyEl zymc B H) 35 1 = xE (zyEl zymc B s.heap) 35 1 + j ∧ (0 ≤ j) ∧ (∀ k, 0 ≤ k → k < j + 1 → xE (zyEl zymc B H) 36 (xE (zyEl zymc B s.heap) 35 1 + k) = fby (x0 0) k) ∧ (∀ k, 0 ≤ k → k < xE (zyEl zymc B s.heap) 35 1 → xE (zyEl zymc B H) 36 k = xE (zyEl zymc B s.heap) 36 k) := hInv
      obtain ⟨i0, i1, j, i2, i3, i4, i5, i6, i7⟩ := hI
      refine xGo hIH hAt hB hv hFr ⟨1, by decide⟩ [0, 34359738369, 103079215041] [0, (v2 1), (v2 2 + (-8))] rfl ⟨by decide +kernel, ⟨rfl, by decide +kernel⟩, (xcs_c rfl (xcs_c rfl (xcs_c rfl xcs_n))), (xe_0 (xe_f (by omega) (xe_c (by omega) (by omega) rfl xe_n))), xkq_n⟩ xst_n ?_ ?_
      · show ((v2 1) : Int) = x0 0 ∧ (xE (zyEl zymc B s.heap) 35 1 ≤ 896) ∧ ∃ j : Int, ((v2 2 + (-8)) : Int) = 24 - 8 * j ∧ xE (zyEl zymc B H2) 35 1 = xE (zyEl zymc B s.heap) 35 1 + j ∧ (0 ≤ j ∧ j ≤ 4) ∧ (∀ k, 0 ≤ k → k < j → xE (zyEl zymc B H2) 36 (xE (zyEl zymc B s.heap) 35 1 + k) = fby (x0 0) k) ∧ (∀ k, 0 ≤ k → k < xE (zyEl zymc B s.heap) 35 1 → xE (zyEl zymc B H2) 36 k = xE (zyEl zymc B s.heap) 36 k)
        exact ⟨by omega, by omega, j + 1, by omega, by omega, by omega, fun k k0 k1 => (e36 _).trans (i6 k k0 k1), fun k k0 k1 => (e36 k).trans (i7 k k0 k1)⟩
      · show 2 * (100 + ((v2 2 + (-8)) : Int)).toNat + 1 < 2 * (100 + (v 2)).toNat
        omega
  · intro x0 E0 E E2 hrx hT0 hΦ i v hT hrv hInv hKc hFr0 x hx v2 hr2 hXs hag hfr hFr hT2
    rcases i with ⟨i, hi⟩
    have hi2 : i = 0 ∨ i = 1 ∨ i = 2 := by omega
    rcases hi2 with rfl | rfl | rfl
    · cases hx
    · have hx : x ∈ [zxfap_br0] := hx
      have hag : ∀ k, k < 3 → v2 k = v k := hag
      have hfr : xFr [] _ _ := hfr
      have ex := List.mem_singleton.mp hx
      subst ex
      obtain ⟨hF, hBd, hM⟩ := hXs
      have g1 : v2 1 = v 1 := hag 1 (by decide)
      have g2 : v2 2 = v 2 := hag 2 (by decide)
      have b0 : ((2147483640 : Nat) : Int) ≤ (v2 2) + 2147483648 ∧ (v2 2) + 2147483648 ≤ ((2147483647 : Nat) : Int) := xXb hBd 0 rfl
      have f0 : (v2 2) < 0 := xXf hF 0 rfl
      have e35_1 : xE E2 35 1 = xE E 35 1 := xFr_E hfr rfl
      have e36 : ∀ i, xE E2 36 i = xE E 36 i := fun i => xFr_E hfr rfl
      have y35_1 : ((2147483648 : Nat) : Int) ≤ xE E0 35 1 + 2147483648 ∧ xE E0 35 1 + 2147483648 ≤ ((2147484548 : Nat) : Int) := xTyF hT0 35 1 1 rfl rfl rfl rfl rfl rfl
      have hI : (v 1) = x0 0 ∧ (xE E0 35 1 ≤ 896) ∧ ∃ j : Int, (v 2) = 24 - 8 * j ∧ xE E 35 1 = xE E0 35 1 + j ∧ (0 ≤ j ∧ j ≤ 4) ∧ (∀ k, 0 ≤ k → k < j → xE E 36 (xE E0 35 1 + k) = fby (x0 0) k) ∧ (∀ k, 0 ≤ k → k < xE E0 35 1 → xE E 36 k = xE E0 36 k) := hInv
      show xΨfap x0 E0 E2 0
      obtain ⟨i0, i1, j, i2, i3, i4, i5, i6⟩ := hI
      have hj : j = 4 := by omega
      subst hj
      exact ⟨by omega, fun k k0 k1 => (e36 _).trans (i5 k k0 k1), fun k k0 k1 => (e36 k).trans (i6 k k0 k1)⟩
    · cases hx
end
section
/-! THE CLASS: feed (printed by m16.py) -/
noncomputable def zxffe_zx0 : zyXp := (0, [3, 34359738369, 68719476737, 103079215105, 137438953473, 171798691841], [], [], [], [])
noncomputable def zpffe_z : zyPh := (0, [3, 34359738369, 68719476737, 103079215105, 137438953473, 171798691841], [(0, 4294967295), (0, 4294967295), (0, 4294967295), (0, 4294967295), (0, 4294967295), (0, 4294967295)], [], [])
noncomputable def zxffe_ax0 : zyXp := (23, [3, 34359738369, 68719476737, 103079215105, 137438953473, 171798691841], [34359738369, 283], [(21, 0, 7200, 206158430369)], [(206158430209, 2147483648, 2147484528)], [(573441, 206158430209)])
noncomputable def zxffe_ar0 : zyXp := (0, [], [34359738360], [(20, 0, 7200, 206158430369)], [(206158430209, 2147484529, 2147484548)], [(573441, 206158430209)])
noncomputable def zpffe_a : zyPh := (0, [3, 34359738369, 68719476737, 103079215105, 137438953473, 171798691841], [(0, 4294967295), (0, 4294967295), (0, 4294967295), (0, 4294967295), (0, 4294967295), (0, 4294967295), (2147483648, 2147484548)], [(573441, 206158430209)], [])
noncomputable def zxffe_b1x0 : zyXp := (31, [3, 34359738369, 68719476737, 103079215105, 137438953473, 171798691841], [68719476737, 283], [], [], [])
noncomputable def zpffe_b1 : zyPh := (26, [3, 34359738369, 68719476737, 103079215105, 137438953473, 171798691841], [(0, 4294967295), (0, 4294967295), (0, 4294967295), (0, 4294967295), (0, 4294967295), (0, 4294967295)], [], [])
noncomputable def zxffe_b2x0 : zyXp := (39, [3, 34359738369, 68719476737, 103079215105, 137438953473, 171798691841], [103079215105, 283], [], [], [])
noncomputable def zpffe_b2 : zyPh := (34, [3, 34359738369, 68719476737, 103079215105, 137438953473, 171798691841], [(0, 4294967295), (0, 4294967295), (0, 4294967295), (0, 4294967295), (0, 4294967295), (0, 4294967295)], [], [])
noncomputable def zxffe_b3x0 : zyXp := (48, [3, 34359738369, 68719476737, 103079215105, 137438953473, 171798691841], [137438953473, 283], [], [], [])
noncomputable def zpffe_b3 : zyPh := (42, [3, 34359738369, 68719476737, 103079215105, 137438953473, 171798691841], [(0, 4294967295), (0, 4294967295), (0, 4294967295), (0, 4294967295), (0, 4294967295), (0, 4294967295)], [], [])
noncomputable def zxffe_b4x0 : zyXp := (57, [3, 34359738369, 68719476737, 103079215105, 137438953473, 171798691841], [171798691841, 283], [], [], [])
noncomputable def zpffe_b4 : zyPh := (51, [3, 34359738369, 68719476737, 103079215105, 137438953473, 171798691841], [(0, 4294967295), (0, 4294967295), (0, 4294967295), (0, 4294967295), (0, 4294967295), (0, 4294967295)], [], [])
noncomputable def zxffe_b5r0 : zyXp := (0, [], [206158430209], [], [(206158430209, 2147483648, 2147484548)], [])
noncomputable def zpffe_b5 : zyPh := (60, [3, 34359738369, 68719476737, 103079215105, 137438953473, 171798691841], [(0, 4294967295), (0, 4294967295), (0, 4294967295), (0, 4294967295), (0, 4294967295), (0, 4294967295), (2147483648, 2147484548)], [(573441, 206158430209)], [])
noncomputable def zpffe (i : Nat) : zyPh := zif (Nat.beq i 0) (zpffe_z) (zif (Nat.beq i 1) (zpffe_a) (zif (Nat.beq i 2) (zpffe_b1) (zif (Nat.beq i 3) (zpffe_b2) (zif (Nat.beq i 4) (zpffe_b3) (zif (Nat.beq i 5) (zpffe_b4) (zpffe_b5))))))
noncomputable def zXffe (i : Nat) : List zyXp := zif (Nat.beq i 0) ([zxffe_zx0]) (zif (Nat.beq i 1) ([zxffe_ax0]) (zif (Nat.beq i 2) ([zxffe_b1x0]) (zif (Nat.beq i 3) ([zxffe_b2x0]) (zif (Nat.beq i 4) ([zxffe_b3x0]) (zif (Nat.beq i 5) ([zxffe_b4x0]) ([]))))))
noncomputable def zRffe (i : Nat) : List zyXp := zif (Nat.beq i 0) ([]) (zif (Nat.beq i 1) ([zxffe_ar0]) (zif (Nat.beq i 2) ([]) (zif (Nat.beq i 3) ([]) (zif (Nat.beq i 4) ([]) (zif (Nat.beq i 5) ([]) ([zxffe_b5r0]))))))
noncomputable def zFffe (i : Nat) : zyR := zif (Nat.beq i 0) ([]) (zif (Nat.beq i 1) ([]) (zif (Nat.beq i 2) ([]) (zif (Nat.beq i 3) ([]) (zif (Nat.beq i 4) ([]) (zif (Nat.beq i 5) ([]) ([]))))))
noncomputable def zSffe (i : Nat) : Nat := zif (Nat.beq i 0) (0) (zif (Nat.beq i 1) (0) (zif (Nat.beq i 2) (0) (zif (Nat.beq i 3) (0) (zif (Nat.beq i 4) (0) (zif (Nat.beq i 5) (0) (0))))))
/-- the k-th byte of five ints -/
def fbs (x : Nat → Int) (i : Int) : Int := fby (x (i / 4).toNat) (i % 4)
def xΦffe (_ : Nat → Int) (_ : zyEm) : Prop := True
def xΨffe (x : Nat → Int) (E E2 : zyEm) (r : Int) : Prop := if 880 < xE E 35 1 then r = -1 ∧ xE E2 35 1 = xE E 35 1 ∧ (∀ i, xE E2 36 i = xE E 36 i)
  else r = xE E 35 1 + 20 ∧ xE E2 35 1 = xE E 35 1 + 20 ∧ (∀ i, 0 ≤ i → i < 20 → xE E2 36 (xE E 35 1 + i) = fbs x i) ∧ (∀ i, 0 ≤ i → i < xE E 35 1 → xE E2 36 i = xE E 36 i)
noncomputable def fpffe : zyR := [(35, 1, 1), (36, 0, 899)]
theorem zyffe_run : zyrS zymc zxi120 (120, 0, 0, 1, 0) 2 zpffe (fun _ _ => []) zFffe zSffe zXffe zRffe 7 = true := by decide +kernel
theorem zyffe_ck : zyAll (fun i => xsubR (zFffe i) fpffe && ((zXffe i).all xckX && (zRffe i).all (fun x => xckX x && xrtB true x))) 7 = true := by decide +kernel
def xIffe (i : Nat) (x0 : Nat → Int) (E0 : zyEm) (v : Nat → Int) (E : zyEm) : Prop := if i = 0 then (E = E0 ∧ (v 1) = x0 0 ∧ (v 2) = x0 1 ∧ (v 3) = x0 2 ∧ (v 4) = x0 3 ∧ (v 5) = x0 4) else if i = 1 then (E = E0 ∧ (v 1) = x0 0 ∧ (v 2) = x0 1 ∧ (v 3) = x0 2 ∧ (v 4) = x0 3 ∧ (v 5) = x0 4) else if i = 2 then ((v 1) = x0 0 ∧ (v 2) = x0 1 ∧ (v 3) = x0 2 ∧ (v 4) = x0 3 ∧ (v 5) = x0 4 ∧ (xE E0 35 1 ≤ 880) ∧ (xE E 35 1 = xE E0 35 1 + 4) ∧ (∀ i, 0 ≤ i → i < 4 → xE E 36 (xE E0 35 1 + i) = fbs x0 i) ∧ (∀ i, 0 ≤ i → i < xE E0 35 1 → xE E 36 i = xE E0 36 i)) else if i = 3 then ((v 1) = x0 0 ∧ (v 2) = x0 1 ∧ (v 3) = x0 2 ∧ (v 4) = x0 3 ∧ (v 5) = x0 4 ∧ (xE E0 35 1 ≤ 880) ∧ (xE E 35 1 = xE E0 35 1 + 8) ∧ (∀ i, 0 ≤ i → i < 8 → xE E 36 (xE E0 35 1 + i) = fbs x0 i) ∧ (∀ i, 0 ≤ i → i < xE E0 35 1 → xE E 36 i = xE E0 36 i)) else if i = 4 then ((v 1) = x0 0 ∧ (v 2) = x0 1 ∧ (v 3) = x0 2 ∧ (v 4) = x0 3 ∧ (v 5) = x0 4 ∧ (xE E0 35 1 ≤ 880) ∧ (xE E 35 1 = xE E0 35 1 + 12) ∧ (∀ i, 0 ≤ i → i < 12 → xE E 36 (xE E0 35 1 + i) = fbs x0 i) ∧ (∀ i, 0 ≤ i → i < xE E0 35 1 → xE E 36 i = xE E0 36 i)) else if i = 5 then ((v 1) = x0 0 ∧ (v 2) = x0 1 ∧ (v 3) = x0 2 ∧ (v 4) = x0 3 ∧ (v 5) = x0 4 ∧ (xE E0 35 1 ≤ 880) ∧ (xE E 35 1 = xE E0 35 1 + 16) ∧ (∀ i, 0 ≤ i → i < 16 → xE E 36 (xE E0 35 1 + i) = fbs x0 i) ∧ (∀ i, 0 ≤ i → i < xE E0 35 1 → xE E 36 i = xE E0 36 i)) else ((v 1) = x0 0 ∧ (v 2) = x0 1 ∧ (v 3) = x0 2 ∧ (v 4) = x0 3 ∧ (v 5) = x0 4 ∧ (xE E0 35 1 ≤ 880) ∧ (xE E 35 1 = xE E0 35 1 + 20) ∧ (∀ i, 0 ≤ i → i < 20 → xE E 36 (xE E0 35 1 + i) = fbs x0 i) ∧ (∀ i, 0 ≤ i → i < xE E0 35 1 → xE E 36 i = xE E0 36 i))
def xMffe (i : Nat) (x0 : Nat → Int) (E0 : zyEm) (v : Nat → Int) (E : zyEm) : Nat := if i = 0 then (11) else if i = 1 then (10) else if i = 2 then (8) else if i = 3 then (7) else if i = 4 then (6) else if i = 5 then (5) else (4)
theorem xFe {l : Launch} {en : zEn} {me : zMe} (hen : zG zxMeta 120 = some en) (hme : zG zMeth 120 = some me) : xFc l zymc en me 2 [0] 5 fpffe true xΦffe xΨffe := by
  have een : zG zxMeta 120 = some (zxi120, 6, 6, 10, 120, 0, 0, 1, 0) := rfl
  obtain ⟨me1, hme1, hOK⟩ := zall hen
  rw [hme] at hme1
  cases hme1
  rw [een] at hen
  cases hen
  have hr := zyffe_run
  have hck := fun i hi => zyAll_iff zyffe_ck i hi
  simp only [Bool.and_eq_true] at hck
  obtain ⟨mefap, hmefap, -⟩ := zall (show zG zxMeta 57 = some (zxi57, 2, 3, 5, 57, 0, 0, 0, 0) from rfl)
  have hfap := xAp (l := l) (show zG zxMeta 57 = some (zxi57, 2, 3, 5, 57, 0, 0, 0, 0) from rfl) hmefap
  intro B
  refine xcut (mi := zymc) (B := B) hOK rfl rfl (ι := Fin 7) (fun i => zpffe i.val) (fun _ _ => []) (fun i => zFffe i.val) (fun i => zSffe i.val) (fun i => zXffe i.val) (fun i => zRffe i.val) (fun i y2 ct en2 me2 h => by cases h) 200000 (fun i => zyAll_iff hr i.val i.isLt) (fun i => (hck i.val i.isLt).1) (fun i => (hck i.val i.isLt).2.1) (fun i => (hck i.val i.isLt).2.2) ⟨0, by decide⟩ ⟨rfl, rfl, rfl, rfl⟩ ⟨by decide, by decide⟩ (fun i x0 E0 v E => xIffe i.val x0 E0 v E) (fun i x0 E0 v E => xMffe i.val x0 E0 v E) ?_ ?_ ?_
  · intro x0 E hx0 hT hΦ
    have hΦ : xΦffe x0 E := hΦ
    refine ⟨fun k p hp => ?_, ?_⟩
    · have hk : k < 6 := (List.getElem?_eq_some_iff.mp hp).1
      have hk : k = 0 ∨ k = 1 ∨ k = 2 ∨ k = 3 ∨ k = 4 ∨ k = 5 := by omega
      rcases hk with rfl | rfl | rfl | rfl | rfl | rfl
      · have hp : some (0, 4294967295) = some p := hp
        cases hp
        show ((0 : Nat) : Int) ≤ 0 + 2147483648 ∧ 0 + 2147483648 ≤ ((4294967295 : Nat) : Int)
        omega
      · have hp : some (0, 4294967295) = some p := hp
        cases hp
        show ((0 : Nat) : Int) ≤ x0 0 + 2147483648 ∧ x0 0 + 2147483648 ≤ ((4294967295 : Nat) : Int)
        have hx := hx0 0
        omega
      · have hp : some (0, 4294967295) = some p := hp
        cases hp
        show ((0 : Nat) : Int) ≤ x0 1 + 2147483648 ∧ x0 1 + 2147483648 ≤ ((4294967295 : Nat) : Int)
        have hx := hx0 1
        omega
      · have hp : some (0, 4294967295) = some p := hp
        cases hp
        show ((0 : Nat) : Int) ≤ x0 2 + 2147483648 ∧ x0 2 + 2147483648 ≤ ((4294967295 : Nat) : Int)
        have hx := hx0 2
        omega
      · have hp : some (0, 4294967295) = some p := hp
        cases hp
        show ((0 : Nat) : Int) ≤ x0 3 + 2147483648 ∧ x0 3 + 2147483648 ≤ ((4294967295 : Nat) : Int)
        have hx := hx0 3
        omega
      · have hp : some (0, 4294967295) = some p := hp
        cases hp
        show ((0 : Nat) : Int) ≤ x0 4 + 2147483648 ∧ x0 4 + 2147483648 ≤ ((4294967295 : Nat) : Int)
        have hx := hx0 4
        omega
    · show E = E ∧ (x0 0) = x0 0 ∧ (x0 1) = x0 1 ∧ (x0 2) = x0 2 ∧ (x0 3) = x0 3 ∧ (x0 4) = x0 4
      exact ⟨rfl, rfl, rfl, rfl, rfl, rfl⟩
  · intro x0 s Wg hRu hrx hT0 hΦ i v H hT hrv hInv hKc hFr0 hIH x hx ρ2 v2 N2 H2 locs lsB stA hAt hB hv hr2 hXs hag hfr hFr hT2
    rcases i with ⟨i, hi⟩
    have hi2 : i = 0 ∨ i = 1 ∨ i = 2 ∨ i = 3 ∨ i = 4 ∨ i = 5 ∨ i = 6 := by omega
    rcases hi2 with rfl | rfl | rfl | rfl | rfl | rfl | rfl
    · have hx : x ∈ [zxffe_zx0] := hx
      have hag : ∀ k, k < 6 → v2 k = v k := hag
      have hfr : xFr [] _ _ := hfr
      have ex := List.mem_singleton.mp hx
      subst ex
      obtain ⟨hF, hBd, hM⟩ := hXs
      have r1 := hr2 1
      have r2 := hr2 2
      have r3 := hr2 3
      have r4 := hr2 4
      have r5 := hr2 5
      have g1 : v2 1 = v 1 := hag 1 (by decide)
      have g2 : v2 2 = v 2 := hag 2 (by decide)
      have g3 : v2 3 = v 3 := hag 3 (by decide)
      have g4 : v2 4 = v 4 := hag 4 (by decide)
      have g5 : v2 5 = v 5 := hag 5 (by decide)
      have e35_1 : xE (zyEl zymc B H2) 35 1 = xE (zyEl zymc B H) 35 1 := xFr_E hfr rfl
      have e36 : ∀ i, xE (zyEl zymc B H2) 36 i = xE (zyEl zymc B H) 36 i := fun i => xFr_E hfr rfl
      have y35_1 : ((2147483648 : Nat) : Int) ≤ xE (zyEl zymc B s.heap) 35 1 + 2147483648 ∧ xE (zyEl zymc B s.heap) 35 1 + 2147483648 ≤ ((2147484548 : Nat) : Int) := xTyF hT0 35 1 1 rfl rfl rfl rfl rfl rfl
      have hI : (zyEl zymc B H) = (zyEl zymc B s.heap) ∧ (v 1) = x0 0 ∧ (v 2) = x0 1 ∧ (v 3) = x0 2 ∧ (v 4) = x0 3 ∧ (v 5) = x0 4 := hInv
      have q35_1 : xE (zyEl zymc B H) 35 1 = xE (zyEl zymc B s.heap) 35 1 := by rw [hI.1]
      have q36 : ∀ i, xE (zyEl zymc B H) 36 i = xE (zyEl zymc B s.heap) 36 i := fun i => by rw [hI.1]
      obtain ⟨hE, i1, i2, i3, i4, i5⟩ := hI
      have z35_1 : ((2147483648 : Nat) : Int) ≤ xE (zyEl zymc B H2) 35 1 + 2147483648 ∧ xE (zyEl zymc B H2) 35 1 + 2147483648 ≤ ((2147484548 : Nat) : Int) := xTyF hT2 35 1 1 rfl rfl rfl rfl rfl rfl
      refine xGo hIH hAt hB hv hFr ⟨1, by decide⟩ [0, 34359738369, 68719476737, 103079215105, 137438953473, 171798691841] [0, (v2 1), (v2 2), (v2 3), (v2 4), (v2 5), xE (zyEl zymc B H2) 35 1] rfl ⟨by decide +kernel, ⟨rfl, by decide +kernel⟩, (xcs_c rfl (xcs_c rfl (xcs_c rfl (xcs_c rfl (xcs_c rfl (xcs_c rfl xcs_n)))))), (xe_0 (xe_f (by omega) (xe_f (by omega) (xe_f (by omega) (xe_f (by omega) (xe_f (by omega) (xe_c (by omega) (by omega) rfl xe_n))))))), (xkq_c hT2 35 1 (q := 1) rfl rfl rfl rfl rfl rfl rfl rfl rfl rfl rfl xkq_n)⟩ xst_n ?_ ?_
      · show (zyEl zymc B H2) = (zyEl zymc B s.heap) ∧ ((v2 1) : Int) = x0 0 ∧ ((v2 2) : Int) = x0 1 ∧ ((v2 3) : Int) = x0 2 ∧ ((v2 4) : Int) = x0 3 ∧ ((v2 5) : Int) = x0 4
        exact ⟨(xFr_n hfr).trans hE, by omega, by omega, by omega, by omega, by omega⟩
      · show 10 < 11
        omega
    · have hx : x ∈ [zxffe_ax0] := hx
      have hag : ∀ k, k < 7 → v2 k = v k := hag
      have hfr : xFr [] _ _ := hfr
      have ex := List.mem_singleton.mp hx
      subst ex
      obtain ⟨hF, hBd, hM⟩ := hXs
      have r1 := hr2 1
      have r2 := hr2 2
      have r3 := hr2 3
      have r4 := hr2 4
      have r5 := hr2 5
      have g1 : v2 1 = v 1 := hag 1 (by decide)
      have g2 : v2 2 = v 2 := hag 2 (by decide)
      have g3 : v2 3 = v 3 := hag 3 (by decide)
      have g4 : v2 4 = v 4 := hag 4 (by decide)
      have g5 : v2 5 = v 5 := hag 5 (by decide)
      have g6 : v2 6 = v 6 := hag 6 (by decide)
      have b0 : ((2147483648 : Nat) : Int) ≤ (v2 6) + 2147483648 ∧ (v2 6) + 2147483648 ≤ ((2147484528 : Nat) : Int) := xXb hBd 0 rfl
      have k0 : xE (zyEl zymc B H) 35 1 = v 6 := xKcf hKc 0 rfl rfl
      have f0 : (v2 6 + 20) ≤ 900 := xXf hF 0 rfl
      have m0 : xE (zyEl zymc B H2) 35 1 = (v2 6) := xXm hM 0 rfl
      have e35_1 : xE (zyEl zymc B H2) 35 1 = xE (zyEl zymc B H) 35 1 := xFr_E hfr rfl
      have e36 : ∀ i, xE (zyEl zymc B H2) 36 i = xE (zyEl zymc B H) 36 i := fun i => xFr_E hfr rfl
      have y35_1 : ((2147483648 : Nat) : Int) ≤ xE (zyEl zymc B s.heap) 35 1 + 2147483648 ∧ xE (zyEl zymc B s.heap) 35 1 + 2147483648 ≤ ((2147484548 : Nat) : Int) := xTyF hT0 35 1 1 rfl rfl rfl rfl rfl rfl
      have hI : (zyEl zymc B H) = (zyEl zymc B s.heap) ∧ (v 1) = x0 0 ∧ (v 2) = x0 1 ∧ (v 3) = x0 2 ∧ (v 4) = x0 3 ∧ (v 5) = x0 4 := hInv
      have q35_1 : xE (zyEl zymc B H) 35 1 = xE (zyEl zymc B s.heap) 35 1 := by rw [hI.1]
      have q36 : ∀ i, xE (zyEl zymc B H) 36 i = xE (zyEl zymc B s.heap) 36 i := fun i => by rw [hI.1]
      obtain ⟨hE, i1, i2, i3, i4, i5⟩ := hI
      refine xCa hRu hIH hAt hB hv hFr (hfap B) (ix := 93) (ax := 913) rfl rfl rfl hmefap ⟨_, rfl, rfl, by decide⟩ ⟨rfl, rfl, rfl⟩ (by decide) [34359738369] [] [(v2 1)] rfl ⟨rfl, rfl⟩ (by decide +kernel) (xcs_c rfl xcs_n) (by decide +kernel) ?_ (fun H3 r hT3 hf3 hFr3 hr3 hΨ3 => ?_)
      · show xΦfap (xfv [(v2 1)]) (zyEl zymc B H2)
        unfold xΦfap
        omega
      · have hΨ3 : xΨfap (xfv [(v2 1)]) (zyEl zymc B H2) (zyEl zymc B H3) r := hΨ3
        skip
        obtain ⟨p1, p2, p3⟩ := hΨ3
        have hx : xfv [(v2 1)] 0 = x0 0 := by show (v2 1) = _; omega
        refine ⟨⟨2, by decide⟩, [0, 34359738369, 68719476737, 103079215105, 137438953473, 171798691841], [0, (v2 1), (v2 2), (v2 3), (v2 4), (v2 5)], rfl, ⟨by decide +kernel, ⟨rfl, by decide +kernel⟩, (xcs_c rfl (xcs_c rfl (xcs_c rfl (xcs_c rfl (xcs_c rfl (xcs_c rfl xcs_n)))))), (xe_0 (xe_f (by omega) (xe_f (by omega) (xe_f (by omega) (xe_f (by omega) (xe_f (by omega) xe_n)))))), xkq_n⟩, (by rw [if_neg (by decide)]; exact xst_n), ?_, ?_⟩
        · show ((v2 1) : Int) = x0 0 ∧ ((v2 2) : Int) = x0 1 ∧ ((v2 3) : Int) = x0 2 ∧ ((v2 4) : Int) = x0 3 ∧ ((v2 5) : Int) = x0 4 ∧ (xE (zyEl zymc B s.heap) 35 1 ≤ 880) ∧ (xE (zyEl zymc B H3) 35 1 = xE (zyEl zymc B s.heap) 35 1 + 4) ∧ (∀ i, 0 ≤ i → i < 4 → xE (zyEl zymc B H3) 36 (xE (zyEl zymc B s.heap) 35 1 + i) = fbs x0 i) ∧ (∀ i, 0 ≤ i → i < xE (zyEl zymc B s.heap) 35 1 → xE (zyEl zymc B H3) 36 i = xE (zyEl zymc B s.heap) 36 i)
          refine ⟨by omega, by omega, by omega, by omega, by omega, by omega, by omega, fun i k0 k1 => ?_, fun i k0 k1 => ?_⟩
          · by_cases hq : i < 0
            · omega
            · have w := p2 (i - 0) (by omega) (by omega)
              rw [show xE (zyEl zymc B H2) 35 1 + (i - 0) = xE (zyEl zymc B s.heap) 35 1 + i by omega, hx] at w
              rw [w]
              unfold fbs
              rw [show i / 4 = 0 by omega, show i % 4 = i - 0 by omega]
              rfl
          · rw [p3 _ (by omega) (by omega)]
            rw [e36, q36]
        · show 8 < 10
          omega
    · have hx : x ∈ [zxffe_b1x0] := hx
      have hag : ∀ k, k < 6 → v2 k = v k := hag
      have hfr : xFr [] _ _ := hfr
      have ex := List.mem_singleton.mp hx
      subst ex
      obtain ⟨hF, hBd, hM⟩ := hXs
      have r1 := hr2 1
      have r2 := hr2 2
      have r3 := hr2 3
      have r4 := hr2 4
      have r5 := hr2 5
      have g1 : v2 1 = v 1 := hag 1 (by decide)
      have g2 : v2 2 = v 2 := hag 2 (by decide)
      have g3 : v2 3 = v 3 := hag 3 (by decide)
      have g4 : v2 4 = v 4 := hag 4 (by decide)
      have g5 : v2 5 = v 5 := hag 5 (by decide)
      have e35_1 : xE (zyEl zymc B H2) 35 1 = xE (zyEl zymc B H) 35 1 := xFr_E hfr rfl
      have e36 : ∀ i, xE (zyEl zymc B H2) 36 i = xE (zyEl zymc B H) 36 i := fun i => xFr_E hfr rfl
      have y35_1 : ((2147483648 : Nat) : Int) ≤ xE (zyEl zymc B s.heap) 35 1 + 2147483648 ∧ xE (zyEl zymc B s.heap) 35 1 + 2147483648 ≤ ((2147484548 : Nat) : Int) := xTyF hT0 35 1 1 rfl rfl rfl rfl rfl rfl
      have hI : (v 1) = x0 0 ∧ (v 2) = x0 1 ∧ (v 3) = x0 2 ∧ (v 4) = x0 3 ∧ (v 5) = x0 4 ∧ (xE (zyEl zymc B s.heap) 35 1 ≤ 880) ∧ (xE (zyEl zymc B H) 35 1 = xE (zyEl zymc B s.heap) 35 1 + 4) ∧ (∀ i, 0 ≤ i → i < 4 → xE (zyEl zymc B H) 36 (xE (zyEl zymc B s.heap) 35 1 + i) = fbs x0 i) ∧ (∀ i, 0 ≤ i → i < xE (zyEl zymc B s.heap) 35 1 → xE (zyEl zymc B H) 36 i = xE (zyEl zymc B s.heap) 36 i) := hInv
      obtain ⟨i1, i2, i3, i4, i5, i6, i7, j1, j2⟩ := hI
      refine xCa hRu hIH hAt hB hv hFr (hfap B) (ix := 93) (ax := 913) rfl rfl rfl hmefap ⟨_, rfl, rfl, by decide⟩ ⟨rfl, rfl, rfl⟩ (by decide) [68719476737] [] [(v2 2)] rfl ⟨rfl, rfl⟩ (by decide +kernel) (xcs_c rfl xcs_n) (by decide +kernel) ?_ (fun H3 r hT3 hf3 hFr3 hr3 hΨ3 => ?_)
      · show xΦfap (xfv [(v2 2)]) (zyEl zymc B H2)
        unfold xΦfap
        omega
      · have hΨ3 : xΨfap (xfv [(v2 2)]) (zyEl zymc B H2) (zyEl zymc B H3) r := hΨ3
        skip
        obtain ⟨p1, p2, p3⟩ := hΨ3
        have hx : xfv [(v2 2)] 0 = x0 1 := by show (v2 2) = _; omega
        refine ⟨⟨3, by decide⟩, [0, 34359738369, 68719476737, 103079215105, 137438953473, 171798691841], [0, (v2 1), (v2 2), (v2 3), (v2 4), (v2 5)], rfl, ⟨by decide +kernel, ⟨rfl, by decide +kernel⟩, (xcs_c rfl (xcs_c rfl (xcs_c rfl (xcs_c rfl (xcs_c rfl (xcs_c rfl xcs_n)))))), (xe_0 (xe_f (by omega) (xe_f (by omega) (xe_f (by omega) (xe_f (by omega) (xe_f (by omega) xe_n)))))), xkq_n⟩, (by rw [if_neg (by decide)]; exact xst_n), ?_, ?_⟩
        · show ((v2 1) : Int) = x0 0 ∧ ((v2 2) : Int) = x0 1 ∧ ((v2 3) : Int) = x0 2 ∧ ((v2 4) : Int) = x0 3 ∧ ((v2 5) : Int) = x0 4 ∧ (xE (zyEl zymc B s.heap) 35 1 ≤ 880) ∧ (xE (zyEl zymc B H3) 35 1 = xE (zyEl zymc B s.heap) 35 1 + 8) ∧ (∀ i, 0 ≤ i → i < 8 → xE (zyEl zymc B H3) 36 (xE (zyEl zymc B s.heap) 35 1 + i) = fbs x0 i) ∧ (∀ i, 0 ≤ i → i < xE (zyEl zymc B s.heap) 35 1 → xE (zyEl zymc B H3) 36 i = xE (zyEl zymc B s.heap) 36 i)
          refine ⟨by omega, by omega, by omega, by omega, by omega, by omega, by omega, fun i k0 k1 => ?_, fun i k0 k1 => ?_⟩
          · by_cases hq : i < 4
            · rw [p3 _ (by omega) (by omega)]
              rw [e36]
              exact j1 i k0 hq
            · have w := p2 (i - 4) (by omega) (by omega)
              rw [show xE (zyEl zymc B H2) 35 1 + (i - 4) = xE (zyEl zymc B s.heap) 35 1 + i by omega, hx] at w
              rw [w]
              unfold fbs
              rw [show i / 4 = 1 by omega, show i % 4 = i - 4 by omega]
              rfl
          · rw [p3 _ (by omega) (by omega)]
            rw [e36]
            exact j2 i k0 k1
        · show 7 < 8
          omega
    · have hx : x ∈ [zxffe_b2x0] := hx
      have hag : ∀ k, k < 6 → v2 k = v k := hag
      have hfr : xFr [] _ _ := hfr
      have ex := List.mem_singleton.mp hx
      subst ex
      obtain ⟨hF, hBd, hM⟩ := hXs
      have r1 := hr2 1
      have r2 := hr2 2
      have r3 := hr2 3
      have r4 := hr2 4
      have r5 := hr2 5
      have g1 : v2 1 = v 1 := hag 1 (by decide)
      have g2 : v2 2 = v 2 := hag 2 (by decide)
      have g3 : v2 3 = v 3 := hag 3 (by decide)
      have g4 : v2 4 = v 4 := hag 4 (by decide)
      have g5 : v2 5 = v 5 := hag 5 (by decide)
      have e35_1 : xE (zyEl zymc B H2) 35 1 = xE (zyEl zymc B H) 35 1 := xFr_E hfr rfl
      have e36 : ∀ i, xE (zyEl zymc B H2) 36 i = xE (zyEl zymc B H) 36 i := fun i => xFr_E hfr rfl
      have y35_1 : ((2147483648 : Nat) : Int) ≤ xE (zyEl zymc B s.heap) 35 1 + 2147483648 ∧ xE (zyEl zymc B s.heap) 35 1 + 2147483648 ≤ ((2147484548 : Nat) : Int) := xTyF hT0 35 1 1 rfl rfl rfl rfl rfl rfl
      have hI : (v 1) = x0 0 ∧ (v 2) = x0 1 ∧ (v 3) = x0 2 ∧ (v 4) = x0 3 ∧ (v 5) = x0 4 ∧ (xE (zyEl zymc B s.heap) 35 1 ≤ 880) ∧ (xE (zyEl zymc B H) 35 1 = xE (zyEl zymc B s.heap) 35 1 + 8) ∧ (∀ i, 0 ≤ i → i < 8 → xE (zyEl zymc B H) 36 (xE (zyEl zymc B s.heap) 35 1 + i) = fbs x0 i) ∧ (∀ i, 0 ≤ i → i < xE (zyEl zymc B s.heap) 35 1 → xE (zyEl zymc B H) 36 i = xE (zyEl zymc B s.heap) 36 i) := hInv
      obtain ⟨i1, i2, i3, i4, i5, i6, i7, j1, j2⟩ := hI
      refine xCa hRu hIH hAt hB hv hFr (hfap B) (ix := 93) (ax := 913) rfl rfl rfl hmefap ⟨_, rfl, rfl, by decide⟩ ⟨rfl, rfl, rfl⟩ (by decide) [103079215105] [] [(v2 3)] rfl ⟨rfl, rfl⟩ (by decide +kernel) (xcs_c rfl xcs_n) (by decide +kernel) ?_ (fun H3 r hT3 hf3 hFr3 hr3 hΨ3 => ?_)
      · show xΦfap (xfv [(v2 3)]) (zyEl zymc B H2)
        unfold xΦfap
        omega
      · have hΨ3 : xΨfap (xfv [(v2 3)]) (zyEl zymc B H2) (zyEl zymc B H3) r := hΨ3
        skip
        obtain ⟨p1, p2, p3⟩ := hΨ3
        have hx : xfv [(v2 3)] 0 = x0 2 := by show (v2 3) = _; omega
        refine ⟨⟨4, by decide⟩, [0, 34359738369, 68719476737, 103079215105, 137438953473, 171798691841], [0, (v2 1), (v2 2), (v2 3), (v2 4), (v2 5)], rfl, ⟨by decide +kernel, ⟨rfl, by decide +kernel⟩, (xcs_c rfl (xcs_c rfl (xcs_c rfl (xcs_c rfl (xcs_c rfl (xcs_c rfl xcs_n)))))), (xe_0 (xe_f (by omega) (xe_f (by omega) (xe_f (by omega) (xe_f (by omega) (xe_f (by omega) xe_n)))))), xkq_n⟩, (by rw [if_neg (by decide)]; exact xst_n), ?_, ?_⟩
        · show ((v2 1) : Int) = x0 0 ∧ ((v2 2) : Int) = x0 1 ∧ ((v2 3) : Int) = x0 2 ∧ ((v2 4) : Int) = x0 3 ∧ ((v2 5) : Int) = x0 4 ∧ (xE (zyEl zymc B s.heap) 35 1 ≤ 880) ∧ (xE (zyEl zymc B H3) 35 1 = xE (zyEl zymc B s.heap) 35 1 + 12) ∧ (∀ i, 0 ≤ i → i < 12 → xE (zyEl zymc B H3) 36 (xE (zyEl zymc B s.heap) 35 1 + i) = fbs x0 i) ∧ (∀ i, 0 ≤ i → i < xE (zyEl zymc B s.heap) 35 1 → xE (zyEl zymc B H3) 36 i = xE (zyEl zymc B s.heap) 36 i)
          refine ⟨by omega, by omega, by omega, by omega, by omega, by omega, by omega, fun i k0 k1 => ?_, fun i k0 k1 => ?_⟩
          · by_cases hq : i < 8
            · rw [p3 _ (by omega) (by omega)]
              rw [e36]
              exact j1 i k0 hq
            · have w := p2 (i - 8) (by omega) (by omega)
              rw [show xE (zyEl zymc B H2) 35 1 + (i - 8) = xE (zyEl zymc B s.heap) 35 1 + i by omega, hx] at w
              rw [w]
              unfold fbs
              rw [show i / 4 = 2 by omega, show i % 4 = i - 8 by omega]
              rfl
          · rw [p3 _ (by omega) (by omega)]
            rw [e36]
            exact j2 i k0 k1
        · show 6 < 7
          omega
    · have hx : x ∈ [zxffe_b3x0] := hx
      have hag : ∀ k, k < 6 → v2 k = v k := hag
      have hfr : xFr [] _ _ := hfr
      have ex := List.mem_singleton.mp hx
      subst ex
      obtain ⟨hF, hBd, hM⟩ := hXs
      have r1 := hr2 1
      have r2 := hr2 2
      have r3 := hr2 3
      have r4 := hr2 4
      have r5 := hr2 5
      have g1 : v2 1 = v 1 := hag 1 (by decide)
      have g2 : v2 2 = v 2 := hag 2 (by decide)
      have g3 : v2 3 = v 3 := hag 3 (by decide)
      have g4 : v2 4 = v 4 := hag 4 (by decide)
      have g5 : v2 5 = v 5 := hag 5 (by decide)
      have e35_1 : xE (zyEl zymc B H2) 35 1 = xE (zyEl zymc B H) 35 1 := xFr_E hfr rfl
      have e36 : ∀ i, xE (zyEl zymc B H2) 36 i = xE (zyEl zymc B H) 36 i := fun i => xFr_E hfr rfl
      have y35_1 : ((2147483648 : Nat) : Int) ≤ xE (zyEl zymc B s.heap) 35 1 + 2147483648 ∧ xE (zyEl zymc B s.heap) 35 1 + 2147483648 ≤ ((2147484548 : Nat) : Int) := xTyF hT0 35 1 1 rfl rfl rfl rfl rfl rfl
      have hI : (v 1) = x0 0 ∧ (v 2) = x0 1 ∧ (v 3) = x0 2 ∧ (v 4) = x0 3 ∧ (v 5) = x0 4 ∧ (xE (zyEl zymc B s.heap) 35 1 ≤ 880) ∧ (xE (zyEl zymc B H) 35 1 = xE (zyEl zymc B s.heap) 35 1 + 12) ∧ (∀ i, 0 ≤ i → i < 12 → xE (zyEl zymc B H) 36 (xE (zyEl zymc B s.heap) 35 1 + i) = fbs x0 i) ∧ (∀ i, 0 ≤ i → i < xE (zyEl zymc B s.heap) 35 1 → xE (zyEl zymc B H) 36 i = xE (zyEl zymc B s.heap) 36 i) := hInv
      obtain ⟨i1, i2, i3, i4, i5, i6, i7, j1, j2⟩ := hI
      refine xCa hRu hIH hAt hB hv hFr (hfap B) (ix := 93) (ax := 913) rfl rfl rfl hmefap ⟨_, rfl, rfl, by decide⟩ ⟨rfl, rfl, rfl⟩ (by decide) [137438953473] [] [(v2 4)] rfl ⟨rfl, rfl⟩ (by decide +kernel) (xcs_c rfl xcs_n) (by decide +kernel) ?_ (fun H3 r hT3 hf3 hFr3 hr3 hΨ3 => ?_)
      · show xΦfap (xfv [(v2 4)]) (zyEl zymc B H2)
        unfold xΦfap
        omega
      · have hΨ3 : xΨfap (xfv [(v2 4)]) (zyEl zymc B H2) (zyEl zymc B H3) r := hΨ3
        skip
        obtain ⟨p1, p2, p3⟩ := hΨ3
        have hx : xfv [(v2 4)] 0 = x0 3 := by show (v2 4) = _; omega
        refine ⟨⟨5, by decide⟩, [0, 34359738369, 68719476737, 103079215105, 137438953473, 171798691841], [0, (v2 1), (v2 2), (v2 3), (v2 4), (v2 5)], rfl, ⟨by decide +kernel, ⟨rfl, by decide +kernel⟩, (xcs_c rfl (xcs_c rfl (xcs_c rfl (xcs_c rfl (xcs_c rfl (xcs_c rfl xcs_n)))))), (xe_0 (xe_f (by omega) (xe_f (by omega) (xe_f (by omega) (xe_f (by omega) (xe_f (by omega) xe_n)))))), xkq_n⟩, (by rw [if_neg (by decide)]; exact xst_n), ?_, ?_⟩
        · show ((v2 1) : Int) = x0 0 ∧ ((v2 2) : Int) = x0 1 ∧ ((v2 3) : Int) = x0 2 ∧ ((v2 4) : Int) = x0 3 ∧ ((v2 5) : Int) = x0 4 ∧ (xE (zyEl zymc B s.heap) 35 1 ≤ 880) ∧ (xE (zyEl zymc B H3) 35 1 = xE (zyEl zymc B s.heap) 35 1 + 16) ∧ (∀ i, 0 ≤ i → i < 16 → xE (zyEl zymc B H3) 36 (xE (zyEl zymc B s.heap) 35 1 + i) = fbs x0 i) ∧ (∀ i, 0 ≤ i → i < xE (zyEl zymc B s.heap) 35 1 → xE (zyEl zymc B H3) 36 i = xE (zyEl zymc B s.heap) 36 i)
          refine ⟨by omega, by omega, by omega, by omega, by omega, by omega, by omega, fun i k0 k1 => ?_, fun i k0 k1 => ?_⟩
          · by_cases hq : i < 12
            · rw [p3 _ (by omega) (by omega)]
              rw [e36]
              exact j1 i k0 hq
            · have w := p2 (i - 12) (by omega) (by omega)
              rw [show xE (zyEl zymc B H2) 35 1 + (i - 12) = xE (zyEl zymc B s.heap) 35 1 + i by omega, hx] at w
              rw [w]
              unfold fbs
              rw [show i / 4 = 3 by omega, show i % 4 = i - 12 by omega]
              rfl
          · rw [p3 _ (by omega) (by omega)]
            rw [e36]
            exact j2 i k0 k1
        · show 5 < 6
          omega
    · have hx : x ∈ [zxffe_b4x0] := hx
      have hag : ∀ k, k < 6 → v2 k = v k := hag
      have hfr : xFr [] _ _ := hfr
      have ex := List.mem_singleton.mp hx
      subst ex
      obtain ⟨hF, hBd, hM⟩ := hXs
      have r1 := hr2 1
      have r2 := hr2 2
      have r3 := hr2 3
      have r4 := hr2 4
      have r5 := hr2 5
      have g1 : v2 1 = v 1 := hag 1 (by decide)
      have g2 : v2 2 = v 2 := hag 2 (by decide)
      have g3 : v2 3 = v 3 := hag 3 (by decide)
      have g4 : v2 4 = v 4 := hag 4 (by decide)
      have g5 : v2 5 = v 5 := hag 5 (by decide)
      have e35_1 : xE (zyEl zymc B H2) 35 1 = xE (zyEl zymc B H) 35 1 := xFr_E hfr rfl
      have e36 : ∀ i, xE (zyEl zymc B H2) 36 i = xE (zyEl zymc B H) 36 i := fun i => xFr_E hfr rfl
      have y35_1 : ((2147483648 : Nat) : Int) ≤ xE (zyEl zymc B s.heap) 35 1 + 2147483648 ∧ xE (zyEl zymc B s.heap) 35 1 + 2147483648 ≤ ((2147484548 : Nat) : Int) := xTyF hT0 35 1 1 rfl rfl rfl rfl rfl rfl
      have hI : (v 1) = x0 0 ∧ (v 2) = x0 1 ∧ (v 3) = x0 2 ∧ (v 4) = x0 3 ∧ (v 5) = x0 4 ∧ (xE (zyEl zymc B s.heap) 35 1 ≤ 880) ∧ (xE (zyEl zymc B H) 35 1 = xE (zyEl zymc B s.heap) 35 1 + 16) ∧ (∀ i, 0 ≤ i → i < 16 → xE (zyEl zymc B H) 36 (xE (zyEl zymc B s.heap) 35 1 + i) = fbs x0 i) ∧ (∀ i, 0 ≤ i → i < xE (zyEl zymc B s.heap) 35 1 → xE (zyEl zymc B H) 36 i = xE (zyEl zymc B s.heap) 36 i) := hInv
      obtain ⟨i1, i2, i3, i4, i5, i6, i7, j1, j2⟩ := hI
      refine xCa hRu hIH hAt hB hv hFr (hfap B) (ix := 93) (ax := 913) rfl rfl rfl hmefap ⟨_, rfl, rfl, by decide⟩ ⟨rfl, rfl, rfl⟩ (by decide) [171798691841] [] [(v2 5)] rfl ⟨rfl, rfl⟩ (by decide +kernel) (xcs_c rfl xcs_n) (by decide +kernel) ?_ (fun H3 r hT3 hf3 hFr3 hr3 hΨ3 => ?_)
      · show xΦfap (xfv [(v2 5)]) (zyEl zymc B H2)
        unfold xΦfap
        omega
      · have hΨ3 : xΨfap (xfv [(v2 5)]) (zyEl zymc B H2) (zyEl zymc B H3) r := hΨ3
        have z35_1 : ((2147483648 : Nat) : Int) ≤ xE (zyEl zymc B H3) 35 1 + 2147483648 ∧ xE (zyEl zymc B H3) 35 1 + 2147483648 ≤ ((2147484548 : Nat) : Int) := xTyF hT3 35 1 1 rfl rfl rfl rfl rfl rfl
        obtain ⟨p1, p2, p3⟩ := hΨ3
        have hx : xfv [(v2 5)] 0 = x0 4 := by show (v2 5) = _; omega
        refine ⟨⟨6, by decide⟩, [0, 34359738369, 68719476737, 103079215105, 137438953473, 171798691841], [0, (v2 1), (v2 2), (v2 3), (v2 4), (v2 5), xE (zyEl zymc B H3) 35 1], rfl, ⟨by decide +kernel, ⟨rfl, by decide +kernel⟩, (xcs_c rfl (xcs_c rfl (xcs_c rfl (xcs_c rfl (xcs_c rfl (xcs_c rfl xcs_n)))))), (xe_0 (xe_f (by omega) (xe_f (by omega) (xe_f (by omega) (xe_f (by omega) (xe_f (by omega) (xe_c (by omega) (by omega) rfl xe_n))))))), (xkq_c hT3 35 1 (q := 1) rfl rfl rfl rfl rfl rfl rfl rfl rfl rfl rfl xkq_n)⟩, (by rw [if_neg (by decide)]; exact xst_n), ?_, ?_⟩
        · show ((v2 1) : Int) = x0 0 ∧ ((v2 2) : Int) = x0 1 ∧ ((v2 3) : Int) = x0 2 ∧ ((v2 4) : Int) = x0 3 ∧ ((v2 5) : Int) = x0 4 ∧ (xE (zyEl zymc B s.heap) 35 1 ≤ 880) ∧ (xE (zyEl zymc B H3) 35 1 = xE (zyEl zymc B s.heap) 35 1 + 20) ∧ (∀ i, 0 ≤ i → i < 20 → xE (zyEl zymc B H3) 36 (xE (zyEl zymc B s.heap) 35 1 + i) = fbs x0 i) ∧ (∀ i, 0 ≤ i → i < xE (zyEl zymc B s.heap) 35 1 → xE (zyEl zymc B H3) 36 i = xE (zyEl zymc B s.heap) 36 i)
          refine ⟨by omega, by omega, by omega, by omega, by omega, by omega, by omega, fun i k0 k1 => ?_, fun i k0 k1 => ?_⟩
          · by_cases hq : i < 16
            · rw [p3 _ (by omega) (by omega)]
              rw [e36]
              exact j1 i k0 hq
            · have w := p2 (i - 16) (by omega) (by omega)
              rw [show xE (zyEl zymc B H2) 35 1 + (i - 16) = xE (zyEl zymc B s.heap) 35 1 + i by omega, hx] at w
              rw [w]
              unfold fbs
              rw [show i / 4 = 4 by omega, show i % 4 = i - 16 by omega]
              rfl
          · rw [p3 _ (by omega) (by omega)]
            rw [e36]
            exact j2 i k0 k1
        · show 4 < 5
          omega
    · cases hx
  · intro x0 E0 E E2 hrx hT0 hΦ i v hT hrv hInv hKc hFr0 x hx v2 hr2 hXs hag hfr hFr hT2
    rcases i with ⟨i, hi⟩
    have hi2 : i = 0 ∨ i = 1 ∨ i = 2 ∨ i = 3 ∨ i = 4 ∨ i = 5 ∨ i = 6 := by omega
    rcases hi2 with rfl | rfl | rfl | rfl | rfl | rfl | rfl
    · cases hx
    · have hx : x ∈ [zxffe_ar0] := hx
      have hag : ∀ k, k < 7 → v2 k = v k := hag
      have hfr : xFr [] _ _ := hfr
      have ex := List.mem_singleton.mp hx
      subst ex
      obtain ⟨hF, hBd, hM⟩ := hXs
      have g1 : v2 1 = v 1 := hag 1 (by decide)
      have g2 : v2 2 = v 2 := hag 2 (by decide)
      have g3 : v2 3 = v 3 := hag 3 (by decide)
      have g4 : v2 4 = v 4 := hag 4 (by decide)
      have g5 : v2 5 = v 5 := hag 5 (by decide)
      have g6 : v2 6 = v 6 := hag 6 (by decide)
      have b0 : ((2147484529 : Nat) : Int) ≤ (v2 6) + 2147483648 ∧ (v2 6) + 2147483648 ≤ ((2147484548 : Nat) : Int) := xXb hBd 0 rfl
      have k0 : xE E 35 1 = v 6 := xKcf hKc 0 rfl rfl
      have f0 : 900 < (v2 6 + 20) := xXf hF 0 rfl
      have m0 : xE E2 35 1 = (v2 6) := xXm hM 0 rfl
      have e35_1 : xE E2 35 1 = xE E 35 1 := xFr_E hfr rfl
      have e36 : ∀ i, xE E2 36 i = xE E 36 i := fun i => xFr_E hfr rfl
      have y35_1 : ((2147483648 : Nat) : Int) ≤ xE E0 35 1 + 2147483648 ∧ xE E0 35 1 + 2147483648 ≤ ((2147484548 : Nat) : Int) := xTyF hT0 35 1 1 rfl rfl rfl rfl rfl rfl
      have hI : E = E0 ∧ (v 1) = x0 0 ∧ (v 2) = x0 1 ∧ (v 3) = x0 2 ∧ (v 4) = x0 3 ∧ (v 5) = x0 4 := hInv
      have q35_1 : xE E 35 1 = xE E0 35 1 := by rw [hI.1]
      have q36 : ∀ i, xE E 36 i = xE E0 36 i := fun i => by rw [hI.1]
      show xΨffe x0 E0 E2 (-1)
      obtain ⟨hE, i1, i2, i3, i4, i5⟩ := hI
      unfold xΨffe
      rw [if_pos (by omega)]
      exact ⟨by omega, by omega, fun i => by rw [e36 i, q36 i]⟩
    · cases hx
    · cases hx
    · cases hx
    · cases hx
    · have hx : x ∈ [zxffe_b5r0] := hx
      have hag : ∀ k, k < 7 → v2 k = v k := hag
      have hfr : xFr [] _ _ := hfr
      have ex := List.mem_singleton.mp hx
      subst ex
      obtain ⟨hF, hBd, hM⟩ := hXs
      have g1 : v2 1 = v 1 := hag 1 (by decide)
      have g2 : v2 2 = v 2 := hag 2 (by decide)
      have g3 : v2 3 = v 3 := hag 3 (by decide)
      have g4 : v2 4 = v 4 := hag 4 (by decide)
      have g5 : v2 5 = v 5 := hag 5 (by decide)
      have g6 : v2 6 = v 6 := hag 6 (by decide)
      have b0 : ((2147483648 : Nat) : Int) ≤ (v2 6) + 2147483648 ∧ (v2 6) + 2147483648 ≤ ((2147484548 : Nat) : Int) := xXb hBd 0 rfl
      have k0 : xE E 35 1 = v 6 := xKcf hKc 0 rfl rfl
      have e35_1 : xE E2 35 1 = xE E 35 1 := xFr_E hfr rfl
      have e36 : ∀ i, xE E2 36 i = xE E 36 i := fun i => xFr_E hfr rfl
      have y35_1 : ((2147483648 : Nat) : Int) ≤ xE E0 35 1 + 2147483648 ∧ xE E0 35 1 + 2147483648 ≤ ((2147484548 : Nat) : Int) := xTyF hT0 35 1 1 rfl rfl rfl rfl rfl rfl
      have hI : (v 1) = x0 0 ∧ (v 2) = x0 1 ∧ (v 3) = x0 2 ∧ (v 4) = x0 3 ∧ (v 5) = x0 4 ∧ (xE E0 35 1 ≤ 880) ∧ (xE E 35 1 = xE E0 35 1 + 20) ∧ (∀ i, 0 ≤ i → i < 20 → xE E 36 (xE E0 35 1 + i) = fbs x0 i) ∧ (∀ i, 0 ≤ i → i < xE E0 35 1 → xE E 36 i = xE E0 36 i) := hInv
      show xΨffe x0 E0 E2 (v2 6)
      obtain ⟨i1, i2, i3, i4, i5, i6, i7, j1, j2⟩ := hI
      unfold xΨffe
      rw [if_neg (by omega)]
      exact ⟨by omega, by omega, fun i k0 k1 => (e36 _).trans (j1 i k0 k1), fun i k0 k1 => (e36 _).trans (j2 i k0 k1)⟩
end
section
/-! THE REFERENCE: puts and feed (printed by m16.py) -/
noncomputable def zxfpu_ax0 : zyXp := (3, [595, 34359738369, 192], [], [], [], [])
noncomputable def zpfpu_a : zyPh := (0, [595, 34359738369, 13], [(0, 4294967295), (0, 4294967295), (0, 4294967295)], [], [])
noncomputable def zxfpu_bx0 : zyXp := (18, [595, 34359738369, 68719476737], [137438953473, 103079215105, 675], [(21, 0, 68719476737, 0), (24, 103079215105, 74, 264), (9, 137438953473, 34359738369, 68719476737)], [(68719476737, 2147483648, 2147483672), (103079215105, 2147483648, 2147484548)], [])
noncomputable def zxfpu_br0 : zyXp := (0, [], [], [(20, 0, 68719476737, 0)], [(68719476737, 2147483640, 2147483647)], [])
noncomputable def zpfpu_b : zyPh := (3, [595, 34359738369, 68719476737], [(0, 4294967295), (0, 4294967295), (2147483640, 2147483672)], [], [])
noncomputable def zxfpu_cx0 : zyXp := (3, [595, 34359738369, 103079215041], [], [], [(68719476737, 2147483648, 2147483672), (103079215105, 2147483648, 2147484547), (103079215041, 2147483640, 2147483664)], [(1212449, 103079215113)])
noncomputable def zpfpu_c : zyPh := (20, [595, 34359738369, 68719476737], [(0, 4294967295), (0, 4294967295), (2147483648, 2147483672), (2147483648, 2147484547)], [(1212449, 103079215105)], [])
noncomputable def zpfpu (i : Nat) : zyPh := zif (Nat.beq i 0) (zpfpu_a) (zif (Nat.beq i 1) (zpfpu_b) (zpfpu_c))
noncomputable def zXfpu (i : Nat) : List zyXp := zif (Nat.beq i 0) ([zxfpu_ax0]) (zif (Nat.beq i 1) ([zxfpu_bx0]) ([zxfpu_cx0]))
noncomputable def zRfpu (i : Nat) : List zyXp := zif (Nat.beq i 0) ([]) (zif (Nat.beq i 1) ([zxfpu_br0]) ([]))
noncomputable def zFfpu (i : Nat) : zyR := zif (Nat.beq i 0) ([]) (zif (Nat.beq i 1) ([]) ([(74, 33, 33)]))
noncomputable def zSfpu (i : Nat) : Nat := zif (Nat.beq i 0) (0) (zif (Nat.beq i 1) (0) (0))
def xΦfpu (_ : Nat → Int) (E : zyEm) : Prop := xE E 74 33 ≤ 896
def xΨfpu (x : Nat → Int) (E E2 : zyEm) (_ : Int) : Prop := xE E2 74 33 = xE E 74 33 + 4 ∧ (∀ k, 0 ≤ k → k < 4 → xE E2 84 (xE E 74 33 + k) = fby (x 0) k) ∧ (∀ k, 0 ≤ k → k < xE E 74 33 → xE E2 84 k = xE E 84 k)
noncomputable def fpfpu : zyR := [(74, 33, 33), (84, 0, 899)]
theorem zyfpu_run : zyrS zymx zxi311 (311, 0, 0, 0, 0) 1 zpfpu (fun _ _ => []) zFfpu zSfpu zXfpu zRfpu 3 = true := by decide +kernel
theorem zyfpu_ck : zyAll (fun i => xsubR (zFfpu i) fpfpu && ((zXfpu i).all xckX && (zRfpu i).all (fun x => xckX x && xrtB false x))) 3 = true := by decide +kernel
def xIfpu (i : Nat) (x0 : Nat → Int) (E0 : zyEm) (v : Nat → Int) (E : zyEm) : Prop := if i = 0 then (E = E0 ∧ (v 1) = x0 0) else if i = 1 then ((v 1) = x0 0 ∧ (xE E0 74 33 ≤ 896) ∧ ∃ j : Int, (v 2) = 24 - 8 * j ∧ xE E 74 33 = xE E0 74 33 + j ∧ (0 ≤ j ∧ j ≤ 4) ∧ (∀ k, 0 ≤ k → k < j → xE E 84 (xE E0 74 33 + k) = fby (x0 0) k) ∧ (∀ k, 0 ≤ k → k < xE E0 74 33 → xE E 84 k = xE E0 84 k)) else ((v 1) = x0 0 ∧ (xE E0 74 33 ≤ 896) ∧ ∃ j : Int, (v 2) = 24 - 8 * j ∧ j ≤ 3 ∧ xE E 74 33 = xE E0 74 33 + j ∧ (0 ≤ j) ∧ (∀ k, 0 ≤ k → k < j + 1 → xE E 84 (xE E0 74 33 + k) = fby (x0 0) k) ∧ (∀ k, 0 ≤ k → k < xE E0 74 33 → xE E 84 k = xE E0 84 k))
def xMfpu (i : Nat) (x0 : Nat → Int) (E0 : zyEm) (v : Nat → Int) (E : zyEm) : Nat := if i = 0 then (1000) else if i = 1 then (2 * (100 + (v 2)).toNat + 1) else (2 * (100 + (v 2)).toNat)
theorem xPu {l : Launch} {en : zEn} {me : zMe} (hen : zG zxMeta 311 = some en) (hme : zG zMeth 311 = some me) : xFc l zymx en me 1 [74] 1 fpfpu false xΦfpu xΨfpu := by
  have een : zG zxMeta 311 = some (zxi311, 2, 3, 11, 311, 0, 0, 0, 0) := rfl
  obtain ⟨me1, hme1, hOK⟩ := zall hen
  rw [hme] at hme1
  cases hme1
  rw [een] at hen
  cases hen
  have hr := zyfpu_run
  have hck := fun i hi => zyAll_iff zyfpu_ck i hi
  simp only [Bool.and_eq_true] at hck
  intro B
  refine xcut (mi := zymx) (B := B) hOK rfl rfl (ι := Fin 3) (fun i => zpfpu i.val) (fun _ _ => []) (fun i => zFfpu i.val) (fun i => zSfpu i.val) (fun i => zXfpu i.val) (fun i => zRfpu i.val) (fun i y2 ct en2 me2 h => by cases h) 200000 (fun i => zyAll_iff hr i.val i.isLt) (fun i => (hck i.val i.isLt).1) (fun i => (hck i.val i.isLt).2.1) (fun i => (hck i.val i.isLt).2.2) ⟨0, by decide⟩ ⟨rfl, rfl, rfl, rfl⟩ ⟨by decide, by decide⟩ (fun i x0 E0 v E => xIfpu i.val x0 E0 v E) (fun i x0 E0 v E => xMfpu i.val x0 E0 v E) ?_ ?_ ?_
  · intro x0 E hx0 hT hΦ
    have hΦ : xΦfpu x0 E := hΦ
    refine ⟨fun k p hp => ?_, ?_⟩
    · have hk : k < 3 := (List.getElem?_eq_some_iff.mp hp).1
      have hk : k = 0 ∨ k = 1 ∨ k = 2 := by omega
      rcases hk with rfl | rfl | rfl
      · have hp : some (0, 4294967295) = some p := hp
        cases hp
        show ((0 : Nat) : Int) ≤ 0 + 2147483648 ∧ 0 + 2147483648 ≤ ((4294967295 : Nat) : Int)
        omega
      · have hp : some (0, 4294967295) = some p := hp
        cases hp
        show ((0 : Nat) : Int) ≤ x0 0 + 2147483648 ∧ x0 0 + 2147483648 ≤ ((4294967295 : Nat) : Int)
        have hx := hx0 0
        omega
      · have hp : some (0, 4294967295) = some p := hp
        cases hp
        show ((0 : Nat) : Int) ≤ x0 1 + 2147483648 ∧ x0 1 + 2147483648 ≤ ((4294967295 : Nat) : Int)
        have hx := hx0 1
        omega
    · show E = E ∧ (x0 0) = x0 0
      exact ⟨rfl, rfl⟩
  · intro x0 s Wg hRu hrx hT0 hΦ i v H hT hrv hInv hKc hFr0 hIH x hx ρ2 v2 N2 H2 locs lsB stA hAt hB hv hr2 hXs hag hfr hFr hT2
    rcases i with ⟨i, hi⟩
    have hi2 : i = 0 ∨ i = 1 ∨ i = 2 := by omega
    rcases hi2 with rfl | rfl | rfl
    · have hx : x ∈ [zxfpu_ax0] := hx
      have hag : ∀ k, k < 3 → v2 k = v k := hag
      have hfr : xFr [] _ _ := hfr
      have ex := List.mem_singleton.mp hx
      subst ex
      obtain ⟨hF, hBd, hM⟩ := hXs
      have r1 := hr2 1
      have g1 : v2 1 = v 1 := hag 1 (by decide)
      have e74_33 : xE (zyEl zymx B H2) 74 33 = xE (zyEl zymx B H) 74 33 := xFr_E hfr rfl
      have e84 : ∀ i, xE (zyEl zymx B H2) 84 i = xE (zyEl zymx B H) 84 i := fun i => xFr_E hfr rfl
      have y74_33 : ((2147483648 : Nat) : Int) ≤ xE (zyEl zymx B s.heap) 74 33 + 2147483648 ∧ xE (zyEl zymx B s.heap) 74 33 + 2147483648 ≤ ((2147484548 : Nat) : Int) := xTyF hT0 74 33 33 rfl rfl rfl rfl rfl rfl
      have hI : (zyEl zymx B H) = (zyEl zymx B s.heap) ∧ (v 1) = x0 0 := hInv
      have q74_33 : xE (zyEl zymx B H) 74 33 = xE (zyEl zymx B s.heap) 74 33 := by rw [hI.1]
      have q84 : ∀ i, xE (zyEl zymx B H) 84 i = xE (zyEl zymx B s.heap) 84 i := fun i => by rw [hI.1]
      have hP : xE (zyEl zymx B s.heap) 74 33 ≤ 896 := hΦ
      refine xGo hIH hAt hB hv hFr ⟨1, by decide⟩ [0, 34359738369, 192] [0, (v2 1), 24] rfl ⟨by decide +kernel, ⟨rfl, by decide +kernel⟩, (xcs_c rfl (xcs_c rfl (xcs_c rfl xcs_n))), (xe_0 (xe_f (by omega) (xe_c (by omega) (by omega) rfl xe_n))), xkq_n⟩ xst_n ?_ ?_
      · show ((v2 1) : Int) = x0 0 ∧ (xE (zyEl zymx B s.heap) 74 33 ≤ 896) ∧ ∃ j : Int, (24 : Int) = 24 - 8 * j ∧ xE (zyEl zymx B H2) 74 33 = xE (zyEl zymx B s.heap) 74 33 + j ∧ (0 ≤ j ∧ j ≤ 4) ∧ (∀ k, 0 ≤ k → k < j → xE (zyEl zymx B H2) 84 (xE (zyEl zymx B s.heap) 74 33 + k) = fby (x0 0) k) ∧ (∀ k, 0 ≤ k → k < xE (zyEl zymx B s.heap) 74 33 → xE (zyEl zymx B H2) 84 k = xE (zyEl zymx B s.heap) 84 k)
        exact ⟨by omega, by omega, 0, by omega, by omega, by omega, fun k k0 k1 => by omega, fun k k0 k1 => (e84 k).trans (q84 k)⟩
      · show 2 * (100 + (24 : Int)).toNat + 1 < 1000
        omega
    · have hx : x ∈ [zxfpu_bx0] := hx
      have hag : ∀ k, k < 3 → v2 k = v k := hag
      have hfr : xFr [] _ _ := hfr
      have ex := List.mem_singleton.mp hx
      subst ex
      obtain ⟨hF, hBd, hM⟩ := hXs
      have r1 := hr2 1
      have r4 := hr2 4
      have g1 : v2 1 = v 1 := hag 1 (by decide)
      have g2 : v2 2 = v 2 := hag 2 (by decide)
      have b0 : ((2147483648 : Nat) : Int) ≤ (v2 2) + 2147483648 ∧ (v2 2) + 2147483648 ≤ ((2147483672 : Nat) : Int) := xXb hBd 0 rfl
      have b1 : ((2147483648 : Nat) : Int) ≤ (v2 3) + 2147483648 ∧ (v2 3) + 2147483648 ≤ ((2147484548 : Nat) : Int) := xXb hBd 1 rfl
      have f0 : 0 ≤ (v2 2) := xXf hF 0 rfl
      have f1 : (0 : Int) ≤ 33 ∧ xE (zyEl zymx B H) 74 33 = (v2 3) := xXf hF 1 rfl
      have f2 : (v2 4) = xop 9 (v2 1) (v2 2) := xXf hF 2 rfl
      have e74_33 : xE (zyEl zymx B H2) 74 33 = xE (zyEl zymx B H) 74 33 := xFr_E hfr rfl
      have e84 : ∀ i, xE (zyEl zymx B H2) 84 i = xE (zyEl zymx B H) 84 i := fun i => xFr_E hfr rfl
      have y74_33 : ((2147483648 : Nat) : Int) ≤ xE (zyEl zymx B s.heap) 74 33 + 2147483648 ∧ xE (zyEl zymx B s.heap) 74 33 + 2147483648 ≤ ((2147484548 : Nat) : Int) := xTyF hT0 74 33 33 rfl rfl rfl rfl rfl rfl
      have hI : (v 1) = x0 0 ∧ (xE (zyEl zymx B s.heap) 74 33 ≤ 896) ∧ ∃ j : Int, (v 2) = 24 - 8 * j ∧ xE (zyEl zymx B H) 74 33 = xE (zyEl zymx B s.heap) 74 33 + j ∧ (0 ≤ j ∧ j ≤ 4) ∧ (∀ k, 0 ≤ k → k < j → xE (zyEl zymx B H) 84 (xE (zyEl zymx B s.heap) 74 33 + k) = fby (x0 0) k) ∧ (∀ k, 0 ≤ k → k < xE (zyEl zymx B s.heap) 74 33 → xE (zyEl zymx B H) 84 k = xE (zyEl zymx B s.heap) 84 k) := hInv
      obtain ⟨i0, i1, j, i2, i3, i4, i5, i6⟩ := hI
      refine xSb hRu hIH hAt hB hv hFr 84 (ax := 0) (ax2 := 0) 137438953473 103079215105 (v2 4) (v2 3) rfl rfl rfl rfl rfl (by decide +kernel) rfl rfl (by omega) (by show (v2 3) < ((900 : Nat) : Int); omega) (fun r hr q1 q2 => by rw [List.mem_singleton.mp hr]; exact ⟨rfl, by show ((2147483520 : Nat) : Int) ≤ -128 + 2147483648; omega, by show (127 : Int) + 2147483648 ≤ ((2147483775 : Nat) : Int); omega⟩) (zyin_iff.mpr ⟨(84, 0, 899), by decide, rfl, Nat.zero_le _, by show Int.toNat (v2 3) ≤ 899; omega⟩) (fun H3 hT3 hst3 hne3 hfn3 hFr3 => ?_)
      have hfe3 : ∀ (a2 : Nat) (k2 : Int), ¬ a2 = 84 → xE (zyEl zymx B H3) a2 k2 = xE (zyEl zymx B H2) a2 k2 := fun a2 k2 hne => by unfold xE; rw [hfn3 a2 k2.toNat (fun z => hne z.1)]
      have d74_33 : xE (zyEl zymx B H3) 74 33 = xE (zyEl zymx B H2) 74 33 := hfe3 74 33 (fun z => absurd z (by decide))
      have z74_33 : ((2147483648 : Nat) : Int) ≤ xE (zyEl zymx B H3) 74 33 + 2147483648 ∧ xE (zyEl zymx B H3) 74 33 + 2147483648 ≤ ((2147484548 : Nat) : Int) := xTyF hT3 74 33 33 rfl rfl rfl rfl rfl rfl
      refine ⟨⟨2, by decide⟩, [0, 34359738369, 68719476737], [0, (v2 1), (v2 2), xE (zyEl zymx B H3) 74 33], rfl, ⟨by decide +kernel, ⟨rfl, by decide +kernel⟩, (xcs_c rfl (xcs_c rfl (xcs_c rfl xcs_n))), (xe_0 (xe_f (by omega) (xe_c (by omega) (by omega) rfl (xe_c (by omega) (by omega) rfl xe_n)))), (xkq_c hT3 74 33 (q := 33) rfl rfl rfl rfl rfl rfl rfl rfl rfl rfl rfl xkq_n)⟩, rfl, ?_, ?_⟩
      · show ((v2 1) : Int) = x0 0 ∧ (xE (zyEl zymx B s.heap) 74 33 ≤ 896) ∧ ∃ j : Int, ((v2 2) : Int) = 24 - 8 * j ∧ j ≤ 3 ∧ xE (zyEl zymx B H3) 74 33 = xE (zyEl zymx B s.heap) 74 33 + j ∧ (0 ≤ j) ∧ (∀ k, 0 ≤ k → k < j + 1 → xE (zyEl zymx B H3) 84 (xE (zyEl zymx B s.heap) 74 33 + k) = fby (x0 0) k) ∧ (∀ k, 0 ≤ k → k < xE (zyEl zymx B s.heap) 74 33 → xE (zyEl zymx B H3) 84 k = xE (zyEl zymx B s.heap) 84 k)
        refine ⟨by omega, by omega, j, by omega, by omega, by omega, by omega, fun k k0 k1 => ?_, fun k k0 k1 => ?_⟩
        · by_cases e : k = j
          · rw [e, show xE (zyEl zymx B s.heap) 74 33 + j = (v2 3) by omega, hst3]
            unfold fby
            rw [f2]
            congr 2 <;> omega
          · rw [hne3 84 _ (by omega) (fun z => e (by have := z.2; omega)), e84 _]
            exact i5 k k0 (by omega)
        · rw [hne3 84 _ k0 (fun z => by have := z.2; omega), e84 _]
          exact i6 k k0 k1
      · show 2 * (100 + ((v2 2) : Int)).toNat < 2 * (100 + (v 2)).toNat + 1
        omega
    · have hx : x ∈ [zxfpu_cx0] := hx
      have hag : ∀ k, k < 4 → v2 k = v k := hag
      have hfr : xFr [(74, 33, 33)] _ _ := hfr
      have ex := List.mem_singleton.mp hx
      subst ex
      obtain ⟨hF, hBd, hM⟩ := hXs
      have r1 := hr2 1
      have g1 : v2 1 = v 1 := hag 1 (by decide)
      have g2 : v2 2 = v 2 := hag 2 (by decide)
      have g3 : v2 3 = v 3 := hag 3 (by decide)
      have b0 : ((2147483648 : Nat) : Int) ≤ (v2 2) + 2147483648 ∧ (v2 2) + 2147483648 ≤ ((2147483672 : Nat) : Int) := xXb hBd 0 rfl
      have b1 : ((2147483648 : Nat) : Int) ≤ (v2 3) + 2147483648 ∧ (v2 3) + 2147483648 ≤ ((2147484547 : Nat) : Int) := xXb hBd 1 rfl
      have b2 : ((2147483640 : Nat) : Int) ≤ (v2 2 + (-8)) + 2147483648 ∧ (v2 2 + (-8)) + 2147483648 ≤ ((2147483664 : Nat) : Int) := xXb hBd 2 rfl
      have k0 : xE (zyEl zymx B H) 74 33 = v 3 := xKcf hKc 0 rfl rfl
      have m0 : xE (zyEl zymx B H2) 74 33 = (v2 3 + 1) := xXm hM 0 rfl
      have e84 : ∀ i, xE (zyEl zymx B H2) 84 i = xE (zyEl zymx B H) 84 i := fun i => xFr_E hfr rfl
      have y74_33 : ((2147483648 : Nat) : Int) ≤ xE (zyEl zymx B s.heap) 74 33 + 2147483648 ∧ xE (zyEl zymx B s.heap) 74 33 + 2147483648 ≤ ((2147484548 : Nat) : Int) := xTyF hT0 74 33 33 rfl rfl rfl rfl rfl rfl
      have hI : (v 1) = x0 0 ∧ (xE (zyEl zymx B s.heap) 74 33 ≤ 896) ∧ ∃ j : Int, (v 2) = 24 - 8 * j ∧ j ≤ 3 ∧ xE (zyEl zymx B H) 74 33 = xE (zyEl zymx B s.heap) 74 33 + j ∧ (0 ≤ j) ∧ (∀ k, 0 ≤ k → k < j + 1 → xE (zyEl zymx B H) 84 (xE (zyEl zymx B s.heap) 74 33 + k) = fby (x0 0) k) ∧ (∀ k, 0 ≤ k → k < xE (zyEl zymx B s.heap) 74 33 → xE (zyEl zymx B H) 84 k = xE (zyEl zymx B s.heap) 84 k) := hInv
      obtain ⟨i0, i1, j, i2, i3, i4, i5, i6, i7⟩ := hI
      refine xGo hIH hAt hB hv hFr ⟨1, by decide⟩ [0, 34359738369, 103079215041] [0, (v2 1), (v2 2 + (-8))] rfl ⟨by decide +kernel, ⟨rfl, by decide +kernel⟩, (xcs_c rfl (xcs_c rfl (xcs_c rfl xcs_n))), (xe_0 (xe_f (by omega) (xe_c (by omega) (by omega) rfl xe_n))), xkq_n⟩ xst_n ?_ ?_
      · show ((v2 1) : Int) = x0 0 ∧ (xE (zyEl zymx B s.heap) 74 33 ≤ 896) ∧ ∃ j : Int, ((v2 2 + (-8)) : Int) = 24 - 8 * j ∧ xE (zyEl zymx B H2) 74 33 = xE (zyEl zymx B s.heap) 74 33 + j ∧ (0 ≤ j ∧ j ≤ 4) ∧ (∀ k, 0 ≤ k → k < j → xE (zyEl zymx B H2) 84 (xE (zyEl zymx B s.heap) 74 33 + k) = fby (x0 0) k) ∧ (∀ k, 0 ≤ k → k < xE (zyEl zymx B s.heap) 74 33 → xE (zyEl zymx B H2) 84 k = xE (zyEl zymx B s.heap) 84 k)
        exact ⟨by omega, by omega, j + 1, by omega, by omega, by omega, fun k k0 k1 => (e84 _).trans (i6 k k0 k1), fun k k0 k1 => (e84 k).trans (i7 k k0 k1)⟩
      · show 2 * (100 + ((v2 2 + (-8)) : Int)).toNat + 1 < 2 * (100 + (v 2)).toNat
        omega
  · intro x0 E0 E E2 hrx hT0 hΦ i v hT hrv hInv hKc hFr0 x hx v2 hr2 hXs hag hfr hFr hT2
    rcases i with ⟨i, hi⟩
    have hi2 : i = 0 ∨ i = 1 ∨ i = 2 := by omega
    rcases hi2 with rfl | rfl | rfl
    · cases hx
    · have hx : x ∈ [zxfpu_br0] := hx
      have hag : ∀ k, k < 3 → v2 k = v k := hag
      have hfr : xFr [] _ _ := hfr
      have ex := List.mem_singleton.mp hx
      subst ex
      obtain ⟨hF, hBd, hM⟩ := hXs
      have g1 : v2 1 = v 1 := hag 1 (by decide)
      have g2 : v2 2 = v 2 := hag 2 (by decide)
      have b0 : ((2147483640 : Nat) : Int) ≤ (v2 2) + 2147483648 ∧ (v2 2) + 2147483648 ≤ ((2147483647 : Nat) : Int) := xXb hBd 0 rfl
      have f0 : (v2 2) < 0 := xXf hF 0 rfl
      have e74_33 : xE E2 74 33 = xE E 74 33 := xFr_E hfr rfl
      have e84 : ∀ i, xE E2 84 i = xE E 84 i := fun i => xFr_E hfr rfl
      have y74_33 : ((2147483648 : Nat) : Int) ≤ xE E0 74 33 + 2147483648 ∧ xE E0 74 33 + 2147483648 ≤ ((2147484548 : Nat) : Int) := xTyF hT0 74 33 33 rfl rfl rfl rfl rfl rfl
      have hI : (v 1) = x0 0 ∧ (xE E0 74 33 ≤ 896) ∧ ∃ j : Int, (v 2) = 24 - 8 * j ∧ xE E 74 33 = xE E0 74 33 + j ∧ (0 ≤ j ∧ j ≤ 4) ∧ (∀ k, 0 ≤ k → k < j → xE E 84 (xE E0 74 33 + k) = fby (x0 0) k) ∧ (∀ k, 0 ≤ k → k < xE E0 74 33 → xE E 84 k = xE E0 84 k) := hInv
      show xΨfpu x0 E0 E2 0
      obtain ⟨i0, i1, j, i2, i3, i4, i5, i6⟩ := hI
      have hj : j = 4 := by omega
      subst hj
      exact ⟨by omega, fun k k0 k1 => (e84 _).trans (i5 k k0 k1), fun k k0 k1 => (e84 k).trans (i6 k k0 k1)⟩
    · cases hx
noncomputable def zxffx_zx0 : zyXp := (0, [595, 34359738369, 68719476737, 103079215105, 137438953473, 171798691841], [], [], [], [])
noncomputable def zpffx_z : zyPh := (0, [595, 34359738369, 68719476737, 103079215105, 137438953473, 171798691841], [(0, 4294967295), (0, 4294967295), (0, 4294967295), (0, 4294967295), (0, 4294967295), (0, 4294967295)], [], [])
noncomputable def zxffx_ax0 : zyXp := (22, [595, 34359738369, 68719476737, 103079215105, 137438953473, 171798691841], [34359738369, 595], [(21, 0, 7200, 206158430369)], [(206158430209, 2147483648, 2147484528)], [(1212419, 0), (1212449, 206158430209)])
noncomputable def zxffx_ar0 : zyXp := (0, [], [34359738360], [(20, 0, 7200, 206158430369)], [(206158430209, 2147484529, 2147484548)], [(1212419, 0), (1212449, 206158430209)])
noncomputable def zpffx_a : zyPh := (0, [595, 34359738369, 68719476737, 103079215105, 137438953473, 171798691841], [(0, 4294967295), (0, 4294967295), (0, 4294967295), (0, 4294967295), (0, 4294967295), (0, 4294967295), (2147483648, 2147484548)], [(1212449, 206158430209)], [])
noncomputable def zxffx_b1x0 : zyXp := (27, [595, 34359738369, 68719476737, 103079215105, 137438953473, 171798691841], [68719476737, 595], [], [], [])
noncomputable def zpffx_b1 : zyPh := (25, [595, 34359738369, 68719476737, 103079215105, 137438953473, 171798691841], [(0, 4294967295), (0, 4294967295), (0, 4294967295), (0, 4294967295), (0, 4294967295), (0, 4294967295)], [], [])
noncomputable def zxffx_b2x0 : zyXp := (32, [595, 34359738369, 68719476737, 103079215105, 137438953473, 171798691841], [103079215105, 595], [], [], [])
noncomputable def zpffx_b2 : zyPh := (30, [595, 34359738369, 68719476737, 103079215105, 137438953473, 171798691841], [(0, 4294967295), (0, 4294967295), (0, 4294967295), (0, 4294967295), (0, 4294967295), (0, 4294967295)], [], [])
noncomputable def zxffx_b3x0 : zyXp := (38, [595, 34359738369, 68719476737, 103079215105, 137438953473, 171798691841], [137438953473, 595], [], [], [])
noncomputable def zpffx_b3 : zyPh := (35, [595, 34359738369, 68719476737, 103079215105, 137438953473, 171798691841], [(0, 4294967295), (0, 4294967295), (0, 4294967295), (0, 4294967295), (0, 4294967295), (0, 4294967295)], [], [])
noncomputable def zxffx_b4x0 : zyXp := (44, [595, 34359738369, 68719476737, 103079215105, 137438953473, 171798691841], [171798691841, 595], [], [], [])
noncomputable def zpffx_b4 : zyPh := (41, [595, 34359738369, 68719476737, 103079215105, 137438953473, 171798691841], [(0, 4294967295), (0, 4294967295), (0, 4294967295), (0, 4294967295), (0, 4294967295), (0, 4294967295)], [], [])
noncomputable def zxffx_b5r0 : zyXp := (0, [], [206158430209], [], [(206158430209, 2147483648, 2147484548)], [])
noncomputable def zpffx_b5 : zyPh := (47, [595, 34359738369, 68719476737, 103079215105, 137438953473, 171798691841], [(0, 4294967295), (0, 4294967295), (0, 4294967295), (0, 4294967295), (0, 4294967295), (0, 4294967295), (2147483648, 2147484548)], [(1212449, 206158430209)], [])
noncomputable def zpffx (i : Nat) : zyPh := zif (Nat.beq i 0) (zpffx_z) (zif (Nat.beq i 1) (zpffx_a) (zif (Nat.beq i 2) (zpffx_b1) (zif (Nat.beq i 3) (zpffx_b2) (zif (Nat.beq i 4) (zpffx_b3) (zif (Nat.beq i 5) (zpffx_b4) (zpffx_b5))))))
noncomputable def zXffx (i : Nat) : List zyXp := zif (Nat.beq i 0) ([zxffx_zx0]) (zif (Nat.beq i 1) ([zxffx_ax0]) (zif (Nat.beq i 2) ([zxffx_b1x0]) (zif (Nat.beq i 3) ([zxffx_b2x0]) (zif (Nat.beq i 4) ([zxffx_b3x0]) (zif (Nat.beq i 5) ([zxffx_b4x0]) ([]))))))
noncomputable def zRffx (i : Nat) : List zyXp := zif (Nat.beq i 0) ([]) (zif (Nat.beq i 1) ([zxffx_ar0]) (zif (Nat.beq i 2) ([]) (zif (Nat.beq i 3) ([]) (zif (Nat.beq i 4) ([]) (zif (Nat.beq i 5) ([]) ([zxffx_b5r0]))))))
noncomputable def zFffx (i : Nat) : zyR := zif (Nat.beq i 0) ([]) (zif (Nat.beq i 1) ([(74, 3, 3)]) (zif (Nat.beq i 2) ([]) (zif (Nat.beq i 3) ([]) (zif (Nat.beq i 4) ([]) (zif (Nat.beq i 5) ([]) ([]))))))
noncomputable def zSffx (i : Nat) : Nat := zif (Nat.beq i 0) (0) (zif (Nat.beq i 1) (0) (zif (Nat.beq i 2) (0) (zif (Nat.beq i 3) (0) (zif (Nat.beq i 4) (0) (zif (Nat.beq i 5) (0) (0))))))
def xΦffx (_ : Nat → Int) (_ : zyEm) : Prop := True
def xΨffx (x : Nat → Int) (E E2 : zyEm) (r : Int) : Prop := if 880 < xE E 74 33 then r = -1 ∧ xE E2 74 33 = xE E 74 33 ∧ (∀ i, xE E2 84 i = xE E 84 i)
  else r = xE E 74 33 + 20 ∧ xE E2 74 33 = xE E 74 33 + 20 ∧ (∀ i, 0 ≤ i → i < 20 → xE E2 84 (xE E 74 33 + i) = fbs x i) ∧ (∀ i, 0 ≤ i → i < xE E 74 33 → xE E2 84 i = xE E 84 i)
noncomputable def fpffx : zyR := [(74, 3, 3), (74, 33, 33), (84, 0, 899)]
theorem zyffx_run : zyrS zymx zxi312 (312, 0, 0, 1, 0) 2 zpffx (fun _ _ => []) zFffx zSffx zXffx zRffx 7 = true := by decide +kernel
theorem zyffx_ck : zyAll (fun i => xsubR (zFffx i) fpffx && ((zXffx i).all xckX && (zRffx i).all (fun x => xckX x && xrtB true x))) 7 = true := by decide +kernel
def xIffx (i : Nat) (x0 : Nat → Int) (E0 : zyEm) (v : Nat → Int) (E : zyEm) : Prop := if i = 0 then (E = E0 ∧ (v 1) = x0 0 ∧ (v 2) = x0 1 ∧ (v 3) = x0 2 ∧ (v 4) = x0 3 ∧ (v 5) = x0 4) else if i = 1 then (E = E0 ∧ (v 1) = x0 0 ∧ (v 2) = x0 1 ∧ (v 3) = x0 2 ∧ (v 4) = x0 3 ∧ (v 5) = x0 4) else if i = 2 then ((v 1) = x0 0 ∧ (v 2) = x0 1 ∧ (v 3) = x0 2 ∧ (v 4) = x0 3 ∧ (v 5) = x0 4 ∧ (xE E0 74 33 ≤ 880) ∧ (xE E 74 33 = xE E0 74 33 + 4) ∧ (∀ i, 0 ≤ i → i < 4 → xE E 84 (xE E0 74 33 + i) = fbs x0 i) ∧ (∀ i, 0 ≤ i → i < xE E0 74 33 → xE E 84 i = xE E0 84 i)) else if i = 3 then ((v 1) = x0 0 ∧ (v 2) = x0 1 ∧ (v 3) = x0 2 ∧ (v 4) = x0 3 ∧ (v 5) = x0 4 ∧ (xE E0 74 33 ≤ 880) ∧ (xE E 74 33 = xE E0 74 33 + 8) ∧ (∀ i, 0 ≤ i → i < 8 → xE E 84 (xE E0 74 33 + i) = fbs x0 i) ∧ (∀ i, 0 ≤ i → i < xE E0 74 33 → xE E 84 i = xE E0 84 i)) else if i = 4 then ((v 1) = x0 0 ∧ (v 2) = x0 1 ∧ (v 3) = x0 2 ∧ (v 4) = x0 3 ∧ (v 5) = x0 4 ∧ (xE E0 74 33 ≤ 880) ∧ (xE E 74 33 = xE E0 74 33 + 12) ∧ (∀ i, 0 ≤ i → i < 12 → xE E 84 (xE E0 74 33 + i) = fbs x0 i) ∧ (∀ i, 0 ≤ i → i < xE E0 74 33 → xE E 84 i = xE E0 84 i)) else if i = 5 then ((v 1) = x0 0 ∧ (v 2) = x0 1 ∧ (v 3) = x0 2 ∧ (v 4) = x0 3 ∧ (v 5) = x0 4 ∧ (xE E0 74 33 ≤ 880) ∧ (xE E 74 33 = xE E0 74 33 + 16) ∧ (∀ i, 0 ≤ i → i < 16 → xE E 84 (xE E0 74 33 + i) = fbs x0 i) ∧ (∀ i, 0 ≤ i → i < xE E0 74 33 → xE E 84 i = xE E0 84 i)) else ((v 1) = x0 0 ∧ (v 2) = x0 1 ∧ (v 3) = x0 2 ∧ (v 4) = x0 3 ∧ (v 5) = x0 4 ∧ (xE E0 74 33 ≤ 880) ∧ (xE E 74 33 = xE E0 74 33 + 20) ∧ (∀ i, 0 ≤ i → i < 20 → xE E 84 (xE E0 74 33 + i) = fbs x0 i) ∧ (∀ i, 0 ≤ i → i < xE E0 74 33 → xE E 84 i = xE E0 84 i))
def xMffx (i : Nat) (x0 : Nat → Int) (E0 : zyEm) (v : Nat → Int) (E : zyEm) : Nat := if i = 0 then (11) else if i = 1 then (10) else if i = 2 then (8) else if i = 3 then (7) else if i = 4 then (6) else if i = 5 then (5) else (4)
theorem xFx {l : Launch} {en : zEn} {me : zMe} (hen : zG zxMeta 312 = some en) (hme : zG zMeth 312 = some me) : xFc l zymx en me 2 [74] 5 fpffx true xΦffx xΨffx := by
  have een : zG zxMeta 312 = some (zxi312, 6, 6, 11, 312, 0, 0, 1, 0) := rfl
  obtain ⟨me1, hme1, hOK⟩ := zall hen
  rw [hme] at hme1
  cases hme1
  rw [een] at hen
  cases hen
  have hr := zyffx_run
  have hck := fun i hi => zyAll_iff zyffx_ck i hi
  simp only [Bool.and_eq_true] at hck
  obtain ⟨mefpu, hmefpu, -⟩ := zall (show zG zxMeta 311 = some (zxi311, 2, 3, 11, 311, 0, 0, 0, 0) from rfl)
  have hfpu := xPu (l := l) (show zG zxMeta 311 = some (zxi311, 2, 3, 11, 311, 0, 0, 0, 0) from rfl) hmefpu
  intro B
  refine xcut (mi := zymx) (B := B) hOK rfl rfl (ι := Fin 7) (fun i => zpffx i.val) (fun _ _ => []) (fun i => zFffx i.val) (fun i => zSffx i.val) (fun i => zXffx i.val) (fun i => zRffx i.val) (fun i y2 ct en2 me2 h => by cases h) 200000 (fun i => zyAll_iff hr i.val i.isLt) (fun i => (hck i.val i.isLt).1) (fun i => (hck i.val i.isLt).2.1) (fun i => (hck i.val i.isLt).2.2) ⟨0, by decide⟩ ⟨rfl, rfl, rfl, rfl⟩ ⟨by decide, by decide⟩ (fun i x0 E0 v E => xIffx i.val x0 E0 v E) (fun i x0 E0 v E => xMffx i.val x0 E0 v E) ?_ ?_ ?_
  · intro x0 E hx0 hT hΦ
    have hΦ : xΦffx x0 E := hΦ
    refine ⟨fun k p hp => ?_, ?_⟩
    · have hk : k < 6 := (List.getElem?_eq_some_iff.mp hp).1
      have hk : k = 0 ∨ k = 1 ∨ k = 2 ∨ k = 3 ∨ k = 4 ∨ k = 5 := by omega
      rcases hk with rfl | rfl | rfl | rfl | rfl | rfl
      · have hp : some (0, 4294967295) = some p := hp
        cases hp
        show ((0 : Nat) : Int) ≤ 0 + 2147483648 ∧ 0 + 2147483648 ≤ ((4294967295 : Nat) : Int)
        omega
      · have hp : some (0, 4294967295) = some p := hp
        cases hp
        show ((0 : Nat) : Int) ≤ x0 0 + 2147483648 ∧ x0 0 + 2147483648 ≤ ((4294967295 : Nat) : Int)
        have hx := hx0 0
        omega
      · have hp : some (0, 4294967295) = some p := hp
        cases hp
        show ((0 : Nat) : Int) ≤ x0 1 + 2147483648 ∧ x0 1 + 2147483648 ≤ ((4294967295 : Nat) : Int)
        have hx := hx0 1
        omega
      · have hp : some (0, 4294967295) = some p := hp
        cases hp
        show ((0 : Nat) : Int) ≤ x0 2 + 2147483648 ∧ x0 2 + 2147483648 ≤ ((4294967295 : Nat) : Int)
        have hx := hx0 2
        omega
      · have hp : some (0, 4294967295) = some p := hp
        cases hp
        show ((0 : Nat) : Int) ≤ x0 3 + 2147483648 ∧ x0 3 + 2147483648 ≤ ((4294967295 : Nat) : Int)
        have hx := hx0 3
        omega
      · have hp : some (0, 4294967295) = some p := hp
        cases hp
        show ((0 : Nat) : Int) ≤ x0 4 + 2147483648 ∧ x0 4 + 2147483648 ≤ ((4294967295 : Nat) : Int)
        have hx := hx0 4
        omega
    · show E = E ∧ (x0 0) = x0 0 ∧ (x0 1) = x0 1 ∧ (x0 2) = x0 2 ∧ (x0 3) = x0 3 ∧ (x0 4) = x0 4
      exact ⟨rfl, rfl, rfl, rfl, rfl, rfl⟩
  · intro x0 s Wg hRu hrx hT0 hΦ i v H hT hrv hInv hKc hFr0 hIH x hx ρ2 v2 N2 H2 locs lsB stA hAt hB hv hr2 hXs hag hfr hFr hT2
    rcases i with ⟨i, hi⟩
    have hi2 : i = 0 ∨ i = 1 ∨ i = 2 ∨ i = 3 ∨ i = 4 ∨ i = 5 ∨ i = 6 := by omega
    rcases hi2 with rfl | rfl | rfl | rfl | rfl | rfl | rfl
    · have hx : x ∈ [zxffx_zx0] := hx
      have hag : ∀ k, k < 6 → v2 k = v k := hag
      have hfr : xFr [] _ _ := hfr
      have ex := List.mem_singleton.mp hx
      subst ex
      obtain ⟨hF, hBd, hM⟩ := hXs
      have r1 := hr2 1
      have r2 := hr2 2
      have r3 := hr2 3
      have r4 := hr2 4
      have r5 := hr2 5
      have g1 : v2 1 = v 1 := hag 1 (by decide)
      have g2 : v2 2 = v 2 := hag 2 (by decide)
      have g3 : v2 3 = v 3 := hag 3 (by decide)
      have g4 : v2 4 = v 4 := hag 4 (by decide)
      have g5 : v2 5 = v 5 := hag 5 (by decide)
      have e74_33 : xE (zyEl zymx B H2) 74 33 = xE (zyEl zymx B H) 74 33 := xFr_E hfr rfl
      have e84 : ∀ i, xE (zyEl zymx B H2) 84 i = xE (zyEl zymx B H) 84 i := fun i => xFr_E hfr rfl
      have y74_33 : ((2147483648 : Nat) : Int) ≤ xE (zyEl zymx B s.heap) 74 33 + 2147483648 ∧ xE (zyEl zymx B s.heap) 74 33 + 2147483648 ≤ ((2147484548 : Nat) : Int) := xTyF hT0 74 33 33 rfl rfl rfl rfl rfl rfl
      have hI : (zyEl zymx B H) = (zyEl zymx B s.heap) ∧ (v 1) = x0 0 ∧ (v 2) = x0 1 ∧ (v 3) = x0 2 ∧ (v 4) = x0 3 ∧ (v 5) = x0 4 := hInv
      have q74_33 : xE (zyEl zymx B H) 74 33 = xE (zyEl zymx B s.heap) 74 33 := by rw [hI.1]
      have q84 : ∀ i, xE (zyEl zymx B H) 84 i = xE (zyEl zymx B s.heap) 84 i := fun i => by rw [hI.1]
      obtain ⟨hE, i1, i2, i3, i4, i5⟩ := hI
      have z74_33 : ((2147483648 : Nat) : Int) ≤ xE (zyEl zymx B H2) 74 33 + 2147483648 ∧ xE (zyEl zymx B H2) 74 33 + 2147483648 ≤ ((2147484548 : Nat) : Int) := xTyF hT2 74 33 33 rfl rfl rfl rfl rfl rfl
      refine xGo hIH hAt hB hv hFr ⟨1, by decide⟩ [0, 34359738369, 68719476737, 103079215105, 137438953473, 171798691841] [0, (v2 1), (v2 2), (v2 3), (v2 4), (v2 5), xE (zyEl zymx B H2) 74 33] rfl ⟨by decide +kernel, ⟨rfl, by decide +kernel⟩, (xcs_c rfl (xcs_c rfl (xcs_c rfl (xcs_c rfl (xcs_c rfl (xcs_c rfl xcs_n)))))), (xe_0 (xe_f (by omega) (xe_f (by omega) (xe_f (by omega) (xe_f (by omega) (xe_f (by omega) (xe_c (by omega) (by omega) rfl xe_n))))))), (xkq_c hT2 74 33 (q := 33) rfl rfl rfl rfl rfl rfl rfl rfl rfl rfl rfl xkq_n)⟩ xst_n ?_ ?_
      · show (zyEl zymx B H2) = (zyEl zymx B s.heap) ∧ ((v2 1) : Int) = x0 0 ∧ ((v2 2) : Int) = x0 1 ∧ ((v2 3) : Int) = x0 2 ∧ ((v2 4) : Int) = x0 3 ∧ ((v2 5) : Int) = x0 4
        exact ⟨(xFr_n hfr).trans hE, by omega, by omega, by omega, by omega, by omega⟩
      · show 10 < 11
        omega
    · have hx : x ∈ [zxffx_ax0] := hx
      have hag : ∀ k, k < 7 → v2 k = v k := hag
      have hfr : xFr [(74, 3, 3)] _ _ := hfr
      have ex := List.mem_singleton.mp hx
      subst ex
      obtain ⟨hF, hBd, hM⟩ := hXs
      have r1 := hr2 1
      have r2 := hr2 2
      have r3 := hr2 3
      have r4 := hr2 4
      have r5 := hr2 5
      have g1 : v2 1 = v 1 := hag 1 (by decide)
      have g2 : v2 2 = v 2 := hag 2 (by decide)
      have g3 : v2 3 = v 3 := hag 3 (by decide)
      have g4 : v2 4 = v 4 := hag 4 (by decide)
      have g5 : v2 5 = v 5 := hag 5 (by decide)
      have g6 : v2 6 = v 6 := hag 6 (by decide)
      have b0 : ((2147483648 : Nat) : Int) ≤ (v2 6) + 2147483648 ∧ (v2 6) + 2147483648 ≤ ((2147484528 : Nat) : Int) := xXb hBd 0 rfl
      have k0 : xE (zyEl zymx B H) 74 33 = v 6 := xKcf hKc 0 rfl rfl
      have f0 : (v2 6 + 20) ≤ 900 := xXf hF 0 rfl
      have m0 : xE (zyEl zymx B H2) 74 3 = 0 := xXm hM 0 rfl
      have m1 : xE (zyEl zymx B H2) 74 33 = (v2 6) := xXm hM 1 rfl
      have e74_33 : xE (zyEl zymx B H2) 74 33 = xE (zyEl zymx B H) 74 33 := xFr_E hfr rfl
      have e84 : ∀ i, xE (zyEl zymx B H2) 84 i = xE (zyEl zymx B H) 84 i := fun i => xFr_E hfr rfl
      have y74_33 : ((2147483648 : Nat) : Int) ≤ xE (zyEl zymx B s.heap) 74 33 + 2147483648 ∧ xE (zyEl zymx B s.heap) 74 33 + 2147483648 ≤ ((2147484548 : Nat) : Int) := xTyF hT0 74 33 33 rfl rfl rfl rfl rfl rfl
      have hI : (zyEl zymx B H) = (zyEl zymx B s.heap) ∧ (v 1) = x0 0 ∧ (v 2) = x0 1 ∧ (v 3) = x0 2 ∧ (v 4) = x0 3 ∧ (v 5) = x0 4 := hInv
      have q74_33 : xE (zyEl zymx B H) 74 33 = xE (zyEl zymx B s.heap) 74 33 := by rw [hI.1]
      have q84 : ∀ i, xE (zyEl zymx B H) 84 i = xE (zyEl zymx B s.heap) 84 i := fun i => by rw [hI.1]
      obtain ⟨hE, i1, i2, i3, i4, i5⟩ := hI
      refine xCa hRu hIH hAt hB hv hFr (hfpu B) (ix := 409) (ax := 4976) rfl rfl rfl hmefpu ⟨_, rfl, rfl, by decide⟩ ⟨rfl, rfl, rfl⟩ (by decide) [34359738369] [] [(v2 1)] rfl ⟨rfl, rfl⟩ (by decide +kernel) (xcs_c rfl xcs_n) (by decide +kernel) ?_ (fun H3 r hT3 hf3 hFr3 hr3 hΨ3 => ?_)
      · show xΦfpu (xfv [(v2 1)]) (zyEl zymx B H2)
        unfold xΦfpu
        omega
      · have hΨ3 : xΨfpu (xfv [(v2 1)]) (zyEl zymx B H2) (zyEl zymx B H3) r := hΨ3
        skip
        obtain ⟨p1, p2, p3⟩ := hΨ3
        have hx : xfv [(v2 1)] 0 = x0 0 := by show (v2 1) = _; omega
        refine ⟨⟨2, by decide⟩, [0, 34359738369, 68719476737, 103079215105, 137438953473, 171798691841], [0, (v2 1), (v2 2), (v2 3), (v2 4), (v2 5)], rfl, ⟨by decide +kernel, ⟨rfl, by decide +kernel⟩, (xcs_c rfl (xcs_c rfl (xcs_c rfl (xcs_c rfl (xcs_c rfl (xcs_c rfl xcs_n)))))), (xe_0 (xe_f (by omega) (xe_f (by omega) (xe_f (by omega) (xe_f (by omega) (xe_f (by omega) xe_n)))))), xkq_n⟩, (by rw [if_neg (by decide)]; exact xst_n), ?_, ?_⟩
        · show ((v2 1) : Int) = x0 0 ∧ ((v2 2) : Int) = x0 1 ∧ ((v2 3) : Int) = x0 2 ∧ ((v2 4) : Int) = x0 3 ∧ ((v2 5) : Int) = x0 4 ∧ (xE (zyEl zymx B s.heap) 74 33 ≤ 880) ∧ (xE (zyEl zymx B H3) 74 33 = xE (zyEl zymx B s.heap) 74 33 + 4) ∧ (∀ i, 0 ≤ i → i < 4 → xE (zyEl zymx B H3) 84 (xE (zyEl zymx B s.heap) 74 33 + i) = fbs x0 i) ∧ (∀ i, 0 ≤ i → i < xE (zyEl zymx B s.heap) 74 33 → xE (zyEl zymx B H3) 84 i = xE (zyEl zymx B s.heap) 84 i)
          refine ⟨by omega, by omega, by omega, by omega, by omega, by omega, by omega, fun i k0 k1 => ?_, fun i k0 k1 => ?_⟩
          · by_cases hq : i < 0
            · omega
            · have w := p2 (i - 0) (by omega) (by omega)
              rw [show xE (zyEl zymx B H2) 74 33 + (i - 0) = xE (zyEl zymx B s.heap) 74 33 + i by omega, hx] at w
              rw [w]
              unfold fbs
              rw [show i / 4 = 0 by omega, show i % 4 = i - 0 by omega]
              rfl
          · rw [p3 _ (by omega) (by omega)]
            rw [e84, q84]
        · show 8 < 10
          omega
    · have hx : x ∈ [zxffx_b1x0] := hx
      have hag : ∀ k, k < 6 → v2 k = v k := hag
      have hfr : xFr [] _ _ := hfr
      have ex := List.mem_singleton.mp hx
      subst ex
      obtain ⟨hF, hBd, hM⟩ := hXs
      have r1 := hr2 1
      have r2 := hr2 2
      have r3 := hr2 3
      have r4 := hr2 4
      have r5 := hr2 5
      have g1 : v2 1 = v 1 := hag 1 (by decide)
      have g2 : v2 2 = v 2 := hag 2 (by decide)
      have g3 : v2 3 = v 3 := hag 3 (by decide)
      have g4 : v2 4 = v 4 := hag 4 (by decide)
      have g5 : v2 5 = v 5 := hag 5 (by decide)
      have e74_33 : xE (zyEl zymx B H2) 74 33 = xE (zyEl zymx B H) 74 33 := xFr_E hfr rfl
      have e84 : ∀ i, xE (zyEl zymx B H2) 84 i = xE (zyEl zymx B H) 84 i := fun i => xFr_E hfr rfl
      have y74_33 : ((2147483648 : Nat) : Int) ≤ xE (zyEl zymx B s.heap) 74 33 + 2147483648 ∧ xE (zyEl zymx B s.heap) 74 33 + 2147483648 ≤ ((2147484548 : Nat) : Int) := xTyF hT0 74 33 33 rfl rfl rfl rfl rfl rfl
      have hI : (v 1) = x0 0 ∧ (v 2) = x0 1 ∧ (v 3) = x0 2 ∧ (v 4) = x0 3 ∧ (v 5) = x0 4 ∧ (xE (zyEl zymx B s.heap) 74 33 ≤ 880) ∧ (xE (zyEl zymx B H) 74 33 = xE (zyEl zymx B s.heap) 74 33 + 4) ∧ (∀ i, 0 ≤ i → i < 4 → xE (zyEl zymx B H) 84 (xE (zyEl zymx B s.heap) 74 33 + i) = fbs x0 i) ∧ (∀ i, 0 ≤ i → i < xE (zyEl zymx B s.heap) 74 33 → xE (zyEl zymx B H) 84 i = xE (zyEl zymx B s.heap) 84 i) := hInv
      obtain ⟨i1, i2, i3, i4, i5, i6, i7, j1, j2⟩ := hI
      refine xCa hRu hIH hAt hB hv hFr (hfpu B) (ix := 409) (ax := 4976) rfl rfl rfl hmefpu ⟨_, rfl, rfl, by decide⟩ ⟨rfl, rfl, rfl⟩ (by decide) [68719476737] [] [(v2 2)] rfl ⟨rfl, rfl⟩ (by decide +kernel) (xcs_c rfl xcs_n) (by decide +kernel) ?_ (fun H3 r hT3 hf3 hFr3 hr3 hΨ3 => ?_)
      · show xΦfpu (xfv [(v2 2)]) (zyEl zymx B H2)
        unfold xΦfpu
        omega
      · have hΨ3 : xΨfpu (xfv [(v2 2)]) (zyEl zymx B H2) (zyEl zymx B H3) r := hΨ3
        skip
        obtain ⟨p1, p2, p3⟩ := hΨ3
        have hx : xfv [(v2 2)] 0 = x0 1 := by show (v2 2) = _; omega
        refine ⟨⟨3, by decide⟩, [0, 34359738369, 68719476737, 103079215105, 137438953473, 171798691841], [0, (v2 1), (v2 2), (v2 3), (v2 4), (v2 5)], rfl, ⟨by decide +kernel, ⟨rfl, by decide +kernel⟩, (xcs_c rfl (xcs_c rfl (xcs_c rfl (xcs_c rfl (xcs_c rfl (xcs_c rfl xcs_n)))))), (xe_0 (xe_f (by omega) (xe_f (by omega) (xe_f (by omega) (xe_f (by omega) (xe_f (by omega) xe_n)))))), xkq_n⟩, (by rw [if_neg (by decide)]; exact xst_n), ?_, ?_⟩
        · show ((v2 1) : Int) = x0 0 ∧ ((v2 2) : Int) = x0 1 ∧ ((v2 3) : Int) = x0 2 ∧ ((v2 4) : Int) = x0 3 ∧ ((v2 5) : Int) = x0 4 ∧ (xE (zyEl zymx B s.heap) 74 33 ≤ 880) ∧ (xE (zyEl zymx B H3) 74 33 = xE (zyEl zymx B s.heap) 74 33 + 8) ∧ (∀ i, 0 ≤ i → i < 8 → xE (zyEl zymx B H3) 84 (xE (zyEl zymx B s.heap) 74 33 + i) = fbs x0 i) ∧ (∀ i, 0 ≤ i → i < xE (zyEl zymx B s.heap) 74 33 → xE (zyEl zymx B H3) 84 i = xE (zyEl zymx B s.heap) 84 i)
          refine ⟨by omega, by omega, by omega, by omega, by omega, by omega, by omega, fun i k0 k1 => ?_, fun i k0 k1 => ?_⟩
          · by_cases hq : i < 4
            · rw [p3 _ (by omega) (by omega)]
              rw [e84]
              exact j1 i k0 hq
            · have w := p2 (i - 4) (by omega) (by omega)
              rw [show xE (zyEl zymx B H2) 74 33 + (i - 4) = xE (zyEl zymx B s.heap) 74 33 + i by omega, hx] at w
              rw [w]
              unfold fbs
              rw [show i / 4 = 1 by omega, show i % 4 = i - 4 by omega]
              rfl
          · rw [p3 _ (by omega) (by omega)]
            rw [e84]
            exact j2 i k0 k1
        · show 7 < 8
          omega
    · have hx : x ∈ [zxffx_b2x0] := hx
      have hag : ∀ k, k < 6 → v2 k = v k := hag
      have hfr : xFr [] _ _ := hfr
      have ex := List.mem_singleton.mp hx
      subst ex
      obtain ⟨hF, hBd, hM⟩ := hXs
      have r1 := hr2 1
      have r2 := hr2 2
      have r3 := hr2 3
      have r4 := hr2 4
      have r5 := hr2 5
      have g1 : v2 1 = v 1 := hag 1 (by decide)
      have g2 : v2 2 = v 2 := hag 2 (by decide)
      have g3 : v2 3 = v 3 := hag 3 (by decide)
      have g4 : v2 4 = v 4 := hag 4 (by decide)
      have g5 : v2 5 = v 5 := hag 5 (by decide)
      have e74_33 : xE (zyEl zymx B H2) 74 33 = xE (zyEl zymx B H) 74 33 := xFr_E hfr rfl
      have e84 : ∀ i, xE (zyEl zymx B H2) 84 i = xE (zyEl zymx B H) 84 i := fun i => xFr_E hfr rfl
      have y74_33 : ((2147483648 : Nat) : Int) ≤ xE (zyEl zymx B s.heap) 74 33 + 2147483648 ∧ xE (zyEl zymx B s.heap) 74 33 + 2147483648 ≤ ((2147484548 : Nat) : Int) := xTyF hT0 74 33 33 rfl rfl rfl rfl rfl rfl
      have hI : (v 1) = x0 0 ∧ (v 2) = x0 1 ∧ (v 3) = x0 2 ∧ (v 4) = x0 3 ∧ (v 5) = x0 4 ∧ (xE (zyEl zymx B s.heap) 74 33 ≤ 880) ∧ (xE (zyEl zymx B H) 74 33 = xE (zyEl zymx B s.heap) 74 33 + 8) ∧ (∀ i, 0 ≤ i → i < 8 → xE (zyEl zymx B H) 84 (xE (zyEl zymx B s.heap) 74 33 + i) = fbs x0 i) ∧ (∀ i, 0 ≤ i → i < xE (zyEl zymx B s.heap) 74 33 → xE (zyEl zymx B H) 84 i = xE (zyEl zymx B s.heap) 84 i) := hInv
      obtain ⟨i1, i2, i3, i4, i5, i6, i7, j1, j2⟩ := hI
      refine xCa hRu hIH hAt hB hv hFr (hfpu B) (ix := 409) (ax := 4976) rfl rfl rfl hmefpu ⟨_, rfl, rfl, by decide⟩ ⟨rfl, rfl, rfl⟩ (by decide) [103079215105] [] [(v2 3)] rfl ⟨rfl, rfl⟩ (by decide +kernel) (xcs_c rfl xcs_n) (by decide +kernel) ?_ (fun H3 r hT3 hf3 hFr3 hr3 hΨ3 => ?_)
      · show xΦfpu (xfv [(v2 3)]) (zyEl zymx B H2)
        unfold xΦfpu
        omega
      · have hΨ3 : xΨfpu (xfv [(v2 3)]) (zyEl zymx B H2) (zyEl zymx B H3) r := hΨ3
        skip
        obtain ⟨p1, p2, p3⟩ := hΨ3
        have hx : xfv [(v2 3)] 0 = x0 2 := by show (v2 3) = _; omega
        refine ⟨⟨4, by decide⟩, [0, 34359738369, 68719476737, 103079215105, 137438953473, 171798691841], [0, (v2 1), (v2 2), (v2 3), (v2 4), (v2 5)], rfl, ⟨by decide +kernel, ⟨rfl, by decide +kernel⟩, (xcs_c rfl (xcs_c rfl (xcs_c rfl (xcs_c rfl (xcs_c rfl (xcs_c rfl xcs_n)))))), (xe_0 (xe_f (by omega) (xe_f (by omega) (xe_f (by omega) (xe_f (by omega) (xe_f (by omega) xe_n)))))), xkq_n⟩, (by rw [if_neg (by decide)]; exact xst_n), ?_, ?_⟩
        · show ((v2 1) : Int) = x0 0 ∧ ((v2 2) : Int) = x0 1 ∧ ((v2 3) : Int) = x0 2 ∧ ((v2 4) : Int) = x0 3 ∧ ((v2 5) : Int) = x0 4 ∧ (xE (zyEl zymx B s.heap) 74 33 ≤ 880) ∧ (xE (zyEl zymx B H3) 74 33 = xE (zyEl zymx B s.heap) 74 33 + 12) ∧ (∀ i, 0 ≤ i → i < 12 → xE (zyEl zymx B H3) 84 (xE (zyEl zymx B s.heap) 74 33 + i) = fbs x0 i) ∧ (∀ i, 0 ≤ i → i < xE (zyEl zymx B s.heap) 74 33 → xE (zyEl zymx B H3) 84 i = xE (zyEl zymx B s.heap) 84 i)
          refine ⟨by omega, by omega, by omega, by omega, by omega, by omega, by omega, fun i k0 k1 => ?_, fun i k0 k1 => ?_⟩
          · by_cases hq : i < 8
            · rw [p3 _ (by omega) (by omega)]
              rw [e84]
              exact j1 i k0 hq
            · have w := p2 (i - 8) (by omega) (by omega)
              rw [show xE (zyEl zymx B H2) 74 33 + (i - 8) = xE (zyEl zymx B s.heap) 74 33 + i by omega, hx] at w
              rw [w]
              unfold fbs
              rw [show i / 4 = 2 by omega, show i % 4 = i - 8 by omega]
              rfl
          · rw [p3 _ (by omega) (by omega)]
            rw [e84]
            exact j2 i k0 k1
        · show 6 < 7
          omega
    · have hx : x ∈ [zxffx_b3x0] := hx
      have hag : ∀ k, k < 6 → v2 k = v k := hag
      have hfr : xFr [] _ _ := hfr
      have ex := List.mem_singleton.mp hx
      subst ex
      obtain ⟨hF, hBd, hM⟩ := hXs
      have r1 := hr2 1
      have r2 := hr2 2
      have r3 := hr2 3
      have r4 := hr2 4
      have r5 := hr2 5
      have g1 : v2 1 = v 1 := hag 1 (by decide)
      have g2 : v2 2 = v 2 := hag 2 (by decide)
      have g3 : v2 3 = v 3 := hag 3 (by decide)
      have g4 : v2 4 = v 4 := hag 4 (by decide)
      have g5 : v2 5 = v 5 := hag 5 (by decide)
      have e74_33 : xE (zyEl zymx B H2) 74 33 = xE (zyEl zymx B H) 74 33 := xFr_E hfr rfl
      have e84 : ∀ i, xE (zyEl zymx B H2) 84 i = xE (zyEl zymx B H) 84 i := fun i => xFr_E hfr rfl
      have y74_33 : ((2147483648 : Nat) : Int) ≤ xE (zyEl zymx B s.heap) 74 33 + 2147483648 ∧ xE (zyEl zymx B s.heap) 74 33 + 2147483648 ≤ ((2147484548 : Nat) : Int) := xTyF hT0 74 33 33 rfl rfl rfl rfl rfl rfl
      have hI : (v 1) = x0 0 ∧ (v 2) = x0 1 ∧ (v 3) = x0 2 ∧ (v 4) = x0 3 ∧ (v 5) = x0 4 ∧ (xE (zyEl zymx B s.heap) 74 33 ≤ 880) ∧ (xE (zyEl zymx B H) 74 33 = xE (zyEl zymx B s.heap) 74 33 + 12) ∧ (∀ i, 0 ≤ i → i < 12 → xE (zyEl zymx B H) 84 (xE (zyEl zymx B s.heap) 74 33 + i) = fbs x0 i) ∧ (∀ i, 0 ≤ i → i < xE (zyEl zymx B s.heap) 74 33 → xE (zyEl zymx B H) 84 i = xE (zyEl zymx B s.heap) 84 i) := hInv
      obtain ⟨i1, i2, i3, i4, i5, i6, i7, j1, j2⟩ := hI
      refine xCa hRu hIH hAt hB hv hFr (hfpu B) (ix := 409) (ax := 4976) rfl rfl rfl hmefpu ⟨_, rfl, rfl, by decide⟩ ⟨rfl, rfl, rfl⟩ (by decide) [137438953473] [] [(v2 4)] rfl ⟨rfl, rfl⟩ (by decide +kernel) (xcs_c rfl xcs_n) (by decide +kernel) ?_ (fun H3 r hT3 hf3 hFr3 hr3 hΨ3 => ?_)
      · show xΦfpu (xfv [(v2 4)]) (zyEl zymx B H2)
        unfold xΦfpu
        omega
      · have hΨ3 : xΨfpu (xfv [(v2 4)]) (zyEl zymx B H2) (zyEl zymx B H3) r := hΨ3
        skip
        obtain ⟨p1, p2, p3⟩ := hΨ3
        have hx : xfv [(v2 4)] 0 = x0 3 := by show (v2 4) = _; omega
        refine ⟨⟨5, by decide⟩, [0, 34359738369, 68719476737, 103079215105, 137438953473, 171798691841], [0, (v2 1), (v2 2), (v2 3), (v2 4), (v2 5)], rfl, ⟨by decide +kernel, ⟨rfl, by decide +kernel⟩, (xcs_c rfl (xcs_c rfl (xcs_c rfl (xcs_c rfl (xcs_c rfl (xcs_c rfl xcs_n)))))), (xe_0 (xe_f (by omega) (xe_f (by omega) (xe_f (by omega) (xe_f (by omega) (xe_f (by omega) xe_n)))))), xkq_n⟩, (by rw [if_neg (by decide)]; exact xst_n), ?_, ?_⟩
        · show ((v2 1) : Int) = x0 0 ∧ ((v2 2) : Int) = x0 1 ∧ ((v2 3) : Int) = x0 2 ∧ ((v2 4) : Int) = x0 3 ∧ ((v2 5) : Int) = x0 4 ∧ (xE (zyEl zymx B s.heap) 74 33 ≤ 880) ∧ (xE (zyEl zymx B H3) 74 33 = xE (zyEl zymx B s.heap) 74 33 + 16) ∧ (∀ i, 0 ≤ i → i < 16 → xE (zyEl zymx B H3) 84 (xE (zyEl zymx B s.heap) 74 33 + i) = fbs x0 i) ∧ (∀ i, 0 ≤ i → i < xE (zyEl zymx B s.heap) 74 33 → xE (zyEl zymx B H3) 84 i = xE (zyEl zymx B s.heap) 84 i)
          refine ⟨by omega, by omega, by omega, by omega, by omega, by omega, by omega, fun i k0 k1 => ?_, fun i k0 k1 => ?_⟩
          · by_cases hq : i < 12
            · rw [p3 _ (by omega) (by omega)]
              rw [e84]
              exact j1 i k0 hq
            · have w := p2 (i - 12) (by omega) (by omega)
              rw [show xE (zyEl zymx B H2) 74 33 + (i - 12) = xE (zyEl zymx B s.heap) 74 33 + i by omega, hx] at w
              rw [w]
              unfold fbs
              rw [show i / 4 = 3 by omega, show i % 4 = i - 12 by omega]
              rfl
          · rw [p3 _ (by omega) (by omega)]
            rw [e84]
            exact j2 i k0 k1
        · show 5 < 6
          omega
    · have hx : x ∈ [zxffx_b4x0] := hx
      have hag : ∀ k, k < 6 → v2 k = v k := hag
      have hfr : xFr [] _ _ := hfr
      have ex := List.mem_singleton.mp hx
      subst ex
      obtain ⟨hF, hBd, hM⟩ := hXs
      have r1 := hr2 1
      have r2 := hr2 2
      have r3 := hr2 3
      have r4 := hr2 4
      have r5 := hr2 5
      have g1 : v2 1 = v 1 := hag 1 (by decide)
      have g2 : v2 2 = v 2 := hag 2 (by decide)
      have g3 : v2 3 = v 3 := hag 3 (by decide)
      have g4 : v2 4 = v 4 := hag 4 (by decide)
      have g5 : v2 5 = v 5 := hag 5 (by decide)
      have e74_33 : xE (zyEl zymx B H2) 74 33 = xE (zyEl zymx B H) 74 33 := xFr_E hfr rfl
      have e84 : ∀ i, xE (zyEl zymx B H2) 84 i = xE (zyEl zymx B H) 84 i := fun i => xFr_E hfr rfl
      have y74_33 : ((2147483648 : Nat) : Int) ≤ xE (zyEl zymx B s.heap) 74 33 + 2147483648 ∧ xE (zyEl zymx B s.heap) 74 33 + 2147483648 ≤ ((2147484548 : Nat) : Int) := xTyF hT0 74 33 33 rfl rfl rfl rfl rfl rfl
      have hI : (v 1) = x0 0 ∧ (v 2) = x0 1 ∧ (v 3) = x0 2 ∧ (v 4) = x0 3 ∧ (v 5) = x0 4 ∧ (xE (zyEl zymx B s.heap) 74 33 ≤ 880) ∧ (xE (zyEl zymx B H) 74 33 = xE (zyEl zymx B s.heap) 74 33 + 16) ∧ (∀ i, 0 ≤ i → i < 16 → xE (zyEl zymx B H) 84 (xE (zyEl zymx B s.heap) 74 33 + i) = fbs x0 i) ∧ (∀ i, 0 ≤ i → i < xE (zyEl zymx B s.heap) 74 33 → xE (zyEl zymx B H) 84 i = xE (zyEl zymx B s.heap) 84 i) := hInv
      obtain ⟨i1, i2, i3, i4, i5, i6, i7, j1, j2⟩ := hI
      refine xCa hRu hIH hAt hB hv hFr (hfpu B) (ix := 409) (ax := 4976) rfl rfl rfl hmefpu ⟨_, rfl, rfl, by decide⟩ ⟨rfl, rfl, rfl⟩ (by decide) [171798691841] [] [(v2 5)] rfl ⟨rfl, rfl⟩ (by decide +kernel) (xcs_c rfl xcs_n) (by decide +kernel) ?_ (fun H3 r hT3 hf3 hFr3 hr3 hΨ3 => ?_)
      · show xΦfpu (xfv [(v2 5)]) (zyEl zymx B H2)
        unfold xΦfpu
        omega
      · have hΨ3 : xΨfpu (xfv [(v2 5)]) (zyEl zymx B H2) (zyEl zymx B H3) r := hΨ3
        have z74_33 : ((2147483648 : Nat) : Int) ≤ xE (zyEl zymx B H3) 74 33 + 2147483648 ∧ xE (zyEl zymx B H3) 74 33 + 2147483648 ≤ ((2147484548 : Nat) : Int) := xTyF hT3 74 33 33 rfl rfl rfl rfl rfl rfl
        obtain ⟨p1, p2, p3⟩ := hΨ3
        have hx : xfv [(v2 5)] 0 = x0 4 := by show (v2 5) = _; omega
        refine ⟨⟨6, by decide⟩, [0, 34359738369, 68719476737, 103079215105, 137438953473, 171798691841], [0, (v2 1), (v2 2), (v2 3), (v2 4), (v2 5), xE (zyEl zymx B H3) 74 33], rfl, ⟨by decide +kernel, ⟨rfl, by decide +kernel⟩, (xcs_c rfl (xcs_c rfl (xcs_c rfl (xcs_c rfl (xcs_c rfl (xcs_c rfl xcs_n)))))), (xe_0 (xe_f (by omega) (xe_f (by omega) (xe_f (by omega) (xe_f (by omega) (xe_f (by omega) (xe_c (by omega) (by omega) rfl xe_n))))))), (xkq_c hT3 74 33 (q := 33) rfl rfl rfl rfl rfl rfl rfl rfl rfl rfl rfl xkq_n)⟩, (by rw [if_neg (by decide)]; exact xst_n), ?_, ?_⟩
        · show ((v2 1) : Int) = x0 0 ∧ ((v2 2) : Int) = x0 1 ∧ ((v2 3) : Int) = x0 2 ∧ ((v2 4) : Int) = x0 3 ∧ ((v2 5) : Int) = x0 4 ∧ (xE (zyEl zymx B s.heap) 74 33 ≤ 880) ∧ (xE (zyEl zymx B H3) 74 33 = xE (zyEl zymx B s.heap) 74 33 + 20) ∧ (∀ i, 0 ≤ i → i < 20 → xE (zyEl zymx B H3) 84 (xE (zyEl zymx B s.heap) 74 33 + i) = fbs x0 i) ∧ (∀ i, 0 ≤ i → i < xE (zyEl zymx B s.heap) 74 33 → xE (zyEl zymx B H3) 84 i = xE (zyEl zymx B s.heap) 84 i)
          refine ⟨by omega, by omega, by omega, by omega, by omega, by omega, by omega, fun i k0 k1 => ?_, fun i k0 k1 => ?_⟩
          · by_cases hq : i < 16
            · rw [p3 _ (by omega) (by omega)]
              rw [e84]
              exact j1 i k0 hq
            · have w := p2 (i - 16) (by omega) (by omega)
              rw [show xE (zyEl zymx B H2) 74 33 + (i - 16) = xE (zyEl zymx B s.heap) 74 33 + i by omega, hx] at w
              rw [w]
              unfold fbs
              rw [show i / 4 = 4 by omega, show i % 4 = i - 16 by omega]
              rfl
          · rw [p3 _ (by omega) (by omega)]
            rw [e84]
            exact j2 i k0 k1
        · show 4 < 5
          omega
    · cases hx
  · intro x0 E0 E E2 hrx hT0 hΦ i v hT hrv hInv hKc hFr0 x hx v2 hr2 hXs hag hfr hFr hT2
    rcases i with ⟨i, hi⟩
    have hi2 : i = 0 ∨ i = 1 ∨ i = 2 ∨ i = 3 ∨ i = 4 ∨ i = 5 ∨ i = 6 := by omega
    rcases hi2 with rfl | rfl | rfl | rfl | rfl | rfl | rfl
    · cases hx
    · have hx : x ∈ [zxffx_ar0] := hx
      have hag : ∀ k, k < 7 → v2 k = v k := hag
      have hfr : xFr [(74, 3, 3)] _ _ := hfr
      have ex := List.mem_singleton.mp hx
      subst ex
      obtain ⟨hF, hBd, hM⟩ := hXs
      have g1 : v2 1 = v 1 := hag 1 (by decide)
      have g2 : v2 2 = v 2 := hag 2 (by decide)
      have g3 : v2 3 = v 3 := hag 3 (by decide)
      have g4 : v2 4 = v 4 := hag 4 (by decide)
      have g5 : v2 5 = v 5 := hag 5 (by decide)
      have g6 : v2 6 = v 6 := hag 6 (by decide)
      have b0 : ((2147484529 : Nat) : Int) ≤ (v2 6) + 2147483648 ∧ (v2 6) + 2147483648 ≤ ((2147484548 : Nat) : Int) := xXb hBd 0 rfl
      have k0 : xE E 74 33 = v 6 := xKcf hKc 0 rfl rfl
      have f0 : 900 < (v2 6 + 20) := xXf hF 0 rfl
      have m0 : xE E2 74 3 = 0 := xXm hM 0 rfl
      have m1 : xE E2 74 33 = (v2 6) := xXm hM 1 rfl
      have e74_33 : xE E2 74 33 = xE E 74 33 := xFr_E hfr rfl
      have e84 : ∀ i, xE E2 84 i = xE E 84 i := fun i => xFr_E hfr rfl
      have y74_33 : ((2147483648 : Nat) : Int) ≤ xE E0 74 33 + 2147483648 ∧ xE E0 74 33 + 2147483648 ≤ ((2147484548 : Nat) : Int) := xTyF hT0 74 33 33 rfl rfl rfl rfl rfl rfl
      have hI : E = E0 ∧ (v 1) = x0 0 ∧ (v 2) = x0 1 ∧ (v 3) = x0 2 ∧ (v 4) = x0 3 ∧ (v 5) = x0 4 := hInv
      have q74_33 : xE E 74 33 = xE E0 74 33 := by rw [hI.1]
      have q84 : ∀ i, xE E 84 i = xE E0 84 i := fun i => by rw [hI.1]
      show xΨffx x0 E0 E2 (-1)
      obtain ⟨hE, i1, i2, i3, i4, i5⟩ := hI
      unfold xΨffx
      rw [if_pos (by omega)]
      exact ⟨by omega, by omega, fun i => by rw [e84 i, q84 i]⟩
    · cases hx
    · cases hx
    · cases hx
    · cases hx
    · have hx : x ∈ [zxffx_b5r0] := hx
      have hag : ∀ k, k < 7 → v2 k = v k := hag
      have hfr : xFr [] _ _ := hfr
      have ex := List.mem_singleton.mp hx
      subst ex
      obtain ⟨hF, hBd, hM⟩ := hXs
      have g1 : v2 1 = v 1 := hag 1 (by decide)
      have g2 : v2 2 = v 2 := hag 2 (by decide)
      have g3 : v2 3 = v 3 := hag 3 (by decide)
      have g4 : v2 4 = v 4 := hag 4 (by decide)
      have g5 : v2 5 = v 5 := hag 5 (by decide)
      have g6 : v2 6 = v 6 := hag 6 (by decide)
      have b0 : ((2147483648 : Nat) : Int) ≤ (v2 6) + 2147483648 ∧ (v2 6) + 2147483648 ≤ ((2147484548 : Nat) : Int) := xXb hBd 0 rfl
      have k0 : xE E 74 33 = v 6 := xKcf hKc 0 rfl rfl
      have e74_33 : xE E2 74 33 = xE E 74 33 := xFr_E hfr rfl
      have e84 : ∀ i, xE E2 84 i = xE E 84 i := fun i => xFr_E hfr rfl
      have y74_33 : ((2147483648 : Nat) : Int) ≤ xE E0 74 33 + 2147483648 ∧ xE E0 74 33 + 2147483648 ≤ ((2147484548 : Nat) : Int) := xTyF hT0 74 33 33 rfl rfl rfl rfl rfl rfl
      have hI : (v 1) = x0 0 ∧ (v 2) = x0 1 ∧ (v 3) = x0 2 ∧ (v 4) = x0 3 ∧ (v 5) = x0 4 ∧ (xE E0 74 33 ≤ 880) ∧ (xE E 74 33 = xE E0 74 33 + 20) ∧ (∀ i, 0 ≤ i → i < 20 → xE E 84 (xE E0 74 33 + i) = fbs x0 i) ∧ (∀ i, 0 ≤ i → i < xE E0 74 33 → xE E 84 i = xE E0 84 i) := hInv
      show xΨffx x0 E0 E2 (v2 6)
      obtain ⟨i1, i2, i3, i4, i5, i6, i7, j1, j2⟩ := hI
      unfold xΨffx
      rw [if_neg (by omega)]
      exact ⟨by omega, by omega, fun i k0 k1 => (e84 _).trans (j1 i k0 k1), fun i k0 k1 => (e84 _).trans (j2 i k0 k1)⟩
end
section
/-! LONGS, by hand: fields, elements, arithmetic -/
def xRl (mi : zyB) (en : zEn) (B : zCx) (s : State) (Wg : zyWt) : Prop :=
  (∀ (pc ix ax p0 : Nat) (c : zyCl) (v : Value) (rs : List Value) (H : Heap) (locs : List Loc) (lsB : Array Slot), en.1 pc = (.getfield ix, pc + 3, ax) → zG mi p0 = some c → c.1 = ax / 64 → c.1 < 12 → zyMI mi B zyJ0 s H → zyEl mi B H p0 (ax % 64) = some v → Wg H locs (pc + 3) lsB (v :: rs) → Wg H locs pc lsB (.ref (zad B p0) :: rs)) ∧
  (∀ (pc ix ax p0 : Nat) (c : zyCl) (x : Int64) (rs : List Value) (H : Heap) (locs : List Loc) (lsB : Array Slot), en.1 pc = (.putfield ix, pc + 3, ax) → zG mi p0 = some c → c.1 = ax / 64 → c.1 < 12 → Nat.mod (zxK ax) 8 = 2 → zxK ax ≤ 7 → (∀ r ∈ c.2.2, r.1 ≤ ax % 64 → ax % 64 ≤ r.2.1 → r.2.2 = 147573952589676412932) → zyMI mi B zyJ0 s H → (∀ x ∈ locs, zbs B ≤ x.base) →
    (∀ (H3 : Heap) (locs3 : List Loc), zyMI mi B zyJ0 s H3 → zyOut mi B H H3 → (∀ x ∈ locs3, zbs B ≤ x.base) → zyEl mi B H3 p0 (ax % 64) = some (.long x) → (∀ a2 k2, ¬ (a2 = p0 ∧ k2 = ax % 64) → zyEl mi B H3 a2 k2 = zyEl mi B H a2 k2) → Wg H3 locs3 (pc + 3) lsB rs) → Wg H locs pc lsB (.long x :: .ref (zad B p0) :: rs)) ∧
  (∀ (pc ax a n : Nat) (c : zyCl) (v : Value) (rs : List Value) (H : Heap) (locs : List Loc) (lsB : Array Slot), (c.1 = 22 ∧ en.1 pc = (.baload, pc + 1, ax) ∨ c.1 = 21 ∧ en.1 pc = (.laload, pc + 1, ax)) → zG mi a = some c → n < c.2.1 → zyMI mi B zyJ0 s H → zyEl mi B H a n = some v → Wg H locs (pc + 1) lsB (v :: rs) → Wg H locs pc lsB (.int (Int32.ofNat n) :: .ref (zad B a) :: rs)) ∧
  (∀ (pc ix ax : Nat) (rs : List Value) (H : Heap) (locs : List Loc) (lsB : Array Slot), en.1 pc = (.ldc2_w ix, pc + 3, ax) → Wg H locs (pc + 3) lsB (.long (Int64.ofNat ax) :: rs) → Wg H locs pc lsB rs) ∧
  (∀ (pc ax : Nat) (x y : Int64) (rs : List Value) (H : Heap) (locs : List Loc) (lsB : Array Slot), (en.1 pc = (.lmul, pc + 1, ax) → Wg H locs (pc + 1) lsB (.long (x * y) :: rs) → Wg H locs pc lsB (.long y :: .long x :: rs)) ∧ (en.1 pc = (.ladd, pc + 1, ax) → Wg H locs (pc + 1) lsB (.long (x + y) :: rs) → Wg H locs pc lsB (.long y :: .long x :: rs)) ∧ (en.1 pc = (.lsub, pc + 1, ax) → Wg H locs (pc + 1) lsB (.long (x - y) :: rs) → Wg H locs pc lsB (.long y :: .long x :: rs)) ∧ (en.1 pc = (.lcmp, pc + 1, ax) → Wg H locs (pc + 1) lsB (.int (lg_cmp x y) :: rs) → Wg H locs pc lsB (.long y :: .long x :: rs))) ∧
  (∀ (pc ax : Nat) (x : Int32) (rs : List Value) (H : Heap) (locs : List Loc) (lsB : Array Slot), en.1 pc = (.i2l, pc + 1, ax) → Wg H locs (pc + 1) lsB (.long x.toInt64 :: rs) → Wg H locs pc lsB (.int x :: rs)) ∧
  (∀ (pc ax : Nat) (k : Fin 4) (q : Nat) (rs : List Value) (H : Heap) (locs : List Loc) (lsB : Array Slot), en.1 pc = (.aload_n k, pc + 1, ax) → lsB[(k : Nat)]? = some (.val (.ref q)) → Wg H locs (pc + 1) lsB (.ref q :: rs) → Wg H locs pc lsB rs) ∧
  (∀ (pc ax : Nat) (o : Int) (rs : List Value) (H : Heap) (locs : List Loc) (lsB : Array Slot), en.1 pc = (.goto o, pc + 3, ax) → Wg H locs ax lsB rs → Wg H locs pc lsB rs) ∧
  (∀ (pc ax : Nat) (k : Fin 2) (rs : List Value) (H : Heap) (locs : List Loc) (lsB : Array Slot), en.1 pc = (.lconst k, pc + 1, ax) → Wg H locs (pc + 1) lsB (.long (Int64.ofNat (k : Nat)) :: rs) → Wg H locs pc lsB rs) ∧
  (∀ (pc ax : Nat) (k : Fin 4) (x : Int32) (rs : List Value) (H : Heap) (locs : List Loc) (lsB : Array Slot), en.1 pc = (.iload_n k, pc + 1, ax) → lsB[(k : Nat)]? = some (.val (.int x)) → Wg H locs (pc + 1) lsB (.int x :: rs) → Wg H locs pc lsB rs)
theorem xRl_ok {l : Launch} {mi : zyB} {y0 dep : Nat} {en : zEn} {me : zMe} {p : Program} {e : Env} {s : State} {mt : MethodId} {args : Array Value} {below : List Frame} {meth : Method} {c : Code} {Q : State → Prop} {B : zCx} (hOK : zOK y0 en me) (hexec : p.tables.exec = Jvm.exec) (hb : c.code = me.2.1) (hown : s.vm.findClass me.2.2.2 = some mt.cls) (hK : zKn B s) :
    xRl mi en B s (fun H locs pc lsB stA => W p l e { frames := dep, cells := en.2.2.2.2.2.1, slots := en.2.2.2.2.2.2.1, locals := 64 * dep } s mt args below meth c H locs 0 0 Q (F0 mt pc lsB stA)) := by
  refine ⟨?_, ?_, ?_, ?_, ?_, ?_, ?_, ?_, ?_, ?_⟩
  · intro pc ix ax p0 c2 v rs H locs lsB hrow hg hc1 hc12 hI hel kk
    have hr := hOK.1 pc
    rw [hrow] at hr
    rcases hr with hn | ⟨hlen, hdec, pp, hlk⟩
    · cases hn
    obtain ⟨-, hd⟩ := zdec (k := 3) rfl (by decide) hlen hdec
    have hlk : zlf me.2.2.2 ix ax pp = true := hlk
    have hcx : ax / 64 < 12 := by omega
    unfold zlf at hlk
    rw [if_neg (by omega), if_neg (by omega)] at hlk
    simp only [Bool.and_eq_true, Bool.or_eq_true, decide_eq_true_eq] at hlk
    obtain ⟨⟨-, hkN⟩, hlk⟩ := hlk
    have hlen2 : zyLen c2 = zxCn (ax / 64) := by
      rw [← hc1]
      exact if_pos hc12
    obtain ⟨-, hsh⟩ := hI.1 _ _ hg
    rcases hsh with ⟨q1, cell, q2, q3, q4⟩ | ⟨ty, cA, f, q1, -⟩
    rotate_left
    · exfalso
      have := zty_kd q1
      omega
    have hsl : cell.slots[zdI B (ax / 64) (ax % 64)]? = some v := by
      rw [zyEl_some hg (by rw [hlen2]; exact hkN), q2, Option.bind_some] at hel
      rw [if_pos hc12, hc1] at hel
      exact hel
    obtain ⟨hSl, hfc, kC, hkC, hkind⟩ := hK.2.1 (ax / 64) _ (zvw _ hcx)
    obtain ⟨cf0, kf, fi, f, hi, hse⟩ := hSl (ax % 64) hkN
    have hstat := (u_facts (args := args) hfc hkC (u_lays (zTs_ok hK) (zTs_in hcx) hkN) hi).1
    rcases hlk with hlk | hlk
    · exact W.getf hexec hb hown (zword (args := args) hK (zwd_mem hlk) rfl) hi hstat q2 (by rw [q4]; exact fun z => by cases z) (v := v) (by rw [hse]; exact hsl) rfl rfl hd kk
    · exact va_Wgetf hexec hb hown (zword (args := args) hK (zwd_mem hlk) rfl) hi hstat q2 (by rw [q4]; exact fun z => by cases z) (v := v) (by rw [hse]; exact hsl) rfl rfl hd kk
  · intro pc ix ax p0 c2 x rs H locs lsB hrow hg hc1 hc12 hk2 hk7 hrows hI hlo kk
    have hr := hOK.1 pc
    rw [hrow] at hr
    rcases hr with hn | ⟨hlen, hdec, pp, hlk⟩
    · cases hn
    obtain ⟨-, hd⟩ := zdec (k := 3) rfl (by decide) hlen hdec
    have hlk : (decide (ax < 768) && zlf me.2.2.2 ix ax pp) = true := hlk
    rw [Bool.and_eq_true] at hlk
    have hlk := hlk.2
    have hcx : ax / 64 < 12 := by omega
    unfold zlf at hlk
    rw [if_neg (by omega), if_neg (by omega)] at hlk
    simp only [Bool.and_eq_true, Bool.or_eq_true, decide_eq_true_eq] at hlk
    obtain ⟨⟨-, hkN⟩, hlk⟩ := hlk
    have hlen2 : zyLen c2 = zxCn (ax / 64) := by
      rw [← hc1]
      exact if_pos hc12
    obtain ⟨hlt90, hsh⟩ := hI.1 _ _ hg
    rcases hsh with ⟨q1, cell, q2, q3, q4⟩ | ⟨ty, cA, f, q1, -⟩
    rotate_left
    · exfalso
      have := zty_kd q1
      omega
    obtain ⟨z1, z2, z3, -⟩ := zkks (ax / 64) hcx (ax % 64) hkN
    have e64 : 64 * (ax / 64) + ax % 64 = ax := by omega
    rw [e64] at z1 z2
    have hM0 : zyMem (mi, fun _ => [], [(p0, ax % 64, ax % 64)], [], 0) (B, fun _ => 0, 0, fun _ => 0, 0, (zyEl mi B H, fun q => H[q]?), zyJ0) s [] H := zyMem_new hI (fun p hp => by cases hp)
    have hvl : zyV (B, fun _ => 0, 0, fun _ => 0, 0, (zyEl mi B H, fun q => H[q]?), zyJ0) 147573952589676412932 (.long x) := zyv_anyL x
    obtain ⟨hnar, hfit⟩ := zyfit_iff (w := (0, [])) (g := Nat.mod (zxK ax) 8) (by rw [hk2]; rfl) (fun k p hp => by simp at hp) hvl z1
    obtain ⟨x0, hel0, -⟩ := hM0.2.1 _ _ (ax % 64) hg (by rw [hlen2]; exact hkN)
    have hsl : cell.slots[zdI B (ax / 64) (ax % 64)]? = some x0 := by
      rw [zyEl_some hg (by rw [hlen2]; exact hkN), q2, Option.bind_some] at hel0
      rw [if_pos hc12, hc1] at hel0
      exact hel0
    obtain ⟨hSl, hfc, kC, hkC, hkind⟩ := hK.2.1 (ax / 64) _ (zvw _ hcx)
    obtain ⟨cf0, kf, fi, f, hi, hse⟩ := hSl (ax % 64) hkN
    have hul := u_lays (zTs_ok (args := args) hK) (zTs_in hcx) hkN
    have hstat := (u_facts (args := args) hfc hkC hul hi).1
    have hft := u_fits hfc hkC hkind hul hi (ztys (ax / 64) hcx (ax % 64) hkN) hnar hfit
    have hlay := zTs_ok (args := args) hK _ (zTs_in hcx _ (u_in_lay hkN))
    have hfin2 : hasFlag f.accessFlags Acc.final = false ∨ (mt.cls = cf0 ∧ meth.name = "<init>") := by
      cases hfl : (zTX (ax / 64) (ax % 64)).2.2.2 with
      | false =>
        unfold u_lay at hlay
        rw [if_neg (by rw [hfl]; decide)] at hlay
        exact Or.inl (u_store hfc hkC hkind hlay hi (ztys (ax / 64) hcx (ax % 64) hkN) hnar hfit).1
      | true =>
        exfalso
        rw [hfl] at z2
        have z2 := zbleT z2.symm
        omega
    have hal : zad B p0 < H.size := (Array.getElem?_eq_some_iff.mp q2).1
    have hslt : f.slot < cell.slots.size := by rw [hse]; exact k2_hasslot hsl
    have go : W p l e { frames := dep, cells := en.2.2.2.2.2.1, slots := en.2.2.2.2.2.2.1, locals := 64 * dep } s mt args below meth c (H.setIfInBounds (zad B p0) (cell.setSlot f.slot (.long x))) (locs ++ [⟨zad B p0, f.slot⟩]) 0 0 Q (F0 mt (pc + 3) lsB rs) := by
      have hH1 : (H.setIfInBounds (zad B p0) (cell.setSlot f.slot (.long x)))[zad B p0]? = some (cell.setSlot f.slot (.long x)) := by simp [Array.getElem?_setIfInBounds, hal]
      have hel : zyEl mi B (H.setIfInBounds (zad B p0) (cell.setSlot f.slot (.long x))) p0 (ax % 64) = some (.long x) := by
        rw [zyEl_some hg (by rw [hlen2]; exact hkN), hH1, Option.bind_some]
        rw [if_pos hc12, hc1, hse]
        rw [hse] at hslt
        simp [Cell.setSlot, hslt]
      have hMem : zyMem (mi, fun _ => [], [(p0, ax % 64, ax % 64)], [], 0) (B, fun _ => 0, 0, fun _ => 0, 0, (zyEl mi B H, fun q => H[q]?), zyJ0) s [] (H.setIfInBounds (zad B p0) (cell.setSlot f.slot (.long x))) := by
        refine zyMem.upd (s := s) (x := .long x) ⟨hK, zyJ0_p (fun p hp => by cases hp)⟩ hM0 hg (by rw [hlen2]; exact hkN) (fun b hb => by simp [Array.getElem?_setIfInBounds, Ne.symm hb]) (Or.inl ⟨q1, cell.setSlot f.slot (.long x), hH1, q3, q4⟩) hel (fun k1 hk1 hne => ?_) (zyin_iff.mpr ⟨(p0, ax % 64, ax % 64), List.mem_cons_self, rfl, Nat.le_refl _, Nat.le_refl _⟩) rfl ?_ (fun a1 c1 k1 w1 _ _ _ h => h)
        · rw [zyEl_some hg hk1, zyEl_some hg hk1, hH1, q2, Option.bind_some, Option.bind_some]
          rw [if_pos hc12]
          rw [hlen2] at hk1
          have hne2 := zapart hK hcx k1 (ax % 64) hk1 hkN hne
          rw [hse, hc1]
          simp only [Cell.setSlot]
          rw [Array.getElem?_setIfInBounds_ne (fun q => hne2 q.symm)]
        · intro r hr r1 r2
          rw [hrows r hr r1 r2]
          exact ⟨by omega, zyv_anyL x⟩
      refine kk _ _ (hMem.base (w := (0, [])) (fun k p hp => by simp at hp) rfl) (fun q hq => hMem.2.2.2.2.2 q hq) (fun z hz => ?_) hel (fun a2 k2 hne => hMem.2.2.1 a2 k2 ?_)
      · rcases List.mem_append.mp hz with h7 | h7
        · exact hlo z h7
        · rw [List.mem_singleton] at h7
          rw [h7]
          exact zyad_ge hlt90
      · cases hq : zyin [(p0, ax % 64, ax % 64)] a2 k2 with
        | false => rfl
        | true =>
          obtain ⟨p1, g1, g2, g3, g4⟩ := zyin_iff.mp hq
          rw [List.mem_singleton.mp g1] at g2 g3 g4
          exact absurd ⟨g2.symm, by dsimp only at g3 g4; omega⟩ hne
    rcases hlk with hlk | hlk
    · exact W.putf hexec hb hown (zword (args := args) hK (zwd_mem hlk) rfl) hi hstat hfin2 q2 (by rw [q4]; exact fun z => by cases z) hslt hft.1 (by rw [q3, q4, hc1]; exact hft.2) rfl rfl hd go
    · exact va_Wputf hexec hb hown (zword (args := args) hK (zwd_mem hlk) rfl) hi hstat hfin2 q2 (by rw [q4]; exact fun z => by cases z) hslt hft.1 (by rw [q3, q4, hc1]; exact hft.2) rfl rfl hd go
  · intro pc ax a n c2 v rs H locs lsB hrow hg hn hI hel kk
    obtain ⟨hlt90, hsh⟩ := hI.1 _ _ hg
    have hc20 : 20 ≤ c2.1 := by rcases hrow with ⟨q, -⟩ | ⟨q, -⟩ <;> omega
    have hlenc : zyLen c2 = c2.2.1 := if_neg (by omega)
    rcases hsh with ⟨q1, -⟩ | ⟨ty, cA, f, q1, q2, q3, q4⟩
    · omega
    obtain ⟨p1, p2⟩ := zsmall (u := n) (by omega)
    have hx : (arrV cA c2.2.1 f).slots[(Int32.ofNat n).toNatClampNeg]? = some v := by
      rw [p2, arrV_read _ _ hn]
      rw [zyEl_some hg (by rw [hlenc]; exact hn), q2, Option.bind_some, if_neg (by omega), arrV_read _ _ hn] at hel
      exact hel
    rcases hrow with ⟨hg1, hrow⟩ | ⟨hg1, hrow⟩
    · have hr := hOK.1 pc
      rw [hrow] at hr
      rcases hr with hn' | ⟨hlen, hdec, pp, hlk⟩
      · cases hn'
      obtain ⟨-, hd⟩ := zdec (k := 1) rfl (by decide) hlen hdec
      have q5 := q1
      rw [hg1] at q5
      have q5 : some FieldType.byte = some ty := q5
      cases q5
      exact W.bald hexec hb q2 (q3 _ _) (fun z => by cases z) (by rw [arrV_size, p2]; exact fun z => z.elim p1 (by omega)) hx rfl rfl hd kk
    · have hr := hOK.1 pc
      rw [hrow] at hr
      rcases hr with hn' | ⟨hlen, hdec, pp, hlk⟩
      · cases hn'
      obtain ⟨-, hd⟩ := zdec (k := 1) rfl (by decide) hlen hdec
      have q5 := q1
      rw [hg1] at q5
      have q5 : some FieldType.long = some ty := q5
      cases q5
      exact W.lald hexec hb q2 (q3 _ _) (fun z => by cases z) (by rw [arrV_size, p2]; exact fun z => z.elim p1 (by omega)) hx rfl rfl hd kk
  · intro pc ix ax rs H locs lsB hrow kk
    have hr := hOK.1 pc
    rw [hrow] at hr
    rcases hr with hn' | ⟨hlen, hdec, pp, hlk⟩
    · cases hn'
    obtain ⟨-, hd⟩ := zdec (k := 3) rfl (by decide) hlen hdec
    exact lv_ldc2 hexec hb hown (zword (args := args) hK (zwd_mem (of_decide_eq_true hlk)) rfl) hd kk
  · intro pc ax x y rs H locs lsB
    refine ⟨?_, ?_, ?_, ?_⟩
    all_goals
      intro hrow kk
      have hr := hOK.1 pc
      rw [hrow] at hr
      rcases hr with hn' | ⟨hlen, hdec, pp, hlk⟩
      · cases hn'
      obtain ⟨-, hd⟩ := zdec (k := 1) rfl (by decide) hlen hdec
      first | exact lv_lmul hexec hb hd kk | exact lv_ladd hexec hb hd kk | exact lv_lsub hexec hb hd kk | exact W.lcmp hexec hb hd kk
  · intro pc ax x rs H locs lsB hrow kk
    have hr := hOK.1 pc
    rw [hrow] at hr
    rcases hr with hn' | ⟨hlen, hdec, pp, hlk⟩
    · cases hn'
    obtain ⟨-, hd⟩ := zdec (k := 1) rfl (by decide) hlen hdec
    exact lv_i2l hexec hb hd rfl kk
  · intro pc ax k q rs H locs lsB hrow hq kk
    have hr := hOK.1 pc
    rw [hrow] at hr
    rcases hr with hn' | ⟨hlen, hdec, pp, hlk⟩
    · cases hn'
    obtain ⟨-, hd⟩ := zdec (k := 1) rfl (by decide) hlen hdec
    exact lv_aload_n hexec hb hd rfl hq kk
  · intro pc ax o rs H locs lsB hrow kk
    have hr := hOK.1 pc
    rw [hrow] at hr
    rcases hr with hn' | ⟨hlen, hdec, pp, hlk⟩
    · cases hn'
    obtain ⟨-, hd⟩ := zdec (k := 3) rfl (by decide) hlen hdec
    exact lv_goto hexec hb hd (of_decide_eq_true hlk) kk
  · intro pc ax k rs H locs lsB hrow kk
    have hr := hOK.1 pc
    rw [hrow] at hr
    rcases hr with hn' | ⟨hlen, hdec, pp, hlk⟩
    · cases hn'
    obtain ⟨-, hd⟩ := zdec (k := 1) rfl (by decide) hlen hdec
    exact lv_lconst hexec hb hd rfl kk
  · intro pc ax k x rs H locs lsB hrow hx kk
    have hr := hOK.1 pc
    rw [hrow] at hr
    rcases hr with hn' | ⟨hlen, hdec, pp, hlk⟩
    · cases hn'
    obtain ⟨-, hd⟩ := zdec (k := 1) rfl (by decide) hlen hdec
    exact lv_iload_n hexec hb hd rfl hx kk
end
section
/-! THE CUT with the rules for longs (printed by mk6.py) -/
theorem xcutLM {l : Launch} {mi : zyB} {B : zCx} {y0 : Nat} {en : zEn} {me : zMe} (hOK : zOK y0 en me) (hc0 : en.2.2.2.2.2.1 = 0) (hs0 : en.2.2.2.2.2.2.1 = 0) {dep : Nat} {As : List Value} {x0 v0 : Nat → Int} (hx0 : xRg x0) (hrv0 : xRg v0) {fpm : zyR} {rt : Bool} {Φ : (Nat → Int) → zyEm → Prop} {Ψ : (Nat → Int) → zyEm → zyEm → Int → Prop} {ι : Type} (φ : ι → zyPh) (tb : ι → Nat → List zyCt) (fp : ι → zyR) (sp : ι → Nat) (xs rs : ι → List zyXp) (hCon : ∀ i, zyCons l (mi, tb i, fp i, [], sp i) zyJ0) (n : Nat)
    (hrun : ∀ i, zyok (zybtx mi (rs i)) (mi, tb i, fp i, [], sp i) (zystx mi (xs i)) n (zyln (φ i).2.2.1, (φ i).2.2.1) en.1 en.2.2.2.2 (φ i).1 (φ i).2.1 (φ i).2.2.2.2 (dep, 0, 0) [] ((φ i).2.2.2.1, []) = true)
    (hfp : ∀ i, xsubR (fp i) fpm = true) (hckX : ∀ i, (xs i).all xckX = true) (hckR : ∀ i, (rs i).all (fun x => xckX x && xrtB rt x) = true)
    (i0 : ι) (hi0 : (φ i0).1 = 0 ∧ (φ i0).2.1.length = en.2.2.1 ∧ (φ i0).2.2.2.1 = [] ∧ (φ i0).2.2.2.2 = []) (hAl : (lg_sl As).length ≤ en.2.2.1) (hA : ∀ (i c : Nat), (φ i0).2.1[i]? = some c → ¬ c = 13 → ∃ w, (i, w) ∈ lv_args 0 As ∧ zyv (fun k => Int32.ofInt (v0 k)) (φ i0).2.2.1.length (zad B) c w)
    (Inv : ι → (Nat → Int) → zyEm → (Nat → Int) → zyEm → Prop) (Mu : ι → (Nat → Int) → zyEm → (Nat → Int) → zyEm → Nat)
    (h0 : ∀ (E : zyEm), zyTy mi E → Φ x0 E → xEnv v0 (φ i0).2.2.1 ∧ Inv i0 x0 E v0 E)
    (hstop : ∀ (x0 : Nat → Int) (s : State) (Wg : zyWt), xRu l mi en dep B s Wg → xRl mi en B s Wg → xRg x0 → zyTy mi (zyEl mi B s.heap) → Φ x0 (zyEl mi B s.heap) → ∀ (i : ι) (v : Nat → Int) (H : Heap), zyTy mi (zyEl mi B H) → xRg v → Inv i x0 (zyEl mi B s.heap) v (zyEl mi B H) → xKc (φ i).2.2.2.1 v (zyEl mi B H) → xFr fpm (zyEl mi B s.heap) (zyEl mi B H) → xIH mi en.2.2.1 B s fpm φ (fun i => Inv i x0 (zyEl mi B s.heap)) (fun i => Mu i x0 (zyEl mi B s.heap)) (Mu i x0 (zyEl mi B s.heap) v (zyEl mi B H)) Wg →
      ∀ x ∈ xs i, ∀ (ρ2 : Nat → Int32) (v2 : Nat → Int) (N2 : Nat) (H2 : Heap) (locs : List Loc) (lsB : Array Slot) (stA : List Value), zyAt mi B s en.2.2.1 x ρ2 N2 H2 locs lsB stA → xBd ρ2 x.2.2.2.2.1 → (∀ k, xI (ρ2 k) = v2 k) → xRg v2 → xXs x v2 (zyEl mi B H) (zyEl mi B H2) → (∀ k, k < (φ i).2.2.1.length → v2 k = v k) → xFr (fp i) (zyEl mi B H) (zyEl mi B H2) → xFr fpm (zyEl mi B s.heap) (zyEl mi B H2) → zyTy mi (zyEl mi B H2) → Wg H2 locs x.1 lsB stA)
    (hret : ∀ (x0 : Nat → Int) (E0 E E2 : zyEm), xRg x0 → zyTy mi E0 → Φ x0 E0 → ∀ (i : ι) (v : Nat → Int), zyTy mi E → xRg v → Inv i x0 E0 v E → xKc (φ i).2.2.2.1 v E → xFr fpm E0 E → ∀ x ∈ rs i, ∀ (v2 : Nat → Int), xRg v2 → xXs x v2 E E2 → (∀ k, k < (φ i).2.2.1.length → v2 k = v k) → xFr (fp i) E E2 → xFr fpm E0 E2 → zyTy mi E2 → Ψ x0 E0 E2 (xrv x.2.2.1 v2)) : xMt l mi B en me dep As (Φ x0) (fun E E2 vo => xFr fpm E E2 ∧ ∃ z : Int32, vo = (if rt = true then some (.int z) else none) ∧ Ψ x0 E E2 (xI z)) := by
  unfold xMt
  have hOK' := hOK
  obtain ⟨hrow, hnum, hrk, hcn, hcls, hml40, hpl, g, hin, hg1, hgw⟩ := hOK
  refine zMet_ofW hpl ?_
  intro p e s mt args below meth c s₁ Bd hml hv
  obtain ⟨rfl, hK, hI, hΦ⟩ := hv
  have hown : s.vm.findClass me.2.2.2 = some mt.cls := by rw [← hcls]; exact findClass_of_methodNamed Bd.named
  have hent := lv_entry As (n := en.2.2.1) hAl
  rw [lg_entry_eq]
  generalize (lg_sl (As) ++ List.replicate (en.2.2.1 - (lg_sl (As)).length) Slot.unset).toArray = lsA at hent ⊢
  have hlocks := Bd.notSynchronized
  have hT0 := zyTy_of hI
  have hRu : xRu l mi en dep B s (fun H locs pc lsB stA => W p l e { frames := dep, cells := en.2.2.2.2.2.1, slots := en.2.2.2.2.2.2.1, locals := 64 * dep } s mt (As).toArray below meth c H locs 0 0 (MQ below (zyHq mi B (fun E E2 vo => xFr fpm E E2 ∧ ∃ z : Int32, vo = (if rt = true then some (.int z) else none) ∧ Ψ x0 E E2 (xI z))) (As).toArray s en.2.2.2.2.2.1 en.2.2.2.2.2.2.1 (fun q => zbs B ≤ q)) (F0 mt pc lsB stA)) := xRu_ok hOK' hc0 hs0 Bd.exec Bd.bytes hml hown hK
  have hRl : xRl mi en B s (fun H locs pc lsB stA => W p l e { frames := dep, cells := en.2.2.2.2.2.1, slots := en.2.2.2.2.2.2.1, locals := 64 * dep } s mt (As).toArray below meth c H locs 0 0 (MQ below (zyHq mi B (fun E E2 vo => xFr fpm E E2 ∧ ∃ z : Int32, vo = (if rt = true then some (.int z) else none) ∧ Ψ x0 E E2 (xI z))) (As).toArray s en.2.2.2.2.2.1 en.2.2.2.2.2.2.1 (fun q => zbs B ≤ q)) (F0 mt pc lsB stA)) := xRl_ok hOK' Bd.exec Bd.bytes hown hK
  have hJp : zyJp [] zyJ0 := zyJ0_p (fun p hp => by cases hp)
  have claim : ∀ (M : Nat), ∀ (i : ι) (v : Nat → Int) (H : Heap) (locs : List Loc) (lsB : Array Slot) (stB : List Value), zyMI mi B zyJ0 s H → zyOut mi B s.heap H → xFr fpm (zyEl mi B s.heap) (zyEl mi B H) → xRg v → Inv i (x0) (zyEl mi B s.heap) v (zyEl mi B H) → zySs mi B en.2.2.1 (φ i) (fun k => Int32.ofInt (v k)) H locs lsB stB → Mu i (x0) (zyEl mi B s.heap) v (zyEl mi B H) = M →
      W p l e { frames := dep, cells := en.2.2.2.2.2.1, slots := en.2.2.2.2.2.2.1, locals := 64 * dep } s mt (As).toArray below meth c H locs 0 0 (MQ below (zyHq mi B (fun E E2 vo => xFr fpm E E2 ∧ ∃ z : Int32, vo = (if rt = true then some (.int z) else none) ∧ Ψ x0 E E2 (xI z))) (As).toArray s en.2.2.2.2.2.1 en.2.2.2.2.2.2.1 (fun q => zbs B ≤ q)) (F0 mt (φ i).1 lsB stB) := by
    intro M
    induction M using Nat.strongRecOn with
    | ind M IH =>
      intro i vv H locs lsB stB hIH hout hFr0 hrv hInv hSs hM
      have hKc : xKc (φ i).2.2.2.1 vv (zyEl mi B H) := xKc_of (ρ := fun k => Int32.ofInt (vv k)) (fun k => xI_ofInt (hrv k)) hSs.2.2.2.2.2
      obtain ⟨ρ, hρ⟩ : ∃ ρ : Nat → Int32, ρ = fun k => Int32.ofInt (vv k) := ⟨_, rfl⟩
      have hρv : ∀ k, xI (ρ k) = vv k := fun k => by rw [hρ]; exact xI_ofInt (hrv k)
      rw [← hρ] at hSs
      have hr := hrun i
      rw [zyln_eq] at hr
      refine zymain (l := l) (bt := zybtx mi (rs i)) (stop := zystx mi (xs i)) (fun _ _ _ _ _ _ _ _ _ _ => rfl) n (B, ρ, (φ i).2.2.1.length, ρ, (φ i).2.2.1.length, (zyEl mi B H, fun q => H[q]?), zyJ0) y0 en me (hCon i) hOK' ((φ i).2.2.1.length, (φ i).2.2.1) (φ i).1 (φ i).2.1 (φ i).2.2.2.2 (dep, 0, 0) [] ((φ i).2.2.2.1, []) hr p e { frames := dep, cells := en.2.2.2.2.2.1, slots := en.2.2.2.2.2.2.1, locals := 64 * dep } s mt (As).toArray below meth c _ H locs lsB stB ⟨Bd.exec, Bd.bytes, hml, hown, ⟨hK, hJp⟩, Nat.le_refl _, Nat.le_refl _, Nat.le_refl _, Nat.le_refl _⟩ (zyRl_new hIH hSs) ?_ ?_
      · intro n' ρ2 w2 v m2 H2 locs2 lsC pc vo cells slots hn' hbk hX hM2 hlo hc hs hvo hri
        have hbk : zybtx mi (rs i) w2 v m2 = true := hbk
        obtain ⟨x, hx, hxb⟩ := zyanyB_iff hbk
        obtain ⟨-, -, e2, hXs, hI2⟩ := zyxp_iff (X := zyre (B, ρ, (φ i).2.2.1.length, ρ, (φ i).2.2.1.length, (zyEl mi B H, fun q => H[q]?), zyJ0) ρ2 w2.1) (P := (mi, tb i, fp i, [], sp i)) rfl hX.1 hX.2.2 hM2 hxb
        have hout2 : zyOut mi B s.heap H2 := fun q hq => (hM2.2.2.2.2.2 q hq).trans (hout q hq)
        have hvo2 : zyvo (zyXn B ρ2 w2.1) x.2.2.1 vo := by
          rw [← e2]
          exact hvo
        have hck := List.all_eq_true.mp (hckR i) x hx
        rw [Bool.and_eq_true] at hck
        have hXi := xXs_of (v := fun k => xI (ρ2 k)) (fun k => rfl) hXs hck.1
        have hFr2 : xFr (fp i) (zyEl mi B H) (zyEl mi B H2) := fun a k hf => hM2.2.2.1 a k hf
        have hFr3 : xFr fpm (zyEl mi B s.heap) (zyEl mi B H2) := xFr_trans hFr0 (xFr_mono (hfp i) hFr2)
        have hag : ∀ k, k < (φ i).2.2.1.length → xI (ρ2 k) = vv k := fun k hk => by rw [← hρv]; exact congrArg xI (hX.2.1.2 k hk)
        have hΨ0 := hret (x0) (zyEl mi B s.heap) (zyEl mi B H) (zyEl mi B H2) hx0 hT0 hΦ i vv (zyTy_of hIH) hrv hInv hKc hFr0 x hx (fun k => xI (ρ2 k)) (fun k => xI_r _) hXi hag hFr2 hFr3 (zyTy_of hI2)
        have hΨ : xFr fpm (zyEl mi B s.heap) (zyEl mi B H2) ∧ ∃ z : Int32, vo = (if rt = true then some (.int z) else none) ∧ Ψ (x0) (zyEl mi B s.heap) (zyEl mi B H2) (xI z) := by
          refine ⟨hFr3, ?_⟩
          have hck2 := hck.2
          have hck1 := hck.1
          unfold xrtB at hck2
          cases hrt : rt with
          | true =>
            rw [hrt] at hck2
            cases hst : x.2.2.1 with
            | nil => rw [hst] at hck2; cases hck2
            | cons c0 t0 =>
              rw [hst] at hck2
              cases t0 with
              | cons c1 t1 => cases hck2
              | nil =>
                have hck2 := of_decide_eq_true hck2
                rw [hst] at hvo2 hΨ0
                refine ⟨_, zyvo_1 hck2 hvo2, ?_⟩
                have hof : xofB x.2.2.2.2.1 c0 = true := by
                  unfold xckX at hck1
                  simp only [Bool.and_eq_true, List.all_eq_true] at hck1
                  have := hck1.2.2.2 c0 (by rw [hst]; exact List.mem_singleton.mpr rfl)
                  rw [Bool.or_eq_true, decide_eq_true_eq] at this
                  rcases this with z | z
                  · omega
                  · exact z
                rw [xofB_iff (v := fun k => xI (ρ2 k)) (fun k => rfl) hXs.2.1 hof]
                exact hΨ0
          | false =>
            rw [hrt] at hck2
            cases hst : x.2.2.1 with
            | cons c0 t0 => rw [hst] at hck2; cases hck2
            | nil =>
              rw [hst] at hvo2 hΨ0
              exact ⟨0, zyvo_0 hvo2, hΨ0⟩
        have hq : ∀ t : State, t.heap = H2 → s.WarmedH t.vm → zyHq mi B (fun E E2 vo => xFr fpm E E2 ∧ ∃ z : Int32, vo = (if rt = true then some (.int z) else none) ∧ Ψ x0 E E2 (xI z)) (As).toArray s (.returned vo) t := fun t ht hW => by
          subst ht
          exact ⟨vo, rfl, hK.warm hW, hI2.moved hW.alike, hΨ, hout2⟩
        refine W.widen hc hs ?_
        rcases hri with ⟨hd, x, ty, rfl, hty, hnar⟩ | ⟨hd, x, rfl, hty⟩ | ⟨hd, rfl, hty⟩
        · exact W.zret Bd.exec Bd.bytes (by rw [Bd.returns]; exact hty) hnar hq hlo hd hlocks
        · exact W.lret Bd.exec Bd.bytes (by rw [Bd.returns]; exact hty) hq hlo hd hlocks
        · exact W.vret Bd.exec Bd.bytes (by rw [Bd.returns]; exact hty) hq hlo hd hlocks
      · intro ρ2 N2 w2 pc ls st q m2 H2 locs2 lsC stA hs hR2
        have hs : zyanyB (fun x => zyxpB mi x w2 pc ls st m2) (xs i) = true := hs
        obtain ⟨x, hx, hxb⟩ := zyanyB_iff hs
        obtain ⟨e1, e3, e2, hXs, hI2⟩ := zyxp_iff (X := zyre (B, ρ, (φ i).2.2.1.length, ρ, (φ i).2.2.1.length, (zyEl mi B H, fun q => H[q]?), zyJ0) ρ2 N2) (P := (mi, tb i, fp i, [], sp i)) rfl hR2.1.1 hR2.1.2.2.2 hR2.2.1 hxb
        have hout2 : zyOut mi B s.heap H2 := fun q hq => (hR2.2.1.2.2.2.2.2 q hq).trans (hout q hq)
        have hq1 : q.1 = dep := hR2.2.2.2.2.2.1
        have hq2 : q.2.1 ≤ en.2.2.2.2.2.1 := hR2.2.2.2.2.2.2.1
        have hq3 : q.2.2 ≤ en.2.2.2.2.2.2.1 := hR2.2.2.2.2.2.2.2
        have eq2 : q.2.1 = 0 := by omega
        have eq3 : q.2.2 = 0 := by omega
        rw [eq2, eq3, e1]
        have hck := List.all_eq_true.mp (hckX i) x hx
        have hXi := xXs_of (v := fun k => xI (ρ2 k)) (fun k => rfl) hXs hck
        have hFr2 : xFr (fp i) (zyEl mi B H) (zyEl mi B H2) := fun a k hf => hR2.2.1.2.2.1 a k hf
        have hag : ∀ k, k < (φ i).2.2.1.length → xI (ρ2 k) = vv k := fun k hk => by rw [← hρv]; exact congrArg xI (hR2.1.2.2.1.2 k hk)
        refine hstop (x0) s _ hRu hRl hx0 hT0 hΦ i vv H (zyTy_of hIH) hrv hInv hKc hFr0 ?_ x hx ρ2 (fun k => xI (ρ2 k)) N2 H2 locs2 lsC stA ⟨hI2, hout2, hR2.2.2.1, ⟨hR2.2.2.2.1.2.1, hR2.2.2.2.1.2.2.1⟩, fun i c hc hn => hR2.2.2.2.1.2.2.2 i c (e3.2 i c hc hn) hn, ?_⟩ hXs.2.1 (fun k => rfl) (fun k => xI_r _) hXi hag hFr2 (xFr_trans hFr0 (xFr_mono (hfp i) hFr2)) (zyTy_of hI2)
        · intro i2 v' H3 locs3 lsD stB3 hI3 hout3 hFr3 hrv3 hInv3 hSs3 hmu
          exact IH _ (by rw [← hM]; exact hmu) i2 v' H3 locs3 lsD stB3 hI3 hout3 hFr3 hrv3 hInv3 hSs3 rfl
        · rw [← e2]
          exact zySt_map (X := zyre (B, ρ, (φ i).2.2.1.length, ρ, (φ i).2.2.1.length, (zyEl mi B H, fun q => H[q]?), zyJ0) ρ2 N2) (X2 := zyXn B ρ2 N2) (fun v w h => h) hR2.2.2.2.2.1
  obtain ⟨b0, b1⟩ := h0 (zyEl mi B s.heap) hT0 hΦ
  obtain ⟨p0, p1, p2, p3⟩ := hi0
  have hSs : zySs mi B en.2.2.1 (φ i0) (fun k => Int32.ofInt (v0 k)) s.heap [] lsA [] → W p l e { frames := dep, cells := en.2.2.2.2.2.1, slots := en.2.2.2.2.2.2.1, locals := 64 * dep } s mt (As).toArray below meth c s.heap [] 0 0 (MQ below (zyHq mi B (fun E E2 vo => xFr fpm E E2 ∧ ∃ z : Int32, vo = (if rt = true then some (.int z) else none) ∧ Ψ x0 E E2 (xI z))) (As).toArray s en.2.2.2.2.2.1 en.2.2.2.2.2.2.1 (fun q => zbs B ≤ q)) (F0 mt 0 lsA []) := fun h => by
    have hfin := claim _ i0 _ s.heap [] lsA [] hI (fun q _ => rfl) xFr_refl hrv0 b1 h rfl
    rw [p0] at hfin
    exact hfin
  refine hSs ⟨fun x hx => (by cases hx), ⟨hent.1, hent.2.1⟩, ⟨p1, fun i c hc hn => ?_⟩, xEnv_z hrv0 b0, ?_, ?_⟩
  · obtain ⟨w, q1, q2⟩ := hA i c hc hn
    exact ⟨w, hent.2.2 (i, w) q1, q2⟩
  · rw [p3]
    trivial
  · rw [p2]
    exact fun p hp => by cases hp
theorem xcutL {l : Launch} {mi : zyB} {B : zCx} {y0 : Nat} {en : zEn} {me : zMe} (hOK : zOK y0 en me) (hc0 : en.2.2.2.2.2.1 = 0) (hs0 : en.2.2.2.2.2.2.1 = 0) {dep na : Nat} {ps : List Nat} {fpm : zyR} {rt : Bool} {Φ : (Nat → Int) → zyEm → Prop} {Ψ : (Nat → Int) → zyEm → zyEm → Int → Prop} {ι : Type} (φ : ι → zyPh) (tb : ι → Nat → List zyCt) (fp : ι → zyR) (sp : ι → Nat) (xs rs : ι → List zyXp) (hCon : ∀ i, zyCons l (mi, tb i, fp i, [], sp i) zyJ0) (n : Nat)
    (hrun : ∀ i, zyok (zybtx mi (rs i)) (mi, tb i, fp i, [], sp i) (zystx mi (xs i)) n (zyln (φ i).2.2.1, (φ i).2.2.1) en.1 en.2.2.2.2 (φ i).1 (φ i).2.1 (φ i).2.2.2.2 (dep, 0, 0) [] ((φ i).2.2.2.1, []) = true)
    (hfp : ∀ i, xsubR (fp i) fpm = true) (hckX : ∀ i, (xs i).all xckX = true) (hckR : ∀ i, (rs i).all (fun x => xckX x && xrtB rt x) = true)
    (i0 : ι) (hi0 : (φ i0).1 = 0 ∧ (φ i0).2.1 = xL0 ps na en.2.2.1 ∧ (φ i0).2.2.2.1 = [] ∧ (φ i0).2.2.2.2 = []) (hna : ps.length + na ≤ en.2.2.1 ∧ ps.length + na ≤ (φ i0).2.2.1.length)
    (Inv : ι → (Nat → Int) → zyEm → (Nat → Int) → zyEm → Prop) (Mu : ι → (Nat → Int) → zyEm → (Nat → Int) → zyEm → Nat)
    (h0 : ∀ (x : Nat → Int) (E : zyEm), xRg x → zyTy mi E → Φ x E → xEnv (xv0 ps.length x) (φ i0).2.2.1 ∧ Inv i0 x E (xv0 ps.length x) E)
    (hstop : ∀ (x0 : Nat → Int) (s : State) (Wg : zyWt), xRu l mi en dep B s Wg → xRl mi en B s Wg → xRg x0 → zyTy mi (zyEl mi B s.heap) → Φ x0 (zyEl mi B s.heap) → ∀ (i : ι) (v : Nat → Int) (H : Heap), zyTy mi (zyEl mi B H) → xRg v → Inv i x0 (zyEl mi B s.heap) v (zyEl mi B H) → xKc (φ i).2.2.2.1 v (zyEl mi B H) → xFr fpm (zyEl mi B s.heap) (zyEl mi B H) → xIH mi en.2.2.1 B s fpm φ (fun i => Inv i x0 (zyEl mi B s.heap)) (fun i => Mu i x0 (zyEl mi B s.heap)) (Mu i x0 (zyEl mi B s.heap) v (zyEl mi B H)) Wg →
      ∀ x ∈ xs i, ∀ (ρ2 : Nat → Int32) (v2 : Nat → Int) (N2 : Nat) (H2 : Heap) (locs : List Loc) (lsB : Array Slot) (stA : List Value), zyAt mi B s en.2.2.1 x ρ2 N2 H2 locs lsB stA → xBd ρ2 x.2.2.2.2.1 → (∀ k, xI (ρ2 k) = v2 k) → xRg v2 → xXs x v2 (zyEl mi B H) (zyEl mi B H2) → (∀ k, k < (φ i).2.2.1.length → v2 k = v k) → xFr (fp i) (zyEl mi B H) (zyEl mi B H2) → xFr fpm (zyEl mi B s.heap) (zyEl mi B H2) → zyTy mi (zyEl mi B H2) → Wg H2 locs x.1 lsB stA)
    (hret : ∀ (x0 : Nat → Int) (E0 E E2 : zyEm), xRg x0 → zyTy mi E0 → Φ x0 E0 → ∀ (i : ι) (v : Nat → Int), zyTy mi E → xRg v → Inv i x0 E0 v E → xKc (φ i).2.2.2.1 v E → xFr fpm E0 E → ∀ x ∈ rs i, ∀ (v2 : Nat → Int), xRg v2 → xXs x v2 E E2 → (∀ k, k < (φ i).2.2.1.length → v2 k = v k) → xFr (fp i) E E2 → xFr fpm E0 E2 → zyTy mi E2 → Ψ x0 E0 E2 (xrv x.2.2.1 v2)) : xFcB l mi B en me dep ps na fpm rt Φ Ψ := by
  intro as has
  have hx0 : xRg (xfv (as.map xI)) := fun k => by rw [xfv_map]; exact xI_r _
  have hll : (lg_sl (xAg B ps as)).length = ps.length + na := by
    unfold xAg
    rw [xrefs_len, zylg_len, has]
  refine xcutLM (As := xAg B ps as) (x0 := xfv (as.map xI)) (v0 := xv0 ps.length (xfv (as.map xI))) hOK hc0 hs0 hx0 (xv0_r hx0 _) φ tb fp sp xs rs hCon n hrun hfp hckX hckR i0 ⟨hi0.1, ?_, hi0.2.2⟩ (by rw [hll]; exact hna.1) (fun i c hc hn => ?_) Inv Mu (fun E => h0 _ E hx0) hstop hret
  · rw [hi0.2.1]
    unfold xL0
    rw [List.length_append, List.length_map, zyL0a_len]
    omega
  · rw [hi0.2.1] at hc
    unfold xL0 at hc
    by_cases hi : i < ps.length
    · rw [List.getElem?_append_left (by rw [List.length_map]; exact hi), List.getElem?_map] at hc
      obtain ⟨p, hp⟩ : ∃ p, ps[i]? = some p := ⟨ps[i], List.getElem?_eq_getElem hi⟩
      rw [hp] at hc
      have hc : some (8 * p + 3) = some c := hc
      cases hc
      have hm := xrefs_mem (B := B) (r := as.map Value.int) (o := 0) hp
      rw [Nat.zero_add] at hm
      exact ⟨.ref (zad B p), hm, Or.inl ⟨Or.inr (Or.inr (Or.inr (Or.inl ⟨by omega, by rw [show (8 * p + 3) / 8 = p by omega]⟩))), fun q => by omega, fun q => by omega⟩⟩
    · rw [List.getElem?_append_right (by rw [List.length_map]; omega), List.length_map] at hc
      obtain ⟨q1, q2⟩ := zyL0a_get hc hn
      obtain ⟨x, hx⟩ : ∃ x, as[i - ps.length]? = some x := ⟨as[i - ps.length]'(by omega), List.getElem?_eq_getElem (by omega)⟩
      refine ⟨.int x, ?_, ?_⟩
      · have hm := zyargs_mem (o := ps.length) hx
        rw [show ps.length + (i - ps.length) = i by omega] at hm
        exact xrefs_mem2 (o := 0) (by rw [Nat.zero_add]; exact hm)
      · rw [q2, show ps.length + (i - ps.length) = i by omega]
        refine zyv_sym (by omega) ?_
        have e1 : xv0 ps.length (xfv (as.map xI)) i = xI x := by
          have := xv0_ge (x := xfv (as.map xI)) (m := ps.length) (k := i - ps.length)
          rw [show ps.length + (i - ps.length) = i by omega, xfv_map, hx] at this
          exact this
        show Int32.ofInt (xv0 ps.length (xfv (as.map xI)) i) = x
        rw [e1]
        exact xofI x
end
