/-! THE CLASS: begin (printed by m13.py) -/
noncomputable def zxfel0_ax0 : zyXp := (2, [315, 19, 68719476737, 68719476737], [], [], [(68719476737, 2147483648, 2147483655)], [])
noncomputable def zpfel0_a : zyPh := (0, [315, 19, 68719476737, 13], [(0, 4294967295), (0, 4294967295), (2147483648, 2147483655), (0, 4294967295)], [], [])
noncomputable def zxfel0_bx0 : zyXp := (2, [315, 19, 68719476737, 137438953465], [], [], [(68719476737, 2147483648, 2147483655), (103079215105, 2147483649, 2147483655), (137438953465, 2147483648, 2147483654)], [])
noncomputable def zxfel0_br0 : zyXp := (0, [], [], [], [], [])
noncomputable def zpfel0_b : zyPh := (2, [315, 19, 68719476737, 103079215105], [(0, 4294967295), (0, 4294967295), (2147483648, 2147483655), (2147483648, 2147483655)], [], [])
noncomputable def zpfel0 (i : Nat) : zyPh := zif (Nat.beq i 0) (zpfel0_a) (zpfel0_b)
noncomputable def zXfel0 (i : Nat) : List zyXp := zif (Nat.beq i 0) ([zxfel0_ax0]) ([zxfel0_bx0])
noncomputable def zRfel0 (i : Nat) : List zyXp := zif (Nat.beq i 0) ([]) ([zxfel0_br0])
noncomputable def zFfel0 (i : Nat) : zyR := zif (Nat.beq i 0) ([]) ([(42, 0, 7)])
noncomputable def zSfel0 (i : Nat) : Nat := zif (Nat.beq i 0) (0) (0)
def xΦel (x : Nat → Int) (_ : zyEm) : Prop := 0 ≤ x 0 ∧ x 0 ≤ 7
def xΨ0 (_ : Nat → Int) (_ _ : zyEm) (_ : Int) : Prop := True
noncomputable def fpfel0 : zyR := [(42, 0, 7)]
theorem zyfel0_run : zyrS zymc zxi87 (87, 0, 0, 0, 0) 2 zpfel0 (fun _ _ => []) zFfel0 zSfel0 zXfel0 zRfel0 2 = true := by decide +kernel
theorem zyfel0_ck : zyAll (fun i => xsubR (zFfel0 i) fpfel0 && ((zXfel0 i).all xckX && (zRfel0 i).all (fun x => xckX x && xrtB false x))) 2 = true := by decide +kernel
def xIfel0 (i : Nat) (x0 : Nat → Int) (E0 : zyEm) (v : Nat → Int) (E : zyEm) : Prop := if i = 0 then (E = E0) else (True)
def xMfel0 (i : Nat) (x0 : Nat → Int) (E0 : zyEm) (v : Nat → Int) (E : zyEm) : Nat := if i = 0 then (100) else (((v 3)).toNat)
theorem xEl0 {l : Launch} {en : zEn} {me : zMe} (hen : zG zxMeta 87 = some en) (hme : zG zMeth 87 = some me) : xFc l zymc en me 2 [39, 2] 1 fpfel0 false xΦel xΨ0 := by
  have een : zG zxMeta 87 = some (zxi87, 3, 4, 7, 87, 0, 0, 0, 0) := rfl
  obtain ⟨me1, hme1, hOK⟩ := zall hen
  rw [hme] at hme1
  cases hme1
  rw [een] at hen
  cases hen
  have hr := zyfel0_run
  have hck := fun i hi => zyAll_iff zyfel0_ck i hi
  simp only [Bool.and_eq_true] at hck
  intro B
  refine xcut (mi := zymc) (B := B) hOK rfl rfl (ι := Fin 2) (fun i => zpfel0 i.val) (fun _ _ => []) (fun i => zFfel0 i.val) (fun i => zSfel0 i.val) (fun i => zXfel0 i.val) (fun i => zRfel0 i.val) (fun i y2 ct en2 me2 h => by cases h) 200000 (fun i => zyAll_iff hr i.val i.isLt) (fun i => (hck i.val i.isLt).1) (fun i => (hck i.val i.isLt).2.1) (fun i => (hck i.val i.isLt).2.2) ⟨0, by decide⟩ ⟨rfl, rfl, rfl, rfl⟩ ⟨by decide, by decide⟩ (fun i x0 E0 v E => xIfel0 i.val x0 E0 v E) (fun i x0 E0 v E => xMfel0 i.val x0 E0 v E) ?_ ?_ ?_
  · intro x0 E hx0 hT hΦ
    have hΦ : xΦel x0 E := hΦ
    refine ⟨fun k p hp => ?_, ?_⟩
    · have hk : k < 4 := (List.getElem?_eq_some_iff.mp hp).1
      have hk : k = 0 ∨ k = 1 ∨ k = 2 ∨ k = 3 := by omega
      rcases hk with rfl | rfl | rfl | rfl
      · have hp : some (0, 4294967295) = some p := hp
        cases hp
        show ((0 : Nat) : Int) ≤ 0 + 2147483648 ∧ 0 + 2147483648 ≤ ((4294967295 : Nat) : Int)
        omega
      · have hp : some (0, 4294967295) = some p := hp
        cases hp
        show ((0 : Nat) : Int) ≤ 0 + 2147483648 ∧ 0 + 2147483648 ≤ ((4294967295 : Nat) : Int)
        omega
      · have hp : some (2147483648, 2147483655) = some p := hp
        cases hp
        show ((2147483648 : Nat) : Int) ≤ x0 0 + 2147483648 ∧ x0 0 + 2147483648 ≤ ((2147483655 : Nat) : Int)
        have hx := hx0 0
        have hP := hΦ.1
        have hP2 := hΦ.2
        omega
      · have hp : some (0, 4294967295) = some p := hp
        cases hp
        show ((0 : Nat) : Int) ≤ x0 1 + 2147483648 ∧ x0 1 + 2147483648 ≤ ((4294967295 : Nat) : Int)
        have hx := hx0 1
        omega
    · show E = E
      rfl
  · intro x0 s Wg hRu hrx hT0 hΦ i v H hT hrv hInv hKc hFr0 hIH x hx ρ2 v2 N2 H2 locs lsB stA hAt hB hv hr2 hXs hag hfr hFr hT2
    rcases i with ⟨i, hi⟩
    have hi2 : i = 0 ∨ i = 1 := by omega
    rcases hi2 with rfl | rfl
    · have hx : x ∈ [zxfel0_ax0] := hx
      have hag : ∀ k, k < 4 → v2 k = v k := hag
      have hfr : xFr [] _ _ := hfr
      have ex := List.mem_singleton.mp hx
      subst ex
      obtain ⟨hF, hBd, hM⟩ := hXs
      have g2 : v2 2 = v 2 := hag 2 (by decide)
      have b0 : ((2147483648 : Nat) : Int) ≤ (v2 2) + 2147483648 ∧ (v2 2) + 2147483648 ≤ ((2147483655 : Nat) : Int) := xXb hBd 0 rfl
      have hI : (zyEl zymc B H) = (zyEl zymc B s.heap) := hInv
      refine xGo hIH hAt hB hv hFr ⟨1, by decide⟩ [0, 0, 68719476737, 68719476737] [0, 0, (v2 2), (v2 2)] rfl ⟨by decide +kernel, ⟨rfl, by decide +kernel⟩, (xcs_c rfl (xcs_c rfl (xcs_c rfl (xcs_c rfl xcs_n)))), (xe_0 (xe_0 (xe_c (by omega) (by omega) rfl (xe_c (by omega) (by omega) rfl xe_n)))), xkq_n⟩ xst_n ?_ ?_
      · show True
        trivial
      · show (((v2 2) : Int)).toNat < 100
        omega
    · have hx : x ∈ [zxfel0_bx0] := hx
      have hag : ∀ k, k < 4 → v2 k = v k := hag
      have hfr : xFr [(42, 0, 7)] _ _ := hfr
      have ex := List.mem_singleton.mp hx
      subst ex
      obtain ⟨hF, hBd, hM⟩ := hXs
      have g2 : v2 2 = v 2 := hag 2 (by decide)
      have g3 : v2 3 = v 3 := hag 3 (by decide)
      have b0 : ((2147483648 : Nat) : Int) ≤ (v2 2) + 2147483648 ∧ (v2 2) + 2147483648 ≤ ((2147483655 : Nat) : Int) := xXb hBd 0 rfl
      have b1 : ((2147483649 : Nat) : Int) ≤ (v2 3) + 2147483648 ∧ (v2 3) + 2147483648 ≤ ((2147483655 : Nat) : Int) := xXb hBd 1 rfl
      have b2 : ((2147483648 : Nat) : Int) ≤ (v2 3 + (-1)) + 2147483648 ∧ (v2 3 + (-1)) + 2147483648 ≤ ((2147483654 : Nat) : Int) := xXb hBd 2 rfl
      have hI : True := hInv
      refine xGo hIH hAt hB hv hFr ⟨1, by decide⟩ [0, 0, 68719476737, 137438953465] [0, 0, (v2 2), (v2 3 + (-1))] rfl ⟨by decide +kernel, ⟨rfl, by decide +kernel⟩, (xcs_c rfl (xcs_c rfl (xcs_c rfl (xcs_c rfl xcs_n)))), (xe_0 (xe_0 (xe_c (by omega) (by omega) rfl (xe_c (by omega) (by omega) rfl xe_n)))), xkq_n⟩ xst_n ?_ ?_
      · show True
        trivial
      · show (((v2 3 + (-1)) : Int)).toNat < ((v 3)).toNat
        omega
  · intro x0 E0 E E2 hrx hT0 hΦ i v hT hrv hInv hKc hFr0 x hx v2 hr2 hXs hag hfr hFr hT2
    rcases i with ⟨i, hi⟩
    have hi2 : i = 0 ∨ i = 1 := by omega
    rcases hi2 with rfl | rfl
    · cases hx
    · have hx : x ∈ [zxfel0_br0] := hx
      have hag : ∀ k, k < 4 → v2 k = v k := hag
      have hfr : xFr [(42, 0, 7)] _ _ := hfr
      have ex := List.mem_singleton.mp hx
      subst ex
      obtain ⟨hF, hBd, hM⟩ := hXs
      have g2 : v2 2 = v 2 := hag 2 (by decide)
      have g3 : v2 3 = v 3 := hag 3 (by decide)
      have hI : True := hInv
      show xΨ0 x0 E0 E2 0
      trivial
noncomputable def zxfbg0_ax0 : zyXp := (23, [315, 11, 0], [], [], [], [])
noncomputable def zpfbg0_a : zyPh := (0, [315, 11, 13], [(0, 4294967295), (0, 4294967295), (0, 4294967295)], [], [])
noncomputable def zxfbg0_bx0 : zyXp := (49, [315, 11, 68719476737], [68719476737, 19, 315], [(24, 103079215105, 39, 0), (20, 0, 68719476737, 103079215105), (24, 137438953473, 14, 68719476737)], [(68719476737, 2147483648, 2147483655), (103079215105, 2147483649, 2147483656), (137438953473, 2147483648, 2147483727)], [])
noncomputable def zxfbg0_br0 : zyXp := (0, [], [], [(24, 103079215105, 39, 0), (21, 0, 68719476737, 103079215105)], [(68719476737, 2147483648, 2147483656), (103079215105, 2147483648, 2147483656)], [])
noncomputable def zpfbg0_b : zyPh := (23, [315, 11, 68719476737], [(0, 4294967295), (0, 4294967295), (2147483648, 2147483656)], [], [])
noncomputable def zxfbg0_cx0 : zyXp := (23, [315, 11, 68719476745], [], [], [(68719476737, 2147483648, 2147483655), (68719476745, 2147483649, 2147483656)], [])
noncomputable def zpfbg0_c : zyPh := (52, [315, 11, 68719476737], [(0, 4294967295), (0, 4294967295), (2147483648, 2147483655)], [], [])
noncomputable def zpfbg0 (i : Nat) : zyPh := zif (Nat.beq i 0) (zpfbg0_a) (zif (Nat.beq i 1) (zpfbg0_b) (zpfbg0_c))
noncomputable def zXfbg0 (i : Nat) : List zyXp := zif (Nat.beq i 0) ([zxfbg0_ax0]) (zif (Nat.beq i 1) ([zxfbg0_bx0]) ([zxfbg0_cx0]))
noncomputable def zRfbg0 (i : Nat) : List zyXp := zif (Nat.beq i 0) ([]) (zif (Nat.beq i 1) ([zxfbg0_br0]) ([]))
noncomputable def zFfbg0 (i : Nat) : zyR := zif (Nat.beq i 0) ([(39, 0, 1), (45, 1, 1)]) (zif (Nat.beq i 1) ([(40, 0, 7)]) ([]))
noncomputable def zSfbg0 (i : Nat) : Nat := zif (Nat.beq i 0) (0) (zif (Nat.beq i 1) (0) (0))
noncomputable def fpfbg0 : zyR := [(39, 0, 1), (45, 1, 1), (40, 0, 7), (42, 0, 7)]
theorem zyfbg0_run : zyrS zymc zxi86 (86, 0, 0, 0, 0) 3 zpfbg0 (fun _ _ => []) zFfbg0 zSfbg0 zXfbg0 zRfbg0 3 = true := by decide +kernel
theorem zyfbg0_ck : zyAll (fun i => xsubR (zFfbg0 i) fpfbg0 && ((zXfbg0 i).all xckX && (zRfbg0 i).all (fun x => xckX x && xrtB false x))) 3 = true := by decide +kernel
def xIfbg0 (i : Nat) (x0 : Nat → Int) (E0 : zyEm) (v : Nat → Int) (E : zyEm) : Prop := if i = 0 then (E = E0) else if i = 1 then (True) else (True)
def xMfbg0 (i : Nat) (x0 : Nat → Int) (E0 : zyEm) (v : Nat → Int) (E : zyEm) : Nat := if i = 0 then (1000) else if i = 1 then (3 * (20 - (v 2)).toNat + 2) else (3 * (20 - (v 2)).toNat)
theorem xBg0 {l : Launch} {en : zEn} {me : zMe} (hen : zG zxMeta 86 = some en) (hme : zG zMeth 86 = some me) : xFc l zymc en me 3 [39, 1] 0 fpfbg0 false xΦ0 xΨ0 := by
  have een : zG zxMeta 86 = some (zxi86, 2, 3, 7, 86, 0, 0, 0, 0) := rfl
  obtain ⟨me1, hme1, hOK⟩ := zall hen
  rw [hme] at hme1
  cases hme1
  rw [een] at hen
  cases hen
  have hr := zyfbg0_run
  have hck := fun i hi => zyAll_iff zyfbg0_ck i hi
  simp only [Bool.and_eq_true] at hck
  obtain ⟨mefel0, hmefel0, -⟩ := zall (show zG zxMeta 87 = some (zxi87, 3, 4, 7, 87, 0, 0, 0, 0) from rfl)
  have hfel0 := xEl0 (l := l) (show zG zxMeta 87 = some (zxi87, 3, 4, 7, 87, 0, 0, 0, 0) from rfl) hmefel0
  intro B
  refine xcut (mi := zymc) (B := B) hOK rfl rfl (ι := Fin 3) (fun i => zpfbg0 i.val) (fun _ _ => []) (fun i => zFfbg0 i.val) (fun i => zSfbg0 i.val) (fun i => zXfbg0 i.val) (fun i => zRfbg0 i.val) (fun i y2 ct en2 me2 h => by cases h) 200000 (fun i => zyAll_iff hr i.val i.isLt) (fun i => (hck i.val i.isLt).1) (fun i => (hck i.val i.isLt).2.1) (fun i => (hck i.val i.isLt).2.2) ⟨0, by decide⟩ ⟨rfl, rfl, rfl, rfl⟩ ⟨by decide, by decide⟩ (fun i x0 E0 v E => xIfbg0 i.val x0 E0 v E) (fun i x0 E0 v E => xMfbg0 i.val x0 E0 v E) ?_ ?_ ?_
  · intro x0 E hx0 hT hΦ
    have hΦ : xΦ0 x0 E := hΦ
    refine ⟨fun k p hp => ?_, ?_⟩
    · have hk : k < 3 := (List.getElem?_eq_some_iff.mp hp).1
      have hk : k = 0 ∨ k = 1 ∨ k = 2 := by omega
      rcases hk with rfl | rfl | rfl
      · have hp : some (0, 4294967295) = some p := hp
        cases hp
        show ((0 : Nat) : Int) ≤ 0 + 2147483648 ∧ 0 + 2147483648 ≤ ((4294967295 : Nat) : Int)
        omega
      · have hp : some (0, 4294967295) = some p := hp
        cases hp
        show ((0 : Nat) : Int) ≤ 0 + 2147483648 ∧ 0 + 2147483648 ≤ ((4294967295 : Nat) : Int)
        omega
      · have hp : some (0, 4294967295) = some p := hp
        cases hp
        show ((0 : Nat) : Int) ≤ x0 0 + 2147483648 ∧ x0 0 + 2147483648 ≤ ((4294967295 : Nat) : Int)
        have hx := hx0 0
        omega
    · show E = E
      rfl
  · intro x0 s Wg hRu hrx hT0 hΦ i v H hT hrv hInv hKc hFr0 hIH x hx ρ2 v2 N2 H2 locs lsB stA hAt hB hv hr2 hXs hag hfr hFr hT2
    rcases i with ⟨i, hi⟩
    have hi2 : i = 0 ∨ i = 1 ∨ i = 2 := by omega
    rcases hi2 with rfl | rfl | rfl
    · have hx : x ∈ [zxfbg0_ax0] := hx
      have hag : ∀ k, k < 3 → v2 k = v k := hag
      have hfr : xFr [(39, 0, 1), (45, 1, 1)] _ _ := hfr
      have ex := List.mem_singleton.mp hx
      subst ex
      obtain ⟨hF, hBd, hM⟩ := hXs
      have hI : (zyEl zymc B H) = (zyEl zymc B s.heap) := hInv
      refine xGo hIH hAt hB hv hFr ⟨1, by decide⟩ [0, 0, 0] [0, 0, 0] rfl ⟨by decide +kernel, ⟨rfl, by decide +kernel⟩, (xcs_c rfl (xcs_c rfl (xcs_c rfl xcs_n))), (xe_0 (xe_0 (xe_c (by omega) (by omega) rfl xe_n))), xkq_n⟩ xst_n ?_ ?_
      · show True
        trivial
      · show 3 * (20 - (0 : Int)).toNat + 2 < 1000
        omega
    · have hx : x ∈ [zxfbg0_bx0] := hx
      have hag : ∀ k, k < 3 → v2 k = v k := hag
      have hfr : xFr [(40, 0, 7)] _ _ := hfr
      have ex := List.mem_singleton.mp hx
      subst ex
      obtain ⟨hF, hBd, hM⟩ := hXs
      have g2 : v2 2 = v 2 := hag 2 (by decide)
      have b0 : ((2147483648 : Nat) : Int) ≤ (v2 2) + 2147483648 ∧ (v2 2) + 2147483648 ≤ ((2147483655 : Nat) : Int) := xXb hBd 0 rfl
      have b1 : ((2147483649 : Nat) : Int) ≤ (v2 3) + 2147483648 ∧ (v2 3) + 2147483648 ≤ ((2147483656 : Nat) : Int) := xXb hBd 1 rfl
      have b2 : ((2147483648 : Nat) : Int) ≤ (v2 4) + 2147483648 ∧ (v2 4) + 2147483648 ≤ ((2147483727 : Nat) : Int) := xXb hBd 2 rfl
      have f0 : (0 : Int) ≤ 0 ∧ xE (zyEl zymc B H) 39 0 = (v2 3) := xXf hF 0 rfl
      have f1 : (v2 2) < (v2 3) := xXf hF 1 rfl
      have f2 : (0 : Int) ≤ (v2 2) ∧ xE (zyEl zymc B H) 14 (v2 2) = (v2 4) := xXf hF 2 rfl
      have hI : True := hInv
      refine xCa hRu hIH hAt hB hv hFr (hfel0 B) (ix := 58) (ax := 1392) rfl rfl rfl hmefel0 ⟨_, rfl, rfl, by decide⟩ ⟨rfl, rfl, rfl⟩ (by decide) [68719476737] [] [(v2 2)] rfl ⟨rfl, rfl⟩ (by decide +kernel) (xcs_c rfl xcs_n) (by decide +kernel) ?_ (fun H3 r hT3 hf3 hFr3 hr3 hΨ3 => ?_)
      · show xΦel (xfv [(v2 2)]) (zyEl zymc B H2)
        exact ⟨by show 0 ≤ (v2 2); omega, by show (v2 2) ≤ 7; omega⟩
      · have hΨ3 : xΨ0 (xfv [(v2 2)]) (zyEl zymc B H2) (zyEl zymc B H3) r := hΨ3
        skip
        skip
        refine ⟨⟨2, by decide⟩, [0, 0, 68719476737], [0, 0, (v2 2)], rfl, ⟨by decide +kernel, ⟨rfl, by decide +kernel⟩, (xcs_c rfl (xcs_c rfl (xcs_c rfl xcs_n))), (xe_0 (xe_0 (xe_c (by omega) (by omega) rfl xe_n))), xkq_n⟩, (by rw [if_neg (by decide)]; exact xst_n), ?_, ?_⟩
        · show True
          trivial
        · show 3 * (20 - ((v2 2) : Int)).toNat < 3 * (20 - (v 2)).toNat + 2
          omega
    · have hx : x ∈ [zxfbg0_cx0] := hx
      have hag : ∀ k, k < 3 → v2 k = v k := hag
      have hfr : xFr [] _ _ := hfr
      have ex := List.mem_singleton.mp hx
      subst ex
      obtain ⟨hF, hBd, hM⟩ := hXs
      have g2 : v2 2 = v 2 := hag 2 (by decide)
      have b0 : ((2147483648 : Nat) : Int) ≤ (v2 2) + 2147483648 ∧ (v2 2) + 2147483648 ≤ ((2147483655 : Nat) : Int) := xXb hBd 0 rfl
      have b1 : ((2147483649 : Nat) : Int) ≤ (v2 2 + 1) + 2147483648 ∧ (v2 2 + 1) + 2147483648 ≤ ((2147483656 : Nat) : Int) := xXb hBd 1 rfl
      have hI : True := hInv
      refine xGo hIH hAt hB hv hFr ⟨1, by decide⟩ [0, 0, 68719476745] [0, 0, (v2 2 + 1)] rfl ⟨by decide +kernel, ⟨rfl, by decide +kernel⟩, (xcs_c rfl (xcs_c rfl (xcs_c rfl xcs_n))), (xe_0 (xe_0 (xe_c (by omega) (by omega) rfl xe_n))), xkq_n⟩ xst_n ?_ ?_
      · show True
        trivial
      · show 3 * (20 - ((v2 2 + 1) : Int)).toNat + 2 < 3 * (20 - (v 2)).toNat
        omega
  · intro x0 E0 E E2 hrx hT0 hΦ i v hT hrv hInv hKc hFr0 x hx v2 hr2 hXs hag hfr hFr hT2
    rcases i with ⟨i, hi⟩
    have hi2 : i = 0 ∨ i = 1 ∨ i = 2 := by omega
    rcases hi2 with rfl | rfl | rfl
    · cases hx
    · have hx : x ∈ [zxfbg0_br0] := hx
      have hag : ∀ k, k < 3 → v2 k = v k := hag
      have hfr : xFr [(40, 0, 7)] _ _ := hfr
      have ex := List.mem_singleton.mp hx
      subst ex
      obtain ⟨hF, hBd, hM⟩ := hXs
      have g2 : v2 2 = v 2 := hag 2 (by decide)
      have b0 : ((2147483648 : Nat) : Int) ≤ (v2 2) + 2147483648 ∧ (v2 2) + 2147483648 ≤ ((2147483656 : Nat) : Int) := xXb hBd 0 rfl
      have b1 : ((2147483648 : Nat) : Int) ≤ (v2 3) + 2147483648 ∧ (v2 3) + 2147483648 ≤ ((2147483656 : Nat) : Int) := xXb hBd 1 rfl
      have f0 : (0 : Int) ≤ 0 ∧ xE E 39 0 = (v2 3) := xXf hF 0 rfl
      have f1 : (v2 3) ≤ (v2 2) := xXf hF 1 rfl
      have hI : True := hInv
      show xΨ0 x0 E0 E2 0
      trivial
    · cases hx
noncomputable def zxfel17_ax0 : zyXp := (2, [315, 155, 68719476737, 68719476737], [], [], [(68719476737, 2147483648, 2147483655)], [])
noncomputable def zpfel17_a : zyPh := (0, [315, 155, 68719476737, 13], [(0, 4294967295), (0, 4294967295), (2147483648, 2147483655), (0, 4294967295)], [], [])
noncomputable def zxfel17_bx0 : zyXp := (2, [315, 155, 68719476737, 137438953465], [], [], [(68719476737, 2147483648, 2147483655), (103079215105, 2147483649, 2147483655), (137438953465, 2147483648, 2147483654)], [])
noncomputable def zxfel17_br0 : zyXp := (0, [], [], [], [], [])
noncomputable def zpfel17_b : zyPh := (2, [315, 155, 68719476737, 103079215105], [(0, 4294967295), (0, 4294967295), (2147483648, 2147483655), (2147483648, 2147483655)], [], [])
noncomputable def zpfel17 (i : Nat) : zyPh := zif (Nat.beq i 0) (zpfel17_a) (zpfel17_b)
noncomputable def zXfel17 (i : Nat) : List zyXp := zif (Nat.beq i 0) ([zxfel17_ax0]) ([zxfel17_bx0])
noncomputable def zRfel17 (i : Nat) : List zyXp := zif (Nat.beq i 0) ([]) ([zxfel17_br0])
noncomputable def zFfel17 (i : Nat) : zyR := zif (Nat.beq i 0) ([]) ([(42, 0, 7)])
noncomputable def zSfel17 (i : Nat) : Nat := zif (Nat.beq i 0) (0) (0)
noncomputable def fpfel17 : zyR := [(42, 0, 7)]
theorem zyfel17_run : zyrS zymc zxi87 (87, 0, 0, 0, 0) 2 zpfel17 (fun _ _ => []) zFfel17 zSfel17 zXfel17 zRfel17 2 = true := by decide +kernel
theorem zyfel17_ck : zyAll (fun i => xsubR (zFfel17 i) fpfel17 && ((zXfel17 i).all xckX && (zRfel17 i).all (fun x => xckX x && xrtB false x))) 2 = true := by decide +kernel
def xIfel17 (i : Nat) (x0 : Nat → Int) (E0 : zyEm) (v : Nat → Int) (E : zyEm) : Prop := if i = 0 then (E = E0) else (True)
def xMfel17 (i : Nat) (x0 : Nat → Int) (E0 : zyEm) (v : Nat → Int) (E : zyEm) : Nat := if i = 0 then (100) else (((v 3)).toNat)
theorem xEl17 {l : Launch} {en : zEn} {me : zMe} (hen : zG zxMeta 87 = some en) (hme : zG zMeth 87 = some me) : xFc l zymc en me 2 [39, 19] 1 fpfel17 false xΦel xΨ0 := by
  have een : zG zxMeta 87 = some (zxi87, 3, 4, 7, 87, 0, 0, 0, 0) := rfl
  obtain ⟨me1, hme1, hOK⟩ := zall hen
  rw [hme] at hme1
  cases hme1
  rw [een] at hen
  cases hen
  have hr := zyfel17_run
  have hck := fun i hi => zyAll_iff zyfel17_ck i hi
  simp only [Bool.and_eq_true] at hck
  intro B
  refine xcut (mi := zymc) (B := B) hOK rfl rfl (ι := Fin 2) (fun i => zpfel17 i.val) (fun _ _ => []) (fun i => zFfel17 i.val) (fun i => zSfel17 i.val) (fun i => zXfel17 i.val) (fun i => zRfel17 i.val) (fun i y2 ct en2 me2 h => by cases h) 200000 (fun i => zyAll_iff hr i.val i.isLt) (fun i => (hck i.val i.isLt).1) (fun i => (hck i.val i.isLt).2.1) (fun i => (hck i.val i.isLt).2.2) ⟨0, by decide⟩ ⟨rfl, rfl, rfl, rfl⟩ ⟨by decide, by decide⟩ (fun i x0 E0 v E => xIfel17 i.val x0 E0 v E) (fun i x0 E0 v E => xMfel17 i.val x0 E0 v E) ?_ ?_ ?_
  · intro x0 E hx0 hT hΦ
    have hΦ : xΦel x0 E := hΦ
    refine ⟨fun k p hp => ?_, ?_⟩
    · have hk : k < 4 := (List.getElem?_eq_some_iff.mp hp).1
      have hk : k = 0 ∨ k = 1 ∨ k = 2 ∨ k = 3 := by omega
      rcases hk with rfl | rfl | rfl | rfl
      · have hp : some (0, 4294967295) = some p := hp
        cases hp
        show ((0 : Nat) : Int) ≤ 0 + 2147483648 ∧ 0 + 2147483648 ≤ ((4294967295 : Nat) : Int)
        omega
      · have hp : some (0, 4294967295) = some p := hp
        cases hp
        show ((0 : Nat) : Int) ≤ 0 + 2147483648 ∧ 0 + 2147483648 ≤ ((4294967295 : Nat) : Int)
        omega
      · have hp : some (2147483648, 2147483655) = some p := hp
        cases hp
        show ((2147483648 : Nat) : Int) ≤ x0 0 + 2147483648 ∧ x0 0 + 2147483648 ≤ ((2147483655 : Nat) : Int)
        have hx := hx0 0
        have hP := hΦ.1
        have hP2 := hΦ.2
        omega
      · have hp : some (0, 4294967295) = some p := hp
        cases hp
        show ((0 : Nat) : Int) ≤ x0 1 + 2147483648 ∧ x0 1 + 2147483648 ≤ ((4294967295 : Nat) : Int)
        have hx := hx0 1
        omega
    · show E = E
      rfl
  · intro x0 s Wg hRu hrx hT0 hΦ i v H hT hrv hInv hKc hFr0 hIH x hx ρ2 v2 N2 H2 locs lsB stA hAt hB hv hr2 hXs hag hfr hFr hT2
    rcases i with ⟨i, hi⟩
    have hi2 : i = 0 ∨ i = 1 := by omega
    rcases hi2 with rfl | rfl
    · have hx : x ∈ [zxfel17_ax0] := hx
      have hag : ∀ k, k < 4 → v2 k = v k := hag
      have hfr : xFr [] _ _ := hfr
      have ex := List.mem_singleton.mp hx
      subst ex
      obtain ⟨hF, hBd, hM⟩ := hXs
      have g2 : v2 2 = v 2 := hag 2 (by decide)
      have b0 : ((2147483648 : Nat) : Int) ≤ (v2 2) + 2147483648 ∧ (v2 2) + 2147483648 ≤ ((2147483655 : Nat) : Int) := xXb hBd 0 rfl
      have hI : (zyEl zymc B H) = (zyEl zymc B s.heap) := hInv
      refine xGo hIH hAt hB hv hFr ⟨1, by decide⟩ [0, 0, 68719476737, 68719476737] [0, 0, (v2 2), (v2 2)] rfl ⟨by decide +kernel, ⟨rfl, by decide +kernel⟩, (xcs_c rfl (xcs_c rfl (xcs_c rfl (xcs_c rfl xcs_n)))), (xe_0 (xe_0 (xe_c (by omega) (by omega) rfl (xe_c (by omega) (by omega) rfl xe_n)))), xkq_n⟩ xst_n ?_ ?_
      · show True
        trivial
      · show (((v2 2) : Int)).toNat < 100
        omega
    · have hx : x ∈ [zxfel17_bx0] := hx
      have hag : ∀ k, k < 4 → v2 k = v k := hag
      have hfr : xFr [(42, 0, 7)] _ _ := hfr
      have ex := List.mem_singleton.mp hx
      subst ex
      obtain ⟨hF, hBd, hM⟩ := hXs
      have g2 : v2 2 = v 2 := hag 2 (by decide)
      have g3 : v2 3 = v 3 := hag 3 (by decide)
      have b0 : ((2147483648 : Nat) : Int) ≤ (v2 2) + 2147483648 ∧ (v2 2) + 2147483648 ≤ ((2147483655 : Nat) : Int) := xXb hBd 0 rfl
      have b1 : ((2147483649 : Nat) : Int) ≤ (v2 3) + 2147483648 ∧ (v2 3) + 2147483648 ≤ ((2147483655 : Nat) : Int) := xXb hBd 1 rfl
      have b2 : ((2147483648 : Nat) : Int) ≤ (v2 3 + (-1)) + 2147483648 ∧ (v2 3 + (-1)) + 2147483648 ≤ ((2147483654 : Nat) : Int) := xXb hBd 2 rfl
      have hI : True := hInv
      refine xGo hIH hAt hB hv hFr ⟨1, by decide⟩ [0, 0, 68719476737, 137438953465] [0, 0, (v2 2), (v2 3 + (-1))] rfl ⟨by decide +kernel, ⟨rfl, by decide +kernel⟩, (xcs_c rfl (xcs_c rfl (xcs_c rfl (xcs_c rfl xcs_n)))), (xe_0 (xe_0 (xe_c (by omega) (by omega) rfl (xe_c (by omega) (by omega) rfl xe_n)))), xkq_n⟩ xst_n ?_ ?_
      · show True
        trivial
      · show (((v2 3 + (-1)) : Int)).toNat < ((v 3)).toNat
        omega
  · intro x0 E0 E E2 hrx hT0 hΦ i v hT hrv hInv hKc hFr0 x hx v2 hr2 hXs hag hfr hFr hT2
    rcases i with ⟨i, hi⟩
    have hi2 : i = 0 ∨ i = 1 := by omega
    rcases hi2 with rfl | rfl
    · cases hx
    · have hx : x ∈ [zxfel17_br0] := hx
      have hag : ∀ k, k < 4 → v2 k = v k := hag
      have hfr : xFr [(42, 0, 7)] _ _ := hfr
      have ex := List.mem_singleton.mp hx
      subst ex
      obtain ⟨hF, hBd, hM⟩ := hXs
      have g2 : v2 2 = v 2 := hag 2 (by decide)
      have g3 : v2 3 = v 3 := hag 3 (by decide)
      have hI : True := hInv
      show xΨ0 x0 E0 E2 0
      trivial
noncomputable def zxfbg17_ax0 : zyXp := (23, [315, 147, 0], [], [], [], [])
noncomputable def zpfbg17_a : zyPh := (0, [315, 147, 13], [(0, 4294967295), (0, 4294967295), (0, 4294967295)], [], [])
noncomputable def zxfbg17_bx0 : zyXp := (49, [315, 147, 68719476737], [68719476737, 155, 315], [(24, 103079215105, 39, 0), (20, 0, 68719476737, 103079215105), (24, 137438953473, 31, 68719476737)], [(68719476737, 2147483648, 2147483655), (103079215105, 2147483649, 2147483656), (137438953473, 2147483648, 2147483727)], [])
noncomputable def zxfbg17_br0 : zyXp := (0, [], [], [(24, 103079215105, 39, 0), (21, 0, 68719476737, 103079215105)], [(68719476737, 2147483648, 2147483656), (103079215105, 2147483648, 2147483656)], [])
noncomputable def zpfbg17_b : zyPh := (23, [315, 147, 68719476737], [(0, 4294967295), (0, 4294967295), (2147483648, 2147483656)], [], [])
noncomputable def zxfbg17_cx0 : zyXp := (23, [315, 147, 68719476745], [], [], [(68719476737, 2147483648, 2147483655), (68719476745, 2147483649, 2147483656)], [])
noncomputable def zpfbg17_c : zyPh := (52, [315, 147, 68719476737], [(0, 4294967295), (0, 4294967295), (2147483648, 2147483655)], [], [])
noncomputable def zpfbg17 (i : Nat) : zyPh := zif (Nat.beq i 0) (zpfbg17_a) (zif (Nat.beq i 1) (zpfbg17_b) (zpfbg17_c))
noncomputable def zXfbg17 (i : Nat) : List zyXp := zif (Nat.beq i 0) ([zxfbg17_ax0]) (zif (Nat.beq i 1) ([zxfbg17_bx0]) ([zxfbg17_cx0]))
noncomputable def zRfbg17 (i : Nat) : List zyXp := zif (Nat.beq i 0) ([]) (zif (Nat.beq i 1) ([zxfbg17_br0]) ([]))
noncomputable def zFfbg17 (i : Nat) : zyR := zif (Nat.beq i 0) ([(39, 0, 1), (45, 1, 1)]) (zif (Nat.beq i 1) ([(40, 0, 7)]) ([]))
noncomputable def zSfbg17 (i : Nat) : Nat := zif (Nat.beq i 0) (0) (zif (Nat.beq i 1) (0) (0))
noncomputable def fpfbg17 : zyR := [(39, 0, 1), (45, 1, 1), (40, 0, 7), (42, 0, 7)]
theorem zyfbg17_run : zyrS zymc zxi86 (86, 0, 0, 0, 0) 3 zpfbg17 (fun _ _ => []) zFfbg17 zSfbg17 zXfbg17 zRfbg17 3 = true := by decide +kernel
theorem zyfbg17_ck : zyAll (fun i => xsubR (zFfbg17 i) fpfbg17 && ((zXfbg17 i).all xckX && (zRfbg17 i).all (fun x => xckX x && xrtB false x))) 3 = true := by decide +kernel
def xIfbg17 (i : Nat) (x0 : Nat → Int) (E0 : zyEm) (v : Nat → Int) (E : zyEm) : Prop := if i = 0 then (E = E0) else if i = 1 then (True) else (True)
def xMfbg17 (i : Nat) (x0 : Nat → Int) (E0 : zyEm) (v : Nat → Int) (E : zyEm) : Nat := if i = 0 then (1000) else if i = 1 then (3 * (20 - (v 2)).toNat + 2) else (3 * (20 - (v 2)).toNat)
theorem xBg17 {l : Launch} {en : zEn} {me : zMe} (hen : zG zxMeta 86 = some en) (hme : zG zMeth 86 = some me) : xFc l zymc en me 3 [39, 18] 0 fpfbg17 false xΦ0 xΨ0 := by
  have een : zG zxMeta 86 = some (zxi86, 2, 3, 7, 86, 0, 0, 0, 0) := rfl
  obtain ⟨me1, hme1, hOK⟩ := zall hen
  rw [hme] at hme1
  cases hme1
  rw [een] at hen
  cases hen
  have hr := zyfbg17_run
  have hck := fun i hi => zyAll_iff zyfbg17_ck i hi
  simp only [Bool.and_eq_true] at hck
  obtain ⟨mefel17, hmefel17, -⟩ := zall (show zG zxMeta 87 = some (zxi87, 3, 4, 7, 87, 0, 0, 0, 0) from rfl)
  have hfel17 := xEl17 (l := l) (show zG zxMeta 87 = some (zxi87, 3, 4, 7, 87, 0, 0, 0, 0) from rfl) hmefel17
  intro B
  refine xcut (mi := zymc) (B := B) hOK rfl rfl (ι := Fin 3) (fun i => zpfbg17 i.val) (fun _ _ => []) (fun i => zFfbg17 i.val) (fun i => zSfbg17 i.val) (fun i => zXfbg17 i.val) (fun i => zRfbg17 i.val) (fun i y2 ct en2 me2 h => by cases h) 200000 (fun i => zyAll_iff hr i.val i.isLt) (fun i => (hck i.val i.isLt).1) (fun i => (hck i.val i.isLt).2.1) (fun i => (hck i.val i.isLt).2.2) ⟨0, by decide⟩ ⟨rfl, rfl, rfl, rfl⟩ ⟨by decide, by decide⟩ (fun i x0 E0 v E => xIfbg17 i.val x0 E0 v E) (fun i x0 E0 v E => xMfbg17 i.val x0 E0 v E) ?_ ?_ ?_
  · intro x0 E hx0 hT hΦ
    have hΦ : xΦ0 x0 E := hΦ
    refine ⟨fun k p hp => ?_, ?_⟩
    · have hk : k < 3 := (List.getElem?_eq_some_iff.mp hp).1
      have hk : k = 0 ∨ k = 1 ∨ k = 2 := by omega
      rcases hk with rfl | rfl | rfl
      · have hp : some (0, 4294967295) = some p := hp
        cases hp
        show ((0 : Nat) : Int) ≤ 0 + 2147483648 ∧ 0 + 2147483648 ≤ ((4294967295 : Nat) : Int)
        omega
      · have hp : some (0, 4294967295) = some p := hp
        cases hp
        show ((0 : Nat) : Int) ≤ 0 + 2147483648 ∧ 0 + 2147483648 ≤ ((4294967295 : Nat) : Int)
        omega
      · have hp : some (0, 4294967295) = some p := hp
        cases hp
        show ((0 : Nat) : Int) ≤ x0 0 + 2147483648 ∧ x0 0 + 2147483648 ≤ ((4294967295 : Nat) : Int)
        have hx := hx0 0
        omega
    · show E = E
      rfl
  · intro x0 s Wg hRu hrx hT0 hΦ i v H hT hrv hInv hKc hFr0 hIH x hx ρ2 v2 N2 H2 locs lsB stA hAt hB hv hr2 hXs hag hfr hFr hT2
    rcases i with ⟨i, hi⟩
    have hi2 : i = 0 ∨ i = 1 ∨ i = 2 := by omega
    rcases hi2 with rfl | rfl | rfl
    · have hx : x ∈ [zxfbg17_ax0] := hx
      have hag : ∀ k, k < 3 → v2 k = v k := hag
      have hfr : xFr [(39, 0, 1), (45, 1, 1)] _ _ := hfr
      have ex := List.mem_singleton.mp hx
      subst ex
      obtain ⟨hF, hBd, hM⟩ := hXs
      have hI : (zyEl zymc B H) = (zyEl zymc B s.heap) := hInv
      refine xGo hIH hAt hB hv hFr ⟨1, by decide⟩ [0, 0, 0] [0, 0, 0] rfl ⟨by decide +kernel, ⟨rfl, by decide +kernel⟩, (xcs_c rfl (xcs_c rfl (xcs_c rfl xcs_n))), (xe_0 (xe_0 (xe_c (by omega) (by omega) rfl xe_n))), xkq_n⟩ xst_n ?_ ?_
      · show True
        trivial
      · show 3 * (20 - (0 : Int)).toNat + 2 < 1000
        omega
    · have hx : x ∈ [zxfbg17_bx0] := hx
      have hag : ∀ k, k < 3 → v2 k = v k := hag
      have hfr : xFr [(40, 0, 7)] _ _ := hfr
      have ex := List.mem_singleton.mp hx
      subst ex
      obtain ⟨hF, hBd, hM⟩ := hXs
      have g2 : v2 2 = v 2 := hag 2 (by decide)
      have b0 : ((2147483648 : Nat) : Int) ≤ (v2 2) + 2147483648 ∧ (v2 2) + 2147483648 ≤ ((2147483655 : Nat) : Int) := xXb hBd 0 rfl
      have b1 : ((2147483649 : Nat) : Int) ≤ (v2 3) + 2147483648 ∧ (v2 3) + 2147483648 ≤ ((2147483656 : Nat) : Int) := xXb hBd 1 rfl
      have b2 : ((2147483648 : Nat) : Int) ≤ (v2 4) + 2147483648 ∧ (v2 4) + 2147483648 ≤ ((2147483727 : Nat) : Int) := xXb hBd 2 rfl
      have f0 : (0 : Int) ≤ 0 ∧ xE (zyEl zymc B H) 39 0 = (v2 3) := xXf hF 0 rfl
      have f1 : (v2 2) < (v2 3) := xXf hF 1 rfl
      have f2 : (0 : Int) ≤ (v2 2) ∧ xE (zyEl zymc B H) 31 (v2 2) = (v2 4) := xXf hF 2 rfl
      have hI : True := hInv
      refine xCa hRu hIH hAt hB hv hFr (hfel17 B) (ix := 58) (ax := 1392) rfl rfl rfl hmefel17 ⟨_, rfl, rfl, by decide⟩ ⟨rfl, rfl, rfl⟩ (by decide) [68719476737] [] [(v2 2)] rfl ⟨rfl, rfl⟩ (by decide +kernel) (xcs_c rfl xcs_n) (by decide +kernel) ?_ (fun H3 r hT3 hf3 hFr3 hr3 hΨ3 => ?_)
      · show xΦel (xfv [(v2 2)]) (zyEl zymc B H2)
        exact ⟨by show 0 ≤ (v2 2); omega, by show (v2 2) ≤ 7; omega⟩
      · have hΨ3 : xΨ0 (xfv [(v2 2)]) (zyEl zymc B H2) (zyEl zymc B H3) r := hΨ3
        skip
        skip
        refine ⟨⟨2, by decide⟩, [0, 0, 68719476737], [0, 0, (v2 2)], rfl, ⟨by decide +kernel, ⟨rfl, by decide +kernel⟩, (xcs_c rfl (xcs_c rfl (xcs_c rfl xcs_n))), (xe_0 (xe_0 (xe_c (by omega) (by omega) rfl xe_n))), xkq_n⟩, (by rw [if_neg (by decide)]; exact xst_n), ?_, ?_⟩
        · show True
          trivial
        · show 3 * (20 - ((v2 2) : Int)).toNat < 3 * (20 - (v 2)).toNat + 2
          omega
    · have hx : x ∈ [zxfbg17_cx0] := hx
      have hag : ∀ k, k < 3 → v2 k = v k := hag
      have hfr : xFr [] _ _ := hfr
      have ex := List.mem_singleton.mp hx
      subst ex
      obtain ⟨hF, hBd, hM⟩ := hXs
      have g2 : v2 2 = v 2 := hag 2 (by decide)
      have b0 : ((2147483648 : Nat) : Int) ≤ (v2 2) + 2147483648 ∧ (v2 2) + 2147483648 ≤ ((2147483655 : Nat) : Int) := xXb hBd 0 rfl
      have b1 : ((2147483649 : Nat) : Int) ≤ (v2 2 + 1) + 2147483648 ∧ (v2 2 + 1) + 2147483648 ≤ ((2147483656 : Nat) : Int) := xXb hBd 1 rfl
      have hI : True := hInv
      refine xGo hIH hAt hB hv hFr ⟨1, by decide⟩ [0, 0, 68719476745] [0, 0, (v2 2 + 1)] rfl ⟨by decide +kernel, ⟨rfl, by decide +kernel⟩, (xcs_c rfl (xcs_c rfl (xcs_c rfl xcs_n))), (xe_0 (xe_0 (xe_c (by omega) (by omega) rfl xe_n))), xkq_n⟩ xst_n ?_ ?_
      · show True
        trivial
      · show 3 * (20 - ((v2 2 + 1) : Int)).toNat + 2 < 3 * (20 - (v 2)).toNat
        omega
  · intro x0 E0 E E2 hrx hT0 hΦ i v hT hrv hInv hKc hFr0 x hx v2 hr2 hXs hag hfr hFr hT2
    rcases i with ⟨i, hi⟩
    have hi2 : i = 0 ∨ i = 1 ∨ i = 2 := by omega
    rcases hi2 with rfl | rfl | rfl
    · cases hx
    · have hx : x ∈ [zxfbg17_br0] := hx
      have hag : ∀ k, k < 3 → v2 k = v k := hag
      have hfr : xFr [(40, 0, 7)] _ _ := hfr
      have ex := List.mem_singleton.mp hx
      subst ex
      obtain ⟨hF, hBd, hM⟩ := hXs
      have g2 : v2 2 = v 2 := hag 2 (by decide)
      have b0 : ((2147483648 : Nat) : Int) ≤ (v2 2) + 2147483648 ∧ (v2 2) + 2147483648 ≤ ((2147483656 : Nat) : Int) := xXb hBd 0 rfl
      have b1 : ((2147483648 : Nat) : Int) ≤ (v2 3) + 2147483648 ∧ (v2 3) + 2147483648 ≤ ((2147483656 : Nat) : Int) := xXb hBd 1 rfl
      have f0 : (0 : Int) ≤ 0 ∧ xE E 39 0 = (v2 3) := xXf hF 0 rfl
      have f1 : (v2 3) ≤ (v2 2) := xXf hF 1 rfl
      have hI : True := hInv
      show xΨ0 x0 E0 E2 0
      trivial
    · cases hx
