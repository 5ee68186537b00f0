/-! THE REFERENCE: starts (printed by m25.py) -/
noncomputable def zxfbi_zx0 : zyXp := (0, [595, 34359738369, 68719476737, 13], [], [], [], [])
noncomputable def zpfbi_z : zyPh := (0, [595, 34359738369, 68719476737, 13], [(0, 4294967295), (0, 4294967295), (0, 4294967295), (0, 4294967295)], [], [])
noncomputable def zxfbi_ax0 : zyXp := (2, [595, 34359738369, 68719476737, 0], [], [], [(34359738369, 2147483784, 2147483784)], [])
noncomputable def zpfbi_a : zyPh := (0, [595, 34359738369, 68719476737, 13], [(0, 4294967295), (2147483784, 2147483784), (0, 4294967295), (0, 4294967295)], [], [])
noncomputable def zxfbi_hx0 : zyXp := (2, [595, 34359738369, 68719476737, 103079215113], [], [(20, 0, 103079215105, 137438953473), (24, 171798691841, 75, 103079216193), (23, 0, 171798691841, 68719476737)], [(34359738369, 2147483784, 2147483784), (103079215105, 2147483648, 2147483655), (137438953473, 2147483649, 2147483656), (103079215113, 2147483649, 2147483656)], [])
noncomputable def zxfbi_hr0 : zyXp := (0, [], [103079215105], [(20, 0, 103079215105, 137438953473), (24, 171798691841, 75, 103079216193), (22, 0, 171798691841, 68719476737)], [(103079215105, 2147483648, 2147483655), (137438953473, 2147483649, 2147483656)], [])
noncomputable def zxfbi_hr1 : zyXp := (0, [], [34359738360], [(21, 0, 103079215105, 137438953473)], [(103079215105, 2147483648, 2147483656), (137438953473, 2147483648, 2147483656)], [])
noncomputable def zpfbi_h : zyPh := (2, [595, 34359738369, 68719476737, 103079215105], [(0, 4294967295), (2147483784, 2147483784), (0, 4294967295), (2147483648, 2147483656), (2147483648, 2147483656)], [(1228802, 137438953473)], [])
noncomputable def zpfbi (i : Nat) : zyPh := zif (Nat.beq i 0) (zpfbi_z) (zif (Nat.beq i 1) (zpfbi_a) (zpfbi_h))
noncomputable def zXfbi (i : Nat) : List zyXp := zif (Nat.beq i 0) ([zxfbi_zx0]) (zif (Nat.beq i 1) ([zxfbi_ax0]) ([zxfbi_hx0]))
noncomputable def zRfbi (i : Nat) : List zyXp := zif (Nat.beq i 0) ([]) (zif (Nat.beq i 1) ([]) ([zxfbi_hr0, zxfbi_hr1]))
noncomputable def zFfbi (i : Nat) : zyR := zif (Nat.beq i 0) ([]) (zif (Nat.beq i 1) ([]) ([]))
noncomputable def zSfbi (i : Nat) : Nat := zif (Nat.beq i 0) (0) (zif (Nat.beq i 1) (0) (0))
/-- which bobbin starts there -/
def xΦbi (x : Nat → Int) (E : zyEm) : Prop := x 0 = 136 ∧ 0 ≤ xE E 75 2 ∧ xE E 75 2 ≤ 8
def xΨbi (x : Nat → Int) (E _ : zyEm) (r : Int) : Prop := (r < 0 ∧ ∀ b, 0 ≤ b → b < xE E 75 2 → ¬ xE E 75 (136 + b) = x 1) ∨ (0 ≤ r ∧ r < xE E 75 2 ∧ xE E 75 (136 + r) = x 1)
noncomputable def fpfbi : zyR := []
theorem zyfbi_run : zyrS zymx zxi267 (267, 0, 0, 1, 0) 2 zpfbi (fun _ _ => []) zFfbi zSfbi zXfbi zRfbi 3 = true := by decide +kernel
theorem zyfbi_ck : zyAll (fun i => xsubR (zFfbi i) fpfbi && ((zXfbi i).all xckX && (zRfbi i).all (fun x => xckX x && xrtB true x))) 3 = true := by decide +kernel
def xIfbi (i : Nat) (x0 : Nat → Int) (E0 : zyEm) (v : Nat → Int) (E : zyEm) : Prop := if i = 0 then (E = E0 ∧ (v 1) = x0 0 ∧ (v 2) = x0 1) else if i = 1 then (E = E0 ∧ (v 1) = 136 ∧ (v 2) = x0 1) else (E = E0 ∧ (v 1) = 136 ∧ (v 2) = x0 1 ∧ (0 ≤ (v 3) ∧ (v 3) ≤ xE E0 75 2) ∧ ∀ b, 0 ≤ b → b < (v 3) → ¬ xE E0 75 (136 + b) = x0 1)
def xMfbi (i : Nat) (x0 : Nat → Int) (E0 : zyEm) (v : Nat → Int) (E : zyEm) : Nat := if i = 0 then (1000) else if i = 1 then (900) else ((100 - (v 3)).toNat)
theorem xBi {l : Launch} {en : zEn} {me : zMe} (hen : zG zxMeta 267 = some en) (hme : zG zMeth 267 = some me) : xFc l zymx en me 2 [74] 2 fpfbi true xΦbi xΨbi := by
  have een : zG zxMeta 267 = some (zxi267, 3, 4, 11, 267, 0, 0, 1, 0) := rfl
  obtain ⟨me1, hme1, hOK⟩ := zall hen
  rw [hme] at hme1
  cases hme1
  rw [een] at hen
  cases hen
  have hr := zyfbi_run
  have hck := fun i hi => zyAll_iff zyfbi_ck i hi
  simp only [Bool.and_eq_true] at hck
  intro B
  refine xcut (mi := zymx) (B := B) hOK rfl rfl (ι := Fin 3) (fun i => zpfbi i.val) (fun _ _ => []) (fun i => zFfbi i.val) (fun i => zSfbi i.val) (fun i => zXfbi i.val) (fun i => zRfbi i.val) (fun i y2 ct en2 me2 h => by cases h) 200000 (fun i => zyAll_iff hr i.val i.isLt) (fun i => (hck i.val i.isLt).1) (fun i => (hck i.val i.isLt).2.1) (fun i => (hck i.val i.isLt).2.2) ⟨0, by decide⟩ ⟨rfl, rfl, rfl, rfl⟩ ⟨by decide, by decide⟩ (fun i x0 E0 v E => xIfbi i.val x0 E0 v E) (fun i x0 E0 v E => xMfbi i.val x0 E0 v E) ?_ ?_ ?_
  · intro x0 E hx0 hT hΦ
    have hΦ : xΦbi x0 E := hΦ
    refine ⟨fun k p hp => ?_, ?_⟩
    · have hk : k < 4 := (List.getElem?_eq_some_iff.mp hp).1
      have hk : k = 0 ∨ k = 1 ∨ k = 2 ∨ k = 3 := by omega
      rcases hk with rfl | rfl | rfl | rfl
      · have hp : some (0, 4294967295) = some p := hp
        cases hp
        show ((0 : Nat) : Int) ≤ 0 + 2147483648 ∧ 0 + 2147483648 ≤ ((4294967295 : Nat) : Int)
        omega
      · have hp : some (0, 4294967295) = some p := hp
        cases hp
        show ((0 : Nat) : Int) ≤ x0 0 + 2147483648 ∧ x0 0 + 2147483648 ≤ ((4294967295 : Nat) : Int)
        have hx := hx0 0
        omega
      · have hp : some (0, 4294967295) = some p := hp
        cases hp
        show ((0 : Nat) : Int) ≤ x0 1 + 2147483648 ∧ x0 1 + 2147483648 ≤ ((4294967295 : Nat) : Int)
        have hx := hx0 1
        omega
      · have hp : some (0, 4294967295) = some p := hp
        cases hp
        show ((0 : Nat) : Int) ≤ x0 2 + 2147483648 ∧ x0 2 + 2147483648 ≤ ((4294967295 : Nat) : Int)
        have hx := hx0 2
        omega
    · show E = E ∧ (x0 0) = x0 0 ∧ (x0 1) = x0 1
      exact ⟨rfl, rfl, rfl⟩
  · intro x0 s Wg hRu hrx hT0 hΦ i v H hT hrv hInv hKc hFr0 hIH x hx ρ2 v2 N2 H2 locs lsB stA hAt hB hv hr2 hXs hag hfr hFr hT2
    rcases i with ⟨i, hi⟩
    have hi2 : i = 0 ∨ i = 1 ∨ i = 2 := by omega
    rcases hi2 with rfl | rfl | rfl
    · have hx : x ∈ [zxfbi_zx0] := hx
      have hag : ∀ k, k < 4 → v2 k = v k := hag
      have hfr : xFr [] _ _ := hfr
      have ex := List.mem_singleton.mp hx
      subst ex
      obtain ⟨hF, hBd, hM⟩ := hXs
      have r1 := hr2 1
      have r2 := hr2 2
      have g1 : v2 1 = v 1 := hag 1 (by decide)
      have g2 : v2 2 = v 2 := hag 2 (by decide)
      have e75_2 : xE (zyEl zymx B H2) 75 2 = xE (zyEl zymx B H) 75 2 := xFr_E hfr rfl
      have q75_2 : xE (zyEl zymx B H) 75 2 = xE (zyEl zymx B s.heap) 75 2 := xFr_E hFr0 rfl
      have e75 : ∀ i, xE (zyEl zymx B H2) 75 i = xE (zyEl zymx B H) 75 i := fun i => xFr_E hfr rfl
      have q75 : ∀ i, xE (zyEl zymx B H) 75 i = xE (zyEl zymx B s.heap) 75 i := fun i => xFr_E hFr0 rfl
      have hI : (zyEl zymx B H) = (zyEl zymx B s.heap) ∧ (v 1) = x0 0 ∧ (v 2) = x0 1 := hInv
      obtain ⟨hE, i1, i2⟩ := hI
      obtain ⟨hP1, hP2, hP3⟩ := (show xΦbi x0 (zyEl zymx B s.heap) from hΦ)
      refine xGo hIH hAt hB hv hFr ⟨1, by decide⟩ [0, 34359738369, 68719476737, 0] [0, (v2 1), (v2 2), 0] rfl ⟨by decide +kernel, ⟨rfl, by decide +kernel⟩, (xcs_c rfl (xcs_c rfl (xcs_c rfl (xcs_c rfl xcs_n)))), (xe_0 (xe_c (by omega) (by omega) rfl (xe_f (by omega) (xe_0 xe_n)))), xkq_n⟩ xst_n ?_ ?_
      · show (zyEl zymx B H2) = (zyEl zymx B s.heap) ∧ ((v2 1) : Int) = 136 ∧ ((v2 2) : Int) = x0 1
        exact ⟨(xFr_n hfr).trans hE, by omega, by omega⟩
      · show 900 < 1000
        omega
    · have hx : x ∈ [zxfbi_ax0] := hx
      have hag : ∀ k, k < 4 → v2 k = v k := hag
      have hfr : xFr [] _ _ := hfr
      have ex := List.mem_singleton.mp hx
      subst ex
      obtain ⟨hF, hBd, hM⟩ := hXs
      have r2 := hr2 2
      have g1 : v2 1 = v 1 := hag 1 (by decide)
      have g2 : v2 2 = v 2 := hag 2 (by decide)
      have b0 : ((2147483784 : Nat) : Int) ≤ (v2 1) + 2147483648 ∧ (v2 1) + 2147483648 ≤ ((2147483784 : Nat) : Int) := xXb hBd 0 rfl
      have e75_2 : xE (zyEl zymx B H2) 75 2 = xE (zyEl zymx B H) 75 2 := xFr_E hfr rfl
      have q75_2 : xE (zyEl zymx B H) 75 2 = xE (zyEl zymx B s.heap) 75 2 := xFr_E hFr0 rfl
      have e75 : ∀ i, xE (zyEl zymx B H2) 75 i = xE (zyEl zymx B H) 75 i := fun i => xFr_E hfr rfl
      have q75 : ∀ i, xE (zyEl zymx B H) 75 i = xE (zyEl zymx B s.heap) 75 i := fun i => xFr_E hFr0 rfl
      have hI : (zyEl zymx B H) = (zyEl zymx B s.heap) ∧ (v 1) = 136 ∧ (v 2) = x0 1 := hInv
      obtain ⟨hE, i1, i2⟩ := hI
      obtain ⟨hP1, hP2, hP3⟩ := (show xΦbi x0 (zyEl zymx B s.heap) from hΦ)
      have z75_2 : ((0 : Nat) : Int) ≤ xE (zyEl zymx B H2) 75 2 + 2147483648 ∧ xE (zyEl zymx B H2) 75 2 + 2147483648 ≤ ((4294967295 : Nat) : Int) := xTyF hT2 75 2 0 rfl rfl rfl rfl rfl rfl
      refine xGo hIH hAt hB hv hFr ⟨2, by decide⟩ [0, 34359738369, 68719476737, 0] [0, (v2 1), (v2 2), 0, xE (zyEl zymx B H2) 75 2] rfl ⟨by decide +kernel, ⟨rfl, by decide +kernel⟩, (xcs_c rfl (xcs_c rfl (xcs_c rfl (xcs_c rfl xcs_n)))), (xe_0 (xe_c (by omega) (by omega) rfl (xe_f (by omega) (xe_c (by omega) (by omega) rfl (xe_c (by omega) (by omega) rfl xe_n))))), (xkq_c hT2 75 2 (q := 0) rfl rfl rfl rfl rfl rfl rfl rfl rfl rfl rfl xkq_n)⟩ xst_n ?_ ?_
      · show (zyEl zymx B H2) = (zyEl zymx B s.heap) ∧ ((v2 1) : Int) = 136 ∧ ((v2 2) : Int) = x0 1 ∧ (0 ≤ (0 : Int) ∧ (0 : Int) ≤ xE (zyEl zymx B s.heap) 75 2) ∧ ∀ b, 0 ≤ b → b < (0 : Int) → ¬ xE (zyEl zymx B s.heap) 75 (136 + b) = x0 1
        exact ⟨(xFr_n hfr).trans hE, by omega, by omega, by omega, fun b b0 b1 => by omega⟩
      · show (100 - (0 : Int)).toNat < 900
        omega
    · have hx : x ∈ [zxfbi_hx0] := hx
      have hag : ∀ k, k < 5 → v2 k = v k := hag
      have hfr : xFr [] _ _ := hfr
      have ex := List.mem_singleton.mp hx
      subst ex
      obtain ⟨hF, hBd, hM⟩ := hXs
      have r2 := hr2 2
      have r5 := hr2 5
      have g1 : v2 1 = v 1 := hag 1 (by decide)
      have g2 : v2 2 = v 2 := hag 2 (by decide)
      have g3 : v2 3 = v 3 := hag 3 (by decide)
      have g4 : v2 4 = v 4 := hag 4 (by decide)
      have b0 : ((2147483784 : Nat) : Int) ≤ (v2 1) + 2147483648 ∧ (v2 1) + 2147483648 ≤ ((2147483784 : Nat) : Int) := xXb hBd 0 rfl
      have b1 : ((2147483648 : Nat) : Int) ≤ (v2 3) + 2147483648 ∧ (v2 3) + 2147483648 ≤ ((2147483655 : Nat) : Int) := xXb hBd 1 rfl
      have b2 : ((2147483649 : Nat) : Int) ≤ (v2 4) + 2147483648 ∧ (v2 4) + 2147483648 ≤ ((2147483656 : Nat) : Int) := xXb hBd 2 rfl
      have b3 : ((2147483649 : Nat) : Int) ≤ (v2 3 + 1) + 2147483648 ∧ (v2 3 + 1) + 2147483648 ≤ ((2147483656 : Nat) : Int) := xXb hBd 3 rfl
      have k0 : xE (zyEl zymx B H) 75 2 = v 4 := xKcf hKc 0 rfl rfl
      have f0 : (v2 3) < (v2 4) := xXf hF 0 rfl
      have f1 : (0 : Int) ≤ (v2 3 + 136) ∧ xE (zyEl zymx B H) 75 (v2 3 + 136) = (v2 5) := xXf hF 1 rfl
      have f2 : ¬ (v2 5) = (v2 2) := xXf hF 2 rfl
      have e75_2 : xE (zyEl zymx B H2) 75 2 = xE (zyEl zymx B H) 75 2 := xFr_E hfr rfl
      have q75_2 : xE (zyEl zymx B H) 75 2 = xE (zyEl zymx B s.heap) 75 2 := xFr_E hFr0 rfl
      have e75 : ∀ i, xE (zyEl zymx B H2) 75 i = xE (zyEl zymx B H) 75 i := fun i => xFr_E hfr rfl
      have q75 : ∀ i, xE (zyEl zymx B H) 75 i = xE (zyEl zymx B s.heap) 75 i := fun i => xFr_E hFr0 rfl
      have hI : (zyEl zymx B H) = (zyEl zymx B s.heap) ∧ (v 1) = 136 ∧ (v 2) = x0 1 ∧ (0 ≤ (v 3) ∧ (v 3) ≤ xE (zyEl zymx B s.heap) 75 2) ∧ ∀ b, 0 ≤ b → b < (v 3) → ¬ xE (zyEl zymx B s.heap) 75 (136 + b) = x0 1 := hInv
      obtain ⟨hE, i1, i2, i3, i4⟩ := hI
      have h752 := q75 2
      obtain ⟨hP1, hP2, hP3⟩ := (show xΦbi x0 (zyEl zymx B s.heap) from hΦ)
      have e : xE (zyEl zymx B s.heap) 75 (136 + v 3) = (v2 5) := by
        rw [← q75, show (136 : Int) + v 3 = (v2 3 + 136) by omega]
        exact f1.2
      have z75_2 : ((0 : Nat) : Int) ≤ xE (zyEl zymx B H2) 75 2 + 2147483648 ∧ xE (zyEl zymx B H2) 75 2 + 2147483648 ≤ ((4294967295 : Nat) : Int) := xTyF hT2 75 2 0 rfl rfl rfl rfl rfl rfl
      refine xGo hIH hAt hB hv hFr ⟨2, by decide⟩ [0, 34359738369, 68719476737, 103079215113] [0, (v2 1), (v2 2), (v2 3 + 1), xE (zyEl zymx B H2) 75 2] rfl ⟨by decide +kernel, ⟨rfl, by decide +kernel⟩, (xcs_c rfl (xcs_c rfl (xcs_c rfl (xcs_c rfl xcs_n)))), (xe_0 (xe_c (by omega) (by omega) rfl (xe_f (by omega) (xe_c (by omega) (by omega) rfl (xe_c (by omega) (by omega) rfl xe_n))))), (xkq_c hT2 75 2 (q := 0) rfl rfl rfl rfl rfl rfl rfl rfl rfl rfl rfl xkq_n)⟩ xst_n ?_ ?_
      · show (zyEl zymx B H2) = (zyEl zymx B s.heap) ∧ ((v2 1) : Int) = 136 ∧ ((v2 2) : Int) = x0 1 ∧ (0 ≤ ((v2 3 + 1) : Int) ∧ ((v2 3 + 1) : Int) ≤ xE (zyEl zymx B s.heap) 75 2) ∧ ∀ b, 0 ≤ b → b < ((v2 3 + 1) : Int) → ¬ xE (zyEl zymx B s.heap) 75 (136 + b) = x0 1
        refine ⟨(xFr_n hfr).trans hE, by omega, by omega, by omega, fun b b0 b1 => ?_⟩
        by_cases eb : b = v 3
        · rw [eb, e]
          omega
        · exact i4 b b0 (by omega)
      · show (100 - ((v2 3 + 1) : Int)).toNat < (100 - (v 3)).toNat
        omega
  · intro x0 E0 E E2 hrx hT0 hΦ i v hT hrv hInv hKc hFr0 x hx v2 hr2 hXs hag hfr hFr hT2
    rcases i with ⟨i, hi⟩
    have hi2 : i = 0 ∨ i = 1 ∨ i = 2 := by omega
    rcases hi2 with rfl | rfl | rfl
    · cases hx
    · cases hx
    · have hx : x ∈ [zxfbi_hr0, zxfbi_hr1] := hx
      have hag : ∀ k, k < 5 → v2 k = v k := hag
      have hfr : xFr [] _ _ := hfr
      rcases List.mem_cons.mp hx with ex | hx
      · subst ex
        obtain ⟨hF, hBd, hM⟩ := hXs
        have r2 := hr2 2
        have r5 := hr2 5
        have g1 : v2 1 = v 1 := hag 1 (by decide)
        have g2 : v2 2 = v 2 := hag 2 (by decide)
        have g3 : v2 3 = v 3 := hag 3 (by decide)
        have g4 : v2 4 = v 4 := hag 4 (by decide)
        have b0 : ((2147483648 : Nat) : Int) ≤ (v2 3) + 2147483648 ∧ (v2 3) + 2147483648 ≤ ((2147483655 : Nat) : Int) := xXb hBd 0 rfl
        have b1 : ((2147483649 : Nat) : Int) ≤ (v2 4) + 2147483648 ∧ (v2 4) + 2147483648 ≤ ((2147483656 : Nat) : Int) := xXb hBd 1 rfl
        have k0 : xE E 75 2 = v 4 := xKcf hKc 0 rfl rfl
        have f0 : (v2 3) < (v2 4) := xXf hF 0 rfl
        have f1 : (0 : Int) ≤ (v2 3 + 136) ∧ xE E 75 (v2 3 + 136) = (v2 5) := xXf hF 1 rfl
        have f2 : (v2 5) = (v2 2) := xXf hF 2 rfl
        have e75_2 : xE E2 75 2 = xE E 75 2 := xFr_E hfr rfl
        have q75_2 : xE E 75 2 = xE E0 75 2 := xFr_E hFr0 rfl
        have e75 : ∀ i, xE E2 75 i = xE E 75 i := fun i => xFr_E hfr rfl
        have q75 : ∀ i, xE E 75 i = xE E0 75 i := fun i => xFr_E hFr0 rfl
        have hI : E = E0 ∧ (v 1) = 136 ∧ (v 2) = x0 1 ∧ (0 ≤ (v 3) ∧ (v 3) ≤ xE E0 75 2) ∧ ∀ b, 0 ≤ b → b < (v 3) → ¬ xE E0 75 (136 + b) = x0 1 := hInv
        show xΨbi x0 E0 E2 (v2 3)
        obtain ⟨hE, i1, i2, i3, i4⟩ := hI
        have h752 := q75 2
        obtain ⟨hP1, hP2, hP3⟩ := (show xΦbi x0 E0 from hΦ)
        have e : xE E0 75 (136 + v 3) = (v2 5) := by
          rw [← q75, show (136 : Int) + v 3 = (v2 3 + 136) by omega]
          exact f1.2
        unfold xΨbi
        refine Or.inr ⟨by omega, by omega, ?_⟩
        rw [show (v2 3) = v 3 by omega, e]
        omega
      · skip
        have ex := List.mem_singleton.mp hx
        subst ex
        obtain ⟨hF, hBd, hM⟩ := hXs
        have g1 : v2 1 = v 1 := hag 1 (by decide)
        have g2 : v2 2 = v 2 := hag 2 (by decide)
        have g3 : v2 3 = v 3 := hag 3 (by decide)
        have g4 : v2 4 = v 4 := hag 4 (by decide)
        have b0 : ((2147483648 : Nat) : Int) ≤ (v2 3) + 2147483648 ∧ (v2 3) + 2147483648 ≤ ((2147483656 : Nat) : Int) := xXb hBd 0 rfl
        have b1 : ((2147483648 : Nat) : Int) ≤ (v2 4) + 2147483648 ∧ (v2 4) + 2147483648 ≤ ((2147483656 : Nat) : Int) := xXb hBd 1 rfl
        have k0 : xE E 75 2 = v 4 := xKcf hKc 0 rfl rfl
        have f0 : (v2 4) ≤ (v2 3) := xXf hF 0 rfl
        have e75_2 : xE E2 75 2 = xE E 75 2 := xFr_E hfr rfl
        have q75_2 : xE E 75 2 = xE E0 75 2 := xFr_E hFr0 rfl
        have e75 : ∀ i, xE E2 75 i = xE E 75 i := fun i => xFr_E hfr rfl
        have q75 : ∀ i, xE E 75 i = xE E0 75 i := fun i => xFr_E hFr0 rfl
        have hI : E = E0 ∧ (v 1) = 136 ∧ (v 2) = x0 1 ∧ (0 ≤ (v 3) ∧ (v 3) ≤ xE E0 75 2) ∧ ∀ b, 0 ≤ b → b < (v 3) → ¬ xE E0 75 (136 + b) = x0 1 := hInv
        show xΨbi x0 E0 E2 (-1)
        obtain ⟨hE, i1, i2, i3, i4⟩ := hI
        have h752 := q75 2
        obtain ⟨hP1, hP2, hP3⟩ := (show xΦbi x0 E0 from hΦ)
        unfold xΨbi
        exact Or.inl ⟨by omega, fun b b0 b1 => i4 b b0 (by omega)⟩
noncomputable def zxfit_zx0 : zyXp := (0, [595, 34359738369], [], [], [], [])
noncomputable def zpfit_z : zyPh := (0, [595, 34359738369], [(0, 4294967295), (0, 4294967295)], [], [])
noncomputable def zxfit_ax0 : zyXp := (5, [595, 34359738369], [34359738369, 1088, 595], [], [], [])
noncomputable def zpfit_a : zyPh := (0, [595, 34359738369], [(0, 4294967295), (0, 4294967295)], [], [])
noncomputable def zxfit_bx0 : zyXp := (13, [595, 34359738369], [34359738369, 595], [(20, 0, 68719476737, 0)], [(68719476737, 0, 2147483647)], [])
noncomputable def zxfit_br0 : zyXp := (0, [], [8], [(21, 0, 68719476737, 0)], [(68719476737, 2147483648, 4294967295)], [])
noncomputable def zpfit_b : zyPh := (8, [595, 34359738369], [(0, 4294967295), (0, 4294967295), (0, 4294967295)], [], [68719476737])
noncomputable def zxfit_cx0 : zyXp := (25, [595, 34359738369], [34359738369, 595, 1088, 595], [(21, 0, 68719476737, 0)], [(68719476737, 2147483648, 4294967295)], [])
noncomputable def zxfit_cr0 : zyXp := (0, [], [0], [(20, 0, 68719476737, 0)], [(68719476737, 0, 2147483647)], [])
noncomputable def zpfit_c : zyPh := (16, [595, 34359738369], [(0, 4294967295), (0, 4294967295), (0, 4294967295)], [], [68719476737])
noncomputable def zxfit_dx0 : zyXp := (28, [595, 34359738369], [103079215105, 68719476737, 595], [], [(68719476737, 2147483784, 2147483784)], [])
noncomputable def zpfit_d : zyPh := (28, [595, 34359738369], [(0, 4294967295), (0, 4294967295), (2147483784, 2147483784), (0, 4294967295)], [], [103079215105, 68719476737, 595])
noncomputable def zxfit_er0 : zyXp := (0, [], [0], [(20, 0, 68719476737, 0)], [(68719476737, 0, 2147483647)], [])
noncomputable def zxfit_er1 : zyXp := (0, [], [8], [(21, 0, 68719476737, 0)], [(68719476737, 2147483648, 4294967295)], [])
noncomputable def zpfit_e : zyPh := (31, [595, 34359738369], [(0, 4294967295), (0, 4294967295), (0, 4294967295)], [], [68719476737])
noncomputable def zpfit (i : Nat) : zyPh := zif (Nat.beq i 0) (zpfit_z) (zif (Nat.beq i 1) (zpfit_a) (zif (Nat.beq i 2) (zpfit_b) (zif (Nat.beq i 3) (zpfit_c) (zif (Nat.beq i 4) (zpfit_d) (zpfit_e)))))
noncomputable def zXfit (i : Nat) : List zyXp := zif (Nat.beq i 0) ([zxfit_zx0]) (zif (Nat.beq i 1) ([zxfit_ax0]) (zif (Nat.beq i 2) ([zxfit_bx0]) (zif (Nat.beq i 3) ([zxfit_cx0]) (zif (Nat.beq i 4) ([zxfit_dx0]) ([])))))
noncomputable def zRfit (i : Nat) : List zyXp := zif (Nat.beq i 0) ([]) (zif (Nat.beq i 1) ([]) (zif (Nat.beq i 2) ([zxfit_br0]) (zif (Nat.beq i 3) ([zxfit_cr0]) (zif (Nat.beq i 4) ([]) ([zxfit_er0, zxfit_er1])))))
noncomputable def zFfit (i : Nat) : zyR := zif (Nat.beq i 0) ([]) (zif (Nat.beq i 1) ([]) (zif (Nat.beq i 2) ([]) (zif (Nat.beq i 3) ([]) (zif (Nat.beq i 4) ([]) ([])))))
noncomputable def zSfit (i : Nat) : Nat := zif (Nat.beq i 0) (0) (zif (Nat.beq i 1) (0) (zif (Nat.beq i 2) (0) (zif (Nat.beq i 3) (0) (zif (Nat.beq i 4) (0) (0)))))
/-- is a start taken? -/
def xΦit (x : Nat → Int) (E : zyEm) : Prop := (1 ≤ xE E 75 0 ∧ xE E 75 0 ≤ 4) ∧ (1 ≤ xE E 75 1 ∧ xE E 75 1 ≤ 5) ∧ (0 ≤ x 0 ∧ x 0 < sN (xE E 75 0) (xE E 75 1)) ∧ (0 ≤ xE E 75 2 ∧ xE E 75 2 ≤ 8) ∧ ∀ b, 0 ≤ b → b < xE E 75 2 → 0 ≤ xE E 75 (136 + b)
def xΨit (x : Nat → Int) (E _ : zyEm) (r : Int) : Prop := r = if pTak (xE E 75) (x 0) (pF (xE E 75 0) (xE E 75 1) (x 0)) (xE E 75 2).toNat = true then 1 else 0
theorem pTak_iff {S : Int → Int} {s f : Int} : ∀ k : Nat, pTak S s f k = true ↔ ∃ b : Int, 0 ≤ b ∧ b < (k : Int) ∧ (S (136 + b) = s ∨ f = S (136 + b)) := by
  intro k
  induction k with
  | zero => exact ⟨fun h => (by have h : false = true := h; cases h), fun ⟨b, h1, h2, _⟩ => by omega⟩
  | succ k ih =>
    show (pTak S s f k || (decide (S (136 + (k : Int)) = s) || decide (f = S (136 + (k : Int))))) = true ↔ _
    rw [Bool.or_eq_true, Bool.or_eq_true, decide_eq_true_eq, decide_eq_true_eq, ih]
    constructor
    · rintro (⟨b, h1, h2, h3⟩ | h)
      · exact ⟨b, h1, by omega, h3⟩
      · exact ⟨k, by omega, by omega, h⟩
    · rintro ⟨b, h1, h2, h3⟩
      by_cases e : b = (k : Int)
      · rw [e] at h3
        exact Or.inr h3
      · exact Or.inl ⟨b, h1, by omega, h3⟩
theorem pTak_i {S : Int → Int} {s f m : Int} (hm : 0 ≤ m) : pTak S s f m.toNat = true ↔ ∃ b : Int, 0 ≤ b ∧ b < m ∧ (S (136 + b) = s ∨ f = S (136 + b)) := by
  rw [pTak_iff, Int.toNat_of_nonneg hm]
noncomputable def fpfit : zyR := []
theorem zyfit_run : zyrS zymx zxi273 (273, 0, 0, 2, 0) 6 zpfit (fun _ _ => []) zFfit zSfit zXfit zRfit 6 = true := by decide +kernel
theorem zyfit_ck : zyAll (fun i => xsubR (zFfit i) fpfit && ((zXfit i).all xckX && (zRfit i).all (fun x => xckX x && xrtB true x))) 6 = true := by decide +kernel
def xIfit (i : Nat) (x0 : Nat → Int) (E0 : zyEm) (v : Nat → Int) (E : zyEm) : Prop := if i = 0 then (E = E0 ∧ (v 1) = x0 0) else if i = 1 then (E = E0 ∧ (v 1) = x0 0) else if i = 2 then (E = E0 ∧ (v 1) = x0 0 ∧ (((v 2) < 0 ∧ (∀ b, 0 ≤ b → b < xE E0 75 2 → ¬ xE E0 75 (136 + b) = x0 0)) ∨ (0 ≤ (v 2) ∧ (v 2) < xE E0 75 2 ∧ xE E0 75 (136 + (v 2)) = x0 0))) else if i = 3 then (E = E0 ∧ (v 1) = x0 0 ∧ (∀ b, 0 ≤ b → b < xE E0 75 2 → ¬ xE E0 75 (136 + b) = x0 0) ∧ (v 2) = pF (xE E0 75 0) (xE E0 75 1) (x0 0)) else if i = 4 then (E = E0 ∧ (v 1) = x0 0 ∧ (∀ b, 0 ≤ b → b < xE E0 75 2 → ¬ xE E0 75 (136 + b) = x0 0) ∧ (v 2) = 136 ∧ (v 3) = pF (xE E0 75 0) (xE E0 75 1) (x0 0) ∧ 0 ≤ pF (xE E0 75 0) (xE E0 75 1) (x0 0)) else (E = E0 ∧ (∀ b, 0 ≤ b → b < xE E0 75 2 → ¬ xE E0 75 (136 + b) = x0 0) ∧ 0 ≤ pF (xE E0 75 0) (xE E0 75 1) (x0 0) ∧ (((v 2) < 0 ∧ ∀ b, 0 ≤ b → b < xE E0 75 2 → ¬ xE E0 75 (136 + b) = pF (xE E0 75 0) (xE E0 75 1) (x0 0)) ∨ (0 ≤ (v 2) ∧ (v 2) < xE E0 75 2 ∧ xE E0 75 (136 + (v 2)) = pF (xE E0 75 0) (xE E0 75 1) (x0 0))))
def xMfit (i : Nat) (x0 : Nat → Int) (E0 : zyEm) (v : Nat → Int) (E : zyEm) : Nat := if i = 0 then (9) else if i = 1 then (8) else if i = 2 then (7) else if i = 3 then (6) else if i = 4 then (5) else (4)
theorem xIt {l : Launch} {en : zEn} {me : zMe} (hen : zG zxMeta 273 = some en) (hme : zG zMeth 273 = some me) : xFc l zymx en me 6 [74] 1 fpfit true xΦit xΨit := by
  have een : zG zxMeta 273 = some (zxi273, 2, 2, 11, 273, 0, 0, 2, 0) := rfl
  obtain ⟨me1, hme1, hOK⟩ := zall hen
  rw [hme] at hme1
  cases hme1
  rw [een] at hen
  cases hen
  have hr := zyfit_run
  have hck := fun i hi => zyAll_iff zyfit_ck i hi
  simp only [Bool.and_eq_true] at hck
  obtain ⟨mefbi, hmefbi, -⟩ := zall (show zG zxMeta 267 = some (zxi267, 3, 4, 11, 267, 0, 0, 1, 0) from rfl)
  have hfbi := xBi (l := l) (show zG zxMeta 267 = some (zxi267, 3, 4, 11, 267, 0, 0, 1, 0) from rfl) hmefbi
  obtain ⟨meffa, hmeffa, -⟩ := zall (show zG zxMeta 203 = some (zxi203, 2, 3, 11, 203, 0, 0, 1, 0) from rfl)
  have hffa := xFa (l := l) (show zG zxMeta 203 = some (zxi203, 2, 3, 11, 203, 0, 0, 1, 0) from rfl) hmeffa
  intro B
  refine xcut (mi := zymx) (B := B) hOK rfl rfl (ι := Fin 6) (fun i => zpfit i.val) (fun _ _ => []) (fun i => zFfit i.val) (fun i => zSfit i.val) (fun i => zXfit i.val) (fun i => zRfit i.val) (fun i y2 ct en2 me2 h => by cases h) 200000 (fun i => zyAll_iff hr i.val i.isLt) (fun i => (hck i.val i.isLt).1) (fun i => (hck i.val i.isLt).2.1) (fun i => (hck i.val i.isLt).2.2) ⟨0, by decide⟩ ⟨rfl, rfl, rfl, rfl⟩ ⟨by decide, by decide⟩ (fun i x0 E0 v E => xIfit i.val x0 E0 v E) (fun i x0 E0 v E => xMfit i.val x0 E0 v E) ?_ ?_ ?_
  · intro x0 E hx0 hT hΦ
    have hΦ : xΦit x0 E := hΦ
    refine ⟨fun k p hp => ?_, ?_⟩
    · have hk : k < 2 := (List.getElem?_eq_some_iff.mp hp).1
      have hk : k = 0 ∨ k = 1 := by omega
      rcases hk with rfl | rfl
      · have hp : some (0, 4294967295) = some p := hp
        cases hp
        show ((0 : Nat) : Int) ≤ 0 + 2147483648 ∧ 0 + 2147483648 ≤ ((4294967295 : Nat) : Int)
        omega
      · have hp : some (0, 4294967295) = some p := hp
        cases hp
        show ((0 : Nat) : Int) ≤ x0 0 + 2147483648 ∧ x0 0 + 2147483648 ≤ ((4294967295 : Nat) : Int)
        have hx := hx0 0
        omega
    · show E = E ∧ (x0 0) = x0 0
      exact ⟨rfl, rfl⟩
  · intro x0 s Wg hRu hrx hT0 hΦ i v H hT hrv hInv hKc hFr0 hIH x hx ρ2 v2 N2 H2 locs lsB stA hAt hB hv hr2 hXs hag hfr hFr hT2
    rcases i with ⟨i, hi⟩
    have hi2 : i = 0 ∨ i = 1 ∨ i = 2 ∨ i = 3 ∨ i = 4 ∨ i = 5 := by omega
    rcases hi2 with rfl | rfl | rfl | rfl | rfl | rfl
    · have hx : x ∈ [zxfit_zx0] := hx
      have hag : ∀ k, k < 2 → v2 k = v k := hag
      have hfr : xFr [] _ _ := hfr
      have ex := List.mem_singleton.mp hx
      subst ex
      obtain ⟨hF, hBd, hM⟩ := hXs
      have r1 := hr2 1
      have g1 : v2 1 = v 1 := hag 1 (by decide)
      have e75_0 : xE (zyEl zymx B H2) 75 0 = xE (zyEl zymx B H) 75 0 := xFr_E hfr rfl
      have q75_0 : xE (zyEl zymx B H) 75 0 = xE (zyEl zymx B s.heap) 75 0 := xFr_E hFr0 rfl
      have e75_1 : xE (zyEl zymx B H2) 75 1 = xE (zyEl zymx B H) 75 1 := xFr_E hfr rfl
      have q75_1 : xE (zyEl zymx B H) 75 1 = xE (zyEl zymx B s.heap) 75 1 := xFr_E hFr0 rfl
      have e75_2 : xE (zyEl zymx B H2) 75 2 = xE (zyEl zymx B H) 75 2 := xFr_E hfr rfl
      have q75_2 : xE (zyEl zymx B H) 75 2 = xE (zyEl zymx B s.heap) 75 2 := xFr_E hFr0 rfl
      have e75 : ∀ i, xE (zyEl zymx B H2) 75 i = xE (zyEl zymx B H) 75 i := fun i => xFr_E hfr rfl
      have q75 : ∀ i, xE (zyEl zymx B H) 75 i = xE (zyEl zymx B s.heap) 75 i := fun i => xFr_E hFr0 rfl
      have hI : (zyEl zymx B H) = (zyEl zymx B s.heap) ∧ (v 1) = x0 0 := hInv
      obtain ⟨hE, i1⟩ := hI
      refine xGo hIH hAt hB hv hFr ⟨1, by decide⟩ [0, 34359738369] [0, (v2 1)] rfl ⟨by decide +kernel, ⟨rfl, by decide +kernel⟩, (xcs_c rfl (xcs_c rfl xcs_n)), (xe_0 (xe_f (by omega) xe_n)), xkq_n⟩ xst_n ?_ ?_
      · show (zyEl zymx B H2) = (zyEl zymx B s.heap) ∧ ((v2 1) : Int) = x0 0
        exact ⟨(xFr_n hfr).trans hE, by omega⟩
      · show 8 < 9
        omega
    · have hx : x ∈ [zxfit_ax0] := hx
      have hag : ∀ k, k < 2 → v2 k = v k := hag
      have hfr : xFr [] _ _ := hfr
      have ex := List.mem_singleton.mp hx
      subst ex
      obtain ⟨hF, hBd, hM⟩ := hXs
      have r1 := hr2 1
      have g1 : v2 1 = v 1 := hag 1 (by decide)
      have e75_0 : xE (zyEl zymx B H2) 75 0 = xE (zyEl zymx B H) 75 0 := xFr_E hfr rfl
      have q75_0 : xE (zyEl zymx B H) 75 0 = xE (zyEl zymx B s.heap) 75 0 := xFr_E hFr0 rfl
      have e75_1 : xE (zyEl zymx B H2) 75 1 = xE (zyEl zymx B H) 75 1 := xFr_E hfr rfl
      have q75_1 : xE (zyEl zymx B H) 75 1 = xE (zyEl zymx B s.heap) 75 1 := xFr_E hFr0 rfl
      have e75_2 : xE (zyEl zymx B H2) 75 2 = xE (zyEl zymx B H) 75 2 := xFr_E hfr rfl
      have q75_2 : xE (zyEl zymx B H) 75 2 = xE (zyEl zymx B s.heap) 75 2 := xFr_E hFr0 rfl
      have e75 : ∀ i, xE (zyEl zymx B H2) 75 i = xE (zyEl zymx B H) 75 i := fun i => xFr_E hfr rfl
      have q75 : ∀ i, xE (zyEl zymx B H) 75 i = xE (zyEl zymx B s.heap) 75 i := fun i => xFr_E hFr0 rfl
      have hI : (zyEl zymx B H) = (zyEl zymx B s.heap) ∧ (v 1) = x0 0 := hInv
      obtain ⟨hE, i1⟩ := hI
      have hEE : (zyEl zymx B H2) = (zyEl zymx B s.heap) := (xFr_n hfr).trans hE
      obtain ⟨hP1, hP2, hP3, hP4, hP5⟩ := (show xΦit x0 (zyEl zymx B s.heap) from hΦ)
      refine xCa hRu hIH hAt hB hv hFr (hfbi B) (ix := 314) (ax := 4272) rfl rfl rfl hmefbi ⟨_, rfl, rfl, by decide⟩ ⟨rfl, rfl, rfl⟩ (by decide) [1088, 34359738369] [] [136, (v2 1)] rfl ⟨rfl, rfl⟩ (by decide +kernel) (xcs_c rfl (xcs_c rfl xcs_n)) (by decide +kernel) ?_ (fun H3 r hT3 hf3 hFr3 hr3 hΨ3 => ?_)
      · show xΦbi (xfv [136, (v2 1)]) (zyEl zymx B H2)
        rw [hEE]
        exact ⟨rfl, by omega, by omega⟩
      · have hΨ3 : xΨbi (xfv [136, (v2 1)]) (zyEl zymx B H2) (zyEl zymx B H3) r := hΨ3
        have d75_0 : xE (zyEl zymx B H3) 75 0 = xE (zyEl zymx B H2) 75 0 := xFr_E hf3 rfl
        have d75_1 : xE (zyEl zymx B H3) 75 1 = xE (zyEl zymx B H2) 75 1 := xFr_E hf3 rfl
        have d75_2 : xE (zyEl zymx B H3) 75 2 = xE (zyEl zymx B H2) 75 2 := xFr_E hf3 rfl
        have d75 : ∀ i, xE (zyEl zymx B H3) 75 i = xE (zyEl zymx B H2) 75 i := fun i => xFr_E hf3 rfl
        have hg : (r < 0 ∧ ∀ b, 0 ≤ b → b < xE (zyEl zymx B H2) 75 2 → ¬ xE (zyEl zymx B H2) 75 (136 + b) = v2 1) ∨ (0 ≤ r ∧ r < xE (zyEl zymx B H2) 75 2 ∧ xE (zyEl zymx B H2) 75 (136 + r) = v2 1) := hΨ3
        rw [hEE] at hg
        have hE3 : (zyEl zymx B H3) = (zyEl zymx B s.heap) := (xFr_n hf3).trans hEE
        refine ⟨⟨2, by decide⟩, [0, 34359738369], [0, (v2 1), r], rfl, ⟨by decide +kernel, ⟨rfl, by decide +kernel⟩, (xcs_c rfl (xcs_c rfl xcs_n)), (xe_0 (xe_f (by omega) (xe_f (by omega) xe_n))), xkq_n⟩, (by rw [if_pos rfl]; exact ⟨2, [], rfl, by decide, rfl, xst_n⟩), ?_, ?_⟩
        · show (zyEl zymx B H3) = (zyEl zymx B s.heap) ∧ ((v2 1) : Int) = x0 0 ∧ (((r : Int) < 0 ∧ (∀ b, 0 ≤ b → b < xE (zyEl zymx B s.heap) 75 2 → ¬ xE (zyEl zymx B s.heap) 75 (136 + b) = x0 0)) ∨ (0 ≤ (r : Int) ∧ (r : Int) < xE (zyEl zymx B s.heap) 75 2 ∧ xE (zyEl zymx B s.heap) 75 (136 + (r : Int)) = x0 0))
          refine ⟨hE3, by omega, ?_⟩
          rw [show x0 0 = v2 1 by omega]
          exact hg
        · show 7 < 8
          omega
    · have hx : x ∈ [zxfit_bx0] := hx
      have hag : ∀ k, k < 3 → v2 k = v k := hag
      have hfr : xFr [] _ _ := hfr
      have ex := List.mem_singleton.mp hx
      subst ex
      obtain ⟨hF, hBd, hM⟩ := hXs
      have r1 := hr2 1
      have g1 : v2 1 = v 1 := hag 1 (by decide)
      have g2 : v2 2 = v 2 := hag 2 (by decide)
      have b0 : ((0 : Nat) : Int) ≤ (v2 2) + 2147483648 ∧ (v2 2) + 2147483648 ≤ ((2147483647 : Nat) : Int) := xXb hBd 0 rfl
      have f0 : (v2 2) < 0 := xXf hF 0 rfl
      have e75_0 : xE (zyEl zymx B H2) 75 0 = xE (zyEl zymx B H) 75 0 := xFr_E hfr rfl
      have q75_0 : xE (zyEl zymx B H) 75 0 = xE (zyEl zymx B s.heap) 75 0 := xFr_E hFr0 rfl
      have e75_1 : xE (zyEl zymx B H2) 75 1 = xE (zyEl zymx B H) 75 1 := xFr_E hfr rfl
      have q75_1 : xE (zyEl zymx B H) 75 1 = xE (zyEl zymx B s.heap) 75 1 := xFr_E hFr0 rfl
      have e75_2 : xE (zyEl zymx B H2) 75 2 = xE (zyEl zymx B H) 75 2 := xFr_E hfr rfl
      have q75_2 : xE (zyEl zymx B H) 75 2 = xE (zyEl zymx B s.heap) 75 2 := xFr_E hFr0 rfl
      have e75 : ∀ i, xE (zyEl zymx B H2) 75 i = xE (zyEl zymx B H) 75 i := fun i => xFr_E hfr rfl
      have q75 : ∀ i, xE (zyEl zymx B H) 75 i = xE (zyEl zymx B s.heap) 75 i := fun i => xFr_E hFr0 rfl
      have hI : (zyEl zymx B H) = (zyEl zymx B s.heap) ∧ (v 1) = x0 0 ∧ (((v 2) < 0 ∧ (∀ b, 0 ≤ b → b < xE (zyEl zymx B s.heap) 75 2 → ¬ xE (zyEl zymx B s.heap) 75 (136 + b) = x0 0)) ∨ (0 ≤ (v 2) ∧ (v 2) < xE (zyEl zymx B s.heap) 75 2 ∧ xE (zyEl zymx B s.heap) 75 (136 + (v 2)) = x0 0)) := hInv
      obtain ⟨hE, i1, i2⟩ := hI
      have hEE : (zyEl zymx B H2) = (zyEl zymx B s.heap) := (xFr_n hfr).trans hE
      obtain ⟨hP1, hP2, hP3, hP4, hP5⟩ := (show xΦit x0 (zyEl zymx B s.heap) from hΦ)
      have i3 : (∀ b, 0 ≤ b → b < xE (zyEl zymx B s.heap) 75 2 → ¬ xE (zyEl zymx B s.heap) 75 (136 + b) = x0 0) := by
        rcases i2 with ⟨h1, h2⟩ | ⟨h1, h2, h3⟩
        · exact h2
        · exfalso
          omega
      refine xCa hRu hIH hAt hB hv hFr (hffa B) (ix := 145) (ax := 3248) rfl rfl rfl hmeffa ⟨_, rfl, rfl, by decide⟩ ⟨rfl, rfl, rfl⟩ (by decide) [34359738369] [] [(v2 1)] rfl ⟨rfl, rfl⟩ (by decide +kernel) (xcs_c rfl xcs_n) (by decide +kernel) ?_ (fun H3 r hT3 hf3 hFr3 hr3 hΨ3 => ?_)
      · show xΦfa (xfv [(v2 1)]) (zyEl zymx B H2)
        rw [hEE]
        exact ⟨hP1, hP2, by show 0 ≤ v2 1; omega, by show v2 1 < _; omega⟩
      · have hΨ3 : xΨfa (xfv [(v2 1)]) (zyEl zymx B H2) (zyEl zymx B H3) r := hΨ3
        have d75_0 : xE (zyEl zymx B H3) 75 0 = xE (zyEl zymx B H2) 75 0 := xFr_E hf3 rfl
        have d75_1 : xE (zyEl zymx B H3) 75 1 = xE (zyEl zymx B H2) 75 1 := xFr_E hf3 rfl
        have d75_2 : xE (zyEl zymx B H3) 75 2 = xE (zyEl zymx B H2) 75 2 := xFr_E hf3 rfl
        have d75 : ∀ i, xE (zyEl zymx B H3) 75 i = xE (zyEl zymx B H2) 75 i := fun i => xFr_E hf3 rfl
        have hr : r = pF (xE (zyEl zymx B H2) 75 0) (xE (zyEl zymx B H2) 75 1) (v2 1) := hΨ3
        have hE3 : (zyEl zymx B H3) = (zyEl zymx B s.heap) := (xFr_n hf3).trans hEE
        refine ⟨⟨3, by decide⟩, [0, 34359738369], [0, (v2 1), r], rfl, ⟨by decide +kernel, ⟨rfl, by decide +kernel⟩, (xcs_c rfl (xcs_c rfl xcs_n)), (xe_0 (xe_f (by omega) (xe_f (by omega) xe_n))), xkq_n⟩, (by rw [if_pos rfl]; exact ⟨2, [], rfl, by decide, rfl, xst_n⟩), ?_, ?_⟩
        · show (zyEl zymx B H3) = (zyEl zymx B s.heap) ∧ ((v2 1) : Int) = x0 0 ∧ (∀ b, 0 ≤ b → b < xE (zyEl zymx B s.heap) 75 2 → ¬ xE (zyEl zymx B s.heap) 75 (136 + b) = x0 0) ∧ (r : Int) = pF (xE (zyEl zymx B s.heap) 75 0) (xE (zyEl zymx B s.heap) 75 1) (x0 0)
          refine ⟨hE3, by omega, i3, ?_⟩
          rw [hr, hEE, show v2 1 = x0 0 by omega]
        · show 6 < 7
          omega
    · have hx : x ∈ [zxfit_cx0] := hx
      have hag : ∀ k, k < 3 → v2 k = v k := hag
      have hfr : xFr [] _ _ := hfr
      have ex := List.mem_singleton.mp hx
      subst ex
      obtain ⟨hF, hBd, hM⟩ := hXs
      have r1 := hr2 1
      have g1 : v2 1 = v 1 := hag 1 (by decide)
      have g2 : v2 2 = v 2 := hag 2 (by decide)
      have b0 : ((2147483648 : Nat) : Int) ≤ (v2 2) + 2147483648 ∧ (v2 2) + 2147483648 ≤ ((4294967295 : Nat) : Int) := xXb hBd 0 rfl
      have f0 : 0 ≤ (v2 2) := xXf hF 0 rfl
      have e75_0 : xE (zyEl zymx B H2) 75 0 = xE (zyEl zymx B H) 75 0 := xFr_E hfr rfl
      have q75_0 : xE (zyEl zymx B H) 75 0 = xE (zyEl zymx B s.heap) 75 0 := xFr_E hFr0 rfl
      have e75_1 : xE (zyEl zymx B H2) 75 1 = xE (zyEl zymx B H) 75 1 := xFr_E hfr rfl
      have q75_1 : xE (zyEl zymx B H) 75 1 = xE (zyEl zymx B s.heap) 75 1 := xFr_E hFr0 rfl
      have e75_2 : xE (zyEl zymx B H2) 75 2 = xE (zyEl zymx B H) 75 2 := xFr_E hfr rfl
      have q75_2 : xE (zyEl zymx B H) 75 2 = xE (zyEl zymx B s.heap) 75 2 := xFr_E hFr0 rfl
      have e75 : ∀ i, xE (zyEl zymx B H2) 75 i = xE (zyEl zymx B H) 75 i := fun i => xFr_E hfr rfl
      have q75 : ∀ i, xE (zyEl zymx B H) 75 i = xE (zyEl zymx B s.heap) 75 i := fun i => xFr_E hFr0 rfl
      have hI : (zyEl zymx B H) = (zyEl zymx B s.heap) ∧ (v 1) = x0 0 ∧ (∀ b, 0 ≤ b → b < xE (zyEl zymx B s.heap) 75 2 → ¬ xE (zyEl zymx B s.heap) 75 (136 + b) = x0 0) ∧ (v 2) = pF (xE (zyEl zymx B s.heap) 75 0) (xE (zyEl zymx B s.heap) 75 1) (x0 0) := hInv
      obtain ⟨hE, i1, i2, i3⟩ := hI
      have hEE : (zyEl zymx B H2) = (zyEl zymx B s.heap) := (xFr_n hfr).trans hE
      obtain ⟨hP1, hP2, hP3, hP4, hP5⟩ := (show xΦit x0 (zyEl zymx B s.heap) from hΦ)
      refine xCa hRu hIH hAt hB hv hFr (hffa B) (ix := 145) (ax := 3248) rfl rfl rfl hmeffa ⟨_, rfl, rfl, by decide⟩ ⟨rfl, rfl, rfl⟩ (by decide) [34359738369] [1088, 595] [(v2 1)] rfl ⟨rfl, rfl⟩ (by decide +kernel) (xcs_c rfl xcs_n) (by decide +kernel) ?_ (fun H3 r hT3 hf3 hFr3 hr3 hΨ3 => ?_)
      · show xΦfa (xfv [(v2 1)]) (zyEl zymx B H2)
        rw [hEE]
        exact ⟨hP1, hP2, by show 0 ≤ v2 1; omega, by show v2 1 < _; omega⟩
      · have hΨ3 : xΨfa (xfv [(v2 1)]) (zyEl zymx B H2) (zyEl zymx B H3) r := hΨ3
        have d75_0 : xE (zyEl zymx B H3) 75 0 = xE (zyEl zymx B H2) 75 0 := xFr_E hf3 rfl
        have d75_1 : xE (zyEl zymx B H3) 75 1 = xE (zyEl zymx B H2) 75 1 := xFr_E hf3 rfl
        have d75_2 : xE (zyEl zymx B H3) 75 2 = xE (zyEl zymx B H2) 75 2 := xFr_E hf3 rfl
        have d75 : ∀ i, xE (zyEl zymx B H3) 75 i = xE (zyEl zymx B H2) 75 i := fun i => xFr_E hf3 rfl
        have hr : r = pF (xE (zyEl zymx B H2) 75 0) (xE (zyEl zymx B H2) 75 1) (v2 1) := hΨ3
        rw [hEE, show v2 1 = x0 0 by omega] at hr
        have hE3 : (zyEl zymx B H3) = (zyEl zymx B s.heap) := (xFr_n hf3).trans hEE
        refine ⟨⟨4, by decide⟩, [0, 34359738369], [0, (v2 1), 136, r], rfl, ⟨by decide +kernel, ⟨rfl, by decide +kernel⟩, (xcs_c rfl (xcs_c rfl xcs_n)), (xe_0 (xe_f (by omega) (xe_c (by omega) (by omega) rfl (xe_f (by omega) xe_n)))), xkq_n⟩, (by rw [if_pos rfl]; exact ⟨3, [68719476737, 595], rfl, by decide, rfl, (xst_s 2 rfl rfl rfl (by decide +kernel) rfl (xst_r rfl xst_n))⟩), ?_, ?_⟩
        · show (zyEl zymx B H3) = (zyEl zymx B s.heap) ∧ ((v2 1) : Int) = x0 0 ∧ (∀ b, 0 ≤ b → b < xE (zyEl zymx B s.heap) 75 2 → ¬ xE (zyEl zymx B s.heap) 75 (136 + b) = x0 0) ∧ (136 : Int) = 136 ∧ (r : Int) = pF (xE (zyEl zymx B s.heap) 75 0) (xE (zyEl zymx B s.heap) 75 1) (x0 0) ∧ 0 ≤ pF (xE (zyEl zymx B s.heap) 75 0) (xE (zyEl zymx B s.heap) 75 1) (x0 0)
          exact ⟨hE3, by omega, i2, rfl, hr, by omega⟩
        · show 5 < 6
          omega
    · have hx : x ∈ [zxfit_dx0] := hx
      have hag : ∀ k, k < 4 → v2 k = v k := hag
      have hfr : xFr [] _ _ := hfr
      have ex := List.mem_singleton.mp hx
      subst ex
      obtain ⟨hF, hBd, hM⟩ := hXs
      have r1 := hr2 1
      have r3 := hr2 3
      have g1 : v2 1 = v 1 := hag 1 (by decide)
      have g2 : v2 2 = v 2 := hag 2 (by decide)
      have g3 : v2 3 = v 3 := hag 3 (by decide)
      have b0 : ((2147483784 : Nat) : Int) ≤ (v2 2) + 2147483648 ∧ (v2 2) + 2147483648 ≤ ((2147483784 : Nat) : Int) := xXb hBd 0 rfl
      have e75_0 : xE (zyEl zymx B H2) 75 0 = xE (zyEl zymx B H) 75 0 := xFr_E hfr rfl
      have q75_0 : xE (zyEl zymx B H) 75 0 = xE (zyEl zymx B s.heap) 75 0 := xFr_E hFr0 rfl
      have e75_1 : xE (zyEl zymx B H2) 75 1 = xE (zyEl zymx B H) 75 1 := xFr_E hfr rfl
      have q75_1 : xE (zyEl zymx B H) 75 1 = xE (zyEl zymx B s.heap) 75 1 := xFr_E hFr0 rfl
      have e75_2 : xE (zyEl zymx B H2) 75 2 = xE (zyEl zymx B H) 75 2 := xFr_E hfr rfl
      have q75_2 : xE (zyEl zymx B H) 75 2 = xE (zyEl zymx B s.heap) 75 2 := xFr_E hFr0 rfl
      have e75 : ∀ i, xE (zyEl zymx B H2) 75 i = xE (zyEl zymx B H) 75 i := fun i => xFr_E hfr rfl
      have q75 : ∀ i, xE (zyEl zymx B H) 75 i = xE (zyEl zymx B s.heap) 75 i := fun i => xFr_E hFr0 rfl
      have hI : (zyEl zymx B H) = (zyEl zymx B s.heap) ∧ (v 1) = x0 0 ∧ (∀ b, 0 ≤ b → b < xE (zyEl zymx B s.heap) 75 2 → ¬ xE (zyEl zymx B s.heap) 75 (136 + b) = x0 0) ∧ (v 2) = 136 ∧ (v 3) = pF (xE (zyEl zymx B s.heap) 75 0) (xE (zyEl zymx B s.heap) 75 1) (x0 0) ∧ 0 ≤ pF (xE (zyEl zymx B s.heap) 75 0) (xE (zyEl zymx B s.heap) 75 1) (x0 0) := hInv
      obtain ⟨hE, i1, i2, i3, i4, i5⟩ := hI
      have hEE : (zyEl zymx B H2) = (zyEl zymx B s.heap) := (xFr_n hfr).trans hE
      obtain ⟨hP1, hP2, hP3, hP4, hP5⟩ := (show xΦit x0 (zyEl zymx B s.heap) from hΦ)
      refine xCa hRu hIH hAt hB hv hFr (hfbi B) (ix := 314) (ax := 4272) rfl rfl rfl hmefbi ⟨_, rfl, rfl, by decide⟩ ⟨rfl, rfl, rfl⟩ (by decide) [68719476737, 103079215105] [] [(v2 2), (v2 3)] rfl ⟨rfl, rfl⟩ (by decide +kernel) (xcs_c rfl (xcs_c rfl xcs_n)) (by decide +kernel) ?_ (fun H3 r hT3 hf3 hFr3 hr3 hΨ3 => ?_)
      · show xΦbi (xfv [(v2 2), (v2 3)]) (zyEl zymx B H2)
        rw [hEE]
        exact ⟨by show (v2 2) = 136; omega, by omega, by omega⟩
      · have hΨ3 : xΨbi (xfv [(v2 2), (v2 3)]) (zyEl zymx B H2) (zyEl zymx B H3) r := hΨ3
        have d75_0 : xE (zyEl zymx B H3) 75 0 = xE (zyEl zymx B H2) 75 0 := xFr_E hf3 rfl
        have d75_1 : xE (zyEl zymx B H3) 75 1 = xE (zyEl zymx B H2) 75 1 := xFr_E hf3 rfl
        have d75_2 : xE (zyEl zymx B H3) 75 2 = xE (zyEl zymx B H2) 75 2 := xFr_E hf3 rfl
        have d75 : ∀ i, xE (zyEl zymx B H3) 75 i = xE (zyEl zymx B H2) 75 i := fun i => xFr_E hf3 rfl
        have hg : (r < 0 ∧ ∀ b, 0 ≤ b → b < xE (zyEl zymx B H2) 75 2 → ¬ xE (zyEl zymx B H2) 75 (136 + b) = (v2 3)) ∨ (0 ≤ r ∧ r < xE (zyEl zymx B H2) 75 2 ∧ xE (zyEl zymx B H2) 75 (136 + r) = (v2 3)) := hΨ3
        rw [hEE] at hg
        have hE3 : (zyEl zymx B H3) = (zyEl zymx B s.heap) := (xFr_n hf3).trans hEE
        refine ⟨⟨5, by decide⟩, [0, 34359738369], [0, (v2 1), r], rfl, ⟨by decide +kernel, ⟨rfl, by decide +kernel⟩, (xcs_c rfl (xcs_c rfl xcs_n)), (xe_0 (xe_f (by omega) (xe_f (by omega) xe_n))), xkq_n⟩, (by rw [if_pos rfl]; exact ⟨2, [], rfl, by decide, rfl, xst_n⟩), ?_, ?_⟩
        · show (zyEl zymx B H3) = (zyEl zymx B s.heap) ∧ (∀ b, 0 ≤ b → b < xE (zyEl zymx B s.heap) 75 2 → ¬ xE (zyEl zymx B s.heap) 75 (136 + b) = x0 0) ∧ 0 ≤ pF (xE (zyEl zymx B s.heap) 75 0) (xE (zyEl zymx B s.heap) 75 1) (x0 0) ∧ (((r : Int) < 0 ∧ ∀ b, 0 ≤ b → b < xE (zyEl zymx B s.heap) 75 2 → ¬ xE (zyEl zymx B s.heap) 75 (136 + b) = pF (xE (zyEl zymx B s.heap) 75 0) (xE (zyEl zymx B s.heap) 75 1) (x0 0)) ∨ (0 ≤ (r : Int) ∧ (r : Int) < xE (zyEl zymx B s.heap) 75 2 ∧ xE (zyEl zymx B s.heap) 75 (136 + (r : Int)) = pF (xE (zyEl zymx B s.heap) 75 0) (xE (zyEl zymx B s.heap) 75 1) (x0 0)))
          refine ⟨hE3, i2, i5, ?_⟩
          rw [← i4, show v 3 = (v2 3) by omega]
          exact hg
        · show 4 < 5
          omega
    · cases hx
  · intro x0 E0 E E2 hrx hT0 hΦ i v hT hrv hInv hKc hFr0 x hx v2 hr2 hXs hag hfr hFr hT2
    rcases i with ⟨i, hi⟩
    have hi2 : i = 0 ∨ i = 1 ∨ i = 2 ∨ i = 3 ∨ i = 4 ∨ i = 5 := by omega
    rcases hi2 with rfl | rfl | rfl | rfl | rfl | rfl
    · cases hx
    · cases hx
    · have hx : x ∈ [zxfit_br0] := hx
      have hag : ∀ k, k < 3 → v2 k = v k := hag
      have hfr : xFr [] _ _ := hfr
      have ex := List.mem_singleton.mp hx
      subst ex
      obtain ⟨hF, hBd, hM⟩ := hXs
      have g1 : v2 1 = v 1 := hag 1 (by decide)
      have g2 : v2 2 = v 2 := hag 2 (by decide)
      have b0 : ((2147483648 : Nat) : Int) ≤ (v2 2) + 2147483648 ∧ (v2 2) + 2147483648 ≤ ((4294967295 : Nat) : Int) := xXb hBd 0 rfl
      have f0 : 0 ≤ (v2 2) := xXf hF 0 rfl
      have e75_0 : xE E2 75 0 = xE E 75 0 := xFr_E hfr rfl
      have q75_0 : xE E 75 0 = xE E0 75 0 := xFr_E hFr0 rfl
      have e75_1 : xE E2 75 1 = xE E 75 1 := xFr_E hfr rfl
      have q75_1 : xE E 75 1 = xE E0 75 1 := xFr_E hFr0 rfl
      have e75_2 : xE E2 75 2 = xE E 75 2 := xFr_E hfr rfl
      have q75_2 : xE E 75 2 = xE E0 75 2 := xFr_E hFr0 rfl
      have e75 : ∀ i, xE E2 75 i = xE E 75 i := fun i => xFr_E hfr rfl
      have q75 : ∀ i, xE E 75 i = xE E0 75 i := fun i => xFr_E hFr0 rfl
      have hI : E = E0 ∧ (v 1) = x0 0 ∧ (((v 2) < 0 ∧ (∀ b, 0 ≤ b → b < xE E0 75 2 → ¬ xE E0 75 (136 + b) = x0 0)) ∨ (0 ≤ (v 2) ∧ (v 2) < xE E0 75 2 ∧ xE E0 75 (136 + (v 2)) = x0 0)) := hInv
      show xΨit x0 E0 E2 1
      obtain ⟨hE, i1, i2⟩ := hI
      have hEE : E2 = E0 := (xFr_n hfr).trans hE
      obtain ⟨hP1, hP2, hP3, hP4, hP5⟩ := (show xΦit x0 E0 from hΦ)
      unfold xΨit
      rw [if_pos ((pTak_i (by omega)).mpr ?_)]
      rcases i2 with ⟨h1, h2⟩ | ⟨h1, h2, h3⟩
      · exfalso
        omega
      · exact ⟨v 2, h1, h2, Or.inl h3⟩
    · have hx : x ∈ [zxfit_cr0] := hx
      have hag : ∀ k, k < 3 → v2 k = v k := hag
      have hfr : xFr [] _ _ := hfr
      have ex := List.mem_singleton.mp hx
      subst ex
      obtain ⟨hF, hBd, hM⟩ := hXs
      have g1 : v2 1 = v 1 := hag 1 (by decide)
      have g2 : v2 2 = v 2 := hag 2 (by decide)
      have b0 : ((0 : Nat) : Int) ≤ (v2 2) + 2147483648 ∧ (v2 2) + 2147483648 ≤ ((2147483647 : Nat) : Int) := xXb hBd 0 rfl
      have f0 : (v2 2) < 0 := xXf hF 0 rfl
      have e75_0 : xE E2 75 0 = xE E 75 0 := xFr_E hfr rfl
      have q75_0 : xE E 75 0 = xE E0 75 0 := xFr_E hFr0 rfl
      have e75_1 : xE E2 75 1 = xE E 75 1 := xFr_E hfr rfl
      have q75_1 : xE E 75 1 = xE E0 75 1 := xFr_E hFr0 rfl
      have e75_2 : xE E2 75 2 = xE E 75 2 := xFr_E hfr rfl
      have q75_2 : xE E 75 2 = xE E0 75 2 := xFr_E hFr0 rfl
      have e75 : ∀ i, xE E2 75 i = xE E 75 i := fun i => xFr_E hfr rfl
      have q75 : ∀ i, xE E 75 i = xE E0 75 i := fun i => xFr_E hFr0 rfl
      have hI : E = E0 ∧ (v 1) = x0 0 ∧ (∀ b, 0 ≤ b → b < xE E0 75 2 → ¬ xE E0 75 (136 + b) = x0 0) ∧ (v 2) = pF (xE E0 75 0) (xE E0 75 1) (x0 0) := hInv
      show xΨit x0 E0 E2 0
      obtain ⟨hE, i1, i2, i3⟩ := hI
      have hEE : E2 = E0 := (xFr_n hfr).trans hE
      obtain ⟨hP1, hP2, hP3, hP4, hP5⟩ := (show xΦit x0 E0 from hΦ)
      unfold xΨit
      rw [if_neg (fun z => ?_)]
      obtain ⟨b, b0, b1, b2⟩ := (pTak_i (by omega)).mp z
      have b3 := hP5 b b0 b1
      rcases b2 with b2 | b2
      · exact i2 b b0 b1 b2
      · omega
    · cases hx
    · have hx : x ∈ [zxfit_er0, zxfit_er1] := hx
      have hag : ∀ k, k < 3 → v2 k = v k := hag
      have hfr : xFr [] _ _ := hfr
      rcases List.mem_cons.mp hx with ex | hx
      · subst ex
        obtain ⟨hF, hBd, hM⟩ := hXs
        have g1 : v2 1 = v 1 := hag 1 (by decide)
        have g2 : v2 2 = v 2 := hag 2 (by decide)
        have b0 : ((0 : Nat) : Int) ≤ (v2 2) + 2147483648 ∧ (v2 2) + 2147483648 ≤ ((2147483647 : Nat) : Int) := xXb hBd 0 rfl
        have f0 : (v2 2) < 0 := xXf hF 0 rfl
        have e75_0 : xE E2 75 0 = xE E 75 0 := xFr_E hfr rfl
        have q75_0 : xE E 75 0 = xE E0 75 0 := xFr_E hFr0 rfl
        have e75_1 : xE E2 75 1 = xE E 75 1 := xFr_E hfr rfl
        have q75_1 : xE E 75 1 = xE E0 75 1 := xFr_E hFr0 rfl
        have e75_2 : xE E2 75 2 = xE E 75 2 := xFr_E hfr rfl
        have q75_2 : xE E 75 2 = xE E0 75 2 := xFr_E hFr0 rfl
        have e75 : ∀ i, xE E2 75 i = xE E 75 i := fun i => xFr_E hfr rfl
        have q75 : ∀ i, xE E 75 i = xE E0 75 i := fun i => xFr_E hFr0 rfl
        have hI : E = E0 ∧ (∀ b, 0 ≤ b → b < xE E0 75 2 → ¬ xE E0 75 (136 + b) = x0 0) ∧ 0 ≤ pF (xE E0 75 0) (xE E0 75 1) (x0 0) ∧ (((v 2) < 0 ∧ ∀ b, 0 ≤ b → b < xE E0 75 2 → ¬ xE E0 75 (136 + b) = pF (xE E0 75 0) (xE E0 75 1) (x0 0)) ∨ (0 ≤ (v 2) ∧ (v 2) < xE E0 75 2 ∧ xE E0 75 (136 + (v 2)) = pF (xE E0 75 0) (xE E0 75 1) (x0 0))) := hInv
        show xΨit x0 E0 E2 0
        obtain ⟨hE, i2, i3, i4⟩ := hI
        obtain ⟨hP1, hP2, hP3, hP4, hP5⟩ := (show xΦit x0 E0 from hΦ)
        unfold xΨit
        rcases i4 with ⟨h1, h2⟩ | ⟨h1, h2, h3⟩
        · first
            | (exfalso; omega)
            | (refine Eq.symm (if_neg fun z => ?_)
               obtain ⟨b, b0, b1, b2⟩ := (pTak_i (by omega)).mp z
               rcases b2 with b2 | b2
               · exact i2 b b0 b1 b2
               · exact h2 b b0 b1 b2.symm)
        · first
            | (exfalso; omega)
            | exact (if_pos ((pTak_i (by omega)).mpr ⟨v 2, h1, h2, Or.inr h3.symm⟩)).symm
      · skip
        have ex := List.mem_singleton.mp hx
        subst ex
        obtain ⟨hF, hBd, hM⟩ := hXs
        have g1 : v2 1 = v 1 := hag 1 (by decide)
        have g2 : v2 2 = v 2 := hag 2 (by decide)
        have b0 : ((2147483648 : Nat) : Int) ≤ (v2 2) + 2147483648 ∧ (v2 2) + 2147483648 ≤ ((4294967295 : Nat) : Int) := xXb hBd 0 rfl
        have f0 : 0 ≤ (v2 2) := xXf hF 0 rfl
        have e75_0 : xE E2 75 0 = xE E 75 0 := xFr_E hfr rfl
        have q75_0 : xE E 75 0 = xE E0 75 0 := xFr_E hFr0 rfl
        have e75_1 : xE E2 75 1 = xE E 75 1 := xFr_E hfr rfl
        have q75_1 : xE E 75 1 = xE E0 75 1 := xFr_E hFr0 rfl
        have e75_2 : xE E2 75 2 = xE E 75 2 := xFr_E hfr rfl
        have q75_2 : xE E 75 2 = xE E0 75 2 := xFr_E hFr0 rfl
        have e75 : ∀ i, xE E2 75 i = xE E 75 i := fun i => xFr_E hfr rfl
        have q75 : ∀ i, xE E 75 i = xE E0 75 i := fun i => xFr_E hFr0 rfl
        have hI : E = E0 ∧ (∀ b, 0 ≤ b → b < xE E0 75 2 → ¬ xE E0 75 (136 + b) = x0 0) ∧ 0 ≤ pF (xE E0 75 0) (xE E0 75 1) (x0 0) ∧ (((v 2) < 0 ∧ ∀ b, 0 ≤ b → b < xE E0 75 2 → ¬ xE E0 75 (136 + b) = pF (xE E0 75 0) (xE E0 75 1) (x0 0)) ∨ (0 ≤ (v 2) ∧ (v 2) < xE E0 75 2 ∧ xE E0 75 (136 + (v 2)) = pF (xE E0 75 0) (xE E0 75 1) (x0 0))) := hInv
        show xΨit x0 E0 E2 1
        obtain ⟨hE, i2, i3, i4⟩ := hI
        obtain ⟨hP1, hP2, hP3, hP4, hP5⟩ := (show xΦit x0 E0 from hΦ)
        unfold xΨit
        rcases i4 with ⟨h1, h2⟩ | ⟨h1, h2, h3⟩
        · first
            | (exfalso; omega)
            | (refine Eq.symm (if_neg fun z => ?_)
               obtain ⟨b, b0, b1, b2⟩ := (pTak_i (by omega)).mp z
               rcases b2 with b2 | b2
               · exact i2 b b0 b1 b2
               · exact h2 b b0 b1 b2.symm)
        · first
            | (exfalso; omega)
            | exact (if_pos ((pTak_i (by omega)).mpr ⟨v 2, h1, h2, Or.inr h3.symm⟩)).symm
noncomputable def zxfcn_zx0 : zyXp := (0, [595, 34359738369, 13], [], [], [], [])
noncomputable def zpfcn_z : zyPh := (0, [595, 34359738369, 13], [(0, 4294967295), (0, 4294967295), (0, 4294967295)], [], [])
noncomputable def zxfcn_ax0 : zyXp := (17, [595, 34359738369, 103079215105], [34359738369, 103079216193, 603], [], [(103079215105, 2147483648, 2147483655), (103079216193, 2147483784, 2147483791)], [])
noncomputable def zpfcn_a : zyPh := (0, [595, 34359738369, 13], [(0, 4294967295), (0, 4294967295), (0, 4294967295), (2147483648, 2147483655)], [(1228802, 103079215105)], [])
noncomputable def zxfcn_bx0 : zyXp := (28, [595, 34359738369, 68719476737], [34359738369, 68719477889, 603], [], [(68719476737, 2147483648, 2147483655), (68719477889, 2147483792, 2147483799)], [])
noncomputable def zpfcn_b : zyPh := (18, [595, 34359738369, 68719476737], [(0, 4294967295), (0, 4294967295), (2147483648, 2147483655)], [], [])
noncomputable def zxfcn_cx0 : zyXp := (39, [595, 13, 68719476737], [34359738360, 68719477953, 603], [], [(68719476737, 2147483648, 2147483655), (68719477953, 2147483800, 2147483807)], [])
noncomputable def zpfcn_c : zyPh := (29, [595, 13, 68719476737], [(0, 4294967295), (0, 4294967295), (2147483648, 2147483655)], [], [])
noncomputable def zxfcn_dx0 : zyXp := (49, [595, 13, 68719476737], [103079215113, 16, 603], [], [(68719476737, 2147483648, 2147483655), (103079215105, 2147483648, 2147483655), (103079215113, 2147483649, 2147483656)], [])
noncomputable def zpfcn_d : zyPh := (40, [595, 13, 68719476737], [(0, 4294967295), (0, 4294967295), (2147483648, 2147483655), (2147483648, 2147483655)], [(1228802, 103079215105)], [])
noncomputable def zxfcn_er0 : zyXp := (0, [], [68719476737], [], [(68719476737, 2147483648, 2147483655)], [])
noncomputable def zpfcn_e : zyPh := (50, [595, 13, 68719476737], [(0, 4294967295), (0, 4294967295), (2147483648, 2147483655)], [], [])
noncomputable def zpfcn (i : Nat) : zyPh := zif (Nat.beq i 0) (zpfcn_z) (zif (Nat.beq i 1) (zpfcn_a) (zif (Nat.beq i 2) (zpfcn_b) (zif (Nat.beq i 3) (zpfcn_c) (zif (Nat.beq i 4) (zpfcn_d) (zpfcn_e)))))
noncomputable def zXfcn (i : Nat) : List zyXp := zif (Nat.beq i 0) ([zxfcn_zx0]) (zif (Nat.beq i 1) ([zxfcn_ax0]) (zif (Nat.beq i 2) ([zxfcn_bx0]) (zif (Nat.beq i 3) ([zxfcn_cx0]) (zif (Nat.beq i 4) ([zxfcn_dx0]) ([])))))
noncomputable def zRfcn (i : Nat) : List zyXp := zif (Nat.beq i 0) ([]) (zif (Nat.beq i 1) ([]) (zif (Nat.beq i 2) ([]) (zif (Nat.beq i 3) ([]) (zif (Nat.beq i 4) ([]) ([zxfcn_er0])))))
noncomputable def zFfcn (i : Nat) : zyR := zif (Nat.beq i 0) ([]) (zif (Nat.beq i 1) ([]) (zif (Nat.beq i 2) ([]) (zif (Nat.beq i 3) ([]) (zif (Nat.beq i 4) ([]) ([])))))
noncomputable def zSfcn (i : Nat) : Nat := zif (Nat.beq i 0) (0) (zif (Nat.beq i 1) (0) (zif (Nat.beq i 2) (0) (zif (Nat.beq i 3) (0) (zif (Nat.beq i 4) (0) (0)))))
/-- a bobbin comes anew -/
def xΦcn (_ : Nat → Int) (E : zyEm) : Prop := 0 ≤ xE E 75 2 ∧ xE E 75 2 ≤ 7
def xΨcn (x : Nat → Int) (E E2 : zyEm) (_ : Int) : Prop := ∀ k, 0 ≤ k → xE E2 75 k = pNew (xE E 75) (x 0) k
noncomputable def fpfcn : zyR := [(75, 2, 2), (75, 136, 159)]
theorem zyfcn_run : zyrS zymx zxi274 (274, 0, 0, 1, 0) 2 zpfcn (fun _ _ => []) zFfcn zSfcn zXfcn zRfcn 6 = true := by decide +kernel
theorem zyfcn_ck : zyAll (fun i => xsubR (zFfcn i) fpfcn && ((zXfcn i).all xckX && (zRfcn i).all (fun x => xckX x && xrtB true x))) 6 = true := by decide +kernel
def xIfcn (i : Nat) (x0 : Nat → Int) (E0 : zyEm) (v : Nat → Int) (E : zyEm) : Prop := if i = 0 then (E = E0 ∧ (v 1) = x0 0) else if i = 1 then (E = E0 ∧ (v 1) = x0 0) else if i = 2 then ((v 1) = x0 0 ∧ (v 2) = xE E0 75 2 ∧ (∀ k, 0 ≤ k → xE E 75 k = (uS (xE E0 75) (136 + xE E0 75 2) (x0 0)) k)) else if i = 3 then ((v 2) = xE E0 75 2 ∧ (∀ k, 0 ≤ k → xE E 75 k = (uS (uS (xE E0 75) (136 + xE E0 75 2) (x0 0)) (144 + xE E0 75 2) (x0 0)) k)) else if i = 4 then ((v 2) = xE E0 75 2 ∧ (∀ k, 0 ≤ k → xE E 75 k = (uS (uS (uS (xE E0 75) (136 + xE E0 75 2) (x0 0)) (144 + xE E0 75 2) (x0 0)) (152 + xE E0 75 2) (-1)) k)) else ((∀ k, 0 ≤ k → xE E 75 k = pNew (xE E0 75) (x0 0) k))
def xMfcn (i : Nat) (x0 : Nat → Int) (E0 : zyEm) (v : Nat → Int) (E : zyEm) : Nat := if i = 0 then (9) else if i = 1 then (8) else if i = 2 then (7) else if i = 3 then (6) else if i = 4 then (5) else (4)
theorem xCn {l : Launch} {en : zEn} {me : zMe} (hen : zG zxMeta 274 = some en) (hme : zG zMeth 274 = some me) : xFc l zymx en me 2 [74] 1 fpfcn true xΦcn xΨcn := by
  have een : zG zxMeta 274 = some (zxi274, 2, 3, 11, 274, 0, 0, 1, 0) := rfl
  obtain ⟨me1, hme1, hOK⟩ := zall hen
  rw [hme] at hme1
  cases hme1
  rw [een] at hen
  cases hen
  have hr := zyfcn_run
  have hck := fun i hi => zyAll_iff zyfcn_ck i hi
  simp only [Bool.and_eq_true] at hck
  intro B
  refine xcut (mi := zymx) (B := B) hOK rfl rfl (ι := Fin 6) (fun i => zpfcn i.val) (fun _ _ => []) (fun i => zFfcn i.val) (fun i => zSfcn i.val) (fun i => zXfcn i.val) (fun i => zRfcn i.val) (fun i y2 ct en2 me2 h => by cases h) 200000 (fun i => zyAll_iff hr i.val i.isLt) (fun i => (hck i.val i.isLt).1) (fun i => (hck i.val i.isLt).2.1) (fun i => (hck i.val i.isLt).2.2) ⟨0, by decide⟩ ⟨rfl, rfl, rfl, rfl⟩ ⟨by decide, by decide⟩ (fun i x0 E0 v E => xIfcn i.val x0 E0 v E) (fun i x0 E0 v E => xMfcn i.val x0 E0 v E) ?_ ?_ ?_
  · intro x0 E hx0 hT hΦ
    have hΦ : xΦcn x0 E := hΦ
    refine ⟨fun k p hp => ?_, ?_⟩
    · have hk : k < 3 := (List.getElem?_eq_some_iff.mp hp).1
      have hk : k = 0 ∨ k = 1 ∨ k = 2 := by omega
      rcases hk with rfl | rfl | rfl
      · have hp : some (0, 4294967295) = some p := hp
        cases hp
        show ((0 : Nat) : Int) ≤ 0 + 2147483648 ∧ 0 + 2147483648 ≤ ((4294967295 : Nat) : Int)
        omega
      · have hp : some (0, 4294967295) = some p := hp
        cases hp
        show ((0 : Nat) : Int) ≤ x0 0 + 2147483648 ∧ x0 0 + 2147483648 ≤ ((4294967295 : Nat) : Int)
        have hx := hx0 0
        omega
      · have hp : some (0, 4294967295) = some p := hp
        cases hp
        show ((0 : Nat) : Int) ≤ x0 1 + 2147483648 ∧ x0 1 + 2147483648 ≤ ((4294967295 : Nat) : Int)
        have hx := hx0 1
        omega
    · show E = E ∧ (x0 0) = x0 0
      exact ⟨rfl, rfl⟩
  · intro x0 s Wg hRu hrx hT0 hΦ i v H hT hrv hInv hKc hFr0 hIH x hx ρ2 v2 N2 H2 locs lsB stA hAt hB hv hr2 hXs hag hfr hFr hT2
    rcases i with ⟨i, hi⟩
    have hi2 : i = 0 ∨ i = 1 ∨ i = 2 ∨ i = 3 ∨ i = 4 ∨ i = 5 := by omega
    rcases hi2 with rfl | rfl | rfl | rfl | rfl | rfl
    · have hx : x ∈ [zxfcn_zx0] := hx
      have hag : ∀ k, k < 3 → v2 k = v k := hag
      have hfr : xFr [] _ _ := hfr
      have ex := List.mem_singleton.mp hx
      subst ex
      obtain ⟨hF, hBd, hM⟩ := hXs
      have r1 := hr2 1
      have g1 : v2 1 = v 1 := hag 1 (by decide)
      have e75_2 : xE (zyEl zymx B H2) 75 2 = xE (zyEl zymx B H) 75 2 := xFr_E hfr rfl
      have e75 : ∀ i, xE (zyEl zymx B H2) 75 i = xE (zyEl zymx B H) 75 i := fun i => xFr_E hfr rfl
      have hI : (zyEl zymx B H) = (zyEl zymx B s.heap) ∧ (v 1) = x0 0 := hInv
      have q75_2 : xE (zyEl zymx B H) 75 2 = xE (zyEl zymx B s.heap) 75 2 := by rw [hI.1]
      have q75 : ∀ i, xE (zyEl zymx B H) 75 i = xE (zyEl zymx B s.heap) 75 i := fun i => by rw [hI.1]
      obtain ⟨hE, i1⟩ := hI
      obtain ⟨hP1, hP2⟩ := (show xΦcn x0 (zyEl zymx B s.heap) from hΦ)
      have z75_2 : ((0 : Nat) : Int) ≤ xE (zyEl zymx B H2) 75 2 + 2147483648 ∧ xE (zyEl zymx B H2) 75 2 + 2147483648 ≤ ((4294967295 : Nat) : Int) := xTyF hT2 75 2 0 rfl rfl rfl rfl rfl rfl
      refine xGo hIH hAt hB hv hFr ⟨1, by decide⟩ [0, 34359738369, 0] [0, (v2 1), 0, xE (zyEl zymx B H2) 75 2] rfl ⟨by decide +kernel, ⟨rfl, by decide +kernel⟩, (xcs_c rfl (xcs_c rfl (xcs_c rfl xcs_n))), (xe_0 (xe_f (by omega) (xe_0 (xe_c (by omega) (by omega) rfl xe_n)))), (xkq_c hT2 75 2 (q := 0) rfl rfl rfl rfl rfl rfl rfl rfl rfl rfl rfl xkq_n)⟩ xst_n ?_ ?_
      · show (zyEl zymx B H2) = (zyEl zymx B s.heap) ∧ ((v2 1) : Int) = x0 0
        exact ⟨(xFr_n hfr).trans hE, by omega⟩
      · show 8 < 9
        omega
    · have hx : x ∈ [zxfcn_ax0] := hx
      have hag : ∀ k, k < 4 → v2 k = v k := hag
      have hfr : xFr [] _ _ := hfr
      have ex := List.mem_singleton.mp hx
      subst ex
      obtain ⟨hF, hBd, hM⟩ := hXs
      have r1 := hr2 1
      have g1 : v2 1 = v 1 := hag 1 (by decide)
      have g3 : v2 3 = v 3 := hag 3 (by decide)
      have b0 : ((2147483648 : Nat) : Int) ≤ (v2 3) + 2147483648 ∧ (v2 3) + 2147483648 ≤ ((2147483655 : Nat) : Int) := xXb hBd 0 rfl
      have b1 : ((2147483784 : Nat) : Int) ≤ (v2 3 + 136) + 2147483648 ∧ (v2 3 + 136) + 2147483648 ≤ ((2147483791 : Nat) : Int) := xXb hBd 1 rfl
      have k0 : xE (zyEl zymx B H) 75 2 = v 3 := xKcf hKc 0 rfl rfl
      have e75_2 : xE (zyEl zymx B H2) 75 2 = xE (zyEl zymx B H) 75 2 := xFr_E hfr rfl
      have e75 : ∀ i, xE (zyEl zymx B H2) 75 i = xE (zyEl zymx B H) 75 i := fun i => xFr_E hfr rfl
      have hI : (zyEl zymx B H) = (zyEl zymx B s.heap) ∧ (v 1) = x0 0 := hInv
      have q75_2 : xE (zyEl zymx B H) 75 2 = xE (zyEl zymx B s.heap) 75 2 := by rw [hI.1]
      have q75 : ∀ i, xE (zyEl zymx B H) 75 i = xE (zyEl zymx B s.heap) 75 i := fun i => by rw [hI.1]
      obtain ⟨hE, i1⟩ := hI
      have h752 := q75 2
      obtain ⟨hP1, hP2⟩ := (show xΦcn x0 (zyEl zymx B s.heap) from hΦ)
      refine xSt hRu hIH hAt hB hv hFr 75 (ax := 0) 34359738369 103079216193 (v2 1) (v2 3 + 136) rfl (Or.inl ⟨rfl, rfl⟩) rfl (by decide +kernel) rfl rfl (by omega) (by show (v2 3 + 136) < ((556 : Nat) : Int); omega) (fun r hr q1 q2 => by rw [List.mem_singleton.mp hr]; exact ⟨rfl, by show ((0 : Nat) : Int) ≤ (v2 1) + 2147483648; omega, by show (v2 1) + 2147483648 ≤ ((4294967295 : Nat) : Int); omega⟩) (zyin_iff.mpr ⟨(75, 136, 159), by decide, rfl, (by show 136 ≤ Int.toNat (v2 3 + 136); omega), by show Int.toNat (v2 3 + 136) ≤ 159; omega⟩) (fun H3 hT3 hst3 hne3 hfn3 hFr3 => ?_)
      have hfe3 : ∀ (a2 : Nat) (k2 : Int), ¬ a2 = 75 → xE (zyEl zymx B H3) a2 k2 = xE (zyEl zymx B H2) a2 k2 := fun a2 k2 hne => by unfold xE; rw [hfn3 a2 k2.toNat (fun z => hne z.1)]
      skip
      refine ⟨⟨2, by decide⟩, [0, 34359738369, 103079215105], [0, (v2 1), (v2 3)], rfl, ⟨by decide +kernel, ⟨rfl, by decide +kernel⟩, (xcs_c rfl (xcs_c rfl (xcs_c rfl xcs_n))), (xe_0 (xe_f (by omega) (xe_c (by omega) (by omega) rfl xe_n))), xkq_n⟩, rfl, ?_, ?_⟩
      · show ((v2 1) : Int) = x0 0 ∧ ((v2 3) : Int) = xE (zyEl zymx B s.heap) 75 2 ∧ (∀ k, 0 ≤ k → xE (zyEl zymx B H3) 75 k = (uS (xE (zyEl zymx B s.heap) 75) (136 + xE (zyEl zymx B s.heap) 75 2) (x0 0)) k)
        refine ⟨by omega, by omega, fun k k0 => ?_⟩
        · by_cases e : k = 136 + xE (zyEl zymx B s.heap) 75 2
          · rw [uS_e e, e, show 136 + xE (zyEl zymx B s.heap) 75 2 = (v2 3 + 136) by omega, hst3] <;> omega
          · rw [uS_n e, hne3 75 k k0 (fun z => e (by omega)), e75]
            exact q75 k
      · show 7 < 8
        omega
    · have hx : x ∈ [zxfcn_bx0] := hx
      have hag : ∀ k, k < 3 → v2 k = v k := hag
      have hfr : xFr [] _ _ := hfr
      have ex := List.mem_singleton.mp hx
      subst ex
      obtain ⟨hF, hBd, hM⟩ := hXs
      have r1 := hr2 1
      have g1 : v2 1 = v 1 := hag 1 (by decide)
      have g2 : v2 2 = v 2 := hag 2 (by decide)
      have b0 : ((2147483648 : Nat) : Int) ≤ (v2 2) + 2147483648 ∧ (v2 2) + 2147483648 ≤ ((2147483655 : Nat) : Int) := xXb hBd 0 rfl
      have b1 : ((2147483792 : Nat) : Int) ≤ (v2 2 + 144) + 2147483648 ∧ (v2 2 + 144) + 2147483648 ≤ ((2147483799 : Nat) : Int) := xXb hBd 1 rfl
      have e75_2 : xE (zyEl zymx B H2) 75 2 = xE (zyEl zymx B H) 75 2 := xFr_E hfr rfl
      have e75 : ∀ i, xE (zyEl zymx B H2) 75 i = xE (zyEl zymx B H) 75 i := fun i => xFr_E hfr rfl
      have hI : (v 1) = x0 0 ∧ (v 2) = xE (zyEl zymx B s.heap) 75 2 ∧ (∀ k, 0 ≤ k → xE (zyEl zymx B H) 75 k = (uS (xE (zyEl zymx B s.heap) 75) (136 + xE (zyEl zymx B s.heap) 75 2) (x0 0)) k) := hInv
      obtain ⟨i1, i2, hc⟩ := hI
      obtain ⟨hP1, hP2⟩ := (show xΦcn x0 (zyEl zymx B s.heap) from hΦ)
      refine xSt hRu hIH hAt hB hv hFr 75 (ax := 0) 34359738369 68719477889 (v2 1) (v2 2 + 144) rfl (Or.inl ⟨rfl, rfl⟩) rfl (by decide +kernel) rfl rfl (by omega) (by show (v2 2 + 144) < ((556 : Nat) : Int); omega) (fun r hr q1 q2 => by rw [List.mem_singleton.mp hr]; exact ⟨rfl, by show ((0 : Nat) : Int) ≤ (v2 1) + 2147483648; omega, by show (v2 1) + 2147483648 ≤ ((4294967295 : Nat) : Int); omega⟩) (zyin_iff.mpr ⟨(75, 136, 159), by decide, rfl, (by show 136 ≤ Int.toNat (v2 2 + 144); omega), by show Int.toNat (v2 2 + 144) ≤ 159; omega⟩) (fun H3 hT3 hst3 hne3 hfn3 hFr3 => ?_)
      have hfe3 : ∀ (a2 : Nat) (k2 : Int), ¬ a2 = 75 → xE (zyEl zymx B H3) a2 k2 = xE (zyEl zymx B H2) a2 k2 := fun a2 k2 hne => by unfold xE; rw [hfn3 a2 k2.toNat (fun z => hne z.1)]
      skip
      refine ⟨⟨3, by decide⟩, [0, 0, 68719476737], [0, 0, (v2 2)], rfl, ⟨by decide +kernel, ⟨rfl, by decide +kernel⟩, (xcs_c rfl (xcs_c rfl (xcs_c rfl xcs_n))), (xe_0 (xe_0 (xe_c (by omega) (by omega) rfl xe_n))), xkq_n⟩, rfl, ?_, ?_⟩
      · show ((v2 2) : Int) = xE (zyEl zymx B s.heap) 75 2 ∧ (∀ k, 0 ≤ k → xE (zyEl zymx B H3) 75 k = (uS (uS (xE (zyEl zymx B s.heap) 75) (136 + xE (zyEl zymx B s.heap) 75 2) (x0 0)) (144 + xE (zyEl zymx B s.heap) 75 2) (x0 0)) k)
        refine ⟨by omega, fun k k0 => ?_⟩
        · by_cases e : k = 144 + xE (zyEl zymx B s.heap) 75 2
          · rw [uS_e e, e, show 144 + xE (zyEl zymx B s.heap) 75 2 = (v2 2 + 144) by omega, hst3] <;> omega
          · rw [uS_n e, hne3 75 k k0 (fun z => e (by omega)), e75]
            exact hc k k0
      · show 6 < 7
        omega
    · have hx : x ∈ [zxfcn_cx0] := hx
      have hag : ∀ k, k < 3 → v2 k = v k := hag
      have hfr : xFr [] _ _ := hfr
      have ex := List.mem_singleton.mp hx
      subst ex
      obtain ⟨hF, hBd, hM⟩ := hXs
      have g2 : v2 2 = v 2 := hag 2 (by decide)
      have b0 : ((2147483648 : Nat) : Int) ≤ (v2 2) + 2147483648 ∧ (v2 2) + 2147483648 ≤ ((2147483655 : Nat) : Int) := xXb hBd 0 rfl
      have b1 : ((2147483800 : Nat) : Int) ≤ (v2 2 + 152) + 2147483648 ∧ (v2 2 + 152) + 2147483648 ≤ ((2147483807 : Nat) : Int) := xXb hBd 1 rfl
      have e75_2 : xE (zyEl zymx B H2) 75 2 = xE (zyEl zymx B H) 75 2 := xFr_E hfr rfl
      have e75 : ∀ i, xE (zyEl zymx B H2) 75 i = xE (zyEl zymx B H) 75 i := fun i => xFr_E hfr rfl
      have hI : (v 2) = xE (zyEl zymx B s.heap) 75 2 ∧ (∀ k, 0 ≤ k → xE (zyEl zymx B H) 75 k = (uS (uS (xE (zyEl zymx B s.heap) 75) (136 + xE (zyEl zymx B s.heap) 75 2) (x0 0)) (144 + xE (zyEl zymx B s.heap) 75 2) (x0 0)) k) := hInv
      obtain ⟨i2, hc⟩ := hI
      have h2 := hc 2 (by decide)
      rw [uS_n (by omega), uS_n (by omega)] at h2
      obtain ⟨hP1, hP2⟩ := (show xΦcn x0 (zyEl zymx B s.heap) from hΦ)
      refine xSt hRu hIH hAt hB hv hFr 75 (ax := 0) 34359738360 68719477953 (-1) (v2 2 + 152) rfl (Or.inl ⟨rfl, rfl⟩) rfl (by decide +kernel) rfl rfl (by omega) (by show (v2 2 + 152) < ((556 : Nat) : Int); omega) (fun r hr q1 q2 => by rw [List.mem_singleton.mp hr]; exact ⟨rfl, by show ((0 : Nat) : Int) ≤ (-1) + 2147483648; omega, by show (-1) + 2147483648 ≤ ((4294967295 : Nat) : Int); omega⟩) (zyin_iff.mpr ⟨(75, 136, 159), by decide, rfl, (by show 136 ≤ Int.toNat (v2 2 + 152); omega), by show Int.toNat (v2 2 + 152) ≤ 159; omega⟩) (fun H3 hT3 hst3 hne3 hfn3 hFr3 => ?_)
      have hfe3 : ∀ (a2 : Nat) (k2 : Int), ¬ a2 = 75 → xE (zyEl zymx B H3) a2 k2 = xE (zyEl zymx B H2) a2 k2 := fun a2 k2 hne => by unfold xE; rw [hfn3 a2 k2.toNat (fun z => hne z.1)]
      have d75_2 : xE (zyEl zymx B H3) 75 2 = xE (zyEl zymx B H2) 75 2 := hne3 75 2 (by decide) (fun z => by omega)
      have z75_2 : ((0 : Nat) : Int) ≤ xE (zyEl zymx B H3) 75 2 + 2147483648 ∧ xE (zyEl zymx B H3) 75 2 + 2147483648 ≤ ((4294967295 : Nat) : Int) := xTyF hT3 75 2 0 rfl rfl rfl rfl rfl rfl
      refine ⟨⟨4, by decide⟩, [0, 0, 68719476737], [0, 0, (v2 2), xE (zyEl zymx B H3) 75 2], rfl, ⟨by decide +kernel, ⟨rfl, by decide +kernel⟩, (xcs_c rfl (xcs_c rfl (xcs_c rfl xcs_n))), (xe_0 (xe_0 (xe_c (by omega) (by omega) rfl (xe_c (by omega) (by omega) rfl xe_n)))), (xkq_c hT3 75 2 (q := 0) rfl rfl rfl rfl rfl rfl rfl rfl rfl rfl rfl xkq_n)⟩, rfl, ?_, ?_⟩
      · show ((v2 2) : Int) = xE (zyEl zymx B s.heap) 75 2 ∧ (∀ k, 0 ≤ k → xE (zyEl zymx B H3) 75 k = (uS (uS (uS (xE (zyEl zymx B s.heap) 75) (136 + xE (zyEl zymx B s.heap) 75 2) (x0 0)) (144 + xE (zyEl zymx B s.heap) 75 2) (x0 0)) (152 + xE (zyEl zymx B s.heap) 75 2) (-1)) k)
        refine ⟨by omega, fun k k0 => ?_⟩
        · by_cases e : k = 152 + xE (zyEl zymx B s.heap) 75 2
          · rw [uS_e e, e, show 152 + xE (zyEl zymx B s.heap) 75 2 = (v2 2 + 152) by omega, hst3] <;> omega
          · rw [uS_n e, hne3 75 k k0 (fun z => e (by omega)), e75]
            exact hc k k0
      · show 5 < 6
        omega
    · have hx : x ∈ [zxfcn_dx0] := hx
      have hag : ∀ k, k < 4 → v2 k = v k := hag
      have hfr : xFr [] _ _ := hfr
      have ex := List.mem_singleton.mp hx
      subst ex
      obtain ⟨hF, hBd, hM⟩ := hXs
      have g2 : v2 2 = v 2 := hag 2 (by decide)
      have g3 : v2 3 = v 3 := hag 3 (by decide)
      have b0 : ((2147483648 : Nat) : Int) ≤ (v2 2) + 2147483648 ∧ (v2 2) + 2147483648 ≤ ((2147483655 : Nat) : Int) := xXb hBd 0 rfl
      have b1 : ((2147483648 : Nat) : Int) ≤ (v2 3) + 2147483648 ∧ (v2 3) + 2147483648 ≤ ((2147483655 : Nat) : Int) := xXb hBd 1 rfl
      have b2 : ((2147483649 : Nat) : Int) ≤ (v2 3 + 1) + 2147483648 ∧ (v2 3 + 1) + 2147483648 ≤ ((2147483656 : Nat) : Int) := xXb hBd 2 rfl
      have k0 : xE (zyEl zymx B H) 75 2 = v 3 := xKcf hKc 0 rfl rfl
      have e75_2 : xE (zyEl zymx B H2) 75 2 = xE (zyEl zymx B H) 75 2 := xFr_E hfr rfl
      have e75 : ∀ i, xE (zyEl zymx B H2) 75 i = xE (zyEl zymx B H) 75 i := fun i => xFr_E hfr rfl
      have hI : (v 2) = xE (zyEl zymx B s.heap) 75 2 ∧ (∀ k, 0 ≤ k → xE (zyEl zymx B H) 75 k = (uS (uS (uS (xE (zyEl zymx B s.heap) 75) (136 + xE (zyEl zymx B s.heap) 75 2) (x0 0)) (144 + xE (zyEl zymx B s.heap) 75 2) (x0 0)) (152 + xE (zyEl zymx B s.heap) 75 2) (-1)) k) := hInv
      obtain ⟨i2, hc⟩ := hI
      obtain ⟨hP1, hP2⟩ := (show xΦcn x0 (zyEl zymx B s.heap) from hΦ)
      have h2 := hc 2 (by decide)
      rw [uS_n (by omega), uS_n (by omega), uS_n (by omega)] at h2
      refine xSt hRu hIH hAt hB hv hFr 75 (ax := 0) 103079215113 16 (v2 3 + 1) 2 rfl (Or.inl ⟨rfl, rfl⟩) rfl (by decide +kernel) rfl rfl (by omega) (by show 2 < ((556 : Nat) : Int); omega) (fun r hr q1 q2 => by rw [List.mem_singleton.mp hr]; exact ⟨rfl, by show ((0 : Nat) : Int) ≤ (v2 3 + 1) + 2147483648; omega, by show (v2 3 + 1) + 2147483648 ≤ ((4294967295 : Nat) : Int); omega⟩) (zyin_iff.mpr ⟨(75, 2, 2), by decide, rfl, (by show 2 ≤ Int.toNat 2; omega), by show Int.toNat 2 ≤ 2; omega⟩) (fun H3 hT3 hst3 hne3 hfn3 hFr3 => ?_)
      have hfe3 : ∀ (a2 : Nat) (k2 : Int), ¬ a2 = 75 → xE (zyEl zymx B H3) a2 k2 = xE (zyEl zymx B H2) a2 k2 := fun a2 k2 hne => by unfold xE; rw [hfn3 a2 k2.toNat (fun z => hne z.1)]
      skip
      refine ⟨⟨5, by decide⟩, [0, 0, 68719476737], [0, 0, (v2 2)], rfl, ⟨by decide +kernel, ⟨rfl, by decide +kernel⟩, (xcs_c rfl (xcs_c rfl (xcs_c rfl xcs_n))), (xe_0 (xe_0 (xe_c (by omega) (by omega) rfl xe_n))), xkq_n⟩, rfl, ?_, ?_⟩
      · show (∀ k, 0 ≤ k → xE (zyEl zymx B H3) 75 k = pNew (xE (zyEl zymx B s.heap) 75) (x0 0) k)
        intro k k0
        unfold pNew
        · by_cases e : k = 2
          · rw [uS_e e, e, hst3] <;> omega
          · rw [uS_n e, hne3 75 k k0 (fun z => e (by omega)), e75]
            exact hc k k0
      · show 4 < 5
        omega
    · cases hx
  · intro x0 E0 E E2 hrx hT0 hΦ i v hT hrv hInv hKc hFr0 x hx v2 hr2 hXs hag hfr hFr hT2
    rcases i with ⟨i, hi⟩
    have hi2 : i = 0 ∨ i = 1 ∨ i = 2 ∨ i = 3 ∨ i = 4 ∨ i = 5 := by omega
    rcases hi2 with rfl | rfl | rfl | rfl | rfl | rfl
    · cases hx
    · cases hx
    · cases hx
    · cases hx
    · cases hx
    · have hx : x ∈ [zxfcn_er0] := hx
      have hag : ∀ k, k < 3 → v2 k = v k := hag
      have hfr : xFr [] _ _ := hfr
      have ex := List.mem_singleton.mp hx
      subst ex
      obtain ⟨hF, hBd, hM⟩ := hXs
      have g2 : v2 2 = v 2 := hag 2 (by decide)
      have b0 : ((2147483648 : Nat) : Int) ≤ (v2 2) + 2147483648 ∧ (v2 2) + 2147483648 ≤ ((2147483655 : Nat) : Int) := xXb hBd 0 rfl
      have e75_2 : xE E2 75 2 = xE E 75 2 := xFr_E hfr rfl
      have e75 : ∀ i, xE E2 75 i = xE E 75 i := fun i => xFr_E hfr rfl
      have hI : (∀ k, 0 ≤ k → xE E 75 k = pNew (xE E0 75) (x0 0) k) := hInv
      show xΨcn x0 E0 E2 (v2 2)
      intro k k0
      have hE : E2 = E := xFr_n hfr
      rw [hE]
      exact hI k k0
