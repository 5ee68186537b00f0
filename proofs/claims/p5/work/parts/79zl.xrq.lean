/-! THE REFERENCE: is it this sign? (printed by m19.py) -/
noncomputable def zxfis_zx0 : zyXp := (0, [595, 34359738369], [], [], [], [])
noncomputable def zpfis_z : zyPh := (0, [595, 34359738369], [(0, 4294967295), (0, 4294967295)], [], [])
noncomputable def zxfis_ax0 : zyXp := (15, [595, 34359738369], [], [(22, 0, 68719476737, 0), (22, 0, 103079215105, 24)], [(68719476737, 2147483648, 2147483648), (103079215105, 2147483651, 2147483651)], [])
noncomputable def zxfis_ar0 : zyXp := (0, [], [0], [(23, 0, 68719476737, 0)], [(68719476737, 2147483649, 2147483657)], [])
noncomputable def zxfis_ar1 : zyXp := (0, [], [0], [(22, 0, 68719476737, 0), (23, 0, 103079215105, 24)], [(68719476737, 2147483648, 2147483648), (103079215105, 2147483652, 2147483652)], [])
noncomputable def zxfis_ar2 : zyXp := (0, [], [0], [(22, 0, 68719476737, 0), (23, 0, 103079215105, 24)], [(68719476737, 2147483648, 2147483648), (103079215105, 2147483648, 2147483650)], [])
noncomputable def zpfis_a : zyPh := (0, [595, 34359738369], [(0, 4294967295), (0, 4294967295), (2147483648, 2147483657), (2147483648, 2147483652)], [(1212452, 68719476737), (1212456, 103079215105)], [])
noncomputable def zxfis_br0 : zyXp := (0, [], [0], [(24, 103079215105, 84, 68719476737), (23, 0, 103079215105, 34359738369)], [(68719476737, 2147483648, 2147484547), (103079215105, 2147483520, 2147483775)], [])
noncomputable def zxfis_br1 : zyXp := (0, [], [8], [(24, 103079215105, 84, 68719476737), (22, 0, 103079215105, 34359738369)], [(68719476737, 2147483648, 2147484547), (103079215105, 2147483520, 2147483775)], [])
noncomputable def zpfis_b : zyPh := (15, [595, 34359738369], [(0, 4294967295), (0, 4294967295), (2147483648, 2147484547)], [(1212454, 68719476737)], [])
noncomputable def zpfis (i : Nat) : zyPh := zif (Nat.beq i 0) (zpfis_z) (zif (Nat.beq i 1) (zpfis_a) (zpfis_b))
noncomputable def zXfis (i : Nat) : List zyXp := zif (Nat.beq i 0) ([zxfis_zx0]) (zif (Nat.beq i 1) ([zxfis_ax0]) ([]))
noncomputable def zRfis (i : Nat) : List zyXp := zif (Nat.beq i 0) ([]) (zif (Nat.beq i 1) ([zxfis_ar0, zxfis_ar1, zxfis_ar2]) ([zxfis_br0, zxfis_br1]))
noncomputable def zFfis (i : Nat) : zyR := zif (Nat.beq i 0) ([]) (zif (Nat.beq i 1) ([]) ([]))
noncomputable def zSfis (i : Nat) : Nat := zif (Nat.beq i 0) (0) (zif (Nat.beq i 1) (0) (0))
/-- does this sign stand there? -/
def xΦis (_ : Nat → Int) (E : zyEm) : Prop := xE E 74 36 = 0 → xE E 74 40 = 3 → xE E 74 38 ≤ 899
def xΨis (x : Nat → Int) (E _ : zyEm) (r : Int) : Prop := r = if xE E 74 36 = 0 ∧ xE E 74 40 = 3 ∧ xE E 84 (xE E 74 38) = x 0 then 1 else 0
noncomputable def fpfis : zyR := []
theorem zyfis_run : zyrS zymx zxi317 (317, 0, 0, 2, 0) 2 zpfis (fun _ _ => []) zFfis zSfis zXfis zRfis 3 = true := by decide +kernel
theorem zyfis_ck : zyAll (fun i => xsubR (zFfis i) fpfis && ((zXfis i).all xckX && (zRfis i).all (fun x => xckX x && xrtB true x))) 3 = true := by decide +kernel
def xIfis (i : Nat) (x0 : Nat → Int) (E0 : zyEm) (v : Nat → Int) (E : zyEm) : Prop := if i = 0 then (E = E0 ∧ (v 1) = x0 0) else if i = 1 then (E = E0 ∧ (v 1) = x0 0) else (E = E0 ∧ (v 1) = x0 0 ∧ xE E 74 36 = 0 ∧ xE E 74 40 = 3)
def xMfis (i : Nat) (x0 : Nat → Int) (E0 : zyEm) (v : Nat → Int) (E : zyEm) : Nat := if i = 0 then (3) else if i = 1 then (2) else (1)
theorem xIs {l : Launch} {en : zEn} {me : zMe} (hen : zG zxMeta 317 = some en) (hme : zG zMeth 317 = some me) : xFc l zymx en me 2 [74] 1 fpfis true xΦis xΨis := by
  have een : zG zxMeta 317 = some (zxi317, 2, 2, 11, 317, 0, 0, 2, 0) := rfl
  obtain ⟨me1, hme1, hOK⟩ := zall hen
  rw [hme] at hme1
  cases hme1
  rw [een] at hen
  cases hen
  have hr := zyfis_run
  have hck := fun i hi => zyAll_iff zyfis_ck i hi
  simp only [Bool.and_eq_true] at hck
  intro B
  refine xcut (mi := zymx) (B := B) hOK rfl rfl (ι := Fin 3) (fun i => zpfis i.val) (fun _ _ => []) (fun i => zFfis i.val) (fun i => zSfis i.val) (fun i => zXfis i.val) (fun i => zRfis i.val) (fun i y2 ct en2 me2 h => by cases h) 200000 (fun i => zyAll_iff hr i.val i.isLt) (fun i => (hck i.val i.isLt).1) (fun i => (hck i.val i.isLt).2.1) (fun i => (hck i.val i.isLt).2.2) ⟨0, by decide⟩ ⟨rfl, rfl, rfl, rfl⟩ ⟨by decide, by decide⟩ (fun i x0 E0 v E => xIfis i.val x0 E0 v E) (fun i x0 E0 v E => xMfis i.val x0 E0 v E) ?_ ?_ ?_
  · intro x0 E hx0 hT hΦ
    have hΦ : xΦis x0 E := hΦ
    refine ⟨fun k p hp => ?_, ?_⟩
    · have hk : k < 2 := (List.getElem?_eq_some_iff.mp hp).1
      have hk : k = 0 ∨ k = 1 := by omega
      rcases hk with rfl | rfl
      · have hp : some (0, 4294967295) = some p := hp
        cases hp
        show ((0 : Nat) : Int) ≤ 0 + 2147483648 ∧ 0 + 2147483648 ≤ ((4294967295 : Nat) : Int)
        omega
      · have hp : some (0, 4294967295) = some p := hp
        cases hp
        show ((0 : Nat) : Int) ≤ x0 0 + 2147483648 ∧ x0 0 + 2147483648 ≤ ((4294967295 : Nat) : Int)
        have hx := hx0 0
        omega
    · show E = E ∧ (x0 0) = x0 0
      exact ⟨rfl, rfl⟩
  · intro x0 s Wg hRu hrx hT0 hΦ i v H hT hrv hInv hKc hFr0 hIH x hx ρ2 v2 N2 H2 locs lsB stA hAt hB hv hr2 hXs hag hfr hFr hT2
    rcases i with ⟨i, hi⟩
    have hi2 : i = 0 ∨ i = 1 ∨ i = 2 := by omega
    rcases hi2 with rfl | rfl | rfl
    · have hx : x ∈ [zxfis_zx0] := hx
      have hag : ∀ k, k < 2 → v2 k = v k := hag
      have hfr : xFr [] _ _ := hfr
      have ex := List.mem_singleton.mp hx
      subst ex
      obtain ⟨hF, hBd, hM⟩ := hXs
      have r1 := hr2 1
      have g1 : v2 1 = v 1 := hag 1 (by decide)
      have e74_36 : xE (zyEl zymx B H2) 74 36 = xE (zyEl zymx B H) 74 36 := xFr_E hfr rfl
      have q74_36 : xE (zyEl zymx B H) 74 36 = xE (zyEl zymx B s.heap) 74 36 := xFr_E hFr0 rfl
      have e74_38 : xE (zyEl zymx B H2) 74 38 = xE (zyEl zymx B H) 74 38 := xFr_E hfr rfl
      have q74_38 : xE (zyEl zymx B H) 74 38 = xE (zyEl zymx B s.heap) 74 38 := xFr_E hFr0 rfl
      have e74_40 : xE (zyEl zymx B H2) 74 40 = xE (zyEl zymx B H) 74 40 := xFr_E hfr rfl
      have q74_40 : xE (zyEl zymx B H) 74 40 = xE (zyEl zymx B s.heap) 74 40 := xFr_E hFr0 rfl
      have e84 : ∀ i, xE (zyEl zymx B H2) 84 i = xE (zyEl zymx B H) 84 i := fun i => xFr_E hfr rfl
      have q84 : ∀ i, xE (zyEl zymx B H) 84 i = xE (zyEl zymx B s.heap) 84 i := fun i => xFr_E hFr0 rfl
      have hI : (zyEl zymx B H) = (zyEl zymx B s.heap) ∧ (v 1) = x0 0 := hInv
      obtain ⟨hE, i1⟩ := hI
      have z74_36 : ((2147483648 : Nat) : Int) ≤ xE (zyEl zymx B H2) 74 36 + 2147483648 ∧ xE (zyEl zymx B H2) 74 36 + 2147483648 ≤ ((2147483657 : Nat) : Int) := xTyF hT2 74 36 36 rfl rfl rfl rfl rfl rfl
      have z74_40 : ((2147483648 : Nat) : Int) ≤ xE (zyEl zymx B H2) 74 40 + 2147483648 ∧ xE (zyEl zymx B H2) 74 40 + 2147483648 ≤ ((2147483652 : Nat) : Int) := xTyF hT2 74 40 40 rfl rfl rfl rfl rfl rfl
      refine xGo hIH hAt hB hv hFr ⟨1, by decide⟩ [0, 34359738369] [0, (v2 1), xE (zyEl zymx B H2) 74 36, xE (zyEl zymx B H2) 74 40] rfl ⟨by decide +kernel, ⟨rfl, by decide +kernel⟩, (xcs_c rfl (xcs_c rfl xcs_n)), (xe_0 (xe_f (by omega) (xe_c (by omega) (by omega) rfl (xe_c (by omega) (by omega) rfl xe_n)))), (xkq_c hT2 74 36 (q := 36) rfl rfl rfl rfl rfl rfl rfl rfl rfl rfl rfl (xkq_c hT2 74 40 (q := 40) rfl rfl rfl rfl rfl rfl rfl rfl rfl rfl rfl xkq_n))⟩ xst_n ?_ ?_
      · show (zyEl zymx B H2) = (zyEl zymx B s.heap) ∧ ((v2 1) : Int) = x0 0
        exact ⟨(xFr_n hfr).trans hE, by omega⟩
      · show 2 < 3
        omega
    · have hx : x ∈ [zxfis_ax0] := hx
      have hag : ∀ k, k < 4 → v2 k = v k := hag
      have hfr : xFr [] _ _ := hfr
      have ex := List.mem_singleton.mp hx
      subst ex
      obtain ⟨hF, hBd, hM⟩ := hXs
      have r1 := hr2 1
      have g1 : v2 1 = v 1 := hag 1 (by decide)
      have g2 : v2 2 = v 2 := hag 2 (by decide)
      have g3 : v2 3 = v 3 := hag 3 (by decide)
      have b0 : ((2147483648 : Nat) : Int) ≤ (v2 2) + 2147483648 ∧ (v2 2) + 2147483648 ≤ ((2147483648 : Nat) : Int) := xXb hBd 0 rfl
      have b1 : ((2147483651 : Nat) : Int) ≤ (v2 3) + 2147483648 ∧ (v2 3) + 2147483648 ≤ ((2147483651 : Nat) : Int) := xXb hBd 1 rfl
      have k0 : xE (zyEl zymx B H) 74 36 = v 2 := xKcf hKc 0 rfl rfl
      have k1 : xE (zyEl zymx B H) 74 40 = v 3 := xKcf hKc 1 rfl rfl
      have f0 : (v2 2) = 0 := xXf hF 0 rfl
      have f1 : (v2 3) = 3 := xXf hF 1 rfl
      have e74_36 : xE (zyEl zymx B H2) 74 36 = xE (zyEl zymx B H) 74 36 := xFr_E hfr rfl
      have q74_36 : xE (zyEl zymx B H) 74 36 = xE (zyEl zymx B s.heap) 74 36 := xFr_E hFr0 rfl
      have e74_38 : xE (zyEl zymx B H2) 74 38 = xE (zyEl zymx B H) 74 38 := xFr_E hfr rfl
      have q74_38 : xE (zyEl zymx B H) 74 38 = xE (zyEl zymx B s.heap) 74 38 := xFr_E hFr0 rfl
      have e74_40 : xE (zyEl zymx B H2) 74 40 = xE (zyEl zymx B H) 74 40 := xFr_E hfr rfl
      have q74_40 : xE (zyEl zymx B H) 74 40 = xE (zyEl zymx B s.heap) 74 40 := xFr_E hFr0 rfl
      have e84 : ∀ i, xE (zyEl zymx B H2) 84 i = xE (zyEl zymx B H) 84 i := fun i => xFr_E hfr rfl
      have q84 : ∀ i, xE (zyEl zymx B H) 84 i = xE (zyEl zymx B s.heap) 84 i := fun i => xFr_E hFr0 rfl
      have hI : (zyEl zymx B H) = (zyEl zymx B s.heap) ∧ (v 1) = x0 0 := hInv
      obtain ⟨hE, i1⟩ := hI
      have hP : xE (zyEl zymx B s.heap) 74 36 = 0 → xE (zyEl zymx B s.heap) 74 40 = 3 → xE (zyEl zymx B s.heap) 74 38 ≤ 899 := hΦ
      have hP := hP (by omega) (by omega)
      have z74_38 : ((2147483648 : Nat) : Int) ≤ xE (zyEl zymx B H2) 74 38 + 2147483648 ∧ xE (zyEl zymx B H2) 74 38 + 2147483648 ≤ ((2147484548 : Nat) : Int) := xTyF hT2 74 38 38 rfl rfl rfl rfl rfl rfl
      refine xGo hIH hAt hB hv hFr ⟨2, by decide⟩ [0, 34359738369] [0, (v2 1), xE (zyEl zymx B H2) 74 38] rfl ⟨by decide +kernel, ⟨rfl, by decide +kernel⟩, (xcs_c rfl (xcs_c rfl xcs_n)), (xe_0 (xe_f (by omega) (xe_c (by omega) (by omega) rfl xe_n))), (xkq_c hT2 74 38 (q := 38) rfl rfl rfl rfl rfl rfl rfl rfl rfl rfl rfl xkq_n)⟩ xst_n ?_ ?_
      · show (zyEl zymx B H2) = (zyEl zymx B s.heap) ∧ ((v2 1) : Int) = x0 0 ∧ xE (zyEl zymx B H2) 74 36 = 0 ∧ xE (zyEl zymx B H2) 74 40 = 3
        exact ⟨(xFr_n hfr).trans hE, by omega, by omega, by omega⟩
      · show 1 < 2
        omega
    · cases hx
  · intro x0 E0 E E2 hrx hT0 hΦ i v hT hrv hInv hKc hFr0 x hx v2 hr2 hXs hag hfr hFr hT2
    rcases i with ⟨i, hi⟩
    have hi2 : i = 0 ∨ i = 1 ∨ i = 2 := by omega
    rcases hi2 with rfl | rfl | rfl
    · cases hx
    · have hx : x ∈ [zxfis_ar0, zxfis_ar1, zxfis_ar2] := hx
      have hag : ∀ k, k < 4 → v2 k = v k := hag
      have hfr : xFr [] _ _ := hfr
      rcases List.mem_cons.mp hx with ex | hx
      · subst ex
        obtain ⟨hF, hBd, hM⟩ := hXs
        have g1 : v2 1 = v 1 := hag 1 (by decide)
        have g2 : v2 2 = v 2 := hag 2 (by decide)
        have g3 : v2 3 = v 3 := hag 3 (by decide)
        have b0 : ((2147483649 : Nat) : Int) ≤ (v2 2) + 2147483648 ∧ (v2 2) + 2147483648 ≤ ((2147483657 : Nat) : Int) := xXb hBd 0 rfl
        have k0 : xE E 74 36 = v 2 := xKcf hKc 0 rfl rfl
        have k1 : xE E 74 40 = v 3 := xKcf hKc 1 rfl rfl
        have f0 : ¬ (v2 2) = 0 := xXf hF 0 rfl
        have e74_36 : xE E2 74 36 = xE E 74 36 := xFr_E hfr rfl
        have q74_36 : xE E 74 36 = xE E0 74 36 := xFr_E hFr0 rfl
        have e74_38 : xE E2 74 38 = xE E 74 38 := xFr_E hfr rfl
        have q74_38 : xE E 74 38 = xE E0 74 38 := xFr_E hFr0 rfl
        have e74_40 : xE E2 74 40 = xE E 74 40 := xFr_E hfr rfl
        have q74_40 : xE E 74 40 = xE E0 74 40 := xFr_E hFr0 rfl
        have e84 : ∀ i, xE E2 84 i = xE E 84 i := fun i => xFr_E hfr rfl
        have q84 : ∀ i, xE E 84 i = xE E0 84 i := fun i => xFr_E hFr0 rfl
        have hI : E = E0 ∧ (v 1) = x0 0 := hInv
        show xΨis x0 E0 E2 0
        obtain ⟨hE, i1⟩ := hI
        unfold xΨis
        rw [if_neg (by omega)]
      · skip
        rcases List.mem_cons.mp hx with ex | hx
        · subst ex
          obtain ⟨hF, hBd, hM⟩ := hXs
          have g1 : v2 1 = v 1 := hag 1 (by decide)
          have g2 : v2 2 = v 2 := hag 2 (by decide)
          have g3 : v2 3 = v 3 := hag 3 (by decide)
          have b0 : ((2147483648 : Nat) : Int) ≤ (v2 2) + 2147483648 ∧ (v2 2) + 2147483648 ≤ ((2147483648 : Nat) : Int) := xXb hBd 0 rfl
          have b1 : ((2147483652 : Nat) : Int) ≤ (v2 3) + 2147483648 ∧ (v2 3) + 2147483648 ≤ ((2147483652 : Nat) : Int) := xXb hBd 1 rfl
          have k0 : xE E 74 36 = v 2 := xKcf hKc 0 rfl rfl
          have k1 : xE E 74 40 = v 3 := xKcf hKc 1 rfl rfl
          have f0 : (v2 2) = 0 := xXf hF 0 rfl
          have f1 : ¬ (v2 3) = 3 := xXf hF 1 rfl
          have e74_36 : xE E2 74 36 = xE E 74 36 := xFr_E hfr rfl
          have q74_36 : xE E 74 36 = xE E0 74 36 := xFr_E hFr0 rfl
          have e74_38 : xE E2 74 38 = xE E 74 38 := xFr_E hfr rfl
          have q74_38 : xE E 74 38 = xE E0 74 38 := xFr_E hFr0 rfl
          have e74_40 : xE E2 74 40 = xE E 74 40 := xFr_E hfr rfl
          have q74_40 : xE E 74 40 = xE E0 74 40 := xFr_E hFr0 rfl
          have e84 : ∀ i, xE E2 84 i = xE E 84 i := fun i => xFr_E hfr rfl
          have q84 : ∀ i, xE E 84 i = xE E0 84 i := fun i => xFr_E hFr0 rfl
          have hI : E = E0 ∧ (v 1) = x0 0 := hInv
          show xΨis x0 E0 E2 0
          obtain ⟨hE, i1⟩ := hI
          unfold xΨis
          rw [if_neg (by omega)]
        · skip
          have ex := List.mem_singleton.mp hx
          subst ex
          obtain ⟨hF, hBd, hM⟩ := hXs
          have g1 : v2 1 = v 1 := hag 1 (by decide)
          have g2 : v2 2 = v 2 := hag 2 (by decide)
          have g3 : v2 3 = v 3 := hag 3 (by decide)
          have b0 : ((2147483648 : Nat) : Int) ≤ (v2 2) + 2147483648 ∧ (v2 2) + 2147483648 ≤ ((2147483648 : Nat) : Int) := xXb hBd 0 rfl
          have b1 : ((2147483648 : Nat) : Int) ≤ (v2 3) + 2147483648 ∧ (v2 3) + 2147483648 ≤ ((2147483650 : Nat) : Int) := xXb hBd 1 rfl
          have k0 : xE E 74 36 = v 2 := xKcf hKc 0 rfl rfl
          have k1 : xE E 74 40 = v 3 := xKcf hKc 1 rfl rfl
          have f0 : (v2 2) = 0 := xXf hF 0 rfl
          have f1 : ¬ (v2 3) = 3 := xXf hF 1 rfl
          have e74_36 : xE E2 74 36 = xE E 74 36 := xFr_E hfr rfl
          have q74_36 : xE E 74 36 = xE E0 74 36 := xFr_E hFr0 rfl
          have e74_38 : xE E2 74 38 = xE E 74 38 := xFr_E hfr rfl
          have q74_38 : xE E 74 38 = xE E0 74 38 := xFr_E hFr0 rfl
          have e74_40 : xE E2 74 40 = xE E 74 40 := xFr_E hfr rfl
          have q74_40 : xE E 74 40 = xE E0 74 40 := xFr_E hFr0 rfl
          have e84 : ∀ i, xE E2 84 i = xE E 84 i := fun i => xFr_E hfr rfl
          have q84 : ∀ i, xE E 84 i = xE E0 84 i := fun i => xFr_E hFr0 rfl
          have hI : E = E0 ∧ (v 1) = x0 0 := hInv
          show xΨis x0 E0 E2 0
          obtain ⟨hE, i1⟩ := hI
          unfold xΨis
          rw [if_neg (by omega)]
    · have hx : x ∈ [zxfis_br0, zxfis_br1] := hx
      have hag : ∀ k, k < 3 → v2 k = v k := hag
      have hfr : xFr [] _ _ := hfr
      rcases List.mem_cons.mp hx with ex | hx
      · subst ex
        obtain ⟨hF, hBd, hM⟩ := hXs
        have r1 := hr2 1
        have g1 : v2 1 = v 1 := hag 1 (by decide)
        have g2 : v2 2 = v 2 := hag 2 (by decide)
        have b0 : ((2147483648 : Nat) : Int) ≤ (v2 2) + 2147483648 ∧ (v2 2) + 2147483648 ≤ ((2147484547 : Nat) : Int) := xXb hBd 0 rfl
        have b1 : ((2147483520 : Nat) : Int) ≤ (v2 3) + 2147483648 ∧ (v2 3) + 2147483648 ≤ ((2147483775 : Nat) : Int) := xXb hBd 1 rfl
        have k0 : xE E 74 38 = v 2 := xKcf hKc 0 rfl rfl
        have f0 : (0 : Int) ≤ (v2 2) ∧ xE E 84 (v2 2) = (v2 3) := xXf hF 0 rfl
        have f1 : ¬ (v2 3) = (v2 1) := xXf hF 1 rfl
        have e74_36 : xE E2 74 36 = xE E 74 36 := xFr_E hfr rfl
        have q74_36 : xE E 74 36 = xE E0 74 36 := xFr_E hFr0 rfl
        have e74_38 : xE E2 74 38 = xE E 74 38 := xFr_E hfr rfl
        have q74_38 : xE E 74 38 = xE E0 74 38 := xFr_E hFr0 rfl
        have e74_40 : xE E2 74 40 = xE E 74 40 := xFr_E hfr rfl
        have q74_40 : xE E 74 40 = xE E0 74 40 := xFr_E hFr0 rfl
        have e84 : ∀ i, xE E2 84 i = xE E 84 i := fun i => xFr_E hfr rfl
        have q84 : ∀ i, xE E 84 i = xE E0 84 i := fun i => xFr_E hFr0 rfl
        have hI : E = E0 ∧ (v 1) = x0 0 ∧ xE E 74 36 = 0 ∧ xE E 74 40 = 3 := hInv
        show xΨis x0 E0 E2 0
        obtain ⟨hE, i1, i2, i3⟩ := hI
        have t0 : xE E0 84 (xE E0 74 38) = (v2 3) := by rw [← q84, show xE E0 74 38 = (v2 2) by omega]; exact f0.2
        unfold xΨis
        rw [if_neg (by omega)]
      · skip
        have ex := List.mem_singleton.mp hx
        subst ex
        obtain ⟨hF, hBd, hM⟩ := hXs
        have r1 := hr2 1
        have g1 : v2 1 = v 1 := hag 1 (by decide)
        have g2 : v2 2 = v 2 := hag 2 (by decide)
        have b0 : ((2147483648 : Nat) : Int) ≤ (v2 2) + 2147483648 ∧ (v2 2) + 2147483648 ≤ ((2147484547 : Nat) : Int) := xXb hBd 0 rfl
        have b1 : ((2147483520 : Nat) : Int) ≤ (v2 3) + 2147483648 ∧ (v2 3) + 2147483648 ≤ ((2147483775 : Nat) : Int) := xXb hBd 1 rfl
        have k0 : xE E 74 38 = v 2 := xKcf hKc 0 rfl rfl
        have f0 : (0 : Int) ≤ (v2 2) ∧ xE E 84 (v2 2) = (v2 3) := xXf hF 0 rfl
        have f1 : (v2 3) = (v2 1) := xXf hF 1 rfl
        have e74_36 : xE E2 74 36 = xE E 74 36 := xFr_E hfr rfl
        have q74_36 : xE E 74 36 = xE E0 74 36 := xFr_E hFr0 rfl
        have e74_38 : xE E2 74 38 = xE E 74 38 := xFr_E hfr rfl
        have q74_38 : xE E 74 38 = xE E0 74 38 := xFr_E hFr0 rfl
        have e74_40 : xE E2 74 40 = xE E 74 40 := xFr_E hfr rfl
        have q74_40 : xE E 74 40 = xE E0 74 40 := xFr_E hFr0 rfl
        have e84 : ∀ i, xE E2 84 i = xE E 84 i := fun i => xFr_E hfr rfl
        have q84 : ∀ i, xE E 84 i = xE E0 84 i := fun i => xFr_E hFr0 rfl
        have hI : E = E0 ∧ (v 1) = x0 0 ∧ xE E 74 36 = 0 ∧ xE E 74 40 = 3 := hInv
        show xΨis x0 E0 E2 1
        obtain ⟨hE, i1, i2, i3⟩ := hI
        have t0 : xE E0 84 (xE E0 74 38) = (v2 3) := by rw [← q84, show xE E0 74 38 = (v2 2) by omega]; exact f0.2
        unfold xΨis
        rw [if_pos (by omega)]
