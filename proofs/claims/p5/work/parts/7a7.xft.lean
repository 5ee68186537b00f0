/-! fault, both sides (printed by m30.py) -/
noncomputable def zxfft_ar0 : zyXp := (0, [], [34359738360], [(23, 0, 34359738369, 0), (23, 0, 34359738369, 8)], [(34359738369, 2147483650, 4294967295)], [])
noncomputable def zxfft_ar1 : zyXp := (0, [], [68719476737], [(23, 0, 34359738369, 0), (22, 0, 34359738369, 8), (24, 68719476737, 35, 24)], [(34359738369, 2147483649, 2147483649), (68719476737, 2147483647, 2147484548)], [])
noncomputable def zxfft_ar2 : zyXp := (0, [], [34359738360], [(23, 0, 34359738369, 0), (23, 0, 34359738369, 8)], [(34359738369, 0, 2147483647)], [])
noncomputable def zxfft_ar3 : zyXp := (0, [], [68719476737], [(22, 0, 34359738369, 0), (24, 68719476737, 35, 16)], [(34359738369, 2147483648, 2147483648), (68719476737, 2147483647, 2147483654)], [])
noncomputable def zpfft_a : zyPh := (0, [3, 34359738369], [(0, 4294967295), (0, 4294967295)], [], [])
noncomputable def zpfft (i : Nat) : zyPh := zpfft_a
noncomputable def zXfft (i : Nat) : List zyXp := []
noncomputable def zRfft (i : Nat) : List zyXp := [zxfft_ar0, zxfft_ar1, zxfft_ar2, zxfft_ar3]
noncomputable def zFfft (i : Nat) : zyR := []
noncomputable def zSfft (i : Nat) : Nat := 0
/-- fault answers -/
def xΦft (_ : Nat → Int) (_ : zyEm) : Prop := True
def xΨft (x : Nat → Int) (E _ : zyEm) (r : Int) : Prop := r = if x 0 = 0 then xE E 35 2 else if x 0 = 1 then xE E 35 3 else -1
noncomputable def fpfft : zyR := []
theorem zyfft_run : zyrS zymc zxi122 (122, 0, 0, 1, 0) 1 zpfft (fun _ _ => []) zFfft zSfft zXfft zRfft 1 = true := by decide +kernel
theorem zyfft_ck : zyAll (fun i => xsubR (zFfft i) fpfft && ((zXfft i).all xckX && (zRfft i).all (fun x => xckX x && xrtB true x))) 1 = true := by decide +kernel
def xIfft (i : Nat) (x0 : Nat → Int) (E0 : zyEm) (v : Nat → Int) (E : zyEm) : Prop := (E = E0 ∧ (v 1) = x0 0)
def xMfft (i : Nat) (x0 : Nat → Int) (E0 : zyEm) (v : Nat → Int) (E : zyEm) : Nat := (1)
theorem xFt {l : Launch} {en : zEn} {me : zMe} (hen : zG zxMeta 122 = some en) (hme : zG zMeth 122 = some me) : xFc l zymc en me 1 [0] 1 fpfft true xΦft xΨft := by
  have een : zG zxMeta 122 = some (zxi122, 2, 2, 10, 122, 0, 0, 1, 0) := rfl
  obtain ⟨me1, hme1, hOK⟩ := zall hen
  rw [hme] at hme1
  cases hme1
  rw [een] at hen
  cases hen
  have hr := zyfft_run
  have hck := fun i hi => zyAll_iff zyfft_ck i hi
  simp only [Bool.and_eq_true] at hck
  intro B
  refine xcut (mi := zymc) (B := B) hOK rfl rfl (ι := Fin 1) (fun i => zpfft i.val) (fun _ _ => []) (fun i => zFfft i.val) (fun i => zSfft i.val) (fun i => zXfft i.val) (fun i => zRfft i.val) (fun i y2 ct en2 me2 h => by cases h) 200000 (fun i => zyAll_iff hr i.val i.isLt) (fun i => (hck i.val i.isLt).1) (fun i => (hck i.val i.isLt).2.1) (fun i => (hck i.val i.isLt).2.2) ⟨0, by decide⟩ ⟨rfl, rfl, rfl, rfl⟩ ⟨by decide, by decide⟩ (fun i x0 E0 v E => xIfft i.val x0 E0 v E) (fun i x0 E0 v E => xMfft i.val x0 E0 v E) ?_ ?_ ?_
  · intro x0 E hx0 hT hΦ
    have hΦ : xΦft x0 E := hΦ
    refine ⟨fun k p hp => ?_, ?_⟩
    · have hk : k < 2 := (List.getElem?_eq_some_iff.mp hp).1
      have hk : k = 0 ∨ k = 1 := by omega
      rcases hk with rfl | rfl
      · have hp : some (0, 4294967295) = some p := hp
        cases hp
        show ((0 : Nat) : Int) ≤ 0 + 2147483648 ∧ 0 + 2147483648 ≤ ((4294967295 : Nat) : Int)
        omega
      · have hp : some (0, 4294967295) = some p := hp
        cases hp
        show ((0 : Nat) : Int) ≤ x0 0 + 2147483648 ∧ x0 0 + 2147483648 ≤ ((4294967295 : Nat) : Int)
        have hx := hx0 0
        omega
    · show E = E ∧ (x0 0) = x0 0
      exact ⟨rfl, rfl⟩
  · intro x0 s Wg hRu hrx hT0 hΦ i v H hT hrv hInv hKc hFr0 hIH x hx ρ2 v2 N2 H2 locs lsB stA hAt hB hv hr2 hXs hag hfr hFr hT2
    rcases i with ⟨i, hi⟩
    have hi2 : i = 0 := by omega
    rcases hi2 with rfl
    · cases hx
  · intro x0 E0 E E2 hrx hT0 hΦ i v hT hrv hInv hKc hFr0 x hx v2 hr2 hXs hag hfr hFr hT2
    rcases i with ⟨i, hi⟩
    have hi2 : i = 0 := by omega
    rcases hi2 with rfl
    · have hx : x ∈ [zxfft_ar0, zxfft_ar1, zxfft_ar2, zxfft_ar3] := hx
      have hag : ∀ k, k < 2 → v2 k = v k := hag
      have hfr : xFr [] _ _ := hfr
      rcases List.mem_cons.mp hx with ex | hx
      · subst ex
        obtain ⟨hF, hBd, hM⟩ := hXs
        have g1 : v2 1 = v 1 := hag 1 (by decide)
        have b0 : ((2147483650 : Nat) : Int) ≤ (v2 1) + 2147483648 ∧ (v2 1) + 2147483648 ≤ ((4294967295 : Nat) : Int) := xXb hBd 0 rfl
        have f0 : ¬ (v2 1) = 0 := xXf hF 0 rfl
        have f1 : ¬ (v2 1) = 1 := xXf hF 1 rfl
        have e35_2 : xE E2 35 2 = xE E 35 2 := xFr_E hfr rfl
        have q35_2 : xE E 35 2 = xE E0 35 2 := xFr_E hFr0 rfl
        have e35_3 : xE E2 35 3 = xE E 35 3 := xFr_E hfr rfl
        have q35_3 : xE E 35 3 = xE E0 35 3 := xFr_E hFr0 rfl
        have hI : E = E0 ∧ (v 1) = x0 0 := hInv
        show xΨft x0 E0 E2 (-1)
        obtain ⟨hE, i1⟩ := hI
        unfold xΨft
        by_cases c0 : x0 0 = 0
        · rw [if_pos c0] <;> omega
        · rw [if_neg c0]
          by_cases c1 : x0 0 = 1
          · rw [if_pos c1] <;> omega
          · rw [if_neg c1] <;> omega
      · skip
        rcases List.mem_cons.mp hx with ex | hx
        · subst ex
          obtain ⟨hF, hBd, hM⟩ := hXs
          have g1 : v2 1 = v 1 := hag 1 (by decide)
          have b0 : ((2147483649 : Nat) : Int) ≤ (v2 1) + 2147483648 ∧ (v2 1) + 2147483648 ≤ ((2147483649 : Nat) : Int) := xXb hBd 0 rfl
          have b1 : ((2147483647 : Nat) : Int) ≤ (v2 2) + 2147483648 ∧ (v2 2) + 2147483648 ≤ ((2147484548 : Nat) : Int) := xXb hBd 1 rfl
          have f0 : ¬ (v2 1) = 0 := xXf hF 0 rfl
          have f1 : (v2 1) = 1 := xXf hF 1 rfl
          have f2 : (0 : Int) ≤ 3 ∧ xE E 35 3 = (v2 2) := xXf hF 2 rfl
          have e35_2 : xE E2 35 2 = xE E 35 2 := xFr_E hfr rfl
          have q35_2 : xE E 35 2 = xE E0 35 2 := xFr_E hFr0 rfl
          have e35_3 : xE E2 35 3 = xE E 35 3 := xFr_E hfr rfl
          have q35_3 : xE E 35 3 = xE E0 35 3 := xFr_E hFr0 rfl
          have hI : E = E0 ∧ (v 1) = x0 0 := hInv
          show xΨft x0 E0 E2 (v2 2)
          obtain ⟨hE, i1⟩ := hI
          unfold xΨft
          have t2 := f2.2
          by_cases c0 : x0 0 = 0
          · rw [if_pos c0] <;> omega
          · rw [if_neg c0]
            by_cases c1 : x0 0 = 1
            · rw [if_pos c1] <;> omega
            · rw [if_neg c1] <;> omega
        · skip
          rcases List.mem_cons.mp hx with ex | hx
          · subst ex
            obtain ⟨hF, hBd, hM⟩ := hXs
            have g1 : v2 1 = v 1 := hag 1 (by decide)
            have b0 : ((0 : Nat) : Int) ≤ (v2 1) + 2147483648 ∧ (v2 1) + 2147483648 ≤ ((2147483647 : Nat) : Int) := xXb hBd 0 rfl
            have f0 : ¬ (v2 1) = 0 := xXf hF 0 rfl
            have f1 : ¬ (v2 1) = 1 := xXf hF 1 rfl
            have e35_2 : xE E2 35 2 = xE E 35 2 := xFr_E hfr rfl
            have q35_2 : xE E 35 2 = xE E0 35 2 := xFr_E hFr0 rfl
            have e35_3 : xE E2 35 3 = xE E 35 3 := xFr_E hfr rfl
            have q35_3 : xE E 35 3 = xE E0 35 3 := xFr_E hFr0 rfl
            have hI : E = E0 ∧ (v 1) = x0 0 := hInv
            show xΨft x0 E0 E2 (-1)
            obtain ⟨hE, i1⟩ := hI
            unfold xΨft
            by_cases c0 : x0 0 = 0
            · rw [if_pos c0] <;> omega
            · rw [if_neg c0]
              by_cases c1 : x0 0 = 1
              · rw [if_pos c1] <;> omega
              · rw [if_neg c1] <;> omega
          · skip
            have ex := List.mem_singleton.mp hx
            subst ex
            obtain ⟨hF, hBd, hM⟩ := hXs
            have g1 : v2 1 = v 1 := hag 1 (by decide)
            have b0 : ((2147483648 : Nat) : Int) ≤ (v2 1) + 2147483648 ∧ (v2 1) + 2147483648 ≤ ((2147483648 : Nat) : Int) := xXb hBd 0 rfl
            have b1 : ((2147483647 : Nat) : Int) ≤ (v2 2) + 2147483648 ∧ (v2 2) + 2147483648 ≤ ((2147483654 : Nat) : Int) := xXb hBd 1 rfl
            have f0 : (v2 1) = 0 := xXf hF 0 rfl
            have f1 : (0 : Int) ≤ 2 ∧ xE E 35 2 = (v2 2) := xXf hF 1 rfl
            have e35_2 : xE E2 35 2 = xE E 35 2 := xFr_E hfr rfl
            have q35_2 : xE E 35 2 = xE E0 35 2 := xFr_E hFr0 rfl
            have e35_3 : xE E2 35 3 = xE E 35 3 := xFr_E hfr rfl
            have q35_3 : xE E 35 3 = xE E0 35 3 := xFr_E hFr0 rfl
            have hI : E = E0 ∧ (v 1) = x0 0 := hInv
            show xΨft x0 E0 E2 (v2 2)
            obtain ⟨hE, i1⟩ := hI
            unfold xΨft
            have t1 := f1.2
            by_cases c0 : x0 0 = 0
            · rw [if_pos c0] <;> omega
            · rw [if_neg c0]
              by_cases c1 : x0 0 = 1
              · rw [if_pos c1] <;> omega
              · rw [if_neg c1] <;> omega
noncomputable def zxffy_zx0 : zyXp := (0, [595, 34359738369], [], [], [], [])
noncomputable def zpffy_z : zyPh := (0, [595, 34359738369], [(0, 4294967295), (0, 4294967295)], [], [])
noncomputable def zxffy_ar0 : zyXp := (0, [], [34359738360], [(23, 0, 34359738369, 0), (23, 0, 34359738369, 8)], [(34359738369, 2147483650, 4294967295)], [])
noncomputable def zxffy_ar1 : zyXp := (0, [], [68719476737], [(23, 0, 34359738369, 0), (22, 0, 34359738369, 8), (24, 68719476737, 74, 280)], [(34359738369, 2147483649, 2147483649)], [])
noncomputable def zxffy_ar2 : zyXp := (0, [], [34359738360], [(23, 0, 34359738369, 0), (23, 0, 34359738369, 8)], [(34359738369, 0, 2147483647)], [])
noncomputable def zxffy_ar3 : zyXp := (0, [], [68719476737], [(22, 0, 34359738369, 0), (24, 68719476737, 74, 272)], [(34359738369, 2147483648, 2147483648)], [])
noncomputable def zpffy_a : zyPh := (0, [595, 34359738369], [(0, 4294967295), (0, 4294967295)], [], [])
noncomputable def zpffy (i : Nat) : zyPh := zif (Nat.beq i 0) (zpffy_z) (zpffy_a)
noncomputable def zXffy (i : Nat) : List zyXp := zif (Nat.beq i 0) ([zxffy_zx0]) ([])
noncomputable def zRffy (i : Nat) : List zyXp := zif (Nat.beq i 0) ([]) ([zxffy_ar0, zxffy_ar1, zxffy_ar2, zxffy_ar3])
noncomputable def zFffy (i : Nat) : zyR := zif (Nat.beq i 0) ([]) ([(74, 3, 3)])
noncomputable def zSffy (i : Nat) : Nat := zif (Nat.beq i 0) (0) (0)
def xΨfy (x : Nat → Int) (E _ : zyEm) (r : Int) : Prop := r = if x 0 = 0 then xE E 74 34 else if x 0 = 1 then xE E 74 35 else -1
noncomputable def fpffy : zyR := [(74, 3, 3)]
theorem zyffy_run : zyrS zymx zxi330 (330, 0, 0, 1, 0) 1 zpffy (fun _ _ => []) zFffy zSffy zXffy zRffy 2 = true := by decide +kernel
theorem zyffy_ck : zyAll (fun i => xsubR (zFffy i) fpffy && ((zXffy i).all xckX && (zRffy i).all (fun x => xckX x && xrtB true x))) 2 = true := by decide +kernel
def xIffy (i : Nat) (x0 : Nat → Int) (E0 : zyEm) (v : Nat → Int) (E : zyEm) : Prop := if i = 0 then (E = E0 ∧ (v 1) = x0 0) else (E = E0 ∧ (v 1) = x0 0)
def xMffy (i : Nat) (x0 : Nat → Int) (E0 : zyEm) (v : Nat → Int) (E : zyEm) : Nat := if i = 0 then (2) else (1)
theorem xFy {l : Launch} {en : zEn} {me : zMe} (hen : zG zxMeta 330 = some en) (hme : zG zMeth 330 = some me) : xFc l zymx en me 1 [74] 1 fpffy true xΦft xΨfy := by
  have een : zG zxMeta 330 = some (zxi330, 2, 2, 11, 330, 0, 0, 1, 0) := rfl
  obtain ⟨me1, hme1, hOK⟩ := zall hen
  rw [hme] at hme1
  cases hme1
  rw [een] at hen
  cases hen
  have hr := zyffy_run
  have hck := fun i hi => zyAll_iff zyffy_ck i hi
  simp only [Bool.and_eq_true] at hck
  intro B
  refine xcut (mi := zymx) (B := B) hOK rfl rfl (ι := Fin 2) (fun i => zpffy i.val) (fun _ _ => []) (fun i => zFffy i.val) (fun i => zSffy i.val) (fun i => zXffy i.val) (fun i => zRffy i.val) (fun i y2 ct en2 me2 h => by cases h) 200000 (fun i => zyAll_iff hr i.val i.isLt) (fun i => (hck i.val i.isLt).1) (fun i => (hck i.val i.isLt).2.1) (fun i => (hck i.val i.isLt).2.2) ⟨0, by decide⟩ ⟨rfl, rfl, rfl, rfl⟩ ⟨by decide, by decide⟩ (fun i x0 E0 v E => xIffy i.val x0 E0 v E) (fun i x0 E0 v E => xMffy i.val x0 E0 v E) ?_ ?_ ?_
  · intro x0 E hx0 hT hΦ
    have hΦ : xΦft x0 E := hΦ
    refine ⟨fun k p hp => ?_, ?_⟩
    · have hk : k < 2 := (List.getElem?_eq_some_iff.mp hp).1
      have hk : k = 0 ∨ k = 1 := by omega
      rcases hk with rfl | rfl
      · have hp : some (0, 4294967295) = some p := hp
        cases hp
        show ((0 : Nat) : Int) ≤ 0 + 2147483648 ∧ 0 + 2147483648 ≤ ((4294967295 : Nat) : Int)
        omega
      · have hp : some (0, 4294967295) = some p := hp
        cases hp
        show ((0 : Nat) : Int) ≤ x0 0 + 2147483648 ∧ x0 0 + 2147483648 ≤ ((4294967295 : Nat) : Int)
        have hx := hx0 0
        omega
    · show E = E ∧ (x0 0) = x0 0
      exact ⟨rfl, rfl⟩
  · intro x0 s Wg hRu hrx hT0 hΦ i v H hT hrv hInv hKc hFr0 hIH x hx ρ2 v2 N2 H2 locs lsB stA hAt hB hv hr2 hXs hag hfr hFr hT2
    rcases i with ⟨i, hi⟩
    have hi2 : i = 0 ∨ i = 1 := by omega
    rcases hi2 with rfl | rfl
    · have hx : x ∈ [zxffy_zx0] := hx
      have hag : ∀ k, k < 2 → v2 k = v k := hag
      have hfr : xFr [] _ _ := hfr
      have ex := List.mem_singleton.mp hx
      subst ex
      obtain ⟨hF, hBd, hM⟩ := hXs
      have r1 := hr2 1
      have g1 : v2 1 = v 1 := hag 1 (by decide)
      have e74_34 : xE (zyEl zymx B H2) 74 34 = xE (zyEl zymx B H) 74 34 := xFr_E hfr rfl
      have q74_34 : xE (zyEl zymx B H) 74 34 = xE (zyEl zymx B s.heap) 74 34 := xFr_E hFr0 rfl
      have e74_35 : xE (zyEl zymx B H2) 74 35 = xE (zyEl zymx B H) 74 35 := xFr_E hfr rfl
      have q74_35 : xE (zyEl zymx B H) 74 35 = xE (zyEl zymx B s.heap) 74 35 := xFr_E hFr0 rfl
      have hI : (zyEl zymx B H) = (zyEl zymx B s.heap) ∧ (v 1) = x0 0 := hInv
      obtain ⟨hE, i1⟩ := hI
      refine xGo hIH hAt hB hv hFr ⟨1, by decide⟩ [0, 34359738369] [0, (v2 1)] rfl ⟨by decide +kernel, ⟨rfl, by decide +kernel⟩, (xcs_c rfl (xcs_c rfl xcs_n)), (xe_0 (xe_f (by omega) xe_n)), xkq_n⟩ xst_n ?_ ?_
      · show (zyEl zymx B H2) = (zyEl zymx B s.heap) ∧ ((v2 1) : Int) = x0 0
        exact ⟨(xFr_n hfr).trans hE, by omega⟩
      · show 1 < 2
        omega
    · cases hx
  · intro x0 E0 E E2 hrx hT0 hΦ i v hT hrv hInv hKc hFr0 x hx v2 hr2 hXs hag hfr hFr hT2
    rcases i with ⟨i, hi⟩
    have hi2 : i = 0 ∨ i = 1 := by omega
    rcases hi2 with rfl | rfl
    · cases hx
    · have hx : x ∈ [zxffy_ar0, zxffy_ar1, zxffy_ar2, zxffy_ar3] := hx
      have hag : ∀ k, k < 2 → v2 k = v k := hag
      have hfr : xFr [(74, 3, 3)] _ _ := hfr
      rcases List.mem_cons.mp hx with ex | hx
      · subst ex
        obtain ⟨hF, hBd, hM⟩ := hXs
        have g1 : v2 1 = v 1 := hag 1 (by decide)
        have b0 : ((2147483650 : Nat) : Int) ≤ (v2 1) + 2147483648 ∧ (v2 1) + 2147483648 ≤ ((4294967295 : Nat) : Int) := xXb hBd 0 rfl
        have f0 : ¬ (v2 1) = 0 := xXf hF 0 rfl
        have f1 : ¬ (v2 1) = 1 := xXf hF 1 rfl
        have e74_34 : xE E2 74 34 = xE E 74 34 := xFr_E hfr rfl
        have q74_34 : xE E 74 34 = xE E0 74 34 := xFr_E hFr0 rfl
        have e74_35 : xE E2 74 35 = xE E 74 35 := xFr_E hfr rfl
        have q74_35 : xE E 74 35 = xE E0 74 35 := xFr_E hFr0 rfl
        have hI : E = E0 ∧ (v 1) = x0 0 := hInv
        show xΨfy x0 E0 E2 (-1)
        obtain ⟨hE, i1⟩ := hI
        unfold xΨfy
        by_cases c0 : x0 0 = 0
        · rw [if_pos c0] <;> omega
        · rw [if_neg c0]
          by_cases c1 : x0 0 = 1
          · rw [if_pos c1] <;> omega
          · rw [if_neg c1] <;> omega
      · skip
        rcases List.mem_cons.mp hx with ex | hx
        · subst ex
          obtain ⟨hF, hBd, hM⟩ := hXs
          have r2 := hr2 2
          have g1 : v2 1 = v 1 := hag 1 (by decide)
          have b0 : ((2147483649 : Nat) : Int) ≤ (v2 1) + 2147483648 ∧ (v2 1) + 2147483648 ≤ ((2147483649 : Nat) : Int) := xXb hBd 0 rfl
          have f0 : ¬ (v2 1) = 0 := xXf hF 0 rfl
          have f1 : (v2 1) = 1 := xXf hF 1 rfl
          have f2 : (0 : Int) ≤ 35 ∧ xE E 74 35 = (v2 2) := xXf hF 2 rfl
          have e74_34 : xE E2 74 34 = xE E 74 34 := xFr_E hfr rfl
          have q74_34 : xE E 74 34 = xE E0 74 34 := xFr_E hFr0 rfl
          have e74_35 : xE E2 74 35 = xE E 74 35 := xFr_E hfr rfl
          have q74_35 : xE E 74 35 = xE E0 74 35 := xFr_E hFr0 rfl
          have hI : E = E0 ∧ (v 1) = x0 0 := hInv
          show xΨfy x0 E0 E2 (v2 2)
          obtain ⟨hE, i1⟩ := hI
          unfold xΨfy
          have t2 := f2.2
          by_cases c0 : x0 0 = 0
          · rw [if_pos c0] <;> omega
          · rw [if_neg c0]
            by_cases c1 : x0 0 = 1
            · rw [if_pos c1] <;> omega
            · rw [if_neg c1] <;> omega
        · skip
          rcases List.mem_cons.mp hx with ex | hx
          · subst ex
            obtain ⟨hF, hBd, hM⟩ := hXs
            have g1 : v2 1 = v 1 := hag 1 (by decide)
            have b0 : ((0 : Nat) : Int) ≤ (v2 1) + 2147483648 ∧ (v2 1) + 2147483648 ≤ ((2147483647 : Nat) : Int) := xXb hBd 0 rfl
            have f0 : ¬ (v2 1) = 0 := xXf hF 0 rfl
            have f1 : ¬ (v2 1) = 1 := xXf hF 1 rfl
            have e74_34 : xE E2 74 34 = xE E 74 34 := xFr_E hfr rfl
            have q74_34 : xE E 74 34 = xE E0 74 34 := xFr_E hFr0 rfl
            have e74_35 : xE E2 74 35 = xE E 74 35 := xFr_E hfr rfl
            have q74_35 : xE E 74 35 = xE E0 74 35 := xFr_E hFr0 rfl
            have hI : E = E0 ∧ (v 1) = x0 0 := hInv
            show xΨfy x0 E0 E2 (-1)
            obtain ⟨hE, i1⟩ := hI
            unfold xΨfy
            by_cases c0 : x0 0 = 0
            · rw [if_pos c0] <;> omega
            · rw [if_neg c0]
              by_cases c1 : x0 0 = 1
              · rw [if_pos c1] <;> omega
              · rw [if_neg c1] <;> omega
          · skip
            have ex := List.mem_singleton.mp hx
            subst ex
            obtain ⟨hF, hBd, hM⟩ := hXs
            have r2 := hr2 2
            have g1 : v2 1 = v 1 := hag 1 (by decide)
            have b0 : ((2147483648 : Nat) : Int) ≤ (v2 1) + 2147483648 ∧ (v2 1) + 2147483648 ≤ ((2147483648 : Nat) : Int) := xXb hBd 0 rfl
            have f0 : (v2 1) = 0 := xXf hF 0 rfl
            have f1 : (0 : Int) ≤ 34 ∧ xE E 74 34 = (v2 2) := xXf hF 1 rfl
            have e74_34 : xE E2 74 34 = xE E 74 34 := xFr_E hfr rfl
            have q74_34 : xE E 74 34 = xE E0 74 34 := xFr_E hFr0 rfl
            have e74_35 : xE E2 74 35 = xE E 74 35 := xFr_E hfr rfl
            have q74_35 : xE E 74 35 = xE E0 74 35 := xFr_E hFr0 rfl
            have hI : E = E0 ∧ (v 1) = x0 0 := hInv
            show xΨfy x0 E0 E2 (v2 2)
            obtain ⟨hE, i1⟩ := hI
            unfold xΨfy
            have t1 := f1.2
            by_cases c0 : x0 0 = 0
            · rw [if_pos c0] <;> omega
            · rw [if_neg c0]
              by_cases c1 : x0 0 = 1
              · rw [if_pos c1] <;> omega
              · rw [if_neg c1] <;> omega
