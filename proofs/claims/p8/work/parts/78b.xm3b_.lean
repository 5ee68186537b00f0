section
/-! THE CLASS reads: takeNumber, takeSemicolon -/
/-- a number within bounds is taken -/
def xTN (T : Int → Int) (n p lo hi : Int) (E2 : zyEm) (r : Int) : Prop := xE E2 35 5 = tFr T n p ∧
  if tKd T n p = 3 then (if lo ≤ tNm T n p ∧ tNm T n p ≤ hi then r = 1 ∧ xE E2 35 6 = tNx T n p ∧ xE E2 35 8 = tNm T n p else r = 0 ∧ xE E2 35 2 = 3 ∧ xE E2 35 3 = tFr T n p)
  else r = 0 ∧ xE E2 35 2 = pMis T n p ∧ xE E2 35 3 = tFr T n p
def xΨtn (x : Nat → Int) (E E2 : zyEm) (r : Int) : Prop := xTN (xE E 36) (xE E 35 4) (xE E 35 6) (x 0) (x 1) E2 r
/-- a semicolon is taken -/
def xTS (T : Int → Int) (n p : Int) (E2 : zyEm) (r : Int) : Prop :=
  if tKd T n p = 5 then r = 1 ∧ xE E2 35 6 = tNx T n p else r = 0 ∧ xE E2 35 2 = pMis T n p ∧ xE E2 35 3 = tFr T n p
def xΨts (_ : Nat → Int) (E E2 : zyEm) (r : Int) : Prop := xTS (xE E 36) (xE E 35 4) (xE E 35 6) E2 r
noncomputable def fpftn : zyR := [(35, 2, 3), (35, 5, 8)]
theorem zyftn_run : zyrS zymc zxi69 (69, 0, 0, 2, 0) 3 zpftn (fun _ _ => []) zFftn zSftn zXftn zRftn 2 = true := by decide +kernel
theorem zyftn_ck : zyAll (fun i => xsubR (zFftn i) fpftn && ((zXftn i).all xckX && (zRftn i).all (fun x => xckX x && xrtB true x))) 2 = true := by decide +kernel
def xIftn (i : Nat) (x0 : Nat → Int) (E0 : zyEm) (v : Nat → Int) (E : zyEm) : Prop := if i = 0 then (E = E0 ∧ (v 1) = x0 0 ∧ (v 2) = x0 1) else ((v 1) = x0 0 ∧ (v 2) = x0 1 ∧ xE E 35 6 = tNx (xE E0 36) (xE E0 35 4) (xE E0 35 6) ∧ xE E 35 5 = tFr (xE E0 36) (xE E0 35 4) (xE E0 35 6) ∧ xE E 35 7 = tKd (xE E0 36) (xE E0 35 4) (xE E0 35 6) ∧ (tKd (xE E0 36) (xE E0 35 4) (xE E0 35 6) = 3 → xE E 35 8 = tNm (xE E0 36) (xE E0 35 4) (xE E0 35 6)))
def xMftn (i : Nat) (x0 : Nat → Int) (E0 : zyEm) (v : Nat → Int) (E : zyEm) : Nat := if i = 0 then (1) else (0)
theorem xTn {l : Launch} {en : zEn} {me : zMe} (hen : zG zxMeta 69 = some en) (hme : zG zMeth 69 = some me) : xFc l zymc en me 3 [35] 2 fpftn true xΦad xΨtn := by
  have een : zG zxMeta 69 = some (zxi69, 3, 3, 5, 69, 0, 0, 2, 0) := rfl
  obtain ⟨me1, hme1, hOK⟩ := zall hen
  rw [hme] at hme1
  cases hme1
  rw [een] at hen
  cases hen
  have hr := zyftn_run
  have hck := fun i hi => zyAll_iff zyftn_ck i hi
  simp only [Bool.and_eq_true] at hck
  obtain ⟨mefad, hmefad, -⟩ := zall (show zG zxMeta 73 = some (zxi73, 1, 1, 5, 73, 0, 0, 0, 0) from rfl)
  have hfad := xAd (l := l) (show zG zxMeta 73 = some (zxi73, 1, 1, 5, 73, 0, 0, 0, 0) from rfl) hmefad
  intro B
  refine xcut (mi := zymc) (B := B) hOK rfl rfl (ι := Fin 2) (fun i => zpftn i.val) (fun _ _ => []) (fun i => zFftn i.val) (fun i => zSftn i.val) (fun i => zXftn i.val) (fun i => zRftn i.val) (fun i y2 ct en2 me2 h => by cases h) 200000 (fun i => zyAll_iff hr i.val i.isLt) (fun i => (hck i.val i.isLt).1) (fun i => (hck i.val i.isLt).2.1) (fun i => (hck i.val i.isLt).2.2) ⟨0, by decide⟩ ⟨rfl, rfl, rfl, rfl⟩ ⟨by decide, by decide⟩ (fun i x0 E0 v E => xIftn i.val x0 E0 v E) (fun i x0 E0 v E => xMftn i.val x0 E0 v E) ?_ ?_ ?_
  · intro x0 E hx0 hT hΦ
    have hΦ : xΦad x0 E := hΦ
    refine ⟨fun k p hp => ?_, ?_⟩
    · have hk : k < 3 := (List.getElem?_eq_some_iff.mp hp).1
      have hk : k = 0 ∨ k = 1 ∨ k = 2 := by omega
      rcases hk with rfl | rfl | rfl
      · have hp : some (0, 4294967295) = some p := hp
        cases hp
        show ((0 : Nat) : Int) ≤ 0 + 2147483648 ∧ 0 + 2147483648 ≤ ((4294967295 : Nat) : Int)
        omega
      · have hp : some (0, 4294967295) = some p := hp
        cases hp
        show ((0 : Nat) : Int) ≤ x0 0 + 2147483648 ∧ x0 0 + 2147483648 ≤ ((4294967295 : Nat) : Int)
        have hx := hx0 0
        omega
      · have hp : some (0, 4294967295) = some p := hp
        cases hp
        show ((0 : Nat) : Int) ≤ x0 1 + 2147483648 ∧ x0 1 + 2147483648 ≤ ((4294967295 : Nat) : Int)
        have hx := hx0 1
        omega
    · show E = E ∧ (x0 0) = x0 0 ∧ (x0 1) = x0 1
      exact ⟨rfl, rfl, rfl⟩
  · intro x0 s Wg hRu hrx hT0 hΦ i v H hT hrv hInv hKc hFr0 hIH x hx ρ2 v2 N2 H2 locs lsB stA hAt hB hv hr2 hXs hag hfr hFr hT2
    rcases i with ⟨i, hi⟩
    have hi2 : i = 0 ∨ i = 1 := by omega
    rcases hi2 with rfl | rfl
    · have hx : x ∈ [zxftn_ax0] := hx
      have hag : ∀ k, k < 3 → v2 k = v k := hag
      have hfr : xFr [] _ _ := hfr
      have ex := List.mem_singleton.mp hx
      subst ex
      obtain ⟨hF, hBd, hM⟩ := hXs
      have r1 := hr2 1
      have r2 := hr2 2
      have g1 : v2 1 = v 1 := hag 1 (by decide)
      have g2 : v2 2 = v 2 := hag 2 (by decide)
      have e35_4 : xE (zyEl zymc B H2) 35 4 = xE (zyEl zymc B H) 35 4 := xFr_E hfr rfl
      have q35_4 : xE (zyEl zymc B H) 35 4 = xE (zyEl zymc B s.heap) 35 4 := xFr_E hFr0 rfl
      have e35_5 : xE (zyEl zymc B H2) 35 5 = xE (zyEl zymc B H) 35 5 := xFr_E hfr rfl
      have e35_6 : xE (zyEl zymc B H2) 35 6 = xE (zyEl zymc B H) 35 6 := xFr_E hfr rfl
      have e35_7 : xE (zyEl zymc B H2) 35 7 = xE (zyEl zymc B H) 35 7 := xFr_E hfr rfl
      have e35_8 : xE (zyEl zymc B H2) 35 8 = xE (zyEl zymc B H) 35 8 := xFr_E hfr rfl
      have e35_2 : xE (zyEl zymc B H2) 35 2 = xE (zyEl zymc B H) 35 2 := xFr_E hfr rfl
      have e35_3 : xE (zyEl zymc B H2) 35 3 = xE (zyEl zymc B H) 35 3 := xFr_E hfr rfl
      have e36 : ∀ i, xE (zyEl zymc B H2) 36 i = xE (zyEl zymc B H) 36 i := fun i => xFr_E hfr rfl
      have q36 : ∀ i, xE (zyEl zymc B H) 36 i = xE (zyEl zymc B s.heap) 36 i := fun i => xFr_E hFr0 rfl
      have hI : (zyEl zymc B H) = (zyEl zymc B s.heap) ∧ (v 1) = x0 0 ∧ (v 2) = x0 1 := hInv
      have q35_5 : xE (zyEl zymc B H) 35 5 = xE (zyEl zymc B s.heap) 35 5 := by rw [hI.1]
      have q35_6 : xE (zyEl zymc B H) 35 6 = xE (zyEl zymc B s.heap) 35 6 := by rw [hI.1]
      have q35_7 : xE (zyEl zymc B H) 35 7 = xE (zyEl zymc B s.heap) 35 7 := by rw [hI.1]
      have q35_8 : xE (zyEl zymc B H) 35 8 = xE (zyEl zymc B s.heap) 35 8 := by rw [hI.1]
      have q35_2 : xE (zyEl zymc B H) 35 2 = xE (zyEl zymc B s.heap) 35 2 := by rw [hI.1]
      have q35_3 : xE (zyEl zymc B H) 35 3 = xE (zyEl zymc B s.heap) 35 3 := by rw [hI.1]
      refine xCa hRu hIH hAt hB hv hFr (hfad B) (ix := 35) (ax := 1168) rfl rfl rfl hmefad ⟨_, rfl, rfl, by decide⟩ ⟨rfl, rfl, rfl⟩ (by decide) [] [] [] rfl ⟨rfl, rfl⟩ (by decide +kernel) xcs_n (by decide +kernel) ?_ (fun H3 r hT3 hf3 hFr3 hr3 hΨ3 => ?_)
      · show xΦad (xfv []) (zyEl zymc B H2)
        unfold xΦad
        have hP : xE (zyEl zymc B s.heap) 35 6 ≤ xE (zyEl zymc B s.heap) 35 4 := hΦ
        omega
      · have hΨ3 : xΨad (xfv []) (zyEl zymc B H2) (zyEl zymc B H3) r := hΨ3
        have d35_4 : xE (zyEl zymc B H3) 35 4 = xE (zyEl zymc B H2) 35 4 := xFr_E hf3 rfl
        have d35_2 : xE (zyEl zymc B H3) 35 2 = xE (zyEl zymc B H2) 35 2 := xFr_E hf3 rfl
        have d35_3 : xE (zyEl zymc B H3) 35 3 = xE (zyEl zymc B H2) 35 3 := xFr_E hf3 rfl
        have d36 : ∀ i, xE (zyEl zymc B H3) 36 i = xE (zyEl zymc B H2) 36 i := fun i => xFr_E hf3 rfl
        unfold xΨad xAD at hΨ3
        rw [show xE (zyEl zymc B H2) 36 = xE (zyEl zymc B s.heap) 36 from funext fun i => (e36 i).trans (q36 i), show xE (zyEl zymc B H2) 35 4 = xE (zyEl zymc B s.heap) 35 4 by omega, show xE (zyEl zymc B H2) 35 6 = xE (zyEl zymc B s.heap) 35 6 by omega] at hΨ3
        refine ⟨⟨1, by decide⟩, [0, 34359738369, 68719476737], [0, (v2 1), (v2 2)], rfl, ⟨by decide +kernel, ⟨rfl, by decide +kernel⟩, (xcs_c rfl (xcs_c rfl (xcs_c rfl xcs_n))), (xe_0 (xe_f (by omega) (xe_f (by omega) xe_n))), xkq_n⟩, (by rw [if_neg (by decide)]; exact xst_n), ?_, ?_⟩
        · show ((v2 1) : Int) = x0 0 ∧ ((v2 2) : Int) = x0 1 ∧ xE (zyEl zymc B H3) 35 6 = tNx (xE (zyEl zymc B s.heap) 36) (xE (zyEl zymc B s.heap) 35 4) (xE (zyEl zymc B s.heap) 35 6) ∧ xE (zyEl zymc B H3) 35 5 = tFr (xE (zyEl zymc B s.heap) 36) (xE (zyEl zymc B s.heap) 35 4) (xE (zyEl zymc B s.heap) 35 6) ∧ xE (zyEl zymc B H3) 35 7 = tKd (xE (zyEl zymc B s.heap) 36) (xE (zyEl zymc B s.heap) 35 4) (xE (zyEl zymc B s.heap) 35 6) ∧ (tKd (xE (zyEl zymc B s.heap) 36) (xE (zyEl zymc B s.heap) 35 4) (xE (zyEl zymc B s.heap) 35 6) = 3 → xE (zyEl zymc B H3) 35 8 = tNm (xE (zyEl zymc B s.heap) 36) (xE (zyEl zymc B s.heap) 35 4) (xE (zyEl zymc B s.heap) 35 6))
          exact ⟨by omega, by omega, hΨ3⟩
        · show 0 < 1
          omega
    · cases hx
  · intro x0 E0 E E2 hrx hT0 hΦ i v hT hrv hInv hKc hFr0 x hx v2 hr2 hXs hag hfr hFr hT2
    rcases i with ⟨i, hi⟩
    have hi2 : i = 0 ∨ i = 1 := by omega
    rcases hi2 with rfl | rfl
    · cases hx
    · have hx : x ∈ [zxftn_br0, zxftn_br1, zxftn_br2, zxftn_br3, zxftn_br4, zxftn_br5, zxftn_br6] := hx
      have hag : ∀ k, k < 3 → v2 k = v k := hag
      have hfr : xFr [(35, 2, 3)] _ _ := hfr
      rcases List.mem_cons.mp hx with ex | hx
      · subst ex
        obtain ⟨hF, hBd, hM⟩ := hXs
        have g1 : v2 1 = v 1 := hag 1 (by decide)
        have g2 : v2 2 = v 2 := hag 2 (by decide)
        have b0 : ((2147483652 : Nat) : Int) ≤ (v2 3) + 2147483648 ∧ (v2 3) + 2147483648 ≤ ((2147483653 : Nat) : Int) := xXb hBd 0 rfl
        have b1 : ((2147483648 : Nat) : Int) ≤ (v2 4) + 2147483648 ∧ (v2 4) + 2147483648 ≤ ((2147484548 : Nat) : Int) := xXb hBd 1 rfl
        have f0 : (0 : Int) ≤ 7 ∧ xE E 35 7 = (v2 3) := xXf hF 0 rfl
        have f1 : ¬ (v2 3) = 3 := xXf hF 1 rfl
        have f2 : ¬ (v2 3) = 1 := xXf hF 2 rfl
        have f3 : (0 : Int) ≤ 5 ∧ xE E 35 5 = (v2 4) := xXf hF 3 rfl
        have m0 : xE E2 35 2 = 2 := xXm hM 0 rfl
        have m1 : xE E2 35 3 = (v2 4) := xXm hM 1 rfl
        have e35_4 : xE E2 35 4 = xE E 35 4 := xFr_E hfr rfl
        have q35_4 : xE E 35 4 = xE E0 35 4 := xFr_E hFr0 rfl
        have e35_5 : xE E2 35 5 = xE E 35 5 := xFr_E hfr rfl
        have e35_6 : xE E2 35 6 = xE E 35 6 := xFr_E hfr rfl
        have e35_7 : xE E2 35 7 = xE E 35 7 := xFr_E hfr rfl
        have e35_8 : xE E2 35 8 = xE E 35 8 := xFr_E hfr rfl
        have e36 : ∀ i, xE E2 36 i = xE E 36 i := fun i => xFr_E hfr rfl
        have q36 : ∀ i, xE E 36 i = xE E0 36 i := fun i => xFr_E hFr0 rfl
        have hI : (v 1) = x0 0 ∧ (v 2) = x0 1 ∧ xE E 35 6 = tNx (xE E0 36) (xE E0 35 4) (xE E0 35 6) ∧ xE E 35 5 = tFr (xE E0 36) (xE E0 35 4) (xE E0 35 6) ∧ xE E 35 7 = tKd (xE E0 36) (xE E0 35 4) (xE E0 35 6) ∧ (tKd (xE E0 36) (xE E0 35 4) (xE E0 35 6) = 3 → xE E 35 8 = tNm (xE E0 36) (xE E0 35 4) (xE E0 35 6)) := hInv
        show xΨtn x0 E0 E2 0
        obtain ⟨i1, i2, i3, i4, i5, i6⟩ := hI
        have hm : pMis (xE E0 36) (xE E0 35 4) (xE E0 35 6) = if tKd (xE E0 36) (xE E0 35 4) (xE E0 35 6) = 1 then 1 else 2 := rfl
        unfold xΨtn xTN
        refine ⟨by omega, ?_⟩
        split
        · rename_i hk
          have i6 := i6 hk
          split <;> omega
        · rename_i hk
          by_cases h1 : tKd (xE E0 36) (xE E0 35 4) (xE E0 35 6) = 1
          · rw [if_pos h1] at hm
            omega
          · rw [if_neg h1] at hm
            omega
      · skip
        rcases List.mem_cons.mp hx with ex | hx
        · subst ex
          obtain ⟨hF, hBd, hM⟩ := hXs
          have g1 : v2 1 = v 1 := hag 1 (by decide)
          have g2 : v2 2 = v 2 := hag 2 (by decide)
          have b0 : ((2147483650 : Nat) : Int) ≤ (v2 3) + 2147483648 ∧ (v2 3) + 2147483648 ≤ ((2147483650 : Nat) : Int) := xXb hBd 0 rfl
          have b1 : ((2147483648 : Nat) : Int) ≤ (v2 4) + 2147483648 ∧ (v2 4) + 2147483648 ≤ ((2147484548 : Nat) : Int) := xXb hBd 1 rfl
          have f0 : (0 : Int) ≤ 7 ∧ xE E 35 7 = (v2 3) := xXf hF 0 rfl
          have f1 : ¬ (v2 3) = 3 := xXf hF 1 rfl
          have f2 : ¬ (v2 3) = 1 := xXf hF 2 rfl
          have f3 : (0 : Int) ≤ 5 ∧ xE E 35 5 = (v2 4) := xXf hF 3 rfl
          have m0 : xE E2 35 2 = 2 := xXm hM 0 rfl
          have m1 : xE E2 35 3 = (v2 4) := xXm hM 1 rfl
          have e35_4 : xE E2 35 4 = xE E 35 4 := xFr_E hfr rfl
          have q35_4 : xE E 35 4 = xE E0 35 4 := xFr_E hFr0 rfl
          have e35_5 : xE E2 35 5 = xE E 35 5 := xFr_E hfr rfl
          have e35_6 : xE E2 35 6 = xE E 35 6 := xFr_E hfr rfl
          have e35_7 : xE E2 35 7 = xE E 35 7 := xFr_E hfr rfl
          have e35_8 : xE E2 35 8 = xE E 35 8 := xFr_E hfr rfl
          have e36 : ∀ i, xE E2 36 i = xE E 36 i := fun i => xFr_E hfr rfl
          have q36 : ∀ i, xE E 36 i = xE E0 36 i := fun i => xFr_E hFr0 rfl
          have hI : (v 1) = x0 0 ∧ (v 2) = x0 1 ∧ xE E 35 6 = tNx (xE E0 36) (xE E0 35 4) (xE E0 35 6) ∧ xE E 35 5 = tFr (xE E0 36) (xE E0 35 4) (xE E0 35 6) ∧ xE E 35 7 = tKd (xE E0 36) (xE E0 35 4) (xE E0 35 6) ∧ (tKd (xE E0 36) (xE E0 35 4) (xE E0 35 6) = 3 → xE E 35 8 = tNm (xE E0 36) (xE E0 35 4) (xE E0 35 6)) := hInv
          show xΨtn x0 E0 E2 0
          obtain ⟨i1, i2, i3, i4, i5, i6⟩ := hI
          have hm : pMis (xE E0 36) (xE E0 35 4) (xE E0 35 6) = if tKd (xE E0 36) (xE E0 35 4) (xE E0 35 6) = 1 then 1 else 2 := rfl
          unfold xΨtn xTN
          refine ⟨by omega, ?_⟩
          split
          · rename_i hk
            have i6 := i6 hk
            split <;> omega
          · rename_i hk
            by_cases h1 : tKd (xE E0 36) (xE E0 35 4) (xE E0 35 6) = 1
            · rw [if_pos h1] at hm
              omega
            · rw [if_neg h1] at hm
              omega
        · skip
          rcases List.mem_cons.mp hx with ex | hx
          · subst ex
            obtain ⟨hF, hBd, hM⟩ := hXs
            have g1 : v2 1 = v 1 := hag 1 (by decide)
            have g2 : v2 2 = v 2 := hag 2 (by decide)
            have b0 : ((2147483648 : Nat) : Int) ≤ (v2 3) + 2147483648 ∧ (v2 3) + 2147483648 ≤ ((2147483648 : Nat) : Int) := xXb hBd 0 rfl
            have b1 : ((2147483648 : Nat) : Int) ≤ (v2 4) + 2147483648 ∧ (v2 4) + 2147483648 ≤ ((2147484548 : Nat) : Int) := xXb hBd 1 rfl
            have f0 : (0 : Int) ≤ 7 ∧ xE E 35 7 = (v2 3) := xXf hF 0 rfl
            have f1 : ¬ (v2 3) = 3 := xXf hF 1 rfl
            have f2 : ¬ (v2 3) = 1 := xXf hF 2 rfl
            have f3 : (0 : Int) ≤ 5 ∧ xE E 35 5 = (v2 4) := xXf hF 3 rfl
            have m0 : xE E2 35 2 = 2 := xXm hM 0 rfl
            have m1 : xE E2 35 3 = (v2 4) := xXm hM 1 rfl
            have e35_4 : xE E2 35 4 = xE E 35 4 := xFr_E hfr rfl
            have q35_4 : xE E 35 4 = xE E0 35 4 := xFr_E hFr0 rfl
            have e35_5 : xE E2 35 5 = xE E 35 5 := xFr_E hfr rfl
            have e35_6 : xE E2 35 6 = xE E 35 6 := xFr_E hfr rfl
            have e35_7 : xE E2 35 7 = xE E 35 7 := xFr_E hfr rfl
            have e35_8 : xE E2 35 8 = xE E 35 8 := xFr_E hfr rfl
            have e36 : ∀ i, xE E2 36 i = xE E 36 i := fun i => xFr_E hfr rfl
            have q36 : ∀ i, xE E 36 i = xE E0 36 i := fun i => xFr_E hFr0 rfl
            have hI : (v 1) = x0 0 ∧ (v 2) = x0 1 ∧ xE E 35 6 = tNx (xE E0 36) (xE E0 35 4) (xE E0 35 6) ∧ xE E 35 5 = tFr (xE E0 36) (xE E0 35 4) (xE E0 35 6) ∧ xE E 35 7 = tKd (xE E0 36) (xE E0 35 4) (xE E0 35 6) ∧ (tKd (xE E0 36) (xE E0 35 4) (xE E0 35 6) = 3 → xE E 35 8 = tNm (xE E0 36) (xE E0 35 4) (xE E0 35 6)) := hInv
            show xΨtn x0 E0 E2 0
            obtain ⟨i1, i2, i3, i4, i5, i6⟩ := hI
            have hm : pMis (xE E0 36) (xE E0 35 4) (xE E0 35 6) = if tKd (xE E0 36) (xE E0 35 4) (xE E0 35 6) = 1 then 1 else 2 := rfl
            unfold xΨtn xTN
            refine ⟨by omega, ?_⟩
            split
            · rename_i hk
              have i6 := i6 hk
              split <;> omega
            · rename_i hk
              by_cases h1 : tKd (xE E0 36) (xE E0 35 4) (xE E0 35 6) = 1
              · rw [if_pos h1] at hm
                omega
              · rw [if_neg h1] at hm
                omega
          · skip
            rcases List.mem_cons.mp hx with ex | hx
            · subst ex
              obtain ⟨hF, hBd, hM⟩ := hXs
              have g1 : v2 1 = v 1 := hag 1 (by decide)
              have g2 : v2 2 = v 2 := hag 2 (by decide)
              have b0 : ((2147483649 : Nat) : Int) ≤ (v2 3) + 2147483648 ∧ (v2 3) + 2147483648 ≤ ((2147483649 : Nat) : Int) := xXb hBd 0 rfl
              have b1 : ((2147483648 : Nat) : Int) ≤ (v2 4) + 2147483648 ∧ (v2 4) + 2147483648 ≤ ((2147484548 : Nat) : Int) := xXb hBd 1 rfl
              have f0 : (0 : Int) ≤ 7 ∧ xE E 35 7 = (v2 3) := xXf hF 0 rfl
              have f1 : ¬ (v2 3) = 3 := xXf hF 1 rfl
              have f2 : (v2 3) = 1 := xXf hF 2 rfl
              have f3 : (0 : Int) ≤ 5 ∧ xE E 35 5 = (v2 4) := xXf hF 3 rfl
              have m0 : xE E2 35 2 = 1 := xXm hM 0 rfl
              have m1 : xE E2 35 3 = (v2 4) := xXm hM 1 rfl
              have e35_4 : xE E2 35 4 = xE E 35 4 := xFr_E hfr rfl
              have q35_4 : xE E 35 4 = xE E0 35 4 := xFr_E hFr0 rfl
              have e35_5 : xE E2 35 5 = xE E 35 5 := xFr_E hfr rfl
              have e35_6 : xE E2 35 6 = xE E 35 6 := xFr_E hfr rfl
              have e35_7 : xE E2 35 7 = xE E 35 7 := xFr_E hfr rfl
              have e35_8 : xE E2 35 8 = xE E 35 8 := xFr_E hfr rfl
              have e36 : ∀ i, xE E2 36 i = xE E 36 i := fun i => xFr_E hfr rfl
              have q36 : ∀ i, xE E 36 i = xE E0 36 i := fun i => xFr_E hFr0 rfl
              have hI : (v 1) = x0 0 ∧ (v 2) = x0 1 ∧ xE E 35 6 = tNx (xE E0 36) (xE E0 35 4) (xE E0 35 6) ∧ xE E 35 5 = tFr (xE E0 36) (xE E0 35 4) (xE E0 35 6) ∧ xE E 35 7 = tKd (xE E0 36) (xE E0 35 4) (xE E0 35 6) ∧ (tKd (xE E0 36) (xE E0 35 4) (xE E0 35 6) = 3 → xE E 35 8 = tNm (xE E0 36) (xE E0 35 4) (xE E0 35 6)) := hInv
              show xΨtn x0 E0 E2 0
              obtain ⟨i1, i2, i3, i4, i5, i6⟩ := hI
              have hm : pMis (xE E0 36) (xE E0 35 4) (xE E0 35 6) = if tKd (xE E0 36) (xE E0 35 4) (xE E0 35 6) = 1 then 1 else 2 := rfl
              unfold xΨtn xTN
              refine ⟨by omega, ?_⟩
              split
              · rename_i hk
                have i6 := i6 hk
                split <;> omega
              · rename_i hk
                by_cases h1 : tKd (xE E0 36) (xE E0 35 4) (xE E0 35 6) = 1
                · rw [if_pos h1] at hm
                  omega
                · rw [if_neg h1] at hm
                  omega
            · skip
              rcases List.mem_cons.mp hx with ex | hx
              · subst ex
                obtain ⟨hF, hBd, hM⟩ := hXs
                have g1 : v2 1 = v 1 := hag 1 (by decide)
                have g2 : v2 2 = v 2 := hag 2 (by decide)
                have b0 : ((1 : Nat) : Int) ≤ (v2 1) + 2147483648 ∧ (v2 1) + 2147483648 ≤ ((4294967295 : Nat) : Int) := xXb hBd 0 rfl
                have b1 : ((2147483651 : Nat) : Int) ≤ (v2 3) + 2147483648 ∧ (v2 3) + 2147483648 ≤ ((2147483651 : Nat) : Int) := xXb hBd 1 rfl
                have b2 : ((0 : Nat) : Int) ≤ (v2 4) + 2147483648 ∧ (v2 4) + 2147483648 ≤ ((4294967294 : Nat) : Int) := xXb hBd 2 rfl
                have b3 : ((2147483648 : Nat) : Int) ≤ (v2 5) + 2147483648 ∧ (v2 5) + 2147483648 ≤ ((2147484548 : Nat) : Int) := xXb hBd 3 rfl
                have f0 : (0 : Int) ≤ 7 ∧ xE E 35 7 = (v2 3) := xXf hF 0 rfl
                have f1 : (v2 3) = 3 := xXf hF 1 rfl
                have f2 : (0 : Int) ≤ 8 ∧ xE E 35 8 = (v2 4) := xXf hF 2 rfl
                have f3 : (v2 4) < (v2 1) := xXf hF 3 rfl
                have f4 : (0 : Int) ≤ 5 ∧ xE E 35 5 = (v2 5) := xXf hF 4 rfl
                have m0 : xE E2 35 2 = 3 := xXm hM 0 rfl
                have m1 : xE E2 35 3 = (v2 5) := xXm hM 1 rfl
                have e35_4 : xE E2 35 4 = xE E 35 4 := xFr_E hfr rfl
                have q35_4 : xE E 35 4 = xE E0 35 4 := xFr_E hFr0 rfl
                have e35_5 : xE E2 35 5 = xE E 35 5 := xFr_E hfr rfl
                have e35_6 : xE E2 35 6 = xE E 35 6 := xFr_E hfr rfl
                have e35_7 : xE E2 35 7 = xE E 35 7 := xFr_E hfr rfl
                have e35_8 : xE E2 35 8 = xE E 35 8 := xFr_E hfr rfl
                have e36 : ∀ i, xE E2 36 i = xE E 36 i := fun i => xFr_E hfr rfl
                have q36 : ∀ i, xE E 36 i = xE E0 36 i := fun i => xFr_E hFr0 rfl
                have hI : (v 1) = x0 0 ∧ (v 2) = x0 1 ∧ xE E 35 6 = tNx (xE E0 36) (xE E0 35 4) (xE E0 35 6) ∧ xE E 35 5 = tFr (xE E0 36) (xE E0 35 4) (xE E0 35 6) ∧ xE E 35 7 = tKd (xE E0 36) (xE E0 35 4) (xE E0 35 6) ∧ (tKd (xE E0 36) (xE E0 35 4) (xE E0 35 6) = 3 → xE E 35 8 = tNm (xE E0 36) (xE E0 35 4) (xE E0 35 6)) := hInv
                show xΨtn x0 E0 E2 0
                obtain ⟨i1, i2, i3, i4, i5, i6⟩ := hI
                have hm : pMis (xE E0 36) (xE E0 35 4) (xE E0 35 6) = if tKd (xE E0 36) (xE E0 35 4) (xE E0 35 6) = 1 then 1 else 2 := rfl
                unfold xΨtn xTN
                refine ⟨by omega, ?_⟩
                split
                · rename_i hk
                  have i6 := i6 hk
                  split <;> omega
                · rename_i hk
                  by_cases h1 : tKd (xE E0 36) (xE E0 35 4) (xE E0 35 6) = 1
                  · rw [if_pos h1] at hm
                    omega
                  · rw [if_neg h1] at hm
                    omega
              · skip
                rcases List.mem_cons.mp hx with ex | hx
                · subst ex
                  obtain ⟨hF, hBd, hM⟩ := hXs
                  have r1 := hr2 1
                  have g1 : v2 1 = v 1 := hag 1 (by decide)
                  have g2 : v2 2 = v 2 := hag 2 (by decide)
                  have b0 : ((0 : Nat) : Int) ≤ (v2 2) + 2147483648 ∧ (v2 2) + 2147483648 ≤ ((4294967294 : Nat) : Int) := xXb hBd 0 rfl
                  have b1 : ((2147483651 : Nat) : Int) ≤ (v2 3) + 2147483648 ∧ (v2 3) + 2147483648 ≤ ((2147483651 : Nat) : Int) := xXb hBd 1 rfl
                  have b2 : ((1 : Nat) : Int) ≤ (v2 4) + 2147483648 ∧ (v2 4) + 2147483648 ≤ ((4294967295 : Nat) : Int) := xXb hBd 2 rfl
                  have b3 : ((2147483648 : Nat) : Int) ≤ (v2 5) + 2147483648 ∧ (v2 5) + 2147483648 ≤ ((2147484548 : Nat) : Int) := xXb hBd 3 rfl
                  have f0 : (0 : Int) ≤ 7 ∧ xE E 35 7 = (v2 3) := xXf hF 0 rfl
                  have f1 : (v2 3) = 3 := xXf hF 1 rfl
                  have f2 : (0 : Int) ≤ 8 ∧ xE E 35 8 = (v2 4) := xXf hF 2 rfl
                  have f3 : (v2 1) ≤ (v2 4) := xXf hF 3 rfl
                  have f4 : (v2 2) < (v2 4) := xXf hF 4 rfl
                  have f5 : (0 : Int) ≤ 5 ∧ xE E 35 5 = (v2 5) := xXf hF 5 rfl
                  have m0 : xE E2 35 2 = 3 := xXm hM 0 rfl
                  have m1 : xE E2 35 3 = (v2 5) := xXm hM 1 rfl
                  have e35_4 : xE E2 35 4 = xE E 35 4 := xFr_E hfr rfl
                  have q35_4 : xE E 35 4 = xE E0 35 4 := xFr_E hFr0 rfl
                  have e35_5 : xE E2 35 5 = xE E 35 5 := xFr_E hfr rfl
                  have e35_6 : xE E2 35 6 = xE E 35 6 := xFr_E hfr rfl
                  have e35_7 : xE E2 35 7 = xE E 35 7 := xFr_E hfr rfl
                  have e35_8 : xE E2 35 8 = xE E 35 8 := xFr_E hfr rfl
                  have e36 : ∀ i, xE E2 36 i = xE E 36 i := fun i => xFr_E hfr rfl
                  have q36 : ∀ i, xE E 36 i = xE E0 36 i := fun i => xFr_E hFr0 rfl
                  have hI : (v 1) = x0 0 ∧ (v 2) = x0 1 ∧ xE E 35 6 = tNx (xE E0 36) (xE E0 35 4) (xE E0 35 6) ∧ xE E 35 5 = tFr (xE E0 36) (xE E0 35 4) (xE E0 35 6) ∧ xE E 35 7 = tKd (xE E0 36) (xE E0 35 4) (xE E0 35 6) ∧ (tKd (xE E0 36) (xE E0 35 4) (xE E0 35 6) = 3 → xE E 35 8 = tNm (xE E0 36) (xE E0 35 4) (xE E0 35 6)) := hInv
                  show xΨtn x0 E0 E2 0
                  obtain ⟨i1, i2, i3, i4, i5, i6⟩ := hI
                  have hm : pMis (xE E0 36) (xE E0 35 4) (xE E0 35 6) = if tKd (xE E0 36) (xE E0 35 4) (xE E0 35 6) = 1 then 1 else 2 := rfl
                  unfold xΨtn xTN
                  refine ⟨by omega, ?_⟩
                  split
                  · rename_i hk
                    have i6 := i6 hk
                    split <;> omega
                  · rename_i hk
                    by_cases h1 : tKd (xE E0 36) (xE E0 35 4) (xE E0 35 6) = 1
                    · rw [if_pos h1] at hm
                      omega
                    · rw [if_neg h1] at hm
                      omega
                · skip
                  have ex := List.mem_singleton.mp hx
                  subst ex
                  obtain ⟨hF, hBd, hM⟩ := hXs
                  have r1 := hr2 1
                  have r2 := hr2 2
                  have r4 := hr2 4
                  have g1 : v2 1 = v 1 := hag 1 (by decide)
                  have g2 : v2 2 = v 2 := hag 2 (by decide)
                  have b0 : ((2147483651 : Nat) : Int) ≤ (v2 3) + 2147483648 ∧ (v2 3) + 2147483648 ≤ ((2147483651 : Nat) : Int) := xXb hBd 0 rfl
                  have f0 : (0 : Int) ≤ 7 ∧ xE E 35 7 = (v2 3) := xXf hF 0 rfl
                  have f1 : (v2 3) = 3 := xXf hF 1 rfl
                  have f2 : (0 : Int) ≤ 8 ∧ xE E 35 8 = (v2 4) := xXf hF 2 rfl
                  have f3 : (v2 1) ≤ (v2 4) := xXf hF 3 rfl
                  have f4 : (v2 4) ≤ (v2 2) := xXf hF 4 rfl
                  have e35_4 : xE E2 35 4 = xE E 35 4 := xFr_E hfr rfl
                  have q35_4 : xE E 35 4 = xE E0 35 4 := xFr_E hFr0 rfl
                  have e35_5 : xE E2 35 5 = xE E 35 5 := xFr_E hfr rfl
                  have e35_6 : xE E2 35 6 = xE E 35 6 := xFr_E hfr rfl
                  have e35_7 : xE E2 35 7 = xE E 35 7 := xFr_E hfr rfl
                  have e35_8 : xE E2 35 8 = xE E 35 8 := xFr_E hfr rfl
                  have e36 : ∀ i, xE E2 36 i = xE E 36 i := fun i => xFr_E hfr rfl
                  have q36 : ∀ i, xE E 36 i = xE E0 36 i := fun i => xFr_E hFr0 rfl
                  have hI : (v 1) = x0 0 ∧ (v 2) = x0 1 ∧ xE E 35 6 = tNx (xE E0 36) (xE E0 35 4) (xE E0 35 6) ∧ xE E 35 5 = tFr (xE E0 36) (xE E0 35 4) (xE E0 35 6) ∧ xE E 35 7 = tKd (xE E0 36) (xE E0 35 4) (xE E0 35 6) ∧ (tKd (xE E0 36) (xE E0 35 4) (xE E0 35 6) = 3 → xE E 35 8 = tNm (xE E0 36) (xE E0 35 4) (xE E0 35 6)) := hInv
                  show xΨtn x0 E0 E2 1
                  obtain ⟨i1, i2, i3, i4, i5, i6⟩ := hI
                  have hm : pMis (xE E0 36) (xE E0 35 4) (xE E0 35 6) = if tKd (xE E0 36) (xE E0 35 4) (xE E0 35 6) = 1 then 1 else 2 := rfl
                  unfold xΨtn xTN
                  refine ⟨by omega, ?_⟩
                  split
                  · rename_i hk
                    have i6 := i6 hk
                    split <;> omega
                  · rename_i hk
                    by_cases h1 : tKd (xE E0 36) (xE E0 35 4) (xE E0 35 6) = 1
                    · rw [if_pos h1] at hm
                      omega
                    · rw [if_neg h1] at hm
                      omega
noncomputable def fpfts : zyR := [(35, 2, 3), (35, 5, 8)]
theorem zyfts_run : zyrS zymc zxi68 (68, 0, 0, 2, 0) 3 zpfts (fun _ _ => []) zFfts zSfts zXfts zRfts 2 = true := by decide +kernel
theorem zyfts_ck : zyAll (fun i => xsubR (zFfts i) fpfts && ((zXfts i).all xckX && (zRfts i).all (fun x => xckX x && xrtB true x))) 2 = true := by decide +kernel
def xIfts (i : Nat) (x0 : Nat → Int) (E0 : zyEm) (v : Nat → Int) (E : zyEm) : Prop := if i = 0 then (E = E0) else (xE E 35 6 = tNx (xE E0 36) (xE E0 35 4) (xE E0 35 6) ∧ xE E 35 5 = tFr (xE E0 36) (xE E0 35 4) (xE E0 35 6) ∧ xE E 35 7 = tKd (xE E0 36) (xE E0 35 4) (xE E0 35 6) ∧ (tKd (xE E0 36) (xE E0 35 4) (xE E0 35 6) = 3 → xE E 35 8 = tNm (xE E0 36) (xE E0 35 4) (xE E0 35 6)))
def xMfts (i : Nat) (x0 : Nat → Int) (E0 : zyEm) (v : Nat → Int) (E : zyEm) : Nat := if i = 0 then (1) else (0)
theorem xTs {l : Launch} {en : zEn} {me : zMe} (hen : zG zxMeta 68 = some en) (hme : zG zMeth 68 = some me) : xFc l zymc en me 3 [35] 0 fpfts true xΦad xΨts := by
  have een : zG zxMeta 68 = some (zxi68, 1, 1, 5, 68, 0, 0, 2, 0) := rfl
  obtain ⟨me1, hme1, hOK⟩ := zall hen
  rw [hme] at hme1
  cases hme1
  rw [een] at hen
  cases hen
  have hr := zyfts_run
  have hck := fun i hi => zyAll_iff zyfts_ck i hi
  simp only [Bool.and_eq_true] at hck
  obtain ⟨mefad, hmefad, -⟩ := zall (show zG zxMeta 73 = some (zxi73, 1, 1, 5, 73, 0, 0, 0, 0) from rfl)
  have hfad := xAd (l := l) (show zG zxMeta 73 = some (zxi73, 1, 1, 5, 73, 0, 0, 0, 0) from rfl) hmefad
  intro B
  refine xcut (mi := zymc) (B := B) hOK rfl rfl (ι := Fin 2) (fun i => zpfts i.val) (fun _ _ => []) (fun i => zFfts i.val) (fun i => zSfts i.val) (fun i => zXfts i.val) (fun i => zRfts i.val) (fun i y2 ct en2 me2 h => by cases h) 200000 (fun i => zyAll_iff hr i.val i.isLt) (fun i => (hck i.val i.isLt).1) (fun i => (hck i.val i.isLt).2.1) (fun i => (hck i.val i.isLt).2.2) ⟨0, by decide⟩ ⟨rfl, rfl, rfl, rfl⟩ ⟨by decide, by decide⟩ (fun i x0 E0 v E => xIfts i.val x0 E0 v E) (fun i x0 E0 v E => xMfts i.val x0 E0 v E) ?_ ?_ ?_
  · intro x0 E hx0 hT hΦ
    have hΦ : xΦad x0 E := hΦ
    refine ⟨fun k p hp => ?_, ?_⟩
    · have hk : k < 1 := (List.getElem?_eq_some_iff.mp hp).1
      have hk : k = 0 := by omega
      rcases hk with rfl
      · have hp : some (0, 4294967295) = some p := hp
        cases hp
        show ((0 : Nat) : Int) ≤ 0 + 2147483648 ∧ 0 + 2147483648 ≤ ((4294967295 : Nat) : Int)
        omega
    · show E = E
      rfl
  · intro x0 s Wg hRu hrx hT0 hΦ i v H hT hrv hInv hKc hFr0 hIH x hx ρ2 v2 N2 H2 locs lsB stA hAt hB hv hr2 hXs hag hfr hFr hT2
    rcases i with ⟨i, hi⟩
    have hi2 : i = 0 ∨ i = 1 := by omega
    rcases hi2 with rfl | rfl
    · have hx : x ∈ [zxfts_ax0] := hx
      have hag : ∀ k, k < 1 → v2 k = v k := hag
      have hfr : xFr [] _ _ := hfr
      have ex := List.mem_singleton.mp hx
      subst ex
      obtain ⟨hF, hBd, hM⟩ := hXs
      have e35_4 : xE (zyEl zymc B H2) 35 4 = xE (zyEl zymc B H) 35 4 := xFr_E hfr rfl
      have q35_4 : xE (zyEl zymc B H) 35 4 = xE (zyEl zymc B s.heap) 35 4 := xFr_E hFr0 rfl
      have e35_5 : xE (zyEl zymc B H2) 35 5 = xE (zyEl zymc B H) 35 5 := xFr_E hfr rfl
      have e35_6 : xE (zyEl zymc B H2) 35 6 = xE (zyEl zymc B H) 35 6 := xFr_E hfr rfl
      have e35_7 : xE (zyEl zymc B H2) 35 7 = xE (zyEl zymc B H) 35 7 := xFr_E hfr rfl
      have e35_8 : xE (zyEl zymc B H2) 35 8 = xE (zyEl zymc B H) 35 8 := xFr_E hfr rfl
      have e35_2 : xE (zyEl zymc B H2) 35 2 = xE (zyEl zymc B H) 35 2 := xFr_E hfr rfl
      have e35_3 : xE (zyEl zymc B H2) 35 3 = xE (zyEl zymc B H) 35 3 := xFr_E hfr rfl
      have e36 : ∀ i, xE (zyEl zymc B H2) 36 i = xE (zyEl zymc B H) 36 i := fun i => xFr_E hfr rfl
      have q36 : ∀ i, xE (zyEl zymc B H) 36 i = xE (zyEl zymc B s.heap) 36 i := fun i => xFr_E hFr0 rfl
      have hI : (zyEl zymc B H) = (zyEl zymc B s.heap) := hInv
      have q35_5 : xE (zyEl zymc B H) 35 5 = xE (zyEl zymc B s.heap) 35 5 := by rw [hI]
      have q35_6 : xE (zyEl zymc B H) 35 6 = xE (zyEl zymc B s.heap) 35 6 := by rw [hI]
      have q35_7 : xE (zyEl zymc B H) 35 7 = xE (zyEl zymc B s.heap) 35 7 := by rw [hI]
      have q35_8 : xE (zyEl zymc B H) 35 8 = xE (zyEl zymc B s.heap) 35 8 := by rw [hI]
      have q35_2 : xE (zyEl zymc B H) 35 2 = xE (zyEl zymc B s.heap) 35 2 := by rw [hI]
      have q35_3 : xE (zyEl zymc B H) 35 3 = xE (zyEl zymc B s.heap) 35 3 := by rw [hI]
      refine xCa hRu hIH hAt hB hv hFr (hfad B) (ix := 35) (ax := 1168) rfl rfl rfl hmefad ⟨_, rfl, rfl, by decide⟩ ⟨rfl, rfl, rfl⟩ (by decide) [] [] [] rfl ⟨rfl, rfl⟩ (by decide +kernel) xcs_n (by decide +kernel) ?_ (fun H3 r hT3 hf3 hFr3 hr3 hΨ3 => ?_)
      · show xΦad (xfv []) (zyEl zymc B H2)
        unfold xΦad
        have hP : xE (zyEl zymc B s.heap) 35 6 ≤ xE (zyEl zymc B s.heap) 35 4 := hΦ
        omega
      · have hΨ3 : xΨad (xfv []) (zyEl zymc B H2) (zyEl zymc B H3) r := hΨ3
        have d35_4 : xE (zyEl zymc B H3) 35 4 = xE (zyEl zymc B H2) 35 4 := xFr_E hf3 rfl
        have d35_2 : xE (zyEl zymc B H3) 35 2 = xE (zyEl zymc B H2) 35 2 := xFr_E hf3 rfl
        have d35_3 : xE (zyEl zymc B H3) 35 3 = xE (zyEl zymc B H2) 35 3 := xFr_E hf3 rfl
        have d36 : ∀ i, xE (zyEl zymc B H3) 36 i = xE (zyEl zymc B H2) 36 i := fun i => xFr_E hf3 rfl
        unfold xΨad xAD at hΨ3
        rw [show xE (zyEl zymc B H2) 36 = xE (zyEl zymc B s.heap) 36 from funext fun i => (e36 i).trans (q36 i), show xE (zyEl zymc B H2) 35 4 = xE (zyEl zymc B s.heap) 35 4 by omega, show xE (zyEl zymc B H2) 35 6 = xE (zyEl zymc B s.heap) 35 6 by omega] at hΨ3
        refine ⟨⟨1, by decide⟩, [0], [0], rfl, ⟨by decide +kernel, ⟨rfl, by decide +kernel⟩, (xcs_c rfl xcs_n), (xe_0 xe_n), xkq_n⟩, (by rw [if_neg (by decide)]; exact xst_n), ?_, ?_⟩
        · show xE (zyEl zymc B H3) 35 6 = tNx (xE (zyEl zymc B s.heap) 36) (xE (zyEl zymc B s.heap) 35 4) (xE (zyEl zymc B s.heap) 35 6) ∧ xE (zyEl zymc B H3) 35 5 = tFr (xE (zyEl zymc B s.heap) 36) (xE (zyEl zymc B s.heap) 35 4) (xE (zyEl zymc B s.heap) 35 6) ∧ xE (zyEl zymc B H3) 35 7 = tKd (xE (zyEl zymc B s.heap) 36) (xE (zyEl zymc B s.heap) 35 4) (xE (zyEl zymc B s.heap) 35 6) ∧ (tKd (xE (zyEl zymc B s.heap) 36) (xE (zyEl zymc B s.heap) 35 4) (xE (zyEl zymc B s.heap) 35 6) = 3 → xE (zyEl zymc B H3) 35 8 = tNm (xE (zyEl zymc B s.heap) 36) (xE (zyEl zymc B s.heap) 35 4) (xE (zyEl zymc B s.heap) 35 6))
          exact hΨ3
        · show 0 < 1
          omega
    · cases hx
  · intro x0 E0 E E2 hrx hT0 hΦ i v hT hrv hInv hKc hFr0 x hx v2 hr2 hXs hag hfr hFr hT2
    rcases i with ⟨i, hi⟩
    have hi2 : i = 0 ∨ i = 1 := by omega
    rcases hi2 with rfl | rfl
    · cases hx
    · have hx : x ∈ [zxfts_br0, zxfts_br1, zxfts_br2, zxfts_br3] := hx
      have hag : ∀ k, k < 1 → v2 k = v k := hag
      have hfr : xFr [(35, 2, 3)] _ _ := hfr
      rcases List.mem_cons.mp hx with ex | hx
      · subst ex
        obtain ⟨hF, hBd, hM⟩ := hXs
        have b0 : ((2147483650 : Nat) : Int) ≤ (v2 1) + 2147483648 ∧ (v2 1) + 2147483648 ≤ ((2147483652 : Nat) : Int) := xXb hBd 0 rfl
        have b1 : ((2147483648 : Nat) : Int) ≤ (v2 2) + 2147483648 ∧ (v2 2) + 2147483648 ≤ ((2147484548 : Nat) : Int) := xXb hBd 1 rfl
        have f0 : (0 : Int) ≤ 7 ∧ xE E 35 7 = (v2 1) := xXf hF 0 rfl
        have f1 : ¬ (v2 1) = 5 := xXf hF 1 rfl
        have f2 : ¬ (v2 1) = 1 := xXf hF 2 rfl
        have f3 : (0 : Int) ≤ 5 ∧ xE E 35 5 = (v2 2) := xXf hF 3 rfl
        have m0 : xE E2 35 2 = 2 := xXm hM 0 rfl
        have m1 : xE E2 35 3 = (v2 2) := xXm hM 1 rfl
        have e35_4 : xE E2 35 4 = xE E 35 4 := xFr_E hfr rfl
        have q35_4 : xE E 35 4 = xE E0 35 4 := xFr_E hFr0 rfl
        have e35_5 : xE E2 35 5 = xE E 35 5 := xFr_E hfr rfl
        have e35_6 : xE E2 35 6 = xE E 35 6 := xFr_E hfr rfl
        have e35_7 : xE E2 35 7 = xE E 35 7 := xFr_E hfr rfl
        have e35_8 : xE E2 35 8 = xE E 35 8 := xFr_E hfr rfl
        have e36 : ∀ i, xE E2 36 i = xE E 36 i := fun i => xFr_E hfr rfl
        have q36 : ∀ i, xE E 36 i = xE E0 36 i := fun i => xFr_E hFr0 rfl
        have hI : xE E 35 6 = tNx (xE E0 36) (xE E0 35 4) (xE E0 35 6) ∧ xE E 35 5 = tFr (xE E0 36) (xE E0 35 4) (xE E0 35 6) ∧ xE E 35 7 = tKd (xE E0 36) (xE E0 35 4) (xE E0 35 6) ∧ (tKd (xE E0 36) (xE E0 35 4) (xE E0 35 6) = 3 → xE E 35 8 = tNm (xE E0 36) (xE E0 35 4) (xE E0 35 6)) := hInv
        show xΨts x0 E0 E2 0
        obtain ⟨i3, i4, i5, i6⟩ := hI
        have hm : pMis (xE E0 36) (xE E0 35 4) (xE E0 35 6) = if tKd (xE E0 36) (xE E0 35 4) (xE E0 35 6) = 1 then 1 else 2 := rfl
        unfold xΨts xTS
        split
        · omega
        · rename_i hk
          by_cases h1 : tKd (xE E0 36) (xE E0 35 4) (xE E0 35 6) = 1
          · rw [if_pos h1] at hm
            omega
          · rw [if_neg h1] at hm
            omega
      · skip
        rcases List.mem_cons.mp hx with ex | hx
        · subst ex
          obtain ⟨hF, hBd, hM⟩ := hXs
          have b0 : ((2147483648 : Nat) : Int) ≤ (v2 1) + 2147483648 ∧ (v2 1) + 2147483648 ≤ ((2147483648 : Nat) : Int) := xXb hBd 0 rfl
          have b1 : ((2147483648 : Nat) : Int) ≤ (v2 2) + 2147483648 ∧ (v2 2) + 2147483648 ≤ ((2147484548 : Nat) : Int) := xXb hBd 1 rfl
          have f0 : (0 : Int) ≤ 7 ∧ xE E 35 7 = (v2 1) := xXf hF 0 rfl
          have f1 : ¬ (v2 1) = 5 := xXf hF 1 rfl
          have f2 : ¬ (v2 1) = 1 := xXf hF 2 rfl
          have f3 : (0 : Int) ≤ 5 ∧ xE E 35 5 = (v2 2) := xXf hF 3 rfl
          have m0 : xE E2 35 2 = 2 := xXm hM 0 rfl
          have m1 : xE E2 35 3 = (v2 2) := xXm hM 1 rfl
          have e35_4 : xE E2 35 4 = xE E 35 4 := xFr_E hfr rfl
          have q35_4 : xE E 35 4 = xE E0 35 4 := xFr_E hFr0 rfl
          have e35_5 : xE E2 35 5 = xE E 35 5 := xFr_E hfr rfl
          have e35_6 : xE E2 35 6 = xE E 35 6 := xFr_E hfr rfl
          have e35_7 : xE E2 35 7 = xE E 35 7 := xFr_E hfr rfl
          have e35_8 : xE E2 35 8 = xE E 35 8 := xFr_E hfr rfl
          have e36 : ∀ i, xE E2 36 i = xE E 36 i := fun i => xFr_E hfr rfl
          have q36 : ∀ i, xE E 36 i = xE E0 36 i := fun i => xFr_E hFr0 rfl
          have hI : xE E 35 6 = tNx (xE E0 36) (xE E0 35 4) (xE E0 35 6) ∧ xE E 35 5 = tFr (xE E0 36) (xE E0 35 4) (xE E0 35 6) ∧ xE E 35 7 = tKd (xE E0 36) (xE E0 35 4) (xE E0 35 6) ∧ (tKd (xE E0 36) (xE E0 35 4) (xE E0 35 6) = 3 → xE E 35 8 = tNm (xE E0 36) (xE E0 35 4) (xE E0 35 6)) := hInv
          show xΨts x0 E0 E2 0
          obtain ⟨i3, i4, i5, i6⟩ := hI
          have hm : pMis (xE E0 36) (xE E0 35 4) (xE E0 35 6) = if tKd (xE E0 36) (xE E0 35 4) (xE E0 35 6) = 1 then 1 else 2 := rfl
          unfold xΨts xTS
          split
          · omega
          · rename_i hk
            by_cases h1 : tKd (xE E0 36) (xE E0 35 4) (xE E0 35 6) = 1
            · rw [if_pos h1] at hm
              omega
            · rw [if_neg h1] at hm
              omega
        · skip
          rcases List.mem_cons.mp hx with ex | hx
          · subst ex
            obtain ⟨hF, hBd, hM⟩ := hXs
            have b0 : ((2147483649 : Nat) : Int) ≤ (v2 1) + 2147483648 ∧ (v2 1) + 2147483648 ≤ ((2147483649 : Nat) : Int) := xXb hBd 0 rfl
            have b1 : ((2147483648 : Nat) : Int) ≤ (v2 2) + 2147483648 ∧ (v2 2) + 2147483648 ≤ ((2147484548 : Nat) : Int) := xXb hBd 1 rfl
            have f0 : (0 : Int) ≤ 7 ∧ xE E 35 7 = (v2 1) := xXf hF 0 rfl
            have f1 : ¬ (v2 1) = 5 := xXf hF 1 rfl
            have f2 : (v2 1) = 1 := xXf hF 2 rfl
            have f3 : (0 : Int) ≤ 5 ∧ xE E 35 5 = (v2 2) := xXf hF 3 rfl
            have m0 : xE E2 35 2 = 1 := xXm hM 0 rfl
            have m1 : xE E2 35 3 = (v2 2) := xXm hM 1 rfl
            have e35_4 : xE E2 35 4 = xE E 35 4 := xFr_E hfr rfl
            have q35_4 : xE E 35 4 = xE E0 35 4 := xFr_E hFr0 rfl
            have e35_5 : xE E2 35 5 = xE E 35 5 := xFr_E hfr rfl
            have e35_6 : xE E2 35 6 = xE E 35 6 := xFr_E hfr rfl
            have e35_7 : xE E2 35 7 = xE E 35 7 := xFr_E hfr rfl
            have e35_8 : xE E2 35 8 = xE E 35 8 := xFr_E hfr rfl
            have e36 : ∀ i, xE E2 36 i = xE E 36 i := fun i => xFr_E hfr rfl
            have q36 : ∀ i, xE E 36 i = xE E0 36 i := fun i => xFr_E hFr0 rfl
            have hI : xE E 35 6 = tNx (xE E0 36) (xE E0 35 4) (xE E0 35 6) ∧ xE E 35 5 = tFr (xE E0 36) (xE E0 35 4) (xE E0 35 6) ∧ xE E 35 7 = tKd (xE E0 36) (xE E0 35 4) (xE E0 35 6) ∧ (tKd (xE E0 36) (xE E0 35 4) (xE E0 35 6) = 3 → xE E 35 8 = tNm (xE E0 36) (xE E0 35 4) (xE E0 35 6)) := hInv
            show xΨts x0 E0 E2 0
            obtain ⟨i3, i4, i5, i6⟩ := hI
            have hm : pMis (xE E0 36) (xE E0 35 4) (xE E0 35 6) = if tKd (xE E0 36) (xE E0 35 4) (xE E0 35 6) = 1 then 1 else 2 := rfl
            unfold xΨts xTS
            split
            · omega
            · rename_i hk
              by_cases h1 : tKd (xE E0 36) (xE E0 35 4) (xE E0 35 6) = 1
              · rw [if_pos h1] at hm
                omega
              · rw [if_neg h1] at hm
                omega
          · skip
            have ex := List.mem_singleton.mp hx
            subst ex
            obtain ⟨hF, hBd, hM⟩ := hXs
            have b0 : ((2147483653 : Nat) : Int) ≤ (v2 1) + 2147483648 ∧ (v2 1) + 2147483648 ≤ ((2147483653 : Nat) : Int) := xXb hBd 0 rfl
            have f0 : (0 : Int) ≤ 7 ∧ xE E 35 7 = (v2 1) := xXf hF 0 rfl
            have f1 : (v2 1) = 5 := xXf hF 1 rfl
            have e35_4 : xE E2 35 4 = xE E 35 4 := xFr_E hfr rfl
            have q35_4 : xE E 35 4 = xE E0 35 4 := xFr_E hFr0 rfl
            have e35_5 : xE E2 35 5 = xE E 35 5 := xFr_E hfr rfl
            have e35_6 : xE E2 35 6 = xE E 35 6 := xFr_E hfr rfl
            have e35_7 : xE E2 35 7 = xE E 35 7 := xFr_E hfr rfl
            have e35_8 : xE E2 35 8 = xE E 35 8 := xFr_E hfr rfl
            have e36 : ∀ i, xE E2 36 i = xE E 36 i := fun i => xFr_E hfr rfl
            have q36 : ∀ i, xE E 36 i = xE E0 36 i := fun i => xFr_E hFr0 rfl
            have hI : xE E 35 6 = tNx (xE E0 36) (xE E0 35 4) (xE E0 35 6) ∧ xE E 35 5 = tFr (xE E0 36) (xE E0 35 4) (xE E0 35 6) ∧ xE E 35 7 = tKd (xE E0 36) (xE E0 35 4) (xE E0 35 6) ∧ (tKd (xE E0 36) (xE E0 35 4) (xE E0 35 6) = 3 → xE E 35 8 = tNm (xE E0 36) (xE E0 35 4) (xE E0 35 6)) := hInv
            show xΨts x0 E0 E2 1
            obtain ⟨i3, i4, i5, i6⟩ := hI
            have hm : pMis (xE E0 36) (xE E0 35 4) (xE E0 35 6) = if tKd (xE E0 36) (xE E0 35 4) (xE E0 35 6) = 1 then 1 else 2 := rfl
            unfold xΨts xTS
            split
            · omega
            · rename_i hk
              by_cases h1 : tKd (xE E0 36) (xE E0 35 4) (xE E0 35 6) = 1
              · rw [if_pos h1] at hm
                omega
              · rw [if_neg h1] at hm
                omega
end
section
/-! THE CLASS's plans as cells (printed by ms2.py) -/
section XTN
variable {T : Int → Int} {n p lo hi : Int} {E2 : zyEm} {r : Int}
theorem xtn_1 (h : xTN T n p lo hi E2 r) (hr : ¬ r = 0) : r = 1 ∧ tKd T n p = 3 ∧ lo ≤ tNm T n p ∧ tNm T n p ≤ hi ∧ xE E2 35 6 = tNx T n p ∧ xE E2 35 8 = tNm T n p ∧ ∀ k, pNum T n p lo hi k = k (xE E2 35 8) (xE E2 35 6) := by
  unfold xTN at h
  have h := h.2
  split at h
  · rename_i h1
    split at h
    · rename_i h2
      exact ⟨h.1, h1, h2.1, h2.2, h.2.1, h.2.2, fun k => by unfold pNum; rw [if_pos h1, if_pos h2, h.2.1, h.2.2]⟩
    · exact absurd h.1 hr
  · exact absurd h.1 hr
theorem xtn_0 (h : xTN T n p lo hi E2 r) (hr : r = 0) : ∀ k, pNum T n p lo hi k = .error (xE E2 35 2, xE E2 35 3) := by
  intro k
  unfold xTN at h
  have h := h.2
  unfold pNum
  split at h
  · rename_i h1
    split at h
    · omega
    · rename_i h2
      rw [if_pos h1, if_neg h2, h.2.1, h.2.2]
  · rename_i h1
    rw [if_neg h1, h.2.1, h.2.2]
theorem xts_1 (h : xTS T n p E2 r) (hr : ¬ r = 0) (S : Int → Int) : r = 1 ∧ tKd T n p = 5 ∧ pSem T n p S = .ok (xE E2 35 6, S) := by
  unfold xTS at h
  unfold pSem
  split at h
  · rename_i h1
    rw [if_pos h1, h.2]
    exact ⟨h.1, h1, rfl⟩
  · exact absurd h.1 hr
theorem xts_0 (h : xTS T n p E2 r) (hr : r = 0) (S : Int → Int) : pSem T n p S = .error (xE E2 35 2, xE E2 35 3) := by
  unfold xTS at h
  unfold pSem
  split at h
  · omega
  · rename_i h1
    rw [if_neg h1, h.2.1, h.2.2]
theorem xtn_r (h : xTN T n p lo hi E2 r) : r = 0 ∨ r = 1 := by
  unfold xTN at h
  have h := h.2
  split at h
  · split at h
    · exact Or.inr h.1
    · exact Or.inl h.1
  · exact Or.inl h.1
theorem xts_r (h : xTS T n p E2 r) : r = 0 ∨ r = 1 := by
  unfold xTS at h
  split at h
  · exact Or.inr h.1
  · exact Or.inl h.1
theorem xFr_n {E E2 : zyEm} (h : xFr [] E E2) : E2 = E := by
  funext a k
  exact h a k rfl
end XTN
/-- plan at place 1 -/
def xAb0 (E : zyEm) (S : Int → Int) : Prop := (1 ≤ S 0 ∧ S 0 ≤ 4 ∧ 1 ≤ S 1 ∧ S 1 ≤ 5 ∧ 0 ≤ S 2 ∧ S 2 ≤ 8 ∧ S 5 ≤ 60) ∧ (xE E 2 0 = S 0 ∧ xE E 2 1 = S 1 ∧ xE E 2 2 = sN (S 0) (S 1) ∧ xE E 2 3 = gN (S 0) (S 1)) ∧ (∀ s, 0 ≤ s → s < sN (S 0) (S 1) → xE E 4 s = pF (S 0) (S 1) s) ∧ (xE E 1 5 = S 2 ∧ ∀ b, 0 ≤ b → b < S 2 → xE E 14 b = S (136 + b) ∧ xE E 15 b = S (152 + b)) ∧ (∀ g, 0 ≤ g → g < 31 → xE E 10 g = S (8 + g) ∧ xE E 11 g = S (40 + g) ∧ xE E 12 g = S (72 + g) ∧ xE E 13 g = S (104 + g)) ∧ ((xE E 1 8 = 0 ∧ S 5 = -1) ∨ (xE E 1 8 = 1 ∧ S 5 = xE E 16 1)) ∧ ∀ k, 0 ≤ k → k < S 5 → xE E 17 k = S (460 + k)
/-- what a reader answers -/
def xOut0 (R : pR) (E2 : zyEm) (r : Int) : Prop := match R with
  | .ok (p, S) => r = 1 ∧ xE E2 35 6 = p ∧ xAb0 E2 S
  | .error (w, a) => r = 0 ∧ xE E2 35 2 = w ∧ xE E2 35 3 = a
theorem xOut0_e {w a r : Int} {E2 : zyEm} {k : Int → (Int → Int) → pR} (h1 : r = 0) (h2 : xE E2 35 2 = w) (h3 : xE E2 35 3 = a) : xOut0 (pBind (.error (w, a)) k) E2 r := ⟨h1, h2, h3⟩
theorem xOut0_f {w a r : Int} {E2 : zyEm} (h1 : r = 0) (h2 : xE E2 35 2 = w) (h3 : xE E2 35 3 = a) : xOut0 (.error (w, a)) E2 r := ⟨h1, h2, h3⟩
theorem xOut0_k {p r : Int} {S : Int → Int} {E2 : zyEm} (h1 : r = 1) (h2 : xE E2 35 6 = p) (h3 : xAb0 E2 S) : xOut0 (.ok (p, S)) E2 r := ⟨h1, h2, h3⟩
def xΦrd0 (_ : Nat → Int) (E : zyEm) : Prop := xE E 35 6 ≤ xE E 35 4 ∧ ∃ S, xAb0 E S
/-- plan at place 18 -/
def xAb17 (E : zyEm) (S : Int → Int) : Prop := (1 ≤ S 0 ∧ S 0 ≤ 4 ∧ 1 ≤ S 1 ∧ S 1 ≤ 5 ∧ 0 ≤ S 2 ∧ S 2 ≤ 8 ∧ S 5 ≤ 60) ∧ (xE E 19 0 = S 0 ∧ xE E 19 1 = S 1 ∧ xE E 19 2 = sN (S 0) (S 1) ∧ xE E 19 3 = gN (S 0) (S 1)) ∧ (∀ s, 0 ≤ s → s < sN (S 0) (S 1) → xE E 21 s = pF (S 0) (S 1) s) ∧ (xE E 18 5 = S 2 ∧ ∀ b, 0 ≤ b → b < S 2 → xE E 31 b = S (136 + b) ∧ xE E 32 b = S (152 + b)) ∧ (∀ g, 0 ≤ g → g < 31 → xE E 27 g = S (8 + g) ∧ xE E 28 g = S (40 + g) ∧ xE E 29 g = S (72 + g) ∧ xE E 30 g = S (104 + g)) ∧ ((xE E 18 8 = 0 ∧ S 5 = -1) ∨ (xE E 18 8 = 1 ∧ S 5 = xE E 33 1)) ∧ ∀ k, 0 ≤ k → k < S 5 → xE E 34 k = S (460 + k)
/-- what a reader answers -/
def xOut17 (R : pR) (E2 : zyEm) (r : Int) : Prop := match R with
  | .ok (p, S) => r = 1 ∧ xE E2 35 6 = p ∧ xAb17 E2 S
  | .error (w, a) => r = 0 ∧ xE E2 35 2 = w ∧ xE E2 35 3 = a
theorem xOut17_e {w a r : Int} {E2 : zyEm} {k : Int → (Int → Int) → pR} (h1 : r = 0) (h2 : xE E2 35 2 = w) (h3 : xE E2 35 3 = a) : xOut17 (pBind (.error (w, a)) k) E2 r := ⟨h1, h2, h3⟩
theorem xOut17_f {w a r : Int} {E2 : zyEm} (h1 : r = 0) (h2 : xE E2 35 2 = w) (h3 : xE E2 35 3 = a) : xOut17 (.error (w, a)) E2 r := ⟨h1, h2, h3⟩
theorem xOut17_k {p r : Int} {S : Int → Int} {E2 : zyEm} (h1 : r = 1) (h2 : xE E2 35 6 = p) (h3 : xAb17 E2 S) : xOut17 (.ok (p, S)) E2 r := ⟨h1, h2, h3⟩
def xΦrd17 (_ : Nat → Int) (E : zyEm) : Prop := xE E 35 6 ≤ xE E 35 4 ∧ ∃ S, xAb17 E S
end
section
/-! THE CLASS reads: readSwitch, plan at place 1 -/
noncomputable def zxfrs0_ax0 : zyXp := (11, [283, 11, 13, 13, 13], [206158430201, 0, 283], [(24, 171798691841, 2, 24)], [(171798691841, 2147483648, 2147483679), (206158430201, 2147483647, 2147483678)], [])
noncomputable def zpfrs0_a : zyPh := (0, [283, 11, 13, 13, 13], [(0, 4294967295), (0, 4294967295), (0, 4294967295), (0, 4294967295), (0, 4294967295)], [], [])
noncomputable def zxfrs0_bx0 : zyXp := (27, [283, 11, 206158430209, 13, 13], [8, 0, 283], [(23, 0, 171798691841, 0), (24, 206158430209, 35, 64)], [(171798691841, 2147483649, 2147483649)], [])
noncomputable def zxfrs0_br0 : zyXp := (0, [], [0], [(22, 0, 171798691841, 0)], [(171798691841, 2147483648, 2147483648)], [])
noncomputable def zpfrs0_b : zyPh := (14, [283, 11, 13, 13, 13], [(0, 4294967295), (0, 4294967295), (0, 4294967295), (0, 4294967295), (0, 4294967295), (2147483648, 2147483649)], [], [171798691841])
noncomputable def zxfrs0_cx0 : zyXp := (43, [283, 11, 68719476737, 206158430209, 8], [], [(23, 0, 171798691841, 0), (24, 206158430209, 35, 64)], [(68719476737, 2147483648, 2147483678), (171798691841, 2147483649, 2147483649)], [])
noncomputable def zxfrs0_cr0 : zyXp := (0, [], [0], [(22, 0, 171798691841, 0)], [(171798691841, 2147483648, 2147483648)], [])
noncomputable def zpfrs0_c : zyPh := (30, [283, 11, 68719476737, 13, 13], [(0, 4294967295), (0, 4294967295), (2147483648, 2147483678), (0, 4294967295), (0, 4294967295), (2147483648, 2147483649)], [], [171798691841])
noncomputable def zxfrs0_dx0 : zyXp := (50, [283, 11, 68719476737, 103079215105, 137438953473], [283], [(21, 0, 32, 137438953473)], [(68719476737, 2147483648, 2147483678), (103079215105, 2147483648, 2147483679), (137438953473, 2147483649, 2147483652)], [])
noncomputable def zxfrs0_dr0 : zyXp := (0, [], [0], [(20, 0, 32, 137438953473), (24, 171798691841, 35, 40)], [(137438953473, 2147483653, 2147483653), (171798691841, 2147483648, 2147484548)], [(573442, 48), (573443, 171798691841)])
noncomputable def zpfrs0_d : zyPh := (43, [283, 11, 68719476737, 103079215105, 137438953473], [(0, 4294967295), (0, 4294967295), (2147483648, 2147483678), (2147483648, 2147483679), (2147483649, 2147483653)], [], [])
noncomputable def zxfrs0_ex0 : zyXp := (43, [283, 11, 68719476737, 274877906945, 137438953481], [], [(24, 171798691841, 35, 56), (23, 0, 171798691841, 40), (22, 0, 171798691841, 24), (24, 206158430209, 35, 64), (21, 0, 206158430209, 0), (21, 0, 8, 206158430209), (8, 240518168577, 206158430209, 137438953473), (7, 274877906945, 103079215105, 240518168577)], [(68719476737, 2147483648, 2147483678), (103079215105, 2147483648, 2147483679), (137438953473, 2147483649, 2147483652), (171798691841, 2147483651, 2147483651), (206158430209, 2147483648, 2147483649), (240518168577, 2147483648, 2147483664), (274877906945, 2147483648, 2147483679), (137438953481, 2147483650, 2147483653)], [])
noncomputable def zxfrs0_ex1 : zyXp := (67, [283, 11, 68719476737, 103079215105, 137438953473], [103079215105, 68719476737, 83], [(24, 171798691841, 35, 56), (22, 0, 171798691841, 40)], [(68719476737, 2147483648, 2147483678), (103079215105, 2147483648, 2147483679), (137438953473, 2147483649, 2147483652), (171798691841, 2147483653, 2147483653)], [])
noncomputable def zxfrs0_er0 : zyXp := (0, [], [0], [(24, 171798691841, 35, 56), (23, 0, 171798691841, 40), (23, 0, 171798691841, 24), (23, 0, 171798691841, 8), (24, 206158430209, 35, 40)], [(171798691841, 2147483652, 2147483652), (206158430209, 2147483648, 2147484548)], [(573442, 16), (573443, 206158430209)])
noncomputable def zxfrs0_er1 : zyXp := (0, [], [0], [(24, 171798691841, 35, 56), (23, 0, 171798691841, 40), (23, 0, 171798691841, 24), (23, 0, 171798691841, 8), (24, 206158430209, 35, 40)], [(171798691841, 2147483650, 2147483650), (206158430209, 2147483648, 2147484548)], [(573442, 16), (573443, 206158430209)])
noncomputable def zxfrs0_er2 : zyXp := (0, [], [0], [(24, 171798691841, 35, 56), (23, 0, 171798691841, 40), (23, 0, 171798691841, 24), (23, 0, 171798691841, 8), (24, 206158430209, 35, 40)], [(171798691841, 2147483648, 2147483648), (206158430209, 2147483648, 2147484548)], [(573442, 16), (573443, 206158430209)])
noncomputable def zxfrs0_er3 : zyXp := (0, [], [0], [(24, 171798691841, 35, 56), (23, 0, 171798691841, 40), (23, 0, 171798691841, 24), (22, 0, 171798691841, 8), (24, 206158430209, 35, 40)], [(171798691841, 2147483649, 2147483649), (206158430209, 2147483648, 2147484548)], [(573442, 8), (573443, 206158430209)])
noncomputable def zxfrs0_er4 : zyXp := (0, [], [0], [(24, 171798691841, 35, 56), (23, 0, 171798691841, 40), (22, 0, 171798691841, 24), (24, 206158430209, 35, 64), (20, 0, 206158430209, 0), (24, 240518168577, 35, 40)], [(171798691841, 2147483651, 2147483651), (206158430209, 0, 2147483647), (240518168577, 2147483648, 2147484548)], [(573442, 24), (573443, 240518168577)])
noncomputable def zxfrs0_er5 : zyXp := (0, [], [0], [(24, 171798691841, 35, 56), (23, 0, 171798691841, 40), (22, 0, 171798691841, 24), (24, 206158430209, 35, 64), (21, 0, 206158430209, 0), (20, 0, 8, 206158430209), (24, 240518168577, 35, 40)], [(171798691841, 2147483651, 2147483651), (206158430209, 2147483650, 4294967295), (240518168577, 2147483648, 2147484548)], [(573442, 24), (573443, 240518168577)])
noncomputable def zpfrs0_e : zyPh := (53, [283, 11, 68719476737, 103079215105, 137438953473], [(0, 4294967295), (0, 4294967295), (2147483648, 2147483678), (2147483648, 2147483679), (2147483649, 2147483652)], [], [])
noncomputable def zxfrs0_fx0 : zyXp := (75, [283, 11, 68719476737, 103079215105, 137438953473], [137438953473, 68719476737, 91], [], [(68719476737, 2147483648, 2147483678), (103079215105, 2147483648, 2147483679), (137438953473, 2147483649, 2147483652)], [])
noncomputable def zpfrs0_f : zyPh := (68, [283, 11, 68719476737, 103079215105, 137438953473], [(0, 4294967295), (0, 4294967295), (2147483648, 2147483678), (2147483648, 2147483679), (2147483649, 2147483652)], [], [])
noncomputable def zxfrs0_gr0 : zyXp := (0, [], [8], [], [], [])
noncomputable def zpfrs0_g : zyPh := (76, [283, 11, 13, 13, 13], [(0, 4294967295), (0, 4294967295), (0, 4294967295), (0, 4294967295), (0, 4294967295)], [], [])
noncomputable def zpfrs0 (i : Nat) : zyPh := zif (Nat.beq i 0) (zpfrs0_a) (zif (Nat.beq i 1) (zpfrs0_b) (zif (Nat.beq i 2) (zpfrs0_c) (zif (Nat.beq i 3) (zpfrs0_d) (zif (Nat.beq i 4) (zpfrs0_e) (zif (Nat.beq i 5) (zpfrs0_f) (zpfrs0_g))))))
noncomputable def zXfrs0 (i : Nat) : List zyXp := zif (Nat.beq i 0) ([zxfrs0_ax0]) (zif (Nat.beq i 1) ([zxfrs0_bx0]) (zif (Nat.beq i 2) ([zxfrs0_cx0]) (zif (Nat.beq i 3) ([zxfrs0_dx0]) (zif (Nat.beq i 4) ([zxfrs0_ex0, zxfrs0_ex1]) (zif (Nat.beq i 5) ([zxfrs0_fx0]) ([]))))))
noncomputable def zRfrs0 (i : Nat) : List zyXp := zif (Nat.beq i 0) ([]) (zif (Nat.beq i 1) ([zxfrs0_br0]) (zif (Nat.beq i 2) ([zxfrs0_cr0]) (zif (Nat.beq i 3) ([zxfrs0_dr0]) (zif (Nat.beq i 4) ([zxfrs0_er0, zxfrs0_er1, zxfrs0_er2, zxfrs0_er3, zxfrs0_er4, zxfrs0_er5]) (zif (Nat.beq i 5) ([]) ([zxfrs0_gr0]))))))
noncomputable def zFfrs0 (i : Nat) : zyR := zif (Nat.beq i 0) ([]) (zif (Nat.beq i 1) ([]) (zif (Nat.beq i 2) ([]) (zif (Nat.beq i 3) ([(35, 2, 3)]) (zif (Nat.beq i 4) ([(35, 2, 3)]) (zif (Nat.beq i 5) ([]) ([]))))))
noncomputable def zSfrs0 (i : Nat) : Nat := zif (Nat.beq i 0) (0) (zif (Nat.beq i 1) (0) (zif (Nat.beq i 2) (0) (zif (Nat.beq i 3) (0) (zif (Nat.beq i 4) (0) (zif (Nat.beq i 5) (0) (0))))))
theorem xAb0_sw {E E2 : zyEm} {S : Int → Int} {g b l : Int} (h : xAb0 E S) (hg : 0 ≤ g ∧ g < 31) (hf : xFr [(35, 2, 3), (35, 5, 8), (10, 0, 30), (11, 0, 30)] E E2) (h1 : xE E2 10 g = b) (h2 : ∀ k, 0 ≤ k → ¬ k = g → xE E2 10 k = xE E 10 k) (h3 : xE E2 11 g = l) (h4 : ∀ k, 0 ≤ k → ¬ k = g → xE E2 11 k = xE E 11 k) : xAb0 E2 (uS (uS S (8 + g) b) (40 + g) l) := by
  obtain ⟨a0, a1, a2, a3, a4, a5, a6⟩ := h
  have u : ∀ j, ¬ j = 8 + g → ¬ j = 40 + g → uS (uS S (8 + g) b) (40 + g) l j = S j := fun j h1 h2 => (uS_n h2).trans (uS_n h1)
  have u0 := u 0 (by omega) (by omega)
  have u1 := u 1 (by omega) (by omega)
  have u2 := u 2 (by omega) (by omega)
  have u5 := u 5 (by omega) (by omega)
  refine ⟨by rw [u0, u1, u2, u5]; exact a0, ?_, ?_, ?_, ?_, ?_, ?_⟩
  · rw [u0, u1, xFr_E hf rfl, xFr_E hf rfl, xFr_E hf rfl, xFr_E hf rfl]
    exact a1
  · intro s s0 s1
    rw [u0, u1] at s1 ⊢
    rw [xFr_E hf rfl]
    exact a2 s s0 s1
  · rw [u2, xFr_E hf rfl]
    refine ⟨a3.1, fun k k0 k1 => ?_⟩
    rw [u (136 + k) (by omega) (by omega), u (152 + k) (by omega) (by omega), xFr_E hf rfl, xFr_E hf rfl]
    exact a3.2 k k0 k1
  · intro k k0 k1
    have w := a4 k k0 k1
    rw [u (72 + k) (by omega) (by omega), u (104 + k) (by omega) (by omega), xFr_E (a := 12) (i := k) hf rfl, xFr_E (a := 13) (i := k) hf rfl]
    by_cases e : k = g
    · subst e
      refine ⟨?_, ?_, w.2.2.1, w.2.2.2⟩
      · rw [uS_n (by omega), uS_e rfl, h1]
      · rw [uS_e rfl, h3]
    · refine ⟨?_, ?_, w.2.2.1, w.2.2.2⟩
      · rw [u (8 + k) (by omega) (by omega), h2 k k0 e]
        exact w.1
      · rw [u (40 + k) (by omega) (by omega), h4 k k0 e]
        exact w.2.1
  · rw [u5, xFr_E hf rfl, xFr_E hf rfl]
    exact a5
  · intro k k0 k1
    rw [u5] at k1
    rw [u (460 + k) (by omega) (by omega), xFr_E hf rfl]
    exact a6 k k0 k1
def xΨfrs0 (_ : Nat → Int) (E E2 : zyEm) (r : Int) : Prop := ∀ S, xAb0 E S → xOut0 (pBind (pSwitch (xE E 36) (xE E 35 4) (xE E 35 6) S) (pSem (xE E 36) (xE E 35 4))) E2 r
noncomputable def fpfrs0 : zyR := [(35, 2, 3), (35, 5, 8), (10, 0, 30), (11, 0, 30)]
theorem zyfrs0_run : zyrS zymc zxi62 (62, 0, 0, 2, 0) 4 zpfrs0 (fun _ _ => []) zFfrs0 zSfrs0 zXfrs0 zRfrs0 7 = true := by decide +kernel
theorem zyfrs0_ck : zyAll (fun i => xsubR (zFfrs0 i) fpfrs0 && ((zXfrs0 i).all xckX && (zRfrs0 i).all (fun x => xckX x && xrtB true x))) 7 = true := by decide +kernel
def xIfrs0 (i : Nat) (x0 : Nat → Int) (E0 : zyEm) (v : Nat → Int) (E : zyEm) : Prop := if i = 0 then (E = E0) else if i = 1 then (xTN (xE E0 36) (xE E0 35 4) (xE E0 35 6) 0 (xE E0 2 3 - 1) E (v 5) ∧ (∀ k, xE E 10 k = xE E0 10 k) ∧ (∀ k, xE E 11 k = xE E0 11 k)) else if i = 2 then ((0 ≤ (v 2) ∧ (v 2) < xE E0 2 3) ∧ ∃ p1, p1 ≤ (xE E0 35 4) ∧ (∀ S, xAb0 E0 S → pSwitch (xE E0 36) (xE E0 35 4) (xE E0 35 6) S = pNum (xE E0 36) (xE E0 35 4) p1 0 1 (fun b p2 => pBits (xE E0 36) (xE E0 35 4) S (v 2) 3 p2 1 b)) ∧ xTN (xE E0 36) (xE E0 35 4) p1 0 1 E (v 5) ∧ (∀ k, xE E 10 k = xE E0 10 k) ∧ (∀ k, xE E 11 k = xE E0 11 k)) else if i = 3 then ((0 ≤ (v 2) ∧ (v 2) < xE E0 2 3) ∧ xE E 35 6 ≤ (xE E0 35 4) ∧ ((∀ k, xE E 10 k = xE E0 10 k) ∧ (∀ k, xE E 11 k = xE E0 11 k)) ∧ ((1 ≤ (v 4) ∧ (v 4) ≤ 4 ∧ ∀ S, xAb0 E0 S → pSwitch (xE E0 36) (xE E0 35 4) (xE E0 35 6) S = pBits (xE E0 36) (xE E0 35 4) S (v 2) (4 - (v 4)).toNat (xE E 35 6) (v 4) (v 3)) ∨ ((v 4) = 5 ∧ ∀ S, xAb0 E0 S → pSwitch (xE E0 36) (xE E0 35 4) (xE E0 35 6) S = .error (6, xE E 35 5)))) else if i = 4 then ((0 ≤ (v 2) ∧ (v 2) < xE E0 2 3) ∧ (1 ≤ (v 4) ∧ (v 4) ≤ 4) ∧ ∃ p1, p1 ≤ (xE E0 35 4) ∧ (∀ S, xAb0 E0 S → pSwitch (xE E0 36) (xE E0 35 4) (xE E0 35 6) S = pBits (xE E0 36) (xE E0 35 4) S (v 2) (4 - (v 4)).toNat p1 (v 4) (v 3)) ∧ xAD (xE E0 36) (xE E0 35 4) p1 E ∧ (∀ k, xE E 10 k = xE E0 10 k) ∧ (∀ k, xE E 11 k = xE E0 11 k)) else if i = 5 then ((0 ≤ (v 2) ∧ (v 2) < xE E0 2 3) ∧ (∀ S, xAb0 E0 S → pBind (pSwitch (xE E0 36) (xE E0 35 4) (xE E0 35 6) S) (pSem (xE E0 36) (xE E0 35 4)) = .ok (xE E 35 6, uS (uS S (8 + (v 2)) (v 3)) (40 + (v 2)) (v 4))) ∧ xE E 10 (v 2) = (v 3) ∧ (∀ k, 0 ≤ k → ¬ k = (v 2) → xE E 10 k = xE E0 10 k) ∧ ∀ k, xE E 11 k = xE E0 11 k) else (∃ g b l, (0 ≤ g ∧ g < xE E0 2 3) ∧ (∀ S, xAb0 E0 S → pBind (pSwitch (xE E0 36) (xE E0 35 4) (xE E0 35 6) S) (pSem (xE E0 36) (xE E0 35 4)) = .ok (xE E 35 6, uS (uS S (8 + g) b) (40 + g) l)) ∧ xE E 10 g = b ∧ (∀ k, 0 ≤ k → ¬ k = g → xE E 10 k = xE E0 10 k) ∧ xE E 11 g = l ∧ (∀ k, 0 ≤ k → ¬ k = g → xE E 11 k = xE E0 11 k))
def xMfrs0 (i : Nat) (x0 : Nat → Int) (E0 : zyEm) (v : Nat → Int) (E : zyEm) : Nat := if i = 0 then (100) else if i = 1 then (99) else if i = 2 then (98) else if i = 3 then (50 + 2 * (10 - (v 4)).toNat) else if i = 4 then (49 + 2 * (10 - (v 4)).toNat) else if i = 5 then (2) else (1)
theorem xRs0 {l : Launch} {en : zEn} {me : zMe} (hen : zG zxMeta 62 = some en) (hme : zG zMeth 62 = some me) : xFc l zymc en me 4 [35, 1] 0 fpfrs0 true xΦrd0 xΨfrs0 := by
  have een : zG zxMeta 62 = some (zxi62, 2, 5, 5, 62, 0, 0, 2, 0) := rfl
  obtain ⟨me1, hme1, hOK⟩ := zall hen
  rw [hme] at hme1
  cases hme1
  rw [een] at hen
  cases hen
  have hr := zyfrs0_run
  have hck := fun i hi => zyAll_iff zyfrs0_ck i hi
  simp only [Bool.and_eq_true] at hck
  obtain ⟨meftn, hmeftn, -⟩ := zall (show zG zxMeta 69 = some (zxi69, 3, 3, 5, 69, 0, 0, 2, 0) from rfl)
  have hftn := xTn (l := l) (show zG zxMeta 69 = some (zxi69, 3, 3, 5, 69, 0, 0, 2, 0) from rfl) hmeftn
  obtain ⟨mefad, hmefad, -⟩ := zall (show zG zxMeta 73 = some (zxi73, 1, 1, 5, 73, 0, 0, 0, 0) from rfl)
  have hfad := xAd (l := l) (show zG zxMeta 73 = some (zxi73, 1, 1, 5, 73, 0, 0, 0, 0) from rfl) hmefad
  intro B
  refine xcut (mi := zymc) (B := B) hOK rfl rfl (ι := Fin 7) (fun i => zpfrs0 i.val) (fun _ _ => []) (fun i => zFfrs0 i.val) (fun i => zSfrs0 i.val) (fun i => zXfrs0 i.val) (fun i => zRfrs0 i.val) (fun i y2 ct en2 me2 h => by cases h) 200000 (fun i => zyAll_iff hr i.val i.isLt) (fun i => (hck i.val i.isLt).1) (fun i => (hck i.val i.isLt).2.1) (fun i => (hck i.val i.isLt).2.2) ⟨0, by decide⟩ ⟨rfl, rfl, rfl, rfl⟩ ⟨by decide, by decide⟩ (fun i x0 E0 v E => xIfrs0 i.val x0 E0 v E) (fun i x0 E0 v E => xMfrs0 i.val x0 E0 v E) ?_ ?_ ?_
  · intro x0 E hx0 hT hΦ
    have hΦ : xΦrd0 x0 E := hΦ
    refine ⟨fun k p hp => ?_, ?_⟩
    · have hk : k < 5 := (List.getElem?_eq_some_iff.mp hp).1
      have hk : k = 0 ∨ k = 1 ∨ k = 2 ∨ k = 3 ∨ k = 4 := by omega
      rcases hk with rfl | rfl | rfl | rfl | rfl
      · have hp : some (0, 4294967295) = some p := hp
        cases hp
        show ((0 : Nat) : Int) ≤ 0 + 2147483648 ∧ 0 + 2147483648 ≤ ((4294967295 : Nat) : Int)
        omega
      · have hp : some (0, 4294967295) = some p := hp
        cases hp
        show ((0 : Nat) : Int) ≤ 0 + 2147483648 ∧ 0 + 2147483648 ≤ ((4294967295 : Nat) : Int)
        omega
      · have hp : some (0, 4294967295) = some p := hp
        cases hp
        show ((0 : Nat) : Int) ≤ x0 0 + 2147483648 ∧ x0 0 + 2147483648 ≤ ((4294967295 : Nat) : Int)
        have hx := hx0 0
        omega
      · have hp : some (0, 4294967295) = some p := hp
        cases hp
        show ((0 : Nat) : Int) ≤ x0 1 + 2147483648 ∧ x0 1 + 2147483648 ≤ ((4294967295 : Nat) : Int)
        have hx := hx0 1
        omega
      · have hp : some (0, 4294967295) = some p := hp
        cases hp
        show ((0 : Nat) : Int) ≤ x0 2 + 2147483648 ∧ x0 2 + 2147483648 ≤ ((4294967295 : Nat) : Int)
        have hx := hx0 2
        omega
    · show E = E
      rfl
  · intro x0 s Wg hRu hrx hT0 hΦ i v H hT hrv hInv hKc hFr0 hIH x hx ρ2 v2 N2 H2 locs lsB stA hAt hB hv hr2 hXs hag hfr hFr hT2
    rcases i with ⟨i, hi⟩
    have hi2 : i = 0 ∨ i = 1 ∨ i = 2 ∨ i = 3 ∨ i = 4 ∨ i = 5 ∨ i = 6 := by omega
    rcases hi2 with rfl | rfl | rfl | rfl | rfl | rfl | rfl
    · have hx : x ∈ [zxfrs0_ax0] := hx
      have hag : ∀ k, k < 5 → v2 k = v k := hag
      have hfr : xFr [] _ _ := hfr
      have ex := List.mem_singleton.mp hx
      subst ex
      obtain ⟨hF, hBd, hM⟩ := hXs
      have b0 : ((2147483648 : Nat) : Int) ≤ (v2 5) + 2147483648 ∧ (v2 5) + 2147483648 ≤ ((2147483679 : Nat) : Int) := xXb hBd 0 rfl
      have b1 : ((2147483647 : Nat) : Int) ≤ (v2 5 + (-1)) + 2147483648 ∧ (v2 5 + (-1)) + 2147483648 ≤ ((2147483678 : Nat) : Int) := xXb hBd 1 rfl
      have f0 : (0 : Int) ≤ 3 ∧ xE (zyEl zymc B H) 2 3 = (v2 5) := xXf hF 0 rfl
      have e35_4 : xE (zyEl zymc B H2) 35 4 = xE (zyEl zymc B H) 35 4 := xFr_E hfr rfl
      have q35_4 : xE (zyEl zymc B H) 35 4 = xE (zyEl zymc B s.heap) 35 4 := xFr_E hFr0 rfl
      have e35_5 : xE (zyEl zymc B H2) 35 5 = xE (zyEl zymc B H) 35 5 := xFr_E hfr rfl
      have e35_6 : xE (zyEl zymc B H2) 35 6 = xE (zyEl zymc B H) 35 6 := xFr_E hfr rfl
      have e35_7 : xE (zyEl zymc B H2) 35 7 = xE (zyEl zymc B H) 35 7 := xFr_E hfr rfl
      have e35_8 : xE (zyEl zymc B H2) 35 8 = xE (zyEl zymc B H) 35 8 := xFr_E hfr rfl
      have e35_2 : xE (zyEl zymc B H2) 35 2 = xE (zyEl zymc B H) 35 2 := xFr_E hfr rfl
      have e35_3 : xE (zyEl zymc B H2) 35 3 = xE (zyEl zymc B H) 35 3 := xFr_E hfr rfl
      have e2_3 : xE (zyEl zymc B H2) 2 3 = xE (zyEl zymc B H) 2 3 := xFr_E hfr rfl
      have q2_3 : xE (zyEl zymc B H) 2 3 = xE (zyEl zymc B s.heap) 2 3 := xFr_E hFr0 rfl
      have e36 : ∀ i, xE (zyEl zymc B H2) 36 i = xE (zyEl zymc B H) 36 i := fun i => xFr_E hfr rfl
      have q36 : ∀ i, xE (zyEl zymc B H) 36 i = xE (zyEl zymc B s.heap) 36 i := fun i => xFr_E hFr0 rfl
      have e10 : ∀ i, xE (zyEl zymc B H2) 10 i = xE (zyEl zymc B H) 10 i := fun i => xFr_E hfr rfl
      have e11 : ∀ i, xE (zyEl zymc B H2) 11 i = xE (zyEl zymc B H) 11 i := fun i => xFr_E hfr rfl
      have y2_3 : ((2147483648 : Nat) : Int) ≤ xE (zyEl zymc B s.heap) 2 3 + 2147483648 ∧ xE (zyEl zymc B s.heap) 2 3 + 2147483648 ≤ ((2147483679 : Nat) : Int) := xTyF hT0 2 3 3 rfl rfl rfl rfl rfl rfl
      have hI : (zyEl zymc B H) = (zyEl zymc B s.heap) := hInv
      have q35_5 : xE (zyEl zymc B H) 35 5 = xE (zyEl zymc B s.heap) 35 5 := by rw [hI]
      have q35_6 : xE (zyEl zymc B H) 35 6 = xE (zyEl zymc B s.heap) 35 6 := by rw [hI]
      have q35_7 : xE (zyEl zymc B H) 35 7 = xE (zyEl zymc B s.heap) 35 7 := by rw [hI]
      have q35_8 : xE (zyEl zymc B H) 35 8 = xE (zyEl zymc B s.heap) 35 8 := by rw [hI]
      have q35_2 : xE (zyEl zymc B H) 35 2 = xE (zyEl zymc B s.heap) 35 2 := by rw [hI]
      have q35_3 : xE (zyEl zymc B H) 35 3 = xE (zyEl zymc B s.heap) 35 3 := by rw [hI]
      have q10 : ∀ i, xE (zyEl zymc B H) 10 i = xE (zyEl zymc B s.heap) 10 i := fun i => by rw [hI]
      have q11 : ∀ i, xE (zyEl zymc B H) 11 i = xE (zyEl zymc B s.heap) 11 i := fun i => by rw [hI]
      have tt : xE (zyEl zymc B H2) 36 = xE (zyEl zymc B s.heap) 36 := funext fun i => (e36 i).trans (q36 i)
      have tn : xE (zyEl zymc B H2) 35 4 = xE (zyEl zymc B s.heap) 35 4 := by omega
      refine xCa hRu hIH hAt hB hv hFr (hftn B) (ix := 60) (ax := 1104) rfl rfl rfl hmeftn ⟨_, rfl, rfl, by decide⟩ ⟨rfl, rfl, rfl⟩ (by decide) [0, 206158430201] [] [0, (v2 5 + (-1))] rfl ⟨rfl, rfl⟩ (by decide +kernel) (xcs_c rfl (xcs_c rfl xcs_n)) (by decide +kernel) ?_ (fun H3 r hT3 hf3 hFr3 hr3 hΨ3 => ?_)
      · show xΦad (xfv [0, (v2 5 + (-1))]) (zyEl zymc B H2)
        have hP := hΦ.1
        unfold xΦad
        omega
      · have hΨ3 : xΨtn (xfv [0, (v2 5 + (-1))]) (zyEl zymc B H2) (zyEl zymc B H3) r := hΨ3
        have d35_4 : xE (zyEl zymc B H3) 35 4 = xE (zyEl zymc B H2) 35 4 := xFr_E hf3 rfl
        have d2_3 : xE (zyEl zymc B H3) 2 3 = xE (zyEl zymc B H2) 2 3 := xFr_E hf3 rfl
        have d36 : ∀ i, xE (zyEl zymc B H3) 36 i = xE (zyEl zymc B H2) 36 i := fun i => xFr_E hf3 rfl
        have d10 : ∀ i, xE (zyEl zymc B H3) 10 i = xE (zyEl zymc B H2) 10 i := fun i => xFr_E hf3 rfl
        have d11 : ∀ i, xE (zyEl zymc B H3) 11 i = xE (zyEl zymc B H2) 11 i := fun i => xFr_E hf3 rfl
        unfold xΨtn at hΨ3
        rw [tt, tn, show xE (zyEl zymc B H2) 35 6 = xE (zyEl zymc B s.heap) 35 6 by omega, show xfv [0, (v2 5 + (-1))] 1 = xE (zyEl zymc B s.heap) 2 3 - 1 by show (v2 5 + (-1)) = _; omega] at hΨ3
        have hr01 := xtn_r hΨ3
        refine ⟨⟨1, by decide⟩, [0, 0, 0, 0, 0], [0, 0, 0, 0, 0, r], rfl, ⟨by decide +kernel, ⟨rfl, by decide +kernel⟩, (xcs_c rfl (xcs_c rfl (xcs_c rfl (xcs_c rfl (xcs_c rfl xcs_n))))), (xe_0 (xe_0 (xe_0 (xe_0 (xe_0 (xe_c (by omega) (by omega) rfl xe_n)))))), xkq_n⟩, (by rw [if_pos rfl]; exact ⟨5, [], rfl, by decide, rfl, xst_n⟩), ?_, ?_⟩
        · show xTN (xE (zyEl zymc B s.heap) 36) (xE (zyEl zymc B s.heap) 35 4) (xE (zyEl zymc B s.heap) 35 6) 0 (xE (zyEl zymc B s.heap) 2 3 - 1) (zyEl zymc B H3) (r : Int) ∧ (∀ k, xE (zyEl zymc B H3) 10 k = xE (zyEl zymc B s.heap) 10 k) ∧ (∀ k, xE (zyEl zymc B H3) 11 k = xE (zyEl zymc B s.heap) 11 k)
          exact ⟨hΨ3, ⟨fun k => by rw [d10 k, e10 k, q10 k], fun k => by rw [d11 k, e11 k, q11 k]⟩⟩
        · show 99 < 100
          omega
    · have hx : x ∈ [zxfrs0_bx0] := hx
      have hag : ∀ k, k < 6 → v2 k = v k := hag
      have hfr : xFr [] _ _ := hfr
      have ex := List.mem_singleton.mp hx
      subst ex
      obtain ⟨hF, hBd, hM⟩ := hXs
      have r6 := hr2 6
      have g5 : v2 5 = v 5 := hag 5 (by decide)
      have b0 : ((2147483649 : Nat) : Int) ≤ (v2 5) + 2147483648 ∧ (v2 5) + 2147483648 ≤ ((2147483649 : Nat) : Int) := xXb hBd 0 rfl
      have f0 : ¬ (v2 5) = 0 := xXf hF 0 rfl
      have f1 : (0 : Int) ≤ 8 ∧ xE (zyEl zymc B H) 35 8 = (v2 6) := xXf hF 1 rfl
      have e35_4 : xE (zyEl zymc B H2) 35 4 = xE (zyEl zymc B H) 35 4 := xFr_E hfr rfl
      have q35_4 : xE (zyEl zymc B H) 35 4 = xE (zyEl zymc B s.heap) 35 4 := xFr_E hFr0 rfl
      have e35_5 : xE (zyEl zymc B H2) 35 5 = xE (zyEl zymc B H) 35 5 := xFr_E hfr rfl
      have e35_6 : xE (zyEl zymc B H2) 35 6 = xE (zyEl zymc B H) 35 6 := xFr_E hfr rfl
      have e35_7 : xE (zyEl zymc B H2) 35 7 = xE (zyEl zymc B H) 35 7 := xFr_E hfr rfl
      have e35_8 : xE (zyEl zymc B H2) 35 8 = xE (zyEl zymc B H) 35 8 := xFr_E hfr rfl
      have e35_2 : xE (zyEl zymc B H2) 35 2 = xE (zyEl zymc B H) 35 2 := xFr_E hfr rfl
      have e35_3 : xE (zyEl zymc B H2) 35 3 = xE (zyEl zymc B H) 35 3 := xFr_E hfr rfl
      have e2_3 : xE (zyEl zymc B H2) 2 3 = xE (zyEl zymc B H) 2 3 := xFr_E hfr rfl
      have q2_3 : xE (zyEl zymc B H) 2 3 = xE (zyEl zymc B s.heap) 2 3 := xFr_E hFr0 rfl
      have e36 : ∀ i, xE (zyEl zymc B H2) 36 i = xE (zyEl zymc B H) 36 i := fun i => xFr_E hfr rfl
      have q36 : ∀ i, xE (zyEl zymc B H) 36 i = xE (zyEl zymc B s.heap) 36 i := fun i => xFr_E hFr0 rfl
      have e10 : ∀ i, xE (zyEl zymc B H2) 10 i = xE (zyEl zymc B H) 10 i := fun i => xFr_E hfr rfl
      have e11 : ∀ i, xE (zyEl zymc B H2) 11 i = xE (zyEl zymc B H) 11 i := fun i => xFr_E hfr rfl
      have y2_3 : ((2147483648 : Nat) : Int) ≤ xE (zyEl zymc B s.heap) 2 3 + 2147483648 ∧ xE (zyEl zymc B s.heap) 2 3 + 2147483648 ≤ ((2147483679 : Nat) : Int) := xTyF hT0 2 3 3 rfl rfl rfl rfl rfl rfl
      have hI : xTN (xE (zyEl zymc B s.heap) 36) (xE (zyEl zymc B s.heap) 35 4) (xE (zyEl zymc B s.heap) 35 6) 0 (xE (zyEl zymc B s.heap) 2 3 - 1) (zyEl zymc B H) (v 5) ∧ (∀ k, xE (zyEl zymc B H) 10 k = xE (zyEl zymc B s.heap) 10 k) ∧ (∀ k, xE (zyEl zymc B H) 11 k = xE (zyEl zymc B s.heap) 11 k) := hInv
      obtain ⟨i1, j0, j1⟩ := hI
      have tt : xE (zyEl zymc B H2) 36 = xE (zyEl zymc B s.heap) 36 := funext fun i => (e36 i).trans (q36 i)
      have tn : xE (zyEl zymc B H2) 35 4 = xE (zyEl zymc B s.heap) 35 4 := by omega
      obtain ⟨c1, c2, c3, c4, c5, c6, c7⟩ := xtn_1 i1 (by omega)
      have hPos := hΦ.1
      have hb := tNx_b (T := xE (zyEl zymc B s.heap) 36) (n := xE (zyEl zymc B s.heap) 35 4) (p := xE (zyEl zymc B s.heap) 35 6) hPos
      refine xCa hRu hIH hAt hB hv hFr (hftn B) (ix := 60) (ax := 1104) rfl rfl rfl hmeftn ⟨_, rfl, rfl, by decide⟩ ⟨rfl, rfl, rfl⟩ (by decide) [0, 8] [] [0, 1] rfl ⟨rfl, rfl⟩ (by decide +kernel) (xcs_c rfl (xcs_c rfl xcs_n)) (by decide +kernel) ?_ (fun H3 r hT3 hf3 hFr3 hr3 hΨ3 => ?_)
      · show xΦad (xfv [0, 1]) (zyEl zymc B H2)
        unfold xΦad
        omega
      · have hΨ3 : xΨtn (xfv [0, 1]) (zyEl zymc B H2) (zyEl zymc B H3) r := hΨ3
        have d35_4 : xE (zyEl zymc B H3) 35 4 = xE (zyEl zymc B H2) 35 4 := xFr_E hf3 rfl
        have d2_3 : xE (zyEl zymc B H3) 2 3 = xE (zyEl zymc B H2) 2 3 := xFr_E hf3 rfl
        have d36 : ∀ i, xE (zyEl zymc B H3) 36 i = xE (zyEl zymc B H2) 36 i := fun i => xFr_E hf3 rfl
        have d10 : ∀ i, xE (zyEl zymc B H3) 10 i = xE (zyEl zymc B H2) 10 i := fun i => xFr_E hf3 rfl
        have d11 : ∀ i, xE (zyEl zymc B H3) 11 i = xE (zyEl zymc B H2) 11 i := fun i => xFr_E hf3 rfl
        unfold xΨtn at hΨ3
        rw [tt, tn] at hΨ3
        have hr01 := xtn_r hΨ3
        refine ⟨⟨2, by decide⟩, [0, 0, 206158430209, 0, 0], [0, 0, (v2 6), 0, 0, r], rfl, ⟨by decide +kernel, ⟨rfl, by decide +kernel⟩, (xcs_c rfl (xcs_c rfl (xcs_c rfl (xcs_c rfl (xcs_c rfl xcs_n))))), (xe_0 (xe_0 (xe_c (by omega) (by omega) rfl (xe_0 (xe_0 (xe_c (by omega) (by omega) rfl xe_n)))))), xkq_n⟩, (by rw [if_pos rfl]; exact ⟨5, [], rfl, by decide, rfl, xst_n⟩), ?_, ?_⟩
        · show (0 ≤ ((v2 6) : Int) ∧ ((v2 6) : Int) < xE (zyEl zymc B s.heap) 2 3) ∧ ∃ p1, p1 ≤ (xE (zyEl zymc B s.heap) 35 4) ∧ (∀ S, xAb0 (zyEl zymc B s.heap) S → pSwitch (xE (zyEl zymc B s.heap) 36) (xE (zyEl zymc B s.heap) 35 4) (xE (zyEl zymc B s.heap) 35 6) S = pNum (xE (zyEl zymc B s.heap) 36) (xE (zyEl zymc B s.heap) 35 4) p1 0 1 (fun b p2 => pBits (xE (zyEl zymc B s.heap) 36) (xE (zyEl zymc B s.heap) 35 4) S ((v2 6) : Int) 3 p2 1 b)) ∧ xTN (xE (zyEl zymc B s.heap) 36) (xE (zyEl zymc B s.heap) 35 4) p1 0 1 (zyEl zymc B H3) (r : Int) ∧ (∀ k, xE (zyEl zymc B H3) 10 k = xE (zyEl zymc B s.heap) 10 k) ∧ (∀ k, xE (zyEl zymc B H3) 11 k = xE (zyEl zymc B s.heap) 11 k)
          refine ⟨by omega, xE (zyEl zymc B H2) 35 6, by omega, fun S hS => ?_, hΨ3, fun k => by rw [d10 k, e10 k, j0 k], fun k => by rw [d11 k, e11 k, j1 k]⟩
          unfold pSwitch
          rw [← hS.2.1.2.2.2, c7, show xE (zyEl zymc B H2) 35 6 = xE (zyEl zymc B H) 35 6 by omega, show xE (zyEl zymc B H) 35 8 = (v2 6) by omega]
        · show 98 < 99
          omega
    · have hx : x ∈ [zxfrs0_cx0] := hx
      have hag : ∀ k, k < 6 → v2 k = v k := hag
      have hfr : xFr [] _ _ := hfr
      have ex := List.mem_singleton.mp hx
      subst ex
      obtain ⟨hF, hBd, hM⟩ := hXs
      have r6 := hr2 6
      have g2 : v2 2 = v 2 := hag 2 (by decide)
      have g5 : v2 5 = v 5 := hag 5 (by decide)
      have b0 : ((2147483648 : Nat) : Int) ≤ (v2 2) + 2147483648 ∧ (v2 2) + 2147483648 ≤ ((2147483678 : Nat) : Int) := xXb hBd 0 rfl
      have b1 : ((2147483649 : Nat) : Int) ≤ (v2 5) + 2147483648 ∧ (v2 5) + 2147483648 ≤ ((2147483649 : Nat) : Int) := xXb hBd 1 rfl
      have f0 : ¬ (v2 5) = 0 := xXf hF 0 rfl
      have f1 : (0 : Int) ≤ 8 ∧ xE (zyEl zymc B H) 35 8 = (v2 6) := xXf hF 1 rfl
      have e35_4 : xE (zyEl zymc B H2) 35 4 = xE (zyEl zymc B H) 35 4 := xFr_E hfr rfl
      have q35_4 : xE (zyEl zymc B H) 35 4 = xE (zyEl zymc B s.heap) 35 4 := xFr_E hFr0 rfl
      have e35_5 : xE (zyEl zymc B H2) 35 5 = xE (zyEl zymc B H) 35 5 := xFr_E hfr rfl
      have e35_6 : xE (zyEl zymc B H2) 35 6 = xE (zyEl zymc B H) 35 6 := xFr_E hfr rfl
      have e35_7 : xE (zyEl zymc B H2) 35 7 = xE (zyEl zymc B H) 35 7 := xFr_E hfr rfl
      have e35_8 : xE (zyEl zymc B H2) 35 8 = xE (zyEl zymc B H) 35 8 := xFr_E hfr rfl
      have e35_2 : xE (zyEl zymc B H2) 35 2 = xE (zyEl zymc B H) 35 2 := xFr_E hfr rfl
      have e35_3 : xE (zyEl zymc B H2) 35 3 = xE (zyEl zymc B H) 35 3 := xFr_E hfr rfl
      have e2_3 : xE (zyEl zymc B H2) 2 3 = xE (zyEl zymc B H) 2 3 := xFr_E hfr rfl
      have q2_3 : xE (zyEl zymc B H) 2 3 = xE (zyEl zymc B s.heap) 2 3 := xFr_E hFr0 rfl
      have e36 : ∀ i, xE (zyEl zymc B H2) 36 i = xE (zyEl zymc B H) 36 i := fun i => xFr_E hfr rfl
      have q36 : ∀ i, xE (zyEl zymc B H) 36 i = xE (zyEl zymc B s.heap) 36 i := fun i => xFr_E hFr0 rfl
      have e10 : ∀ i, xE (zyEl zymc B H2) 10 i = xE (zyEl zymc B H) 10 i := fun i => xFr_E hfr rfl
      have e11 : ∀ i, xE (zyEl zymc B H2) 11 i = xE (zyEl zymc B H) 11 i := fun i => xFr_E hfr rfl
      have y2_3 : ((2147483648 : Nat) : Int) ≤ xE (zyEl zymc B s.heap) 2 3 + 2147483648 ∧ xE (zyEl zymc B s.heap) 2 3 + 2147483648 ≤ ((2147483679 : Nat) : Int) := xTyF hT0 2 3 3 rfl rfl rfl rfl rfl rfl
      have hI : (0 ≤ (v 2) ∧ (v 2) < xE (zyEl zymc B s.heap) 2 3) ∧ ∃ p1, p1 ≤ (xE (zyEl zymc B s.heap) 35 4) ∧ (∀ S, xAb0 (zyEl zymc B s.heap) S → pSwitch (xE (zyEl zymc B s.heap) 36) (xE (zyEl zymc B s.heap) 35 4) (xE (zyEl zymc B s.heap) 35 6) S = pNum (xE (zyEl zymc B s.heap) 36) (xE (zyEl zymc B s.heap) 35 4) p1 0 1 (fun b p2 => pBits (xE (zyEl zymc B s.heap) 36) (xE (zyEl zymc B s.heap) 35 4) S (v 2) 3 p2 1 b)) ∧ xTN (xE (zyEl zymc B s.heap) 36) (xE (zyEl zymc B s.heap) 35 4) p1 0 1 (zyEl zymc B H) (v 5) ∧ (∀ k, xE (zyEl zymc B H) 10 k = xE (zyEl zymc B s.heap) 10 k) ∧ (∀ k, xE (zyEl zymc B H) 11 k = xE (zyEl zymc B s.heap) 11 k) := hInv
      obtain ⟨i1, p1, i0, i2, i3, j0, j1⟩ := hI
      have hb := tNx_b (T := xE (zyEl zymc B s.heap) 36) (n := xE (zyEl zymc B s.heap) 35 4) (p := p1) i0
      obtain ⟨c1, c2, c3, c4, c5, c6, c7⟩ := xtn_1 i3 (by omega)
      refine xGo hIH hAt hB hv hFr ⟨3, by decide⟩ [0, 0, 68719476737, 206158430209, 8] [0, 0, (v2 2), (v2 6), 1] rfl ⟨by decide +kernel, ⟨rfl, by decide +kernel⟩, (xcs_c rfl (xcs_c rfl (xcs_c rfl (xcs_c rfl (xcs_c rfl xcs_n))))), (xe_0 (xe_0 (xe_c (by omega) (by omega) rfl (xe_c (by omega) (by omega) rfl (xe_c (by omega) (by omega) rfl xe_n))))), xkq_n⟩ xst_n ?_ ?_
      · show (0 ≤ ((v2 2) : Int) ∧ ((v2 2) : Int) < xE (zyEl zymc B s.heap) 2 3) ∧ xE (zyEl zymc B H2) 35 6 ≤ (xE (zyEl zymc B s.heap) 35 4) ∧ ((∀ k, xE (zyEl zymc B H2) 10 k = xE (zyEl zymc B s.heap) 10 k) ∧ (∀ k, xE (zyEl zymc B H2) 11 k = xE (zyEl zymc B s.heap) 11 k)) ∧ ((1 ≤ (1 : Int) ∧ (1 : Int) ≤ 4 ∧ ∀ S, xAb0 (zyEl zymc B s.heap) S → pSwitch (xE (zyEl zymc B s.heap) 36) (xE (zyEl zymc B s.heap) 35 4) (xE (zyEl zymc B s.heap) 35 6) S = pBits (xE (zyEl zymc B s.heap) 36) (xE (zyEl zymc B s.heap) 35 4) S ((v2 2) : Int) (4 - (1 : Int)).toNat (xE (zyEl zymc B H2) 35 6) (1 : Int) ((v2 6) : Int)) ∨ ((1 : Int) = 5 ∧ ∀ S, xAb0 (zyEl zymc B s.heap) S → pSwitch (xE (zyEl zymc B s.heap) 36) (xE (zyEl zymc B s.heap) 35 4) (xE (zyEl zymc B s.heap) 35 6) S = .error (6, xE (zyEl zymc B H2) 35 5)))
        refine ⟨by omega, by omega, ⟨fun k => by rw [e10 k, j0 k], fun k => by rw [e11 k, j1 k]⟩, Or.inl ⟨by omega, by omega, fun S hS => ?_⟩⟩
        rw [i2 S hS, c7, show xE (zyEl zymc B H) 35 6 = xE (zyEl zymc B H2) 35 6 by omega, show xE (zyEl zymc B H) 35 8 = (v2 6) by omega, show (v 2) = v2 2 by omega]
        rfl
      · show 50 + 2 * (10 - (1 : Int)).toNat < 98
        omega
    · have hx : x ∈ [zxfrs0_dx0] := hx
      have hag : ∀ k, k < 5 → v2 k = v k := hag
      have hfr : xFr [(35, 2, 3)] _ _ := hfr
      have ex := List.mem_singleton.mp hx
      subst ex
      obtain ⟨hF, hBd, hM⟩ := hXs
      have g2 : v2 2 = v 2 := hag 2 (by decide)
      have g3 : v2 3 = v 3 := hag 3 (by decide)
      have g4 : v2 4 = v 4 := hag 4 (by decide)
      have b0 : ((2147483648 : Nat) : Int) ≤ (v2 2) + 2147483648 ∧ (v2 2) + 2147483648 ≤ ((2147483678 : Nat) : Int) := xXb hBd 0 rfl
      have b1 : ((2147483648 : Nat) : Int) ≤ (v2 3) + 2147483648 ∧ (v2 3) + 2147483648 ≤ ((2147483679 : Nat) : Int) := xXb hBd 1 rfl
      have b2 : ((2147483649 : Nat) : Int) ≤ (v2 4) + 2147483648 ∧ (v2 4) + 2147483648 ≤ ((2147483652 : Nat) : Int) := xXb hBd 2 rfl
      have f0 : (v2 4) ≤ 4 := xXf hF 0 rfl
      have e35_4 : xE (zyEl zymc B H2) 35 4 = xE (zyEl zymc B H) 35 4 := xFr_E hfr rfl
      have q35_4 : xE (zyEl zymc B H) 35 4 = xE (zyEl zymc B s.heap) 35 4 := xFr_E hFr0 rfl
      have e35_5 : xE (zyEl zymc B H2) 35 5 = xE (zyEl zymc B H) 35 5 := xFr_E hfr rfl
      have e35_6 : xE (zyEl zymc B H2) 35 6 = xE (zyEl zymc B H) 35 6 := xFr_E hfr rfl
      have e35_7 : xE (zyEl zymc B H2) 35 7 = xE (zyEl zymc B H) 35 7 := xFr_E hfr rfl
      have e35_8 : xE (zyEl zymc B H2) 35 8 = xE (zyEl zymc B H) 35 8 := xFr_E hfr rfl
      have e2_3 : xE (zyEl zymc B H2) 2 3 = xE (zyEl zymc B H) 2 3 := xFr_E hfr rfl
      have q2_3 : xE (zyEl zymc B H) 2 3 = xE (zyEl zymc B s.heap) 2 3 := xFr_E hFr0 rfl
      have e36 : ∀ i, xE (zyEl zymc B H2) 36 i = xE (zyEl zymc B H) 36 i := fun i => xFr_E hfr rfl
      have q36 : ∀ i, xE (zyEl zymc B H) 36 i = xE (zyEl zymc B s.heap) 36 i := fun i => xFr_E hFr0 rfl
      have e10 : ∀ i, xE (zyEl zymc B H2) 10 i = xE (zyEl zymc B H) 10 i := fun i => xFr_E hfr rfl
      have e11 : ∀ i, xE (zyEl zymc B H2) 11 i = xE (zyEl zymc B H) 11 i := fun i => xFr_E hfr rfl
      have y2_3 : ((2147483648 : Nat) : Int) ≤ xE (zyEl zymc B s.heap) 2 3 + 2147483648 ∧ xE (zyEl zymc B s.heap) 2 3 + 2147483648 ≤ ((2147483679 : Nat) : Int) := xTyF hT0 2 3 3 rfl rfl rfl rfl rfl rfl
      have hI : (0 ≤ (v 2) ∧ (v 2) < xE (zyEl zymc B s.heap) 2 3) ∧ xE (zyEl zymc B H) 35 6 ≤ (xE (zyEl zymc B s.heap) 35 4) ∧ ((∀ k, xE (zyEl zymc B H) 10 k = xE (zyEl zymc B s.heap) 10 k) ∧ (∀ k, xE (zyEl zymc B H) 11 k = xE (zyEl zymc B s.heap) 11 k)) ∧ ((1 ≤ (v 4) ∧ (v 4) ≤ 4 ∧ ∀ S, xAb0 (zyEl zymc B s.heap) S → pSwitch (xE (zyEl zymc B s.heap) 36) (xE (zyEl zymc B s.heap) 35 4) (xE (zyEl zymc B s.heap) 35 6) S = pBits (xE (zyEl zymc B s.heap) 36) (xE (zyEl zymc B s.heap) 35 4) S (v 2) (4 - (v 4)).toNat (xE (zyEl zymc B H) 35 6) (v 4) (v 3)) ∨ ((v 4) = 5 ∧ ∀ S, xAb0 (zyEl zymc B s.heap) S → pSwitch (xE (zyEl zymc B s.heap) 36) (xE (zyEl zymc B s.heap) 35 4) (xE (zyEl zymc B s.heap) 35 6) S = .error (6, xE (zyEl zymc B H) 35 5))) := hInv
      have tt : xE (zyEl zymc B H2) 36 = xE (zyEl zymc B s.heap) 36 := funext fun i => (e36 i).trans (q36 i)
      have tn : xE (zyEl zymc B H2) 35 4 = xE (zyEl zymc B s.heap) 35 4 := by omega
      obtain ⟨i1, i0, ⟨j0, j1⟩, i2⟩ := hI
      rcases i2 with ⟨w1, w2, i2⟩ | ⟨w, -⟩
      · refine xCa hRu hIH hAt hB hv hFr (hfad B) (ix := 35) (ax := 1168) rfl rfl rfl hmefad ⟨_, rfl, rfl, by decide⟩ ⟨rfl, rfl, rfl⟩ (by decide) [] [] [] rfl ⟨rfl, rfl⟩ (by decide +kernel) xcs_n (by decide +kernel) ?_ (fun H3 r hT3 hf3 hFr3 hr3 hΨ3 => ?_)
        · show xΦad (xfv []) (zyEl zymc B H2)
          unfold xΦad
          omega
        · have hΨ3 : xΨad (xfv []) (zyEl zymc B H2) (zyEl zymc B H3) r := hΨ3
          have d35_4 : xE (zyEl zymc B H3) 35 4 = xE (zyEl zymc B H2) 35 4 := xFr_E hf3 rfl
          have d35_2 : xE (zyEl zymc B H3) 35 2 = xE (zyEl zymc B H2) 35 2 := xFr_E hf3 rfl
          have d35_3 : xE (zyEl zymc B H3) 35 3 = xE (zyEl zymc B H2) 35 3 := xFr_E hf3 rfl
          have d2_3 : xE (zyEl zymc B H3) 2 3 = xE (zyEl zymc B H2) 2 3 := xFr_E hf3 rfl
          have d36 : ∀ i, xE (zyEl zymc B H3) 36 i = xE (zyEl zymc B H2) 36 i := fun i => xFr_E hf3 rfl
          have d10 : ∀ i, xE (zyEl zymc B H3) 10 i = xE (zyEl zymc B H2) 10 i := fun i => xFr_E hf3 rfl
          have d11 : ∀ i, xE (zyEl zymc B H3) 11 i = xE (zyEl zymc B H2) 11 i := fun i => xFr_E hf3 rfl
          unfold xΨad at hΨ3
          rw [tt, tn] at hΨ3
          refine ⟨⟨4, by decide⟩, [0, 0, 68719476737, 103079215105, 137438953473], [0, 0, (v2 2), (v2 3), (v2 4)], rfl, ⟨by decide +kernel, ⟨rfl, by decide +kernel⟩, (xcs_c rfl (xcs_c rfl (xcs_c rfl (xcs_c rfl (xcs_c rfl xcs_n))))), (xe_0 (xe_0 (xe_c (by omega) (by omega) rfl (xe_c (by omega) (by omega) rfl (xe_c (by omega) (by omega) rfl xe_n))))), xkq_n⟩, (by rw [if_neg (by decide)]; exact xst_n), ?_, ?_⟩
          · show (0 ≤ ((v2 2) : Int) ∧ ((v2 2) : Int) < xE (zyEl zymc B s.heap) 2 3) ∧ (1 ≤ ((v2 4) : Int) ∧ ((v2 4) : Int) ≤ 4) ∧ ∃ p1, p1 ≤ (xE (zyEl zymc B s.heap) 35 4) ∧ (∀ S, xAb0 (zyEl zymc B s.heap) S → pSwitch (xE (zyEl zymc B s.heap) 36) (xE (zyEl zymc B s.heap) 35 4) (xE (zyEl zymc B s.heap) 35 6) S = pBits (xE (zyEl zymc B s.heap) 36) (xE (zyEl zymc B s.heap) 35 4) S ((v2 2) : Int) (4 - ((v2 4) : Int)).toNat p1 ((v2 4) : Int) ((v2 3) : Int)) ∧ xAD (xE (zyEl zymc B s.heap) 36) (xE (zyEl zymc B s.heap) 35 4) p1 (zyEl zymc B H3) ∧ (∀ k, xE (zyEl zymc B H3) 10 k = xE (zyEl zymc B s.heap) 10 k) ∧ (∀ k, xE (zyEl zymc B H3) 11 k = xE (zyEl zymc B s.heap) 11 k)
            refine ⟨by omega, by omega, xE (zyEl zymc B H2) 35 6, by omega, fun S hS => ?_, hΨ3, fun k => by rw [d10 k, e10 k, j0 k], fun k => by rw [d11 k, e11 k, j1 k]⟩
            rw [i2 S hS, show xE (zyEl zymc B H) 35 6 = xE (zyEl zymc B H2) 35 6 by omega, show (v 2) = v2 2 by omega, show (v 3) = v2 3 by omega, show (v 4) = v2 4 by omega]
          · show 49 + 2 * (10 - ((v2 4) : Int)).toNat < 50 + 2 * (10 - (v 4)).toNat
            omega
      · omega
    · have hx : x ∈ [zxfrs0_ex0, zxfrs0_ex1] := hx
      have hag : ∀ k, k < 5 → v2 k = v k := hag
      have hfr : xFr [(35, 2, 3)] _ _ := hfr
      rcases List.mem_cons.mp hx with ex | hx
      · subst ex
        obtain ⟨hF, hBd, hM⟩ := hXs
        have g2 : v2 2 = v 2 := hag 2 (by decide)
        have g3 : v2 3 = v 3 := hag 3 (by decide)
        have g4 : v2 4 = v 4 := hag 4 (by decide)
        have b0 : ((2147483648 : Nat) : Int) ≤ (v2 2) + 2147483648 ∧ (v2 2) + 2147483648 ≤ ((2147483678 : Nat) : Int) := xXb hBd 0 rfl
        have b1 : ((2147483648 : Nat) : Int) ≤ (v2 3) + 2147483648 ∧ (v2 3) + 2147483648 ≤ ((2147483679 : Nat) : Int) := xXb hBd 1 rfl
        have b2 : ((2147483649 : Nat) : Int) ≤ (v2 4) + 2147483648 ∧ (v2 4) + 2147483648 ≤ ((2147483652 : Nat) : Int) := xXb hBd 2 rfl
        have b3 : ((2147483651 : Nat) : Int) ≤ (v2 5) + 2147483648 ∧ (v2 5) + 2147483648 ≤ ((2147483651 : Nat) : Int) := xXb hBd 3 rfl
        have b4 : ((2147483648 : Nat) : Int) ≤ (v2 6) + 2147483648 ∧ (v2 6) + 2147483648 ≤ ((2147483649 : Nat) : Int) := xXb hBd 4 rfl
        have b5 : ((2147483648 : Nat) : Int) ≤ (v2 7) + 2147483648 ∧ (v2 7) + 2147483648 ≤ ((2147483664 : Nat) : Int) := xXb hBd 5 rfl
        have b6 : ((2147483648 : Nat) : Int) ≤ (v2 8) + 2147483648 ∧ (v2 8) + 2147483648 ≤ ((2147483679 : Nat) : Int) := xXb hBd 6 rfl
        have b7 : ((2147483650 : Nat) : Int) ≤ (v2 4 + 1) + 2147483648 ∧ (v2 4 + 1) + 2147483648 ≤ ((2147483653 : Nat) : Int) := xXb hBd 7 rfl
        have f0 : (0 : Int) ≤ 7 ∧ xE (zyEl zymc B H) 35 7 = (v2 5) := xXf hF 0 rfl
        have f1 : ¬ (v2 5) = 5 := xXf hF 1 rfl
        have f2 : (v2 5) = 3 := xXf hF 2 rfl
        have f3 : (0 : Int) ≤ 8 ∧ xE (zyEl zymc B H) 35 8 = (v2 6) := xXf hF 3 rfl
        have f4 : 0 ≤ (v2 6) := xXf hF 4 rfl
        have f5 : (v2 6) ≤ 1 := xXf hF 5 rfl
        have f6 : (v2 7) = xop 8 (v2 6) (v2 4) := xXf hF 6 rfl
        have f7 : (v2 8) = xop 7 (v2 3) (v2 7) := xXf hF 7 rfl
        have e35_4 : xE (zyEl zymc B H2) 35 4 = xE (zyEl zymc B H) 35 4 := xFr_E hfr rfl
        have q35_4 : xE (zyEl zymc B H) 35 4 = xE (zyEl zymc B s.heap) 35 4 := xFr_E hFr0 rfl
        have e35_5 : xE (zyEl zymc B H2) 35 5 = xE (zyEl zymc B H) 35 5 := xFr_E hfr rfl
        have e35_6 : xE (zyEl zymc B H2) 35 6 = xE (zyEl zymc B H) 35 6 := xFr_E hfr rfl
        have e35_7 : xE (zyEl zymc B H2) 35 7 = xE (zyEl zymc B H) 35 7 := xFr_E hfr rfl
        have e35_8 : xE (zyEl zymc B H2) 35 8 = xE (zyEl zymc B H) 35 8 := xFr_E hfr rfl
        have e2_3 : xE (zyEl zymc B H2) 2 3 = xE (zyEl zymc B H) 2 3 := xFr_E hfr rfl
        have q2_3 : xE (zyEl zymc B H) 2 3 = xE (zyEl zymc B s.heap) 2 3 := xFr_E hFr0 rfl
        have e36 : ∀ i, xE (zyEl zymc B H2) 36 i = xE (zyEl zymc B H) 36 i := fun i => xFr_E hfr rfl
        have q36 : ∀ i, xE (zyEl zymc B H) 36 i = xE (zyEl zymc B s.heap) 36 i := fun i => xFr_E hFr0 rfl
        have e10 : ∀ i, xE (zyEl zymc B H2) 10 i = xE (zyEl zymc B H) 10 i := fun i => xFr_E hfr rfl
        have e11 : ∀ i, xE (zyEl zymc B H2) 11 i = xE (zyEl zymc B H) 11 i := fun i => xFr_E hfr rfl
        have y2_3 : ((2147483648 : Nat) : Int) ≤ xE (zyEl zymc B s.heap) 2 3 + 2147483648 ∧ xE (zyEl zymc B s.heap) 2 3 + 2147483648 ≤ ((2147483679 : Nat) : Int) := xTyF hT0 2 3 3 rfl rfl rfl rfl rfl rfl
        have hI : (0 ≤ (v 2) ∧ (v 2) < xE (zyEl zymc B s.heap) 2 3) ∧ (1 ≤ (v 4) ∧ (v 4) ≤ 4) ∧ ∃ p1, p1 ≤ (xE (zyEl zymc B s.heap) 35 4) ∧ (∀ S, xAb0 (zyEl zymc B s.heap) S → pSwitch (xE (zyEl zymc B s.heap) 36) (xE (zyEl zymc B s.heap) 35 4) (xE (zyEl zymc B s.heap) 35 6) S = pBits (xE (zyEl zymc B s.heap) 36) (xE (zyEl zymc B s.heap) 35 4) S (v 2) (4 - (v 4)).toNat p1 (v 4) (v 3)) ∧ xAD (xE (zyEl zymc B s.heap) 36) (xE (zyEl zymc B s.heap) 35 4) p1 (zyEl zymc B H) ∧ (∀ k, xE (zyEl zymc B H) 10 k = xE (zyEl zymc B s.heap) 10 k) ∧ (∀ k, xE (zyEl zymc B H) 11 k = xE (zyEl zymc B s.heap) 11 k) := hInv
        obtain ⟨i1, i2, p1, i0, i3, ⟨i4, i5, i6, i7⟩, j0, j1⟩ := hI
        have hb := tNx_b (T := xE (zyEl zymc B s.heap) 36) (n := xE (zyEl zymc B s.heap) 35 4) (p := p1) i0
        rw [show (v 2) = v2 2 by omega, show (v 3) = v2 3 by omega, show (v 4) = v2 4 by omega] at i3
        have hk : tKd (xE (zyEl zymc B s.heap) 36) (xE (zyEl zymc B s.heap) 35 4) p1 = 3 := by omega
        have hval : tNm (xE (zyEl zymc B s.heap) 36) (xE (zyEl zymc B s.heap) 35 4) p1 = (v2 6) := by have := i7 hk; omega
        have hstep : (v2 4 = 4 ∧ ∀ S, xAb0 (zyEl zymc B s.heap) S → pSwitch (xE (zyEl zymc B s.heap) 36) (xE (zyEl zymc B s.heap) 35 4) (xE (zyEl zymc B s.heap) 35 6) S = .error (6, tFr (xE (zyEl zymc B s.heap) 36) (xE (zyEl zymc B s.heap) 35 4) p1)) ∨ (v2 4 < 4 ∧ ∀ S, xAb0 (zyEl zymc B s.heap) S → pSwitch (xE (zyEl zymc B s.heap) 36) (xE (zyEl zymc B s.heap) 35 4) (xE (zyEl zymc B s.heap) 35 6) S = pBits (xE (zyEl zymc B s.heap) 36) (xE (zyEl zymc B s.heap) 35 4) S (v2 2) (4 - (v2 4 + 1)).toNat (tNx (xE (zyEl zymc B s.heap) 36) (xE (zyEl zymc B s.heap) 35 4) p1) (v2 4 + 1) (v2 8)) := by
          by_cases h4 : v2 4 = 4
          · refine Or.inl ⟨h4, fun S hS => ?_⟩
            rw [i3 S hS, show (4 - v2 4).toNat = 0 by omega]
            unfold pBits
            rw [if_pos hk, if_pos (by omega)]
          · refine Or.inr ⟨by omega, fun S hS => ?_⟩
            rw [i3 S hS, show (4 - v2 4).toNat = (4 - (v2 4 + 1)).toNat + 1 by omega]
            show (if tKd (xE (zyEl zymc B s.heap) 36) (xE (zyEl zymc B s.heap) 35 4) p1 = 3 then (if 0 ≤ tNm (xE (zyEl zymc B s.heap) 36) (xE (zyEl zymc B s.heap) 35 4) p1 ∧ tNm (xE (zyEl zymc B s.heap) 36) (xE (zyEl zymc B s.heap) 35 4) p1 ≤ 1 then _ else _) else _) = _
            rw [if_pos hk, if_pos (by omega), hval, f7, f6]
        refine xGo hIH hAt hB hv hFr ⟨3, by decide⟩ [0, 0, 68719476737, 274877906945, 137438953481] [0, 0, (v2 2), (v2 8), (v2 4 + 1)] rfl ⟨by decide +kernel, ⟨rfl, by decide +kernel⟩, (xcs_c rfl (xcs_c rfl (xcs_c rfl (xcs_c rfl (xcs_c rfl xcs_n))))), (xe_0 (xe_0 (xe_c (by omega) (by omega) rfl (xe_c (by omega) (by omega) rfl (xe_c (by omega) (by omega) rfl xe_n))))), xkq_n⟩ xst_n ?_ ?_
        · show (0 ≤ ((v2 2) : Int) ∧ ((v2 2) : Int) < xE (zyEl zymc B s.heap) 2 3) ∧ xE (zyEl zymc B H2) 35 6 ≤ (xE (zyEl zymc B s.heap) 35 4) ∧ ((∀ k, xE (zyEl zymc B H2) 10 k = xE (zyEl zymc B s.heap) 10 k) ∧ (∀ k, xE (zyEl zymc B H2) 11 k = xE (zyEl zymc B s.heap) 11 k)) ∧ ((1 ≤ ((v2 4 + 1) : Int) ∧ ((v2 4 + 1) : Int) ≤ 4 ∧ ∀ S, xAb0 (zyEl zymc B s.heap) S → pSwitch (xE (zyEl zymc B s.heap) 36) (xE (zyEl zymc B s.heap) 35 4) (xE (zyEl zymc B s.heap) 35 6) S = pBits (xE (zyEl zymc B s.heap) 36) (xE (zyEl zymc B s.heap) 35 4) S ((v2 2) : Int) (4 - ((v2 4 + 1) : Int)).toNat (xE (zyEl zymc B H2) 35 6) ((v2 4 + 1) : Int) ((v2 8) : Int)) ∨ (((v2 4 + 1) : Int) = 5 ∧ ∀ S, xAb0 (zyEl zymc B s.heap) S → pSwitch (xE (zyEl zymc B s.heap) 36) (xE (zyEl zymc B s.heap) 35 4) (xE (zyEl zymc B s.heap) 35 6) S = .error (6, xE (zyEl zymc B H2) 35 5)))
          refine ⟨by omega, by omega, ⟨fun k => by rw [e10 k, j0 k], fun k => by rw [e11 k, j1 k]⟩, ?_⟩
          rcases hstep with ⟨h4, hs⟩ | ⟨h4, hs⟩
          · exact Or.inr ⟨by omega, fun S hS => by rw [hs S hS, show xE (zyEl zymc B H2) 35 5 = tFr (xE (zyEl zymc B s.heap) 36) (xE (zyEl zymc B s.heap) 35 4) p1 by omega]⟩
          · exact Or.inl ⟨by omega, by omega, fun S hS => by rw [hs S hS, show xE (zyEl zymc B H2) 35 6 = tNx (xE (zyEl zymc B s.heap) 36) (xE (zyEl zymc B s.heap) 35 4) p1 by omega]⟩
        · show 50 + 2 * (10 - ((v2 4 + 1) : Int)).toNat < 49 + 2 * (10 - (v 4)).toNat
          omega
      · skip
        have ex := List.mem_singleton.mp hx
        subst ex
        obtain ⟨hF, hBd, hM⟩ := hXs
        have g2 : v2 2 = v 2 := hag 2 (by decide)
        have g3 : v2 3 = v 3 := hag 3 (by decide)
        have g4 : v2 4 = v 4 := hag 4 (by decide)
        have b0 : ((2147483648 : Nat) : Int) ≤ (v2 2) + 2147483648 ∧ (v2 2) + 2147483648 ≤ ((2147483678 : Nat) : Int) := xXb hBd 0 rfl
        have b1 : ((2147483648 : Nat) : Int) ≤ (v2 3) + 2147483648 ∧ (v2 3) + 2147483648 ≤ ((2147483679 : Nat) : Int) := xXb hBd 1 rfl
        have b2 : ((2147483649 : Nat) : Int) ≤ (v2 4) + 2147483648 ∧ (v2 4) + 2147483648 ≤ ((2147483652 : Nat) : Int) := xXb hBd 2 rfl
        have b3 : ((2147483653 : Nat) : Int) ≤ (v2 5) + 2147483648 ∧ (v2 5) + 2147483648 ≤ ((2147483653 : Nat) : Int) := xXb hBd 3 rfl
        have f0 : (0 : Int) ≤ 7 ∧ xE (zyEl zymc B H) 35 7 = (v2 5) := xXf hF 0 rfl
        have f1 : (v2 5) = 5 := xXf hF 1 rfl
        have e35_4 : xE (zyEl zymc B H2) 35 4 = xE (zyEl zymc B H) 35 4 := xFr_E hfr rfl
        have q35_4 : xE (zyEl zymc B H) 35 4 = xE (zyEl zymc B s.heap) 35 4 := xFr_E hFr0 rfl
        have e35_5 : xE (zyEl zymc B H2) 35 5 = xE (zyEl zymc B H) 35 5 := xFr_E hfr rfl
        have e35_6 : xE (zyEl zymc B H2) 35 6 = xE (zyEl zymc B H) 35 6 := xFr_E hfr rfl
        have e35_7 : xE (zyEl zymc B H2) 35 7 = xE (zyEl zymc B H) 35 7 := xFr_E hfr rfl
        have e35_8 : xE (zyEl zymc B H2) 35 8 = xE (zyEl zymc B H) 35 8 := xFr_E hfr rfl
        have e2_3 : xE (zyEl zymc B H2) 2 3 = xE (zyEl zymc B H) 2 3 := xFr_E hfr rfl
        have q2_3 : xE (zyEl zymc B H) 2 3 = xE (zyEl zymc B s.heap) 2 3 := xFr_E hFr0 rfl
        have e36 : ∀ i, xE (zyEl zymc B H2) 36 i = xE (zyEl zymc B H) 36 i := fun i => xFr_E hfr rfl
        have q36 : ∀ i, xE (zyEl zymc B H) 36 i = xE (zyEl zymc B s.heap) 36 i := fun i => xFr_E hFr0 rfl
        have e10 : ∀ i, xE (zyEl zymc B H2) 10 i = xE (zyEl zymc B H) 10 i := fun i => xFr_E hfr rfl
        have e11 : ∀ i, xE (zyEl zymc B H2) 11 i = xE (zyEl zymc B H) 11 i := fun i => xFr_E hfr rfl
        have y2_3 : ((2147483648 : Nat) : Int) ≤ xE (zyEl zymc B s.heap) 2 3 + 2147483648 ∧ xE (zyEl zymc B s.heap) 2 3 + 2147483648 ≤ ((2147483679 : Nat) : Int) := xTyF hT0 2 3 3 rfl rfl rfl rfl rfl rfl
        have hI : (0 ≤ (v 2) ∧ (v 2) < xE (zyEl zymc B s.heap) 2 3) ∧ (1 ≤ (v 4) ∧ (v 4) ≤ 4) ∧ ∃ p1, p1 ≤ (xE (zyEl zymc B s.heap) 35 4) ∧ (∀ S, xAb0 (zyEl zymc B s.heap) S → pSwitch (xE (zyEl zymc B s.heap) 36) (xE (zyEl zymc B s.heap) 35 4) (xE (zyEl zymc B s.heap) 35 6) S = pBits (xE (zyEl zymc B s.heap) 36) (xE (zyEl zymc B s.heap) 35 4) S (v 2) (4 - (v 4)).toNat p1 (v 4) (v 3)) ∧ xAD (xE (zyEl zymc B s.heap) 36) (xE (zyEl zymc B s.heap) 35 4) p1 (zyEl zymc B H) ∧ (∀ k, xE (zyEl zymc B H) 10 k = xE (zyEl zymc B s.heap) 10 k) ∧ (∀ k, xE (zyEl zymc B H) 11 k = xE (zyEl zymc B s.heap) 11 k) := hInv
        obtain ⟨i1, i2, p1, i0, i3, ⟨i4, i5, i6, i7⟩, j0, j1⟩ := hI
        have hb := tNx_b (T := xE (zyEl zymc B s.heap) 36) (n := xE (zyEl zymc B s.heap) 35 4) (p := p1) i0
        rw [show (v 2) = v2 2 by omega, show (v 3) = v2 3 by omega, show (v 4) = v2 4 by omega] at i3
        have hpb : ∀ S, xAb0 (zyEl zymc B s.heap) S → pSwitch (xE (zyEl zymc B s.heap) 36) (xE (zyEl zymc B s.heap) 35 4) (xE (zyEl zymc B s.heap) 35 6) S = .ok (p1, uS (uS S (8 + v2 2) (v2 3)) (40 + v2 2) (v2 4)) := by
          intro S hS
          rw [i3 S hS]
          cases (4 - v2 4).toNat with
          | zero =>
            unfold pBits
            rw [if_neg (by omega)]
          | succ f =>
            show (if tKd (xE (zyEl zymc B s.heap) 36) (xE (zyEl zymc B s.heap) 35 4) p1 = 3 then _ else _) = _
            rw [if_neg (by omega)]
        refine xSt hRu hIH hAt hB hv hFr 10 (ax := 0) 103079215105 68719476737 (v2 3) (v2 2) rfl (Or.inl ⟨rfl, rfl⟩) rfl (by decide +kernel) rfl rfl (by omega) (by show (v2 2) < ((31 : Nat) : Int); omega) (fun r hr q1 q2 => by rw [List.mem_singleton.mp hr]; exact ⟨rfl, by show ((2147483648 : Nat) : Int) ≤ (v2 3) + 2147483648; omega, by show (v2 3) + 2147483648 ≤ ((4294967295 : Nat) : Int); omega⟩) (zyin_iff.mpr ⟨(10, 0, 30), by decide, rfl, Nat.zero_le _, by show Int.toNat (v2 2) ≤ 30; omega⟩) (fun H3 hT3 hst3 hne3 hfn3 hFr3 => ?_)
        have hfe3 : ∀ (a2 : Nat) (k2 : Int), ¬ a2 = 10 → xE (zyEl zymc B H3) a2 k2 = xE (zyEl zymc B H2) a2 k2 := fun a2 k2 hne => by unfold xE; rw [hfn3 a2 k2.toNat (fun z => hne z.1)]
        have d35_4 : xE (zyEl zymc B H3) 35 4 = xE (zyEl zymc B H2) 35 4 := hfe3 35 4 (fun z => absurd z (by decide))
        have d35_5 : xE (zyEl zymc B H3) 35 5 = xE (zyEl zymc B H2) 35 5 := hfe3 35 5 (fun z => absurd z (by decide))
        have d35_6 : xE (zyEl zymc B H3) 35 6 = xE (zyEl zymc B H2) 35 6 := hfe3 35 6 (fun z => absurd z (by decide))
        have d35_7 : xE (zyEl zymc B H3) 35 7 = xE (zyEl zymc B H2) 35 7 := hfe3 35 7 (fun z => absurd z (by decide))
        have d35_8 : xE (zyEl zymc B H3) 35 8 = xE (zyEl zymc B H2) 35 8 := hfe3 35 8 (fun z => absurd z (by decide))
        have d35_2 : xE (zyEl zymc B H3) 35 2 = xE (zyEl zymc B H2) 35 2 := hfe3 35 2 (fun z => absurd z (by decide))
        have d35_3 : xE (zyEl zymc B H3) 35 3 = xE (zyEl zymc B H2) 35 3 := hfe3 35 3 (fun z => absurd z (by decide))
        have d2_3 : xE (zyEl zymc B H3) 2 3 = xE (zyEl zymc B H2) 2 3 := hfe3 2 3 (fun z => absurd z (by decide))
        refine ⟨⟨5, by decide⟩, [0, 0, 68719476737, 103079215105, 137438953473], [0, 0, (v2 2), (v2 3), (v2 4)], rfl, ⟨by decide +kernel, ⟨rfl, by decide +kernel⟩, (xcs_c rfl (xcs_c rfl (xcs_c rfl (xcs_c rfl (xcs_c rfl xcs_n))))), (xe_0 (xe_0 (xe_c (by omega) (by omega) rfl (xe_c (by omega) (by omega) rfl (xe_c (by omega) (by omega) rfl xe_n))))), xkq_n⟩, rfl, ?_, ?_⟩
        · show (0 ≤ ((v2 2) : Int) ∧ ((v2 2) : Int) < xE (zyEl zymc B s.heap) 2 3) ∧ (∀ S, xAb0 (zyEl zymc B s.heap) S → pBind (pSwitch (xE (zyEl zymc B s.heap) 36) (xE (zyEl zymc B s.heap) 35 4) (xE (zyEl zymc B s.heap) 35 6) S) (pSem (xE (zyEl zymc B s.heap) 36) (xE (zyEl zymc B s.heap) 35 4)) = .ok (xE (zyEl zymc B H3) 35 6, uS (uS S (8 + ((v2 2) : Int)) ((v2 3) : Int)) (40 + ((v2 2) : Int)) ((v2 4) : Int))) ∧ xE (zyEl zymc B H3) 10 ((v2 2) : Int) = ((v2 3) : Int) ∧ (∀ k, 0 ≤ k → ¬ k = ((v2 2) : Int) → xE (zyEl zymc B H3) 10 k = xE (zyEl zymc B s.heap) 10 k) ∧ ∀ k, xE (zyEl zymc B H3) 11 k = xE (zyEl zymc B s.heap) 11 k
          refine ⟨by omega, fun S hS => ?_, ?_, ?_, ?_⟩
          · rw [hpb S hS]
            show pSem _ _ p1 _ = _
            unfold pSem
            rw [if_pos (by omega), show xE (zyEl zymc B H3) 35 6 = tNx (xE (zyEl zymc B s.heap) 36) (xE (zyEl zymc B s.heap) 35 4) p1 by omega]
          · exact hst3
          · intro k k0 k1
            rw [hne3 10 k k0 (fun z => k1 z.2), e10 k, j0 k]
          · intro k
            rw [hfe3 11 k (fun z => absurd z (by decide)), e11 k, j1 k]
        · show 2 < 49 + 2 * (10 - (v 4)).toNat
          omega
    · have hx : x ∈ [zxfrs0_fx0] := hx
      have hag : ∀ k, k < 5 → v2 k = v k := hag
      have hfr : xFr [] _ _ := hfr
      have ex := List.mem_singleton.mp hx
      subst ex
      obtain ⟨hF, hBd, hM⟩ := hXs
      have g2 : v2 2 = v 2 := hag 2 (by decide)
      have g3 : v2 3 = v 3 := hag 3 (by decide)
      have g4 : v2 4 = v 4 := hag 4 (by decide)
      have b0 : ((2147483648 : Nat) : Int) ≤ (v2 2) + 2147483648 ∧ (v2 2) + 2147483648 ≤ ((2147483678 : Nat) : Int) := xXb hBd 0 rfl
      have b1 : ((2147483648 : Nat) : Int) ≤ (v2 3) + 2147483648 ∧ (v2 3) + 2147483648 ≤ ((2147483679 : Nat) : Int) := xXb hBd 1 rfl
      have b2 : ((2147483649 : Nat) : Int) ≤ (v2 4) + 2147483648 ∧ (v2 4) + 2147483648 ≤ ((2147483652 : Nat) : Int) := xXb hBd 2 rfl
      have e35_4 : xE (zyEl zymc B H2) 35 4 = xE (zyEl zymc B H) 35 4 := xFr_E hfr rfl
      have q35_4 : xE (zyEl zymc B H) 35 4 = xE (zyEl zymc B s.heap) 35 4 := xFr_E hFr0 rfl
      have e35_5 : xE (zyEl zymc B H2) 35 5 = xE (zyEl zymc B H) 35 5 := xFr_E hfr rfl
      have e35_6 : xE (zyEl zymc B H2) 35 6 = xE (zyEl zymc B H) 35 6 := xFr_E hfr rfl
      have e35_7 : xE (zyEl zymc B H2) 35 7 = xE (zyEl zymc B H) 35 7 := xFr_E hfr rfl
      have e35_8 : xE (zyEl zymc B H2) 35 8 = xE (zyEl zymc B H) 35 8 := xFr_E hfr rfl
      have e35_2 : xE (zyEl zymc B H2) 35 2 = xE (zyEl zymc B H) 35 2 := xFr_E hfr rfl
      have e35_3 : xE (zyEl zymc B H2) 35 3 = xE (zyEl zymc B H) 35 3 := xFr_E hfr rfl
      have e2_3 : xE (zyEl zymc B H2) 2 3 = xE (zyEl zymc B H) 2 3 := xFr_E hfr rfl
      have q2_3 : xE (zyEl zymc B H) 2 3 = xE (zyEl zymc B s.heap) 2 3 := xFr_E hFr0 rfl
      have e36 : ∀ i, xE (zyEl zymc B H2) 36 i = xE (zyEl zymc B H) 36 i := fun i => xFr_E hfr rfl
      have q36 : ∀ i, xE (zyEl zymc B H) 36 i = xE (zyEl zymc B s.heap) 36 i := fun i => xFr_E hFr0 rfl
      have e10 : ∀ i, xE (zyEl zymc B H2) 10 i = xE (zyEl zymc B H) 10 i := fun i => xFr_E hfr rfl
      have e11 : ∀ i, xE (zyEl zymc B H2) 11 i = xE (zyEl zymc B H) 11 i := fun i => xFr_E hfr rfl
      have y2_3 : ((2147483648 : Nat) : Int) ≤ xE (zyEl zymc B s.heap) 2 3 + 2147483648 ∧ xE (zyEl zymc B s.heap) 2 3 + 2147483648 ≤ ((2147483679 : Nat) : Int) := xTyF hT0 2 3 3 rfl rfl rfl rfl rfl rfl
      have hI : (0 ≤ (v 2) ∧ (v 2) < xE (zyEl zymc B s.heap) 2 3) ∧ (∀ S, xAb0 (zyEl zymc B s.heap) S → pBind (pSwitch (xE (zyEl zymc B s.heap) 36) (xE (zyEl zymc B s.heap) 35 4) (xE (zyEl zymc B s.heap) 35 6) S) (pSem (xE (zyEl zymc B s.heap) 36) (xE (zyEl zymc B s.heap) 35 4)) = .ok (xE (zyEl zymc B H) 35 6, uS (uS S (8 + (v 2)) (v 3)) (40 + (v 2)) (v 4))) ∧ xE (zyEl zymc B H) 10 (v 2) = (v 3) ∧ (∀ k, 0 ≤ k → ¬ k = (v 2) → xE (zyEl zymc B H) 10 k = xE (zyEl zymc B s.heap) 10 k) ∧ ∀ k, xE (zyEl zymc B H) 11 k = xE (zyEl zymc B s.heap) 11 k := hInv
      obtain ⟨i1, i2, i3, i4, i5⟩ := hI
      rw [show (v 2) = v2 2 by omega, show (v 3) = v2 3 by omega] at i2 i3
      rw [show (v 2) = v2 2 by omega] at i4
      rw [show (v 4) = v2 4 by omega] at i2
      refine xSt hRu hIH hAt hB hv hFr 11 (ax := 0) 137438953473 68719476737 (v2 4) (v2 2) rfl (Or.inl ⟨rfl, rfl⟩) rfl (by decide +kernel) rfl rfl (by omega) (by show (v2 2) < ((31 : Nat) : Int); omega) (fun r hr q1 q2 => by rw [List.mem_singleton.mp hr]; exact ⟨rfl, by show ((2147483648 : Nat) : Int) ≤ (v2 4) + 2147483648; omega, by show (v2 4) + 2147483648 ≤ ((2147483652 : Nat) : Int); omega⟩) (zyin_iff.mpr ⟨(11, 0, 30), by decide, rfl, Nat.zero_le _, by show Int.toNat (v2 2) ≤ 30; omega⟩) (fun H3 hT3 hst3 hne3 hfn3 hFr3 => ?_)
      have hfe3 : ∀ (a2 : Nat) (k2 : Int), ¬ a2 = 11 → xE (zyEl zymc B H3) a2 k2 = xE (zyEl zymc B H2) a2 k2 := fun a2 k2 hne => by unfold xE; rw [hfn3 a2 k2.toNat (fun z => hne z.1)]
      have d35_4 : xE (zyEl zymc B H3) 35 4 = xE (zyEl zymc B H2) 35 4 := hfe3 35 4 (fun z => absurd z (by decide))
      have d35_5 : xE (zyEl zymc B H3) 35 5 = xE (zyEl zymc B H2) 35 5 := hfe3 35 5 (fun z => absurd z (by decide))
      have d35_6 : xE (zyEl zymc B H3) 35 6 = xE (zyEl zymc B H2) 35 6 := hfe3 35 6 (fun z => absurd z (by decide))
      have d35_7 : xE (zyEl zymc B H3) 35 7 = xE (zyEl zymc B H2) 35 7 := hfe3 35 7 (fun z => absurd z (by decide))
      have d35_8 : xE (zyEl zymc B H3) 35 8 = xE (zyEl zymc B H2) 35 8 := hfe3 35 8 (fun z => absurd z (by decide))
      have d35_2 : xE (zyEl zymc B H3) 35 2 = xE (zyEl zymc B H2) 35 2 := hfe3 35 2 (fun z => absurd z (by decide))
      have d35_3 : xE (zyEl zymc B H3) 35 3 = xE (zyEl zymc B H2) 35 3 := hfe3 35 3 (fun z => absurd z (by decide))
      have d2_3 : xE (zyEl zymc B H3) 2 3 = xE (zyEl zymc B H2) 2 3 := hfe3 2 3 (fun z => absurd z (by decide))
      refine ⟨⟨6, by decide⟩, [0, 0, 0, 0, 0], [0, 0, 0, 0, 0], rfl, ⟨by decide +kernel, ⟨rfl, by decide +kernel⟩, (xcs_c rfl (xcs_c rfl (xcs_c rfl (xcs_c rfl (xcs_c rfl xcs_n))))), (xe_0 (xe_0 (xe_0 (xe_0 (xe_0 xe_n))))), xkq_n⟩, rfl, ?_, ?_⟩
      · show ∃ g b l, (0 ≤ g ∧ g < xE (zyEl zymc B s.heap) 2 3) ∧ (∀ S, xAb0 (zyEl zymc B s.heap) S → pBind (pSwitch (xE (zyEl zymc B s.heap) 36) (xE (zyEl zymc B s.heap) 35 4) (xE (zyEl zymc B s.heap) 35 6) S) (pSem (xE (zyEl zymc B s.heap) 36) (xE (zyEl zymc B s.heap) 35 4)) = .ok (xE (zyEl zymc B H3) 35 6, uS (uS S (8 + g) b) (40 + g) l)) ∧ xE (zyEl zymc B H3) 10 g = b ∧ (∀ k, 0 ≤ k → ¬ k = g → xE (zyEl zymc B H3) 10 k = xE (zyEl zymc B s.heap) 10 k) ∧ xE (zyEl zymc B H3) 11 g = l ∧ (∀ k, 0 ≤ k → ¬ k = g → xE (zyEl zymc B H3) 11 k = xE (zyEl zymc B s.heap) 11 k)
        refine ⟨v2 2, v2 3, v2 4, by omega, fun S hS => ?_, ?_, ?_, hst3, ?_⟩
        · rw [i2 S hS, show xE (zyEl zymc B H) 35 6 = xE (zyEl zymc B H3) 35 6 by omega]
        · rw [hfe3 10 (v2 2) (fun z => absurd z (by decide)), e10, i3]
        · intro k k0 k1
          rw [hfe3 10 k (fun z => absurd z (by decide)), e10, i4 k k0 k1]
        · intro k k0 k1
          rw [hne3 11 k k0 (fun z => k1 z.2), e11 k, i5 k]
      · show 1 < 2
        omega
    · cases hx
  · intro x0 E0 E E2 hrx hT0 hΦ i v hT hrv hInv hKc hFr0 x hx v2 hr2 hXs hag hfr hFr hT2
    rcases i with ⟨i, hi⟩
    have hi2 : i = 0 ∨ i = 1 ∨ i = 2 ∨ i = 3 ∨ i = 4 ∨ i = 5 ∨ i = 6 := by omega
    rcases hi2 with rfl | rfl | rfl | rfl | rfl | rfl | rfl
    · cases hx
    · have hx : x ∈ [zxfrs0_br0] := hx
      have hag : ∀ k, k < 6 → v2 k = v k := hag
      have hfr : xFr [] _ _ := hfr
      have ex := List.mem_singleton.mp hx
      subst ex
      obtain ⟨hF, hBd, hM⟩ := hXs
      have g5 : v2 5 = v 5 := hag 5 (by decide)
      have b0 : ((2147483648 : Nat) : Int) ≤ (v2 5) + 2147483648 ∧ (v2 5) + 2147483648 ≤ ((2147483648 : Nat) : Int) := xXb hBd 0 rfl
      have f0 : (v2 5) = 0 := xXf hF 0 rfl
      have e35_4 : xE E2 35 4 = xE E 35 4 := xFr_E hfr rfl
      have q35_4 : xE E 35 4 = xE E0 35 4 := xFr_E hFr0 rfl
      have e35_5 : xE E2 35 5 = xE E 35 5 := xFr_E hfr rfl
      have e35_6 : xE E2 35 6 = xE E 35 6 := xFr_E hfr rfl
      have e35_7 : xE E2 35 7 = xE E 35 7 := xFr_E hfr rfl
      have e35_8 : xE E2 35 8 = xE E 35 8 := xFr_E hfr rfl
      have e35_2 : xE E2 35 2 = xE E 35 2 := xFr_E hfr rfl
      have e35_3 : xE E2 35 3 = xE E 35 3 := xFr_E hfr rfl
      have e2_3 : xE E2 2 3 = xE E 2 3 := xFr_E hfr rfl
      have q2_3 : xE E 2 3 = xE E0 2 3 := xFr_E hFr0 rfl
      have e36 : ∀ i, xE E2 36 i = xE E 36 i := fun i => xFr_E hfr rfl
      have q36 : ∀ i, xE E 36 i = xE E0 36 i := fun i => xFr_E hFr0 rfl
      have e10 : ∀ i, xE E2 10 i = xE E 10 i := fun i => xFr_E hfr rfl
      have e11 : ∀ i, xE E2 11 i = xE E 11 i := fun i => xFr_E hfr rfl
      have y2_3 : ((2147483648 : Nat) : Int) ≤ xE E0 2 3 + 2147483648 ∧ xE E0 2 3 + 2147483648 ≤ ((2147483679 : Nat) : Int) := xTyF hT0 2 3 3 rfl rfl rfl rfl rfl rfl
      have hI : xTN (xE E0 36) (xE E0 35 4) (xE E0 35 6) 0 (xE E0 2 3 - 1) E (v 5) ∧ (∀ k, xE E 10 k = xE E0 10 k) ∧ (∀ k, xE E 11 k = xE E0 11 k) := hInv
      show xΨfrs0 x0 E0 E2 0
      obtain ⟨i1, j0, j1⟩ := hI
      have hz : (v 5) = 0 := by omega
      intro S hS
      have e : pSwitch (xE E0 36) (xE E0 35 4) (xE E0 35 6) S = Except.error (xE E 35 2, xE E 35 3) := by unfold pSwitch; rw [← hS.2.1.2.2.2]; exact xtn_0 i1 hz _
      show xOut0 (pBind (pSwitch (xE E0 36) (xE E0 35 4) (xE E0 35 6) S) (pSem (xE E0 36) (xE E0 35 4))) E2 0
      rw [e]
      exact xOut0_e (by omega) (by omega) (by omega)
    · have hx : x ∈ [zxfrs0_cr0] := hx
      have hag : ∀ k, k < 6 → v2 k = v k := hag
      have hfr : xFr [] _ _ := hfr
      have ex := List.mem_singleton.mp hx
      subst ex
      obtain ⟨hF, hBd, hM⟩ := hXs
      have g2 : v2 2 = v 2 := hag 2 (by decide)
      have g5 : v2 5 = v 5 := hag 5 (by decide)
      have b0 : ((2147483648 : Nat) : Int) ≤ (v2 5) + 2147483648 ∧ (v2 5) + 2147483648 ≤ ((2147483648 : Nat) : Int) := xXb hBd 0 rfl
      have f0 : (v2 5) = 0 := xXf hF 0 rfl
      have e35_4 : xE E2 35 4 = xE E 35 4 := xFr_E hfr rfl
      have q35_4 : xE E 35 4 = xE E0 35 4 := xFr_E hFr0 rfl
      have e35_5 : xE E2 35 5 = xE E 35 5 := xFr_E hfr rfl
      have e35_6 : xE E2 35 6 = xE E 35 6 := xFr_E hfr rfl
      have e35_7 : xE E2 35 7 = xE E 35 7 := xFr_E hfr rfl
      have e35_8 : xE E2 35 8 = xE E 35 8 := xFr_E hfr rfl
      have e35_2 : xE E2 35 2 = xE E 35 2 := xFr_E hfr rfl
      have e35_3 : xE E2 35 3 = xE E 35 3 := xFr_E hfr rfl
      have e2_3 : xE E2 2 3 = xE E 2 3 := xFr_E hfr rfl
      have q2_3 : xE E 2 3 = xE E0 2 3 := xFr_E hFr0 rfl
      have e36 : ∀ i, xE E2 36 i = xE E 36 i := fun i => xFr_E hfr rfl
      have q36 : ∀ i, xE E 36 i = xE E0 36 i := fun i => xFr_E hFr0 rfl
      have e10 : ∀ i, xE E2 10 i = xE E 10 i := fun i => xFr_E hfr rfl
      have e11 : ∀ i, xE E2 11 i = xE E 11 i := fun i => xFr_E hfr rfl
      have y2_3 : ((2147483648 : Nat) : Int) ≤ xE E0 2 3 + 2147483648 ∧ xE E0 2 3 + 2147483648 ≤ ((2147483679 : Nat) : Int) := xTyF hT0 2 3 3 rfl rfl rfl rfl rfl rfl
      have hI : (0 ≤ (v 2) ∧ (v 2) < xE E0 2 3) ∧ ∃ p1, p1 ≤ (xE E0 35 4) ∧ (∀ S, xAb0 E0 S → pSwitch (xE E0 36) (xE E0 35 4) (xE E0 35 6) S = pNum (xE E0 36) (xE E0 35 4) p1 0 1 (fun b p2 => pBits (xE E0 36) (xE E0 35 4) S (v 2) 3 p2 1 b)) ∧ xTN (xE E0 36) (xE E0 35 4) p1 0 1 E (v 5) ∧ (∀ k, xE E 10 k = xE E0 10 k) ∧ (∀ k, xE E 11 k = xE E0 11 k) := hInv
      show xΨfrs0 x0 E0 E2 0
      obtain ⟨i1, p1, i0, i2, i3, j0, j1⟩ := hI
      have hb := tNx_b (T := xE E0 36) (n := xE E0 35 4) (p := p1) i0
      have hz : (v 5) = 0 := by omega
      intro S hS
      have e : pSwitch (xE E0 36) (xE E0 35 4) (xE E0 35 6) S = Except.error (xE E 35 2, xE E 35 3) := (i2 S hS).trans (xtn_0 i3 hz _)
      show xOut0 (pBind (pSwitch (xE E0 36) (xE E0 35 4) (xE E0 35 6) S) (pSem (xE E0 36) (xE E0 35 4))) E2 0
      rw [e]
      exact xOut0_e (by omega) (by omega) (by omega)
    · have hx : x ∈ [zxfrs0_dr0] := hx
      have hag : ∀ k, k < 5 → v2 k = v k := hag
      have hfr : xFr [(35, 2, 3)] _ _ := hfr
      have ex := List.mem_singleton.mp hx
      subst ex
      obtain ⟨hF, hBd, hM⟩ := hXs
      have g2 : v2 2 = v 2 := hag 2 (by decide)
      have g3 : v2 3 = v 3 := hag 3 (by decide)
      have g4 : v2 4 = v 4 := hag 4 (by decide)
      have b0 : ((2147483653 : Nat) : Int) ≤ (v2 4) + 2147483648 ∧ (v2 4) + 2147483648 ≤ ((2147483653 : Nat) : Int) := xXb hBd 0 rfl
      have b1 : ((2147483648 : Nat) : Int) ≤ (v2 5) + 2147483648 ∧ (v2 5) + 2147483648 ≤ ((2147484548 : Nat) : Int) := xXb hBd 1 rfl
      have f0 : 4 < (v2 4) := xXf hF 0 rfl
      have f1 : (0 : Int) ≤ 5 ∧ xE E 35 5 = (v2 5) := xXf hF 1 rfl
      have m0 : xE E2 35 2 = 6 := xXm hM 0 rfl
      have m1 : xE E2 35 3 = (v2 5) := xXm hM 1 rfl
      have e35_4 : xE E2 35 4 = xE E 35 4 := xFr_E hfr rfl
      have q35_4 : xE E 35 4 = xE E0 35 4 := xFr_E hFr0 rfl
      have e35_5 : xE E2 35 5 = xE E 35 5 := xFr_E hfr rfl
      have e35_6 : xE E2 35 6 = xE E 35 6 := xFr_E hfr rfl
      have e35_7 : xE E2 35 7 = xE E 35 7 := xFr_E hfr rfl
      have e35_8 : xE E2 35 8 = xE E 35 8 := xFr_E hfr rfl
      have e2_3 : xE E2 2 3 = xE E 2 3 := xFr_E hfr rfl
      have q2_3 : xE E 2 3 = xE E0 2 3 := xFr_E hFr0 rfl
      have e36 : ∀ i, xE E2 36 i = xE E 36 i := fun i => xFr_E hfr rfl
      have q36 : ∀ i, xE E 36 i = xE E0 36 i := fun i => xFr_E hFr0 rfl
      have e10 : ∀ i, xE E2 10 i = xE E 10 i := fun i => xFr_E hfr rfl
      have e11 : ∀ i, xE E2 11 i = xE E 11 i := fun i => xFr_E hfr rfl
      have y2_3 : ((2147483648 : Nat) : Int) ≤ xE E0 2 3 + 2147483648 ∧ xE E0 2 3 + 2147483648 ≤ ((2147483679 : Nat) : Int) := xTyF hT0 2 3 3 rfl rfl rfl rfl rfl rfl
      have hI : (0 ≤ (v 2) ∧ (v 2) < xE E0 2 3) ∧ xE E 35 6 ≤ (xE E0 35 4) ∧ ((∀ k, xE E 10 k = xE E0 10 k) ∧ (∀ k, xE E 11 k = xE E0 11 k)) ∧ ((1 ≤ (v 4) ∧ (v 4) ≤ 4 ∧ ∀ S, xAb0 E0 S → pSwitch (xE E0 36) (xE E0 35 4) (xE E0 35 6) S = pBits (xE E0 36) (xE E0 35 4) S (v 2) (4 - (v 4)).toNat (xE E 35 6) (v 4) (v 3)) ∨ ((v 4) = 5 ∧ ∀ S, xAb0 E0 S → pSwitch (xE E0 36) (xE E0 35 4) (xE E0 35 6) S = .error (6, xE E 35 5))) := hInv
      show xΨfrs0 x0 E0 E2 0
      obtain ⟨i1, i0, ⟨j0, j1⟩, i2⟩ := hI
      rcases i2 with ⟨-, w, -⟩ | ⟨-, i2⟩
      · omega
      intro S hS
      have e : pSwitch (xE E0 36) (xE E0 35 4) (xE E0 35 6) S = Except.error (6, xE E 35 5) := i2 S hS
      show xOut0 (pBind (pSwitch (xE E0 36) (xE E0 35 4) (xE E0 35 6) S) (pSem (xE E0 36) (xE E0 35 4))) E2 0
      rw [e]
      exact xOut0_e (by omega) (by omega) (by omega)
    · have hx : x ∈ [zxfrs0_er0, zxfrs0_er1, zxfrs0_er2, zxfrs0_er3, zxfrs0_er4, zxfrs0_er5] := hx
      have hag : ∀ k, k < 5 → v2 k = v k := hag
      have hfr : xFr [(35, 2, 3)] _ _ := hfr
      rcases List.mem_cons.mp hx with ex | hx
      · subst ex
        obtain ⟨hF, hBd, hM⟩ := hXs
        have g2 : v2 2 = v 2 := hag 2 (by decide)
        have g3 : v2 3 = v 3 := hag 3 (by decide)
        have g4 : v2 4 = v 4 := hag 4 (by decide)
        have b0 : ((2147483652 : Nat) : Int) ≤ (v2 5) + 2147483648 ∧ (v2 5) + 2147483648 ≤ ((2147483652 : Nat) : Int) := xXb hBd 0 rfl
        have b1 : ((2147483648 : Nat) : Int) ≤ (v2 6) + 2147483648 ∧ (v2 6) + 2147483648 ≤ ((2147484548 : Nat) : Int) := xXb hBd 1 rfl
        have f0 : (0 : Int) ≤ 7 ∧ xE E 35 7 = (v2 5) := xXf hF 0 rfl
        have f1 : ¬ (v2 5) = 5 := xXf hF 1 rfl
        have f2 : ¬ (v2 5) = 3 := xXf hF 2 rfl
        have f3 : ¬ (v2 5) = 1 := xXf hF 3 rfl
        have f4 : (0 : Int) ≤ 5 ∧ xE E 35 5 = (v2 6) := xXf hF 4 rfl
        have m0 : xE E2 35 2 = 2 := xXm hM 0 rfl
        have m1 : xE E2 35 3 = (v2 6) := xXm hM 1 rfl
        have e35_4 : xE E2 35 4 = xE E 35 4 := xFr_E hfr rfl
        have q35_4 : xE E 35 4 = xE E0 35 4 := xFr_E hFr0 rfl
        have e35_5 : xE E2 35 5 = xE E 35 5 := xFr_E hfr rfl
        have e35_6 : xE E2 35 6 = xE E 35 6 := xFr_E hfr rfl
        have e35_7 : xE E2 35 7 = xE E 35 7 := xFr_E hfr rfl
        have e35_8 : xE E2 35 8 = xE E 35 8 := xFr_E hfr rfl
        have e2_3 : xE E2 2 3 = xE E 2 3 := xFr_E hfr rfl
        have q2_3 : xE E 2 3 = xE E0 2 3 := xFr_E hFr0 rfl
        have e36 : ∀ i, xE E2 36 i = xE E 36 i := fun i => xFr_E hfr rfl
        have q36 : ∀ i, xE E 36 i = xE E0 36 i := fun i => xFr_E hFr0 rfl
        have e10 : ∀ i, xE E2 10 i = xE E 10 i := fun i => xFr_E hfr rfl
        have e11 : ∀ i, xE E2 11 i = xE E 11 i := fun i => xFr_E hfr rfl
        have y2_3 : ((2147483648 : Nat) : Int) ≤ xE E0 2 3 + 2147483648 ∧ xE E0 2 3 + 2147483648 ≤ ((2147483679 : Nat) : Int) := xTyF hT0 2 3 3 rfl rfl rfl rfl rfl rfl
        have hI : (0 ≤ (v 2) ∧ (v 2) < xE E0 2 3) ∧ (1 ≤ (v 4) ∧ (v 4) ≤ 4) ∧ ∃ p1, p1 ≤ (xE E0 35 4) ∧ (∀ S, xAb0 E0 S → pSwitch (xE E0 36) (xE E0 35 4) (xE E0 35 6) S = pBits (xE E0 36) (xE E0 35 4) S (v 2) (4 - (v 4)).toNat p1 (v 4) (v 3)) ∧ xAD (xE E0 36) (xE E0 35 4) p1 E ∧ (∀ k, xE E 10 k = xE E0 10 k) ∧ (∀ k, xE E 11 k = xE E0 11 k) := hInv
        show xΨfrs0 x0 E0 E2 0
        obtain ⟨i1, i2, p1, i0, i3, ⟨i4, i5, i6, i7⟩, j0, j1⟩ := hI
        have hb := tNx_b (T := xE E0 36) (n := xE E0 35 4) (p := p1) i0
        rw [show (v 2) = v2 2 by omega, show (v 3) = v2 3 by omega, show (v 4) = v2 4 by omega] at i3
        have hpb : ∀ S, xAb0 E0 S → pSwitch (xE E0 36) (xE E0 35 4) (xE E0 35 6) S = .ok (p1, uS (uS S (8 + v2 2) (v2 3)) (40 + v2 2) (v2 4)) := by
          intro S hS
          rw [i3 S hS]
          cases (4 - v2 4).toNat with
          | zero =>
            unfold pBits
            rw [if_neg (by omega)]
          | succ f =>
            show (if tKd (xE E0 36) (xE E0 35 4) p1 = 3 then _ else _) = _
            rw [if_neg (by omega)]
        have hm : pMis (xE E0 36) (xE E0 35 4) p1 = 2 := by unfold pMis; rw [if_neg (by omega)]
        intro S hS
        show xOut0 (pBind (pSwitch (xE E0 36) (xE E0 35 4) (xE E0 35 6) S) (pSem (xE E0 36) (xE E0 35 4))) E2 0
        rw [hpb S hS]
        show xOut0 (pSem (xE E0 36) (xE E0 35 4) p1 _) E2 0
        unfold pSem
        rw [if_neg (by omega), hm]
        exact xOut0_f (by omega) (by omega) (by omega)
      · skip
        rcases List.mem_cons.mp hx with ex | hx
        · subst ex
          obtain ⟨hF, hBd, hM⟩ := hXs
          have g2 : v2 2 = v 2 := hag 2 (by decide)
          have g3 : v2 3 = v 3 := hag 3 (by decide)
          have g4 : v2 4 = v 4 := hag 4 (by decide)
          have b0 : ((2147483650 : Nat) : Int) ≤ (v2 5) + 2147483648 ∧ (v2 5) + 2147483648 ≤ ((2147483650 : Nat) : Int) := xXb hBd 0 rfl
          have b1 : ((2147483648 : Nat) : Int) ≤ (v2 6) + 2147483648 ∧ (v2 6) + 2147483648 ≤ ((2147484548 : Nat) : Int) := xXb hBd 1 rfl
          have f0 : (0 : Int) ≤ 7 ∧ xE E 35 7 = (v2 5) := xXf hF 0 rfl
          have f1 : ¬ (v2 5) = 5 := xXf hF 1 rfl
          have f2 : ¬ (v2 5) = 3 := xXf hF 2 rfl
          have f3 : ¬ (v2 5) = 1 := xXf hF 3 rfl
          have f4 : (0 : Int) ≤ 5 ∧ xE E 35 5 = (v2 6) := xXf hF 4 rfl
          have m0 : xE E2 35 2 = 2 := xXm hM 0 rfl
          have m1 : xE E2 35 3 = (v2 6) := xXm hM 1 rfl
          have e35_4 : xE E2 35 4 = xE E 35 4 := xFr_E hfr rfl
          have q35_4 : xE E 35 4 = xE E0 35 4 := xFr_E hFr0 rfl
          have e35_5 : xE E2 35 5 = xE E 35 5 := xFr_E hfr rfl
          have e35_6 : xE E2 35 6 = xE E 35 6 := xFr_E hfr rfl
          have e35_7 : xE E2 35 7 = xE E 35 7 := xFr_E hfr rfl
          have e35_8 : xE E2 35 8 = xE E 35 8 := xFr_E hfr rfl
          have e2_3 : xE E2 2 3 = xE E 2 3 := xFr_E hfr rfl
          have q2_3 : xE E 2 3 = xE E0 2 3 := xFr_E hFr0 rfl
          have e36 : ∀ i, xE E2 36 i = xE E 36 i := fun i => xFr_E hfr rfl
          have q36 : ∀ i, xE E 36 i = xE E0 36 i := fun i => xFr_E hFr0 rfl
          have e10 : ∀ i, xE E2 10 i = xE E 10 i := fun i => xFr_E hfr rfl
          have e11 : ∀ i, xE E2 11 i = xE E 11 i := fun i => xFr_E hfr rfl
          have y2_3 : ((2147483648 : Nat) : Int) ≤ xE E0 2 3 + 2147483648 ∧ xE E0 2 3 + 2147483648 ≤ ((2147483679 : Nat) : Int) := xTyF hT0 2 3 3 rfl rfl rfl rfl rfl rfl
          have hI : (0 ≤ (v 2) ∧ (v 2) < xE E0 2 3) ∧ (1 ≤ (v 4) ∧ (v 4) ≤ 4) ∧ ∃ p1, p1 ≤ (xE E0 35 4) ∧ (∀ S, xAb0 E0 S → pSwitch (xE E0 36) (xE E0 35 4) (xE E0 35 6) S = pBits (xE E0 36) (xE E0 35 4) S (v 2) (4 - (v 4)).toNat p1 (v 4) (v 3)) ∧ xAD (xE E0 36) (xE E0 35 4) p1 E ∧ (∀ k, xE E 10 k = xE E0 10 k) ∧ (∀ k, xE E 11 k = xE E0 11 k) := hInv
          show xΨfrs0 x0 E0 E2 0
          obtain ⟨i1, i2, p1, i0, i3, ⟨i4, i5, i6, i7⟩, j0, j1⟩ := hI
          have hb := tNx_b (T := xE E0 36) (n := xE E0 35 4) (p := p1) i0
          rw [show (v 2) = v2 2 by omega, show (v 3) = v2 3 by omega, show (v 4) = v2 4 by omega] at i3
          have hpb : ∀ S, xAb0 E0 S → pSwitch (xE E0 36) (xE E0 35 4) (xE E0 35 6) S = .ok (p1, uS (uS S (8 + v2 2) (v2 3)) (40 + v2 2) (v2 4)) := by
            intro S hS
            rw [i3 S hS]
            cases (4 - v2 4).toNat with
            | zero =>
              unfold pBits
              rw [if_neg (by omega)]
            | succ f =>
              show (if tKd (xE E0 36) (xE E0 35 4) p1 = 3 then _ else _) = _
              rw [if_neg (by omega)]
          have hm : pMis (xE E0 36) (xE E0 35 4) p1 = 2 := by unfold pMis; rw [if_neg (by omega)]
          intro S hS
          show xOut0 (pBind (pSwitch (xE E0 36) (xE E0 35 4) (xE E0 35 6) S) (pSem (xE E0 36) (xE E0 35 4))) E2 0
          rw [hpb S hS]
          show xOut0 (pSem (xE E0 36) (xE E0 35 4) p1 _) E2 0
          unfold pSem
          rw [if_neg (by omega), hm]
          exact xOut0_f (by omega) (by omega) (by omega)
        · skip
          rcases List.mem_cons.mp hx with ex | hx
          · subst ex
            obtain ⟨hF, hBd, hM⟩ := hXs
            have g2 : v2 2 = v 2 := hag 2 (by decide)
            have g3 : v2 3 = v 3 := hag 3 (by decide)
            have g4 : v2 4 = v 4 := hag 4 (by decide)
            have b0 : ((2147483648 : Nat) : Int) ≤ (v2 5) + 2147483648 ∧ (v2 5) + 2147483648 ≤ ((2147483648 : Nat) : Int) := xXb hBd 0 rfl
            have b1 : ((2147483648 : Nat) : Int) ≤ (v2 6) + 2147483648 ∧ (v2 6) + 2147483648 ≤ ((2147484548 : Nat) : Int) := xXb hBd 1 rfl
            have f0 : (0 : Int) ≤ 7 ∧ xE E 35 7 = (v2 5) := xXf hF 0 rfl
            have f1 : ¬ (v2 5) = 5 := xXf hF 1 rfl
            have f2 : ¬ (v2 5) = 3 := xXf hF 2 rfl
            have f3 : ¬ (v2 5) = 1 := xXf hF 3 rfl
            have f4 : (0 : Int) ≤ 5 ∧ xE E 35 5 = (v2 6) := xXf hF 4 rfl
            have m0 : xE E2 35 2 = 2 := xXm hM 0 rfl
            have m1 : xE E2 35 3 = (v2 6) := xXm hM 1 rfl
            have e35_4 : xE E2 35 4 = xE E 35 4 := xFr_E hfr rfl
            have q35_4 : xE E 35 4 = xE E0 35 4 := xFr_E hFr0 rfl
            have e35_5 : xE E2 35 5 = xE E 35 5 := xFr_E hfr rfl
            have e35_6 : xE E2 35 6 = xE E 35 6 := xFr_E hfr rfl
            have e35_7 : xE E2 35 7 = xE E 35 7 := xFr_E hfr rfl
            have e35_8 : xE E2 35 8 = xE E 35 8 := xFr_E hfr rfl
            have e2_3 : xE E2 2 3 = xE E 2 3 := xFr_E hfr rfl
            have q2_3 : xE E 2 3 = xE E0 2 3 := xFr_E hFr0 rfl
            have e36 : ∀ i, xE E2 36 i = xE E 36 i := fun i => xFr_E hfr rfl
            have q36 : ∀ i, xE E 36 i = xE E0 36 i := fun i => xFr_E hFr0 rfl
            have e10 : ∀ i, xE E2 10 i = xE E 10 i := fun i => xFr_E hfr rfl
            have e11 : ∀ i, xE E2 11 i = xE E 11 i := fun i => xFr_E hfr rfl
            have y2_3 : ((2147483648 : Nat) : Int) ≤ xE E0 2 3 + 2147483648 ∧ xE E0 2 3 + 2147483648 ≤ ((2147483679 : Nat) : Int) := xTyF hT0 2 3 3 rfl rfl rfl rfl rfl rfl
            have hI : (0 ≤ (v 2) ∧ (v 2) < xE E0 2 3) ∧ (1 ≤ (v 4) ∧ (v 4) ≤ 4) ∧ ∃ p1, p1 ≤ (xE E0 35 4) ∧ (∀ S, xAb0 E0 S → pSwitch (xE E0 36) (xE E0 35 4) (xE E0 35 6) S = pBits (xE E0 36) (xE E0 35 4) S (v 2) (4 - (v 4)).toNat p1 (v 4) (v 3)) ∧ xAD (xE E0 36) (xE E0 35 4) p1 E ∧ (∀ k, xE E 10 k = xE E0 10 k) ∧ (∀ k, xE E 11 k = xE E0 11 k) := hInv
            show xΨfrs0 x0 E0 E2 0
            obtain ⟨i1, i2, p1, i0, i3, ⟨i4, i5, i6, i7⟩, j0, j1⟩ := hI
            have hb := tNx_b (T := xE E0 36) (n := xE E0 35 4) (p := p1) i0
            rw [show (v 2) = v2 2 by omega, show (v 3) = v2 3 by omega, show (v 4) = v2 4 by omega] at i3
            have hpb : ∀ S, xAb0 E0 S → pSwitch (xE E0 36) (xE E0 35 4) (xE E0 35 6) S = .ok (p1, uS (uS S (8 + v2 2) (v2 3)) (40 + v2 2) (v2 4)) := by
              intro S hS
              rw [i3 S hS]
              cases (4 - v2 4).toNat with
              | zero =>
                unfold pBits
                rw [if_neg (by omega)]
              | succ f =>
                show (if tKd (xE E0 36) (xE E0 35 4) p1 = 3 then _ else _) = _
                rw [if_neg (by omega)]
            have hm : pMis (xE E0 36) (xE E0 35 4) p1 = 2 := by unfold pMis; rw [if_neg (by omega)]
            intro S hS
            show xOut0 (pBind (pSwitch (xE E0 36) (xE E0 35 4) (xE E0 35 6) S) (pSem (xE E0 36) (xE E0 35 4))) E2 0
            rw [hpb S hS]
            show xOut0 (pSem (xE E0 36) (xE E0 35 4) p1 _) E2 0
            unfold pSem
            rw [if_neg (by omega), hm]
            exact xOut0_f (by omega) (by omega) (by omega)
          · skip
            rcases List.mem_cons.mp hx with ex | hx
            · subst ex
              obtain ⟨hF, hBd, hM⟩ := hXs
              have g2 : v2 2 = v 2 := hag 2 (by decide)
              have g3 : v2 3 = v 3 := hag 3 (by decide)
              have g4 : v2 4 = v 4 := hag 4 (by decide)
              have b0 : ((2147483649 : Nat) : Int) ≤ (v2 5) + 2147483648 ∧ (v2 5) + 2147483648 ≤ ((2147483649 : Nat) : Int) := xXb hBd 0 rfl
              have b1 : ((2147483648 : Nat) : Int) ≤ (v2 6) + 2147483648 ∧ (v2 6) + 2147483648 ≤ ((2147484548 : Nat) : Int) := xXb hBd 1 rfl
              have f0 : (0 : Int) ≤ 7 ∧ xE E 35 7 = (v2 5) := xXf hF 0 rfl
              have f1 : ¬ (v2 5) = 5 := xXf hF 1 rfl
              have f2 : ¬ (v2 5) = 3 := xXf hF 2 rfl
              have f3 : (v2 5) = 1 := xXf hF 3 rfl
              have f4 : (0 : Int) ≤ 5 ∧ xE E 35 5 = (v2 6) := xXf hF 4 rfl
              have m0 : xE E2 35 2 = 1 := xXm hM 0 rfl
              have m1 : xE E2 35 3 = (v2 6) := xXm hM 1 rfl
              have e35_4 : xE E2 35 4 = xE E 35 4 := xFr_E hfr rfl
              have q35_4 : xE E 35 4 = xE E0 35 4 := xFr_E hFr0 rfl
              have e35_5 : xE E2 35 5 = xE E 35 5 := xFr_E hfr rfl
              have e35_6 : xE E2 35 6 = xE E 35 6 := xFr_E hfr rfl
              have e35_7 : xE E2 35 7 = xE E 35 7 := xFr_E hfr rfl
              have e35_8 : xE E2 35 8 = xE E 35 8 := xFr_E hfr rfl
              have e2_3 : xE E2 2 3 = xE E 2 3 := xFr_E hfr rfl
              have q2_3 : xE E 2 3 = xE E0 2 3 := xFr_E hFr0 rfl
              have e36 : ∀ i, xE E2 36 i = xE E 36 i := fun i => xFr_E hfr rfl
              have q36 : ∀ i, xE E 36 i = xE E0 36 i := fun i => xFr_E hFr0 rfl
              have e10 : ∀ i, xE E2 10 i = xE E 10 i := fun i => xFr_E hfr rfl
              have e11 : ∀ i, xE E2 11 i = xE E 11 i := fun i => xFr_E hfr rfl
              have y2_3 : ((2147483648 : Nat) : Int) ≤ xE E0 2 3 + 2147483648 ∧ xE E0 2 3 + 2147483648 ≤ ((2147483679 : Nat) : Int) := xTyF hT0 2 3 3 rfl rfl rfl rfl rfl rfl
              have hI : (0 ≤ (v 2) ∧ (v 2) < xE E0 2 3) ∧ (1 ≤ (v 4) ∧ (v 4) ≤ 4) ∧ ∃ p1, p1 ≤ (xE E0 35 4) ∧ (∀ S, xAb0 E0 S → pSwitch (xE E0 36) (xE E0 35 4) (xE E0 35 6) S = pBits (xE E0 36) (xE E0 35 4) S (v 2) (4 - (v 4)).toNat p1 (v 4) (v 3)) ∧ xAD (xE E0 36) (xE E0 35 4) p1 E ∧ (∀ k, xE E 10 k = xE E0 10 k) ∧ (∀ k, xE E 11 k = xE E0 11 k) := hInv
              show xΨfrs0 x0 E0 E2 0
              obtain ⟨i1, i2, p1, i0, i3, ⟨i4, i5, i6, i7⟩, j0, j1⟩ := hI
              have hb := tNx_b (T := xE E0 36) (n := xE E0 35 4) (p := p1) i0
              rw [show (v 2) = v2 2 by omega, show (v 3) = v2 3 by omega, show (v 4) = v2 4 by omega] at i3
              have hpb : ∀ S, xAb0 E0 S → pSwitch (xE E0 36) (xE E0 35 4) (xE E0 35 6) S = .ok (p1, uS (uS S (8 + v2 2) (v2 3)) (40 + v2 2) (v2 4)) := by
                intro S hS
                rw [i3 S hS]
                cases (4 - v2 4).toNat with
                | zero =>
                  unfold pBits
                  rw [if_neg (by omega)]
                | succ f =>
                  show (if tKd (xE E0 36) (xE E0 35 4) p1 = 3 then _ else _) = _
                  rw [if_neg (by omega)]
              have hm : pMis (xE E0 36) (xE E0 35 4) p1 = 1 := by unfold pMis; rw [if_pos (by omega)]
              intro S hS
              show xOut0 (pBind (pSwitch (xE E0 36) (xE E0 35 4) (xE E0 35 6) S) (pSem (xE E0 36) (xE E0 35 4))) E2 0
              rw [hpb S hS]
              show xOut0 (pSem (xE E0 36) (xE E0 35 4) p1 _) E2 0
              unfold pSem
              rw [if_neg (by omega), hm]
              exact xOut0_f (by omega) (by omega) (by omega)
            · skip
              rcases List.mem_cons.mp hx with ex | hx
              · subst ex
                obtain ⟨hF, hBd, hM⟩ := hXs
                have g2 : v2 2 = v 2 := hag 2 (by decide)
                have g3 : v2 3 = v 3 := hag 3 (by decide)
                have g4 : v2 4 = v 4 := hag 4 (by decide)
                have b0 : ((2147483651 : Nat) : Int) ≤ (v2 5) + 2147483648 ∧ (v2 5) + 2147483648 ≤ ((2147483651 : Nat) : Int) := xXb hBd 0 rfl
                have b1 : ((0 : Nat) : Int) ≤ (v2 6) + 2147483648 ∧ (v2 6) + 2147483648 ≤ ((2147483647 : Nat) : Int) := xXb hBd 1 rfl
                have b2 : ((2147483648 : Nat) : Int) ≤ (v2 7) + 2147483648 ∧ (v2 7) + 2147483648 ≤ ((2147484548 : Nat) : Int) := xXb hBd 2 rfl
                have f0 : (0 : Int) ≤ 7 ∧ xE E 35 7 = (v2 5) := xXf hF 0 rfl
                have f1 : ¬ (v2 5) = 5 := xXf hF 1 rfl
                have f2 : (v2 5) = 3 := xXf hF 2 rfl
                have f3 : (0 : Int) ≤ 8 ∧ xE E 35 8 = (v2 6) := xXf hF 3 rfl
                have f4 : (v2 6) < 0 := xXf hF 4 rfl
                have f5 : (0 : Int) ≤ 5 ∧ xE E 35 5 = (v2 7) := xXf hF 5 rfl
                have m0 : xE E2 35 2 = 3 := xXm hM 0 rfl
                have m1 : xE E2 35 3 = (v2 7) := xXm hM 1 rfl
                have e35_4 : xE E2 35 4 = xE E 35 4 := xFr_E hfr rfl
                have q35_4 : xE E 35 4 = xE E0 35 4 := xFr_E hFr0 rfl
                have e35_5 : xE E2 35 5 = xE E 35 5 := xFr_E hfr rfl
                have e35_6 : xE E2 35 6 = xE E 35 6 := xFr_E hfr rfl
                have e35_7 : xE E2 35 7 = xE E 35 7 := xFr_E hfr rfl
                have e35_8 : xE E2 35 8 = xE E 35 8 := xFr_E hfr rfl
                have e2_3 : xE E2 2 3 = xE E 2 3 := xFr_E hfr rfl
                have q2_3 : xE E 2 3 = xE E0 2 3 := xFr_E hFr0 rfl
                have e36 : ∀ i, xE E2 36 i = xE E 36 i := fun i => xFr_E hfr rfl
                have q36 : ∀ i, xE E 36 i = xE E0 36 i := fun i => xFr_E hFr0 rfl
                have e10 : ∀ i, xE E2 10 i = xE E 10 i := fun i => xFr_E hfr rfl
                have e11 : ∀ i, xE E2 11 i = xE E 11 i := fun i => xFr_E hfr rfl
                have y2_3 : ((2147483648 : Nat) : Int) ≤ xE E0 2 3 + 2147483648 ∧ xE E0 2 3 + 2147483648 ≤ ((2147483679 : Nat) : Int) := xTyF hT0 2 3 3 rfl rfl rfl rfl rfl rfl
                have hI : (0 ≤ (v 2) ∧ (v 2) < xE E0 2 3) ∧ (1 ≤ (v 4) ∧ (v 4) ≤ 4) ∧ ∃ p1, p1 ≤ (xE E0 35 4) ∧ (∀ S, xAb0 E0 S → pSwitch (xE E0 36) (xE E0 35 4) (xE E0 35 6) S = pBits (xE E0 36) (xE E0 35 4) S (v 2) (4 - (v 4)).toNat p1 (v 4) (v 3)) ∧ xAD (xE E0 36) (xE E0 35 4) p1 E ∧ (∀ k, xE E 10 k = xE E0 10 k) ∧ (∀ k, xE E 11 k = xE E0 11 k) := hInv
                show xΨfrs0 x0 E0 E2 0
                obtain ⟨i1, i2, p1, i0, i3, ⟨i4, i5, i6, i7⟩, j0, j1⟩ := hI
                have hb := tNx_b (T := xE E0 36) (n := xE E0 35 4) (p := p1) i0
                rw [show (v 2) = v2 2 by omega, show (v 3) = v2 3 by omega, show (v 4) = v2 4 by omega] at i3
                have hk : tKd (xE E0 36) (xE E0 35 4) p1 = 3 := by omega
                have hval := i7 hk
                intro S hS
                have e : pSwitch (xE E0 36) (xE E0 35 4) (xE E0 35 6) S = Except.error (3, tFr (xE E0 36) (xE E0 35 4) p1) := by
                  rw [i3 S hS]
                  cases (4 - v2 4).toNat with
                  | zero =>
                    unfold pBits
                    rw [if_pos hk, if_neg (by omega)]
                  | succ f =>
                    show (if tKd (xE E0 36) (xE E0 35 4) p1 = 3 then (if 0 ≤ tNm (xE E0 36) (xE E0 35 4) p1 ∧ tNm (xE E0 36) (xE E0 35 4) p1 ≤ 1 then _ else _) else _) = _
                    rw [if_pos hk, if_neg (by omega)]
                show xOut0 (pBind (pSwitch (xE E0 36) (xE E0 35 4) (xE E0 35 6) S) (pSem (xE E0 36) (xE E0 35 4))) E2 0
                rw [e]
                exact xOut0_e (by omega) (by omega) (by omega)
              · skip
                have ex := List.mem_singleton.mp hx
                subst ex
                obtain ⟨hF, hBd, hM⟩ := hXs
                have g2 : v2 2 = v 2 := hag 2 (by decide)
                have g3 : v2 3 = v 3 := hag 3 (by decide)
                have g4 : v2 4 = v 4 := hag 4 (by decide)
                have b0 : ((2147483651 : Nat) : Int) ≤ (v2 5) + 2147483648 ∧ (v2 5) + 2147483648 ≤ ((2147483651 : Nat) : Int) := xXb hBd 0 rfl
                have b1 : ((2147483650 : Nat) : Int) ≤ (v2 6) + 2147483648 ∧ (v2 6) + 2147483648 ≤ ((4294967295 : Nat) : Int) := xXb hBd 1 rfl
                have b2 : ((2147483648 : Nat) : Int) ≤ (v2 7) + 2147483648 ∧ (v2 7) + 2147483648 ≤ ((2147484548 : Nat) : Int) := xXb hBd 2 rfl
                have f0 : (0 : Int) ≤ 7 ∧ xE E 35 7 = (v2 5) := xXf hF 0 rfl
                have f1 : ¬ (v2 5) = 5 := xXf hF 1 rfl
                have f2 : (v2 5) = 3 := xXf hF 2 rfl
                have f3 : (0 : Int) ≤ 8 ∧ xE E 35 8 = (v2 6) := xXf hF 3 rfl
                have f4 : 0 ≤ (v2 6) := xXf hF 4 rfl
                have f5 : 1 < (v2 6) := xXf hF 5 rfl
                have f6 : (0 : Int) ≤ 5 ∧ xE E 35 5 = (v2 7) := xXf hF 6 rfl
                have m0 : xE E2 35 2 = 3 := xXm hM 0 rfl
                have m1 : xE E2 35 3 = (v2 7) := xXm hM 1 rfl
                have e35_4 : xE E2 35 4 = xE E 35 4 := xFr_E hfr rfl
                have q35_4 : xE E 35 4 = xE E0 35 4 := xFr_E hFr0 rfl
                have e35_5 : xE E2 35 5 = xE E 35 5 := xFr_E hfr rfl
                have e35_6 : xE E2 35 6 = xE E 35 6 := xFr_E hfr rfl
                have e35_7 : xE E2 35 7 = xE E 35 7 := xFr_E hfr rfl
                have e35_8 : xE E2 35 8 = xE E 35 8 := xFr_E hfr rfl
                have e2_3 : xE E2 2 3 = xE E 2 3 := xFr_E hfr rfl
                have q2_3 : xE E 2 3 = xE E0 2 3 := xFr_E hFr0 rfl
                have e36 : ∀ i, xE E2 36 i = xE E 36 i := fun i => xFr_E hfr rfl
                have q36 : ∀ i, xE E 36 i = xE E0 36 i := fun i => xFr_E hFr0 rfl
                have e10 : ∀ i, xE E2 10 i = xE E 10 i := fun i => xFr_E hfr rfl
                have e11 : ∀ i, xE E2 11 i = xE E 11 i := fun i => xFr_E hfr rfl
                have y2_3 : ((2147483648 : Nat) : Int) ≤ xE E0 2 3 + 2147483648 ∧ xE E0 2 3 + 2147483648 ≤ ((2147483679 : Nat) : Int) := xTyF hT0 2 3 3 rfl rfl rfl rfl rfl rfl
                have hI : (0 ≤ (v 2) ∧ (v 2) < xE E0 2 3) ∧ (1 ≤ (v 4) ∧ (v 4) ≤ 4) ∧ ∃ p1, p1 ≤ (xE E0 35 4) ∧ (∀ S, xAb0 E0 S → pSwitch (xE E0 36) (xE E0 35 4) (xE E0 35 6) S = pBits (xE E0 36) (xE E0 35 4) S (v 2) (4 - (v 4)).toNat p1 (v 4) (v 3)) ∧ xAD (xE E0 36) (xE E0 35 4) p1 E ∧ (∀ k, xE E 10 k = xE E0 10 k) ∧ (∀ k, xE E 11 k = xE E0 11 k) := hInv
                show xΨfrs0 x0 E0 E2 0
                obtain ⟨i1, i2, p1, i0, i3, ⟨i4, i5, i6, i7⟩, j0, j1⟩ := hI
                have hb := tNx_b (T := xE E0 36) (n := xE E0 35 4) (p := p1) i0
                rw [show (v 2) = v2 2 by omega, show (v 3) = v2 3 by omega, show (v 4) = v2 4 by omega] at i3
                have hk : tKd (xE E0 36) (xE E0 35 4) p1 = 3 := by omega
                have hval := i7 hk
                intro S hS
                have e : pSwitch (xE E0 36) (xE E0 35 4) (xE E0 35 6) S = Except.error (3, tFr (xE E0 36) (xE E0 35 4) p1) := by
                  rw [i3 S hS]
                  cases (4 - v2 4).toNat with
                  | zero =>
                    unfold pBits
                    rw [if_pos hk, if_neg (by omega)]
                  | succ f =>
                    show (if tKd (xE E0 36) (xE E0 35 4) p1 = 3 then (if 0 ≤ tNm (xE E0 36) (xE E0 35 4) p1 ∧ tNm (xE E0 36) (xE E0 35 4) p1 ≤ 1 then _ else _) else _) = _
                    rw [if_pos hk, if_neg (by omega)]
                show xOut0 (pBind (pSwitch (xE E0 36) (xE E0 35 4) (xE E0 35 6) S) (pSem (xE E0 36) (xE E0 35 4))) E2 0
                rw [e]
                exact xOut0_e (by omega) (by omega) (by omega)
    · cases hx
    · have hx : x ∈ [zxfrs0_gr0] := hx
      have hag : ∀ k, k < 5 → v2 k = v k := hag
      have hfr : xFr [] _ _ := hfr
      have ex := List.mem_singleton.mp hx
      subst ex
      obtain ⟨hF, hBd, hM⟩ := hXs
      have e35_4 : xE E2 35 4 = xE E 35 4 := xFr_E hfr rfl
      have q35_4 : xE E 35 4 = xE E0 35 4 := xFr_E hFr0 rfl
      have e35_5 : xE E2 35 5 = xE E 35 5 := xFr_E hfr rfl
      have e35_6 : xE E2 35 6 = xE E 35 6 := xFr_E hfr rfl
      have e35_7 : xE E2 35 7 = xE E 35 7 := xFr_E hfr rfl
      have e35_8 : xE E2 35 8 = xE E 35 8 := xFr_E hfr rfl
      have e35_2 : xE E2 35 2 = xE E 35 2 := xFr_E hfr rfl
      have e35_3 : xE E2 35 3 = xE E 35 3 := xFr_E hfr rfl
      have e2_3 : xE E2 2 3 = xE E 2 3 := xFr_E hfr rfl
      have q2_3 : xE E 2 3 = xE E0 2 3 := xFr_E hFr0 rfl
      have e36 : ∀ i, xE E2 36 i = xE E 36 i := fun i => xFr_E hfr rfl
      have q36 : ∀ i, xE E 36 i = xE E0 36 i := fun i => xFr_E hFr0 rfl
      have e10 : ∀ i, xE E2 10 i = xE E 10 i := fun i => xFr_E hfr rfl
      have e11 : ∀ i, xE E2 11 i = xE E 11 i := fun i => xFr_E hfr rfl
      have y2_3 : ((2147483648 : Nat) : Int) ≤ xE E0 2 3 + 2147483648 ∧ xE E0 2 3 + 2147483648 ≤ ((2147483679 : Nat) : Int) := xTyF hT0 2 3 3 rfl rfl rfl rfl rfl rfl
      have hI : ∃ g b l, (0 ≤ g ∧ g < xE E0 2 3) ∧ (∀ S, xAb0 E0 S → pBind (pSwitch (xE E0 36) (xE E0 35 4) (xE E0 35 6) S) (pSem (xE E0 36) (xE E0 35 4)) = .ok (xE E 35 6, uS (uS S (8 + g) b) (40 + g) l)) ∧ xE E 10 g = b ∧ (∀ k, 0 ≤ k → ¬ k = g → xE E 10 k = xE E0 10 k) ∧ xE E 11 g = l ∧ (∀ k, 0 ≤ k → ¬ k = g → xE E 11 k = xE E0 11 k) := hInv
      show xΨfrs0 x0 E0 E2 1
      obtain ⟨g, b, l, i1, i2, i3, i4, i5, i6⟩ := hI
      have hE2 := xFr_n hfr
      subst hE2
      intro S hS
      show xOut0 (pBind (pSwitch (xE E0 36) (xE E0 35 4) (xE E0 35 6) S) (pSem (xE E0 36) (xE E0 35 4))) E2 1
      rw [i2 S hS]
      have hN := hS.2.1.2.2.2
      exact xOut0_k rfl rfl (xAb0_sw hS ⟨by omega, by omega⟩ hFr0 i3 i4 i5 i6)
end
section
/-! THE CLASS's plans as cells: what is told (printed by m7.py) -/
theorem xAb0_sk {E E2 : zyEm} {S : Int → Int} {g b : Int} (hg : 0 ≤ g ∧ g < 31) (h1 : xE E2 12 g = b) (h2 : ∀ k, 0 ≤ k → ¬ k = g → xE E2 12 k = xE E 12 k) (h : xAb0 E S) (hf : xFr [(35, 2, 3), (35, 5, 8), (12, 0, 30)] E E2) : xAb0 E2 (uS S (72 + g) b) := by
  obtain ⟨a0, a1, a2, a3, a4, a5, a6⟩ := h
  have u : ∀ j, ¬ j = 72 + g → uS S (72 + g) b j = S j := fun j h90 => by rw [uS_n h90]
  refine ⟨by rw [u (0) (by omega), u (1) (by omega), u (2) (by omega), u (5) (by omega)]; exact a0, ?_, ?_, ?_, ?_, ?_, ?_⟩
  · rw [u (0) (by omega), u (1) (by omega), xFr_E hf rfl, xFr_E hf rfl, xFr_E hf rfl, xFr_E hf rfl]
    exact a1
  · intro s s0 s1
    rw [u (0) (by omega), u (1) (by omega)] at s1 ⊢
    rw [xFr_E hf rfl]
    exact a2 s s0 s1
  · rw [u (2) (by omega), xFr_E hf rfl]
    refine ⟨a3.1, fun k k0 k1 => ?_⟩
    rw [u (136 + k) (by omega), u (152 + k) (by omega), (show xE E2 14 k = xE E 14 k from xFr_E hf rfl), (show xE E2 15 k = xE E 15 k from xFr_E hf rfl)]
    exact a3.2 k k0 k1
  · intro k k0 k1
    have w := a4 k k0 k1
    rw [u (8 + k) (by omega), u (40 + k) (by omega), u (104 + k) (by omega), (show xE E2 10 k = xE E 10 k from xFr_E hf rfl), (show xE E2 11 k = xE E 11 k from xFr_E hf rfl), (show xE E2 13 k = xE E 13 k from xFr_E hf rfl)]
    by_cases e : k = g
    · subst e
      rw [uS_e rfl, h1]
      exact ⟨w.1, w.2.1, rfl, w.2.2.2⟩
    · rw [u (72 + k) (by omega), h2 k k0 e]
      exact w
  · rw [u (5) (by omega), (show xE E2 1 8 = xE E 1 8 from xFr_E hf rfl), (show xE E2 16 1 = xE E 16 1 from xFr_E hf rfl)]
    exact a5
  · intro k k0 k1
    rw [u (5) (by omega)] at k1
    rw [u (460 + k) (by omega), (show xE E2 17 k = xE E 17 k from xFr_E hf rfl)]
    exact a6 k k0 k1
theorem xAb0_fr {E E2 : zyEm} {S : Int → Int} {g b : Int} (hg : 0 ≤ g ∧ g < 31) (h1 : xE E2 13 g = b) (h2 : ∀ k, 0 ≤ k → ¬ k = g → xE E2 13 k = xE E 13 k) (h : xAb0 E S) (hf : xFr [(35, 2, 3), (35, 5, 8), (13, 0, 30)] E E2) : xAb0 E2 (uS S (104 + g) b) := by
  obtain ⟨a0, a1, a2, a3, a4, a5, a6⟩ := h
  have u : ∀ j, ¬ j = 104 + g → uS S (104 + g) b j = S j := fun j h90 => by rw [uS_n h90]
  refine ⟨by rw [u (0) (by omega), u (1) (by omega), u (2) (by omega), u (5) (by omega)]; exact a0, ?_, ?_, ?_, ?_, ?_, ?_⟩
  · rw [u (0) (by omega), u (1) (by omega), xFr_E hf rfl, xFr_E hf rfl, xFr_E hf rfl, xFr_E hf rfl]
    exact a1
  · intro s s0 s1
    rw [u (0) (by omega), u (1) (by omega)] at s1 ⊢
    rw [xFr_E hf rfl]
    exact a2 s s0 s1
  · rw [u (2) (by omega), xFr_E hf rfl]
    refine ⟨a3.1, fun k k0 k1 => ?_⟩
    rw [u (136 + k) (by omega), u (152 + k) (by omega), (show xE E2 14 k = xE E 14 k from xFr_E hf rfl), (show xE E2 15 k = xE E 15 k from xFr_E hf rfl)]
    exact a3.2 k k0 k1
  · intro k k0 k1
    have w := a4 k k0 k1
    rw [u (8 + k) (by omega), u (40 + k) (by omega), u (72 + k) (by omega), (show xE E2 10 k = xE E 10 k from xFr_E hf rfl), (show xE E2 11 k = xE E 11 k from xFr_E hf rfl), (show xE E2 12 k = xE E 12 k from xFr_E hf rfl)]
    by_cases e : k = g
    · subst e
      rw [uS_e rfl, h1]
      exact ⟨w.1, w.2.1, w.2.2.1, rfl⟩
    · rw [u (104 + k) (by omega), h2 k k0 e]
      exact w
  · rw [u (5) (by omega), (show xE E2 1 8 = xE E 1 8 from xFr_E hf rfl), (show xE E2 16 1 = xE E 16 1 from xFr_E hf rfl)]
    exact a5
  · intro k k0 k1
    rw [u (5) (by omega)] at k1
    rw [u (460 + k) (by omega), (show xE E2 17 k = xE E 17 k from xFr_E hf rfl)]
    exact a6 k k0 k1
theorem xAb0_go {E E2 : zyEm} {S : Int → Int} {g b : Int} (hg : 0 ≤ g ∧ g < 8) (h1 : xE E2 15 g = b) (h2 : ∀ k, 0 ≤ k → ¬ k = g → xE E2 15 k = xE E 15 k) (h : xAb0 E S) (hf : xFr [(35, 2, 3), (35, 5, 8), (15, 0, 7)] E E2) : xAb0 E2 (uS S (152 + g) b) := by
  obtain ⟨a0, a1, a2, a3, a4, a5, a6⟩ := h
  have u : ∀ j, ¬ j = 152 + g → uS S (152 + g) b j = S j := fun j h90 => by rw [uS_n h90]
  refine ⟨by rw [u (0) (by omega), u (1) (by omega), u (2) (by omega), u (5) (by omega)]; exact a0, ?_, ?_, ?_, ?_, ?_, ?_⟩
  · rw [u (0) (by omega), u (1) (by omega), xFr_E hf rfl, xFr_E hf rfl, xFr_E hf rfl, xFr_E hf rfl]
    exact a1
  · intro s s0 s1
    rw [u (0) (by omega), u (1) (by omega)] at s1 ⊢
    rw [xFr_E hf rfl]
    exact a2 s s0 s1
  · rw [u (2) (by omega), xFr_E hf rfl]
    refine ⟨a3.1, fun k k0 k1 => ?_⟩
    have w := a3.2 k k0 k1
    rw [u (136 + k) (by omega), (show xE E2 14 k = xE E 14 k from xFr_E hf rfl)]
    by_cases e : k = g
    · subst e
      rw [uS_e rfl, h1]
      exact ⟨w.1, rfl⟩
    · rw [u (152 + k) (by omega), h2 k k0 e]
      exact w
  · intro k k0 k1
    rw [u (8 + k) (by omega), u (40 + k) (by omega), u (72 + k) (by omega), u (104 + k) (by omega), (show xE E2 10 k = xE E 10 k from xFr_E hf rfl), (show xE E2 11 k = xE E 11 k from xFr_E hf rfl), (show xE E2 12 k = xE E 12 k from xFr_E hf rfl), (show xE E2 13 k = xE E 13 k from xFr_E hf rfl)]
    exact a4 k k0 k1
  · rw [u (5) (by omega), (show xE E2 1 8 = xE E 1 8 from xFr_E hf rfl), (show xE E2 16 1 = xE E 16 1 from xFr_E hf rfl)]
    exact a5
  · intro k k0 k1
    rw [u (5) (by omega)] at k1
    rw [u (460 + k) (by omega), (show xE E2 17 k = xE E 17 k from xFr_E hf rfl)]
    exact a6 k k0 k1
theorem xAb0_nb {E E2 : zyEm} {S : Int → Int} {s : Int} (hb : 0 ≤ S 2 ∧ S 2 ≤ 7) (h0 : xE E2 1 5 = S 2 + 1) (h1 : xE E2 14 (S 2) = s) (h2 : ∀ k, 0 ≤ k → ¬ k = S 2 → xE E2 14 k = xE E 14 k) (h3 : xE E2 15 (S 2) = -1) (h4 : ∀ k, 0 ≤ k → ¬ k = S 2 → xE E2 15 k = xE E 15 k) (h : xAb0 E S) (hf : xFr [(35, 2, 3), (35, 5, 8), (1, 5, 5), (14, 0, 7), (15, 0, 7)] E E2) : xAb0 E2 (uS (uS (uS (uS S (136 + S 2) s) (144 + S 2) s) (152 + S 2) (-1)) 2 (S 2 + 1)) := by
  obtain ⟨a0, a1, a2, a3, a4, a5, a6⟩ := h
  have u : ∀ j, ¬ j = 136 + S 2 → ¬ j = 144 + S 2 → ¬ j = 152 + S 2 → ¬ j = 2 → uS (uS (uS (uS S (136 + S 2) s) (144 + S 2) s) (152 + S 2) (-1)) 2 (S 2 + 1) j = S j := fun j h90 h91 h92 h93 => by rw [uS_n h93, uS_n h92, uS_n h91, uS_n h90]
  refine ⟨by rw [u (0) (by omega) (by omega) (by omega) (by omega), u (1) (by omega) (by omega) (by omega) (by omega), uS_e rfl, u (5) (by omega) (by omega) (by omega) (by omega)]; omega, ?_, ?_, ?_, ?_, ?_, ?_⟩
  · rw [u (0) (by omega) (by omega) (by omega) (by omega), u (1) (by omega) (by omega) (by omega) (by omega), xFr_E hf rfl, xFr_E hf rfl, xFr_E hf rfl, xFr_E hf rfl]
    exact a1
  · intro s s0 s1
    rw [u (0) (by omega) (by omega) (by omega) (by omega), u (1) (by omega) (by omega) (by omega) (by omega)] at s1 ⊢
    rw [xFr_E hf rfl]
    exact a2 s s0 s1
  · rw [uS_e rfl]
    refine ⟨h0, fun k k0 k1 => ?_⟩
    by_cases e : k = S 2
    · subst e
      rw [uS_n (by omega), uS_n (by omega), uS_n (by omega), uS_e rfl, uS_n (by omega), uS_e rfl]
      exact ⟨h1, h3⟩
    · have w := a3.2 k k0 (by omega)
      rw [u (136 + k) (by omega) (by omega) (by omega) (by omega), u (152 + k) (by omega) (by omega) (by omega) (by omega), h2 k k0 e, h4 k k0 e]
      exact w
  · intro k k0 k1
    rw [u (8 + k) (by omega) (by omega) (by omega) (by omega), u (40 + k) (by omega) (by omega) (by omega) (by omega), u (72 + k) (by omega) (by omega) (by omega) (by omega), u (104 + k) (by omega) (by omega) (by omega) (by omega), (show xE E2 10 k = xE E 10 k from xFr_E hf rfl), (show xE E2 11 k = xE E 11 k from xFr_E hf rfl), (show xE E2 12 k = xE E 12 k from xFr_E hf rfl), (show xE E2 13 k = xE E 13 k from xFr_E hf rfl)]
    exact a4 k k0 k1
  · rw [u (5) (by omega) (by omega) (by omega) (by omega), (show xE E2 1 8 = xE E 1 8 from xFr_E hf rfl), (show xE E2 16 1 = xE E 16 1 from xFr_E hf rfl)]
    exact a5
  · intro k k0 k1
    rw [u (5) (by omega) (by omega) (by omega) (by omega)] at k1
    rw [u (460 + k) (by omega) (by omega) (by omega) (by omega), (show xE E2 17 k = xE E 17 k from xFr_E hf rfl)]
    exact a6 k k0 k1
theorem xAb0_wd {E E2 : zyEm} {S : Int → Int} {x : Int} (hs : 0 ≤ S 5 ∧ S 5 < 60) (h0 : xE E2 16 1 = S 5 + 1) (h1 : xE E2 17 (S 5) = x) (h2 : ∀ k, 0 ≤ k → ¬ k = S 5 → xE E2 17 k = xE E 17 k) (h8 : xE E2 1 8 = 1) (h : xAb0 E S) (hf : xFr [(35, 2, 3), (35, 5, 8), (1, 8, 8), (16, 1, 1), (17, 0, 59)] E E2) : xAb0 E2 (uS (uS S (460 + S 5) x) 5 (S 5 + 1)) := by
  obtain ⟨a0, a1, a2, a3, a4, a5, a6⟩ := h
  have u : ∀ j, ¬ j = 460 + S 5 → ¬ j = 5 → uS (uS S (460 + S 5) x) 5 (S 5 + 1) j = S j := fun j h90 h91 => by rw [uS_n h91, uS_n h90]
  refine ⟨by rw [u (0) (by omega) (by omega), u (1) (by omega) (by omega), u (2) (by omega) (by omega), uS_e rfl]; omega, ?_, ?_, ?_, ?_, ?_, ?_⟩
  · rw [u (0) (by omega) (by omega), u (1) (by omega) (by omega), xFr_E hf rfl, xFr_E hf rfl, xFr_E hf rfl, xFr_E hf rfl]
    exact a1
  · intro s s0 s1
    rw [u (0) (by omega) (by omega), u (1) (by omega) (by omega)] at s1 ⊢
    rw [xFr_E hf rfl]
    exact a2 s s0 s1
  · rw [u (2) (by omega) (by omega), xFr_E hf rfl]
    refine ⟨a3.1, fun k k0 k1 => ?_⟩
    rw [u (136 + k) (by omega) (by omega), u (152 + k) (by omega) (by omega), (show xE E2 14 k = xE E 14 k from xFr_E hf rfl), (show xE E2 15 k = xE E 15 k from xFr_E hf rfl)]
    exact a3.2 k k0 k1
  · intro k k0 k1
    rw [u (8 + k) (by omega) (by omega), u (40 + k) (by omega) (by omega), u (72 + k) (by omega) (by omega), u (104 + k) (by omega) (by omega), (show xE E2 10 k = xE E 10 k from xFr_E hf rfl), (show xE E2 11 k = xE E 11 k from xFr_E hf rfl), (show xE E2 12 k = xE E 12 k from xFr_E hf rfl), (show xE E2 13 k = xE E 13 k from xFr_E hf rfl)]
    exact a4 k k0 k1
  · rw [uS_e rfl]
    exact Or.inr ⟨h8, h0.symm⟩
  · intro k k0 k1
    rw [uS_e rfl] at k1
    by_cases e : k = S 5
    · subst e
      rw [uS_n (by omega), uS_e rfl]
      exact h1
    · rw [u (460 + k) (by omega) (by omega), h2 k k0 e]
      exact a6 k k0 (by omega)
theorem xAb0_w0 {E E2 : zyEm} {S : Int → Int} (h8 : xE E2 1 8 = 1) (h0 : xE E2 16 1 = 0) (h : xAb0 E S) (hf : xFr [(35, 2, 3), (35, 5, 8), (1, 8, 8), (16, 1, 1), (17, 0, 59)] E E2) : xAb0 E2 (uS S 5 0) := by
  obtain ⟨a0, a1, a2, a3, a4, a5, a6⟩ := h
  have u : ∀ j, ¬ j = 5 → uS S 5 0 j = S j := fun j h90 => by rw [uS_n h90]
  refine ⟨by rw [u (0) (by omega), u (1) (by omega), u (2) (by omega), uS_e rfl]; omega, ?_, ?_, ?_, ?_, ?_, ?_⟩
  · rw [u (0) (by omega), u (1) (by omega), xFr_E hf rfl, xFr_E hf rfl, xFr_E hf rfl, xFr_E hf rfl]
    exact a1
  · intro s s0 s1
    rw [u (0) (by omega), u (1) (by omega)] at s1 ⊢
    rw [xFr_E hf rfl]
    exact a2 s s0 s1
  · rw [u (2) (by omega), xFr_E hf rfl]
    refine ⟨a3.1, fun k k0 k1 => ?_⟩
    rw [u (136 + k) (by omega), u (152 + k) (by omega), (show xE E2 14 k = xE E 14 k from xFr_E hf rfl), (show xE E2 15 k = xE E 15 k from xFr_E hf rfl)]
    exact a3.2 k k0 k1
  · intro k k0 k1
    rw [u (8 + k) (by omega), u (40 + k) (by omega), u (72 + k) (by omega), u (104 + k) (by omega), (show xE E2 10 k = xE E 10 k from xFr_E hf rfl), (show xE E2 11 k = xE E 11 k from xFr_E hf rfl), (show xE E2 12 k = xE E 12 k from xFr_E hf rfl), (show xE E2 13 k = xE E 13 k from xFr_E hf rfl)]
    exact a4 k k0 k1
  · rw [uS_e rfl]
    exact Or.inr ⟨h8, h0.symm⟩
  · intro k k0 k1
    rw [uS_e rfl] at k1
    omega
end
section
/-! THE CLASS reads: countFree, hasStartAt, addBobbin, add (printed by m6.py) -/
noncomputable def zxfcf0_ax0 : zyXp := (4, [11, 0, 0], [], [], [], [])
noncomputable def zpfcf0_a : zyPh := (0, [11, 13, 13], [(0, 4294967295), (0, 4294967295), (0, 4294967295)], [], [])
noncomputable def zxfcf0_bx0 : zyXp := (4, [11, 34359738377, 68719476745], [], [(24, 103079215105, 2, 24), (20, 0, 68719476737, 103079215105), (24, 137438953473, 13, 68719476737), (23, 0, 137438953473, 0)], [(34359738369, 2147483648, 2147483679), (68719476737, 2147483648, 2147483678), (103079215105, 2147483649, 2147483679), (137438953473, 2147483649, 2147483649), (34359738377, 2147483649, 2147483680), (68719476745, 2147483649, 2147483679)], [])
noncomputable def zxfcf0_bx1 : zyXp := (4, [11, 34359738369, 68719476745], [], [(24, 103079215105, 2, 24), (20, 0, 68719476737, 103079215105), (24, 137438953473, 13, 68719476737), (22, 0, 137438953473, 0)], [(34359738369, 2147483648, 2147483679), (68719476737, 2147483648, 2147483678), (103079215105, 2147483649, 2147483679), (137438953473, 2147483648, 2147483648), (68719476745, 2147483649, 2147483679)], [])
noncomputable def zxfcf0_br0 : zyXp := (0, [], [34359738369], [(24, 103079215105, 2, 24), (21, 0, 68719476737, 103079215105)], [(34359738369, 2147483648, 2147483679), (68719476737, 2147483648, 2147483679), (103079215105, 2147483648, 2147483679)], [])
noncomputable def zpfcf0_b : zyPh := (4, [11, 34359738369, 68719476737], [(0, 4294967295), (2147483648, 2147483679), (2147483648, 2147483679)], [], [])
noncomputable def zpfcf0 (i : Nat) : zyPh := zif (Nat.beq i 0) (zpfcf0_a) (zpfcf0_b)
noncomputable def zXfcf0 (i : Nat) : List zyXp := zif (Nat.beq i 0) ([zxfcf0_ax0]) ([zxfcf0_bx0, zxfcf0_bx1])
noncomputable def zRfcf0 (i : Nat) : List zyXp := zif (Nat.beq i 0) ([]) ([zxfcf0_br0])
noncomputable def zFfcf0 (i : Nat) : zyR := zif (Nat.beq i 0) ([]) ([])
noncomputable def zSfcf0 (i : Nat) : Nat := zif (Nat.beq i 0) (0) (0)
def xΦcf0 (_ : Nat → Int) (_ : zyEm) : Prop := True
def xΨcf0 (_ : Nat → Int) (E _ : zyEm) (r : Int) : Prop := (0 ≤ r ∧ r ≤ 31) ∧ ∀ S, xAb0 E S → r = pCnt S 104 (gN (S 0) (S 1)).toNat
noncomputable def fpfcf0 : zyR := []
theorem zyfcf0_run : zyrS zymc zxi35 (35, 0, 0, 1, 0) 1 zpfcf0 (fun _ _ => []) zFfcf0 zSfcf0 zXfcf0 zRfcf0 2 = true := by decide +kernel
theorem zyfcf0_ck : zyAll (fun i => xsubR (zFfcf0 i) fpfcf0 && ((zXfcf0 i).all xckX && (zRfcf0 i).all (fun x => xckX x && xrtB true x))) 2 = true := by decide +kernel
def xIfcf0 (i : Nat) (x0 : Nat → Int) (E0 : zyEm) (v : Nat → Int) (E : zyEm) : Prop := if i = 0 then (E = E0) else ((0 ≤ (v 2) ∧ (v 2) ≤ xE E0 2 3) ∧ (0 ≤ (v 1) ∧ (v 1) ≤ (v 2)) ∧ ∀ S, xAb0 E0 S → (v 1) = pCnt S 104 ((v 2)).toNat)
def xMfcf0 (i : Nat) (x0 : Nat → Int) (E0 : zyEm) (v : Nat → Int) (E : zyEm) : Nat := if i = 0 then (100) else ((99 - (v 2)).toNat)
theorem xCf0 {l : Launch} {en : zEn} {me : zMe} (hen : zG zxMeta 35 = some en) (hme : zG zMeth 35 = some me) : xFc l zymc en me 1 [1] 0 fpfcf0 true xΦcf0 xΨcf0 := by
  have een : zG zxMeta 35 = some (zxi35, 1, 3, 3, 35, 0, 0, 1, 0) := rfl
  obtain ⟨me1, hme1, hOK⟩ := zall hen
  rw [hme] at hme1
  cases hme1
  rw [een] at hen
  cases hen
  have hr := zyfcf0_run
  have hck := fun i hi => zyAll_iff zyfcf0_ck i hi
  simp only [Bool.and_eq_true] at hck
  intro B
  refine xcut (mi := zymc) (B := B) hOK rfl rfl (ι := Fin 2) (fun i => zpfcf0 i.val) (fun _ _ => []) (fun i => zFfcf0 i.val) (fun i => zSfcf0 i.val) (fun i => zXfcf0 i.val) (fun i => zRfcf0 i.val) (fun i y2 ct en2 me2 h => by cases h) 200000 (fun i => zyAll_iff hr i.val i.isLt) (fun i => (hck i.val i.isLt).1) (fun i => (hck i.val i.isLt).2.1) (fun i => (hck i.val i.isLt).2.2) ⟨0, by decide⟩ ⟨rfl, rfl, rfl, rfl⟩ ⟨by decide, by decide⟩ (fun i x0 E0 v E => xIfcf0 i.val x0 E0 v E) (fun i x0 E0 v E => xMfcf0 i.val x0 E0 v E) ?_ ?_ ?_
  · intro x0 E hx0 hT hΦ
    have hΦ : xΦcf0 x0 E := hΦ
    refine ⟨fun k p hp => ?_, ?_⟩
    · have hk : k < 3 := (List.getElem?_eq_some_iff.mp hp).1
      have hk : k = 0 ∨ k = 1 ∨ k = 2 := by omega
      rcases hk with rfl | rfl | rfl
      · have hp : some (0, 4294967295) = some p := hp
        cases hp
        show ((0 : Nat) : Int) ≤ 0 + 2147483648 ∧ 0 + 2147483648 ≤ ((4294967295 : Nat) : Int)
        omega
      · have hp : some (0, 4294967295) = some p := hp
        cases hp
        show ((0 : Nat) : Int) ≤ x0 0 + 2147483648 ∧ x0 0 + 2147483648 ≤ ((4294967295 : Nat) : Int)
        have hx := hx0 0
        omega
      · have hp : some (0, 4294967295) = some p := hp
        cases hp
        show ((0 : Nat) : Int) ≤ x0 1 + 2147483648 ∧ x0 1 + 2147483648 ≤ ((4294967295 : Nat) : Int)
        have hx := hx0 1
        omega
    · show E = E
      rfl
  · intro x0 s Wg hRu hrx hT0 hΦ i v H hT hrv hInv hKc hFr0 hIH x hx ρ2 v2 N2 H2 locs lsB stA hAt hB hv hr2 hXs hag hfr hFr hT2
    rcases i with ⟨i, hi⟩
    have hi2 : i = 0 ∨ i = 1 := by omega
    rcases hi2 with rfl | rfl
    · have hx : x ∈ [zxfcf0_ax0] := hx
      have hag : ∀ k, k < 3 → v2 k = v k := hag
      have hfr : xFr [] _ _ := hfr
      have ex := List.mem_singleton.mp hx
      subst ex
      obtain ⟨hF, hBd, hM⟩ := hXs
      have e2_3 : xE (zyEl zymc B H2) 2 3 = xE (zyEl zymc B H) 2 3 := xFr_E hfr rfl
      have q2_3 : xE (zyEl zymc B H) 2 3 = xE (zyEl zymc B s.heap) 2 3 := xFr_E hFr0 rfl
      have e13 : ∀ i, xE (zyEl zymc B H2) 13 i = xE (zyEl zymc B H) 13 i := fun i => xFr_E hfr rfl
      have q13 : ∀ i, xE (zyEl zymc B H) 13 i = xE (zyEl zymc B s.heap) 13 i := fun i => xFr_E hFr0 rfl
      have y2_3 : ((2147483648 : Nat) : Int) ≤ xE (zyEl zymc B s.heap) 2 3 + 2147483648 ∧ xE (zyEl zymc B s.heap) 2 3 + 2147483648 ≤ ((2147483679 : Nat) : Int) := xTyF hT0 2 3 3 rfl rfl rfl rfl rfl rfl
      have hI : (zyEl zymc B H) = (zyEl zymc B s.heap) := hInv
      refine xGo hIH hAt hB hv hFr ⟨1, by decide⟩ [0, 0, 0] [0, 0, 0] rfl ⟨by decide +kernel, ⟨rfl, by decide +kernel⟩, (xcs_c rfl (xcs_c rfl (xcs_c rfl xcs_n))), (xe_0 (xe_c (by omega) (by omega) rfl (xe_c (by omega) (by omega) rfl xe_n))), xkq_n⟩ xst_n ?_ ?_
      · show (0 ≤ (0 : Int) ∧ (0 : Int) ≤ xE (zyEl zymc B s.heap) 2 3) ∧ (0 ≤ (0 : Int) ∧ (0 : Int) ≤ (0 : Int)) ∧ ∀ S, xAb0 (zyEl zymc B s.heap) S → (0 : Int) = pCnt S 104 ((0 : Int)).toNat
        exact ⟨by omega, by omega, fun S hS => rfl⟩
      · show (99 - (0 : Int)).toNat < 100
        omega
    · have hx : x ∈ [zxfcf0_bx0, zxfcf0_bx1] := hx
      have hag : ∀ k, k < 3 → v2 k = v k := hag
      have hfr : xFr [] _ _ := hfr
      rcases List.mem_cons.mp hx with ex | hx
      · subst ex
        obtain ⟨hF, hBd, hM⟩ := hXs
        have g1 : v2 1 = v 1 := hag 1 (by decide)
        have g2 : v2 2 = v 2 := hag 2 (by decide)
        have b0 : ((2147483648 : Nat) : Int) ≤ (v2 1) + 2147483648 ∧ (v2 1) + 2147483648 ≤ ((2147483679 : Nat) : Int) := xXb hBd 0 rfl
        have b1 : ((2147483648 : Nat) : Int) ≤ (v2 2) + 2147483648 ∧ (v2 2) + 2147483648 ≤ ((2147483678 : Nat) : Int) := xXb hBd 1 rfl
        have b2 : ((2147483649 : Nat) : Int) ≤ (v2 3) + 2147483648 ∧ (v2 3) + 2147483648 ≤ ((2147483679 : Nat) : Int) := xXb hBd 2 rfl
        have b3 : ((2147483649 : Nat) : Int) ≤ (v2 4) + 2147483648 ∧ (v2 4) + 2147483648 ≤ ((2147483649 : Nat) : Int) := xXb hBd 3 rfl
        have b4 : ((2147483649 : Nat) : Int) ≤ (v2 1 + 1) + 2147483648 ∧ (v2 1 + 1) + 2147483648 ≤ ((2147483680 : Nat) : Int) := xXb hBd 4 rfl
        have b5 : ((2147483649 : Nat) : Int) ≤ (v2 2 + 1) + 2147483648 ∧ (v2 2 + 1) + 2147483648 ≤ ((2147483679 : Nat) : Int) := xXb hBd 5 rfl
        have f0 : (0 : Int) ≤ 3 ∧ xE (zyEl zymc B H) 2 3 = (v2 3) := xXf hF 0 rfl
        have f1 : (v2 2) < (v2 3) := xXf hF 1 rfl
        have f2 : (0 : Int) ≤ (v2 2) ∧ xE (zyEl zymc B H) 13 (v2 2) = (v2 4) := xXf hF 2 rfl
        have f3 : ¬ (v2 4) = 0 := xXf hF 3 rfl
        have e2_3 : xE (zyEl zymc B H2) 2 3 = xE (zyEl zymc B H) 2 3 := xFr_E hfr rfl
        have q2_3 : xE (zyEl zymc B H) 2 3 = xE (zyEl zymc B s.heap) 2 3 := xFr_E hFr0 rfl
        have e13 : ∀ i, xE (zyEl zymc B H2) 13 i = xE (zyEl zymc B H) 13 i := fun i => xFr_E hfr rfl
        have q13 : ∀ i, xE (zyEl zymc B H) 13 i = xE (zyEl zymc B s.heap) 13 i := fun i => xFr_E hFr0 rfl
        have y2_3 : ((2147483648 : Nat) : Int) ≤ xE (zyEl zymc B s.heap) 2 3 + 2147483648 ∧ xE (zyEl zymc B s.heap) 2 3 + 2147483648 ≤ ((2147483679 : Nat) : Int) := xTyF hT0 2 3 3 rfl rfl rfl rfl rfl rfl
        have hI : (0 ≤ (v 2) ∧ (v 2) ≤ xE (zyEl zymc B s.heap) 2 3) ∧ (0 ≤ (v 1) ∧ (v 1) ≤ (v 2)) ∧ ∀ S, xAb0 (zyEl zymc B s.heap) S → (v 1) = pCnt S 104 ((v 2)).toNat := hInv
        obtain ⟨i1, i2, i3⟩ := hI
        refine xGo hIH hAt hB hv hFr ⟨1, by decide⟩ [0, 34359738377, 68719476745] [0, (v2 1 + 1), (v2 2 + 1)] rfl ⟨by decide +kernel, ⟨rfl, by decide +kernel⟩, (xcs_c rfl (xcs_c rfl (xcs_c rfl xcs_n))), (xe_0 (xe_c (by omega) (by omega) rfl (xe_c (by omega) (by omega) rfl xe_n))), xkq_n⟩ xst_n ?_ ?_
        · show (0 ≤ ((v2 2 + 1) : Int) ∧ ((v2 2 + 1) : Int) ≤ xE (zyEl zymc B s.heap) 2 3) ∧ (0 ≤ ((v2 1 + 1) : Int) ∧ ((v2 1 + 1) : Int) ≤ ((v2 2 + 1) : Int)) ∧ ∀ S, xAb0 (zyEl zymc B s.heap) S → ((v2 1 + 1) : Int) = pCnt S 104 (((v2 2 + 1) : Int)).toNat
          refine ⟨by omega, by omega, fun S hS => ?_⟩
          have hc := (hS.2.2.2.2.1 (v2 2) (by omega) (by omega)).2.2.2
          have hf := q13 (v2 2)
          rw [pCnt_s (by omega), show (v2 2) = v 2 by omega, ← i3 S hS, ← show (v2 2) = v 2 by omega, if_pos (by omega)]
          omega
        · show (99 - ((v2 2 + 1) : Int)).toNat < (99 - (v 2)).toNat
          omega
      · skip
        have ex := List.mem_singleton.mp hx
        subst ex
        obtain ⟨hF, hBd, hM⟩ := hXs
        have g1 : v2 1 = v 1 := hag 1 (by decide)
        have g2 : v2 2 = v 2 := hag 2 (by decide)
        have b0 : ((2147483648 : Nat) : Int) ≤ (v2 1) + 2147483648 ∧ (v2 1) + 2147483648 ≤ ((2147483679 : Nat) : Int) := xXb hBd 0 rfl
        have b1 : ((2147483648 : Nat) : Int) ≤ (v2 2) + 2147483648 ∧ (v2 2) + 2147483648 ≤ ((2147483678 : Nat) : Int) := xXb hBd 1 rfl
        have b2 : ((2147483649 : Nat) : Int) ≤ (v2 3) + 2147483648 ∧ (v2 3) + 2147483648 ≤ ((2147483679 : Nat) : Int) := xXb hBd 2 rfl
        have b3 : ((2147483648 : Nat) : Int) ≤ (v2 4) + 2147483648 ∧ (v2 4) + 2147483648 ≤ ((2147483648 : Nat) : Int) := xXb hBd 3 rfl
        have b4 : ((2147483649 : Nat) : Int) ≤ (v2 2 + 1) + 2147483648 ∧ (v2 2 + 1) + 2147483648 ≤ ((2147483679 : Nat) : Int) := xXb hBd 4 rfl
        have f0 : (0 : Int) ≤ 3 ∧ xE (zyEl zymc B H) 2 3 = (v2 3) := xXf hF 0 rfl
        have f1 : (v2 2) < (v2 3) := xXf hF 1 rfl
        have f2 : (0 : Int) ≤ (v2 2) ∧ xE (zyEl zymc B H) 13 (v2 2) = (v2 4) := xXf hF 2 rfl
        have f3 : (v2 4) = 0 := xXf hF 3 rfl
        have e2_3 : xE (zyEl zymc B H2) 2 3 = xE (zyEl zymc B H) 2 3 := xFr_E hfr rfl
        have q2_3 : xE (zyEl zymc B H) 2 3 = xE (zyEl zymc B s.heap) 2 3 := xFr_E hFr0 rfl
        have e13 : ∀ i, xE (zyEl zymc B H2) 13 i = xE (zyEl zymc B H) 13 i := fun i => xFr_E hfr rfl
        have q13 : ∀ i, xE (zyEl zymc B H) 13 i = xE (zyEl zymc B s.heap) 13 i := fun i => xFr_E hFr0 rfl
        have y2_3 : ((2147483648 : Nat) : Int) ≤ xE (zyEl zymc B s.heap) 2 3 + 2147483648 ∧ xE (zyEl zymc B s.heap) 2 3 + 2147483648 ≤ ((2147483679 : Nat) : Int) := xTyF hT0 2 3 3 rfl rfl rfl rfl rfl rfl
        have hI : (0 ≤ (v 2) ∧ (v 2) ≤ xE (zyEl zymc B s.heap) 2 3) ∧ (0 ≤ (v 1) ∧ (v 1) ≤ (v 2)) ∧ ∀ S, xAb0 (zyEl zymc B s.heap) S → (v 1) = pCnt S 104 ((v 2)).toNat := hInv
        obtain ⟨i1, i2, i3⟩ := hI
        refine xGo hIH hAt hB hv hFr ⟨1, by decide⟩ [0, 34359738369, 68719476745] [0, (v2 1), (v2 2 + 1)] rfl ⟨by decide +kernel, ⟨rfl, by decide +kernel⟩, (xcs_c rfl (xcs_c rfl (xcs_c rfl xcs_n))), (xe_0 (xe_c (by omega) (by omega) rfl (xe_c (by omega) (by omega) rfl xe_n))), xkq_n⟩ xst_n ?_ ?_
        · show (0 ≤ ((v2 2 + 1) : Int) ∧ ((v2 2 + 1) : Int) ≤ xE (zyEl zymc B s.heap) 2 3) ∧ (0 ≤ ((v2 1) : Int) ∧ ((v2 1) : Int) ≤ ((v2 2 + 1) : Int)) ∧ ∀ S, xAb0 (zyEl zymc B s.heap) S → ((v2 1) : Int) = pCnt S 104 (((v2 2 + 1) : Int)).toNat
          refine ⟨by omega, by omega, fun S hS => ?_⟩
          have hc := (hS.2.2.2.2.1 (v2 2) (by omega) (by omega)).2.2.2
          have hf := q13 (v2 2)
          rw [pCnt_s (by omega), show (v2 2) = v 2 by omega, ← i3 S hS, ← show (v2 2) = v 2 by omega, if_neg (by omega)]
          omega
        · show (99 - ((v2 2 + 1) : Int)).toNat < (99 - (v 2)).toNat
          omega
  · intro x0 E0 E E2 hrx hT0 hΦ i v hT hrv hInv hKc hFr0 x hx v2 hr2 hXs hag hfr hFr hT2
    rcases i with ⟨i, hi⟩
    have hi2 : i = 0 ∨ i = 1 := by omega
    rcases hi2 with rfl | rfl
    · cases hx
    · have hx : x ∈ [zxfcf0_br0] := hx
      have hag : ∀ k, k < 3 → v2 k = v k := hag
      have hfr : xFr [] _ _ := hfr
      have ex := List.mem_singleton.mp hx
      subst ex
      obtain ⟨hF, hBd, hM⟩ := hXs
      have g1 : v2 1 = v 1 := hag 1 (by decide)
      have g2 : v2 2 = v 2 := hag 2 (by decide)
      have b0 : ((2147483648 : Nat) : Int) ≤ (v2 1) + 2147483648 ∧ (v2 1) + 2147483648 ≤ ((2147483679 : Nat) : Int) := xXb hBd 0 rfl
      have b1 : ((2147483648 : Nat) : Int) ≤ (v2 2) + 2147483648 ∧ (v2 2) + 2147483648 ≤ ((2147483679 : Nat) : Int) := xXb hBd 1 rfl
      have b2 : ((2147483648 : Nat) : Int) ≤ (v2 3) + 2147483648 ∧ (v2 3) + 2147483648 ≤ ((2147483679 : Nat) : Int) := xXb hBd 2 rfl
      have f0 : (0 : Int) ≤ 3 ∧ xE E 2 3 = (v2 3) := xXf hF 0 rfl
      have f1 : (v2 3) ≤ (v2 2) := xXf hF 1 rfl
      have e2_3 : xE E2 2 3 = xE E 2 3 := xFr_E hfr rfl
      have q2_3 : xE E 2 3 = xE E0 2 3 := xFr_E hFr0 rfl
      have e13 : ∀ i, xE E2 13 i = xE E 13 i := fun i => xFr_E hfr rfl
      have q13 : ∀ i, xE E 13 i = xE E0 13 i := fun i => xFr_E hFr0 rfl
      have y2_3 : ((2147483648 : Nat) : Int) ≤ xE E0 2 3 + 2147483648 ∧ xE E0 2 3 + 2147483648 ≤ ((2147483679 : Nat) : Int) := xTyF hT0 2 3 3 rfl rfl rfl rfl rfl rfl
      have hI : (0 ≤ (v 2) ∧ (v 2) ≤ xE E0 2 3) ∧ (0 ≤ (v 1) ∧ (v 1) ≤ (v 2)) ∧ ∀ S, xAb0 E0 S → (v 1) = pCnt S 104 ((v 2)).toNat := hInv
      show xΨcf0 x0 E0 E2 (v2 1)
      obtain ⟨i1, i2, i3⟩ := hI
      unfold xΨcf0
      refine ⟨by omega, fun S hS => ?_⟩
      rw [← hS.2.1.2.2.2, show xE E0 2 3 = v2 2 by omega, show (v2 1) = v 1 by omega, show (v2 2) = v 2 by omega]
      exact i3 S hS
noncomputable def zxfhs0_ax0 : zyXp := (2, [11, 34359738369, 0], [], [], [(34359738369, 2147483648, 2147483727)], [])
noncomputable def zpfhs0_a : zyPh := (0, [11, 34359738369, 13], [(0, 4294967295), (2147483648, 2147483727), (0, 4294967295)], [], [])
noncomputable def zxfhs0_bx0 : zyXp := (2, [11, 34359738369, 68719476745], [], [(24, 103079215105, 1, 40), (20, 0, 68719476737, 103079215105), (24, 137438953473, 14, 68719476737), (23, 0, 137438953473, 34359738369), (24, 171798691841, 4, 34359738369), (24, 206158430209, 14, 68719476737), (23, 0, 171798691841, 206158430209)], [(34359738369, 2147483648, 2147483727), (68719476737, 2147483648, 2147483655), (103079215105, 2147483649, 2147483656), (137438953473, 2147483648, 2147483727), (171798691841, 2147483647, 2147483727), (206158430209, 2147483648, 2147483727), (68719476745, 2147483649, 2147483656)], [])
noncomputable def zxfhs0_br0 : zyXp := (0, [], [8], [(24, 103079215105, 1, 40), (20, 0, 68719476737, 103079215105), (24, 137438953473, 14, 68719476737), (23, 0, 137438953473, 34359738369), (24, 171798691841, 4, 34359738369), (24, 206158430209, 14, 68719476737), (22, 0, 171798691841, 206158430209)], [(34359738369, 2147483648, 2147483727), (68719476737, 2147483648, 2147483655), (103079215105, 2147483649, 2147483656), (137438953473, 2147483648, 2147483727), (171798691841, 2147483647, 2147483727), (206158430209, 2147483648, 2147483727)], [])
noncomputable def zxfhs0_br1 : zyXp := (0, [], [8], [(24, 103079215105, 1, 40), (20, 0, 68719476737, 103079215105), (24, 137438953473, 14, 68719476737), (22, 0, 137438953473, 34359738369)], [(34359738369, 2147483648, 2147483727), (68719476737, 2147483648, 2147483655), (103079215105, 2147483649, 2147483656), (137438953473, 2147483648, 2147483727)], [])
noncomputable def zxfhs0_br2 : zyXp := (0, [], [0], [(24, 103079215105, 1, 40), (21, 0, 68719476737, 103079215105)], [(68719476737, 2147483648, 2147483656), (103079215105, 2147483648, 2147483656)], [])
noncomputable def zpfhs0_b : zyPh := (2, [11, 34359738369, 68719476737], [(0, 4294967295), (2147483648, 2147483727), (2147483648, 2147483656)], [], [])
noncomputable def zpfhs0 (i : Nat) : zyPh := zif (Nat.beq i 0) (zpfhs0_a) (zpfhs0_b)
noncomputable def zXfhs0 (i : Nat) : List zyXp := zif (Nat.beq i 0) ([zxfhs0_ax0]) ([zxfhs0_bx0])
noncomputable def zRfhs0 (i : Nat) : List zyXp := zif (Nat.beq i 0) ([]) ([zxfhs0_br0, zxfhs0_br1, zxfhs0_br2])
noncomputable def zFfhs0 (i : Nat) : zyR := zif (Nat.beq i 0) ([]) ([])
noncomputable def zSfhs0 (i : Nat) : Nat := zif (Nat.beq i 0) (0) (0)
def xΦhs0 (x : Nat → Int) (E : zyEm) : Prop := 0 ≤ x 0 ∧ x 0 < xE E 2 2
def xΨhs0 (x : Nat → Int) (E _ : zyEm) (r : Int) : Prop := (r = 0 ∨ r = 1) ∧ ∀ S, xAb0 E S → r = if pTak S (x 0) (pF (S 0) (S 1) (x 0)) (S 2).toNat = true then 1 else 0
noncomputable def fpfhs0 : zyR := []
theorem zyfhs0_run : zyrS zymc zxi34 (34, 0, 0, 2, 0) 1 zpfhs0 (fun _ _ => []) zFfhs0 zSfhs0 zXfhs0 zRfhs0 2 = true := by decide +kernel
theorem zyfhs0_ck : zyAll (fun i => xsubR (zFfhs0 i) fpfhs0 && ((zXfhs0 i).all xckX && (zRfhs0 i).all (fun x => xckX x && xrtB true x))) 2 = true := by decide +kernel
def xIfhs0 (i : Nat) (x0 : Nat → Int) (E0 : zyEm) (v : Nat → Int) (E : zyEm) : Prop := if i = 0 then (E = E0 ∧ (v 1) = x0 0) else ((0 ≤ (v 2) ∧ (v 2) ≤ xE E0 1 5) ∧ (v 1) = x0 0 ∧ ∀ S, xAb0 E0 S → pTak S (x0 0) (pF (S 0) (S 1) (x0 0)) ((v 2)).toNat = false)
def xMfhs0 (i : Nat) (x0 : Nat → Int) (E0 : zyEm) (v : Nat → Int) (E : zyEm) : Nat := if i = 0 then (100) else ((99 - (v 2)).toNat)
theorem xHs0 {l : Launch} {en : zEn} {me : zMe} (hen : zG zxMeta 34 = some en) (hme : zG zMeth 34 = some me) : xFc l zymc en me 1 [1] 1 fpfhs0 true xΦhs0 xΨhs0 := by
  have een : zG zxMeta 34 = some (zxi34, 2, 3, 3, 34, 0, 0, 2, 0) := rfl
  obtain ⟨me1, hme1, hOK⟩ := zall hen
  rw [hme] at hme1
  cases hme1
  rw [een] at hen
  cases hen
  have hr := zyfhs0_run
  have hck := fun i hi => zyAll_iff zyfhs0_ck i hi
  simp only [Bool.and_eq_true] at hck
  intro B
  refine xcut (mi := zymc) (B := B) hOK rfl rfl (ι := Fin 2) (fun i => zpfhs0 i.val) (fun _ _ => []) (fun i => zFfhs0 i.val) (fun i => zSfhs0 i.val) (fun i => zXfhs0 i.val) (fun i => zRfhs0 i.val) (fun i y2 ct en2 me2 h => by cases h) 200000 (fun i => zyAll_iff hr i.val i.isLt) (fun i => (hck i.val i.isLt).1) (fun i => (hck i.val i.isLt).2.1) (fun i => (hck i.val i.isLt).2.2) ⟨0, by decide⟩ ⟨rfl, rfl, rfl, rfl⟩ ⟨by decide, by decide⟩ (fun i x0 E0 v E => xIfhs0 i.val x0 E0 v E) (fun i x0 E0 v E => xMfhs0 i.val x0 E0 v E) ?_ ?_ ?_
  · intro x0 E hx0 hT hΦ
    have hΦ : xΦhs0 x0 E := hΦ
    refine ⟨fun k p hp => ?_, ?_⟩
    · have hk : k < 3 := (List.getElem?_eq_some_iff.mp hp).1
      have hk : k = 0 ∨ k = 1 ∨ k = 2 := by omega
      rcases hk with rfl | rfl | rfl
      · have hp : some (0, 4294967295) = some p := hp
        cases hp
        show ((0 : Nat) : Int) ≤ 0 + 2147483648 ∧ 0 + 2147483648 ≤ ((4294967295 : Nat) : Int)
        omega
      · have hp : some (2147483648, 2147483727) = some p := hp
        cases hp
        show ((2147483648 : Nat) : Int) ≤ x0 0 + 2147483648 ∧ x0 0 + 2147483648 ≤ ((2147483727 : Nat) : Int)
        have hx := hx0 0
        have hP := hΦ.1
        have hP2 := hΦ.2
        have hT2 := xTyF hT 2 2 2 rfl rfl rfl rfl rfl rfl
        have hT2 : ((2147483648 : Nat) : Int) ≤ xE E 2 2 + 2147483648 ∧ xE E 2 2 + 2147483648 ≤ ((2147483728 : Nat) : Int) := hT2
        omega
      · have hp : some (0, 4294967295) = some p := hp
        cases hp
        show ((0 : Nat) : Int) ≤ x0 1 + 2147483648 ∧ x0 1 + 2147483648 ≤ ((4294967295 : Nat) : Int)
        have hx := hx0 1
        omega
    · show E = E ∧ (x0 0) = x0 0
      exact ⟨rfl, rfl⟩
  · intro x0 s Wg hRu hrx hT0 hΦ i v H hT hrv hInv hKc hFr0 hIH x hx ρ2 v2 N2 H2 locs lsB stA hAt hB hv hr2 hXs hag hfr hFr hT2
    rcases i with ⟨i, hi⟩
    have hi2 : i = 0 ∨ i = 1 := by omega
    rcases hi2 with rfl | rfl
    · have hx : x ∈ [zxfhs0_ax0] := hx
      have hag : ∀ k, k < 3 → v2 k = v k := hag
      have hfr : xFr [] _ _ := hfr
      have ex := List.mem_singleton.mp hx
      subst ex
      obtain ⟨hF, hBd, hM⟩ := hXs
      have g1 : v2 1 = v 1 := hag 1 (by decide)
      have b0 : ((2147483648 : Nat) : Int) ≤ (v2 1) + 2147483648 ∧ (v2 1) + 2147483648 ≤ ((2147483727 : Nat) : Int) := xXb hBd 0 rfl
      have e1_5 : xE (zyEl zymc B H2) 1 5 = xE (zyEl zymc B H) 1 5 := xFr_E hfr rfl
      have q1_5 : xE (zyEl zymc B H) 1 5 = xE (zyEl zymc B s.heap) 1 5 := xFr_E hFr0 rfl
      have e2_2 : xE (zyEl zymc B H2) 2 2 = xE (zyEl zymc B H) 2 2 := xFr_E hfr rfl
      have q2_2 : xE (zyEl zymc B H) 2 2 = xE (zyEl zymc B s.heap) 2 2 := xFr_E hFr0 rfl
      have e14 : ∀ i, xE (zyEl zymc B H2) 14 i = xE (zyEl zymc B H) 14 i := fun i => xFr_E hfr rfl
      have q14 : ∀ i, xE (zyEl zymc B H) 14 i = xE (zyEl zymc B s.heap) 14 i := fun i => xFr_E hFr0 rfl
      have e4 : ∀ i, xE (zyEl zymc B H2) 4 i = xE (zyEl zymc B H) 4 i := fun i => xFr_E hfr rfl
      have q4 : ∀ i, xE (zyEl zymc B H) 4 i = xE (zyEl zymc B s.heap) 4 i := fun i => xFr_E hFr0 rfl
      have y1_5 : ((2147483648 : Nat) : Int) ≤ xE (zyEl zymc B s.heap) 1 5 + 2147483648 ∧ xE (zyEl zymc B s.heap) 1 5 + 2147483648 ≤ ((2147483656 : Nat) : Int) := xTyF hT0 1 5 5 rfl rfl rfl rfl rfl rfl
      have y2_2 : ((2147483648 : Nat) : Int) ≤ xE (zyEl zymc B s.heap) 2 2 + 2147483648 ∧ xE (zyEl zymc B s.heap) 2 2 + 2147483648 ≤ ((2147483728 : Nat) : Int) := xTyF hT0 2 2 2 rfl rfl rfl rfl rfl rfl
      have hI : (zyEl zymc B H) = (zyEl zymc B s.heap) ∧ (v 1) = x0 0 := hInv
      have hP := hΦ.1
      have hP2 := hΦ.2
      refine xGo hIH hAt hB hv hFr ⟨1, by decide⟩ [0, 34359738369, 0] [0, (v2 1), 0] rfl ⟨by decide +kernel, ⟨rfl, by decide +kernel⟩, (xcs_c rfl (xcs_c rfl (xcs_c rfl xcs_n))), (xe_0 (xe_c (by omega) (by omega) rfl (xe_c (by omega) (by omega) rfl xe_n))), xkq_n⟩ xst_n ?_ ?_
      · show (0 ≤ (0 : Int) ∧ (0 : Int) ≤ xE (zyEl zymc B s.heap) 1 5) ∧ ((v2 1) : Int) = x0 0 ∧ ∀ S, xAb0 (zyEl zymc B s.heap) S → pTak S (x0 0) (pF (S 0) (S 1) (x0 0)) ((0 : Int)).toNat = false
        exact ⟨by omega, by omega, fun S hS => rfl⟩
      · show (99 - (0 : Int)).toNat < 100
        omega
    · have hx : x ∈ [zxfhs0_bx0] := hx
      have hag : ∀ k, k < 3 → v2 k = v k := hag
      have hfr : xFr [] _ _ := hfr
      have ex := List.mem_singleton.mp hx
      subst ex
      obtain ⟨hF, hBd, hM⟩ := hXs
      have g1 : v2 1 = v 1 := hag 1 (by decide)
      have g2 : v2 2 = v 2 := hag 2 (by decide)
      have b0 : ((2147483648 : Nat) : Int) ≤ (v2 1) + 2147483648 ∧ (v2 1) + 2147483648 ≤ ((2147483727 : Nat) : Int) := xXb hBd 0 rfl
      have b1 : ((2147483648 : Nat) : Int) ≤ (v2 2) + 2147483648 ∧ (v2 2) + 2147483648 ≤ ((2147483655 : Nat) : Int) := xXb hBd 1 rfl
      have b2 : ((2147483649 : Nat) : Int) ≤ (v2 3) + 2147483648 ∧ (v2 3) + 2147483648 ≤ ((2147483656 : Nat) : Int) := xXb hBd 2 rfl
      have b3 : ((2147483648 : Nat) : Int) ≤ (v2 4) + 2147483648 ∧ (v2 4) + 2147483648 ≤ ((2147483727 : Nat) : Int) := xXb hBd 3 rfl
      have b4 : ((2147483647 : Nat) : Int) ≤ (v2 5) + 2147483648 ∧ (v2 5) + 2147483648 ≤ ((2147483727 : Nat) : Int) := xXb hBd 4 rfl
      have b5 : ((2147483648 : Nat) : Int) ≤ (v2 6) + 2147483648 ∧ (v2 6) + 2147483648 ≤ ((2147483727 : Nat) : Int) := xXb hBd 5 rfl
      have b6 : ((2147483649 : Nat) : Int) ≤ (v2 2 + 1) + 2147483648 ∧ (v2 2 + 1) + 2147483648 ≤ ((2147483656 : Nat) : Int) := xXb hBd 6 rfl
      have f0 : (0 : Int) ≤ 5 ∧ xE (zyEl zymc B H) 1 5 = (v2 3) := xXf hF 0 rfl
      have f1 : (v2 2) < (v2 3) := xXf hF 1 rfl
      have f2 : (0 : Int) ≤ (v2 2) ∧ xE (zyEl zymc B H) 14 (v2 2) = (v2 4) := xXf hF 2 rfl
      have f3 : ¬ (v2 4) = (v2 1) := xXf hF 3 rfl
      have f4 : (0 : Int) ≤ (v2 1) ∧ xE (zyEl zymc B H) 4 (v2 1) = (v2 5) := xXf hF 4 rfl
      have f5 : (0 : Int) ≤ (v2 2) ∧ xE (zyEl zymc B H) 14 (v2 2) = (v2 6) := xXf hF 5 rfl
      have f6 : ¬ (v2 5) = (v2 6) := xXf hF 6 rfl
      have e1_5 : xE (zyEl zymc B H2) 1 5 = xE (zyEl zymc B H) 1 5 := xFr_E hfr rfl
      have q1_5 : xE (zyEl zymc B H) 1 5 = xE (zyEl zymc B s.heap) 1 5 := xFr_E hFr0 rfl
      have e2_2 : xE (zyEl zymc B H2) 2 2 = xE (zyEl zymc B H) 2 2 := xFr_E hfr rfl
      have q2_2 : xE (zyEl zymc B H) 2 2 = xE (zyEl zymc B s.heap) 2 2 := xFr_E hFr0 rfl
      have e14 : ∀ i, xE (zyEl zymc B H2) 14 i = xE (zyEl zymc B H) 14 i := fun i => xFr_E hfr rfl
      have q14 : ∀ i, xE (zyEl zymc B H) 14 i = xE (zyEl zymc B s.heap) 14 i := fun i => xFr_E hFr0 rfl
      have e4 : ∀ i, xE (zyEl zymc B H2) 4 i = xE (zyEl zymc B H) 4 i := fun i => xFr_E hfr rfl
      have q4 : ∀ i, xE (zyEl zymc B H) 4 i = xE (zyEl zymc B s.heap) 4 i := fun i => xFr_E hFr0 rfl
      have y1_5 : ((2147483648 : Nat) : Int) ≤ xE (zyEl zymc B s.heap) 1 5 + 2147483648 ∧ xE (zyEl zymc B s.heap) 1 5 + 2147483648 ≤ ((2147483656 : Nat) : Int) := xTyF hT0 1 5 5 rfl rfl rfl rfl rfl rfl
      have y2_2 : ((2147483648 : Nat) : Int) ≤ xE (zyEl zymc B s.heap) 2 2 + 2147483648 ∧ xE (zyEl zymc B s.heap) 2 2 + 2147483648 ≤ ((2147483728 : Nat) : Int) := xTyF hT0 2 2 2 rfl rfl rfl rfl rfl rfl
      have hI : (0 ≤ (v 2) ∧ (v 2) ≤ xE (zyEl zymc B s.heap) 1 5) ∧ (v 1) = x0 0 ∧ ∀ S, xAb0 (zyEl zymc B s.heap) S → pTak S (x0 0) (pF (S 0) (S 1) (x0 0)) ((v 2)).toNat = false := hInv
      obtain ⟨i1, i2, i3⟩ := hI
      have hP := hΦ.1
      have hP2 := hΦ.2
      rw [show (v 2) = v2 2 by omega] at i3
      have w2 : xE (zyEl zymc B s.heap) 14 (v2 2) = (v2 4) := by have := q14 (v2 2); omega
      have w5 : xE (zyEl zymc B s.heap) 14 (v2 2) = (v2 6) := by have := q14 (v2 2); omega
      have w4 : xE (zyEl zymc B s.heap) 4 (x0 0) = (v2 5) := by rw [show x0 0 = (v2 1) by omega]; have := q4 ((v2 1)); omega
      refine xGo hIH hAt hB hv hFr ⟨1, by decide⟩ [0, 34359738369, 68719476745] [0, (v2 1), (v2 2 + 1)] rfl ⟨by decide +kernel, ⟨rfl, by decide +kernel⟩, (xcs_c rfl (xcs_c rfl (xcs_c rfl xcs_n))), (xe_0 (xe_c (by omega) (by omega) rfl (xe_c (by omega) (by omega) rfl xe_n))), xkq_n⟩ xst_n ?_ ?_
      · show (0 ≤ ((v2 2 + 1) : Int) ∧ ((v2 2 + 1) : Int) ≤ xE (zyEl zymc B s.heap) 1 5) ∧ ((v2 1) : Int) = x0 0 ∧ ∀ S, xAb0 (zyEl zymc B s.heap) S → pTak S (x0 0) (pF (S 0) (S 1) (x0 0)) (((v2 2 + 1) : Int)).toNat = false
        refine ⟨by omega, by omega, fun S hS => ?_⟩
        have hst := (hS.2.2.2.1.2 (v2 2) (by omega) (by have := hS.2.2.2.1.1; omega)).1
        have hfc := hS.2.2.1 (x0 0) hP (by have := hS.2.1.2.2.1; omega)
        rw [pTak_s (by omega), i3 S hS, Bool.false_or, Bool.or_eq_false_iff, decide_eq_false_iff_not, decide_eq_false_iff_not]
        omega
      · show (99 - ((v2 2 + 1) : Int)).toNat < (99 - (v 2)).toNat
        omega
  · intro x0 E0 E E2 hrx hT0 hΦ i v hT hrv hInv hKc hFr0 x hx v2 hr2 hXs hag hfr hFr hT2
    rcases i with ⟨i, hi⟩
    have hi2 : i = 0 ∨ i = 1 := by omega
    rcases hi2 with rfl | rfl
    · cases hx
    · have hx : x ∈ [zxfhs0_br0, zxfhs0_br1, zxfhs0_br2] := hx
      have hag : ∀ k, k < 3 → v2 k = v k := hag
      have hfr : xFr [] _ _ := hfr
      rcases List.mem_cons.mp hx with ex | hx
      · subst ex
        obtain ⟨hF, hBd, hM⟩ := hXs
        have g1 : v2 1 = v 1 := hag 1 (by decide)
        have g2 : v2 2 = v 2 := hag 2 (by decide)
        have b0 : ((2147483648 : Nat) : Int) ≤ (v2 1) + 2147483648 ∧ (v2 1) + 2147483648 ≤ ((2147483727 : Nat) : Int) := xXb hBd 0 rfl
        have b1 : ((2147483648 : Nat) : Int) ≤ (v2 2) + 2147483648 ∧ (v2 2) + 2147483648 ≤ ((2147483655 : Nat) : Int) := xXb hBd 1 rfl
        have b2 : ((2147483649 : Nat) : Int) ≤ (v2 3) + 2147483648 ∧ (v2 3) + 2147483648 ≤ ((2147483656 : Nat) : Int) := xXb hBd 2 rfl
        have b3 : ((2147483648 : Nat) : Int) ≤ (v2 4) + 2147483648 ∧ (v2 4) + 2147483648 ≤ ((2147483727 : Nat) : Int) := xXb hBd 3 rfl
        have b4 : ((2147483647 : Nat) : Int) ≤ (v2 5) + 2147483648 ∧ (v2 5) + 2147483648 ≤ ((2147483727 : Nat) : Int) := xXb hBd 4 rfl
        have b5 : ((2147483648 : Nat) : Int) ≤ (v2 6) + 2147483648 ∧ (v2 6) + 2147483648 ≤ ((2147483727 : Nat) : Int) := xXb hBd 5 rfl
        have f0 : (0 : Int) ≤ 5 ∧ xE E 1 5 = (v2 3) := xXf hF 0 rfl
        have f1 : (v2 2) < (v2 3) := xXf hF 1 rfl
        have f2 : (0 : Int) ≤ (v2 2) ∧ xE E 14 (v2 2) = (v2 4) := xXf hF 2 rfl
        have f3 : ¬ (v2 4) = (v2 1) := xXf hF 3 rfl
        have f4 : (0 : Int) ≤ (v2 1) ∧ xE E 4 (v2 1) = (v2 5) := xXf hF 4 rfl
        have f5 : (0 : Int) ≤ (v2 2) ∧ xE E 14 (v2 2) = (v2 6) := xXf hF 5 rfl
        have f6 : (v2 5) = (v2 6) := xXf hF 6 rfl
        have e1_5 : xE E2 1 5 = xE E 1 5 := xFr_E hfr rfl
        have q1_5 : xE E 1 5 = xE E0 1 5 := xFr_E hFr0 rfl
        have e2_2 : xE E2 2 2 = xE E 2 2 := xFr_E hfr rfl
        have q2_2 : xE E 2 2 = xE E0 2 2 := xFr_E hFr0 rfl
        have e14 : ∀ i, xE E2 14 i = xE E 14 i := fun i => xFr_E hfr rfl
        have q14 : ∀ i, xE E 14 i = xE E0 14 i := fun i => xFr_E hFr0 rfl
        have e4 : ∀ i, xE E2 4 i = xE E 4 i := fun i => xFr_E hfr rfl
        have q4 : ∀ i, xE E 4 i = xE E0 4 i := fun i => xFr_E hFr0 rfl
        have y1_5 : ((2147483648 : Nat) : Int) ≤ xE E0 1 5 + 2147483648 ∧ xE E0 1 5 + 2147483648 ≤ ((2147483656 : Nat) : Int) := xTyF hT0 1 5 5 rfl rfl rfl rfl rfl rfl
        have y2_2 : ((2147483648 : Nat) : Int) ≤ xE E0 2 2 + 2147483648 ∧ xE E0 2 2 + 2147483648 ≤ ((2147483728 : Nat) : Int) := xTyF hT0 2 2 2 rfl rfl rfl rfl rfl rfl
        have hI : (0 ≤ (v 2) ∧ (v 2) ≤ xE E0 1 5) ∧ (v 1) = x0 0 ∧ ∀ S, xAb0 E0 S → pTak S (x0 0) (pF (S 0) (S 1) (x0 0)) ((v 2)).toNat = false := hInv
        show xΨhs0 x0 E0 E2 1
        obtain ⟨i1, i2, i3⟩ := hI
        have hP := hΦ.1
        have hP2 := hΦ.2
        rw [show (v 2) = v2 2 by omega] at i3
        have w2 : xE E0 14 (v2 2) = (v2 4) := by have := q14 (v2 2); omega
        have w5 : xE E0 14 (v2 2) = (v2 6) := by have := q14 (v2 2); omega
        have w4 : xE E0 4 (x0 0) = (v2 5) := by rw [show x0 0 = (v2 1) by omega]; have := q4 ((v2 1)); omega
        unfold xΨhs0
        refine ⟨by omega, fun S hS => ?_⟩
        have hst := (hS.2.2.2.1.2 (v2 2) (by omega) (by have := hS.2.2.2.1.1; omega)).1
        have hfc := hS.2.2.1 (x0 0) hP (by have := hS.2.1.2.2.1; omega)
        have hb := hS.2.2.2.1.1
        have ht : pTak S (x0 0) (pF (S 0) (S 1) (x0 0)) (v2 2 + 1).toNat = true := by
          rw [pTak_s (by omega), Bool.or_eq_true, Bool.or_eq_true, decide_eq_true_eq, decide_eq_true_eq]
          right
          omega
        rw [if_pos (pTak_m (by omega) ht)]
      · skip
        rcases List.mem_cons.mp hx with ex | hx
        · subst ex
          obtain ⟨hF, hBd, hM⟩ := hXs
          have g1 : v2 1 = v 1 := hag 1 (by decide)
          have g2 : v2 2 = v 2 := hag 2 (by decide)
          have b0 : ((2147483648 : Nat) : Int) ≤ (v2 1) + 2147483648 ∧ (v2 1) + 2147483648 ≤ ((2147483727 : Nat) : Int) := xXb hBd 0 rfl
          have b1 : ((2147483648 : Nat) : Int) ≤ (v2 2) + 2147483648 ∧ (v2 2) + 2147483648 ≤ ((2147483655 : Nat) : Int) := xXb hBd 1 rfl
          have b2 : ((2147483649 : Nat) : Int) ≤ (v2 3) + 2147483648 ∧ (v2 3) + 2147483648 ≤ ((2147483656 : Nat) : Int) := xXb hBd 2 rfl
          have b3 : ((2147483648 : Nat) : Int) ≤ (v2 4) + 2147483648 ∧ (v2 4) + 2147483648 ≤ ((2147483727 : Nat) : Int) := xXb hBd 3 rfl
          have f0 : (0 : Int) ≤ 5 ∧ xE E 1 5 = (v2 3) := xXf hF 0 rfl
          have f1 : (v2 2) < (v2 3) := xXf hF 1 rfl
          have f2 : (0 : Int) ≤ (v2 2) ∧ xE E 14 (v2 2) = (v2 4) := xXf hF 2 rfl
          have f3 : (v2 4) = (v2 1) := xXf hF 3 rfl
          have e1_5 : xE E2 1 5 = xE E 1 5 := xFr_E hfr rfl
          have q1_5 : xE E 1 5 = xE E0 1 5 := xFr_E hFr0 rfl
          have e2_2 : xE E2 2 2 = xE E 2 2 := xFr_E hfr rfl
          have q2_2 : xE E 2 2 = xE E0 2 2 := xFr_E hFr0 rfl
          have e14 : ∀ i, xE E2 14 i = xE E 14 i := fun i => xFr_E hfr rfl
          have q14 : ∀ i, xE E 14 i = xE E0 14 i := fun i => xFr_E hFr0 rfl
          have e4 : ∀ i, xE E2 4 i = xE E 4 i := fun i => xFr_E hfr rfl
          have q4 : ∀ i, xE E 4 i = xE E0 4 i := fun i => xFr_E hFr0 rfl
          have y1_5 : ((2147483648 : Nat) : Int) ≤ xE E0 1 5 + 2147483648 ∧ xE E0 1 5 + 2147483648 ≤ ((2147483656 : Nat) : Int) := xTyF hT0 1 5 5 rfl rfl rfl rfl rfl rfl
          have y2_2 : ((2147483648 : Nat) : Int) ≤ xE E0 2 2 + 2147483648 ∧ xE E0 2 2 + 2147483648 ≤ ((2147483728 : Nat) : Int) := xTyF hT0 2 2 2 rfl rfl rfl rfl rfl rfl
          have hI : (0 ≤ (v 2) ∧ (v 2) ≤ xE E0 1 5) ∧ (v 1) = x0 0 ∧ ∀ S, xAb0 E0 S → pTak S (x0 0) (pF (S 0) (S 1) (x0 0)) ((v 2)).toNat = false := hInv
          show xΨhs0 x0 E0 E2 1
          obtain ⟨i1, i2, i3⟩ := hI
          have hP := hΦ.1
          have hP2 := hΦ.2
          rw [show (v 2) = v2 2 by omega] at i3
          have w2 : xE E0 14 (v2 2) = (v2 4) := by have := q14 (v2 2); omega
          unfold xΨhs0
          refine ⟨by omega, fun S hS => ?_⟩
          have hst := (hS.2.2.2.1.2 (v2 2) (by omega) (by have := hS.2.2.2.1.1; omega)).1
          have hfc := hS.2.2.1 (x0 0) hP (by have := hS.2.1.2.2.1; omega)
          have hb := hS.2.2.2.1.1
          have ht : pTak S (x0 0) (pF (S 0) (S 1) (x0 0)) (v2 2 + 1).toNat = true := by
            rw [pTak_s (by omega), Bool.or_eq_true, Bool.or_eq_true, decide_eq_true_eq, decide_eq_true_eq]
            right
            omega
          rw [if_pos (pTak_m (by omega) ht)]
        · skip
          have ex := List.mem_singleton.mp hx
          subst ex
          obtain ⟨hF, hBd, hM⟩ := hXs
          have g1 : v2 1 = v 1 := hag 1 (by decide)
          have g2 : v2 2 = v 2 := hag 2 (by decide)
          have b0 : ((2147483648 : Nat) : Int) ≤ (v2 2) + 2147483648 ∧ (v2 2) + 2147483648 ≤ ((2147483656 : Nat) : Int) := xXb hBd 0 rfl
          have b1 : ((2147483648 : Nat) : Int) ≤ (v2 3) + 2147483648 ∧ (v2 3) + 2147483648 ≤ ((2147483656 : Nat) : Int) := xXb hBd 1 rfl
          have f0 : (0 : Int) ≤ 5 ∧ xE E 1 5 = (v2 3) := xXf hF 0 rfl
          have f1 : (v2 3) ≤ (v2 2) := xXf hF 1 rfl
          have e1_5 : xE E2 1 5 = xE E 1 5 := xFr_E hfr rfl
          have q1_5 : xE E 1 5 = xE E0 1 5 := xFr_E hFr0 rfl
          have e2_2 : xE E2 2 2 = xE E 2 2 := xFr_E hfr rfl
          have q2_2 : xE E 2 2 = xE E0 2 2 := xFr_E hFr0 rfl
          have e14 : ∀ i, xE E2 14 i = xE E 14 i := fun i => xFr_E hfr rfl
          have q14 : ∀ i, xE E 14 i = xE E0 14 i := fun i => xFr_E hFr0 rfl
          have e4 : ∀ i, xE E2 4 i = xE E 4 i := fun i => xFr_E hfr rfl
          have q4 : ∀ i, xE E 4 i = xE E0 4 i := fun i => xFr_E hFr0 rfl
          have y1_5 : ((2147483648 : Nat) : Int) ≤ xE E0 1 5 + 2147483648 ∧ xE E0 1 5 + 2147483648 ≤ ((2147483656 : Nat) : Int) := xTyF hT0 1 5 5 rfl rfl rfl rfl rfl rfl
          have y2_2 : ((2147483648 : Nat) : Int) ≤ xE E0 2 2 + 2147483648 ∧ xE E0 2 2 + 2147483648 ≤ ((2147483728 : Nat) : Int) := xTyF hT0 2 2 2 rfl rfl rfl rfl rfl rfl
          have hI : (0 ≤ (v 2) ∧ (v 2) ≤ xE E0 1 5) ∧ (v 1) = x0 0 ∧ ∀ S, xAb0 E0 S → pTak S (x0 0) (pF (S 0) (S 1) (x0 0)) ((v 2)).toNat = false := hInv
          show xΨhs0 x0 E0 E2 0
          obtain ⟨i1, i2, i3⟩ := hI
          have hP := hΦ.1
          have hP2 := hΦ.2
          rw [show (v 2) = v2 2 by omega] at i3
          unfold xΨhs0
          refine ⟨by omega, fun S hS => ?_⟩
          have hb := hS.2.2.2.1.1
          rw [show S 2 = v2 2 by omega, i3 S hS]
          rfl
noncomputable def zxfab0_ax0 : zyXp := (9, [11, 34359738369], [34359738369, 68719476737, 115], [(24, 68719476737, 1, 40)], [(34359738369, 2147483648, 2147483727), (68719476737, 2147483648, 2147483656)], [])
noncomputable def zpfab0_a : zyPh := (0, [11, 34359738369], [(0, 4294967295), (2147483648, 2147483727)], [], [])
noncomputable def zxfab0_bx0 : zyXp := (19, [11, 34359738369], [34359738360, 68719476737, 123], [(24, 68719476737, 1, 40)], [(34359738369, 2147483648, 2147483727), (68719476737, 2147483648, 2147483656)], [])
noncomputable def zpfab0_b : zyPh := (10, [11, 34359738369], [(0, 4294967295), (2147483648, 2147483727)], [], [])
noncomputable def zxfab0_cr0 : zyXp := (0, [], [], [], [(68719476737, 2147483648, 2147483655)], [(16389, 68719476745)])
noncomputable def zpfab0_c : zyPh := (20, [11, 34359738369], [(0, 4294967295), (2147483648, 2147483727), (2147483648, 2147483655)], [(16389, 68719476737)], [])
noncomputable def zpfab0 (i : Nat) : zyPh := zif (Nat.beq i 0) (zpfab0_a) (zif (Nat.beq i 1) (zpfab0_b) (zpfab0_c))
noncomputable def zXfab0 (i : Nat) : List zyXp := zif (Nat.beq i 0) ([zxfab0_ax0]) (zif (Nat.beq i 1) ([zxfab0_bx0]) ([]))
noncomputable def zRfab0 (i : Nat) : List zyXp := zif (Nat.beq i 0) ([]) (zif (Nat.beq i 1) ([]) ([zxfab0_cr0]))
noncomputable def zFfab0 (i : Nat) : zyR := zif (Nat.beq i 0) ([]) (zif (Nat.beq i 1) ([]) ([(1, 5, 5)]))
noncomputable def zSfab0 (i : Nat) : Nat := zif (Nat.beq i 0) (0) (zif (Nat.beq i 1) (0) (0))
def xΦab0 (x : Nat → Int) (E : zyEm) : Prop := xE E 1 5 ≤ 7 ∧ 0 ≤ x 0 ∧ x 0 ≤ 79
def xΨab0 (x : Nat → Int) (E E2 : zyEm) (_ : Int) : Prop := xE E2 1 5 = xE E 1 5 + 1 ∧ xE E2 14 (xE E 1 5) = x 0 ∧ (∀ k, 0 ≤ k → ¬ k = xE E 1 5 → xE E2 14 k = xE E 14 k) ∧ xE E2 15 (xE E 1 5) = -1 ∧ (∀ k, 0 ≤ k → ¬ k = xE E 1 5 → xE E2 15 k = xE E 15 k)
noncomputable def fpfab0 : zyR := [(1, 5, 5), (14, 0, 7), (15, 0, 7)]
theorem zyfab0_run : zyrS zymc zxi32 (32, 0, 0, 0, 0) 1 zpfab0 (fun _ _ => []) zFfab0 zSfab0 zXfab0 zRfab0 3 = true := by decide +kernel
theorem zyfab0_ck : zyAll (fun i => xsubR (zFfab0 i) fpfab0 && ((zXfab0 i).all xckX && (zRfab0 i).all (fun x => xckX x && xrtB false x))) 3 = true := by decide +kernel
def xIfab0 (i : Nat) (x0 : Nat → Int) (E0 : zyEm) (v : Nat → Int) (E : zyEm) : Prop := if i = 0 then (E = E0 ∧ (v 1) = x0 0) else if i = 1 then ((0 ≤ (v 1) ∧ (v 1) ≤ 79) ∧ xE E 1 5 = (xE E0 1 5) ∧ (xE E0 1 5) ≤ 7 ∧ xE E 14 (xE E0 1 5) = x0 0 ∧ (∀ k, 0 ≤ k → ¬ k = (xE E0 1 5) → xE E 14 k = xE E0 14 k) ∧ (∀ k, xE E 15 k = xE E0 15 k)) else (xE E 1 5 = (xE E0 1 5) ∧ (xE E0 1 5) ≤ 7 ∧ xE E 14 (xE E0 1 5) = x0 0 ∧ (∀ k, 0 ≤ k → ¬ k = (xE E0 1 5) → xE E 14 k = xE E0 14 k) ∧ xE E 15 (xE E0 1 5) = -1 ∧ (∀ k, 0 ≤ k → ¬ k = (xE E0 1 5) → xE E 15 k = xE E0 15 k))
def xMfab0 (i : Nat) (x0 : Nat → Int) (E0 : zyEm) (v : Nat → Int) (E : zyEm) : Nat := if i = 0 then (3) else if i = 1 then (2) else (1)
theorem xAbb0 {l : Launch} {en : zEn} {me : zMe} (hen : zG zxMeta 32 = some en) (hme : zG zMeth 32 = some me) : xFc l zymc en me 1 [1] 1 fpfab0 false xΦab0 xΨab0 := by
  have een : zG zxMeta 32 = some (zxi32, 2, 2, 3, 32, 0, 0, 0, 0) := rfl
  obtain ⟨me1, hme1, hOK⟩ := zall hen
  rw [hme] at hme1
  cases hme1
  rw [een] at hen
  cases hen
  have hr := zyfab0_run
  have hck := fun i hi => zyAll_iff zyfab0_ck i hi
  simp only [Bool.and_eq_true] at hck
  intro B
  refine xcut (mi := zymc) (B := B) hOK rfl rfl (ι := Fin 3) (fun i => zpfab0 i.val) (fun _ _ => []) (fun i => zFfab0 i.val) (fun i => zSfab0 i.val) (fun i => zXfab0 i.val) (fun i => zRfab0 i.val) (fun i y2 ct en2 me2 h => by cases h) 200000 (fun i => zyAll_iff hr i.val i.isLt) (fun i => (hck i.val i.isLt).1) (fun i => (hck i.val i.isLt).2.1) (fun i => (hck i.val i.isLt).2.2) ⟨0, by decide⟩ ⟨rfl, rfl, rfl, rfl⟩ ⟨by decide, by decide⟩ (fun i x0 E0 v E => xIfab0 i.val x0 E0 v E) (fun i x0 E0 v E => xMfab0 i.val x0 E0 v E) ?_ ?_ ?_
  · intro x0 E hx0 hT hΦ
    have hΦ : xΦab0 x0 E := hΦ
    refine ⟨fun k p hp => ?_, ?_⟩
    · have hk : k < 2 := (List.getElem?_eq_some_iff.mp hp).1
      have hk : k = 0 ∨ k = 1 := by omega
      rcases hk with rfl | rfl
      · have hp : some (0, 4294967295) = some p := hp
        cases hp
        show ((0 : Nat) : Int) ≤ 0 + 2147483648 ∧ 0 + 2147483648 ≤ ((4294967295 : Nat) : Int)
        omega
      · have hp : some (2147483648, 2147483727) = some p := hp
        cases hp
        show ((2147483648 : Nat) : Int) ≤ x0 0 + 2147483648 ∧ x0 0 + 2147483648 ≤ ((2147483727 : Nat) : Int)
        have hx := hx0 0
        have hP := hΦ.2
        omega
    · show E = E ∧ (x0 0) = x0 0
      exact ⟨rfl, rfl⟩
  · intro x0 s Wg hRu hrx hT0 hΦ i v H hT hrv hInv hKc hFr0 hIH x hx ρ2 v2 N2 H2 locs lsB stA hAt hB hv hr2 hXs hag hfr hFr hT2
    rcases i with ⟨i, hi⟩
    have hi2 : i = 0 ∨ i = 1 ∨ i = 2 := by omega
    rcases hi2 with rfl | rfl | rfl
    · have hx : x ∈ [zxfab0_ax0] := hx
      have hag : ∀ k, k < 2 → v2 k = v k := hag
      have hfr : xFr [] _ _ := hfr
      have ex := List.mem_singleton.mp hx
      subst ex
      obtain ⟨hF, hBd, hM⟩ := hXs
      have g1 : v2 1 = v 1 := hag 1 (by decide)
      have b0 : ((2147483648 : Nat) : Int) ≤ (v2 1) + 2147483648 ∧ (v2 1) + 2147483648 ≤ ((2147483727 : Nat) : Int) := xXb hBd 0 rfl
      have b1 : ((2147483648 : Nat) : Int) ≤ (v2 2) + 2147483648 ∧ (v2 2) + 2147483648 ≤ ((2147483656 : Nat) : Int) := xXb hBd 1 rfl
      have f0 : (0 : Int) ≤ 5 ∧ xE (zyEl zymc B H) 1 5 = (v2 2) := xXf hF 0 rfl
      have e1_5 : xE (zyEl zymc B H2) 1 5 = xE (zyEl zymc B H) 1 5 := xFr_E hfr rfl
      have e14 : ∀ i, xE (zyEl zymc B H2) 14 i = xE (zyEl zymc B H) 14 i := fun i => xFr_E hfr rfl
      have e15 : ∀ i, xE (zyEl zymc B H2) 15 i = xE (zyEl zymc B H) 15 i := fun i => xFr_E hfr rfl
      have y1_5 : ((2147483648 : Nat) : Int) ≤ xE (zyEl zymc B s.heap) 1 5 + 2147483648 ∧ xE (zyEl zymc B s.heap) 1 5 + 2147483648 ≤ ((2147483656 : Nat) : Int) := xTyF hT0 1 5 5 rfl rfl rfl rfl rfl rfl
      have hI : (zyEl zymc B H) = (zyEl zymc B s.heap) ∧ (v 1) = x0 0 := hInv
      have q1_5 : xE (zyEl zymc B H) 1 5 = xE (zyEl zymc B s.heap) 1 5 := by rw [hI.1]
      have q14 : ∀ i, xE (zyEl zymc B H) 14 i = xE (zyEl zymc B s.heap) 14 i := fun i => by rw [hI.1]
      have q15 : ∀ i, xE (zyEl zymc B H) 15 i = xE (zyEl zymc B s.heap) 15 i := fun i => by rw [hI.1]
      have hP := hΦ.1
      refine xSt hRu hIH hAt hB hv hFr 14 (ax := 0) 34359738369 68719476737 (v2 1) (v2 2) rfl (Or.inl ⟨rfl, rfl⟩) rfl (by decide +kernel) rfl rfl (by omega) (by show (v2 2) < ((8 : Nat) : Int); omega) (fun r hr q1 q2 => by rw [List.mem_singleton.mp hr]; exact ⟨rfl, by show ((2147483648 : Nat) : Int) ≤ (v2 1) + 2147483648; omega, by show (v2 1) + 2147483648 ≤ ((2147483727 : Nat) : Int); omega⟩) (zyin_iff.mpr ⟨(14, 0, 7), by decide, rfl, Nat.zero_le _, by show Int.toNat (v2 2) ≤ 7; omega⟩) (fun H3 hT3 hst3 hne3 hfn3 hFr3 => ?_)
      have hfe3 : ∀ (a2 : Nat) (k2 : Int), ¬ a2 = 14 → xE (zyEl zymc B H3) a2 k2 = xE (zyEl zymc B H2) a2 k2 := fun a2 k2 hne => by unfold xE; rw [hfn3 a2 k2.toNat (fun z => hne z.1)]
      have d1_5 : xE (zyEl zymc B H3) 1 5 = xE (zyEl zymc B H2) 1 5 := hfe3 1 5 (fun z => absurd z (by decide))
      refine ⟨⟨1, by decide⟩, [0, 34359738369], [0, (v2 1)], rfl, ⟨by decide +kernel, ⟨rfl, by decide +kernel⟩, (xcs_c rfl (xcs_c rfl xcs_n)), (xe_0 (xe_c (by omega) (by omega) rfl xe_n)), xkq_n⟩, rfl, ?_, ?_⟩
      · show (0 ≤ ((v2 1) : Int) ∧ ((v2 1) : Int) ≤ 79) ∧ xE (zyEl zymc B H3) 1 5 = (xE (zyEl zymc B s.heap) 1 5) ∧ (xE (zyEl zymc B s.heap) 1 5) ≤ 7 ∧ xE (zyEl zymc B H3) 14 (xE (zyEl zymc B s.heap) 1 5) = x0 0 ∧ (∀ k, 0 ≤ k → ¬ k = (xE (zyEl zymc B s.heap) 1 5) → xE (zyEl zymc B H3) 14 k = xE (zyEl zymc B s.heap) 14 k) ∧ (∀ k, xE (zyEl zymc B H3) 15 k = xE (zyEl zymc B s.heap) 15 k)
        rw [show (v2 2) = xE (zyEl zymc B s.heap) 1 5 by omega] at hst3 hne3
        exact ⟨by omega, by omega, by omega, hst3.trans (by omega), fun k k0 k1 => (hne3 14 k k0 (fun z => k1 z.2)).trans ((e14 k).trans (q14 k)), fun k => (hfe3 15 k (fun z => absurd z (by decide))).trans ((e15 k).trans (q15 k))⟩
      · show 2 < 3
        omega
    · have hx : x ∈ [zxfab0_bx0] := hx
      have hag : ∀ k, k < 2 → v2 k = v k := hag
      have hfr : xFr [] _ _ := hfr
      have ex := List.mem_singleton.mp hx
      subst ex
      obtain ⟨hF, hBd, hM⟩ := hXs
      have g1 : v2 1 = v 1 := hag 1 (by decide)
      have b0 : ((2147483648 : Nat) : Int) ≤ (v2 1) + 2147483648 ∧ (v2 1) + 2147483648 ≤ ((2147483727 : Nat) : Int) := xXb hBd 0 rfl
      have b1 : ((2147483648 : Nat) : Int) ≤ (v2 2) + 2147483648 ∧ (v2 2) + 2147483648 ≤ ((2147483656 : Nat) : Int) := xXb hBd 1 rfl
      have f0 : (0 : Int) ≤ 5 ∧ xE (zyEl zymc B H) 1 5 = (v2 2) := xXf hF 0 rfl
      have e1_5 : xE (zyEl zymc B H2) 1 5 = xE (zyEl zymc B H) 1 5 := xFr_E hfr rfl
      have e14 : ∀ i, xE (zyEl zymc B H2) 14 i = xE (zyEl zymc B H) 14 i := fun i => xFr_E hfr rfl
      have e15 : ∀ i, xE (zyEl zymc B H2) 15 i = xE (zyEl zymc B H) 15 i := fun i => xFr_E hfr rfl
      have y1_5 : ((2147483648 : Nat) : Int) ≤ xE (zyEl zymc B s.heap) 1 5 + 2147483648 ∧ xE (zyEl zymc B s.heap) 1 5 + 2147483648 ≤ ((2147483656 : Nat) : Int) := xTyF hT0 1 5 5 rfl rfl rfl rfl rfl rfl
      have hI : (0 ≤ (v 1) ∧ (v 1) ≤ 79) ∧ xE (zyEl zymc B H) 1 5 = (xE (zyEl zymc B s.heap) 1 5) ∧ (xE (zyEl zymc B s.heap) 1 5) ≤ 7 ∧ xE (zyEl zymc B H) 14 (xE (zyEl zymc B s.heap) 1 5) = x0 0 ∧ (∀ k, 0 ≤ k → ¬ k = (xE (zyEl zymc B s.heap) 1 5) → xE (zyEl zymc B H) 14 k = xE (zyEl zymc B s.heap) 14 k) ∧ (∀ k, xE (zyEl zymc B H) 15 k = xE (zyEl zymc B s.heap) 15 k) := hInv
      obtain ⟨i1, i2, i3, i4, i5, i6⟩ := hI
      refine xSt hRu hIH hAt hB hv hFr 15 (ax := 0) 34359738360 68719476737 (-1) (v2 2) rfl (Or.inl ⟨rfl, rfl⟩) rfl (by decide +kernel) rfl rfl (by omega) (by show (v2 2) < ((8 : Nat) : Int); omega) (fun r hr q1 q2 => by rw [List.mem_singleton.mp hr]; exact ⟨rfl, by show ((2147483647 : Nat) : Int) ≤ (-1) + 2147483648; omega, by show (-1) + 2147483648 ≤ ((2147483727 : Nat) : Int); omega⟩) (zyin_iff.mpr ⟨(15, 0, 7), by decide, rfl, Nat.zero_le _, by show Int.toNat (v2 2) ≤ 7; omega⟩) (fun H3 hT3 hst3 hne3 hfn3 hFr3 => ?_)
      have hfe3 : ∀ (a2 : Nat) (k2 : Int), ¬ a2 = 15 → xE (zyEl zymc B H3) a2 k2 = xE (zyEl zymc B H2) a2 k2 := fun a2 k2 hne => by unfold xE; rw [hfn3 a2 k2.toNat (fun z => hne z.1)]
      have d1_5 : xE (zyEl zymc B H3) 1 5 = xE (zyEl zymc B H2) 1 5 := hfe3 1 5 (fun z => absurd z (by decide))
      have z1_5 : ((2147483648 : Nat) : Int) ≤ xE (zyEl zymc B H3) 1 5 + 2147483648 ∧ xE (zyEl zymc B H3) 1 5 + 2147483648 ≤ ((2147483656 : Nat) : Int) := xTyF hT3 1 5 5 rfl rfl rfl rfl rfl rfl
      refine ⟨⟨2, by decide⟩, [0, 34359738369], [0, (v2 1), xE (zyEl zymc B H3) 1 5], rfl, ⟨by decide +kernel, ⟨rfl, by decide +kernel⟩, (xcs_c rfl (xcs_c rfl xcs_n)), (xe_0 (xe_c (by omega) (by omega) rfl (xe_c (by omega) (by omega) rfl xe_n))), (xkq_c hT3 1 5 (q := 5) rfl rfl rfl rfl rfl rfl rfl rfl rfl rfl rfl xkq_n)⟩, rfl, ?_, ?_⟩
      · show xE (zyEl zymc B H3) 1 5 = (xE (zyEl zymc B s.heap) 1 5) ∧ (xE (zyEl zymc B s.heap) 1 5) ≤ 7 ∧ xE (zyEl zymc B H3) 14 (xE (zyEl zymc B s.heap) 1 5) = x0 0 ∧ (∀ k, 0 ≤ k → ¬ k = (xE (zyEl zymc B s.heap) 1 5) → xE (zyEl zymc B H3) 14 k = xE (zyEl zymc B s.heap) 14 k) ∧ xE (zyEl zymc B H3) 15 (xE (zyEl zymc B s.heap) 1 5) = -1 ∧ (∀ k, 0 ≤ k → ¬ k = (xE (zyEl zymc B s.heap) 1 5) → xE (zyEl zymc B H3) 15 k = xE (zyEl zymc B s.heap) 15 k)
        rw [show (v2 2) = xE (zyEl zymc B s.heap) 1 5 by omega] at hst3 hne3
        exact ⟨by omega, by omega, (hfe3 14 _ (fun z => absurd z (by decide))).trans ((e14 _).trans i4), fun k k0 k1 => (hfe3 14 k (fun z => absurd z (by decide))).trans ((e14 k).trans (i5 k k0 k1)), hst3, fun k k0 k1 => (hne3 15 k k0 (fun z => k1 z.2)).trans ((e15 k).trans (i6 k))⟩
      · show 1 < 2
        omega
    · cases hx
  · intro x0 E0 E E2 hrx hT0 hΦ i v hT hrv hInv hKc hFr0 x hx v2 hr2 hXs hag hfr hFr hT2
    rcases i with ⟨i, hi⟩
    have hi2 : i = 0 ∨ i = 1 ∨ i = 2 := by omega
    rcases hi2 with rfl | rfl | rfl
    · cases hx
    · cases hx
    · have hx : x ∈ [zxfab0_cr0] := hx
      have hag : ∀ k, k < 3 → v2 k = v k := hag
      have hfr : xFr [(1, 5, 5)] _ _ := hfr
      have ex := List.mem_singleton.mp hx
      subst ex
      obtain ⟨hF, hBd, hM⟩ := hXs
      have g1 : v2 1 = v 1 := hag 1 (by decide)
      have g2 : v2 2 = v 2 := hag 2 (by decide)
      have b0 : ((2147483648 : Nat) : Int) ≤ (v2 2) + 2147483648 ∧ (v2 2) + 2147483648 ≤ ((2147483655 : Nat) : Int) := xXb hBd 0 rfl
      have k0 : xE E 1 5 = v 2 := xKcf hKc 0 rfl rfl
      have m0 : xE E2 1 5 = (v2 2 + 1) := xXm hM 0 rfl
      have e14 : ∀ i, xE E2 14 i = xE E 14 i := fun i => xFr_E hfr rfl
      have e15 : ∀ i, xE E2 15 i = xE E 15 i := fun i => xFr_E hfr rfl
      have y1_5 : ((2147483648 : Nat) : Int) ≤ xE E0 1 5 + 2147483648 ∧ xE E0 1 5 + 2147483648 ≤ ((2147483656 : Nat) : Int) := xTyF hT0 1 5 5 rfl rfl rfl rfl rfl rfl
      have hI : xE E 1 5 = (xE E0 1 5) ∧ (xE E0 1 5) ≤ 7 ∧ xE E 14 (xE E0 1 5) = x0 0 ∧ (∀ k, 0 ≤ k → ¬ k = (xE E0 1 5) → xE E 14 k = xE E0 14 k) ∧ xE E 15 (xE E0 1 5) = -1 ∧ (∀ k, 0 ≤ k → ¬ k = (xE E0 1 5) → xE E 15 k = xE E0 15 k) := hInv
      show xΨab0 x0 E0 E2 0
      obtain ⟨i1, i2, i3, i4, i5, i6⟩ := hI
      unfold xΨab0
      exact ⟨by omega, (e14 _).trans i3, fun k k0 k1 => (e14 k).trans (i4 k k0 k1), (e15 _).trans i5, fun k k0 k1 => (e15 k).trans (i6 k k0 k1)⟩
noncomputable def zxfwa0_zx0 : zyXp := (0, [131, 34359738369], [], [], [(34359738369, 2147483641, 2147483655)], [])
noncomputable def zpfwa0_z : zyPh := (0, [131, 34359738369], [(0, 4294967295), (2147483641, 2147483655)], [], [])
noncomputable def zxfwa0_ax0 : zyXp := (21, [131, 34359738369], [34359738369, 68719476737, 139], [(20, 0, 68719476737, 480)], [(34359738369, 2147483641, 2147483655), (68719476737, 2147483648, 2147483707)], [(262145, 68719476737)])
noncomputable def zxfwa0_ar0 : zyXp := (0, [], [], [(21, 0, 68719476737, 480)], [(68719476737, 2147483708, 2147483708)], [(262145, 488)])
noncomputable def zpfwa0_a : zyPh := (0, [131, 34359738369], [(0, 4294967295), (2147483641, 2147483655), (2147483648, 2147483708)], [(262145, 68719476737)], [])
noncomputable def zxfwa0_br0 : zyXp := (0, [], [], [], [(68719476737, 2147483648, 2147483707)], [(262145, 68719476745)])
noncomputable def zpfwa0_b : zyPh := (22, [131, 34359738369], [(0, 4294967295), (2147483641, 2147483655), (2147483648, 2147483707)], [(262145, 68719476737)], [])
noncomputable def zpfwa0 (i : Nat) : zyPh := zif (Nat.beq i 0) (zpfwa0_z) (zif (Nat.beq i 1) (zpfwa0_a) (zpfwa0_b))
noncomputable def zXfwa0 (i : Nat) : List zyXp := zif (Nat.beq i 0) ([zxfwa0_zx0]) (zif (Nat.beq i 1) ([zxfwa0_ax0]) ([]))
noncomputable def zRfwa0 (i : Nat) : List zyXp := zif (Nat.beq i 0) ([]) (zif (Nat.beq i 1) ([zxfwa0_ar0]) ([zxfwa0_br0]))
noncomputable def zFfwa0 (i : Nat) : zyR := zif (Nat.beq i 0) ([]) (zif (Nat.beq i 1) ([(16, 1, 1)]) ([(16, 1, 1)]))
noncomputable def zSfwa0 (i : Nat) : Nat := zif (Nat.beq i 0) (0) (zif (Nat.beq i 1) (0) (0))
def xΦwa0 (x : Nat → Int) (E : zyEm) : Prop := xE E 16 1 ≤ 60 ∧ -7 ≤ x 0 ∧ x 0 ≤ 7
def xΨwa0 (x : Nat → Int) (E E2 : zyEm) (_ : Int) : Prop := xE E2 16 1 = xE E 16 1 + 1 ∧ (xE E 16 1 < 60 → xE E2 17 (xE E 16 1) = x 0) ∧ (∀ k, 0 ≤ k → ¬ k = xE E 16 1 → xE E2 17 k = xE E 17 k)
noncomputable def fpfwa0 : zyR := [(16, 1, 1), (17, 0, 59)]
theorem zyfwa0_run : zyrS zymc zxi107 (107, 0, 0, 0, 0) 1 zpfwa0 (fun _ _ => []) zFfwa0 zSfwa0 zXfwa0 zRfwa0 3 = true := by decide +kernel
theorem zyfwa0_ck : zyAll (fun i => xsubR (zFfwa0 i) fpfwa0 && ((zXfwa0 i).all xckX && (zRfwa0 i).all (fun x => xckX x && xrtB false x))) 3 = true := by decide +kernel
def xIfwa0 (i : Nat) (x0 : Nat → Int) (E0 : zyEm) (v : Nat → Int) (E : zyEm) : Prop := if i = 0 then (E = E0 ∧ (v 1) = x0 0) else if i = 1 then ((v 1) = x0 0 ∧ xE E 16 1 = (xE E0 16 1) ∧ (xE E0 16 1) ≤ 60 ∧ (∀ k, xE E 17 k = xE E0 17 k)) else (xE E 16 1 = (xE E0 16 1) ∧ (xE E0 16 1) < 60 ∧ xE E 17 (xE E0 16 1) = x0 0 ∧ (∀ k, 0 ≤ k → ¬ k = (xE E0 16 1) → xE E 17 k = xE E0 17 k))
def xMfwa0 (i : Nat) (x0 : Nat → Int) (E0 : zyEm) (v : Nat → Int) (E : zyEm) : Nat := if i = 0 then (3) else if i = 1 then (2) else (1)
theorem xWa0 {l : Launch} {en : zEn} {me : zMe} (hen : zG zxMeta 107 = some en) (hme : zG zMeth 107 = some me) : xFc l zymc en me 1 [16] 1 fpfwa0 false xΦwa0 xΨwa0 := by
  have een : zG zxMeta 107 = some (zxi107, 2, 2, 9, 107, 0, 0, 0, 0) := rfl
  obtain ⟨me1, hme1, hOK⟩ := zall hen
  rw [hme] at hme1
  cases hme1
  rw [een] at hen
  cases hen
  have hr := zyfwa0_run
  have hck := fun i hi => zyAll_iff zyfwa0_ck i hi
  simp only [Bool.and_eq_true] at hck
  intro B
  refine xcut (mi := zymc) (B := B) hOK rfl rfl (ι := Fin 3) (fun i => zpfwa0 i.val) (fun _ _ => []) (fun i => zFfwa0 i.val) (fun i => zSfwa0 i.val) (fun i => zXfwa0 i.val) (fun i => zRfwa0 i.val) (fun i y2 ct en2 me2 h => by cases h) 200000 (fun i => zyAll_iff hr i.val i.isLt) (fun i => (hck i.val i.isLt).1) (fun i => (hck i.val i.isLt).2.1) (fun i => (hck i.val i.isLt).2.2) ⟨0, by decide⟩ ⟨rfl, rfl, rfl, rfl⟩ ⟨by decide, by decide⟩ (fun i x0 E0 v E => xIfwa0 i.val x0 E0 v E) (fun i x0 E0 v E => xMfwa0 i.val x0 E0 v E) ?_ ?_ ?_
  · intro x0 E hx0 hT hΦ
    have hΦ : xΦwa0 x0 E := hΦ
    refine ⟨fun k p hp => ?_, ?_⟩
    · have hk : k < 2 := (List.getElem?_eq_some_iff.mp hp).1
      have hk : k = 0 ∨ k = 1 := by omega
      rcases hk with rfl | rfl
      · have hp : some (0, 4294967295) = some p := hp
        cases hp
        show ((0 : Nat) : Int) ≤ 0 + 2147483648 ∧ 0 + 2147483648 ≤ ((4294967295 : Nat) : Int)
        omega
      · have hp : some (2147483641, 2147483655) = some p := hp
        cases hp
        show ((2147483641 : Nat) : Int) ≤ x0 0 + 2147483648 ∧ x0 0 + 2147483648 ≤ ((2147483655 : Nat) : Int)
        have hx := hx0 0
        have hP := hΦ.2
        omega
    · show E = E ∧ (x0 0) = x0 0
      exact ⟨rfl, rfl⟩
  · intro x0 s Wg hRu hrx hT0 hΦ i v H hT hrv hInv hKc hFr0 hIH x hx ρ2 v2 N2 H2 locs lsB stA hAt hB hv hr2 hXs hag hfr hFr hT2
    rcases i with ⟨i, hi⟩
    have hi2 : i = 0 ∨ i = 1 ∨ i = 2 := by omega
    rcases hi2 with rfl | rfl | rfl
    · have hx : x ∈ [zxfwa0_zx0] := hx
      have hag : ∀ k, k < 2 → v2 k = v k := hag
      have hfr : xFr [] _ _ := hfr
      have ex := List.mem_singleton.mp hx
      subst ex
      obtain ⟨hF, hBd, hM⟩ := hXs
      have g1 : v2 1 = v 1 := hag 1 (by decide)
      have b0 : ((2147483641 : Nat) : Int) ≤ (v2 1) + 2147483648 ∧ (v2 1) + 2147483648 ≤ ((2147483655 : Nat) : Int) := xXb hBd 0 rfl
      have e16_1 : xE (zyEl zymc B H2) 16 1 = xE (zyEl zymc B H) 16 1 := xFr_E hfr rfl
      have e17 : ∀ i, xE (zyEl zymc B H2) 17 i = xE (zyEl zymc B H) 17 i := fun i => xFr_E hfr rfl
      have y16_1 : ((2147483648 : Nat) : Int) ≤ xE (zyEl zymc B s.heap) 16 1 + 2147483648 ∧ xE (zyEl zymc B s.heap) 16 1 + 2147483648 ≤ ((2147483709 : Nat) : Int) := xTyF hT0 16 1 1 rfl rfl rfl rfl rfl rfl
      have hI : (zyEl zymc B H) = (zyEl zymc B s.heap) ∧ (v 1) = x0 0 := hInv
      have q16_1 : xE (zyEl zymc B H) 16 1 = xE (zyEl zymc B s.heap) 16 1 := by rw [hI.1]
      have q17 : ∀ i, xE (zyEl zymc B H) 17 i = xE (zyEl zymc B s.heap) 17 i := fun i => by rw [hI.1]
      have hP := hΦ.1
      have z16_1 : ((2147483648 : Nat) : Int) ≤ xE (zyEl zymc B H2) 16 1 + 2147483648 ∧ xE (zyEl zymc B H2) 16 1 + 2147483648 ≤ ((2147483709 : Nat) : Int) := xTyF hT2 16 1 1 rfl rfl rfl rfl rfl rfl
      refine xGo hIH hAt hB hv hFr ⟨1, by decide⟩ [0, 34359738369] [0, (v2 1), xE (zyEl zymc B H2) 16 1] rfl ⟨by decide +kernel, ⟨rfl, by decide +kernel⟩, (xcs_c rfl (xcs_c rfl xcs_n)), (xe_0 (xe_c (by omega) (by omega) rfl (xe_c (by omega) (by omega) rfl xe_n))), (xkq_c hT2 16 1 (q := 1) rfl rfl rfl rfl rfl rfl rfl rfl rfl rfl rfl xkq_n)⟩ xst_n ?_ ?_
      · show ((v2 1) : Int) = x0 0 ∧ xE (zyEl zymc B H2) 16 1 = (xE (zyEl zymc B s.heap) 16 1) ∧ (xE (zyEl zymc B s.heap) 16 1) ≤ 60 ∧ (∀ k, xE (zyEl zymc B H2) 17 k = xE (zyEl zymc B s.heap) 17 k)
        exact ⟨by omega, by omega, by omega, fun k => (e17 k).trans (q17 k)⟩
      · show 2 < 3
        omega
    · have hx : x ∈ [zxfwa0_ax0] := hx
      have hag : ∀ k, k < 3 → v2 k = v k := hag
      have hfr : xFr [(16, 1, 1)] _ _ := hfr
      have ex := List.mem_singleton.mp hx
      subst ex
      obtain ⟨hF, hBd, hM⟩ := hXs
      have g1 : v2 1 = v 1 := hag 1 (by decide)
      have g2 : v2 2 = v 2 := hag 2 (by decide)
      have b0 : ((2147483641 : Nat) : Int) ≤ (v2 1) + 2147483648 ∧ (v2 1) + 2147483648 ≤ ((2147483655 : Nat) : Int) := xXb hBd 0 rfl
      have b1 : ((2147483648 : Nat) : Int) ≤ (v2 2) + 2147483648 ∧ (v2 2) + 2147483648 ≤ ((2147483707 : Nat) : Int) := xXb hBd 1 rfl
      have k0 : xE (zyEl zymc B H) 16 1 = v 2 := xKcf hKc 0 rfl rfl
      have f0 : (v2 2) < 60 := xXf hF 0 rfl
      have m0 : xE (zyEl zymc B H2) 16 1 = (v2 2) := xXm hM 0 rfl
      have e17 : ∀ i, xE (zyEl zymc B H2) 17 i = xE (zyEl zymc B H) 17 i := fun i => xFr_E hfr rfl
      have y16_1 : ((2147483648 : Nat) : Int) ≤ xE (zyEl zymc B s.heap) 16 1 + 2147483648 ∧ xE (zyEl zymc B s.heap) 16 1 + 2147483648 ≤ ((2147483709 : Nat) : Int) := xTyF hT0 16 1 1 rfl rfl rfl rfl rfl rfl
      have hI : (v 1) = x0 0 ∧ xE (zyEl zymc B H) 16 1 = (xE (zyEl zymc B s.heap) 16 1) ∧ (xE (zyEl zymc B s.heap) 16 1) ≤ 60 ∧ (∀ k, xE (zyEl zymc B H) 17 k = xE (zyEl zymc B s.heap) 17 k) := hInv
      obtain ⟨i1, i2, i3, i4⟩ := hI
      refine xSt hRu hIH hAt hB hv hFr 17 (ax := 0) 34359738369 68719476737 (v2 1) (v2 2) rfl (Or.inl ⟨rfl, rfl⟩) rfl (by decide +kernel) rfl rfl (by omega) (by show (v2 2) < ((60 : Nat) : Int); omega) (fun r hr q1 q2 => by rw [List.mem_singleton.mp hr]; exact ⟨rfl, by show ((2147483641 : Nat) : Int) ≤ (v2 1) + 2147483648; omega, by show (v2 1) + 2147483648 ≤ ((2147483655 : Nat) : Int); omega⟩) (zyin_iff.mpr ⟨(17, 0, 59), by decide, rfl, Nat.zero_le _, by show Int.toNat (v2 2) ≤ 59; omega⟩) (fun H3 hT3 hst3 hne3 hfn3 hFr3 => ?_)
      have hfe3 : ∀ (a2 : Nat) (k2 : Int), ¬ a2 = 17 → xE (zyEl zymc B H3) a2 k2 = xE (zyEl zymc B H2) a2 k2 := fun a2 k2 hne => by unfold xE; rw [hfn3 a2 k2.toNat (fun z => hne z.1)]
      have d16_1 : xE (zyEl zymc B H3) 16 1 = xE (zyEl zymc B H2) 16 1 := hfe3 16 1 (fun z => absurd z (by decide))
      have z16_1 : ((2147483648 : Nat) : Int) ≤ xE (zyEl zymc B H3) 16 1 + 2147483648 ∧ xE (zyEl zymc B H3) 16 1 + 2147483648 ≤ ((2147483709 : Nat) : Int) := xTyF hT3 16 1 1 rfl rfl rfl rfl rfl rfl
      refine ⟨⟨2, by decide⟩, [0, 34359738369], [0, (v2 1), xE (zyEl zymc B H3) 16 1], rfl, ⟨by decide +kernel, ⟨rfl, by decide +kernel⟩, (xcs_c rfl (xcs_c rfl xcs_n)), (xe_0 (xe_c (by omega) (by omega) rfl (xe_c (by omega) (by omega) rfl xe_n))), (xkq_c hT3 16 1 (q := 1) rfl rfl rfl rfl rfl rfl rfl rfl rfl rfl rfl xkq_n)⟩, rfl, ?_, ?_⟩
      · show xE (zyEl zymc B H3) 16 1 = (xE (zyEl zymc B s.heap) 16 1) ∧ (xE (zyEl zymc B s.heap) 16 1) < 60 ∧ xE (zyEl zymc B H3) 17 (xE (zyEl zymc B s.heap) 16 1) = x0 0 ∧ (∀ k, 0 ≤ k → ¬ k = (xE (zyEl zymc B s.heap) 16 1) → xE (zyEl zymc B H3) 17 k = xE (zyEl zymc B s.heap) 17 k)
        rw [show (v2 2) = xE (zyEl zymc B s.heap) 16 1 by omega] at hst3 hne3
        exact ⟨by omega, by omega, hst3.trans (by omega), fun k k0 k1 => (hne3 17 k k0 (fun z => k1 z.2)).trans ((e17 k).trans (i4 k))⟩
      · show 1 < 2
        omega
    · cases hx
  · intro x0 E0 E E2 hrx hT0 hΦ i v hT hrv hInv hKc hFr0 x hx v2 hr2 hXs hag hfr hFr hT2
    rcases i with ⟨i, hi⟩
    have hi2 : i = 0 ∨ i = 1 ∨ i = 2 := by omega
    rcases hi2 with rfl | rfl | rfl
    · cases hx
    · have hx : x ∈ [zxfwa0_ar0] := hx
      have hag : ∀ k, k < 3 → v2 k = v k := hag
      have hfr : xFr [(16, 1, 1)] _ _ := hfr
      have ex := List.mem_singleton.mp hx
      subst ex
      obtain ⟨hF, hBd, hM⟩ := hXs
      have g1 : v2 1 = v 1 := hag 1 (by decide)
      have g2 : v2 2 = v 2 := hag 2 (by decide)
      have b0 : ((2147483708 : Nat) : Int) ≤ (v2 2) + 2147483648 ∧ (v2 2) + 2147483648 ≤ ((2147483708 : Nat) : Int) := xXb hBd 0 rfl
      have k0 : xE E 16 1 = v 2 := xKcf hKc 0 rfl rfl
      have f0 : 60 ≤ (v2 2) := xXf hF 0 rfl
      have m0 : xE E2 16 1 = 61 := xXm hM 0 rfl
      have e17 : ∀ i, xE E2 17 i = xE E 17 i := fun i => xFr_E hfr rfl
      have y16_1 : ((2147483648 : Nat) : Int) ≤ xE E0 16 1 + 2147483648 ∧ xE E0 16 1 + 2147483648 ≤ ((2147483709 : Nat) : Int) := xTyF hT0 16 1 1 rfl rfl rfl rfl rfl rfl
      have hI : (v 1) = x0 0 ∧ xE E 16 1 = (xE E0 16 1) ∧ (xE E0 16 1) ≤ 60 ∧ (∀ k, xE E 17 k = xE E0 17 k) := hInv
      show xΨwa0 x0 E0 E2 0
      obtain ⟨i1, i2, i3, i4⟩ := hI
      unfold xΨwa0
      exact ⟨by omega, fun h => by omega, fun k k0 k1 => (e17 k).trans (i4 k)⟩
    · have hx : x ∈ [zxfwa0_br0] := hx
      have hag : ∀ k, k < 3 → v2 k = v k := hag
      have hfr : xFr [(16, 1, 1)] _ _ := hfr
      have ex := List.mem_singleton.mp hx
      subst ex
      obtain ⟨hF, hBd, hM⟩ := hXs
      have g1 : v2 1 = v 1 := hag 1 (by decide)
      have g2 : v2 2 = v 2 := hag 2 (by decide)
      have b0 : ((2147483648 : Nat) : Int) ≤ (v2 2) + 2147483648 ∧ (v2 2) + 2147483648 ≤ ((2147483707 : Nat) : Int) := xXb hBd 0 rfl
      have k0 : xE E 16 1 = v 2 := xKcf hKc 0 rfl rfl
      have m0 : xE E2 16 1 = (v2 2 + 1) := xXm hM 0 rfl
      have e17 : ∀ i, xE E2 17 i = xE E 17 i := fun i => xFr_E hfr rfl
      have y16_1 : ((2147483648 : Nat) : Int) ≤ xE E0 16 1 + 2147483648 ∧ xE E0 16 1 + 2147483648 ≤ ((2147483709 : Nat) : Int) := xTyF hT0 16 1 1 rfl rfl rfl rfl rfl rfl
      have hI : xE E 16 1 = (xE E0 16 1) ∧ (xE E0 16 1) < 60 ∧ xE E 17 (xE E0 16 1) = x0 0 ∧ (∀ k, 0 ≤ k → ¬ k = (xE E0 16 1) → xE E 17 k = xE E0 17 k) := hInv
      show xΨwa0 x0 E0 E2 0
      obtain ⟨i1, i2, i3, i4⟩ := hI
      unfold xΨwa0
      exact ⟨by omega, fun h => (e17 _).trans i3, fun k k0 k1 => (e17 k).trans (i4 k k0 k1)⟩
end
