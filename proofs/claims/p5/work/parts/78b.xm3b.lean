/-! THE CLASS reads: takeNumber, takeSemicolon -/
/-- a number within bounds is taken -/
def xTN (T : Int → Int) (n p lo hi : Int) (E2 : zyEm) (r : Int) : Prop := xE E2 35 5 = tFr T n p ∧
  if tKd T n p = 3 then (if lo ≤ tNm T n p ∧ tNm T n p ≤ hi then r = 1 ∧ xE E2 35 6 = tNx T n p ∧ xE E2 35 8 = tNm T n p else r = 0 ∧ xE E2 35 2 = 3 ∧ xE E2 35 3 = tFr T n p)
  else r = 0 ∧ xE E2 35 2 = pMis T n p ∧ xE E2 35 3 = tFr T n p
def xΨtn (x : Nat → Int) (E E2 : zyEm) (r : Int) : Prop := xTN (xE E 36) (xE E 35 4) (xE E 35 6) (x 0) (x 1) E2 r
/-- a semicolon is taken -/
def xTS (T : Int → Int) (n p : Int) (E2 : zyEm) (r : Int) : Prop :=
  if tKd T n p = 5 then r = 1 ∧ xE E2 35 6 = tNx T n p else r = 0 ∧ xE E2 35 2 = pMis T n p ∧ xE E2 35 3 = tFr T n p
def xΨts (_ : Nat → Int) (E E2 : zyEm) (r : Int) : Prop := xTS (xE E 36) (xE E 35 4) (xE E 35 6) E2 r

def xΨftnS (x : Nat → Int) (E E2 : zyEm) (r : Int) : Prop := xΨtn x E E2 r ∧ (¬ r = 0 → (xE E2 35 2 = xE E 35 2 ∧ xE E2 35 3 = xE E 35 3))
noncomputable def fpftn : zyR := [(35, 2, 3), (35, 5, 8)]
theorem zyftn_run : zyrS zymc zxi69 (69, 0, 0, 2, 0) 3 zpftn (fun _ _ => []) zFftn zSftn zXftn zRftn 2 = true := by decide +kernel
theorem zyftn_ck : zyAll (fun i => xsubR (zFftn i) fpftn && ((zXftn i).all xckX && (zRftn i).all (fun x => xckX x && xrtB true x))) 2 = true := by decide +kernel
def xIftn (i : Nat) (x0 : Nat → Int) (E0 : zyEm) (v : Nat → Int) (E : zyEm) : Prop := if i = 0 then ((E = E0 ∧ (v 1) = x0 0 ∧ (v 2) = x0 1) ∧ (xE E 35 2 = xE E0 35 2 ∧ xE E 35 3 = xE E0 35 3)) else (((v 1) = x0 0 ∧ (v 2) = x0 1 ∧ xE E 35 6 = tNx (xE E0 36) (xE E0 35 4) (xE E0 35 6) ∧ xE E 35 5 = tFr (xE E0 36) (xE E0 35 4) (xE E0 35 6) ∧ xE E 35 7 = tKd (xE E0 36) (xE E0 35 4) (xE E0 35 6) ∧ (tKd (xE E0 36) (xE E0 35 4) (xE E0 35 6) = 3 → xE E 35 8 = tNm (xE E0 36) (xE E0 35 4) (xE E0 35 6))) ∧ (xE E 35 2 = xE E0 35 2 ∧ xE E 35 3 = xE E0 35 3))
def xMftn (i : Nat) (x0 : Nat → Int) (E0 : zyEm) (v : Nat → Int) (E : zyEm) : Nat := if i = 0 then (1) else (0)
theorem xTn {l : Launch} {en : zEn} {me : zMe} (hen : zG zxMeta 69 = some en) (hme : zG zMeth 69 = some me) : xFc l zymc en me 3 [35] 2 fpftn true xΦad xΨftnS := by
  have een : zG zxMeta 69 = some (zxi69, 3, 3, 5, 69, 0, 0, 2, 0) := rfl
  obtain ⟨me1, hme1, hOK⟩ := zall hen
  rw [hme] at hme1
  cases hme1
  rw [een] at hen
  cases hen
  have hr := zyftn_run
  have hck := fun i hi => zyAll_iff zyftn_ck i hi
  simp only [Bool.and_eq_true] at hck
  obtain ⟨mefad, hmefad, -⟩ := zall (show zG zxMeta 73 = some (zxi73, 1, 1, 5, 73, 0, 0, 0, 0) from rfl)
  have hfad := xAd (l := l) (show zG zxMeta 73 = some (zxi73, 1, 1, 5, 73, 0, 0, 0, 0) from rfl) hmefad
  intro B
  refine xcut (mi := zymc) (B := B) hOK rfl rfl (ι := Fin 2) (fun i => zpftn i.val) (fun _ _ => []) (fun i => zFftn i.val) (fun i => zSftn i.val) (fun i => zXftn i.val) (fun i => zRftn i.val) (fun i y2 ct en2 me2 h => by cases h) 200000 (fun i => zyAll_iff hr i.val i.isLt) (fun i => (hck i.val i.isLt).1) (fun i => (hck i.val i.isLt).2.1) (fun i => (hck i.val i.isLt).2.2) ⟨0, by decide⟩ ⟨rfl, rfl, rfl, rfl⟩ ⟨by decide, by decide⟩ (fun i x0 E0 v E => xIftn i.val x0 E0 v E) (fun i x0 E0 v E => xMftn i.val x0 E0 v E) ?_ ?_ ?_
  · intro x0 E hx0 hT hΦ
    have hΦ : xΦad x0 E := hΦ
    refine ⟨fun k p hp => ?_, ?_⟩
    · have hk : k < 3 := (List.getElem?_eq_some_iff.mp hp).1
      have hk : k = 0 ∨ k = 1 ∨ k = 2 := by omega
      rcases hk with rfl | rfl | rfl
      · have hp : some (0, 4294967295) = some p := hp
        cases hp
        show ((0 : Nat) : Int) ≤ 0 + 2147483648 ∧ 0 + 2147483648 ≤ ((4294967295 : Nat) : Int)
        omega
      · have hp : some (0, 4294967295) = some p := hp
        cases hp
        show ((0 : Nat) : Int) ≤ x0 0 + 2147483648 ∧ x0 0 + 2147483648 ≤ ((4294967295 : Nat) : Int)
        have hx := hx0 0
        omega
      · have hp : some (0, 4294967295) = some p := hp
        cases hp
        show ((0 : Nat) : Int) ≤ x0 1 + 2147483648 ∧ x0 1 + 2147483648 ≤ ((4294967295 : Nat) : Int)
        have hx := hx0 1
        omega
    · show (E = E ∧ (x0 0) = x0 0 ∧ (x0 1) = x0 1) ∧ (xE E 35 2 = xE E 35 2 ∧ xE E 35 3 = xE E 35 3)
      refine ⟨?_, ⟨rfl, rfl⟩⟩
      exact ⟨rfl, rfl, rfl⟩
  · intro x0 s Wg hRu hrx hT0 hΦ i v H hT hrv hInv hKc hFr0 hIH x hx ρ2 v2 N2 H2 locs lsB stA hAt hB hv hr2 hXs hag hfr hFr hT2
    rcases i with ⟨i, hi⟩
    have hi2 : i = 0 ∨ i = 1 := by omega
    rcases hi2 with rfl | rfl
    · have hx : x ∈ [zxftn_ax0] := hx
      have hag : ∀ k, k < 3 → v2 k = v k := hag
      have hfr : xFr [] _ _ := hfr
      have ex := List.mem_singleton.mp hx
      subst ex
      obtain ⟨hF, hBd, hM⟩ := hXs
      have r1 := hr2 1
      have r2 := hr2 2
      have g1 : v2 1 = v 1 := hag 1 (by decide)
      have g2 : v2 2 = v 2 := hag 2 (by decide)
      have e35_4 : xE (zyEl zymc B H2) 35 4 = xE (zyEl zymc B H) 35 4 := xFr_E hfr rfl
      have q35_4 : xE (zyEl zymc B H) 35 4 = xE (zyEl zymc B s.heap) 35 4 := xFr_E hFr0 rfl
      have e35_5 : xE (zyEl zymc B H2) 35 5 = xE (zyEl zymc B H) 35 5 := xFr_E hfr rfl
      have e35_6 : xE (zyEl zymc B H2) 35 6 = xE (zyEl zymc B H) 35 6 := xFr_E hfr rfl
      have e35_7 : xE (zyEl zymc B H2) 35 7 = xE (zyEl zymc B H) 35 7 := xFr_E hfr rfl
      have e35_8 : xE (zyEl zymc B H2) 35 8 = xE (zyEl zymc B H) 35 8 := xFr_E hfr rfl
      have e35_2 : xE (zyEl zymc B H2) 35 2 = xE (zyEl zymc B H) 35 2 := xFr_E hfr rfl
      have e35_3 : xE (zyEl zymc B H2) 35 3 = xE (zyEl zymc B H) 35 3 := xFr_E hfr rfl
      have e36 : ∀ i, xE (zyEl zymc B H2) 36 i = xE (zyEl zymc B H) 36 i := fun i => xFr_E hfr rfl
      have q36 : ∀ i, xE (zyEl zymc B H) 36 i = xE (zyEl zymc B s.heap) 36 i := fun i => xFr_E hFr0 rfl
      have hI : ((zyEl zymc B H) = (zyEl zymc B s.heap) ∧ (v 1) = x0 0 ∧ (v 2) = x0 1) ∧ (xE (zyEl zymc B H) 35 2 = xE (zyEl zymc B s.heap) 35 2 ∧ xE (zyEl zymc B H) 35 3 = xE (zyEl zymc B s.heap) 35 3) := hInv
      obtain ⟨hI, hSm⟩ := hI
      have q35_5 : xE (zyEl zymc B H) 35 5 = xE (zyEl zymc B s.heap) 35 5 := by rw [hI.1]
      have q35_6 : xE (zyEl zymc B H) 35 6 = xE (zyEl zymc B s.heap) 35 6 := by rw [hI.1]
      have q35_7 : xE (zyEl zymc B H) 35 7 = xE (zyEl zymc B s.heap) 35 7 := by rw [hI.1]
      have q35_8 : xE (zyEl zymc B H) 35 8 = xE (zyEl zymc B s.heap) 35 8 := by rw [hI.1]
      have q35_2 : xE (zyEl zymc B H) 35 2 = xE (zyEl zymc B s.heap) 35 2 := by rw [hI.1]
      have q35_3 : xE (zyEl zymc B H) 35 3 = xE (zyEl zymc B s.heap) 35 3 := by rw [hI.1]
      refine xCa hRu hIH hAt hB hv hFr (hfad B) (ix := 35) (ax := 1168) rfl rfl rfl hmefad ⟨_, rfl, rfl, by decide⟩ ⟨rfl, rfl, rfl⟩ (by decide) [] [] [] rfl ⟨rfl, rfl⟩ (by decide +kernel) xcs_n (by decide +kernel) ?_ (fun H3 r hT3 hf3 hFr3 hr3 hΨ3 => ?_)
      · show xΦad (xfv []) (zyEl zymc B H2)
        unfold xΦad
        have hP : xE (zyEl zymc B s.heap) 35 6 ≤ xE (zyEl zymc B s.heap) 35 4 := hΦ
        omega
      · have hΨ3 : xΨad (xfv []) (zyEl zymc B H2) (zyEl zymc B H3) r := hΨ3
        have d35_4 : xE (zyEl zymc B H3) 35 4 = xE (zyEl zymc B H2) 35 4 := xFr_E hf3 rfl
        have d35_2 : xE (zyEl zymc B H3) 35 2 = xE (zyEl zymc B H2) 35 2 := xFr_E hf3 rfl
        have d35_3 : xE (zyEl zymc B H3) 35 3 = xE (zyEl zymc B H2) 35 3 := xFr_E hf3 rfl
        have d36 : ∀ i, xE (zyEl zymc B H3) 36 i = xE (zyEl zymc B H2) 36 i := fun i => xFr_E hf3 rfl
        have z35_2 : ((2147483647 : Nat) : Int) ≤ xE (zyEl zymc B H3) 35 2 + 2147483648 ∧ xE (zyEl zymc B H3) 35 2 + 2147483648 ≤ ((2147483654 : Nat) : Int) := xTyF hT3 35 2 2 rfl rfl rfl rfl rfl rfl
        have z35_3 : ((2147483647 : Nat) : Int) ≤ xE (zyEl zymc B H3) 35 3 + 2147483648 ∧ xE (zyEl zymc B H3) 35 3 + 2147483648 ≤ ((2147484548 : Nat) : Int) := xTyF hT3 35 3 3 rfl rfl rfl rfl rfl rfl
        unfold xΨad xAD at hΨ3
        rw [show xE (zyEl zymc B H2) 36 = xE (zyEl zymc B s.heap) 36 from funext fun i => (e36 i).trans (q36 i), show xE (zyEl zymc B H2) 35 4 = xE (zyEl zymc B s.heap) 35 4 by omega, show xE (zyEl zymc B H2) 35 6 = xE (zyEl zymc B s.heap) 35 6 by omega] at hΨ3
        refine ⟨⟨1, by decide⟩, [0, 34359738369, 68719476737], [0, (v2 1), (v2 2), xE (zyEl zymc B H3) 35 2, xE (zyEl zymc B H3) 35 3], rfl, ⟨by decide +kernel, ⟨rfl, by decide +kernel⟩, (xcs_c rfl (xcs_c rfl (xcs_c rfl xcs_n))), (xe_0 (xe_f (by omega) (xe_f (by omega) (xe_c (by omega) (by omega) rfl (xe_c (by omega) (by omega) rfl xe_n))))), (xkq_c hT3 35 2 (q := 2) rfl rfl rfl rfl rfl rfl rfl rfl rfl rfl rfl (xkq_c hT3 35 3 (q := 3) rfl rfl rfl rfl rfl rfl rfl rfl rfl rfl rfl xkq_n))⟩, (by rw [if_neg (by decide)]; exact xst_n), ?_, ?_⟩
        · show (((v2 1) : Int) = x0 0 ∧ ((v2 2) : Int) = x0 1 ∧ xE (zyEl zymc B H3) 35 6 = tNx (xE (zyEl zymc B s.heap) 36) (xE (zyEl zymc B s.heap) 35 4) (xE (zyEl zymc B s.heap) 35 6) ∧ xE (zyEl zymc B H3) 35 5 = tFr (xE (zyEl zymc B s.heap) 36) (xE (zyEl zymc B s.heap) 35 4) (xE (zyEl zymc B s.heap) 35 6) ∧ xE (zyEl zymc B H3) 35 7 = tKd (xE (zyEl zymc B s.heap) 36) (xE (zyEl zymc B s.heap) 35 4) (xE (zyEl zymc B s.heap) 35 6) ∧ (tKd (xE (zyEl zymc B s.heap) 36) (xE (zyEl zymc B s.heap) 35 4) (xE (zyEl zymc B s.heap) 35 6) = 3 → xE (zyEl zymc B H3) 35 8 = tNm (xE (zyEl zymc B s.heap) 36) (xE (zyEl zymc B s.heap) 35 4) (xE (zyEl zymc B s.heap) 35 6))) ∧ (xE (zyEl zymc B H3) 35 2 = xE (zyEl zymc B s.heap) 35 2 ∧ xE (zyEl zymc B H3) 35 3 = xE (zyEl zymc B s.heap) 35 3)
          refine ⟨?_, ?_⟩
          · skip
            exact ⟨by omega, by omega, hΨ3⟩
          · omega
        · show 0 < 1
          omega
    · cases hx
  · intro x0 E0 E E2 hrx hT0 hΦ i v hT hrv hInv hKc hFr0 x hx v2 hr2 hXs hag hfr hFr hT2
    rcases i with ⟨i, hi⟩
    have hi2 : i = 0 ∨ i = 1 := by omega
    rcases hi2 with rfl | rfl
    · cases hx
    · have hx : x ∈ [zxftn_br0, zxftn_br1, zxftn_br2, zxftn_br3, zxftn_br4, zxftn_br5, zxftn_br6] := hx
      have hag : ∀ k, k < 5 → v2 k = v k := hag
      have hfr : xFr [(35, 2, 3)] _ _ := hfr
      rcases List.mem_cons.mp hx with ex | hx
      · subst ex
        obtain ⟨hF, hBd, hM⟩ := hXs
        have g1 : v2 1 = v 1 := hag 1 (by decide)
        have g2 : v2 2 = v 2 := hag 2 (by decide)
        have g3 : v2 3 = v 3 := hag 3 (by decide)
        have g4 : v2 4 = v 4 := hag 4 (by decide)
        have b0 : ((2147483652 : Nat) : Int) ≤ (v2 5) + 2147483648 ∧ (v2 5) + 2147483648 ≤ ((2147483653 : Nat) : Int) := xXb hBd 0 rfl
        have b1 : ((2147483648 : Nat) : Int) ≤ (v2 6) + 2147483648 ∧ (v2 6) + 2147483648 ≤ ((2147484548 : Nat) : Int) := xXb hBd 1 rfl
        have k0 : xE E 35 2 = v 3 := xKcf hKc 0 rfl rfl
        have k1 : xE E 35 3 = v 4 := xKcf hKc 1 rfl rfl
        have f0 : (0 : Int) ≤ 7 ∧ xE E 35 7 = (v2 5) := xXf hF 0 rfl
        have f1 : ¬ (v2 5) = 3 := xXf hF 1 rfl
        have f2 : ¬ (v2 5) = 1 := xXf hF 2 rfl
        have f3 : (0 : Int) ≤ 5 ∧ xE E 35 5 = (v2 6) := xXf hF 3 rfl
        have m0 : xE E2 35 2 = 2 := xXm hM 0 rfl
        have m1 : xE E2 35 3 = (v2 6) := xXm hM 1 rfl
        have e35_4 : xE E2 35 4 = xE E 35 4 := xFr_E hfr rfl
        have q35_4 : xE E 35 4 = xE E0 35 4 := xFr_E hFr0 rfl
        have e35_5 : xE E2 35 5 = xE E 35 5 := xFr_E hfr rfl
        have e35_6 : xE E2 35 6 = xE E 35 6 := xFr_E hfr rfl
        have e35_7 : xE E2 35 7 = xE E 35 7 := xFr_E hfr rfl
        have e35_8 : xE E2 35 8 = xE E 35 8 := xFr_E hfr rfl
        have e36 : ∀ i, xE E2 36 i = xE E 36 i := fun i => xFr_E hfr rfl
        have q36 : ∀ i, xE E 36 i = xE E0 36 i := fun i => xFr_E hFr0 rfl
        have hI : ((v 1) = x0 0 ∧ (v 2) = x0 1 ∧ xE E 35 6 = tNx (xE E0 36) (xE E0 35 4) (xE E0 35 6) ∧ xE E 35 5 = tFr (xE E0 36) (xE E0 35 4) (xE E0 35 6) ∧ xE E 35 7 = tKd (xE E0 36) (xE E0 35 4) (xE E0 35 6) ∧ (tKd (xE E0 36) (xE E0 35 4) (xE E0 35 6) = 3 → xE E 35 8 = tNm (xE E0 36) (xE E0 35 4) (xE E0 35 6))) ∧ (xE E 35 2 = xE E0 35 2 ∧ xE E 35 3 = xE E0 35 3) := hInv
        obtain ⟨hI, hSm⟩ := hI
        show xΨftnS x0 E0 E2 0
        refine ⟨?_, ?_⟩
        · show xΨtn x0 E0 E2 0
          obtain ⟨i1, i2, i3, i4, i5, i6⟩ := hI
          have hm : pMis (xE E0 36) (xE E0 35 4) (xE E0 35 6) = if tKd (xE E0 36) (xE E0 35 4) (xE E0 35 6) = 1 then 1 else 2 := rfl
          unfold xΨtn xTN
          refine ⟨by omega, ?_⟩
          split
          · rename_i hk
            have i6 := i6 hk
            split <;> omega
          · rename_i hk
            by_cases h1 : tKd (xE E0 36) (xE E0 35 4) (xE E0 35 6) = 1
            · rw [if_pos h1] at hm
              omega
            · rw [if_neg h1] at hm
              omega
        · show (¬ (0) = 0 → (xE E2 35 2 = xE E0 35 2 ∧ xE E2 35 3 = xE E0 35 3))
          omega
      · skip
        rcases List.mem_cons.mp hx with ex | hx
        · subst ex
          obtain ⟨hF, hBd, hM⟩ := hXs
          have g1 : v2 1 = v 1 := hag 1 (by decide)
          have g2 : v2 2 = v 2 := hag 2 (by decide)
          have g3 : v2 3 = v 3 := hag 3 (by decide)
          have g4 : v2 4 = v 4 := hag 4 (by decide)
          have b0 : ((2147483650 : Nat) : Int) ≤ (v2 5) + 2147483648 ∧ (v2 5) + 2147483648 ≤ ((2147483650 : Nat) : Int) := xXb hBd 0 rfl
          have b1 : ((2147483648 : Nat) : Int) ≤ (v2 6) + 2147483648 ∧ (v2 6) + 2147483648 ≤ ((2147484548 : Nat) : Int) := xXb hBd 1 rfl
          have k0 : xE E 35 2 = v 3 := xKcf hKc 0 rfl rfl
          have k1 : xE E 35 3 = v 4 := xKcf hKc 1 rfl rfl
          have f0 : (0 : Int) ≤ 7 ∧ xE E 35 7 = (v2 5) := xXf hF 0 rfl
          have f1 : ¬ (v2 5) = 3 := xXf hF 1 rfl
          have f2 : ¬ (v2 5) = 1 := xXf hF 2 rfl
          have f3 : (0 : Int) ≤ 5 ∧ xE E 35 5 = (v2 6) := xXf hF 3 rfl
          have m0 : xE E2 35 2 = 2 := xXm hM 0 rfl
          have m1 : xE E2 35 3 = (v2 6) := xXm hM 1 rfl
          have e35_4 : xE E2 35 4 = xE E 35 4 := xFr_E hfr rfl
          have q35_4 : xE E 35 4 = xE E0 35 4 := xFr_E hFr0 rfl
          have e35_5 : xE E2 35 5 = xE E 35 5 := xFr_E hfr rfl
          have e35_6 : xE E2 35 6 = xE E 35 6 := xFr_E hfr rfl
          have e35_7 : xE E2 35 7 = xE E 35 7 := xFr_E hfr rfl
          have e35_8 : xE E2 35 8 = xE E 35 8 := xFr_E hfr rfl
          have e36 : ∀ i, xE E2 36 i = xE E 36 i := fun i => xFr_E hfr rfl
          have q36 : ∀ i, xE E 36 i = xE E0 36 i := fun i => xFr_E hFr0 rfl
          have hI : ((v 1) = x0 0 ∧ (v 2) = x0 1 ∧ xE E 35 6 = tNx (xE E0 36) (xE E0 35 4) (xE E0 35 6) ∧ xE E 35 5 = tFr (xE E0 36) (xE E0 35 4) (xE E0 35 6) ∧ xE E 35 7 = tKd (xE E0 36) (xE E0 35 4) (xE E0 35 6) ∧ (tKd (xE E0 36) (xE E0 35 4) (xE E0 35 6) = 3 → xE E 35 8 = tNm (xE E0 36) (xE E0 35 4) (xE E0 35 6))) ∧ (xE E 35 2 = xE E0 35 2 ∧ xE E 35 3 = xE E0 35 3) := hInv
          obtain ⟨hI, hSm⟩ := hI
          show xΨftnS x0 E0 E2 0
          refine ⟨?_, ?_⟩
          · show xΨtn x0 E0 E2 0
            obtain ⟨i1, i2, i3, i4, i5, i6⟩ := hI
            have hm : pMis (xE E0 36) (xE E0 35 4) (xE E0 35 6) = if tKd (xE E0 36) (xE E0 35 4) (xE E0 35 6) = 1 then 1 else 2 := rfl
            unfold xΨtn xTN
            refine ⟨by omega, ?_⟩
            split
            · rename_i hk
              have i6 := i6 hk
              split <;> omega
            · rename_i hk
              by_cases h1 : tKd (xE E0 36) (xE E0 35 4) (xE E0 35 6) = 1
              · rw [if_pos h1] at hm
                omega
              · rw [if_neg h1] at hm
                omega
          · show (¬ (0) = 0 → (xE E2 35 2 = xE E0 35 2 ∧ xE E2 35 3 = xE E0 35 3))
            omega
        · skip
          rcases List.mem_cons.mp hx with ex | hx
          · subst ex
            obtain ⟨hF, hBd, hM⟩ := hXs
            have g1 : v2 1 = v 1 := hag 1 (by decide)
            have g2 : v2 2 = v 2 := hag 2 (by decide)
            have g3 : v2 3 = v 3 := hag 3 (by decide)
            have g4 : v2 4 = v 4 := hag 4 (by decide)
            have b0 : ((2147483648 : Nat) : Int) ≤ (v2 5) + 2147483648 ∧ (v2 5) + 2147483648 ≤ ((2147483648 : Nat) : Int) := xXb hBd 0 rfl
            have b1 : ((2147483648 : Nat) : Int) ≤ (v2 6) + 2147483648 ∧ (v2 6) + 2147483648 ≤ ((2147484548 : Nat) : Int) := xXb hBd 1 rfl
            have k0 : xE E 35 2 = v 3 := xKcf hKc 0 rfl rfl
            have k1 : xE E 35 3 = v 4 := xKcf hKc 1 rfl rfl
            have f0 : (0 : Int) ≤ 7 ∧ xE E 35 7 = (v2 5) := xXf hF 0 rfl
            have f1 : ¬ (v2 5) = 3 := xXf hF 1 rfl
            have f2 : ¬ (v2 5) = 1 := xXf hF 2 rfl
            have f3 : (0 : Int) ≤ 5 ∧ xE E 35 5 = (v2 6) := xXf hF 3 rfl
            have m0 : xE E2 35 2 = 2 := xXm hM 0 rfl
            have m1 : xE E2 35 3 = (v2 6) := xXm hM 1 rfl
            have e35_4 : xE E2 35 4 = xE E 35 4 := xFr_E hfr rfl
            have q35_4 : xE E 35 4 = xE E0 35 4 := xFr_E hFr0 rfl
            have e35_5 : xE E2 35 5 = xE E 35 5 := xFr_E hfr rfl
            have e35_6 : xE E2 35 6 = xE E 35 6 := xFr_E hfr rfl
            have e35_7 : xE E2 35 7 = xE E 35 7 := xFr_E hfr rfl
            have e35_8 : xE E2 35 8 = xE E 35 8 := xFr_E hfr rfl
            have e36 : ∀ i, xE E2 36 i = xE E 36 i := fun i => xFr_E hfr rfl
            have q36 : ∀ i, xE E 36 i = xE E0 36 i := fun i => xFr_E hFr0 rfl
            have hI : ((v 1) = x0 0 ∧ (v 2) = x0 1 ∧ xE E 35 6 = tNx (xE E0 36) (xE E0 35 4) (xE E0 35 6) ∧ xE E 35 5 = tFr (xE E0 36) (xE E0 35 4) (xE E0 35 6) ∧ xE E 35 7 = tKd (xE E0 36) (xE E0 35 4) (xE E0 35 6) ∧ (tKd (xE E0 36) (xE E0 35 4) (xE E0 35 6) = 3 → xE E 35 8 = tNm (xE E0 36) (xE E0 35 4) (xE E0 35 6))) ∧ (xE E 35 2 = xE E0 35 2 ∧ xE E 35 3 = xE E0 35 3) := hInv
            obtain ⟨hI, hSm⟩ := hI
            show xΨftnS x0 E0 E2 0
            refine ⟨?_, ?_⟩
            · show xΨtn x0 E0 E2 0
              obtain ⟨i1, i2, i3, i4, i5, i6⟩ := hI
              have hm : pMis (xE E0 36) (xE E0 35 4) (xE E0 35 6) = if tKd (xE E0 36) (xE E0 35 4) (xE E0 35 6) = 1 then 1 else 2 := rfl
              unfold xΨtn xTN
              refine ⟨by omega, ?_⟩
              split
              · rename_i hk
                have i6 := i6 hk
                split <;> omega
              · rename_i hk
                by_cases h1 : tKd (xE E0 36) (xE E0 35 4) (xE E0 35 6) = 1
                · rw [if_pos h1] at hm
                  omega
                · rw [if_neg h1] at hm
                  omega
            · show (¬ (0) = 0 → (xE E2 35 2 = xE E0 35 2 ∧ xE E2 35 3 = xE E0 35 3))
              omega
          · skip
            rcases List.mem_cons.mp hx with ex | hx
            · subst ex
              obtain ⟨hF, hBd, hM⟩ := hXs
              have g1 : v2 1 = v 1 := hag 1 (by decide)
              have g2 : v2 2 = v 2 := hag 2 (by decide)
              have g3 : v2 3 = v 3 := hag 3 (by decide)
              have g4 : v2 4 = v 4 := hag 4 (by decide)
              have b0 : ((2147483649 : Nat) : Int) ≤ (v2 5) + 2147483648 ∧ (v2 5) + 2147483648 ≤ ((2147483649 : Nat) : Int) := xXb hBd 0 rfl
              have b1 : ((2147483648 : Nat) : Int) ≤ (v2 6) + 2147483648 ∧ (v2 6) + 2147483648 ≤ ((2147484548 : Nat) : Int) := xXb hBd 1 rfl
              have k0 : xE E 35 2 = v 3 := xKcf hKc 0 rfl rfl
              have k1 : xE E 35 3 = v 4 := xKcf hKc 1 rfl rfl
              have f0 : (0 : Int) ≤ 7 ∧ xE E 35 7 = (v2 5) := xXf hF 0 rfl
              have f1 : ¬ (v2 5) = 3 := xXf hF 1 rfl
              have f2 : (v2 5) = 1 := xXf hF 2 rfl
              have f3 : (0 : Int) ≤ 5 ∧ xE E 35 5 = (v2 6) := xXf hF 3 rfl
              have m0 : xE E2 35 2 = 1 := xXm hM 0 rfl
              have m1 : xE E2 35 3 = (v2 6) := xXm hM 1 rfl
              have e35_4 : xE E2 35 4 = xE E 35 4 := xFr_E hfr rfl
              have q35_4 : xE E 35 4 = xE E0 35 4 := xFr_E hFr0 rfl
              have e35_5 : xE E2 35 5 = xE E 35 5 := xFr_E hfr rfl
              have e35_6 : xE E2 35 6 = xE E 35 6 := xFr_E hfr rfl
              have e35_7 : xE E2 35 7 = xE E 35 7 := xFr_E hfr rfl
              have e35_8 : xE E2 35 8 = xE E 35 8 := xFr_E hfr rfl
              have e36 : ∀ i, xE E2 36 i = xE E 36 i := fun i => xFr_E hfr rfl
              have q36 : ∀ i, xE E 36 i = xE E0 36 i := fun i => xFr_E hFr0 rfl
              have hI : ((v 1) = x0 0 ∧ (v 2) = x0 1 ∧ xE E 35 6 = tNx (xE E0 36) (xE E0 35 4) (xE E0 35 6) ∧ xE E 35 5 = tFr (xE E0 36) (xE E0 35 4) (xE E0 35 6) ∧ xE E 35 7 = tKd (xE E0 36) (xE E0 35 4) (xE E0 35 6) ∧ (tKd (xE E0 36) (xE E0 35 4) (xE E0 35 6) = 3 → xE E 35 8 = tNm (xE E0 36) (xE E0 35 4) (xE E0 35 6))) ∧ (xE E 35 2 = xE E0 35 2 ∧ xE E 35 3 = xE E0 35 3) := hInv
              obtain ⟨hI, hSm⟩ := hI
              show xΨftnS x0 E0 E2 0
              refine ⟨?_, ?_⟩
              · show xΨtn x0 E0 E2 0
                obtain ⟨i1, i2, i3, i4, i5, i6⟩ := hI
                have hm : pMis (xE E0 36) (xE E0 35 4) (xE E0 35 6) = if tKd (xE E0 36) (xE E0 35 4) (xE E0 35 6) = 1 then 1 else 2 := rfl
                unfold xΨtn xTN
                refine ⟨by omega, ?_⟩
                split
                · rename_i hk
                  have i6 := i6 hk
                  split <;> omega
                · rename_i hk
                  by_cases h1 : tKd (xE E0 36) (xE E0 35 4) (xE E0 35 6) = 1
                  · rw [if_pos h1] at hm
                    omega
                  · rw [if_neg h1] at hm
                    omega
              · show (¬ (0) = 0 → (xE E2 35 2 = xE E0 35 2 ∧ xE E2 35 3 = xE E0 35 3))
                omega
            · skip
              rcases List.mem_cons.mp hx with ex | hx
              · subst ex
                obtain ⟨hF, hBd, hM⟩ := hXs
                have g1 : v2 1 = v 1 := hag 1 (by decide)
                have g2 : v2 2 = v 2 := hag 2 (by decide)
                have g3 : v2 3 = v 3 := hag 3 (by decide)
                have g4 : v2 4 = v 4 := hag 4 (by decide)
                have b0 : ((1 : Nat) : Int) ≤ (v2 1) + 2147483648 ∧ (v2 1) + 2147483648 ≤ ((4294967295 : Nat) : Int) := xXb hBd 0 rfl
                have b1 : ((2147483651 : Nat) : Int) ≤ (v2 5) + 2147483648 ∧ (v2 5) + 2147483648 ≤ ((2147483651 : Nat) : Int) := xXb hBd 1 rfl
                have b2 : ((0 : Nat) : Int) ≤ (v2 6) + 2147483648 ∧ (v2 6) + 2147483648 ≤ ((4294967294 : Nat) : Int) := xXb hBd 2 rfl
                have b3 : ((2147483648 : Nat) : Int) ≤ (v2 7) + 2147483648 ∧ (v2 7) + 2147483648 ≤ ((2147484548 : Nat) : Int) := xXb hBd 3 rfl
                have k0 : xE E 35 2 = v 3 := xKcf hKc 0 rfl rfl
                have k1 : xE E 35 3 = v 4 := xKcf hKc 1 rfl rfl
                have f0 : (0 : Int) ≤ 7 ∧ xE E 35 7 = (v2 5) := xXf hF 0 rfl
                have f1 : (v2 5) = 3 := xXf hF 1 rfl
                have f2 : (0 : Int) ≤ 8 ∧ xE E 35 8 = (v2 6) := xXf hF 2 rfl
                have f3 : (v2 6) < (v2 1) := xXf hF 3 rfl
                have f4 : (0 : Int) ≤ 5 ∧ xE E 35 5 = (v2 7) := xXf hF 4 rfl
                have m0 : xE E2 35 2 = 3 := xXm hM 0 rfl
                have m1 : xE E2 35 3 = (v2 7) := xXm hM 1 rfl
                have e35_4 : xE E2 35 4 = xE E 35 4 := xFr_E hfr rfl
                have q35_4 : xE E 35 4 = xE E0 35 4 := xFr_E hFr0 rfl
                have e35_5 : xE E2 35 5 = xE E 35 5 := xFr_E hfr rfl
                have e35_6 : xE E2 35 6 = xE E 35 6 := xFr_E hfr rfl
                have e35_7 : xE E2 35 7 = xE E 35 7 := xFr_E hfr rfl
                have e35_8 : xE E2 35 8 = xE E 35 8 := xFr_E hfr rfl
                have e36 : ∀ i, xE E2 36 i = xE E 36 i := fun i => xFr_E hfr rfl
                have q36 : ∀ i, xE E 36 i = xE E0 36 i := fun i => xFr_E hFr0 rfl
                have hI : ((v 1) = x0 0 ∧ (v 2) = x0 1 ∧ xE E 35 6 = tNx (xE E0 36) (xE E0 35 4) (xE E0 35 6) ∧ xE E 35 5 = tFr (xE E0 36) (xE E0 35 4) (xE E0 35 6) ∧ xE E 35 7 = tKd (xE E0 36) (xE E0 35 4) (xE E0 35 6) ∧ (tKd (xE E0 36) (xE E0 35 4) (xE E0 35 6) = 3 → xE E 35 8 = tNm (xE E0 36) (xE E0 35 4) (xE E0 35 6))) ∧ (xE E 35 2 = xE E0 35 2 ∧ xE E 35 3 = xE E0 35 3) := hInv
                obtain ⟨hI, hSm⟩ := hI
                show xΨftnS x0 E0 E2 0
                refine ⟨?_, ?_⟩
                · show xΨtn x0 E0 E2 0
                  obtain ⟨i1, i2, i3, i4, i5, i6⟩ := hI
                  have hm : pMis (xE E0 36) (xE E0 35 4) (xE E0 35 6) = if tKd (xE E0 36) (xE E0 35 4) (xE E0 35 6) = 1 then 1 else 2 := rfl
                  unfold xΨtn xTN
                  refine ⟨by omega, ?_⟩
                  split
                  · rename_i hk
                    have i6 := i6 hk
                    split <;> omega
                  · rename_i hk
                    by_cases h1 : tKd (xE E0 36) (xE E0 35 4) (xE E0 35 6) = 1
                    · rw [if_pos h1] at hm
                      omega
                    · rw [if_neg h1] at hm
                      omega
                · show (¬ (0) = 0 → (xE E2 35 2 = xE E0 35 2 ∧ xE E2 35 3 = xE E0 35 3))
                  omega
              · skip
                rcases List.mem_cons.mp hx with ex | hx
                · subst ex
                  obtain ⟨hF, hBd, hM⟩ := hXs
                  have r1 := hr2 1
                  have g1 : v2 1 = v 1 := hag 1 (by decide)
                  have g2 : v2 2 = v 2 := hag 2 (by decide)
                  have g3 : v2 3 = v 3 := hag 3 (by decide)
                  have g4 : v2 4 = v 4 := hag 4 (by decide)
                  have b0 : ((0 : Nat) : Int) ≤ (v2 2) + 2147483648 ∧ (v2 2) + 2147483648 ≤ ((4294967294 : Nat) : Int) := xXb hBd 0 rfl
                  have b1 : ((2147483651 : Nat) : Int) ≤ (v2 5) + 2147483648 ∧ (v2 5) + 2147483648 ≤ ((2147483651 : Nat) : Int) := xXb hBd 1 rfl
                  have b2 : ((1 : Nat) : Int) ≤ (v2 6) + 2147483648 ∧ (v2 6) + 2147483648 ≤ ((4294967295 : Nat) : Int) := xXb hBd 2 rfl
                  have b3 : ((2147483648 : Nat) : Int) ≤ (v2 7) + 2147483648 ∧ (v2 7) + 2147483648 ≤ ((2147484548 : Nat) : Int) := xXb hBd 3 rfl
                  have k0 : xE E 35 2 = v 3 := xKcf hKc 0 rfl rfl
                  have k1 : xE E 35 3 = v 4 := xKcf hKc 1 rfl rfl
                  have f0 : (0 : Int) ≤ 7 ∧ xE E 35 7 = (v2 5) := xXf hF 0 rfl
                  have f1 : (v2 5) = 3 := xXf hF 1 rfl
                  have f2 : (0 : Int) ≤ 8 ∧ xE E 35 8 = (v2 6) := xXf hF 2 rfl
                  have f3 : (v2 1) ≤ (v2 6) := xXf hF 3 rfl
                  have f4 : (v2 2) < (v2 6) := xXf hF 4 rfl
                  have f5 : (0 : Int) ≤ 5 ∧ xE E 35 5 = (v2 7) := xXf hF 5 rfl
                  have m0 : xE E2 35 2 = 3 := xXm hM 0 rfl
                  have m1 : xE E2 35 3 = (v2 7) := xXm hM 1 rfl
                  have e35_4 : xE E2 35 4 = xE E 35 4 := xFr_E hfr rfl
                  have q35_4 : xE E 35 4 = xE E0 35 4 := xFr_E hFr0 rfl
                  have e35_5 : xE E2 35 5 = xE E 35 5 := xFr_E hfr rfl
                  have e35_6 : xE E2 35 6 = xE E 35 6 := xFr_E hfr rfl
                  have e35_7 : xE E2 35 7 = xE E 35 7 := xFr_E hfr rfl
                  have e35_8 : xE E2 35 8 = xE E 35 8 := xFr_E hfr rfl
                  have e36 : ∀ i, xE E2 36 i = xE E 36 i := fun i => xFr_E hfr rfl
                  have q36 : ∀ i, xE E 36 i = xE E0 36 i := fun i => xFr_E hFr0 rfl
                  have hI : ((v 1) = x0 0 ∧ (v 2) = x0 1 ∧ xE E 35 6 = tNx (xE E0 36) (xE E0 35 4) (xE E0 35 6) ∧ xE E 35 5 = tFr (xE E0 36) (xE E0 35 4) (xE E0 35 6) ∧ xE E 35 7 = tKd (xE E0 36) (xE E0 35 4) (xE E0 35 6) ∧ (tKd (xE E0 36) (xE E0 35 4) (xE E0 35 6) = 3 → xE E 35 8 = tNm (xE E0 36) (xE E0 35 4) (xE E0 35 6))) ∧ (xE E 35 2 = xE E0 35 2 ∧ xE E 35 3 = xE E0 35 3) := hInv
                  obtain ⟨hI, hSm⟩ := hI
                  show xΨftnS x0 E0 E2 0
                  refine ⟨?_, ?_⟩
                  · show xΨtn x0 E0 E2 0
                    obtain ⟨i1, i2, i3, i4, i5, i6⟩ := hI
                    have hm : pMis (xE E0 36) (xE E0 35 4) (xE E0 35 6) = if tKd (xE E0 36) (xE E0 35 4) (xE E0 35 6) = 1 then 1 else 2 := rfl
                    unfold xΨtn xTN
                    refine ⟨by omega, ?_⟩
                    split
                    · rename_i hk
                      have i6 := i6 hk
                      split <;> omega
                    · rename_i hk
                      by_cases h1 : tKd (xE E0 36) (xE E0 35 4) (xE E0 35 6) = 1
                      · rw [if_pos h1] at hm
                        omega
                      · rw [if_neg h1] at hm
                        omega
                  · show (¬ (0) = 0 → (xE E2 35 2 = xE E0 35 2 ∧ xE E2 35 3 = xE E0 35 3))
                    omega
                · skip
                  have ex := List.mem_singleton.mp hx
                  subst ex
                  obtain ⟨hF, hBd, hM⟩ := hXs
                  have r1 := hr2 1
                  have r2 := hr2 2
                  have r6 := hr2 6
                  have g1 : v2 1 = v 1 := hag 1 (by decide)
                  have g2 : v2 2 = v 2 := hag 2 (by decide)
                  have g3 : v2 3 = v 3 := hag 3 (by decide)
                  have g4 : v2 4 = v 4 := hag 4 (by decide)
                  have b0 : ((2147483647 : Nat) : Int) ≤ (v2 3) + 2147483648 ∧ (v2 3) + 2147483648 ≤ ((2147483654 : Nat) : Int) := xXb hBd 0 rfl
                  have b1 : ((2147483647 : Nat) : Int) ≤ (v2 4) + 2147483648 ∧ (v2 4) + 2147483648 ≤ ((2147484548 : Nat) : Int) := xXb hBd 1 rfl
                  have b2 : ((2147483651 : Nat) : Int) ≤ (v2 5) + 2147483648 ∧ (v2 5) + 2147483648 ≤ ((2147483651 : Nat) : Int) := xXb hBd 2 rfl
                  have k0 : xE E 35 2 = v 3 := xKcf hKc 0 rfl rfl
                  have k1 : xE E 35 3 = v 4 := xKcf hKc 1 rfl rfl
                  have f0 : (0 : Int) ≤ 7 ∧ xE E 35 7 = (v2 5) := xXf hF 0 rfl
                  have f1 : (v2 5) = 3 := xXf hF 1 rfl
                  have f2 : (0 : Int) ≤ 8 ∧ xE E 35 8 = (v2 6) := xXf hF 2 rfl
                  have f3 : (v2 1) ≤ (v2 6) := xXf hF 3 rfl
                  have f4 : (v2 6) ≤ (v2 2) := xXf hF 4 rfl
                  have m0 : xE E2 35 2 = (v2 3) := xXm hM 0 rfl
                  have m1 : xE E2 35 3 = (v2 4) := xXm hM 1 rfl
                  have e35_4 : xE E2 35 4 = xE E 35 4 := xFr_E hfr rfl
                  have q35_4 : xE E 35 4 = xE E0 35 4 := xFr_E hFr0 rfl
                  have e35_5 : xE E2 35 5 = xE E 35 5 := xFr_E hfr rfl
                  have e35_6 : xE E2 35 6 = xE E 35 6 := xFr_E hfr rfl
                  have e35_7 : xE E2 35 7 = xE E 35 7 := xFr_E hfr rfl
                  have e35_8 : xE E2 35 8 = xE E 35 8 := xFr_E hfr rfl
                  have e36 : ∀ i, xE E2 36 i = xE E 36 i := fun i => xFr_E hfr rfl
                  have q36 : ∀ i, xE E 36 i = xE E0 36 i := fun i => xFr_E hFr0 rfl
                  have hI : ((v 1) = x0 0 ∧ (v 2) = x0 1 ∧ xE E 35 6 = tNx (xE E0 36) (xE E0 35 4) (xE E0 35 6) ∧ xE E 35 5 = tFr (xE E0 36) (xE E0 35 4) (xE E0 35 6) ∧ xE E 35 7 = tKd (xE E0 36) (xE E0 35 4) (xE E0 35 6) ∧ (tKd (xE E0 36) (xE E0 35 4) (xE E0 35 6) = 3 → xE E 35 8 = tNm (xE E0 36) (xE E0 35 4) (xE E0 35 6))) ∧ (xE E 35 2 = xE E0 35 2 ∧ xE E 35 3 = xE E0 35 3) := hInv
                  obtain ⟨hI, hSm⟩ := hI
                  show xΨftnS x0 E0 E2 1
                  refine ⟨?_, ?_⟩
                  · show xΨtn x0 E0 E2 1
                    obtain ⟨i1, i2, i3, i4, i5, i6⟩ := hI
                    have hm : pMis (xE E0 36) (xE E0 35 4) (xE E0 35 6) = if tKd (xE E0 36) (xE E0 35 4) (xE E0 35 6) = 1 then 1 else 2 := rfl
                    unfold xΨtn xTN
                    refine ⟨by omega, ?_⟩
                    split
                    · rename_i hk
                      have i6 := i6 hk
                      split <;> omega
                    · rename_i hk
                      by_cases h1 : tKd (xE E0 36) (xE E0 35 4) (xE E0 35 6) = 1
                      · rw [if_pos h1] at hm
                        omega
                      · rw [if_neg h1] at hm
                        omega
                  · show (¬ (1) = 0 → (xE E2 35 2 = xE E0 35 2 ∧ xE E2 35 3 = xE E0 35 3))
                    omega
def xΨftsS (x : Nat → Int) (E E2 : zyEm) (r : Int) : Prop := xΨts x E E2 r ∧ (¬ r = 0 → (xE E2 35 2 = xE E 35 2 ∧ xE E2 35 3 = xE E 35 3))
noncomputable def fpfts : zyR := [(35, 2, 3), (35, 5, 8)]
theorem zyfts_run : zyrS zymc zxi68 (68, 0, 0, 2, 0) 3 zpfts (fun _ _ => []) zFfts zSfts zXfts zRfts 2 = true := by decide +kernel
theorem zyfts_ck : zyAll (fun i => xsubR (zFfts i) fpfts && ((zXfts i).all xckX && (zRfts i).all (fun x => xckX x && xrtB true x))) 2 = true := by decide +kernel
def xIfts (i : Nat) (x0 : Nat → Int) (E0 : zyEm) (v : Nat → Int) (E : zyEm) : Prop := if i = 0 then ((E = E0) ∧ (xE E 35 2 = xE E0 35 2 ∧ xE E 35 3 = xE E0 35 3)) else ((xE E 35 6 = tNx (xE E0 36) (xE E0 35 4) (xE E0 35 6) ∧ xE E 35 5 = tFr (xE E0 36) (xE E0 35 4) (xE E0 35 6) ∧ xE E 35 7 = tKd (xE E0 36) (xE E0 35 4) (xE E0 35 6) ∧ (tKd (xE E0 36) (xE E0 35 4) (xE E0 35 6) = 3 → xE E 35 8 = tNm (xE E0 36) (xE E0 35 4) (xE E0 35 6))) ∧ (xE E 35 2 = xE E0 35 2 ∧ xE E 35 3 = xE E0 35 3))
def xMfts (i : Nat) (x0 : Nat → Int) (E0 : zyEm) (v : Nat → Int) (E : zyEm) : Nat := if i = 0 then (1) else (0)
theorem xTs {l : Launch} {en : zEn} {me : zMe} (hen : zG zxMeta 68 = some en) (hme : zG zMeth 68 = some me) : xFc l zymc en me 3 [35] 0 fpfts true xΦad xΨftsS := by
  have een : zG zxMeta 68 = some (zxi68, 1, 1, 5, 68, 0, 0, 2, 0) := rfl
  obtain ⟨me1, hme1, hOK⟩ := zall hen
  rw [hme] at hme1
  cases hme1
  rw [een] at hen
  cases hen
  have hr := zyfts_run
  have hck := fun i hi => zyAll_iff zyfts_ck i hi
  simp only [Bool.and_eq_true] at hck
  obtain ⟨mefad, hmefad, -⟩ := zall (show zG zxMeta 73 = some (zxi73, 1, 1, 5, 73, 0, 0, 0, 0) from rfl)
  have hfad := xAd (l := l) (show zG zxMeta 73 = some (zxi73, 1, 1, 5, 73, 0, 0, 0, 0) from rfl) hmefad
  intro B
  refine xcut (mi := zymc) (B := B) hOK rfl rfl (ι := Fin 2) (fun i => zpfts i.val) (fun _ _ => []) (fun i => zFfts i.val) (fun i => zSfts i.val) (fun i => zXfts i.val) (fun i => zRfts i.val) (fun i y2 ct en2 me2 h => by cases h) 200000 (fun i => zyAll_iff hr i.val i.isLt) (fun i => (hck i.val i.isLt).1) (fun i => (hck i.val i.isLt).2.1) (fun i => (hck i.val i.isLt).2.2) ⟨0, by decide⟩ ⟨rfl, rfl, rfl, rfl⟩ ⟨by decide, by decide⟩ (fun i x0 E0 v E => xIfts i.val x0 E0 v E) (fun i x0 E0 v E => xMfts i.val x0 E0 v E) ?_ ?_ ?_
  · intro x0 E hx0 hT hΦ
    have hΦ : xΦad x0 E := hΦ
    refine ⟨fun k p hp => ?_, ?_⟩
    · have hk : k < 1 := (List.getElem?_eq_some_iff.mp hp).1
      have hk : k = 0 := by omega
      rcases hk with rfl
      · have hp : some (0, 4294967295) = some p := hp
        cases hp
        show ((0 : Nat) : Int) ≤ 0 + 2147483648 ∧ 0 + 2147483648 ≤ ((4294967295 : Nat) : Int)
        omega
    · show (E = E) ∧ (xE E 35 2 = xE E 35 2 ∧ xE E 35 3 = xE E 35 3)
      refine ⟨?_, ⟨rfl, rfl⟩⟩
      rfl
  · intro x0 s Wg hRu hrx hT0 hΦ i v H hT hrv hInv hKc hFr0 hIH x hx ρ2 v2 N2 H2 locs lsB stA hAt hB hv hr2 hXs hag hfr hFr hT2
    rcases i with ⟨i, hi⟩
    have hi2 : i = 0 ∨ i = 1 := by omega
    rcases hi2 with rfl | rfl
    · have hx : x ∈ [zxfts_ax0] := hx
      have hag : ∀ k, k < 1 → v2 k = v k := hag
      have hfr : xFr [] _ _ := hfr
      have ex := List.mem_singleton.mp hx
      subst ex
      obtain ⟨hF, hBd, hM⟩ := hXs
      have e35_4 : xE (zyEl zymc B H2) 35 4 = xE (zyEl zymc B H) 35 4 := xFr_E hfr rfl
      have q35_4 : xE (zyEl zymc B H) 35 4 = xE (zyEl zymc B s.heap) 35 4 := xFr_E hFr0 rfl
      have e35_5 : xE (zyEl zymc B H2) 35 5 = xE (zyEl zymc B H) 35 5 := xFr_E hfr rfl
      have e35_6 : xE (zyEl zymc B H2) 35 6 = xE (zyEl zymc B H) 35 6 := xFr_E hfr rfl
      have e35_7 : xE (zyEl zymc B H2) 35 7 = xE (zyEl zymc B H) 35 7 := xFr_E hfr rfl
      have e35_8 : xE (zyEl zymc B H2) 35 8 = xE (zyEl zymc B H) 35 8 := xFr_E hfr rfl
      have e35_2 : xE (zyEl zymc B H2) 35 2 = xE (zyEl zymc B H) 35 2 := xFr_E hfr rfl
      have e35_3 : xE (zyEl zymc B H2) 35 3 = xE (zyEl zymc B H) 35 3 := xFr_E hfr rfl
      have e36 : ∀ i, xE (zyEl zymc B H2) 36 i = xE (zyEl zymc B H) 36 i := fun i => xFr_E hfr rfl
      have q36 : ∀ i, xE (zyEl zymc B H) 36 i = xE (zyEl zymc B s.heap) 36 i := fun i => xFr_E hFr0 rfl
      have hI : ((zyEl zymc B H) = (zyEl zymc B s.heap)) ∧ (xE (zyEl zymc B H) 35 2 = xE (zyEl zymc B s.heap) 35 2 ∧ xE (zyEl zymc B H) 35 3 = xE (zyEl zymc B s.heap) 35 3) := hInv
      obtain ⟨hI, hSm⟩ := hI
      have q35_5 : xE (zyEl zymc B H) 35 5 = xE (zyEl zymc B s.heap) 35 5 := by rw [hI]
      have q35_6 : xE (zyEl zymc B H) 35 6 = xE (zyEl zymc B s.heap) 35 6 := by rw [hI]
      have q35_7 : xE (zyEl zymc B H) 35 7 = xE (zyEl zymc B s.heap) 35 7 := by rw [hI]
      have q35_8 : xE (zyEl zymc B H) 35 8 = xE (zyEl zymc B s.heap) 35 8 := by rw [hI]
      have q35_2 : xE (zyEl zymc B H) 35 2 = xE (zyEl zymc B s.heap) 35 2 := by rw [hI]
      have q35_3 : xE (zyEl zymc B H) 35 3 = xE (zyEl zymc B s.heap) 35 3 := by rw [hI]
      refine xCa hRu hIH hAt hB hv hFr (hfad B) (ix := 35) (ax := 1168) rfl rfl rfl hmefad ⟨_, rfl, rfl, by decide⟩ ⟨rfl, rfl, rfl⟩ (by decide) [] [] [] rfl ⟨rfl, rfl⟩ (by decide +kernel) xcs_n (by decide +kernel) ?_ (fun H3 r hT3 hf3 hFr3 hr3 hΨ3 => ?_)
      · show xΦad (xfv []) (zyEl zymc B H2)
        unfold xΦad
        have hP : xE (zyEl zymc B s.heap) 35 6 ≤ xE (zyEl zymc B s.heap) 35 4 := hΦ
        omega
      · have hΨ3 : xΨad (xfv []) (zyEl zymc B H2) (zyEl zymc B H3) r := hΨ3
        have d35_4 : xE (zyEl zymc B H3) 35 4 = xE (zyEl zymc B H2) 35 4 := xFr_E hf3 rfl
        have d35_2 : xE (zyEl zymc B H3) 35 2 = xE (zyEl zymc B H2) 35 2 := xFr_E hf3 rfl
        have d35_3 : xE (zyEl zymc B H3) 35 3 = xE (zyEl zymc B H2) 35 3 := xFr_E hf3 rfl
        have d36 : ∀ i, xE (zyEl zymc B H3) 36 i = xE (zyEl zymc B H2) 36 i := fun i => xFr_E hf3 rfl
        have z35_2 : ((2147483647 : Nat) : Int) ≤ xE (zyEl zymc B H3) 35 2 + 2147483648 ∧ xE (zyEl zymc B H3) 35 2 + 2147483648 ≤ ((2147483654 : Nat) : Int) := xTyF hT3 35 2 2 rfl rfl rfl rfl rfl rfl
        have z35_3 : ((2147483647 : Nat) : Int) ≤ xE (zyEl zymc B H3) 35 3 + 2147483648 ∧ xE (zyEl zymc B H3) 35 3 + 2147483648 ≤ ((2147484548 : Nat) : Int) := xTyF hT3 35 3 3 rfl rfl rfl rfl rfl rfl
        unfold xΨad xAD at hΨ3
        rw [show xE (zyEl zymc B H2) 36 = xE (zyEl zymc B s.heap) 36 from funext fun i => (e36 i).trans (q36 i), show xE (zyEl zymc B H2) 35 4 = xE (zyEl zymc B s.heap) 35 4 by omega, show xE (zyEl zymc B H2) 35 6 = xE (zyEl zymc B s.heap) 35 6 by omega] at hΨ3
        refine ⟨⟨1, by decide⟩, [0], [0, xE (zyEl zymc B H3) 35 2, xE (zyEl zymc B H3) 35 3], rfl, ⟨by decide +kernel, ⟨rfl, by decide +kernel⟩, (xcs_c rfl xcs_n), (xe_0 (xe_c (by omega) (by omega) rfl (xe_c (by omega) (by omega) rfl xe_n))), (xkq_c hT3 35 2 (q := 2) rfl rfl rfl rfl rfl rfl rfl rfl rfl rfl rfl (xkq_c hT3 35 3 (q := 3) rfl rfl rfl rfl rfl rfl rfl rfl rfl rfl rfl xkq_n))⟩, (by rw [if_neg (by decide)]; exact xst_n), ?_, ?_⟩
        · show (xE (zyEl zymc B H3) 35 6 = tNx (xE (zyEl zymc B s.heap) 36) (xE (zyEl zymc B s.heap) 35 4) (xE (zyEl zymc B s.heap) 35 6) ∧ xE (zyEl zymc B H3) 35 5 = tFr (xE (zyEl zymc B s.heap) 36) (xE (zyEl zymc B s.heap) 35 4) (xE (zyEl zymc B s.heap) 35 6) ∧ xE (zyEl zymc B H3) 35 7 = tKd (xE (zyEl zymc B s.heap) 36) (xE (zyEl zymc B s.heap) 35 4) (xE (zyEl zymc B s.heap) 35 6) ∧ (tKd (xE (zyEl zymc B s.heap) 36) (xE (zyEl zymc B s.heap) 35 4) (xE (zyEl zymc B s.heap) 35 6) = 3 → xE (zyEl zymc B H3) 35 8 = tNm (xE (zyEl zymc B s.heap) 36) (xE (zyEl zymc B s.heap) 35 4) (xE (zyEl zymc B s.heap) 35 6))) ∧ (xE (zyEl zymc B H3) 35 2 = xE (zyEl zymc B s.heap) 35 2 ∧ xE (zyEl zymc B H3) 35 3 = xE (zyEl zymc B s.heap) 35 3)
          refine ⟨?_, ?_⟩
          · skip
            exact hΨ3
          · omega
        · show 0 < 1
          omega
    · cases hx
  · intro x0 E0 E E2 hrx hT0 hΦ i v hT hrv hInv hKc hFr0 x hx v2 hr2 hXs hag hfr hFr hT2
    rcases i with ⟨i, hi⟩
    have hi2 : i = 0 ∨ i = 1 := by omega
    rcases hi2 with rfl | rfl
    · cases hx
    · have hx : x ∈ [zxfts_br0, zxfts_br1, zxfts_br2, zxfts_br3] := hx
      have hag : ∀ k, k < 3 → v2 k = v k := hag
      have hfr : xFr [(35, 2, 3)] _ _ := hfr
      rcases List.mem_cons.mp hx with ex | hx
      · subst ex
        obtain ⟨hF, hBd, hM⟩ := hXs
        have g1 : v2 1 = v 1 := hag 1 (by decide)
        have g2 : v2 2 = v 2 := hag 2 (by decide)
        have b0 : ((2147483650 : Nat) : Int) ≤ (v2 3) + 2147483648 ∧ (v2 3) + 2147483648 ≤ ((2147483652 : Nat) : Int) := xXb hBd 0 rfl
        have b1 : ((2147483648 : Nat) : Int) ≤ (v2 4) + 2147483648 ∧ (v2 4) + 2147483648 ≤ ((2147484548 : Nat) : Int) := xXb hBd 1 rfl
        have k0 : xE E 35 2 = v 1 := xKcf hKc 0 rfl rfl
        have k1 : xE E 35 3 = v 2 := xKcf hKc 1 rfl rfl
        have f0 : (0 : Int) ≤ 7 ∧ xE E 35 7 = (v2 3) := xXf hF 0 rfl
        have f1 : ¬ (v2 3) = 5 := xXf hF 1 rfl
        have f2 : ¬ (v2 3) = 1 := xXf hF 2 rfl
        have f3 : (0 : Int) ≤ 5 ∧ xE E 35 5 = (v2 4) := xXf hF 3 rfl
        have m0 : xE E2 35 2 = 2 := xXm hM 0 rfl
        have m1 : xE E2 35 3 = (v2 4) := xXm hM 1 rfl
        have e35_4 : xE E2 35 4 = xE E 35 4 := xFr_E hfr rfl
        have q35_4 : xE E 35 4 = xE E0 35 4 := xFr_E hFr0 rfl
        have e35_5 : xE E2 35 5 = xE E 35 5 := xFr_E hfr rfl
        have e35_6 : xE E2 35 6 = xE E 35 6 := xFr_E hfr rfl
        have e35_7 : xE E2 35 7 = xE E 35 7 := xFr_E hfr rfl
        have e35_8 : xE E2 35 8 = xE E 35 8 := xFr_E hfr rfl
        have e36 : ∀ i, xE E2 36 i = xE E 36 i := fun i => xFr_E hfr rfl
        have q36 : ∀ i, xE E 36 i = xE E0 36 i := fun i => xFr_E hFr0 rfl
        have hI : (xE E 35 6 = tNx (xE E0 36) (xE E0 35 4) (xE E0 35 6) ∧ xE E 35 5 = tFr (xE E0 36) (xE E0 35 4) (xE E0 35 6) ∧ xE E 35 7 = tKd (xE E0 36) (xE E0 35 4) (xE E0 35 6) ∧ (tKd (xE E0 36) (xE E0 35 4) (xE E0 35 6) = 3 → xE E 35 8 = tNm (xE E0 36) (xE E0 35 4) (xE E0 35 6))) ∧ (xE E 35 2 = xE E0 35 2 ∧ xE E 35 3 = xE E0 35 3) := hInv
        obtain ⟨hI, hSm⟩ := hI
        show xΨftsS x0 E0 E2 0
        refine ⟨?_, ?_⟩
        · show xΨts x0 E0 E2 0
          obtain ⟨i3, i4, i5, i6⟩ := hI
          have hm : pMis (xE E0 36) (xE E0 35 4) (xE E0 35 6) = if tKd (xE E0 36) (xE E0 35 4) (xE E0 35 6) = 1 then 1 else 2 := rfl
          unfold xΨts xTS
          split
          · omega
          · rename_i hk
            by_cases h1 : tKd (xE E0 36) (xE E0 35 4) (xE E0 35 6) = 1
            · rw [if_pos h1] at hm
              omega
            · rw [if_neg h1] at hm
              omega
        · show (¬ (0) = 0 → (xE E2 35 2 = xE E0 35 2 ∧ xE E2 35 3 = xE E0 35 3))
          omega
      · skip
        rcases List.mem_cons.mp hx with ex | hx
        · subst ex
          obtain ⟨hF, hBd, hM⟩ := hXs
          have g1 : v2 1 = v 1 := hag 1 (by decide)
          have g2 : v2 2 = v 2 := hag 2 (by decide)
          have b0 : ((2147483648 : Nat) : Int) ≤ (v2 3) + 2147483648 ∧ (v2 3) + 2147483648 ≤ ((2147483648 : Nat) : Int) := xXb hBd 0 rfl
          have b1 : ((2147483648 : Nat) : Int) ≤ (v2 4) + 2147483648 ∧ (v2 4) + 2147483648 ≤ ((2147484548 : Nat) : Int) := xXb hBd 1 rfl
          have k0 : xE E 35 2 = v 1 := xKcf hKc 0 rfl rfl
          have k1 : xE E 35 3 = v 2 := xKcf hKc 1 rfl rfl
          have f0 : (0 : Int) ≤ 7 ∧ xE E 35 7 = (v2 3) := xXf hF 0 rfl
          have f1 : ¬ (v2 3) = 5 := xXf hF 1 rfl
          have f2 : ¬ (v2 3) = 1 := xXf hF 2 rfl
          have f3 : (0 : Int) ≤ 5 ∧ xE E 35 5 = (v2 4) := xXf hF 3 rfl
          have m0 : xE E2 35 2 = 2 := xXm hM 0 rfl
          have m1 : xE E2 35 3 = (v2 4) := xXm hM 1 rfl
          have e35_4 : xE E2 35 4 = xE E 35 4 := xFr_E hfr rfl
          have q35_4 : xE E 35 4 = xE E0 35 4 := xFr_E hFr0 rfl
          have e35_5 : xE E2 35 5 = xE E 35 5 := xFr_E hfr rfl
          have e35_6 : xE E2 35 6 = xE E 35 6 := xFr_E hfr rfl
          have e35_7 : xE E2 35 7 = xE E 35 7 := xFr_E hfr rfl
          have e35_8 : xE E2 35 8 = xE E 35 8 := xFr_E hfr rfl
          have e36 : ∀ i, xE E2 36 i = xE E 36 i := fun i => xFr_E hfr rfl
          have q36 : ∀ i, xE E 36 i = xE E0 36 i := fun i => xFr_E hFr0 rfl
          have hI : (xE E 35 6 = tNx (xE E0 36) (xE E0 35 4) (xE E0 35 6) ∧ xE E 35 5 = tFr (xE E0 36) (xE E0 35 4) (xE E0 35 6) ∧ xE E 35 7 = tKd (xE E0 36) (xE E0 35 4) (xE E0 35 6) ∧ (tKd (xE E0 36) (xE E0 35 4) (xE E0 35 6) = 3 → xE E 35 8 = tNm (xE E0 36) (xE E0 35 4) (xE E0 35 6))) ∧ (xE E 35 2 = xE E0 35 2 ∧ xE E 35 3 = xE E0 35 3) := hInv
          obtain ⟨hI, hSm⟩ := hI
          show xΨftsS x0 E0 E2 0
          refine ⟨?_, ?_⟩
          · show xΨts x0 E0 E2 0
            obtain ⟨i3, i4, i5, i6⟩ := hI
            have hm : pMis (xE E0 36) (xE E0 35 4) (xE E0 35 6) = if tKd (xE E0 36) (xE E0 35 4) (xE E0 35 6) = 1 then 1 else 2 := rfl
            unfold xΨts xTS
            split
            · omega
            · rename_i hk
              by_cases h1 : tKd (xE E0 36) (xE E0 35 4) (xE E0 35 6) = 1
              · rw [if_pos h1] at hm
                omega
              · rw [if_neg h1] at hm
                omega
          · show (¬ (0) = 0 → (xE E2 35 2 = xE E0 35 2 ∧ xE E2 35 3 = xE E0 35 3))
            omega
        · skip
          rcases List.mem_cons.mp hx with ex | hx
          · subst ex
            obtain ⟨hF, hBd, hM⟩ := hXs
            have g1 : v2 1 = v 1 := hag 1 (by decide)
            have g2 : v2 2 = v 2 := hag 2 (by decide)
            have b0 : ((2147483649 : Nat) : Int) ≤ (v2 3) + 2147483648 ∧ (v2 3) + 2147483648 ≤ ((2147483649 : Nat) : Int) := xXb hBd 0 rfl
            have b1 : ((2147483648 : Nat) : Int) ≤ (v2 4) + 2147483648 ∧ (v2 4) + 2147483648 ≤ ((2147484548 : Nat) : Int) := xXb hBd 1 rfl
            have k0 : xE E 35 2 = v 1 := xKcf hKc 0 rfl rfl
            have k1 : xE E 35 3 = v 2 := xKcf hKc 1 rfl rfl
            have f0 : (0 : Int) ≤ 7 ∧ xE E 35 7 = (v2 3) := xXf hF 0 rfl
            have f1 : ¬ (v2 3) = 5 := xXf hF 1 rfl
            have f2 : (v2 3) = 1 := xXf hF 2 rfl
            have f3 : (0 : Int) ≤ 5 ∧ xE E 35 5 = (v2 4) := xXf hF 3 rfl
            have m0 : xE E2 35 2 = 1 := xXm hM 0 rfl
            have m1 : xE E2 35 3 = (v2 4) := xXm hM 1 rfl
            have e35_4 : xE E2 35 4 = xE E 35 4 := xFr_E hfr rfl
            have q35_4 : xE E 35 4 = xE E0 35 4 := xFr_E hFr0 rfl
            have e35_5 : xE E2 35 5 = xE E 35 5 := xFr_E hfr rfl
            have e35_6 : xE E2 35 6 = xE E 35 6 := xFr_E hfr rfl
            have e35_7 : xE E2 35 7 = xE E 35 7 := xFr_E hfr rfl
            have e35_8 : xE E2 35 8 = xE E 35 8 := xFr_E hfr rfl
            have e36 : ∀ i, xE E2 36 i = xE E 36 i := fun i => xFr_E hfr rfl
            have q36 : ∀ i, xE E 36 i = xE E0 36 i := fun i => xFr_E hFr0 rfl
            have hI : (xE E 35 6 = tNx (xE E0 36) (xE E0 35 4) (xE E0 35 6) ∧ xE E 35 5 = tFr (xE E0 36) (xE E0 35 4) (xE E0 35 6) ∧ xE E 35 7 = tKd (xE E0 36) (xE E0 35 4) (xE E0 35 6) ∧ (tKd (xE E0 36) (xE E0 35 4) (xE E0 35 6) = 3 → xE E 35 8 = tNm (xE E0 36) (xE E0 35 4) (xE E0 35 6))) ∧ (xE E 35 2 = xE E0 35 2 ∧ xE E 35 3 = xE E0 35 3) := hInv
            obtain ⟨hI, hSm⟩ := hI
            show xΨftsS x0 E0 E2 0
            refine ⟨?_, ?_⟩
            · show xΨts x0 E0 E2 0
              obtain ⟨i3, i4, i5, i6⟩ := hI
              have hm : pMis (xE E0 36) (xE E0 35 4) (xE E0 35 6) = if tKd (xE E0 36) (xE E0 35 4) (xE E0 35 6) = 1 then 1 else 2 := rfl
              unfold xΨts xTS
              split
              · omega
              · rename_i hk
                by_cases h1 : tKd (xE E0 36) (xE E0 35 4) (xE E0 35 6) = 1
                · rw [if_pos h1] at hm
                  omega
                · rw [if_neg h1] at hm
                  omega
            · show (¬ (0) = 0 → (xE E2 35 2 = xE E0 35 2 ∧ xE E2 35 3 = xE E0 35 3))
              omega
          · skip
            have ex := List.mem_singleton.mp hx
            subst ex
            obtain ⟨hF, hBd, hM⟩ := hXs
            have g1 : v2 1 = v 1 := hag 1 (by decide)
            have g2 : v2 2 = v 2 := hag 2 (by decide)
            have b0 : ((2147483647 : Nat) : Int) ≤ (v2 1) + 2147483648 ∧ (v2 1) + 2147483648 ≤ ((2147483654 : Nat) : Int) := xXb hBd 0 rfl
            have b1 : ((2147483647 : Nat) : Int) ≤ (v2 2) + 2147483648 ∧ (v2 2) + 2147483648 ≤ ((2147484548 : Nat) : Int) := xXb hBd 1 rfl
            have b2 : ((2147483653 : Nat) : Int) ≤ (v2 3) + 2147483648 ∧ (v2 3) + 2147483648 ≤ ((2147483653 : Nat) : Int) := xXb hBd 2 rfl
            have k0 : xE E 35 2 = v 1 := xKcf hKc 0 rfl rfl
            have k1 : xE E 35 3 = v 2 := xKcf hKc 1 rfl rfl
            have f0 : (0 : Int) ≤ 7 ∧ xE E 35 7 = (v2 3) := xXf hF 0 rfl
            have f1 : (v2 3) = 5 := xXf hF 1 rfl
            have m0 : xE E2 35 2 = (v2 1) := xXm hM 0 rfl
            have m1 : xE E2 35 3 = (v2 2) := xXm hM 1 rfl
            have e35_4 : xE E2 35 4 = xE E 35 4 := xFr_E hfr rfl
            have q35_4 : xE E 35 4 = xE E0 35 4 := xFr_E hFr0 rfl
            have e35_5 : xE E2 35 5 = xE E 35 5 := xFr_E hfr rfl
            have e35_6 : xE E2 35 6 = xE E 35 6 := xFr_E hfr rfl
            have e35_7 : xE E2 35 7 = xE E 35 7 := xFr_E hfr rfl
            have e35_8 : xE E2 35 8 = xE E 35 8 := xFr_E hfr rfl
            have e36 : ∀ i, xE E2 36 i = xE E 36 i := fun i => xFr_E hfr rfl
            have q36 : ∀ i, xE E 36 i = xE E0 36 i := fun i => xFr_E hFr0 rfl
            have hI : (xE E 35 6 = tNx (xE E0 36) (xE E0 35 4) (xE E0 35 6) ∧ xE E 35 5 = tFr (xE E0 36) (xE E0 35 4) (xE E0 35 6) ∧ xE E 35 7 = tKd (xE E0 36) (xE E0 35 4) (xE E0 35 6) ∧ (tKd (xE E0 36) (xE E0 35 4) (xE E0 35 6) = 3 → xE E 35 8 = tNm (xE E0 36) (xE E0 35 4) (xE E0 35 6))) ∧ (xE E 35 2 = xE E0 35 2 ∧ xE E 35 3 = xE E0 35 3) := hInv
            obtain ⟨hI, hSm⟩ := hI
            show xΨftsS x0 E0 E2 1
            refine ⟨?_, ?_⟩
            · show xΨts x0 E0 E2 1
              obtain ⟨i3, i4, i5, i6⟩ := hI
              have hm : pMis (xE E0 36) (xE E0 35 4) (xE E0 35 6) = if tKd (xE E0 36) (xE E0 35 4) (xE E0 35 6) = 1 then 1 else 2 := rfl
              unfold xΨts xTS
              split
              · omega
              · rename_i hk
                by_cases h1 : tKd (xE E0 36) (xE E0 35 4) (xE E0 35 6) = 1
                · rw [if_pos h1] at hm
                  omega
                · rw [if_neg h1] at hm
                  omega
            · show (¬ (1) = 0 → (xE E2 35 2 = xE E0 35 2 ∧ xE E2 35 3 = xE E0 35 3))
              omega
