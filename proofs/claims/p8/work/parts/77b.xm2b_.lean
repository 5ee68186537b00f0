section
/-! THE CLASS reads: advance -/
/-- the next token -/
def xΦad (_ : Nat → Int) (E : zyEm) : Prop := xE E 35 6 ≤ xE E 35 4
def xAD (T : Int → Int) (n p : Int) (E2 : zyEm) : Prop := xE E2 35 6 = tNx T n p ∧ xE E2 35 5 = tFr T n p ∧ xE E2 35 7 = tKd T n p ∧ (tKd T n p = 3 → xE E2 35 8 = tNm T n p)
def xΨad (_ : Nat → Int) (E E2 : zyEm) (_ : Int) : Prop := xAD (xE E 36) (xE E 35 4) (xE E 35 6) E2
noncomputable def fpfad : zyR := [(35, 5, 8)]
theorem zyfad_run : zyrS zymc zxi73 (73, 0, 0, 0, 0) 2 zpfad (fun _ _ => []) zFfad zSfad zXfad zRfad 6 = true := by decide +kernel
theorem zyfad_ck : zyAll (fun i => xsubR (zFfad i) fpfad && ((zXfad i).all xckX && (zRfad i).all (fun x => xckX x && xrtB false x))) 6 = true := by decide +kernel
def xIfad (i : Nat) (x0 : Nat → Int) (E0 : zyEm) (v : Nat → Int) (E : zyEm) : Prop := if i = 0 then (E = E0) else if i = 1 then (xE E 35 6 ≤ (xE E0 35 4) ∧ tFr (xE E0 36) (xE E0 35 4) (xE E 35 6) = tFr (xE E0 36) (xE E0 35 4) (xE E0 35 6)) else if i = 2 then (xE E 35 6 ≤ (xE E0 35 4) ∧ xE E 35 6 = tFr (xE E0 36) (xE E0 35 4) (xE E0 35 6)) else if i = 3 then (xE E 35 5 = tFr (xE E0 36) (xE E0 35 4) (xE E0 35 6) ∧ xE E 35 5 < (xE E0 35 4) ∧ xE E 35 7 = tk ((xE E0 36) (xE E 35 5)) ∧ (xE E 35 7 = 2 ∨ xE E 35 7 = 3) ∧ (xE E 35 5 < xE E 35 6 ∧ xE E 35 6 ≤ (xE E0 35 4)) ∧ tRn (xE E0 36) (xE E0 35 4) (xE E 35 7) (xE E 35 6) = tRn (xE E0 36) (xE E0 35 4) (xE E 35 7) (xE E 35 5 + 1)) else if i = 4 then (xE E 35 5 = tFr (xE E0 36) (xE E0 35 4) (xE E0 35 6) ∧ xE E 35 5 < (xE E0 35 4) ∧ xE E 35 7 = tk ((xE E0 36) (xE E 35 5)) ∧ (xE E 35 7 = 2 ∨ xE E 35 7 = 3) ∧ xE E 35 6 = tNx (xE E0 36) (xE E0 35 4) (xE E0 35 6)) else (xE E 35 6 = tNx (xE E0 36) (xE E0 35 4) (xE E0 35 6) ∧ xE E 35 5 = tFr (xE E0 36) (xE E0 35 4) (xE E0 35 6) ∧ xE E 35 7 = tKd (xE E0 36) (xE E0 35 4) (xE E0 35 6) ∧ (tKd (xE E0 36) (xE E0 35 4) (xE E0 35 6) = 3 → xE E 35 8 = tNm (xE E0 36) (xE E0 35 4) (xE E0 35 6)))
def xMfad (i : Nat) (x0 : Nat → Int) (E0 : zyEm) (v : Nat → Int) (E : zyEm) : Nat := if i = 0 then (5000) else if i = 1 then (3000 + (1000 - xE E 35 6).toNat) else if i = 2 then (2500) else if i = 3 then (1000 + (1000 - xE E 35 6).toNat) else if i = 4 then (500) else (1)
theorem xAd {l : Launch} {en : zEn} {me : zMe} (hen : zG zxMeta 73 = some en) (hme : zG zMeth 73 = some me) : xFc l zymc en me 2 [35] 0 fpfad false xΦad xΨad := by
  have een : zG zxMeta 73 = some (zxi73, 1, 1, 5, 73, 0, 0, 0, 0) := rfl
  obtain ⟨me1, hme1, hOK⟩ := zall hen
  rw [hme] at hme1
  cases hme1
  rw [een] at hen
  cases hen
  have hr := zyfad_run
  have hck := fun i hi => zyAll_iff zyfad_ck i hi
  simp only [Bool.and_eq_true] at hck
  obtain ⟨mefwn, hmefwn, -⟩ := zall (show zG zxMeta 74 = some (zxi74, 1, 2, 5, 74, 0, 0, 0, 0) from rfl)
  have hfwn := xWn (l := l) (show zG zxMeta 74 = some (zxi74, 1, 2, 5, 74, 0, 0, 0, 0) from rfl) hmefwn
  intro B
  refine xcut (mi := zymc) (B := B) hOK rfl rfl (ι := Fin 6) (fun i => zpfad i.val) (fun _ _ => []) (fun i => zFfad i.val) (fun i => zSfad i.val) (fun i => zXfad i.val) (fun i => zRfad i.val) (fun i y2 ct en2 me2 h => by cases h) 200000 (fun i => zyAll_iff hr i.val i.isLt) (fun i => (hck i.val i.isLt).1) (fun i => (hck i.val i.isLt).2.1) (fun i => (hck i.val i.isLt).2.2) ⟨0, by decide⟩ ⟨rfl, rfl, rfl, rfl⟩ ⟨by decide, by decide⟩ (fun i x0 E0 v E => xIfad i.val x0 E0 v E) (fun i x0 E0 v E => xMfad i.val x0 E0 v E) ?_ ?_ ?_
  · intro x0 E hx0 hT hΦ
    have hΦ : xΦad x0 E := hΦ
    refine ⟨fun k p hp => ?_, ?_⟩
    · have hk : k < 1 := (List.getElem?_eq_some_iff.mp hp).1
      have hk : k = 0 := by omega
      rcases hk with rfl
      · have hp : some (0, 4294967295) = some p := hp
        cases hp
        show ((0 : Nat) : Int) ≤ 0 + 2147483648 ∧ 0 + 2147483648 ≤ ((4294967295 : Nat) : Int)
        omega
    · show E = E
      rfl
  · intro x0 s Wg hRu hrx hT0 hΦ i v H hT hrv hInv hKc hFr0 hIH x hx ρ2 v2 N2 H2 locs lsB stA hAt hB hv hr2 hXs hag hfr hFr hT2
    rcases i with ⟨i, hi⟩
    have hi2 : i = 0 ∨ i = 1 ∨ i = 2 ∨ i = 3 ∨ i = 4 ∨ i = 5 := by omega
    rcases hi2 with rfl | rfl | rfl | rfl | rfl | rfl
    · have hx : x ∈ [zxfad_zx0] := hx
      have hag : ∀ k, k < 1 → v2 k = v k := hag
      have hfr : xFr [] _ _ := hfr
      have ex := List.mem_singleton.mp hx
      subst ex
      obtain ⟨hF, hBd, hM⟩ := hXs
      have e35_4 : xE (zyEl zymc B H2) 35 4 = xE (zyEl zymc B H) 35 4 := xFr_E hfr rfl
      have q35_4 : xE (zyEl zymc B H) 35 4 = xE (zyEl zymc B s.heap) 35 4 := xFr_E hFr0 rfl
      have e35_5 : xE (zyEl zymc B H2) 35 5 = xE (zyEl zymc B H) 35 5 := xFr_E hfr rfl
      have e35_6 : xE (zyEl zymc B H2) 35 6 = xE (zyEl zymc B H) 35 6 := xFr_E hfr rfl
      have e35_7 : xE (zyEl zymc B H2) 35 7 = xE (zyEl zymc B H) 35 7 := xFr_E hfr rfl
      have e35_8 : xE (zyEl zymc B H2) 35 8 = xE (zyEl zymc B H) 35 8 := xFr_E hfr rfl
      have e36 : ∀ i, xE (zyEl zymc B H2) 36 i = xE (zyEl zymc B H) 36 i := fun i => xFr_E hfr rfl
      have q36 : ∀ i, xE (zyEl zymc B H) 36 i = xE (zyEl zymc B s.heap) 36 i := fun i => xFr_E hFr0 rfl
      have hI : (zyEl zymc B H) = (zyEl zymc B s.heap) := hInv
      have q35_5 : xE (zyEl zymc B H) 35 5 = xE (zyEl zymc B s.heap) 35 5 := by rw [hI]
      have q35_6 : xE (zyEl zymc B H) 35 6 = xE (zyEl zymc B s.heap) 35 6 := by rw [hI]
      have q35_7 : xE (zyEl zymc B H) 35 7 = xE (zyEl zymc B s.heap) 35 7 := by rw [hI]
      have q35_8 : xE (zyEl zymc B H) 35 8 = xE (zyEl zymc B s.heap) 35 8 := by rw [hI]
      have hP : xE (zyEl zymc B s.heap) 35 6 ≤ xE (zyEl zymc B s.heap) 35 4 := hΦ
      have z35_6 : ((2147483648 : Nat) : Int) ≤ xE (zyEl zymc B H2) 35 6 + 2147483648 ∧ xE (zyEl zymc B H2) 35 6 + 2147483648 ≤ ((2147484548 : Nat) : Int) := xTyF hT2 35 6 6 rfl rfl rfl rfl rfl rfl
      refine xGo hIH hAt hB hv hFr ⟨1, by decide⟩ [0] [0, xE (zyEl zymc B H2) 35 6] rfl ⟨by decide +kernel, ⟨rfl, by decide +kernel⟩, (xcs_c rfl xcs_n), (xe_0 (xe_c (by omega) (by omega) rfl xe_n)), (xkq_c hT2 35 6 (q := 6) rfl rfl rfl rfl rfl rfl rfl rfl rfl rfl rfl xkq_n)⟩ xst_n ?_ ?_
      · show xE (zyEl zymc B H2) 35 6 ≤ (xE (zyEl zymc B s.heap) 35 4) ∧ tFr (xE (zyEl zymc B s.heap) 36) (xE (zyEl zymc B s.heap) 35 4) (xE (zyEl zymc B H2) 35 6) = tFr (xE (zyEl zymc B s.heap) 36) (xE (zyEl zymc B s.heap) 35 4) (xE (zyEl zymc B s.heap) 35 6)
        exact ⟨by omega, by rw [show xE (zyEl zymc B H2) 35 6 = xE (zyEl zymc B s.heap) 35 6 by omega]⟩
      · show 3000 + (1000 - xE (zyEl zymc B H2) 35 6).toNat < 5000
        omega
    · have hx : x ∈ [zxfad_ax0, zxfad_ax1, zxfad_ax2, zxfad_ax3, zxfad_ax4, zxfad_ax5, zxfad_ax6, zxfad_ax7] := hx
      have hag : ∀ k, k < 2 → v2 k = v k := hag
      have hfr : xFr [(35, 6, 6)] _ _ := hfr
      rcases List.mem_cons.mp hx with ex | hx
      · subst ex
        obtain ⟨hF, hBd, hM⟩ := hXs
        have g1 : v2 1 = v 1 := hag 1 (by decide)
        have b0 : ((2147483648 : Nat) : Int) ≤ (v2 1) + 2147483648 ∧ (v2 1) + 2147483648 ≤ ((2147484547 : Nat) : Int) := xXb hBd 0 rfl
        have b1 : ((2147483649 : Nat) : Int) ≤ (v2 2) + 2147483648 ∧ (v2 2) + 2147483648 ≤ ((2147484548 : Nat) : Int) := xXb hBd 1 rfl
        have b2 : ((2147483659 : Nat) : Int) ≤ (v2 3) + 2147483648 ∧ (v2 3) + 2147483648 ≤ ((2147483775 : Nat) : Int) := xXb hBd 2 rfl
        have b3 : ((2147483681 : Nat) : Int) ≤ (v2 4) + 2147483648 ∧ (v2 4) + 2147483648 ≤ ((2147483775 : Nat) : Int) := xXb hBd 3 rfl
        have k0 : xE (zyEl zymc B H) 35 6 = v 1 := xKcf hKc 0 rfl rfl
        have f0 : (0 : Int) ≤ 4 ∧ xE (zyEl zymc B H) 35 4 = (v2 2) := xXf hF 0 rfl
        have f1 : (v2 1) < (v2 2) := xXf hF 1 rfl
        have f2 : (0 : Int) ≤ (v2 1) ∧ xE (zyEl zymc B H) 36 (v2 1) = (v2 3) := xXf hF 2 rfl
        have f3 : ¬ (v2 3) = 10 := xXf hF 3 rfl
        have f4 : (0 : Int) ≤ (v2 1) ∧ xE (zyEl zymc B H) 36 (v2 1) = (v2 4) := xXf hF 4 rfl
        have f5 : ¬ (v2 4) = 32 := xXf hF 5 rfl
        have m0 : xE (zyEl zymc B H2) 35 6 = (v2 1) := xXm hM 0 rfl
        have e35_4 : xE (zyEl zymc B H2) 35 4 = xE (zyEl zymc B H) 35 4 := xFr_E hfr rfl
        have q35_4 : xE (zyEl zymc B H) 35 4 = xE (zyEl zymc B s.heap) 35 4 := xFr_E hFr0 rfl
        have e35_5 : xE (zyEl zymc B H2) 35 5 = xE (zyEl zymc B H) 35 5 := xFr_E hfr rfl
        have e35_7 : xE (zyEl zymc B H2) 35 7 = xE (zyEl zymc B H) 35 7 := xFr_E hfr rfl
        have e35_8 : xE (zyEl zymc B H2) 35 8 = xE (zyEl zymc B H) 35 8 := xFr_E hfr rfl
        have e36 : ∀ i, xE (zyEl zymc B H2) 36 i = xE (zyEl zymc B H) 36 i := fun i => xFr_E hfr rfl
        have q36 : ∀ i, xE (zyEl zymc B H) 36 i = xE (zyEl zymc B s.heap) 36 i := fun i => xFr_E hFr0 rfl
        have hI : xE (zyEl zymc B H) 35 6 ≤ (xE (zyEl zymc B s.heap) 35 4) ∧ tFr (xE (zyEl zymc B s.heap) 36) (xE (zyEl zymc B s.heap) 35 4) (xE (zyEl zymc B H) 35 6) = tFr (xE (zyEl zymc B s.heap) 36) (xE (zyEl zymc B s.heap) 35 4) (xE (zyEl zymc B s.heap) 35 6) := hInv
        obtain ⟨i1, i2⟩ := hI
        have t2 : xE (zyEl zymc B s.heap) 36 (xE (zyEl zymc B H) 35 6) = (v2 3) := by rw [← q36, show xE (zyEl zymc B H) 35 6 = (v2 1) by omega]; exact f2.2
        have t4 : xE (zyEl zymc B s.heap) 36 (xE (zyEl zymc B H) 35 6) = (v2 4) := by rw [← q36, show xE (zyEl zymc B H) 35 6 = (v2 1) by omega]; exact f4.2
        have z35_6 : ((2147483648 : Nat) : Int) ≤ xE (zyEl zymc B H2) 35 6 + 2147483648 ∧ xE (zyEl zymc B H2) 35 6 + 2147483648 ≤ ((2147484548 : Nat) : Int) := xTyF hT2 35 6 6 rfl rfl rfl rfl rfl rfl
        refine xGo hIH hAt hB hv hFr ⟨2, by decide⟩ [0] [0, xE (zyEl zymc B H2) 35 6] rfl ⟨by decide +kernel, ⟨rfl, by decide +kernel⟩, (xcs_c rfl xcs_n), (xe_0 (xe_c (by omega) (by omega) rfl xe_n)), (xkq_c hT2 35 6 (q := 6) rfl rfl rfl rfl rfl rfl rfl rfl rfl rfl rfl xkq_n)⟩ xst_n ?_ ?_
        · show xE (zyEl zymc B H2) 35 6 ≤ (xE (zyEl zymc B s.heap) 35 4) ∧ xE (zyEl zymc B H2) 35 6 = tFr (xE (zyEl zymc B s.heap) 36) (xE (zyEl zymc B s.heap) 35 4) (xE (zyEl zymc B s.heap) 35 6)
          rw [show xE (zyEl zymc B H2) 35 6 = xE (zyEl zymc B H) 35 6 by omega]
          exact ⟨by omega, (tFr_e (by omega)).symm.trans i2⟩
        · show 2500 < 3000 + (1000 - xE (zyEl zymc B H) 35 6).toNat
          omega
      · skip
        rcases List.mem_cons.mp hx with ex | hx
        · subst ex
          obtain ⟨hF, hBd, hM⟩ := hXs
          have g1 : v2 1 = v 1 := hag 1 (by decide)
          have b0 : ((2147483648 : Nat) : Int) ≤ (v2 1) + 2147483648 ∧ (v2 1) + 2147483648 ≤ ((2147484547 : Nat) : Int) := xXb hBd 0 rfl
          have b1 : ((2147483649 : Nat) : Int) ≤ (v2 2) + 2147483648 ∧ (v2 2) + 2147483648 ≤ ((2147484548 : Nat) : Int) := xXb hBd 1 rfl
          have b2 : ((2147483659 : Nat) : Int) ≤ (v2 3) + 2147483648 ∧ (v2 3) + 2147483648 ≤ ((2147483775 : Nat) : Int) := xXb hBd 2 rfl
          have b3 : ((2147483520 : Nat) : Int) ≤ (v2 4) + 2147483648 ∧ (v2 4) + 2147483648 ≤ ((2147483679 : Nat) : Int) := xXb hBd 3 rfl
          have k0 : xE (zyEl zymc B H) 35 6 = v 1 := xKcf hKc 0 rfl rfl
          have f0 : (0 : Int) ≤ 4 ∧ xE (zyEl zymc B H) 35 4 = (v2 2) := xXf hF 0 rfl
          have f1 : (v2 1) < (v2 2) := xXf hF 1 rfl
          have f2 : (0 : Int) ≤ (v2 1) ∧ xE (zyEl zymc B H) 36 (v2 1) = (v2 3) := xXf hF 2 rfl
          have f3 : ¬ (v2 3) = 10 := xXf hF 3 rfl
          have f4 : (0 : Int) ≤ (v2 1) ∧ xE (zyEl zymc B H) 36 (v2 1) = (v2 4) := xXf hF 4 rfl
          have f5 : ¬ (v2 4) = 32 := xXf hF 5 rfl
          have m0 : xE (zyEl zymc B H2) 35 6 = (v2 1) := xXm hM 0 rfl
          have e35_4 : xE (zyEl zymc B H2) 35 4 = xE (zyEl zymc B H) 35 4 := xFr_E hfr rfl
          have q35_4 : xE (zyEl zymc B H) 35 4 = xE (zyEl zymc B s.heap) 35 4 := xFr_E hFr0 rfl
          have e35_5 : xE (zyEl zymc B H2) 35 5 = xE (zyEl zymc B H) 35 5 := xFr_E hfr rfl
          have e35_7 : xE (zyEl zymc B H2) 35 7 = xE (zyEl zymc B H) 35 7 := xFr_E hfr rfl
          have e35_8 : xE (zyEl zymc B H2) 35 8 = xE (zyEl zymc B H) 35 8 := xFr_E hfr rfl
          have e36 : ∀ i, xE (zyEl zymc B H2) 36 i = xE (zyEl zymc B H) 36 i := fun i => xFr_E hfr rfl
          have q36 : ∀ i, xE (zyEl zymc B H) 36 i = xE (zyEl zymc B s.heap) 36 i := fun i => xFr_E hFr0 rfl
          have hI : xE (zyEl zymc B H) 35 6 ≤ (xE (zyEl zymc B s.heap) 35 4) ∧ tFr (xE (zyEl zymc B s.heap) 36) (xE (zyEl zymc B s.heap) 35 4) (xE (zyEl zymc B H) 35 6) = tFr (xE (zyEl zymc B s.heap) 36) (xE (zyEl zymc B s.heap) 35 4) (xE (zyEl zymc B s.heap) 35 6) := hInv
          obtain ⟨i1, i2⟩ := hI
          have t2 : xE (zyEl zymc B s.heap) 36 (xE (zyEl zymc B H) 35 6) = (v2 3) := by rw [← q36, show xE (zyEl zymc B H) 35 6 = (v2 1) by omega]; exact f2.2
          have t4 : xE (zyEl zymc B s.heap) 36 (xE (zyEl zymc B H) 35 6) = (v2 4) := by rw [← q36, show xE (zyEl zymc B H) 35 6 = (v2 1) by omega]; exact f4.2
          have z35_6 : ((2147483648 : Nat) : Int) ≤ xE (zyEl zymc B H2) 35 6 + 2147483648 ∧ xE (zyEl zymc B H2) 35 6 + 2147483648 ≤ ((2147484548 : Nat) : Int) := xTyF hT2 35 6 6 rfl rfl rfl rfl rfl rfl
          refine xGo hIH hAt hB hv hFr ⟨2, by decide⟩ [0] [0, xE (zyEl zymc B H2) 35 6] rfl ⟨by decide +kernel, ⟨rfl, by decide +kernel⟩, (xcs_c rfl xcs_n), (xe_0 (xe_c (by omega) (by omega) rfl xe_n)), (xkq_c hT2 35 6 (q := 6) rfl rfl rfl rfl rfl rfl rfl rfl rfl rfl rfl xkq_n)⟩ xst_n ?_ ?_
          · show xE (zyEl zymc B H2) 35 6 ≤ (xE (zyEl zymc B s.heap) 35 4) ∧ xE (zyEl zymc B H2) 35 6 = tFr (xE (zyEl zymc B s.heap) 36) (xE (zyEl zymc B s.heap) 35 4) (xE (zyEl zymc B s.heap) 35 6)
            rw [show xE (zyEl zymc B H2) 35 6 = xE (zyEl zymc B H) 35 6 by omega]
            exact ⟨by omega, (tFr_e (by omega)).symm.trans i2⟩
          · show 2500 < 3000 + (1000 - xE (zyEl zymc B H) 35 6).toNat
            omega
        · skip
          rcases List.mem_cons.mp hx with ex | hx
          · subst ex
            obtain ⟨hF, hBd, hM⟩ := hXs
            have g1 : v2 1 = v 1 := hag 1 (by decide)
            have b0 : ((2147483648 : Nat) : Int) ≤ (v2 1) + 2147483648 ∧ (v2 1) + 2147483648 ≤ ((2147484547 : Nat) : Int) := xXb hBd 0 rfl
            have b1 : ((2147483649 : Nat) : Int) ≤ (v2 2) + 2147483648 ∧ (v2 2) + 2147483648 ≤ ((2147484548 : Nat) : Int) := xXb hBd 1 rfl
            have b2 : ((2147483659 : Nat) : Int) ≤ (v2 3) + 2147483648 ∧ (v2 3) + 2147483648 ≤ ((2147483775 : Nat) : Int) := xXb hBd 2 rfl
            have b3 : ((2147483680 : Nat) : Int) ≤ (v2 4) + 2147483648 ∧ (v2 4) + 2147483648 ≤ ((2147483680 : Nat) : Int) := xXb hBd 3 rfl
            have k0 : xE (zyEl zymc B H) 35 6 = v 1 := xKcf hKc 0 rfl rfl
            have f0 : (0 : Int) ≤ 4 ∧ xE (zyEl zymc B H) 35 4 = (v2 2) := xXf hF 0 rfl
            have f1 : (v2 1) < (v2 2) := xXf hF 1 rfl
            have f2 : (0 : Int) ≤ (v2 1) ∧ xE (zyEl zymc B H) 36 (v2 1) = (v2 3) := xXf hF 2 rfl
            have f3 : ¬ (v2 3) = 10 := xXf hF 3 rfl
            have f4 : (0 : Int) ≤ (v2 1) ∧ xE (zyEl zymc B H) 36 (v2 1) = (v2 4) := xXf hF 4 rfl
            have f5 : (v2 4) = 32 := xXf hF 5 rfl
            have m0 : xE (zyEl zymc B H2) 35 6 = (v2 1 + 1) := xXm hM 0 rfl
            have e35_4 : xE (zyEl zymc B H2) 35 4 = xE (zyEl zymc B H) 35 4 := xFr_E hfr rfl
            have q35_4 : xE (zyEl zymc B H) 35 4 = xE (zyEl zymc B s.heap) 35 4 := xFr_E hFr0 rfl
            have e35_5 : xE (zyEl zymc B H2) 35 5 = xE (zyEl zymc B H) 35 5 := xFr_E hfr rfl
            have e35_7 : xE (zyEl zymc B H2) 35 7 = xE (zyEl zymc B H) 35 7 := xFr_E hfr rfl
            have e35_8 : xE (zyEl zymc B H2) 35 8 = xE (zyEl zymc B H) 35 8 := xFr_E hfr rfl
            have e36 : ∀ i, xE (zyEl zymc B H2) 36 i = xE (zyEl zymc B H) 36 i := fun i => xFr_E hfr rfl
            have q36 : ∀ i, xE (zyEl zymc B H) 36 i = xE (zyEl zymc B s.heap) 36 i := fun i => xFr_E hFr0 rfl
            have hI : xE (zyEl zymc B H) 35 6 ≤ (xE (zyEl zymc B s.heap) 35 4) ∧ tFr (xE (zyEl zymc B s.heap) 36) (xE (zyEl zymc B s.heap) 35 4) (xE (zyEl zymc B H) 35 6) = tFr (xE (zyEl zymc B s.heap) 36) (xE (zyEl zymc B s.heap) 35 4) (xE (zyEl zymc B s.heap) 35 6) := hInv
            obtain ⟨i1, i2⟩ := hI
            have t2 : xE (zyEl zymc B s.heap) 36 (xE (zyEl zymc B H) 35 6) = (v2 3) := by rw [← q36, show xE (zyEl zymc B H) 35 6 = (v2 1) by omega]; exact f2.2
            have t4 : xE (zyEl zymc B s.heap) 36 (xE (zyEl zymc B H) 35 6) = (v2 4) := by rw [← q36, show xE (zyEl zymc B H) 35 6 = (v2 1) by omega]; exact f4.2
            have z35_6 : ((2147483648 : Nat) : Int) ≤ xE (zyEl zymc B H2) 35 6 + 2147483648 ∧ xE (zyEl zymc B H2) 35 6 + 2147483648 ≤ ((2147484548 : Nat) : Int) := xTyF hT2 35 6 6 rfl rfl rfl rfl rfl rfl
            refine xGo hIH hAt hB hv hFr ⟨1, by decide⟩ [0] [0, xE (zyEl zymc B H2) 35 6] rfl ⟨by decide +kernel, ⟨rfl, by decide +kernel⟩, (xcs_c rfl xcs_n), (xe_0 (xe_c (by omega) (by omega) rfl xe_n)), (xkq_c hT2 35 6 (q := 6) rfl rfl rfl rfl rfl rfl rfl rfl rfl rfl rfl xkq_n)⟩ xst_n ?_ ?_
            · show xE (zyEl zymc B H2) 35 6 ≤ (xE (zyEl zymc B s.heap) 35 4) ∧ tFr (xE (zyEl zymc B s.heap) 36) (xE (zyEl zymc B s.heap) 35 4) (xE (zyEl zymc B H2) 35 6) = tFr (xE (zyEl zymc B s.heap) 36) (xE (zyEl zymc B s.heap) 35 4) (xE (zyEl zymc B s.heap) 35 6)
              rw [show xE (zyEl zymc B H2) 35 6 = xE (zyEl zymc B H) 35 6 + 1 by omega]
              exact ⟨by omega, (tFr_s (by omega) (by omega)).trans i2⟩
            · show 3000 + (1000 - xE (zyEl zymc B H2) 35 6).toNat < 3000 + (1000 - xE (zyEl zymc B H) 35 6).toNat
              omega
          · skip
            rcases List.mem_cons.mp hx with ex | hx
            · subst ex
              obtain ⟨hF, hBd, hM⟩ := hXs
              have g1 : v2 1 = v 1 := hag 1 (by decide)
              have b0 : ((2147483648 : Nat) : Int) ≤ (v2 1) + 2147483648 ∧ (v2 1) + 2147483648 ≤ ((2147484547 : Nat) : Int) := xXb hBd 0 rfl
              have b1 : ((2147483649 : Nat) : Int) ≤ (v2 2) + 2147483648 ∧ (v2 2) + 2147483648 ≤ ((2147484548 : Nat) : Int) := xXb hBd 1 rfl
              have b2 : ((2147483520 : Nat) : Int) ≤ (v2 3) + 2147483648 ∧ (v2 3) + 2147483648 ≤ ((2147483657 : Nat) : Int) := xXb hBd 2 rfl
              have b3 : ((2147483681 : Nat) : Int) ≤ (v2 4) + 2147483648 ∧ (v2 4) + 2147483648 ≤ ((2147483775 : Nat) : Int) := xXb hBd 3 rfl
              have k0 : xE (zyEl zymc B H) 35 6 = v 1 := xKcf hKc 0 rfl rfl
              have f0 : (0 : Int) ≤ 4 ∧ xE (zyEl zymc B H) 35 4 = (v2 2) := xXf hF 0 rfl
              have f1 : (v2 1) < (v2 2) := xXf hF 1 rfl
              have f2 : (0 : Int) ≤ (v2 1) ∧ xE (zyEl zymc B H) 36 (v2 1) = (v2 3) := xXf hF 2 rfl
              have f3 : ¬ (v2 3) = 10 := xXf hF 3 rfl
              have f4 : (0 : Int) ≤ (v2 1) ∧ xE (zyEl zymc B H) 36 (v2 1) = (v2 4) := xXf hF 4 rfl
              have f5 : ¬ (v2 4) = 32 := xXf hF 5 rfl
              have m0 : xE (zyEl zymc B H2) 35 6 = (v2 1) := xXm hM 0 rfl
              have e35_4 : xE (zyEl zymc B H2) 35 4 = xE (zyEl zymc B H) 35 4 := xFr_E hfr rfl
              have q35_4 : xE (zyEl zymc B H) 35 4 = xE (zyEl zymc B s.heap) 35 4 := xFr_E hFr0 rfl
              have e35_5 : xE (zyEl zymc B H2) 35 5 = xE (zyEl zymc B H) 35 5 := xFr_E hfr rfl
              have e35_7 : xE (zyEl zymc B H2) 35 7 = xE (zyEl zymc B H) 35 7 := xFr_E hfr rfl
              have e35_8 : xE (zyEl zymc B H2) 35 8 = xE (zyEl zymc B H) 35 8 := xFr_E hfr rfl
              have e36 : ∀ i, xE (zyEl zymc B H2) 36 i = xE (zyEl zymc B H) 36 i := fun i => xFr_E hfr rfl
              have q36 : ∀ i, xE (zyEl zymc B H) 36 i = xE (zyEl zymc B s.heap) 36 i := fun i => xFr_E hFr0 rfl
              have hI : xE (zyEl zymc B H) 35 6 ≤ (xE (zyEl zymc B s.heap) 35 4) ∧ tFr (xE (zyEl zymc B s.heap) 36) (xE (zyEl zymc B s.heap) 35 4) (xE (zyEl zymc B H) 35 6) = tFr (xE (zyEl zymc B s.heap) 36) (xE (zyEl zymc B s.heap) 35 4) (xE (zyEl zymc B s.heap) 35 6) := hInv
              obtain ⟨i1, i2⟩ := hI
              have t2 : xE (zyEl zymc B s.heap) 36 (xE (zyEl zymc B H) 35 6) = (v2 3) := by rw [← q36, show xE (zyEl zymc B H) 35 6 = (v2 1) by omega]; exact f2.2
              have t4 : xE (zyEl zymc B s.heap) 36 (xE (zyEl zymc B H) 35 6) = (v2 4) := by rw [← q36, show xE (zyEl zymc B H) 35 6 = (v2 1) by omega]; exact f4.2
              have z35_6 : ((2147483648 : Nat) : Int) ≤ xE (zyEl zymc B H2) 35 6 + 2147483648 ∧ xE (zyEl zymc B H2) 35 6 + 2147483648 ≤ ((2147484548 : Nat) : Int) := xTyF hT2 35 6 6 rfl rfl rfl rfl rfl rfl
              refine xGo hIH hAt hB hv hFr ⟨2, by decide⟩ [0] [0, xE (zyEl zymc B H2) 35 6] rfl ⟨by decide +kernel, ⟨rfl, by decide +kernel⟩, (xcs_c rfl xcs_n), (xe_0 (xe_c (by omega) (by omega) rfl xe_n)), (xkq_c hT2 35 6 (q := 6) rfl rfl rfl rfl rfl rfl rfl rfl rfl rfl rfl xkq_n)⟩ xst_n ?_ ?_
              · show xE (zyEl zymc B H2) 35 6 ≤ (xE (zyEl zymc B s.heap) 35 4) ∧ xE (zyEl zymc B H2) 35 6 = tFr (xE (zyEl zymc B s.heap) 36) (xE (zyEl zymc B s.heap) 35 4) (xE (zyEl zymc B s.heap) 35 6)
                rw [show xE (zyEl zymc B H2) 35 6 = xE (zyEl zymc B H) 35 6 by omega]
                exact ⟨by omega, (tFr_e (by omega)).symm.trans i2⟩
              · show 2500 < 3000 + (1000 - xE (zyEl zymc B H) 35 6).toNat
                omega
            · skip
              rcases List.mem_cons.mp hx with ex | hx
              · subst ex
                obtain ⟨hF, hBd, hM⟩ := hXs
                have g1 : v2 1 = v 1 := hag 1 (by decide)
                have b0 : ((2147483648 : Nat) : Int) ≤ (v2 1) + 2147483648 ∧ (v2 1) + 2147483648 ≤ ((2147484547 : Nat) : Int) := xXb hBd 0 rfl
                have b1 : ((2147483649 : Nat) : Int) ≤ (v2 2) + 2147483648 ∧ (v2 2) + 2147483648 ≤ ((2147484548 : Nat) : Int) := xXb hBd 1 rfl
                have b2 : ((2147483520 : Nat) : Int) ≤ (v2 3) + 2147483648 ∧ (v2 3) + 2147483648 ≤ ((2147483657 : Nat) : Int) := xXb hBd 2 rfl
                have b3 : ((2147483520 : Nat) : Int) ≤ (v2 4) + 2147483648 ∧ (v2 4) + 2147483648 ≤ ((2147483679 : Nat) : Int) := xXb hBd 3 rfl
                have k0 : xE (zyEl zymc B H) 35 6 = v 1 := xKcf hKc 0 rfl rfl
                have f0 : (0 : Int) ≤ 4 ∧ xE (zyEl zymc B H) 35 4 = (v2 2) := xXf hF 0 rfl
                have f1 : (v2 1) < (v2 2) := xXf hF 1 rfl
                have f2 : (0 : Int) ≤ (v2 1) ∧ xE (zyEl zymc B H) 36 (v2 1) = (v2 3) := xXf hF 2 rfl
                have f3 : ¬ (v2 3) = 10 := xXf hF 3 rfl
                have f4 : (0 : Int) ≤ (v2 1) ∧ xE (zyEl zymc B H) 36 (v2 1) = (v2 4) := xXf hF 4 rfl
                have f5 : ¬ (v2 4) = 32 := xXf hF 5 rfl
                have m0 : xE (zyEl zymc B H2) 35 6 = (v2 1) := xXm hM 0 rfl
                have e35_4 : xE (zyEl zymc B H2) 35 4 = xE (zyEl zymc B H) 35 4 := xFr_E hfr rfl
                have q35_4 : xE (zyEl zymc B H) 35 4 = xE (zyEl zymc B s.heap) 35 4 := xFr_E hFr0 rfl
                have e35_5 : xE (zyEl zymc B H2) 35 5 = xE (zyEl zymc B H) 35 5 := xFr_E hfr rfl
                have e35_7 : xE (zyEl zymc B H2) 35 7 = xE (zyEl zymc B H) 35 7 := xFr_E hfr rfl
                have e35_8 : xE (zyEl zymc B H2) 35 8 = xE (zyEl zymc B H) 35 8 := xFr_E hfr rfl
                have e36 : ∀ i, xE (zyEl zymc B H2) 36 i = xE (zyEl zymc B H) 36 i := fun i => xFr_E hfr rfl
                have q36 : ∀ i, xE (zyEl zymc B H) 36 i = xE (zyEl zymc B s.heap) 36 i := fun i => xFr_E hFr0 rfl
                have hI : xE (zyEl zymc B H) 35 6 ≤ (xE (zyEl zymc B s.heap) 35 4) ∧ tFr (xE (zyEl zymc B s.heap) 36) (xE (zyEl zymc B s.heap) 35 4) (xE (zyEl zymc B H) 35 6) = tFr (xE (zyEl zymc B s.heap) 36) (xE (zyEl zymc B s.heap) 35 4) (xE (zyEl zymc B s.heap) 35 6) := hInv
                obtain ⟨i1, i2⟩ := hI
                have t2 : xE (zyEl zymc B s.heap) 36 (xE (zyEl zymc B H) 35 6) = (v2 3) := by rw [← q36, show xE (zyEl zymc B H) 35 6 = (v2 1) by omega]; exact f2.2
                have t4 : xE (zyEl zymc B s.heap) 36 (xE (zyEl zymc B H) 35 6) = (v2 4) := by rw [← q36, show xE (zyEl zymc B H) 35 6 = (v2 1) by omega]; exact f4.2
                have z35_6 : ((2147483648 : Nat) : Int) ≤ xE (zyEl zymc B H2) 35 6 + 2147483648 ∧ xE (zyEl zymc B H2) 35 6 + 2147483648 ≤ ((2147484548 : Nat) : Int) := xTyF hT2 35 6 6 rfl rfl rfl rfl rfl rfl
                refine xGo hIH hAt hB hv hFr ⟨2, by decide⟩ [0] [0, xE (zyEl zymc B H2) 35 6] rfl ⟨by decide +kernel, ⟨rfl, by decide +kernel⟩, (xcs_c rfl xcs_n), (xe_0 (xe_c (by omega) (by omega) rfl xe_n)), (xkq_c hT2 35 6 (q := 6) rfl rfl rfl rfl rfl rfl rfl rfl rfl rfl rfl xkq_n)⟩ xst_n ?_ ?_
                · show xE (zyEl zymc B H2) 35 6 ≤ (xE (zyEl zymc B s.heap) 35 4) ∧ xE (zyEl zymc B H2) 35 6 = tFr (xE (zyEl zymc B s.heap) 36) (xE (zyEl zymc B s.heap) 35 4) (xE (zyEl zymc B s.heap) 35 6)
                  rw [show xE (zyEl zymc B H2) 35 6 = xE (zyEl zymc B H) 35 6 by omega]
                  exact ⟨by omega, (tFr_e (by omega)).symm.trans i2⟩
                · show 2500 < 3000 + (1000 - xE (zyEl zymc B H) 35 6).toNat
                  omega
              · skip
                rcases List.mem_cons.mp hx with ex | hx
                · subst ex
                  obtain ⟨hF, hBd, hM⟩ := hXs
                  have g1 : v2 1 = v 1 := hag 1 (by decide)
                  have b0 : ((2147483648 : Nat) : Int) ≤ (v2 1) + 2147483648 ∧ (v2 1) + 2147483648 ≤ ((2147484547 : Nat) : Int) := xXb hBd 0 rfl
                  have b1 : ((2147483649 : Nat) : Int) ≤ (v2 2) + 2147483648 ∧ (v2 2) + 2147483648 ≤ ((2147484548 : Nat) : Int) := xXb hBd 1 rfl
                  have b2 : ((2147483520 : Nat) : Int) ≤ (v2 3) + 2147483648 ∧ (v2 3) + 2147483648 ≤ ((2147483657 : Nat) : Int) := xXb hBd 2 rfl
                  have b3 : ((2147483680 : Nat) : Int) ≤ (v2 4) + 2147483648 ∧ (v2 4) + 2147483648 ≤ ((2147483680 : Nat) : Int) := xXb hBd 3 rfl
                  have k0 : xE (zyEl zymc B H) 35 6 = v 1 := xKcf hKc 0 rfl rfl
                  have f0 : (0 : Int) ≤ 4 ∧ xE (zyEl zymc B H) 35 4 = (v2 2) := xXf hF 0 rfl
                  have f1 : (v2 1) < (v2 2) := xXf hF 1 rfl
                  have f2 : (0 : Int) ≤ (v2 1) ∧ xE (zyEl zymc B H) 36 (v2 1) = (v2 3) := xXf hF 2 rfl
                  have f3 : ¬ (v2 3) = 10 := xXf hF 3 rfl
                  have f4 : (0 : Int) ≤ (v2 1) ∧ xE (zyEl zymc B H) 36 (v2 1) = (v2 4) := xXf hF 4 rfl
                  have f5 : (v2 4) = 32 := xXf hF 5 rfl
                  have m0 : xE (zyEl zymc B H2) 35 6 = (v2 1 + 1) := xXm hM 0 rfl
                  have e35_4 : xE (zyEl zymc B H2) 35 4 = xE (zyEl zymc B H) 35 4 := xFr_E hfr rfl
                  have q35_4 : xE (zyEl zymc B H) 35 4 = xE (zyEl zymc B s.heap) 35 4 := xFr_E hFr0 rfl
                  have e35_5 : xE (zyEl zymc B H2) 35 5 = xE (zyEl zymc B H) 35 5 := xFr_E hfr rfl
                  have e35_7 : xE (zyEl zymc B H2) 35 7 = xE (zyEl zymc B H) 35 7 := xFr_E hfr rfl
                  have e35_8 : xE (zyEl zymc B H2) 35 8 = xE (zyEl zymc B H) 35 8 := xFr_E hfr rfl
                  have e36 : ∀ i, xE (zyEl zymc B H2) 36 i = xE (zyEl zymc B H) 36 i := fun i => xFr_E hfr rfl
                  have q36 : ∀ i, xE (zyEl zymc B H) 36 i = xE (zyEl zymc B s.heap) 36 i := fun i => xFr_E hFr0 rfl
                  have hI : xE (zyEl zymc B H) 35 6 ≤ (xE (zyEl zymc B s.heap) 35 4) ∧ tFr (xE (zyEl zymc B s.heap) 36) (xE (zyEl zymc B s.heap) 35 4) (xE (zyEl zymc B H) 35 6) = tFr (xE (zyEl zymc B s.heap) 36) (xE (zyEl zymc B s.heap) 35 4) (xE (zyEl zymc B s.heap) 35 6) := hInv
                  obtain ⟨i1, i2⟩ := hI
                  have t2 : xE (zyEl zymc B s.heap) 36 (xE (zyEl zymc B H) 35 6) = (v2 3) := by rw [← q36, show xE (zyEl zymc B H) 35 6 = (v2 1) by omega]; exact f2.2
                  have t4 : xE (zyEl zymc B s.heap) 36 (xE (zyEl zymc B H) 35 6) = (v2 4) := by rw [← q36, show xE (zyEl zymc B H) 35 6 = (v2 1) by omega]; exact f4.2
                  have z35_6 : ((2147483648 : Nat) : Int) ≤ xE (zyEl zymc B H2) 35 6 + 2147483648 ∧ xE (zyEl zymc B H2) 35 6 + 2147483648 ≤ ((2147484548 : Nat) : Int) := xTyF hT2 35 6 6 rfl rfl rfl rfl rfl rfl
                  refine xGo hIH hAt hB hv hFr ⟨1, by decide⟩ [0] [0, xE (zyEl zymc B H2) 35 6] rfl ⟨by decide +kernel, ⟨rfl, by decide +kernel⟩, (xcs_c rfl xcs_n), (xe_0 (xe_c (by omega) (by omega) rfl xe_n)), (xkq_c hT2 35 6 (q := 6) rfl rfl rfl rfl rfl rfl rfl rfl rfl rfl rfl xkq_n)⟩ xst_n ?_ ?_
                  · show xE (zyEl zymc B H2) 35 6 ≤ (xE (zyEl zymc B s.heap) 35 4) ∧ tFr (xE (zyEl zymc B s.heap) 36) (xE (zyEl zymc B s.heap) 35 4) (xE (zyEl zymc B H2) 35 6) = tFr (xE (zyEl zymc B s.heap) 36) (xE (zyEl zymc B s.heap) 35 4) (xE (zyEl zymc B s.heap) 35 6)
                    rw [show xE (zyEl zymc B H2) 35 6 = xE (zyEl zymc B H) 35 6 + 1 by omega]
                    exact ⟨by omega, (tFr_s (by omega) (by omega)).trans i2⟩
                  · show 3000 + (1000 - xE (zyEl zymc B H2) 35 6).toNat < 3000 + (1000 - xE (zyEl zymc B H) 35 6).toNat
                    omega
                · skip
                  rcases List.mem_cons.mp hx with ex | hx
                  · subst ex
                    obtain ⟨hF, hBd, hM⟩ := hXs
                    have g1 : v2 1 = v 1 := hag 1 (by decide)
                    have b0 : ((2147483648 : Nat) : Int) ≤ (v2 1) + 2147483648 ∧ (v2 1) + 2147483648 ≤ ((2147484547 : Nat) : Int) := xXb hBd 0 rfl
                    have b1 : ((2147483649 : Nat) : Int) ≤ (v2 2) + 2147483648 ∧ (v2 2) + 2147483648 ≤ ((2147484548 : Nat) : Int) := xXb hBd 1 rfl
                    have b2 : ((2147483658 : Nat) : Int) ≤ (v2 3) + 2147483648 ∧ (v2 3) + 2147483648 ≤ ((2147483658 : Nat) : Int) := xXb hBd 2 rfl
                    have k0 : xE (zyEl zymc B H) 35 6 = v 1 := xKcf hKc 0 rfl rfl
                    have f0 : (0 : Int) ≤ 4 ∧ xE (zyEl zymc B H) 35 4 = (v2 2) := xXf hF 0 rfl
                    have f1 : (v2 1) < (v2 2) := xXf hF 1 rfl
                    have f2 : (0 : Int) ≤ (v2 1) ∧ xE (zyEl zymc B H) 36 (v2 1) = (v2 3) := xXf hF 2 rfl
                    have f3 : (v2 3) = 10 := xXf hF 3 rfl
                    have m0 : xE (zyEl zymc B H2) 35 6 = (v2 1 + 1) := xXm hM 0 rfl
                    have e35_4 : xE (zyEl zymc B H2) 35 4 = xE (zyEl zymc B H) 35 4 := xFr_E hfr rfl
                    have q35_4 : xE (zyEl zymc B H) 35 4 = xE (zyEl zymc B s.heap) 35 4 := xFr_E hFr0 rfl
                    have e35_5 : xE (zyEl zymc B H2) 35 5 = xE (zyEl zymc B H) 35 5 := xFr_E hfr rfl
                    have e35_7 : xE (zyEl zymc B H2) 35 7 = xE (zyEl zymc B H) 35 7 := xFr_E hfr rfl
                    have e35_8 : xE (zyEl zymc B H2) 35 8 = xE (zyEl zymc B H) 35 8 := xFr_E hfr rfl
                    have e36 : ∀ i, xE (zyEl zymc B H2) 36 i = xE (zyEl zymc B H) 36 i := fun i => xFr_E hfr rfl
                    have q36 : ∀ i, xE (zyEl zymc B H) 36 i = xE (zyEl zymc B s.heap) 36 i := fun i => xFr_E hFr0 rfl
                    have hI : xE (zyEl zymc B H) 35 6 ≤ (xE (zyEl zymc B s.heap) 35 4) ∧ tFr (xE (zyEl zymc B s.heap) 36) (xE (zyEl zymc B s.heap) 35 4) (xE (zyEl zymc B H) 35 6) = tFr (xE (zyEl zymc B s.heap) 36) (xE (zyEl zymc B s.heap) 35 4) (xE (zyEl zymc B s.heap) 35 6) := hInv
                    obtain ⟨i1, i2⟩ := hI
                    have t2 : xE (zyEl zymc B s.heap) 36 (xE (zyEl zymc B H) 35 6) = (v2 3) := by rw [← q36, show xE (zyEl zymc B H) 35 6 = (v2 1) by omega]; exact f2.2
                    have z35_6 : ((2147483648 : Nat) : Int) ≤ xE (zyEl zymc B H2) 35 6 + 2147483648 ∧ xE (zyEl zymc B H2) 35 6 + 2147483648 ≤ ((2147484548 : Nat) : Int) := xTyF hT2 35 6 6 rfl rfl rfl rfl rfl rfl
                    refine xGo hIH hAt hB hv hFr ⟨1, by decide⟩ [0] [0, xE (zyEl zymc B H2) 35 6] rfl ⟨by decide +kernel, ⟨rfl, by decide +kernel⟩, (xcs_c rfl xcs_n), (xe_0 (xe_c (by omega) (by omega) rfl xe_n)), (xkq_c hT2 35 6 (q := 6) rfl rfl rfl rfl rfl rfl rfl rfl rfl rfl rfl xkq_n)⟩ xst_n ?_ ?_
                    · show xE (zyEl zymc B H2) 35 6 ≤ (xE (zyEl zymc B s.heap) 35 4) ∧ tFr (xE (zyEl zymc B s.heap) 36) (xE (zyEl zymc B s.heap) 35 4) (xE (zyEl zymc B H2) 35 6) = tFr (xE (zyEl zymc B s.heap) 36) (xE (zyEl zymc B s.heap) 35 4) (xE (zyEl zymc B s.heap) 35 6)
                      rw [show xE (zyEl zymc B H2) 35 6 = xE (zyEl zymc B H) 35 6 + 1 by omega]
                      exact ⟨by omega, (tFr_s (by omega) (by omega)).trans i2⟩
                    · show 3000 + (1000 - xE (zyEl zymc B H2) 35 6).toNat < 3000 + (1000 - xE (zyEl zymc B H) 35 6).toNat
                      omega
                  · skip
                    have ex := List.mem_singleton.mp hx
                    subst ex
                    obtain ⟨hF, hBd, hM⟩ := hXs
                    have g1 : v2 1 = v 1 := hag 1 (by decide)
                    have b0 : ((2147483648 : Nat) : Int) ≤ (v2 1) + 2147483648 ∧ (v2 1) + 2147483648 ≤ ((2147484548 : Nat) : Int) := xXb hBd 0 rfl
                    have b1 : ((2147483648 : Nat) : Int) ≤ (v2 2) + 2147483648 ∧ (v2 2) + 2147483648 ≤ ((2147484548 : Nat) : Int) := xXb hBd 1 rfl
                    have k0 : xE (zyEl zymc B H) 35 6 = v 1 := xKcf hKc 0 rfl rfl
                    have f0 : (0 : Int) ≤ 4 ∧ xE (zyEl zymc B H) 35 4 = (v2 2) := xXf hF 0 rfl
                    have f1 : (v2 2) ≤ (v2 1) := xXf hF 1 rfl
                    have m0 : xE (zyEl zymc B H2) 35 6 = (v2 1) := xXm hM 0 rfl
                    have e35_4 : xE (zyEl zymc B H2) 35 4 = xE (zyEl zymc B H) 35 4 := xFr_E hfr rfl
                    have q35_4 : xE (zyEl zymc B H) 35 4 = xE (zyEl zymc B s.heap) 35 4 := xFr_E hFr0 rfl
                    have e35_5 : xE (zyEl zymc B H2) 35 5 = xE (zyEl zymc B H) 35 5 := xFr_E hfr rfl
                    have e35_7 : xE (zyEl zymc B H2) 35 7 = xE (zyEl zymc B H) 35 7 := xFr_E hfr rfl
                    have e35_8 : xE (zyEl zymc B H2) 35 8 = xE (zyEl zymc B H) 35 8 := xFr_E hfr rfl
                    have e36 : ∀ i, xE (zyEl zymc B H2) 36 i = xE (zyEl zymc B H) 36 i := fun i => xFr_E hfr rfl
                    have q36 : ∀ i, xE (zyEl zymc B H) 36 i = xE (zyEl zymc B s.heap) 36 i := fun i => xFr_E hFr0 rfl
                    have hI : xE (zyEl zymc B H) 35 6 ≤ (xE (zyEl zymc B s.heap) 35 4) ∧ tFr (xE (zyEl zymc B s.heap) 36) (xE (zyEl zymc B s.heap) 35 4) (xE (zyEl zymc B H) 35 6) = tFr (xE (zyEl zymc B s.heap) 36) (xE (zyEl zymc B s.heap) 35 4) (xE (zyEl zymc B s.heap) 35 6) := hInv
                    obtain ⟨i1, i2⟩ := hI
                    have z35_6 : ((2147483648 : Nat) : Int) ≤ xE (zyEl zymc B H2) 35 6 + 2147483648 ∧ xE (zyEl zymc B H2) 35 6 + 2147483648 ≤ ((2147484548 : Nat) : Int) := xTyF hT2 35 6 6 rfl rfl rfl rfl rfl rfl
                    refine xGo hIH hAt hB hv hFr ⟨2, by decide⟩ [0] [0, xE (zyEl zymc B H2) 35 6] rfl ⟨by decide +kernel, ⟨rfl, by decide +kernel⟩, (xcs_c rfl xcs_n), (xe_0 (xe_c (by omega) (by omega) rfl xe_n)), (xkq_c hT2 35 6 (q := 6) rfl rfl rfl rfl rfl rfl rfl rfl rfl rfl rfl xkq_n)⟩ xst_n ?_ ?_
                    · show xE (zyEl zymc B H2) 35 6 ≤ (xE (zyEl zymc B s.heap) 35 4) ∧ xE (zyEl zymc B H2) 35 6 = tFr (xE (zyEl zymc B s.heap) 36) (xE (zyEl zymc B s.heap) 35 4) (xE (zyEl zymc B s.heap) 35 6)
                      rw [show xE (zyEl zymc B H2) 35 6 = xE (zyEl zymc B H) 35 6 by omega]
                      exact ⟨by omega, (tFr_e (by omega)).symm.trans i2⟩
                    · show 2500 < 3000 + (1000 - xE (zyEl zymc B H) 35 6).toNat
                      omega
    · have hx : x ∈ [zxfad_bx0, zxfad_bx1] := hx
      have hag : ∀ k, k < 2 → v2 k = v k := hag
      have hfr : xFr [(35, 5, 7)] _ _ := hfr
      rcases List.mem_cons.mp hx with ex | hx
      · subst ex
        obtain ⟨hF, hBd, hM⟩ := hXs
        have g1 : v2 1 = v 1 := hag 1 (by decide)
        have b0 : ((2147483648 : Nat) : Int) ≤ (v2 1) + 2147483648 ∧ (v2 1) + 2147483648 ≤ ((2147484547 : Nat) : Int) := xXb hBd 0 rfl
        have b1 : ((2147483649 : Nat) : Int) ≤ (v2 2) + 2147483648 ∧ (v2 2) + 2147483648 ≤ ((2147484548 : Nat) : Int) := xXb hBd 1 rfl
        have b2 : ((2147483696 : Nat) : Int) ≤ (v2 3) + 2147483648 ∧ (v2 3) + 2147483648 ≤ ((2147483705 : Nat) : Int) := xXb hBd 2 rfl
        have k0 : xE (zyEl zymc B H) 35 6 = v 1 := xKcf hKc 0 rfl rfl
        have f0 : (0 : Int) ≤ 4 ∧ xE (zyEl zymc B H) 35 4 = (v2 2) := xXf hF 0 rfl
        have f1 : (v2 1) < (v2 2) := xXf hF 1 rfl
        have f2 : (0 : Int) ≤ (v2 1) ∧ xE (zyEl zymc B H) 36 (v2 1) = (v2 3) := xXf hF 2 rfl
        have f3 : (v2 3) < 97 := xXf hF 3 rfl
        have f4 : 48 ≤ (v2 3) := xXf hF 4 rfl
        have f5 : (v2 3) ≤ 57 := xXf hF 5 rfl
        have m0 : xE (zyEl zymc B H2) 35 5 = (v2 1) := xXm hM 0 rfl
        have m1 : xE (zyEl zymc B H2) 35 6 = (v2 1 + 1) := xXm hM 1 rfl
        have m2 : xE (zyEl zymc B H2) 35 7 = 3 := xXm hM 2 rfl
        have e35_4 : xE (zyEl zymc B H2) 35 4 = xE (zyEl zymc B H) 35 4 := xFr_E hfr rfl
        have q35_4 : xE (zyEl zymc B H) 35 4 = xE (zyEl zymc B s.heap) 35 4 := xFr_E hFr0 rfl
        have e35_8 : xE (zyEl zymc B H2) 35 8 = xE (zyEl zymc B H) 35 8 := xFr_E hfr rfl
        have e36 : ∀ i, xE (zyEl zymc B H2) 36 i = xE (zyEl zymc B H) 36 i := fun i => xFr_E hfr rfl
        have q36 : ∀ i, xE (zyEl zymc B H) 36 i = xE (zyEl zymc B s.heap) 36 i := fun i => xFr_E hFr0 rfl
        have hI : xE (zyEl zymc B H) 35 6 ≤ (xE (zyEl zymc B s.heap) 35 4) ∧ xE (zyEl zymc B H) 35 6 = tFr (xE (zyEl zymc B s.heap) 36) (xE (zyEl zymc B s.heap) 35 4) (xE (zyEl zymc B s.heap) 35 6) := hInv
        obtain ⟨i1, i2⟩ := hI
        have t2 : xE (zyEl zymc B s.heap) 36 (xE (zyEl zymc B H) 35 6) = (v2 3) := by rw [← q36, show xE (zyEl zymc B H) 35 6 = (v2 1) by omega]; exact f2.2
        have hk : tk (xE (zyEl zymc B s.heap) 36 (xE (zyEl zymc B H) 35 6)) = 3 := by rw [t2]; exact tk3 (by omega) (by omega)
        have z35_6 : ((2147483648 : Nat) : Int) ≤ xE (zyEl zymc B H2) 35 6 + 2147483648 ∧ xE (zyEl zymc B H2) 35 6 + 2147483648 ≤ ((2147484548 : Nat) : Int) := xTyF hT2 35 6 6 rfl rfl rfl rfl rfl rfl
        refine xGo hIH hAt hB hv hFr ⟨3, by decide⟩ [0] [0, xE (zyEl zymc B H2) 35 6] rfl ⟨by decide +kernel, ⟨rfl, by decide +kernel⟩, (xcs_c rfl xcs_n), (xe_0 (xe_c (by omega) (by omega) rfl xe_n)), (xkq_c hT2 35 6 (q := 6) rfl rfl rfl rfl rfl rfl rfl rfl rfl rfl rfl xkq_n)⟩ xst_n ?_ ?_
        · show xE (zyEl zymc B H2) 35 5 = tFr (xE (zyEl zymc B s.heap) 36) (xE (zyEl zymc B s.heap) 35 4) (xE (zyEl zymc B s.heap) 35 6) ∧ xE (zyEl zymc B H2) 35 5 < (xE (zyEl zymc B s.heap) 35 4) ∧ xE (zyEl zymc B H2) 35 7 = tk ((xE (zyEl zymc B s.heap) 36) (xE (zyEl zymc B H2) 35 5)) ∧ (xE (zyEl zymc B H2) 35 7 = 2 ∨ xE (zyEl zymc B H2) 35 7 = 3) ∧ (xE (zyEl zymc B H2) 35 5 < xE (zyEl zymc B H2) 35 6 ∧ xE (zyEl zymc B H2) 35 6 ≤ (xE (zyEl zymc B s.heap) 35 4)) ∧ tRn (xE (zyEl zymc B s.heap) 36) (xE (zyEl zymc B s.heap) 35 4) (xE (zyEl zymc B H2) 35 7) (xE (zyEl zymc B H2) 35 6) = tRn (xE (zyEl zymc B s.heap) 36) (xE (zyEl zymc B s.heap) 35 4) (xE (zyEl zymc B H2) 35 7) (xE (zyEl zymc B H2) 35 5 + 1)
          rw [show xE (zyEl zymc B H2) 35 5 = xE (zyEl zymc B H) 35 6 by omega, show xE (zyEl zymc B H2) 35 7 = 3 by omega, show xE (zyEl zymc B H2) 35 6 = xE (zyEl zymc B H) 35 6 + 1 by omega]
          exact ⟨i2, by omega, hk.symm, by omega, by omega, rfl⟩
        · show 1000 + (1000 - xE (zyEl zymc B H2) 35 6).toNat < 2500
          omega
      · skip
        have ex := List.mem_singleton.mp hx
        subst ex
        obtain ⟨hF, hBd, hM⟩ := hXs
        have g1 : v2 1 = v 1 := hag 1 (by decide)
        have b0 : ((2147483648 : Nat) : Int) ≤ (v2 1) + 2147483648 ∧ (v2 1) + 2147483648 ≤ ((2147484547 : Nat) : Int) := xXb hBd 0 rfl
        have b1 : ((2147483649 : Nat) : Int) ≤ (v2 2) + 2147483648 ∧ (v2 2) + 2147483648 ≤ ((2147484548 : Nat) : Int) := xXb hBd 1 rfl
        have b2 : ((2147483745 : Nat) : Int) ≤ (v2 3) + 2147483648 ∧ (v2 3) + 2147483648 ≤ ((2147483770 : Nat) : Int) := xXb hBd 2 rfl
        have k0 : xE (zyEl zymc B H) 35 6 = v 1 := xKcf hKc 0 rfl rfl
        have f0 : (0 : Int) ≤ 4 ∧ xE (zyEl zymc B H) 35 4 = (v2 2) := xXf hF 0 rfl
        have f1 : (v2 1) < (v2 2) := xXf hF 1 rfl
        have f2 : (0 : Int) ≤ (v2 1) ∧ xE (zyEl zymc B H) 36 (v2 1) = (v2 3) := xXf hF 2 rfl
        have f3 : 97 ≤ (v2 3) := xXf hF 3 rfl
        have f4 : (v2 3) ≤ 122 := xXf hF 4 rfl
        have m0 : xE (zyEl zymc B H2) 35 5 = (v2 1) := xXm hM 0 rfl
        have m1 : xE (zyEl zymc B H2) 35 6 = (v2 1 + 1) := xXm hM 1 rfl
        have m2 : xE (zyEl zymc B H2) 35 7 = 2 := xXm hM 2 rfl
        have e35_4 : xE (zyEl zymc B H2) 35 4 = xE (zyEl zymc B H) 35 4 := xFr_E hfr rfl
        have q35_4 : xE (zyEl zymc B H) 35 4 = xE (zyEl zymc B s.heap) 35 4 := xFr_E hFr0 rfl
        have e35_8 : xE (zyEl zymc B H2) 35 8 = xE (zyEl zymc B H) 35 8 := xFr_E hfr rfl
        have e36 : ∀ i, xE (zyEl zymc B H2) 36 i = xE (zyEl zymc B H) 36 i := fun i => xFr_E hfr rfl
        have q36 : ∀ i, xE (zyEl zymc B H) 36 i = xE (zyEl zymc B s.heap) 36 i := fun i => xFr_E hFr0 rfl
        have hI : xE (zyEl zymc B H) 35 6 ≤ (xE (zyEl zymc B s.heap) 35 4) ∧ xE (zyEl zymc B H) 35 6 = tFr (xE (zyEl zymc B s.heap) 36) (xE (zyEl zymc B s.heap) 35 4) (xE (zyEl zymc B s.heap) 35 6) := hInv
        obtain ⟨i1, i2⟩ := hI
        have t2 : xE (zyEl zymc B s.heap) 36 (xE (zyEl zymc B H) 35 6) = (v2 3) := by rw [← q36, show xE (zyEl zymc B H) 35 6 = (v2 1) by omega]; exact f2.2
        have hk : tk (xE (zyEl zymc B s.heap) 36 (xE (zyEl zymc B H) 35 6)) = 2 := by rw [t2]; exact tk2 (by omega) (by omega)
        have z35_6 : ((2147483648 : Nat) : Int) ≤ xE (zyEl zymc B H2) 35 6 + 2147483648 ∧ xE (zyEl zymc B H2) 35 6 + 2147483648 ≤ ((2147484548 : Nat) : Int) := xTyF hT2 35 6 6 rfl rfl rfl rfl rfl rfl
        refine xGo hIH hAt hB hv hFr ⟨3, by decide⟩ [0] [0, xE (zyEl zymc B H2) 35 6] rfl ⟨by decide +kernel, ⟨rfl, by decide +kernel⟩, (xcs_c rfl xcs_n), (xe_0 (xe_c (by omega) (by omega) rfl xe_n)), (xkq_c hT2 35 6 (q := 6) rfl rfl rfl rfl rfl rfl rfl rfl rfl rfl rfl xkq_n)⟩ xst_n ?_ ?_
        · show xE (zyEl zymc B H2) 35 5 = tFr (xE (zyEl zymc B s.heap) 36) (xE (zyEl zymc B s.heap) 35 4) (xE (zyEl zymc B s.heap) 35 6) ∧ xE (zyEl zymc B H2) 35 5 < (xE (zyEl zymc B s.heap) 35 4) ∧ xE (zyEl zymc B H2) 35 7 = tk ((xE (zyEl zymc B s.heap) 36) (xE (zyEl zymc B H2) 35 5)) ∧ (xE (zyEl zymc B H2) 35 7 = 2 ∨ xE (zyEl zymc B H2) 35 7 = 3) ∧ (xE (zyEl zymc B H2) 35 5 < xE (zyEl zymc B H2) 35 6 ∧ xE (zyEl zymc B H2) 35 6 ≤ (xE (zyEl zymc B s.heap) 35 4)) ∧ tRn (xE (zyEl zymc B s.heap) 36) (xE (zyEl zymc B s.heap) 35 4) (xE (zyEl zymc B H2) 35 7) (xE (zyEl zymc B H2) 35 6) = tRn (xE (zyEl zymc B s.heap) 36) (xE (zyEl zymc B s.heap) 35 4) (xE (zyEl zymc B H2) 35 7) (xE (zyEl zymc B H2) 35 5 + 1)
          rw [show xE (zyEl zymc B H2) 35 5 = xE (zyEl zymc B H) 35 6 by omega, show xE (zyEl zymc B H2) 35 7 = 2 by omega, show xE (zyEl zymc B H2) 35 6 = xE (zyEl zymc B H) 35 6 + 1 by omega]
          exact ⟨i2, by omega, hk.symm, by omega, by omega, rfl⟩
        · show 1000 + (1000 - xE (zyEl zymc B H2) 35 6).toNat < 2500
          omega
    · have hx : x ∈ [zxfad_cx0, zxfad_cx1, zxfad_cx2, zxfad_cx3, zxfad_cx4, zxfad_cx5, zxfad_cx6, zxfad_cx7, zxfad_cx8, zxfad_cx9, zxfad_cx10, zxfad_cx11, zxfad_cx12, zxfad_cx13, zxfad_cx14, zxfad_cx15, zxfad_cx16, zxfad_cx17, zxfad_cx18, zxfad_cx19, zxfad_cx20, zxfad_cx21, zxfad_cx22, zxfad_cx23, zxfad_cx24, zxfad_cx25, zxfad_cx26] := hx
      have hag : ∀ k, k < 2 → v2 k = v k := hag
      have hfr : xFr [(35, 6, 6)] _ _ := hfr
      rcases List.mem_cons.mp hx with ex | hx
      · subst ex
        obtain ⟨hF, hBd, hM⟩ := hXs
        have g1 : v2 1 = v 1 := hag 1 (by decide)
        have b0 : ((2147483648 : Nat) : Int) ≤ (v2 1) + 2147483648 ∧ (v2 1) + 2147483648 ≤ ((2147484547 : Nat) : Int) := xXb hBd 0 rfl
        have b1 : ((2147483649 : Nat) : Int) ≤ (v2 2) + 2147483648 ∧ (v2 2) + 2147483648 ≤ ((2147484548 : Nat) : Int) := xXb hBd 1 rfl
        have b2 : ((2147483694 : Nat) : Int) ≤ (v2 3) + 2147483648 ∧ (v2 3) + 2147483648 ≤ ((2147483695 : Nat) : Int) := xXb hBd 2 rfl
        have b3 : ((2147483650 : Nat) : Int) ≤ (v2 4) + 2147483648 ∧ (v2 4) + 2147483648 ≤ ((2147483653 : Nat) : Int) := xXb hBd 3 rfl
        have k0 : xE (zyEl zymc B H) 35 6 = v 1 := xKcf hKc 0 rfl rfl
        have f0 : (0 : Int) ≤ 4 ∧ xE (zyEl zymc B H) 35 4 = (v2 2) := xXf hF 0 rfl
        have f1 : (v2 1) < (v2 2) := xXf hF 1 rfl
        have f2 : (0 : Int) ≤ (v2 1) ∧ xE (zyEl zymc B H) 36 (v2 1) = (v2 3) := xXf hF 2 rfl
        have f3 : (v2 3) < 97 := xXf hF 3 rfl
        have f4 : (v2 3) < 48 := xXf hF 4 rfl
        have f5 : ¬ (v2 3) = 45 := xXf hF 5 rfl
        have f6 : ¬ (v2 3) = 59 := xXf hF 6 rfl
        have f7 : (0 : Int) ≤ 7 ∧ xE (zyEl zymc B H) 35 7 = (v2 4) := xXf hF 7 rfl
        have f8 : ¬ 1 = (v2 4) := xXf hF 8 rfl
        have m0 : xE (zyEl zymc B H2) 35 6 = (v2 1) := xXm hM 0 rfl
        have e35_4 : xE (zyEl zymc B H2) 35 4 = xE (zyEl zymc B H) 35 4 := xFr_E hfr rfl
        have q35_4 : xE (zyEl zymc B H) 35 4 = xE (zyEl zymc B s.heap) 35 4 := xFr_E hFr0 rfl
        have e35_5 : xE (zyEl zymc B H2) 35 5 = xE (zyEl zymc B H) 35 5 := xFr_E hfr rfl
        have e35_7 : xE (zyEl zymc B H2) 35 7 = xE (zyEl zymc B H) 35 7 := xFr_E hfr rfl
        have e35_8 : xE (zyEl zymc B H2) 35 8 = xE (zyEl zymc B H) 35 8 := xFr_E hfr rfl
        have e36 : ∀ i, xE (zyEl zymc B H2) 36 i = xE (zyEl zymc B H) 36 i := fun i => xFr_E hfr rfl
        have q36 : ∀ i, xE (zyEl zymc B H) 36 i = xE (zyEl zymc B s.heap) 36 i := fun i => xFr_E hFr0 rfl
        have hI : xE (zyEl zymc B H) 35 5 = tFr (xE (zyEl zymc B s.heap) 36) (xE (zyEl zymc B s.heap) 35 4) (xE (zyEl zymc B s.heap) 35 6) ∧ xE (zyEl zymc B H) 35 5 < (xE (zyEl zymc B s.heap) 35 4) ∧ xE (zyEl zymc B H) 35 7 = tk ((xE (zyEl zymc B s.heap) 36) (xE (zyEl zymc B H) 35 5)) ∧ (xE (zyEl zymc B H) 35 7 = 2 ∨ xE (zyEl zymc B H) 35 7 = 3) ∧ (xE (zyEl zymc B H) 35 5 < xE (zyEl zymc B H) 35 6 ∧ xE (zyEl zymc B H) 35 6 ≤ (xE (zyEl zymc B s.heap) 35 4)) ∧ tRn (xE (zyEl zymc B s.heap) 36) (xE (zyEl zymc B s.heap) 35 4) (xE (zyEl zymc B H) 35 7) (xE (zyEl zymc B H) 35 6) = tRn (xE (zyEl zymc B s.heap) 36) (xE (zyEl zymc B s.heap) 35 4) (xE (zyEl zymc B H) 35 7) (xE (zyEl zymc B H) 35 5 + 1) := hInv
        obtain ⟨i1, i2, i3, i4, i5, i6⟩ := hI
        have t2 : xE (zyEl zymc B s.heap) 36 (xE (zyEl zymc B H) 35 6) = (v2 3) := by rw [← q36, show xE (zyEl zymc B H) 35 6 = (v2 1) by omega]; exact f2.2
        have hk : tk (xE (zyEl zymc B s.heap) 36 (xE (zyEl zymc B H) 35 6)) = 1 := by rw [t2]; exact tk1 (by omega) (by omega) (by omega) (by omega)
        have hx := tRn_e (T := xE (zyEl zymc B s.heap) 36) (n := xE (zyEl zymc B s.heap) 35 4) (k := xE (zyEl zymc B H) 35 7) (p := xE (zyEl zymc B H) 35 6) (by omega)
        refine xGo hIH hAt hB hv hFr ⟨4, by decide⟩ [0] [0] rfl ⟨by decide +kernel, ⟨rfl, by decide +kernel⟩, (xcs_c rfl xcs_n), (xe_0 xe_n), xkq_n⟩ xst_n ?_ ?_
        · show xE (zyEl zymc B H2) 35 5 = tFr (xE (zyEl zymc B s.heap) 36) (xE (zyEl zymc B s.heap) 35 4) (xE (zyEl zymc B s.heap) 35 6) ∧ xE (zyEl zymc B H2) 35 5 < (xE (zyEl zymc B s.heap) 35 4) ∧ xE (zyEl zymc B H2) 35 7 = tk ((xE (zyEl zymc B s.heap) 36) (xE (zyEl zymc B H2) 35 5)) ∧ (xE (zyEl zymc B H2) 35 7 = 2 ∨ xE (zyEl zymc B H2) 35 7 = 3) ∧ xE (zyEl zymc B H2) 35 6 = tNx (xE (zyEl zymc B s.heap) 36) (xE (zyEl zymc B s.heap) 35 4) (xE (zyEl zymc B s.heap) 35 6)
          rw [show xE (zyEl zymc B H2) 35 5 = xE (zyEl zymc B H) 35 5 by omega, show xE (zyEl zymc B H2) 35 7 = xE (zyEl zymc B H) 35 7 by omega, show xE (zyEl zymc B H2) 35 6 = xE (zyEl zymc B H) 35 6 by omega]
          refine ⟨i1, i2, i3, i4, ?_⟩
          rw [tNx_k (by omega) (by rw [← i1, ← i3]; exact i4), ← i1, ← i3, ← i6]
          exact hx.symm
        · show 500 < 1000 + (1000 - xE (zyEl zymc B H) 35 6).toNat
          omega
      · skip
        rcases List.mem_cons.mp hx with ex | hx
        · subst ex
          obtain ⟨hF, hBd, hM⟩ := hXs
          have g1 : v2 1 = v 1 := hag 1 (by decide)
          have b0 : ((2147483648 : Nat) : Int) ≤ (v2 1) + 2147483648 ∧ (v2 1) + 2147483648 ≤ ((2147484547 : Nat) : Int) := xXb hBd 0 rfl
          have b1 : ((2147483649 : Nat) : Int) ≤ (v2 2) + 2147483648 ∧ (v2 2) + 2147483648 ≤ ((2147484548 : Nat) : Int) := xXb hBd 1 rfl
          have b2 : ((2147483694 : Nat) : Int) ≤ (v2 3) + 2147483648 ∧ (v2 3) + 2147483648 ≤ ((2147483695 : Nat) : Int) := xXb hBd 2 rfl
          have b3 : ((2147483648 : Nat) : Int) ≤ (v2 4) + 2147483648 ∧ (v2 4) + 2147483648 ≤ ((2147483648 : Nat) : Int) := xXb hBd 3 rfl
          have k0 : xE (zyEl zymc B H) 35 6 = v 1 := xKcf hKc 0 rfl rfl
          have f0 : (0 : Int) ≤ 4 ∧ xE (zyEl zymc B H) 35 4 = (v2 2) := xXf hF 0 rfl
          have f1 : (v2 1) < (v2 2) := xXf hF 1 rfl
          have f2 : (0 : Int) ≤ (v2 1) ∧ xE (zyEl zymc B H) 36 (v2 1) = (v2 3) := xXf hF 2 rfl
          have f3 : (v2 3) < 97 := xXf hF 3 rfl
          have f4 : (v2 3) < 48 := xXf hF 4 rfl
          have f5 : ¬ (v2 3) = 45 := xXf hF 5 rfl
          have f6 : ¬ (v2 3) = 59 := xXf hF 6 rfl
          have f7 : (0 : Int) ≤ 7 ∧ xE (zyEl zymc B H) 35 7 = (v2 4) := xXf hF 7 rfl
          have f8 : ¬ 1 = (v2 4) := xXf hF 8 rfl
          have m0 : xE (zyEl zymc B H2) 35 6 = (v2 1) := xXm hM 0 rfl
          have e35_4 : xE (zyEl zymc B H2) 35 4 = xE (zyEl zymc B H) 35 4 := xFr_E hfr rfl
          have q35_4 : xE (zyEl zymc B H) 35 4 = xE (zyEl zymc B s.heap) 35 4 := xFr_E hFr0 rfl
          have e35_5 : xE (zyEl zymc B H2) 35 5 = xE (zyEl zymc B H) 35 5 := xFr_E hfr rfl
          have e35_7 : xE (zyEl zymc B H2) 35 7 = xE (zyEl zymc B H) 35 7 := xFr_E hfr rfl
          have e35_8 : xE (zyEl zymc B H2) 35 8 = xE (zyEl zymc B H) 35 8 := xFr_E hfr rfl
          have e36 : ∀ i, xE (zyEl zymc B H2) 36 i = xE (zyEl zymc B H) 36 i := fun i => xFr_E hfr rfl
          have q36 : ∀ i, xE (zyEl zymc B H) 36 i = xE (zyEl zymc B s.heap) 36 i := fun i => xFr_E hFr0 rfl
          have hI : xE (zyEl zymc B H) 35 5 = tFr (xE (zyEl zymc B s.heap) 36) (xE (zyEl zymc B s.heap) 35 4) (xE (zyEl zymc B s.heap) 35 6) ∧ xE (zyEl zymc B H) 35 5 < (xE (zyEl zymc B s.heap) 35 4) ∧ xE (zyEl zymc B H) 35 7 = tk ((xE (zyEl zymc B s.heap) 36) (xE (zyEl zymc B H) 35 5)) ∧ (xE (zyEl zymc B H) 35 7 = 2 ∨ xE (zyEl zymc B H) 35 7 = 3) ∧ (xE (zyEl zymc B H) 35 5 < xE (zyEl zymc B H) 35 6 ∧ xE (zyEl zymc B H) 35 6 ≤ (xE (zyEl zymc B s.heap) 35 4)) ∧ tRn (xE (zyEl zymc B s.heap) 36) (xE (zyEl zymc B s.heap) 35 4) (xE (zyEl zymc B H) 35 7) (xE (zyEl zymc B H) 35 6) = tRn (xE (zyEl zymc B s.heap) 36) (xE (zyEl zymc B s.heap) 35 4) (xE (zyEl zymc B H) 35 7) (xE (zyEl zymc B H) 35 5 + 1) := hInv
          obtain ⟨i1, i2, i3, i4, i5, i6⟩ := hI
          have t2 : xE (zyEl zymc B s.heap) 36 (xE (zyEl zymc B H) 35 6) = (v2 3) := by rw [← q36, show xE (zyEl zymc B H) 35 6 = (v2 1) by omega]; exact f2.2
          have hk : tk (xE (zyEl zymc B s.heap) 36 (xE (zyEl zymc B H) 35 6)) = 1 := by rw [t2]; exact tk1 (by omega) (by omega) (by omega) (by omega)
          have hx := tRn_e (T := xE (zyEl zymc B s.heap) 36) (n := xE (zyEl zymc B s.heap) 35 4) (k := xE (zyEl zymc B H) 35 7) (p := xE (zyEl zymc B H) 35 6) (by omega)
          refine xGo hIH hAt hB hv hFr ⟨4, by decide⟩ [0] [0] rfl ⟨by decide +kernel, ⟨rfl, by decide +kernel⟩, (xcs_c rfl xcs_n), (xe_0 xe_n), xkq_n⟩ xst_n ?_ ?_
          · show xE (zyEl zymc B H2) 35 5 = tFr (xE (zyEl zymc B s.heap) 36) (xE (zyEl zymc B s.heap) 35 4) (xE (zyEl zymc B s.heap) 35 6) ∧ xE (zyEl zymc B H2) 35 5 < (xE (zyEl zymc B s.heap) 35 4) ∧ xE (zyEl zymc B H2) 35 7 = tk ((xE (zyEl zymc B s.heap) 36) (xE (zyEl zymc B H2) 35 5)) ∧ (xE (zyEl zymc B H2) 35 7 = 2 ∨ xE (zyEl zymc B H2) 35 7 = 3) ∧ xE (zyEl zymc B H2) 35 6 = tNx (xE (zyEl zymc B s.heap) 36) (xE (zyEl zymc B s.heap) 35 4) (xE (zyEl zymc B s.heap) 35 6)
            rw [show xE (zyEl zymc B H2) 35 5 = xE (zyEl zymc B H) 35 5 by omega, show xE (zyEl zymc B H2) 35 7 = xE (zyEl zymc B H) 35 7 by omega, show xE (zyEl zymc B H2) 35 6 = xE (zyEl zymc B H) 35 6 by omega]
            refine ⟨i1, i2, i3, i4, ?_⟩
            rw [tNx_k (by omega) (by rw [← i1, ← i3]; exact i4), ← i1, ← i3, ← i6]
            exact hx.symm
          · show 500 < 1000 + (1000 - xE (zyEl zymc B H) 35 6).toNat
            omega
        · skip
          rcases List.mem_cons.mp hx with ex | hx
          · subst ex
            obtain ⟨hF, hBd, hM⟩ := hXs
            have g1 : v2 1 = v 1 := hag 1 (by decide)
            have b0 : ((2147483648 : Nat) : Int) ≤ (v2 1) + 2147483648 ∧ (v2 1) + 2147483648 ≤ ((2147484547 : Nat) : Int) := xXb hBd 0 rfl
            have b1 : ((2147483649 : Nat) : Int) ≤ (v2 2) + 2147483648 ∧ (v2 2) + 2147483648 ≤ ((2147484548 : Nat) : Int) := xXb hBd 1 rfl
            have b2 : ((2147483694 : Nat) : Int) ≤ (v2 3) + 2147483648 ∧ (v2 3) + 2147483648 ≤ ((2147483695 : Nat) : Int) := xXb hBd 2 rfl
            have b3 : ((2147483649 : Nat) : Int) ≤ (v2 4) + 2147483648 ∧ (v2 4) + 2147483648 ≤ ((2147483649 : Nat) : Int) := xXb hBd 3 rfl
            have k0 : xE (zyEl zymc B H) 35 6 = v 1 := xKcf hKc 0 rfl rfl
            have f0 : (0 : Int) ≤ 4 ∧ xE (zyEl zymc B H) 35 4 = (v2 2) := xXf hF 0 rfl
            have f1 : (v2 1) < (v2 2) := xXf hF 1 rfl
            have f2 : (0 : Int) ≤ (v2 1) ∧ xE (zyEl zymc B H) 36 (v2 1) = (v2 3) := xXf hF 2 rfl
            have f3 : (v2 3) < 97 := xXf hF 3 rfl
            have f4 : (v2 3) < 48 := xXf hF 4 rfl
            have f5 : ¬ (v2 3) = 45 := xXf hF 5 rfl
            have f6 : ¬ (v2 3) = 59 := xXf hF 6 rfl
            have f7 : (0 : Int) ≤ 7 ∧ xE (zyEl zymc B H) 35 7 = (v2 4) := xXf hF 7 rfl
            have f8 : 1 = (v2 4) := xXf hF 8 rfl
            have m0 : xE (zyEl zymc B H2) 35 6 = (v2 1 + 1) := xXm hM 0 rfl
            have e35_4 : xE (zyEl zymc B H2) 35 4 = xE (zyEl zymc B H) 35 4 := xFr_E hfr rfl
            have q35_4 : xE (zyEl zymc B H) 35 4 = xE (zyEl zymc B s.heap) 35 4 := xFr_E hFr0 rfl
            have e35_5 : xE (zyEl zymc B H2) 35 5 = xE (zyEl zymc B H) 35 5 := xFr_E hfr rfl
            have e35_7 : xE (zyEl zymc B H2) 35 7 = xE (zyEl zymc B H) 35 7 := xFr_E hfr rfl
            have e35_8 : xE (zyEl zymc B H2) 35 8 = xE (zyEl zymc B H) 35 8 := xFr_E hfr rfl
            have e36 : ∀ i, xE (zyEl zymc B H2) 36 i = xE (zyEl zymc B H) 36 i := fun i => xFr_E hfr rfl
            have q36 : ∀ i, xE (zyEl zymc B H) 36 i = xE (zyEl zymc B s.heap) 36 i := fun i => xFr_E hFr0 rfl
            have hI : xE (zyEl zymc B H) 35 5 = tFr (xE (zyEl zymc B s.heap) 36) (xE (zyEl zymc B s.heap) 35 4) (xE (zyEl zymc B s.heap) 35 6) ∧ xE (zyEl zymc B H) 35 5 < (xE (zyEl zymc B s.heap) 35 4) ∧ xE (zyEl zymc B H) 35 7 = tk ((xE (zyEl zymc B s.heap) 36) (xE (zyEl zymc B H) 35 5)) ∧ (xE (zyEl zymc B H) 35 7 = 2 ∨ xE (zyEl zymc B H) 35 7 = 3) ∧ (xE (zyEl zymc B H) 35 5 < xE (zyEl zymc B H) 35 6 ∧ xE (zyEl zymc B H) 35 6 ≤ (xE (zyEl zymc B s.heap) 35 4)) ∧ tRn (xE (zyEl zymc B s.heap) 36) (xE (zyEl zymc B s.heap) 35 4) (xE (zyEl zymc B H) 35 7) (xE (zyEl zymc B H) 35 6) = tRn (xE (zyEl zymc B s.heap) 36) (xE (zyEl zymc B s.heap) 35 4) (xE (zyEl zymc B H) 35 7) (xE (zyEl zymc B H) 35 5 + 1) := hInv
            obtain ⟨i1, i2, i3, i4, i5, i6⟩ := hI
            have t2 : xE (zyEl zymc B s.heap) 36 (xE (zyEl zymc B H) 35 6) = (v2 3) := by rw [← q36, show xE (zyEl zymc B H) 35 6 = (v2 1) by omega]; exact f2.2
            have hk : tk (xE (zyEl zymc B s.heap) 36 (xE (zyEl zymc B H) 35 6)) = xE (zyEl zymc B H) 35 7 := by rw [t2, show xE (zyEl zymc B H) 35 7 = 1 by omega]; exact tk1 (by omega) (by omega) (by omega) (by omega)
            have z35_6 : ((2147483648 : Nat) : Int) ≤ xE (zyEl zymc B H2) 35 6 + 2147483648 ∧ xE (zyEl zymc B H2) 35 6 + 2147483648 ≤ ((2147484548 : Nat) : Int) := xTyF hT2 35 6 6 rfl rfl rfl rfl rfl rfl
            refine xGo hIH hAt hB hv hFr ⟨3, by decide⟩ [0] [0, xE (zyEl zymc B H2) 35 6] rfl ⟨by decide +kernel, ⟨rfl, by decide +kernel⟩, (xcs_c rfl xcs_n), (xe_0 (xe_c (by omega) (by omega) rfl xe_n)), (xkq_c hT2 35 6 (q := 6) rfl rfl rfl rfl rfl rfl rfl rfl rfl rfl rfl xkq_n)⟩ xst_n ?_ ?_
            · show xE (zyEl zymc B H2) 35 5 = tFr (xE (zyEl zymc B s.heap) 36) (xE (zyEl zymc B s.heap) 35 4) (xE (zyEl zymc B s.heap) 35 6) ∧ xE (zyEl zymc B H2) 35 5 < (xE (zyEl zymc B s.heap) 35 4) ∧ xE (zyEl zymc B H2) 35 7 = tk ((xE (zyEl zymc B s.heap) 36) (xE (zyEl zymc B H2) 35 5)) ∧ (xE (zyEl zymc B H2) 35 7 = 2 ∨ xE (zyEl zymc B H2) 35 7 = 3) ∧ (xE (zyEl zymc B H2) 35 5 < xE (zyEl zymc B H2) 35 6 ∧ xE (zyEl zymc B H2) 35 6 ≤ (xE (zyEl zymc B s.heap) 35 4)) ∧ tRn (xE (zyEl zymc B s.heap) 36) (xE (zyEl zymc B s.heap) 35 4) (xE (zyEl zymc B H2) 35 7) (xE (zyEl zymc B H2) 35 6) = tRn (xE (zyEl zymc B s.heap) 36) (xE (zyEl zymc B s.heap) 35 4) (xE (zyEl zymc B H2) 35 7) (xE (zyEl zymc B H2) 35 5 + 1)
              rw [show xE (zyEl zymc B H2) 35 5 = xE (zyEl zymc B H) 35 5 by omega, show xE (zyEl zymc B H2) 35 7 = xE (zyEl zymc B H) 35 7 by omega, show xE (zyEl zymc B H2) 35 6 = xE (zyEl zymc B H) 35 6 + 1 by omega]
              exact ⟨i1, i2, i3, i4, by omega, (tRn_s (by omega) hk).trans i6⟩
            · show 1000 + (1000 - xE (zyEl zymc B H2) 35 6).toNat < 1000 + (1000 - xE (zyEl zymc B H) 35 6).toNat
              omega
          · skip
            rcases List.mem_cons.mp hx with ex | hx
            · subst ex
              obtain ⟨hF, hBd, hM⟩ := hXs
              have g1 : v2 1 = v 1 := hag 1 (by decide)
              have b0 : ((2147483648 : Nat) : Int) ≤ (v2 1) + 2147483648 ∧ (v2 1) + 2147483648 ≤ ((2147484547 : Nat) : Int) := xXb hBd 0 rfl
              have b1 : ((2147483649 : Nat) : Int) ≤ (v2 2) + 2147483648 ∧ (v2 2) + 2147483648 ≤ ((2147484548 : Nat) : Int) := xXb hBd 1 rfl
              have b2 : ((2147483520 : Nat) : Int) ≤ (v2 3) + 2147483648 ∧ (v2 3) + 2147483648 ≤ ((2147483692 : Nat) : Int) := xXb hBd 2 rfl
              have b3 : ((2147483650 : Nat) : Int) ≤ (v2 4) + 2147483648 ∧ (v2 4) + 2147483648 ≤ ((2147483653 : Nat) : Int) := xXb hBd 3 rfl
              have k0 : xE (zyEl zymc B H) 35 6 = v 1 := xKcf hKc 0 rfl rfl
              have f0 : (0 : Int) ≤ 4 ∧ xE (zyEl zymc B H) 35 4 = (v2 2) := xXf hF 0 rfl
              have f1 : (v2 1) < (v2 2) := xXf hF 1 rfl
              have f2 : (0 : Int) ≤ (v2 1) ∧ xE (zyEl zymc B H) 36 (v2 1) = (v2 3) := xXf hF 2 rfl
              have f3 : (v2 3) < 97 := xXf hF 3 rfl
              have f4 : (v2 3) < 48 := xXf hF 4 rfl
              have f5 : ¬ (v2 3) = 45 := xXf hF 5 rfl
              have f6 : ¬ (v2 3) = 59 := xXf hF 6 rfl
              have f7 : (0 : Int) ≤ 7 ∧ xE (zyEl zymc B H) 35 7 = (v2 4) := xXf hF 7 rfl
              have f8 : ¬ 1 = (v2 4) := xXf hF 8 rfl
              have m0 : xE (zyEl zymc B H2) 35 6 = (v2 1) := xXm hM 0 rfl
              have e35_4 : xE (zyEl zymc B H2) 35 4 = xE (zyEl zymc B H) 35 4 := xFr_E hfr rfl
              have q35_4 : xE (zyEl zymc B H) 35 4 = xE (zyEl zymc B s.heap) 35 4 := xFr_E hFr0 rfl
              have e35_5 : xE (zyEl zymc B H2) 35 5 = xE (zyEl zymc B H) 35 5 := xFr_E hfr rfl
              have e35_7 : xE (zyEl zymc B H2) 35 7 = xE (zyEl zymc B H) 35 7 := xFr_E hfr rfl
              have e35_8 : xE (zyEl zymc B H2) 35 8 = xE (zyEl zymc B H) 35 8 := xFr_E hfr rfl
              have e36 : ∀ i, xE (zyEl zymc B H2) 36 i = xE (zyEl zymc B H) 36 i := fun i => xFr_E hfr rfl
              have q36 : ∀ i, xE (zyEl zymc B H) 36 i = xE (zyEl zymc B s.heap) 36 i := fun i => xFr_E hFr0 rfl
              have hI : xE (zyEl zymc B H) 35 5 = tFr (xE (zyEl zymc B s.heap) 36) (xE (zyEl zymc B s.heap) 35 4) (xE (zyEl zymc B s.heap) 35 6) ∧ xE (zyEl zymc B H) 35 5 < (xE (zyEl zymc B s.heap) 35 4) ∧ xE (zyEl zymc B H) 35 7 = tk ((xE (zyEl zymc B s.heap) 36) (xE (zyEl zymc B H) 35 5)) ∧ (xE (zyEl zymc B H) 35 7 = 2 ∨ xE (zyEl zymc B H) 35 7 = 3) ∧ (xE (zyEl zymc B H) 35 5 < xE (zyEl zymc B H) 35 6 ∧ xE (zyEl zymc B H) 35 6 ≤ (xE (zyEl zymc B s.heap) 35 4)) ∧ tRn (xE (zyEl zymc B s.heap) 36) (xE (zyEl zymc B s.heap) 35 4) (xE (zyEl zymc B H) 35 7) (xE (zyEl zymc B H) 35 6) = tRn (xE (zyEl zymc B s.heap) 36) (xE (zyEl zymc B s.heap) 35 4) (xE (zyEl zymc B H) 35 7) (xE (zyEl zymc B H) 35 5 + 1) := hInv
              obtain ⟨i1, i2, i3, i4, i5, i6⟩ := hI
              have t2 : xE (zyEl zymc B s.heap) 36 (xE (zyEl zymc B H) 35 6) = (v2 3) := by rw [← q36, show xE (zyEl zymc B H) 35 6 = (v2 1) by omega]; exact f2.2
              have hk : tk (xE (zyEl zymc B s.heap) 36 (xE (zyEl zymc B H) 35 6)) = 1 := by rw [t2]; exact tk1 (by omega) (by omega) (by omega) (by omega)
              have hx := tRn_e (T := xE (zyEl zymc B s.heap) 36) (n := xE (zyEl zymc B s.heap) 35 4) (k := xE (zyEl zymc B H) 35 7) (p := xE (zyEl zymc B H) 35 6) (by omega)
              refine xGo hIH hAt hB hv hFr ⟨4, by decide⟩ [0] [0] rfl ⟨by decide +kernel, ⟨rfl, by decide +kernel⟩, (xcs_c rfl xcs_n), (xe_0 xe_n), xkq_n⟩ xst_n ?_ ?_
              · show xE (zyEl zymc B H2) 35 5 = tFr (xE (zyEl zymc B s.heap) 36) (xE (zyEl zymc B s.heap) 35 4) (xE (zyEl zymc B s.heap) 35 6) ∧ xE (zyEl zymc B H2) 35 5 < (xE (zyEl zymc B s.heap) 35 4) ∧ xE (zyEl zymc B H2) 35 7 = tk ((xE (zyEl zymc B s.heap) 36) (xE (zyEl zymc B H2) 35 5)) ∧ (xE (zyEl zymc B H2) 35 7 = 2 ∨ xE (zyEl zymc B H2) 35 7 = 3) ∧ xE (zyEl zymc B H2) 35 6 = tNx (xE (zyEl zymc B s.heap) 36) (xE (zyEl zymc B s.heap) 35 4) (xE (zyEl zymc B s.heap) 35 6)
                rw [show xE (zyEl zymc B H2) 35 5 = xE (zyEl zymc B H) 35 5 by omega, show xE (zyEl zymc B H2) 35 7 = xE (zyEl zymc B H) 35 7 by omega, show xE (zyEl zymc B H2) 35 6 = xE (zyEl zymc B H) 35 6 by omega]
                refine ⟨i1, i2, i3, i4, ?_⟩
                rw [tNx_k (by omega) (by rw [← i1, ← i3]; exact i4), ← i1, ← i3, ← i6]
                exact hx.symm
              · show 500 < 1000 + (1000 - xE (zyEl zymc B H) 35 6).toNat
                omega
            · skip
              rcases List.mem_cons.mp hx with ex | hx
              · subst ex
                obtain ⟨hF, hBd, hM⟩ := hXs
                have g1 : v2 1 = v 1 := hag 1 (by decide)
                have b0 : ((2147483648 : Nat) : Int) ≤ (v2 1) + 2147483648 ∧ (v2 1) + 2147483648 ≤ ((2147484547 : Nat) : Int) := xXb hBd 0 rfl
                have b1 : ((2147483649 : Nat) : Int) ≤ (v2 2) + 2147483648 ∧ (v2 2) + 2147483648 ≤ ((2147484548 : Nat) : Int) := xXb hBd 1 rfl
                have b2 : ((2147483520 : Nat) : Int) ≤ (v2 3) + 2147483648 ∧ (v2 3) + 2147483648 ≤ ((2147483692 : Nat) : Int) := xXb hBd 2 rfl
                have b3 : ((2147483648 : Nat) : Int) ≤ (v2 4) + 2147483648 ∧ (v2 4) + 2147483648 ≤ ((2147483648 : Nat) : Int) := xXb hBd 3 rfl
                have k0 : xE (zyEl zymc B H) 35 6 = v 1 := xKcf hKc 0 rfl rfl
                have f0 : (0 : Int) ≤ 4 ∧ xE (zyEl zymc B H) 35 4 = (v2 2) := xXf hF 0 rfl
                have f1 : (v2 1) < (v2 2) := xXf hF 1 rfl
                have f2 : (0 : Int) ≤ (v2 1) ∧ xE (zyEl zymc B H) 36 (v2 1) = (v2 3) := xXf hF 2 rfl
                have f3 : (v2 3) < 97 := xXf hF 3 rfl
                have f4 : (v2 3) < 48 := xXf hF 4 rfl
                have f5 : ¬ (v2 3) = 45 := xXf hF 5 rfl
                have f6 : ¬ (v2 3) = 59 := xXf hF 6 rfl
                have f7 : (0 : Int) ≤ 7 ∧ xE (zyEl zymc B H) 35 7 = (v2 4) := xXf hF 7 rfl
                have f8 : ¬ 1 = (v2 4) := xXf hF 8 rfl
                have m0 : xE (zyEl zymc B H2) 35 6 = (v2 1) := xXm hM 0 rfl
                have e35_4 : xE (zyEl zymc B H2) 35 4 = xE (zyEl zymc B H) 35 4 := xFr_E hfr rfl
                have q35_4 : xE (zyEl zymc B H) 35 4 = xE (zyEl zymc B s.heap) 35 4 := xFr_E hFr0 rfl
                have e35_5 : xE (zyEl zymc B H2) 35 5 = xE (zyEl zymc B H) 35 5 := xFr_E hfr rfl
                have e35_7 : xE (zyEl zymc B H2) 35 7 = xE (zyEl zymc B H) 35 7 := xFr_E hfr rfl
                have e35_8 : xE (zyEl zymc B H2) 35 8 = xE (zyEl zymc B H) 35 8 := xFr_E hfr rfl
                have e36 : ∀ i, xE (zyEl zymc B H2) 36 i = xE (zyEl zymc B H) 36 i := fun i => xFr_E hfr rfl
                have q36 : ∀ i, xE (zyEl zymc B H) 36 i = xE (zyEl zymc B s.heap) 36 i := fun i => xFr_E hFr0 rfl
                have hI : xE (zyEl zymc B H) 35 5 = tFr (xE (zyEl zymc B s.heap) 36) (xE (zyEl zymc B s.heap) 35 4) (xE (zyEl zymc B s.heap) 35 6) ∧ xE (zyEl zymc B H) 35 5 < (xE (zyEl zymc B s.heap) 35 4) ∧ xE (zyEl zymc B H) 35 7 = tk ((xE (zyEl zymc B s.heap) 36) (xE (zyEl zymc B H) 35 5)) ∧ (xE (zyEl zymc B H) 35 7 = 2 ∨ xE (zyEl zymc B H) 35 7 = 3) ∧ (xE (zyEl zymc B H) 35 5 < xE (zyEl zymc B H) 35 6 ∧ xE (zyEl zymc B H) 35 6 ≤ (xE (zyEl zymc B s.heap) 35 4)) ∧ tRn (xE (zyEl zymc B s.heap) 36) (xE (zyEl zymc B s.heap) 35 4) (xE (zyEl zymc B H) 35 7) (xE (zyEl zymc B H) 35 6) = tRn (xE (zyEl zymc B s.heap) 36) (xE (zyEl zymc B s.heap) 35 4) (xE (zyEl zymc B H) 35 7) (xE (zyEl zymc B H) 35 5 + 1) := hInv
                obtain ⟨i1, i2, i3, i4, i5, i6⟩ := hI
                have t2 : xE (zyEl zymc B s.heap) 36 (xE (zyEl zymc B H) 35 6) = (v2 3) := by rw [← q36, show xE (zyEl zymc B H) 35 6 = (v2 1) by omega]; exact f2.2
                have hk : tk (xE (zyEl zymc B s.heap) 36 (xE (zyEl zymc B H) 35 6)) = 1 := by rw [t2]; exact tk1 (by omega) (by omega) (by omega) (by omega)
                have hx := tRn_e (T := xE (zyEl zymc B s.heap) 36) (n := xE (zyEl zymc B s.heap) 35 4) (k := xE (zyEl zymc B H) 35 7) (p := xE (zyEl zymc B H) 35 6) (by omega)
                refine xGo hIH hAt hB hv hFr ⟨4, by decide⟩ [0] [0] rfl ⟨by decide +kernel, ⟨rfl, by decide +kernel⟩, (xcs_c rfl xcs_n), (xe_0 xe_n), xkq_n⟩ xst_n ?_ ?_
                · show xE (zyEl zymc B H2) 35 5 = tFr (xE (zyEl zymc B s.heap) 36) (xE (zyEl zymc B s.heap) 35 4) (xE (zyEl zymc B s.heap) 35 6) ∧ xE (zyEl zymc B H2) 35 5 < (xE (zyEl zymc B s.heap) 35 4) ∧ xE (zyEl zymc B H2) 35 7 = tk ((xE (zyEl zymc B s.heap) 36) (xE (zyEl zymc B H2) 35 5)) ∧ (xE (zyEl zymc B H2) 35 7 = 2 ∨ xE (zyEl zymc B H2) 35 7 = 3) ∧ xE (zyEl zymc B H2) 35 6 = tNx (xE (zyEl zymc B s.heap) 36) (xE (zyEl zymc B s.heap) 35 4) (xE (zyEl zymc B s.heap) 35 6)
                  rw [show xE (zyEl zymc B H2) 35 5 = xE (zyEl zymc B H) 35 5 by omega, show xE (zyEl zymc B H2) 35 7 = xE (zyEl zymc B H) 35 7 by omega, show xE (zyEl zymc B H2) 35 6 = xE (zyEl zymc B H) 35 6 by omega]
                  refine ⟨i1, i2, i3, i4, ?_⟩
                  rw [tNx_k (by omega) (by rw [← i1, ← i3]; exact i4), ← i1, ← i3, ← i6]
                  exact hx.symm
                · show 500 < 1000 + (1000 - xE (zyEl zymc B H) 35 6).toNat
                  omega
              · skip
                rcases List.mem_cons.mp hx with ex | hx
                · subst ex
                  obtain ⟨hF, hBd, hM⟩ := hXs
                  have g1 : v2 1 = v 1 := hag 1 (by decide)
                  have b0 : ((2147483648 : Nat) : Int) ≤ (v2 1) + 2147483648 ∧ (v2 1) + 2147483648 ≤ ((2147484547 : Nat) : Int) := xXb hBd 0 rfl
                  have b1 : ((2147483649 : Nat) : Int) ≤ (v2 2) + 2147483648 ∧ (v2 2) + 2147483648 ≤ ((2147484548 : Nat) : Int) := xXb hBd 1 rfl
                  have b2 : ((2147483520 : Nat) : Int) ≤ (v2 3) + 2147483648 ∧ (v2 3) + 2147483648 ≤ ((2147483692 : Nat) : Int) := xXb hBd 2 rfl
                  have b3 : ((2147483649 : Nat) : Int) ≤ (v2 4) + 2147483648 ∧ (v2 4) + 2147483648 ≤ ((2147483649 : Nat) : Int) := xXb hBd 3 rfl
                  have k0 : xE (zyEl zymc B H) 35 6 = v 1 := xKcf hKc 0 rfl rfl
                  have f0 : (0 : Int) ≤ 4 ∧ xE (zyEl zymc B H) 35 4 = (v2 2) := xXf hF 0 rfl
                  have f1 : (v2 1) < (v2 2) := xXf hF 1 rfl
                  have f2 : (0 : Int) ≤ (v2 1) ∧ xE (zyEl zymc B H) 36 (v2 1) = (v2 3) := xXf hF 2 rfl
                  have f3 : (v2 3) < 97 := xXf hF 3 rfl
                  have f4 : (v2 3) < 48 := xXf hF 4 rfl
                  have f5 : ¬ (v2 3) = 45 := xXf hF 5 rfl
                  have f6 : ¬ (v2 3) = 59 := xXf hF 6 rfl
                  have f7 : (0 : Int) ≤ 7 ∧ xE (zyEl zymc B H) 35 7 = (v2 4) := xXf hF 7 rfl
                  have f8 : 1 = (v2 4) := xXf hF 8 rfl
                  have m0 : xE (zyEl zymc B H2) 35 6 = (v2 1 + 1) := xXm hM 0 rfl
                  have e35_4 : xE (zyEl zymc B H2) 35 4 = xE (zyEl zymc B H) 35 4 := xFr_E hfr rfl
                  have q35_4 : xE (zyEl zymc B H) 35 4 = xE (zyEl zymc B s.heap) 35 4 := xFr_E hFr0 rfl
                  have e35_5 : xE (zyEl zymc B H2) 35 5 = xE (zyEl zymc B H) 35 5 := xFr_E hfr rfl
                  have e35_7 : xE (zyEl zymc B H2) 35 7 = xE (zyEl zymc B H) 35 7 := xFr_E hfr rfl
                  have e35_8 : xE (zyEl zymc B H2) 35 8 = xE (zyEl zymc B H) 35 8 := xFr_E hfr rfl
                  have e36 : ∀ i, xE (zyEl zymc B H2) 36 i = xE (zyEl zymc B H) 36 i := fun i => xFr_E hfr rfl
                  have q36 : ∀ i, xE (zyEl zymc B H) 36 i = xE (zyEl zymc B s.heap) 36 i := fun i => xFr_E hFr0 rfl
                  have hI : xE (zyEl zymc B H) 35 5 = tFr (xE (zyEl zymc B s.heap) 36) (xE (zyEl zymc B s.heap) 35 4) (xE (zyEl zymc B s.heap) 35 6) ∧ xE (zyEl zymc B H) 35 5 < (xE (zyEl zymc B s.heap) 35 4) ∧ xE (zyEl zymc B H) 35 7 = tk ((xE (zyEl zymc B s.heap) 36) (xE (zyEl zymc B H) 35 5)) ∧ (xE (zyEl zymc B H) 35 7 = 2 ∨ xE (zyEl zymc B H) 35 7 = 3) ∧ (xE (zyEl zymc B H) 35 5 < xE (zyEl zymc B H) 35 6 ∧ xE (zyEl zymc B H) 35 6 ≤ (xE (zyEl zymc B s.heap) 35 4)) ∧ tRn (xE (zyEl zymc B s.heap) 36) (xE (zyEl zymc B s.heap) 35 4) (xE (zyEl zymc B H) 35 7) (xE (zyEl zymc B H) 35 6) = tRn (xE (zyEl zymc B s.heap) 36) (xE (zyEl zymc B s.heap) 35 4) (xE (zyEl zymc B H) 35 7) (xE (zyEl zymc B H) 35 5 + 1) := hInv
                  obtain ⟨i1, i2, i3, i4, i5, i6⟩ := hI
                  have t2 : xE (zyEl zymc B s.heap) 36 (xE (zyEl zymc B H) 35 6) = (v2 3) := by rw [← q36, show xE (zyEl zymc B H) 35 6 = (v2 1) by omega]; exact f2.2
                  have hk : tk (xE (zyEl zymc B s.heap) 36 (xE (zyEl zymc B H) 35 6)) = xE (zyEl zymc B H) 35 7 := by rw [t2, show xE (zyEl zymc B H) 35 7 = 1 by omega]; exact tk1 (by omega) (by omega) (by omega) (by omega)
                  have z35_6 : ((2147483648 : Nat) : Int) ≤ xE (zyEl zymc B H2) 35 6 + 2147483648 ∧ xE (zyEl zymc B H2) 35 6 + 2147483648 ≤ ((2147484548 : Nat) : Int) := xTyF hT2 35 6 6 rfl rfl rfl rfl rfl rfl
                  refine xGo hIH hAt hB hv hFr ⟨3, by decide⟩ [0] [0, xE (zyEl zymc B H2) 35 6] rfl ⟨by decide +kernel, ⟨rfl, by decide +kernel⟩, (xcs_c rfl xcs_n), (xe_0 (xe_c (by omega) (by omega) rfl xe_n)), (xkq_c hT2 35 6 (q := 6) rfl rfl rfl rfl rfl rfl rfl rfl rfl rfl rfl xkq_n)⟩ xst_n ?_ ?_
                  · show xE (zyEl zymc B H2) 35 5 = tFr (xE (zyEl zymc B s.heap) 36) (xE (zyEl zymc B s.heap) 35 4) (xE (zyEl zymc B s.heap) 35 6) ∧ xE (zyEl zymc B H2) 35 5 < (xE (zyEl zymc B s.heap) 35 4) ∧ xE (zyEl zymc B H2) 35 7 = tk ((xE (zyEl zymc B s.heap) 36) (xE (zyEl zymc B H2) 35 5)) ∧ (xE (zyEl zymc B H2) 35 7 = 2 ∨ xE (zyEl zymc B H2) 35 7 = 3) ∧ (xE (zyEl zymc B H2) 35 5 < xE (zyEl zymc B H2) 35 6 ∧ xE (zyEl zymc B H2) 35 6 ≤ (xE (zyEl zymc B s.heap) 35 4)) ∧ tRn (xE (zyEl zymc B s.heap) 36) (xE (zyEl zymc B s.heap) 35 4) (xE (zyEl zymc B H2) 35 7) (xE (zyEl zymc B H2) 35 6) = tRn (xE (zyEl zymc B s.heap) 36) (xE (zyEl zymc B s.heap) 35 4) (xE (zyEl zymc B H2) 35 7) (xE (zyEl zymc B H2) 35 5 + 1)
                    rw [show xE (zyEl zymc B H2) 35 5 = xE (zyEl zymc B H) 35 5 by omega, show xE (zyEl zymc B H2) 35 7 = xE (zyEl zymc B H) 35 7 by omega, show xE (zyEl zymc B H2) 35 6 = xE (zyEl zymc B H) 35 6 + 1 by omega]
                    exact ⟨i1, i2, i3, i4, by omega, (tRn_s (by omega) hk).trans i6⟩
                  · show 1000 + (1000 - xE (zyEl zymc B H2) 35 6).toNat < 1000 + (1000 - xE (zyEl zymc B H) 35 6).toNat
                    omega
                · skip
                  rcases List.mem_cons.mp hx with ex | hx
                  · subst ex
                    obtain ⟨hF, hBd, hM⟩ := hXs
                    have g1 : v2 1 = v 1 := hag 1 (by decide)
                    have b0 : ((2147483648 : Nat) : Int) ≤ (v2 1) + 2147483648 ∧ (v2 1) + 2147483648 ≤ ((2147484547 : Nat) : Int) := xXb hBd 0 rfl
                    have b1 : ((2147483649 : Nat) : Int) ≤ (v2 2) + 2147483648 ∧ (v2 2) + 2147483648 ≤ ((2147484548 : Nat) : Int) := xXb hBd 1 rfl
                    have b2 : ((2147483693 : Nat) : Int) ≤ (v2 3) + 2147483648 ∧ (v2 3) + 2147483648 ≤ ((2147483693 : Nat) : Int) := xXb hBd 2 rfl
                    have b3 : ((2147483653 : Nat) : Int) ≤ (v2 4) + 2147483648 ∧ (v2 4) + 2147483648 ≤ ((2147483653 : Nat) : Int) := xXb hBd 3 rfl
                    have k0 : xE (zyEl zymc B H) 35 6 = v 1 := xKcf hKc 0 rfl rfl
                    have f0 : (0 : Int) ≤ 4 ∧ xE (zyEl zymc B H) 35 4 = (v2 2) := xXf hF 0 rfl
                    have f1 : (v2 1) < (v2 2) := xXf hF 1 rfl
                    have f2 : (0 : Int) ≤ (v2 1) ∧ xE (zyEl zymc B H) 36 (v2 1) = (v2 3) := xXf hF 2 rfl
                    have f3 : (v2 3) < 97 := xXf hF 3 rfl
                    have f4 : (v2 3) < 48 := xXf hF 4 rfl
                    have f5 : (v2 3) = 45 := xXf hF 5 rfl
                    have f6 : (0 : Int) ≤ 7 ∧ xE (zyEl zymc B H) 35 7 = (v2 4) := xXf hF 6 rfl
                    have f7 : ¬ 4 = (v2 4) := xXf hF 7 rfl
                    have m0 : xE (zyEl zymc B H2) 35 6 = (v2 1) := xXm hM 0 rfl
                    have e35_4 : xE (zyEl zymc B H2) 35 4 = xE (zyEl zymc B H) 35 4 := xFr_E hfr rfl
                    have q35_4 : xE (zyEl zymc B H) 35 4 = xE (zyEl zymc B s.heap) 35 4 := xFr_E hFr0 rfl
                    have e35_5 : xE (zyEl zymc B H2) 35 5 = xE (zyEl zymc B H) 35 5 := xFr_E hfr rfl
                    have e35_7 : xE (zyEl zymc B H2) 35 7 = xE (zyEl zymc B H) 35 7 := xFr_E hfr rfl
                    have e35_8 : xE (zyEl zymc B H2) 35 8 = xE (zyEl zymc B H) 35 8 := xFr_E hfr rfl
                    have e36 : ∀ i, xE (zyEl zymc B H2) 36 i = xE (zyEl zymc B H) 36 i := fun i => xFr_E hfr rfl
                    have q36 : ∀ i, xE (zyEl zymc B H) 36 i = xE (zyEl zymc B s.heap) 36 i := fun i => xFr_E hFr0 rfl
                    have hI : xE (zyEl zymc B H) 35 5 = tFr (xE (zyEl zymc B s.heap) 36) (xE (zyEl zymc B s.heap) 35 4) (xE (zyEl zymc B s.heap) 35 6) ∧ xE (zyEl zymc B H) 35 5 < (xE (zyEl zymc B s.heap) 35 4) ∧ xE (zyEl zymc B H) 35 7 = tk ((xE (zyEl zymc B s.heap) 36) (xE (zyEl zymc B H) 35 5)) ∧ (xE (zyEl zymc B H) 35 7 = 2 ∨ xE (zyEl zymc B H) 35 7 = 3) ∧ (xE (zyEl zymc B H) 35 5 < xE (zyEl zymc B H) 35 6 ∧ xE (zyEl zymc B H) 35 6 ≤ (xE (zyEl zymc B s.heap) 35 4)) ∧ tRn (xE (zyEl zymc B s.heap) 36) (xE (zyEl zymc B s.heap) 35 4) (xE (zyEl zymc B H) 35 7) (xE (zyEl zymc B H) 35 6) = tRn (xE (zyEl zymc B s.heap) 36) (xE (zyEl zymc B s.heap) 35 4) (xE (zyEl zymc B H) 35 7) (xE (zyEl zymc B H) 35 5 + 1) := hInv
                    obtain ⟨i1, i2, i3, i4, i5, i6⟩ := hI
                    have t2 : xE (zyEl zymc B s.heap) 36 (xE (zyEl zymc B H) 35 6) = (v2 3) := by rw [← q36, show xE (zyEl zymc B H) 35 6 = (v2 1) by omega]; exact f2.2
                    have hk : tk (xE (zyEl zymc B s.heap) 36 (xE (zyEl zymc B H) 35 6)) = 4 := by rw [t2]; exact tk4 (by omega)
                    have hx := tRn_e (T := xE (zyEl zymc B s.heap) 36) (n := xE (zyEl zymc B s.heap) 35 4) (k := xE (zyEl zymc B H) 35 7) (p := xE (zyEl zymc B H) 35 6) (by omega)
                    refine xGo hIH hAt hB hv hFr ⟨4, by decide⟩ [0] [0] rfl ⟨by decide +kernel, ⟨rfl, by decide +kernel⟩, (xcs_c rfl xcs_n), (xe_0 xe_n), xkq_n⟩ xst_n ?_ ?_
                    · show xE (zyEl zymc B H2) 35 5 = tFr (xE (zyEl zymc B s.heap) 36) (xE (zyEl zymc B s.heap) 35 4) (xE (zyEl zymc B s.heap) 35 6) ∧ xE (zyEl zymc B H2) 35 5 < (xE (zyEl zymc B s.heap) 35 4) ∧ xE (zyEl zymc B H2) 35 7 = tk ((xE (zyEl zymc B s.heap) 36) (xE (zyEl zymc B H2) 35 5)) ∧ (xE (zyEl zymc B H2) 35 7 = 2 ∨ xE (zyEl zymc B H2) 35 7 = 3) ∧ xE (zyEl zymc B H2) 35 6 = tNx (xE (zyEl zymc B s.heap) 36) (xE (zyEl zymc B s.heap) 35 4) (xE (zyEl zymc B s.heap) 35 6)
                      rw [show xE (zyEl zymc B H2) 35 5 = xE (zyEl zymc B H) 35 5 by omega, show xE (zyEl zymc B H2) 35 7 = xE (zyEl zymc B H) 35 7 by omega, show xE (zyEl zymc B H2) 35 6 = xE (zyEl zymc B H) 35 6 by omega]
                      refine ⟨i1, i2, i3, i4, ?_⟩
                      rw [tNx_k (by omega) (by rw [← i1, ← i3]; exact i4), ← i1, ← i3, ← i6]
                      exact hx.symm
                    · show 500 < 1000 + (1000 - xE (zyEl zymc B H) 35 6).toNat
                      omega
                  · skip
                    rcases List.mem_cons.mp hx with ex | hx
                    · subst ex
                      obtain ⟨hF, hBd, hM⟩ := hXs
                      have g1 : v2 1 = v 1 := hag 1 (by decide)
                      have b0 : ((2147483648 : Nat) : Int) ≤ (v2 1) + 2147483648 ∧ (v2 1) + 2147483648 ≤ ((2147484547 : Nat) : Int) := xXb hBd 0 rfl
                      have b1 : ((2147483649 : Nat) : Int) ≤ (v2 2) + 2147483648 ∧ (v2 2) + 2147483648 ≤ ((2147484548 : Nat) : Int) := xXb hBd 1 rfl
                      have b2 : ((2147483693 : Nat) : Int) ≤ (v2 3) + 2147483648 ∧ (v2 3) + 2147483648 ≤ ((2147483693 : Nat) : Int) := xXb hBd 2 rfl
                      have b3 : ((2147483648 : Nat) : Int) ≤ (v2 4) + 2147483648 ∧ (v2 4) + 2147483648 ≤ ((2147483651 : Nat) : Int) := xXb hBd 3 rfl
                      have k0 : xE (zyEl zymc B H) 35 6 = v 1 := xKcf hKc 0 rfl rfl
                      have f0 : (0 : Int) ≤ 4 ∧ xE (zyEl zymc B H) 35 4 = (v2 2) := xXf hF 0 rfl
                      have f1 : (v2 1) < (v2 2) := xXf hF 1 rfl
                      have f2 : (0 : Int) ≤ (v2 1) ∧ xE (zyEl zymc B H) 36 (v2 1) = (v2 3) := xXf hF 2 rfl
                      have f3 : (v2 3) < 97 := xXf hF 3 rfl
                      have f4 : (v2 3) < 48 := xXf hF 4 rfl
                      have f5 : (v2 3) = 45 := xXf hF 5 rfl
                      have f6 : (0 : Int) ≤ 7 ∧ xE (zyEl zymc B H) 35 7 = (v2 4) := xXf hF 6 rfl
                      have f7 : ¬ 4 = (v2 4) := xXf hF 7 rfl
                      have m0 : xE (zyEl zymc B H2) 35 6 = (v2 1) := xXm hM 0 rfl
                      have e35_4 : xE (zyEl zymc B H2) 35 4 = xE (zyEl zymc B H) 35 4 := xFr_E hfr rfl
                      have q35_4 : xE (zyEl zymc B H) 35 4 = xE (zyEl zymc B s.heap) 35 4 := xFr_E hFr0 rfl
                      have e35_5 : xE (zyEl zymc B H2) 35 5 = xE (zyEl zymc B H) 35 5 := xFr_E hfr rfl
                      have e35_7 : xE (zyEl zymc B H2) 35 7 = xE (zyEl zymc B H) 35 7 := xFr_E hfr rfl
                      have e35_8 : xE (zyEl zymc B H2) 35 8 = xE (zyEl zymc B H) 35 8 := xFr_E hfr rfl
                      have e36 : ∀ i, xE (zyEl zymc B H2) 36 i = xE (zyEl zymc B H) 36 i := fun i => xFr_E hfr rfl
                      have q36 : ∀ i, xE (zyEl zymc B H) 36 i = xE (zyEl zymc B s.heap) 36 i := fun i => xFr_E hFr0 rfl
                      have hI : xE (zyEl zymc B H) 35 5 = tFr (xE (zyEl zymc B s.heap) 36) (xE (zyEl zymc B s.heap) 35 4) (xE (zyEl zymc B s.heap) 35 6) ∧ xE (zyEl zymc B H) 35 5 < (xE (zyEl zymc B s.heap) 35 4) ∧ xE (zyEl zymc B H) 35 7 = tk ((xE (zyEl zymc B s.heap) 36) (xE (zyEl zymc B H) 35 5)) ∧ (xE (zyEl zymc B H) 35 7 = 2 ∨ xE (zyEl zymc B H) 35 7 = 3) ∧ (xE (zyEl zymc B H) 35 5 < xE (zyEl zymc B H) 35 6 ∧ xE (zyEl zymc B H) 35 6 ≤ (xE (zyEl zymc B s.heap) 35 4)) ∧ tRn (xE (zyEl zymc B s.heap) 36) (xE (zyEl zymc B s.heap) 35 4) (xE (zyEl zymc B H) 35 7) (xE (zyEl zymc B H) 35 6) = tRn (xE (zyEl zymc B s.heap) 36) (xE (zyEl zymc B s.heap) 35 4) (xE (zyEl zymc B H) 35 7) (xE (zyEl zymc B H) 35 5 + 1) := hInv
                      obtain ⟨i1, i2, i3, i4, i5, i6⟩ := hI
                      have t2 : xE (zyEl zymc B s.heap) 36 (xE (zyEl zymc B H) 35 6) = (v2 3) := by rw [← q36, show xE (zyEl zymc B H) 35 6 = (v2 1) by omega]; exact f2.2
                      have hk : tk (xE (zyEl zymc B s.heap) 36 (xE (zyEl zymc B H) 35 6)) = 4 := by rw [t2]; exact tk4 (by omega)
                      have hx := tRn_e (T := xE (zyEl zymc B s.heap) 36) (n := xE (zyEl zymc B s.heap) 35 4) (k := xE (zyEl zymc B H) 35 7) (p := xE (zyEl zymc B H) 35 6) (by omega)
                      refine xGo hIH hAt hB hv hFr ⟨4, by decide⟩ [0] [0] rfl ⟨by decide +kernel, ⟨rfl, by decide +kernel⟩, (xcs_c rfl xcs_n), (xe_0 xe_n), xkq_n⟩ xst_n ?_ ?_
                      · show xE (zyEl zymc B H2) 35 5 = tFr (xE (zyEl zymc B s.heap) 36) (xE (zyEl zymc B s.heap) 35 4) (xE (zyEl zymc B s.heap) 35 6) ∧ xE (zyEl zymc B H2) 35 5 < (xE (zyEl zymc B s.heap) 35 4) ∧ xE (zyEl zymc B H2) 35 7 = tk ((xE (zyEl zymc B s.heap) 36) (xE (zyEl zymc B H2) 35 5)) ∧ (xE (zyEl zymc B H2) 35 7 = 2 ∨ xE (zyEl zymc B H2) 35 7 = 3) ∧ xE (zyEl zymc B H2) 35 6 = tNx (xE (zyEl zymc B s.heap) 36) (xE (zyEl zymc B s.heap) 35 4) (xE (zyEl zymc B s.heap) 35 6)
                        rw [show xE (zyEl zymc B H2) 35 5 = xE (zyEl zymc B H) 35 5 by omega, show xE (zyEl zymc B H2) 35 7 = xE (zyEl zymc B H) 35 7 by omega, show xE (zyEl zymc B H2) 35 6 = xE (zyEl zymc B H) 35 6 by omega]
                        refine ⟨i1, i2, i3, i4, ?_⟩
                        rw [tNx_k (by omega) (by rw [← i1, ← i3]; exact i4), ← i1, ← i3, ← i6]
                        exact hx.symm
                      · show 500 < 1000 + (1000 - xE (zyEl zymc B H) 35 6).toNat
                        omega
                    · skip
                      rcases List.mem_cons.mp hx with ex | hx
                      · subst ex
                        obtain ⟨hF, hBd, hM⟩ := hXs
                        have g1 : v2 1 = v 1 := hag 1 (by decide)
                        have b0 : ((2147483648 : Nat) : Int) ≤ (v2 1) + 2147483648 ∧ (v2 1) + 2147483648 ≤ ((2147484547 : Nat) : Int) := xXb hBd 0 rfl
                        have b1 : ((2147483649 : Nat) : Int) ≤ (v2 2) + 2147483648 ∧ (v2 2) + 2147483648 ≤ ((2147484548 : Nat) : Int) := xXb hBd 1 rfl
                        have b2 : ((2147483693 : Nat) : Int) ≤ (v2 3) + 2147483648 ∧ (v2 3) + 2147483648 ≤ ((2147483693 : Nat) : Int) := xXb hBd 2 rfl
                        have b3 : ((2147483652 : Nat) : Int) ≤ (v2 4) + 2147483648 ∧ (v2 4) + 2147483648 ≤ ((2147483652 : Nat) : Int) := xXb hBd 3 rfl
                        have k0 : xE (zyEl zymc B H) 35 6 = v 1 := xKcf hKc 0 rfl rfl
                        have f0 : (0 : Int) ≤ 4 ∧ xE (zyEl zymc B H) 35 4 = (v2 2) := xXf hF 0 rfl
                        have f1 : (v2 1) < (v2 2) := xXf hF 1 rfl
                        have f2 : (0 : Int) ≤ (v2 1) ∧ xE (zyEl zymc B H) 36 (v2 1) = (v2 3) := xXf hF 2 rfl
                        have f3 : (v2 3) < 97 := xXf hF 3 rfl
                        have f4 : (v2 3) < 48 := xXf hF 4 rfl
                        have f5 : (v2 3) = 45 := xXf hF 5 rfl
                        have f6 : (0 : Int) ≤ 7 ∧ xE (zyEl zymc B H) 35 7 = (v2 4) := xXf hF 6 rfl
                        have f7 : 4 = (v2 4) := xXf hF 7 rfl
                        have m0 : xE (zyEl zymc B H2) 35 6 = (v2 1 + 1) := xXm hM 0 rfl
                        have e35_4 : xE (zyEl zymc B H2) 35 4 = xE (zyEl zymc B H) 35 4 := xFr_E hfr rfl
                        have q35_4 : xE (zyEl zymc B H) 35 4 = xE (zyEl zymc B s.heap) 35 4 := xFr_E hFr0 rfl
                        have e35_5 : xE (zyEl zymc B H2) 35 5 = xE (zyEl zymc B H) 35 5 := xFr_E hfr rfl
                        have e35_7 : xE (zyEl zymc B H2) 35 7 = xE (zyEl zymc B H) 35 7 := xFr_E hfr rfl
                        have e35_8 : xE (zyEl zymc B H2) 35 8 = xE (zyEl zymc B H) 35 8 := xFr_E hfr rfl
                        have e36 : ∀ i, xE (zyEl zymc B H2) 36 i = xE (zyEl zymc B H) 36 i := fun i => xFr_E hfr rfl
                        have q36 : ∀ i, xE (zyEl zymc B H) 36 i = xE (zyEl zymc B s.heap) 36 i := fun i => xFr_E hFr0 rfl
                        have hI : xE (zyEl zymc B H) 35 5 = tFr (xE (zyEl zymc B s.heap) 36) (xE (zyEl zymc B s.heap) 35 4) (xE (zyEl zymc B s.heap) 35 6) ∧ xE (zyEl zymc B H) 35 5 < (xE (zyEl zymc B s.heap) 35 4) ∧ xE (zyEl zymc B H) 35 7 = tk ((xE (zyEl zymc B s.heap) 36) (xE (zyEl zymc B H) 35 5)) ∧ (xE (zyEl zymc B H) 35 7 = 2 ∨ xE (zyEl zymc B H) 35 7 = 3) ∧ (xE (zyEl zymc B H) 35 5 < xE (zyEl zymc B H) 35 6 ∧ xE (zyEl zymc B H) 35 6 ≤ (xE (zyEl zymc B s.heap) 35 4)) ∧ tRn (xE (zyEl zymc B s.heap) 36) (xE (zyEl zymc B s.heap) 35 4) (xE (zyEl zymc B H) 35 7) (xE (zyEl zymc B H) 35 6) = tRn (xE (zyEl zymc B s.heap) 36) (xE (zyEl zymc B s.heap) 35 4) (xE (zyEl zymc B H) 35 7) (xE (zyEl zymc B H) 35 5 + 1) := hInv
                        obtain ⟨i1, i2, i3, i4, i5, i6⟩ := hI
                        have t2 : xE (zyEl zymc B s.heap) 36 (xE (zyEl zymc B H) 35 6) = (v2 3) := by rw [← q36, show xE (zyEl zymc B H) 35 6 = (v2 1) by omega]; exact f2.2
                        have hk : tk (xE (zyEl zymc B s.heap) 36 (xE (zyEl zymc B H) 35 6)) = xE (zyEl zymc B H) 35 7 := by rw [t2, show xE (zyEl zymc B H) 35 7 = 4 by omega]; exact tk4 (by omega)
                        have z35_6 : ((2147483648 : Nat) : Int) ≤ xE (zyEl zymc B H2) 35 6 + 2147483648 ∧ xE (zyEl zymc B H2) 35 6 + 2147483648 ≤ ((2147484548 : Nat) : Int) := xTyF hT2 35 6 6 rfl rfl rfl rfl rfl rfl
                        refine xGo hIH hAt hB hv hFr ⟨3, by decide⟩ [0] [0, xE (zyEl zymc B H2) 35 6] rfl ⟨by decide +kernel, ⟨rfl, by decide +kernel⟩, (xcs_c rfl xcs_n), (xe_0 (xe_c (by omega) (by omega) rfl xe_n)), (xkq_c hT2 35 6 (q := 6) rfl rfl rfl rfl rfl rfl rfl rfl rfl rfl rfl xkq_n)⟩ xst_n ?_ ?_
                        · show xE (zyEl zymc B H2) 35 5 = tFr (xE (zyEl zymc B s.heap) 36) (xE (zyEl zymc B s.heap) 35 4) (xE (zyEl zymc B s.heap) 35 6) ∧ xE (zyEl zymc B H2) 35 5 < (xE (zyEl zymc B s.heap) 35 4) ∧ xE (zyEl zymc B H2) 35 7 = tk ((xE (zyEl zymc B s.heap) 36) (xE (zyEl zymc B H2) 35 5)) ∧ (xE (zyEl zymc B H2) 35 7 = 2 ∨ xE (zyEl zymc B H2) 35 7 = 3) ∧ (xE (zyEl zymc B H2) 35 5 < xE (zyEl zymc B H2) 35 6 ∧ xE (zyEl zymc B H2) 35 6 ≤ (xE (zyEl zymc B s.heap) 35 4)) ∧ tRn (xE (zyEl zymc B s.heap) 36) (xE (zyEl zymc B s.heap) 35 4) (xE (zyEl zymc B H2) 35 7) (xE (zyEl zymc B H2) 35 6) = tRn (xE (zyEl zymc B s.heap) 36) (xE (zyEl zymc B s.heap) 35 4) (xE (zyEl zymc B H2) 35 7) (xE (zyEl zymc B H2) 35 5 + 1)
                          rw [show xE (zyEl zymc B H2) 35 5 = xE (zyEl zymc B H) 35 5 by omega, show xE (zyEl zymc B H2) 35 7 = xE (zyEl zymc B H) 35 7 by omega, show xE (zyEl zymc B H2) 35 6 = xE (zyEl zymc B H) 35 6 + 1 by omega]
                          exact ⟨i1, i2, i3, i4, by omega, (tRn_s (by omega) hk).trans i6⟩
                        · show 1000 + (1000 - xE (zyEl zymc B H2) 35 6).toNat < 1000 + (1000 - xE (zyEl zymc B H) 35 6).toNat
                          omega
                      · skip
                        rcases List.mem_cons.mp hx with ex | hx
                        · subst ex
                          obtain ⟨hF, hBd, hM⟩ := hXs
                          have g1 : v2 1 = v 1 := hag 1 (by decide)
                          have b0 : ((2147483648 : Nat) : Int) ≤ (v2 1) + 2147483648 ∧ (v2 1) + 2147483648 ≤ ((2147484547 : Nat) : Int) := xXb hBd 0 rfl
                          have b1 : ((2147483649 : Nat) : Int) ≤ (v2 2) + 2147483648 ∧ (v2 2) + 2147483648 ≤ ((2147484548 : Nat) : Int) := xXb hBd 1 rfl
                          have b2 : ((2147483708 : Nat) : Int) ≤ (v2 3) + 2147483648 ∧ (v2 3) + 2147483648 ≤ ((2147483744 : Nat) : Int) := xXb hBd 2 rfl
                          have b3 : ((2147483650 : Nat) : Int) ≤ (v2 4) + 2147483648 ∧ (v2 4) + 2147483648 ≤ ((2147483653 : Nat) : Int) := xXb hBd 3 rfl
                          have k0 : xE (zyEl zymc B H) 35 6 = v 1 := xKcf hKc 0 rfl rfl
                          have f0 : (0 : Int) ≤ 4 ∧ xE (zyEl zymc B H) 35 4 = (v2 2) := xXf hF 0 rfl
                          have f1 : (v2 1) < (v2 2) := xXf hF 1 rfl
                          have f2 : (0 : Int) ≤ (v2 1) ∧ xE (zyEl zymc B H) 36 (v2 1) = (v2 3) := xXf hF 2 rfl
                          have f3 : (v2 3) < 97 := xXf hF 3 rfl
                          have f4 : 48 ≤ (v2 3) := xXf hF 4 rfl
                          have f5 : 57 < (v2 3) := xXf hF 5 rfl
                          have f6 : ¬ (v2 3) = 45 := xXf hF 6 rfl
                          have f7 : ¬ (v2 3) = 59 := xXf hF 7 rfl
                          have f8 : (0 : Int) ≤ 7 ∧ xE (zyEl zymc B H) 35 7 = (v2 4) := xXf hF 8 rfl
                          have f9 : ¬ 1 = (v2 4) := xXf hF 9 rfl
                          have m0 : xE (zyEl zymc B H2) 35 6 = (v2 1) := xXm hM 0 rfl
                          have e35_4 : xE (zyEl zymc B H2) 35 4 = xE (zyEl zymc B H) 35 4 := xFr_E hfr rfl
                          have q35_4 : xE (zyEl zymc B H) 35 4 = xE (zyEl zymc B s.heap) 35 4 := xFr_E hFr0 rfl
                          have e35_5 : xE (zyEl zymc B H2) 35 5 = xE (zyEl zymc B H) 35 5 := xFr_E hfr rfl
                          have e35_7 : xE (zyEl zymc B H2) 35 7 = xE (zyEl zymc B H) 35 7 := xFr_E hfr rfl
                          have e35_8 : xE (zyEl zymc B H2) 35 8 = xE (zyEl zymc B H) 35 8 := xFr_E hfr rfl
                          have e36 : ∀ i, xE (zyEl zymc B H2) 36 i = xE (zyEl zymc B H) 36 i := fun i => xFr_E hfr rfl
                          have q36 : ∀ i, xE (zyEl zymc B H) 36 i = xE (zyEl zymc B s.heap) 36 i := fun i => xFr_E hFr0 rfl
                          have hI : xE (zyEl zymc B H) 35 5 = tFr (xE (zyEl zymc B s.heap) 36) (xE (zyEl zymc B s.heap) 35 4) (xE (zyEl zymc B s.heap) 35 6) ∧ xE (zyEl zymc B H) 35 5 < (xE (zyEl zymc B s.heap) 35 4) ∧ xE (zyEl zymc B H) 35 7 = tk ((xE (zyEl zymc B s.heap) 36) (xE (zyEl zymc B H) 35 5)) ∧ (xE (zyEl zymc B H) 35 7 = 2 ∨ xE (zyEl zymc B H) 35 7 = 3) ∧ (xE (zyEl zymc B H) 35 5 < xE (zyEl zymc B H) 35 6 ∧ xE (zyEl zymc B H) 35 6 ≤ (xE (zyEl zymc B s.heap) 35 4)) ∧ tRn (xE (zyEl zymc B s.heap) 36) (xE (zyEl zymc B s.heap) 35 4) (xE (zyEl zymc B H) 35 7) (xE (zyEl zymc B H) 35 6) = tRn (xE (zyEl zymc B s.heap) 36) (xE (zyEl zymc B s.heap) 35 4) (xE (zyEl zymc B H) 35 7) (xE (zyEl zymc B H) 35 5 + 1) := hInv
                          obtain ⟨i1, i2, i3, i4, i5, i6⟩ := hI
                          have t2 : xE (zyEl zymc B s.heap) 36 (xE (zyEl zymc B H) 35 6) = (v2 3) := by rw [← q36, show xE (zyEl zymc B H) 35 6 = (v2 1) by omega]; exact f2.2
                          have hk : tk (xE (zyEl zymc B s.heap) 36 (xE (zyEl zymc B H) 35 6)) = 1 := by rw [t2]; exact tk1 (by omega) (by omega) (by omega) (by omega)
                          have hx := tRn_e (T := xE (zyEl zymc B s.heap) 36) (n := xE (zyEl zymc B s.heap) 35 4) (k := xE (zyEl zymc B H) 35 7) (p := xE (zyEl zymc B H) 35 6) (by omega)
                          refine xGo hIH hAt hB hv hFr ⟨4, by decide⟩ [0] [0] rfl ⟨by decide +kernel, ⟨rfl, by decide +kernel⟩, (xcs_c rfl xcs_n), (xe_0 xe_n), xkq_n⟩ xst_n ?_ ?_
                          · show xE (zyEl zymc B H2) 35 5 = tFr (xE (zyEl zymc B s.heap) 36) (xE (zyEl zymc B s.heap) 35 4) (xE (zyEl zymc B s.heap) 35 6) ∧ xE (zyEl zymc B H2) 35 5 < (xE (zyEl zymc B s.heap) 35 4) ∧ xE (zyEl zymc B H2) 35 7 = tk ((xE (zyEl zymc B s.heap) 36) (xE (zyEl zymc B H2) 35 5)) ∧ (xE (zyEl zymc B H2) 35 7 = 2 ∨ xE (zyEl zymc B H2) 35 7 = 3) ∧ xE (zyEl zymc B H2) 35 6 = tNx (xE (zyEl zymc B s.heap) 36) (xE (zyEl zymc B s.heap) 35 4) (xE (zyEl zymc B s.heap) 35 6)
                            rw [show xE (zyEl zymc B H2) 35 5 = xE (zyEl zymc B H) 35 5 by omega, show xE (zyEl zymc B H2) 35 7 = xE (zyEl zymc B H) 35 7 by omega, show xE (zyEl zymc B H2) 35 6 = xE (zyEl zymc B H) 35 6 by omega]
                            refine ⟨i1, i2, i3, i4, ?_⟩
                            rw [tNx_k (by omega) (by rw [← i1, ← i3]; exact i4), ← i1, ← i3, ← i6]
                            exact hx.symm
                          · show 500 < 1000 + (1000 - xE (zyEl zymc B H) 35 6).toNat
                            omega
                        · skip
                          rcases List.mem_cons.mp hx with ex | hx
                          · subst ex
                            obtain ⟨hF, hBd, hM⟩ := hXs
                            have g1 : v2 1 = v 1 := hag 1 (by decide)
                            have b0 : ((2147483648 : Nat) : Int) ≤ (v2 1) + 2147483648 ∧ (v2 1) + 2147483648 ≤ ((2147484547 : Nat) : Int) := xXb hBd 0 rfl
                            have b1 : ((2147483649 : Nat) : Int) ≤ (v2 2) + 2147483648 ∧ (v2 2) + 2147483648 ≤ ((2147484548 : Nat) : Int) := xXb hBd 1 rfl
                            have b2 : ((2147483708 : Nat) : Int) ≤ (v2 3) + 2147483648 ∧ (v2 3) + 2147483648 ≤ ((2147483744 : Nat) : Int) := xXb hBd 2 rfl
                            have b3 : ((2147483648 : Nat) : Int) ≤ (v2 4) + 2147483648 ∧ (v2 4) + 2147483648 ≤ ((2147483648 : Nat) : Int) := xXb hBd 3 rfl
                            have k0 : xE (zyEl zymc B H) 35 6 = v 1 := xKcf hKc 0 rfl rfl
                            have f0 : (0 : Int) ≤ 4 ∧ xE (zyEl zymc B H) 35 4 = (v2 2) := xXf hF 0 rfl
                            have f1 : (v2 1) < (v2 2) := xXf hF 1 rfl
                            have f2 : (0 : Int) ≤ (v2 1) ∧ xE (zyEl zymc B H) 36 (v2 1) = (v2 3) := xXf hF 2 rfl
                            have f3 : (v2 3) < 97 := xXf hF 3 rfl
                            have f4 : 48 ≤ (v2 3) := xXf hF 4 rfl
                            have f5 : 57 < (v2 3) := xXf hF 5 rfl
                            have f6 : ¬ (v2 3) = 45 := xXf hF 6 rfl
                            have f7 : ¬ (v2 3) = 59 := xXf hF 7 rfl
                            have f8 : (0 : Int) ≤ 7 ∧ xE (zyEl zymc B H) 35 7 = (v2 4) := xXf hF 8 rfl
                            have f9 : ¬ 1 = (v2 4) := xXf hF 9 rfl
                            have m0 : xE (zyEl zymc B H2) 35 6 = (v2 1) := xXm hM 0 rfl
                            have e35_4 : xE (zyEl zymc B H2) 35 4 = xE (zyEl zymc B H) 35 4 := xFr_E hfr rfl
                            have q35_4 : xE (zyEl zymc B H) 35 4 = xE (zyEl zymc B s.heap) 35 4 := xFr_E hFr0 rfl
                            have e35_5 : xE (zyEl zymc B H2) 35 5 = xE (zyEl zymc B H) 35 5 := xFr_E hfr rfl
                            have e35_7 : xE (zyEl zymc B H2) 35 7 = xE (zyEl zymc B H) 35 7 := xFr_E hfr rfl
                            have e35_8 : xE (zyEl zymc B H2) 35 8 = xE (zyEl zymc B H) 35 8 := xFr_E hfr rfl
                            have e36 : ∀ i, xE (zyEl zymc B H2) 36 i = xE (zyEl zymc B H) 36 i := fun i => xFr_E hfr rfl
                            have q36 : ∀ i, xE (zyEl zymc B H) 36 i = xE (zyEl zymc B s.heap) 36 i := fun i => xFr_E hFr0 rfl
                            have hI : xE (zyEl zymc B H) 35 5 = tFr (xE (zyEl zymc B s.heap) 36) (xE (zyEl zymc B s.heap) 35 4) (xE (zyEl zymc B s.heap) 35 6) ∧ xE (zyEl zymc B H) 35 5 < (xE (zyEl zymc B s.heap) 35 4) ∧ xE (zyEl zymc B H) 35 7 = tk ((xE (zyEl zymc B s.heap) 36) (xE (zyEl zymc B H) 35 5)) ∧ (xE (zyEl zymc B H) 35 7 = 2 ∨ xE (zyEl zymc B H) 35 7 = 3) ∧ (xE (zyEl zymc B H) 35 5 < xE (zyEl zymc B H) 35 6 ∧ xE (zyEl zymc B H) 35 6 ≤ (xE (zyEl zymc B s.heap) 35 4)) ∧ tRn (xE (zyEl zymc B s.heap) 36) (xE (zyEl zymc B s.heap) 35 4) (xE (zyEl zymc B H) 35 7) (xE (zyEl zymc B H) 35 6) = tRn (xE (zyEl zymc B s.heap) 36) (xE (zyEl zymc B s.heap) 35 4) (xE (zyEl zymc B H) 35 7) (xE (zyEl zymc B H) 35 5 + 1) := hInv
                            obtain ⟨i1, i2, i3, i4, i5, i6⟩ := hI
                            have t2 : xE (zyEl zymc B s.heap) 36 (xE (zyEl zymc B H) 35 6) = (v2 3) := by rw [← q36, show xE (zyEl zymc B H) 35 6 = (v2 1) by omega]; exact f2.2
                            have hk : tk (xE (zyEl zymc B s.heap) 36 (xE (zyEl zymc B H) 35 6)) = 1 := by rw [t2]; exact tk1 (by omega) (by omega) (by omega) (by omega)
                            have hx := tRn_e (T := xE (zyEl zymc B s.heap) 36) (n := xE (zyEl zymc B s.heap) 35 4) (k := xE (zyEl zymc B H) 35 7) (p := xE (zyEl zymc B H) 35 6) (by omega)
                            refine xGo hIH hAt hB hv hFr ⟨4, by decide⟩ [0] [0] rfl ⟨by decide +kernel, ⟨rfl, by decide +kernel⟩, (xcs_c rfl xcs_n), (xe_0 xe_n), xkq_n⟩ xst_n ?_ ?_
                            · show xE (zyEl zymc B H2) 35 5 = tFr (xE (zyEl zymc B s.heap) 36) (xE (zyEl zymc B s.heap) 35 4) (xE (zyEl zymc B s.heap) 35 6) ∧ xE (zyEl zymc B H2) 35 5 < (xE (zyEl zymc B s.heap) 35 4) ∧ xE (zyEl zymc B H2) 35 7 = tk ((xE (zyEl zymc B s.heap) 36) (xE (zyEl zymc B H2) 35 5)) ∧ (xE (zyEl zymc B H2) 35 7 = 2 ∨ xE (zyEl zymc B H2) 35 7 = 3) ∧ xE (zyEl zymc B H2) 35 6 = tNx (xE (zyEl zymc B s.heap) 36) (xE (zyEl zymc B s.heap) 35 4) (xE (zyEl zymc B s.heap) 35 6)
                              rw [show xE (zyEl zymc B H2) 35 5 = xE (zyEl zymc B H) 35 5 by omega, show xE (zyEl zymc B H2) 35 7 = xE (zyEl zymc B H) 35 7 by omega, show xE (zyEl zymc B H2) 35 6 = xE (zyEl zymc B H) 35 6 by omega]
                              refine ⟨i1, i2, i3, i4, ?_⟩
                              rw [tNx_k (by omega) (by rw [← i1, ← i3]; exact i4), ← i1, ← i3, ← i6]
                              exact hx.symm
                            · show 500 < 1000 + (1000 - xE (zyEl zymc B H) 35 6).toNat
                              omega
                          · skip
                            rcases List.mem_cons.mp hx with ex | hx
                            · subst ex
                              obtain ⟨hF, hBd, hM⟩ := hXs
                              have g1 : v2 1 = v 1 := hag 1 (by decide)
                              have b0 : ((2147483648 : Nat) : Int) ≤ (v2 1) + 2147483648 ∧ (v2 1) + 2147483648 ≤ ((2147484547 : Nat) : Int) := xXb hBd 0 rfl
                              have b1 : ((2147483649 : Nat) : Int) ≤ (v2 2) + 2147483648 ∧ (v2 2) + 2147483648 ≤ ((2147484548 : Nat) : Int) := xXb hBd 1 rfl
                              have b2 : ((2147483708 : Nat) : Int) ≤ (v2 3) + 2147483648 ∧ (v2 3) + 2147483648 ≤ ((2147483744 : Nat) : Int) := xXb hBd 2 rfl
                              have b3 : ((2147483649 : Nat) : Int) ≤ (v2 4) + 2147483648 ∧ (v2 4) + 2147483648 ≤ ((2147483649 : Nat) : Int) := xXb hBd 3 rfl
                              have k0 : xE (zyEl zymc B H) 35 6 = v 1 := xKcf hKc 0 rfl rfl
                              have f0 : (0 : Int) ≤ 4 ∧ xE (zyEl zymc B H) 35 4 = (v2 2) := xXf hF 0 rfl
                              have f1 : (v2 1) < (v2 2) := xXf hF 1 rfl
                              have f2 : (0 : Int) ≤ (v2 1) ∧ xE (zyEl zymc B H) 36 (v2 1) = (v2 3) := xXf hF 2 rfl
                              have f3 : (v2 3) < 97 := xXf hF 3 rfl
                              have f4 : 48 ≤ (v2 3) := xXf hF 4 rfl
                              have f5 : 57 < (v2 3) := xXf hF 5 rfl
                              have f6 : ¬ (v2 3) = 45 := xXf hF 6 rfl
                              have f7 : ¬ (v2 3) = 59 := xXf hF 7 rfl
                              have f8 : (0 : Int) ≤ 7 ∧ xE (zyEl zymc B H) 35 7 = (v2 4) := xXf hF 8 rfl
                              have f9 : 1 = (v2 4) := xXf hF 9 rfl
                              have m0 : xE (zyEl zymc B H2) 35 6 = (v2 1 + 1) := xXm hM 0 rfl
                              have e35_4 : xE (zyEl zymc B H2) 35 4 = xE (zyEl zymc B H) 35 4 := xFr_E hfr rfl
                              have q35_4 : xE (zyEl zymc B H) 35 4 = xE (zyEl zymc B s.heap) 35 4 := xFr_E hFr0 rfl
                              have e35_5 : xE (zyEl zymc B H2) 35 5 = xE (zyEl zymc B H) 35 5 := xFr_E hfr rfl
                              have e35_7 : xE (zyEl zymc B H2) 35 7 = xE (zyEl zymc B H) 35 7 := xFr_E hfr rfl
                              have e35_8 : xE (zyEl zymc B H2) 35 8 = xE (zyEl zymc B H) 35 8 := xFr_E hfr rfl
                              have e36 : ∀ i, xE (zyEl zymc B H2) 36 i = xE (zyEl zymc B H) 36 i := fun i => xFr_E hfr rfl
                              have q36 : ∀ i, xE (zyEl zymc B H) 36 i = xE (zyEl zymc B s.heap) 36 i := fun i => xFr_E hFr0 rfl
                              have hI : xE (zyEl zymc B H) 35 5 = tFr (xE (zyEl zymc B s.heap) 36) (xE (zyEl zymc B s.heap) 35 4) (xE (zyEl zymc B s.heap) 35 6) ∧ xE (zyEl zymc B H) 35 5 < (xE (zyEl zymc B s.heap) 35 4) ∧ xE (zyEl zymc B H) 35 7 = tk ((xE (zyEl zymc B s.heap) 36) (xE (zyEl zymc B H) 35 5)) ∧ (xE (zyEl zymc B H) 35 7 = 2 ∨ xE (zyEl zymc B H) 35 7 = 3) ∧ (xE (zyEl zymc B H) 35 5 < xE (zyEl zymc B H) 35 6 ∧ xE (zyEl zymc B H) 35 6 ≤ (xE (zyEl zymc B s.heap) 35 4)) ∧ tRn (xE (zyEl zymc B s.heap) 36) (xE (zyEl zymc B s.heap) 35 4) (xE (zyEl zymc B H) 35 7) (xE (zyEl zymc B H) 35 6) = tRn (xE (zyEl zymc B s.heap) 36) (xE (zyEl zymc B s.heap) 35 4) (xE (zyEl zymc B H) 35 7) (xE (zyEl zymc B H) 35 5 + 1) := hInv
                              obtain ⟨i1, i2, i3, i4, i5, i6⟩ := hI
                              have t2 : xE (zyEl zymc B s.heap) 36 (xE (zyEl zymc B H) 35 6) = (v2 3) := by rw [← q36, show xE (zyEl zymc B H) 35 6 = (v2 1) by omega]; exact f2.2
                              have hk : tk (xE (zyEl zymc B s.heap) 36 (xE (zyEl zymc B H) 35 6)) = xE (zyEl zymc B H) 35 7 := by rw [t2, show xE (zyEl zymc B H) 35 7 = 1 by omega]; exact tk1 (by omega) (by omega) (by omega) (by omega)
                              have z35_6 : ((2147483648 : Nat) : Int) ≤ xE (zyEl zymc B H2) 35 6 + 2147483648 ∧ xE (zyEl zymc B H2) 35 6 + 2147483648 ≤ ((2147484548 : Nat) : Int) := xTyF hT2 35 6 6 rfl rfl rfl rfl rfl rfl
                              refine xGo hIH hAt hB hv hFr ⟨3, by decide⟩ [0] [0, xE (zyEl zymc B H2) 35 6] rfl ⟨by decide +kernel, ⟨rfl, by decide +kernel⟩, (xcs_c rfl xcs_n), (xe_0 (xe_c (by omega) (by omega) rfl xe_n)), (xkq_c hT2 35 6 (q := 6) rfl rfl rfl rfl rfl rfl rfl rfl rfl rfl rfl xkq_n)⟩ xst_n ?_ ?_
                              · show xE (zyEl zymc B H2) 35 5 = tFr (xE (zyEl zymc B s.heap) 36) (xE (zyEl zymc B s.heap) 35 4) (xE (zyEl zymc B s.heap) 35 6) ∧ xE (zyEl zymc B H2) 35 5 < (xE (zyEl zymc B s.heap) 35 4) ∧ xE (zyEl zymc B H2) 35 7 = tk ((xE (zyEl zymc B s.heap) 36) (xE (zyEl zymc B H2) 35 5)) ∧ (xE (zyEl zymc B H2) 35 7 = 2 ∨ xE (zyEl zymc B H2) 35 7 = 3) ∧ (xE (zyEl zymc B H2) 35 5 < xE (zyEl zymc B H2) 35 6 ∧ xE (zyEl zymc B H2) 35 6 ≤ (xE (zyEl zymc B s.heap) 35 4)) ∧ tRn (xE (zyEl zymc B s.heap) 36) (xE (zyEl zymc B s.heap) 35 4) (xE (zyEl zymc B H2) 35 7) (xE (zyEl zymc B H2) 35 6) = tRn (xE (zyEl zymc B s.heap) 36) (xE (zyEl zymc B s.heap) 35 4) (xE (zyEl zymc B H2) 35 7) (xE (zyEl zymc B H2) 35 5 + 1)
                                rw [show xE (zyEl zymc B H2) 35 5 = xE (zyEl zymc B H) 35 5 by omega, show xE (zyEl zymc B H2) 35 7 = xE (zyEl zymc B H) 35 7 by omega, show xE (zyEl zymc B H2) 35 6 = xE (zyEl zymc B H) 35 6 + 1 by omega]
                                exact ⟨i1, i2, i3, i4, by omega, (tRn_s (by omega) hk).trans i6⟩
                              · show 1000 + (1000 - xE (zyEl zymc B H2) 35 6).toNat < 1000 + (1000 - xE (zyEl zymc B H) 35 6).toNat
                                omega
                            · skip
                              rcases List.mem_cons.mp hx with ex | hx
                              · subst ex
                                obtain ⟨hF, hBd, hM⟩ := hXs
                                have g1 : v2 1 = v 1 := hag 1 (by decide)
                                have b0 : ((2147483648 : Nat) : Int) ≤ (v2 1) + 2147483648 ∧ (v2 1) + 2147483648 ≤ ((2147484547 : Nat) : Int) := xXb hBd 0 rfl
                                have b1 : ((2147483649 : Nat) : Int) ≤ (v2 2) + 2147483648 ∧ (v2 2) + 2147483648 ≤ ((2147484548 : Nat) : Int) := xXb hBd 1 rfl
                                have b2 : ((2147483706 : Nat) : Int) ≤ (v2 3) + 2147483648 ∧ (v2 3) + 2147483648 ≤ ((2147483706 : Nat) : Int) := xXb hBd 2 rfl
                                have b3 : ((2147483650 : Nat) : Int) ≤ (v2 4) + 2147483648 ∧ (v2 4) + 2147483648 ≤ ((2147483653 : Nat) : Int) := xXb hBd 3 rfl
                                have k0 : xE (zyEl zymc B H) 35 6 = v 1 := xKcf hKc 0 rfl rfl
                                have f0 : (0 : Int) ≤ 4 ∧ xE (zyEl zymc B H) 35 4 = (v2 2) := xXf hF 0 rfl
                                have f1 : (v2 1) < (v2 2) := xXf hF 1 rfl
                                have f2 : (0 : Int) ≤ (v2 1) ∧ xE (zyEl zymc B H) 36 (v2 1) = (v2 3) := xXf hF 2 rfl
                                have f3 : (v2 3) < 97 := xXf hF 3 rfl
                                have f4 : 48 ≤ (v2 3) := xXf hF 4 rfl
                                have f5 : 57 < (v2 3) := xXf hF 5 rfl
                                have f6 : ¬ (v2 3) = 45 := xXf hF 6 rfl
                                have f7 : ¬ (v2 3) = 59 := xXf hF 7 rfl
                                have f8 : (0 : Int) ≤ 7 ∧ xE (zyEl zymc B H) 35 7 = (v2 4) := xXf hF 8 rfl
                                have f9 : ¬ 1 = (v2 4) := xXf hF 9 rfl
                                have m0 : xE (zyEl zymc B H2) 35 6 = (v2 1) := xXm hM 0 rfl
                                have e35_4 : xE (zyEl zymc B H2) 35 4 = xE (zyEl zymc B H) 35 4 := xFr_E hfr rfl
                                have q35_4 : xE (zyEl zymc B H) 35 4 = xE (zyEl zymc B s.heap) 35 4 := xFr_E hFr0 rfl
                                have e35_5 : xE (zyEl zymc B H2) 35 5 = xE (zyEl zymc B H) 35 5 := xFr_E hfr rfl
                                have e35_7 : xE (zyEl zymc B H2) 35 7 = xE (zyEl zymc B H) 35 7 := xFr_E hfr rfl
                                have e35_8 : xE (zyEl zymc B H2) 35 8 = xE (zyEl zymc B H) 35 8 := xFr_E hfr rfl
                                have e36 : ∀ i, xE (zyEl zymc B H2) 36 i = xE (zyEl zymc B H) 36 i := fun i => xFr_E hfr rfl
                                have q36 : ∀ i, xE (zyEl zymc B H) 36 i = xE (zyEl zymc B s.heap) 36 i := fun i => xFr_E hFr0 rfl
                                have hI : xE (zyEl zymc B H) 35 5 = tFr (xE (zyEl zymc B s.heap) 36) (xE (zyEl zymc B s.heap) 35 4) (xE (zyEl zymc B s.heap) 35 6) ∧ xE (zyEl zymc B H) 35 5 < (xE (zyEl zymc B s.heap) 35 4) ∧ xE (zyEl zymc B H) 35 7 = tk ((xE (zyEl zymc B s.heap) 36) (xE (zyEl zymc B H) 35 5)) ∧ (xE (zyEl zymc B H) 35 7 = 2 ∨ xE (zyEl zymc B H) 35 7 = 3) ∧ (xE (zyEl zymc B H) 35 5 < xE (zyEl zymc B H) 35 6 ∧ xE (zyEl zymc B H) 35 6 ≤ (xE (zyEl zymc B s.heap) 35 4)) ∧ tRn (xE (zyEl zymc B s.heap) 36) (xE (zyEl zymc B s.heap) 35 4) (xE (zyEl zymc B H) 35 7) (xE (zyEl zymc B H) 35 6) = tRn (xE (zyEl zymc B s.heap) 36) (xE (zyEl zymc B s.heap) 35 4) (xE (zyEl zymc B H) 35 7) (xE (zyEl zymc B H) 35 5 + 1) := hInv
                                obtain ⟨i1, i2, i3, i4, i5, i6⟩ := hI
                                have t2 : xE (zyEl zymc B s.heap) 36 (xE (zyEl zymc B H) 35 6) = (v2 3) := by rw [← q36, show xE (zyEl zymc B H) 35 6 = (v2 1) by omega]; exact f2.2
                                have hk : tk (xE (zyEl zymc B s.heap) 36 (xE (zyEl zymc B H) 35 6)) = 1 := by rw [t2]; exact tk1 (by omega) (by omega) (by omega) (by omega)
                                have hx := tRn_e (T := xE (zyEl zymc B s.heap) 36) (n := xE (zyEl zymc B s.heap) 35 4) (k := xE (zyEl zymc B H) 35 7) (p := xE (zyEl zymc B H) 35 6) (by omega)
                                refine xGo hIH hAt hB hv hFr ⟨4, by decide⟩ [0] [0] rfl ⟨by decide +kernel, ⟨rfl, by decide +kernel⟩, (xcs_c rfl xcs_n), (xe_0 xe_n), xkq_n⟩ xst_n ?_ ?_
                                · show xE (zyEl zymc B H2) 35 5 = tFr (xE (zyEl zymc B s.heap) 36) (xE (zyEl zymc B s.heap) 35 4) (xE (zyEl zymc B s.heap) 35 6) ∧ xE (zyEl zymc B H2) 35 5 < (xE (zyEl zymc B s.heap) 35 4) ∧ xE (zyEl zymc B H2) 35 7 = tk ((xE (zyEl zymc B s.heap) 36) (xE (zyEl zymc B H2) 35 5)) ∧ (xE (zyEl zymc B H2) 35 7 = 2 ∨ xE (zyEl zymc B H2) 35 7 = 3) ∧ xE (zyEl zymc B H2) 35 6 = tNx (xE (zyEl zymc B s.heap) 36) (xE (zyEl zymc B s.heap) 35 4) (xE (zyEl zymc B s.heap) 35 6)
                                  rw [show xE (zyEl zymc B H2) 35 5 = xE (zyEl zymc B H) 35 5 by omega, show xE (zyEl zymc B H2) 35 7 = xE (zyEl zymc B H) 35 7 by omega, show xE (zyEl zymc B H2) 35 6 = xE (zyEl zymc B H) 35 6 by omega]
                                  refine ⟨i1, i2, i3, i4, ?_⟩
                                  rw [tNx_k (by omega) (by rw [← i1, ← i3]; exact i4), ← i1, ← i3, ← i6]
                                  exact hx.symm
                                · show 500 < 1000 + (1000 - xE (zyEl zymc B H) 35 6).toNat
                                  omega
                              · skip
                                rcases List.mem_cons.mp hx with ex | hx
                                · subst ex
                                  obtain ⟨hF, hBd, hM⟩ := hXs
                                  have g1 : v2 1 = v 1 := hag 1 (by decide)
                                  have b0 : ((2147483648 : Nat) : Int) ≤ (v2 1) + 2147483648 ∧ (v2 1) + 2147483648 ≤ ((2147484547 : Nat) : Int) := xXb hBd 0 rfl
                                  have b1 : ((2147483649 : Nat) : Int) ≤ (v2 2) + 2147483648 ∧ (v2 2) + 2147483648 ≤ ((2147484548 : Nat) : Int) := xXb hBd 1 rfl
                                  have b2 : ((2147483706 : Nat) : Int) ≤ (v2 3) + 2147483648 ∧ (v2 3) + 2147483648 ≤ ((2147483706 : Nat) : Int) := xXb hBd 2 rfl
                                  have b3 : ((2147483648 : Nat) : Int) ≤ (v2 4) + 2147483648 ∧ (v2 4) + 2147483648 ≤ ((2147483648 : Nat) : Int) := xXb hBd 3 rfl
                                  have k0 : xE (zyEl zymc B H) 35 6 = v 1 := xKcf hKc 0 rfl rfl
                                  have f0 : (0 : Int) ≤ 4 ∧ xE (zyEl zymc B H) 35 4 = (v2 2) := xXf hF 0 rfl
                                  have f1 : (v2 1) < (v2 2) := xXf hF 1 rfl
                                  have f2 : (0 : Int) ≤ (v2 1) ∧ xE (zyEl zymc B H) 36 (v2 1) = (v2 3) := xXf hF 2 rfl
                                  have f3 : (v2 3) < 97 := xXf hF 3 rfl
                                  have f4 : 48 ≤ (v2 3) := xXf hF 4 rfl
                                  have f5 : 57 < (v2 3) := xXf hF 5 rfl
                                  have f6 : ¬ (v2 3) = 45 := xXf hF 6 rfl
                                  have f7 : ¬ (v2 3) = 59 := xXf hF 7 rfl
                                  have f8 : (0 : Int) ≤ 7 ∧ xE (zyEl zymc B H) 35 7 = (v2 4) := xXf hF 8 rfl
                                  have f9 : ¬ 1 = (v2 4) := xXf hF 9 rfl
                                  have m0 : xE (zyEl zymc B H2) 35 6 = (v2 1) := xXm hM 0 rfl
                                  have e35_4 : xE (zyEl zymc B H2) 35 4 = xE (zyEl zymc B H) 35 4 := xFr_E hfr rfl
                                  have q35_4 : xE (zyEl zymc B H) 35 4 = xE (zyEl zymc B s.heap) 35 4 := xFr_E hFr0 rfl
                                  have e35_5 : xE (zyEl zymc B H2) 35 5 = xE (zyEl zymc B H) 35 5 := xFr_E hfr rfl
                                  have e35_7 : xE (zyEl zymc B H2) 35 7 = xE (zyEl zymc B H) 35 7 := xFr_E hfr rfl
                                  have e35_8 : xE (zyEl zymc B H2) 35 8 = xE (zyEl zymc B H) 35 8 := xFr_E hfr rfl
                                  have e36 : ∀ i, xE (zyEl zymc B H2) 36 i = xE (zyEl zymc B H) 36 i := fun i => xFr_E hfr rfl
                                  have q36 : ∀ i, xE (zyEl zymc B H) 36 i = xE (zyEl zymc B s.heap) 36 i := fun i => xFr_E hFr0 rfl
                                  have hI : xE (zyEl zymc B H) 35 5 = tFr (xE (zyEl zymc B s.heap) 36) (xE (zyEl zymc B s.heap) 35 4) (xE (zyEl zymc B s.heap) 35 6) ∧ xE (zyEl zymc B H) 35 5 < (xE (zyEl zymc B s.heap) 35 4) ∧ xE (zyEl zymc B H) 35 7 = tk ((xE (zyEl zymc B s.heap) 36) (xE (zyEl zymc B H) 35 5)) ∧ (xE (zyEl zymc B H) 35 7 = 2 ∨ xE (zyEl zymc B H) 35 7 = 3) ∧ (xE (zyEl zymc B H) 35 5 < xE (zyEl zymc B H) 35 6 ∧ xE (zyEl zymc B H) 35 6 ≤ (xE (zyEl zymc B s.heap) 35 4)) ∧ tRn (xE (zyEl zymc B s.heap) 36) (xE (zyEl zymc B s.heap) 35 4) (xE (zyEl zymc B H) 35 7) (xE (zyEl zymc B H) 35 6) = tRn (xE (zyEl zymc B s.heap) 36) (xE (zyEl zymc B s.heap) 35 4) (xE (zyEl zymc B H) 35 7) (xE (zyEl zymc B H) 35 5 + 1) := hInv
                                  obtain ⟨i1, i2, i3, i4, i5, i6⟩ := hI
                                  have t2 : xE (zyEl zymc B s.heap) 36 (xE (zyEl zymc B H) 35 6) = (v2 3) := by rw [← q36, show xE (zyEl zymc B H) 35 6 = (v2 1) by omega]; exact f2.2
                                  have hk : tk (xE (zyEl zymc B s.heap) 36 (xE (zyEl zymc B H) 35 6)) = 1 := by rw [t2]; exact tk1 (by omega) (by omega) (by omega) (by omega)
                                  have hx := tRn_e (T := xE (zyEl zymc B s.heap) 36) (n := xE (zyEl zymc B s.heap) 35 4) (k := xE (zyEl zymc B H) 35 7) (p := xE (zyEl zymc B H) 35 6) (by omega)
                                  refine xGo hIH hAt hB hv hFr ⟨4, by decide⟩ [0] [0] rfl ⟨by decide +kernel, ⟨rfl, by decide +kernel⟩, (xcs_c rfl xcs_n), (xe_0 xe_n), xkq_n⟩ xst_n ?_ ?_
                                  · show xE (zyEl zymc B H2) 35 5 = tFr (xE (zyEl zymc B s.heap) 36) (xE (zyEl zymc B s.heap) 35 4) (xE (zyEl zymc B s.heap) 35 6) ∧ xE (zyEl zymc B H2) 35 5 < (xE (zyEl zymc B s.heap) 35 4) ∧ xE (zyEl zymc B H2) 35 7 = tk ((xE (zyEl zymc B s.heap) 36) (xE (zyEl zymc B H2) 35 5)) ∧ (xE (zyEl zymc B H2) 35 7 = 2 ∨ xE (zyEl zymc B H2) 35 7 = 3) ∧ xE (zyEl zymc B H2) 35 6 = tNx (xE (zyEl zymc B s.heap) 36) (xE (zyEl zymc B s.heap) 35 4) (xE (zyEl zymc B s.heap) 35 6)
                                    rw [show xE (zyEl zymc B H2) 35 5 = xE (zyEl zymc B H) 35 5 by omega, show xE (zyEl zymc B H2) 35 7 = xE (zyEl zymc B H) 35 7 by omega, show xE (zyEl zymc B H2) 35 6 = xE (zyEl zymc B H) 35 6 by omega]
                                    refine ⟨i1, i2, i3, i4, ?_⟩
                                    rw [tNx_k (by omega) (by rw [← i1, ← i3]; exact i4), ← i1, ← i3, ← i6]
                                    exact hx.symm
                                  · show 500 < 1000 + (1000 - xE (zyEl zymc B H) 35 6).toNat
                                    omega
                                · skip
                                  rcases List.mem_cons.mp hx with ex | hx
                                  · subst ex
                                    obtain ⟨hF, hBd, hM⟩ := hXs
                                    have g1 : v2 1 = v 1 := hag 1 (by decide)
                                    have b0 : ((2147483648 : Nat) : Int) ≤ (v2 1) + 2147483648 ∧ (v2 1) + 2147483648 ≤ ((2147484547 : Nat) : Int) := xXb hBd 0 rfl
                                    have b1 : ((2147483649 : Nat) : Int) ≤ (v2 2) + 2147483648 ∧ (v2 2) + 2147483648 ≤ ((2147484548 : Nat) : Int) := xXb hBd 1 rfl
                                    have b2 : ((2147483706 : Nat) : Int) ≤ (v2 3) + 2147483648 ∧ (v2 3) + 2147483648 ≤ ((2147483706 : Nat) : Int) := xXb hBd 2 rfl
                                    have b3 : ((2147483649 : Nat) : Int) ≤ (v2 4) + 2147483648 ∧ (v2 4) + 2147483648 ≤ ((2147483649 : Nat) : Int) := xXb hBd 3 rfl
                                    have k0 : xE (zyEl zymc B H) 35 6 = v 1 := xKcf hKc 0 rfl rfl
                                    have f0 : (0 : Int) ≤ 4 ∧ xE (zyEl zymc B H) 35 4 = (v2 2) := xXf hF 0 rfl
                                    have f1 : (v2 1) < (v2 2) := xXf hF 1 rfl
                                    have f2 : (0 : Int) ≤ (v2 1) ∧ xE (zyEl zymc B H) 36 (v2 1) = (v2 3) := xXf hF 2 rfl
                                    have f3 : (v2 3) < 97 := xXf hF 3 rfl
                                    have f4 : 48 ≤ (v2 3) := xXf hF 4 rfl
                                    have f5 : 57 < (v2 3) := xXf hF 5 rfl
                                    have f6 : ¬ (v2 3) = 45 := xXf hF 6 rfl
                                    have f7 : ¬ (v2 3) = 59 := xXf hF 7 rfl
                                    have f8 : (0 : Int) ≤ 7 ∧ xE (zyEl zymc B H) 35 7 = (v2 4) := xXf hF 8 rfl
                                    have f9 : 1 = (v2 4) := xXf hF 9 rfl
                                    have m0 : xE (zyEl zymc B H2) 35 6 = (v2 1 + 1) := xXm hM 0 rfl
                                    have e35_4 : xE (zyEl zymc B H2) 35 4 = xE (zyEl zymc B H) 35 4 := xFr_E hfr rfl
                                    have q35_4 : xE (zyEl zymc B H) 35 4 = xE (zyEl zymc B s.heap) 35 4 := xFr_E hFr0 rfl
                                    have e35_5 : xE (zyEl zymc B H2) 35 5 = xE (zyEl zymc B H) 35 5 := xFr_E hfr rfl
                                    have e35_7 : xE (zyEl zymc B H2) 35 7 = xE (zyEl zymc B H) 35 7 := xFr_E hfr rfl
                                    have e35_8 : xE (zyEl zymc B H2) 35 8 = xE (zyEl zymc B H) 35 8 := xFr_E hfr rfl
                                    have e36 : ∀ i, xE (zyEl zymc B H2) 36 i = xE (zyEl zymc B H) 36 i := fun i => xFr_E hfr rfl
                                    have q36 : ∀ i, xE (zyEl zymc B H) 36 i = xE (zyEl zymc B s.heap) 36 i := fun i => xFr_E hFr0 rfl
                                    have hI : xE (zyEl zymc B H) 35 5 = tFr (xE (zyEl zymc B s.heap) 36) (xE (zyEl zymc B s.heap) 35 4) (xE (zyEl zymc B s.heap) 35 6) ∧ xE (zyEl zymc B H) 35 5 < (xE (zyEl zymc B s.heap) 35 4) ∧ xE (zyEl zymc B H) 35 7 = tk ((xE (zyEl zymc B s.heap) 36) (xE (zyEl zymc B H) 35 5)) ∧ (xE (zyEl zymc B H) 35 7 = 2 ∨ xE (zyEl zymc B H) 35 7 = 3) ∧ (xE (zyEl zymc B H) 35 5 < xE (zyEl zymc B H) 35 6 ∧ xE (zyEl zymc B H) 35 6 ≤ (xE (zyEl zymc B s.heap) 35 4)) ∧ tRn (xE (zyEl zymc B s.heap) 36) (xE (zyEl zymc B s.heap) 35 4) (xE (zyEl zymc B H) 35 7) (xE (zyEl zymc B H) 35 6) = tRn (xE (zyEl zymc B s.heap) 36) (xE (zyEl zymc B s.heap) 35 4) (xE (zyEl zymc B H) 35 7) (xE (zyEl zymc B H) 35 5 + 1) := hInv
                                    obtain ⟨i1, i2, i3, i4, i5, i6⟩ := hI
                                    have t2 : xE (zyEl zymc B s.heap) 36 (xE (zyEl zymc B H) 35 6) = (v2 3) := by rw [← q36, show xE (zyEl zymc B H) 35 6 = (v2 1) by omega]; exact f2.2
                                    have hk : tk (xE (zyEl zymc B s.heap) 36 (xE (zyEl zymc B H) 35 6)) = xE (zyEl zymc B H) 35 7 := by rw [t2, show xE (zyEl zymc B H) 35 7 = 1 by omega]; exact tk1 (by omega) (by omega) (by omega) (by omega)
                                    have z35_6 : ((2147483648 : Nat) : Int) ≤ xE (zyEl zymc B H2) 35 6 + 2147483648 ∧ xE (zyEl zymc B H2) 35 6 + 2147483648 ≤ ((2147484548 : Nat) : Int) := xTyF hT2 35 6 6 rfl rfl rfl rfl rfl rfl
                                    refine xGo hIH hAt hB hv hFr ⟨3, by decide⟩ [0] [0, xE (zyEl zymc B H2) 35 6] rfl ⟨by decide +kernel, ⟨rfl, by decide +kernel⟩, (xcs_c rfl xcs_n), (xe_0 (xe_c (by omega) (by omega) rfl xe_n)), (xkq_c hT2 35 6 (q := 6) rfl rfl rfl rfl rfl rfl rfl rfl rfl rfl rfl xkq_n)⟩ xst_n ?_ ?_
                                    · show xE (zyEl zymc B H2) 35 5 = tFr (xE (zyEl zymc B s.heap) 36) (xE (zyEl zymc B s.heap) 35 4) (xE (zyEl zymc B s.heap) 35 6) ∧ xE (zyEl zymc B H2) 35 5 < (xE (zyEl zymc B s.heap) 35 4) ∧ xE (zyEl zymc B H2) 35 7 = tk ((xE (zyEl zymc B s.heap) 36) (xE (zyEl zymc B H2) 35 5)) ∧ (xE (zyEl zymc B H2) 35 7 = 2 ∨ xE (zyEl zymc B H2) 35 7 = 3) ∧ (xE (zyEl zymc B H2) 35 5 < xE (zyEl zymc B H2) 35 6 ∧ xE (zyEl zymc B H2) 35 6 ≤ (xE (zyEl zymc B s.heap) 35 4)) ∧ tRn (xE (zyEl zymc B s.heap) 36) (xE (zyEl zymc B s.heap) 35 4) (xE (zyEl zymc B H2) 35 7) (xE (zyEl zymc B H2) 35 6) = tRn (xE (zyEl zymc B s.heap) 36) (xE (zyEl zymc B s.heap) 35 4) (xE (zyEl zymc B H2) 35 7) (xE (zyEl zymc B H2) 35 5 + 1)
                                      rw [show xE (zyEl zymc B H2) 35 5 = xE (zyEl zymc B H) 35 5 by omega, show xE (zyEl zymc B H2) 35 7 = xE (zyEl zymc B H) 35 7 by omega, show xE (zyEl zymc B H2) 35 6 = xE (zyEl zymc B H) 35 6 + 1 by omega]
                                      exact ⟨i1, i2, i3, i4, by omega, (tRn_s (by omega) hk).trans i6⟩
                                    · show 1000 + (1000 - xE (zyEl zymc B H2) 35 6).toNat < 1000 + (1000 - xE (zyEl zymc B H) 35 6).toNat
                                      omega
                                  · skip
                                    rcases List.mem_cons.mp hx with ex | hx
                                    · subst ex
                                      obtain ⟨hF, hBd, hM⟩ := hXs
                                      have g1 : v2 1 = v 1 := hag 1 (by decide)
                                      have b0 : ((2147483648 : Nat) : Int) ≤ (v2 1) + 2147483648 ∧ (v2 1) + 2147483648 ≤ ((2147484547 : Nat) : Int) := xXb hBd 0 rfl
                                      have b1 : ((2147483649 : Nat) : Int) ≤ (v2 2) + 2147483648 ∧ (v2 2) + 2147483648 ≤ ((2147484548 : Nat) : Int) := xXb hBd 1 rfl
                                      have b2 : ((2147483707 : Nat) : Int) ≤ (v2 3) + 2147483648 ∧ (v2 3) + 2147483648 ≤ ((2147483707 : Nat) : Int) := xXb hBd 2 rfl
                                      have b3 : ((2147483648 : Nat) : Int) ≤ (v2 4) + 2147483648 ∧ (v2 4) + 2147483648 ≤ ((2147483652 : Nat) : Int) := xXb hBd 3 rfl
                                      have k0 : xE (zyEl zymc B H) 35 6 = v 1 := xKcf hKc 0 rfl rfl
                                      have f0 : (0 : Int) ≤ 4 ∧ xE (zyEl zymc B H) 35 4 = (v2 2) := xXf hF 0 rfl
                                      have f1 : (v2 1) < (v2 2) := xXf hF 1 rfl
                                      have f2 : (0 : Int) ≤ (v2 1) ∧ xE (zyEl zymc B H) 36 (v2 1) = (v2 3) := xXf hF 2 rfl
                                      have f3 : (v2 3) < 97 := xXf hF 3 rfl
                                      have f4 : 48 ≤ (v2 3) := xXf hF 4 rfl
                                      have f5 : 57 < (v2 3) := xXf hF 5 rfl
                                      have f6 : ¬ (v2 3) = 45 := xXf hF 6 rfl
                                      have f7 : (v2 3) = 59 := xXf hF 7 rfl
                                      have f8 : (0 : Int) ≤ 7 ∧ xE (zyEl zymc B H) 35 7 = (v2 4) := xXf hF 8 rfl
                                      have f9 : ¬ 5 = (v2 4) := xXf hF 9 rfl
                                      have m0 : xE (zyEl zymc B H2) 35 6 = (v2 1) := xXm hM 0 rfl
                                      have e35_4 : xE (zyEl zymc B H2) 35 4 = xE (zyEl zymc B H) 35 4 := xFr_E hfr rfl
                                      have q35_4 : xE (zyEl zymc B H) 35 4 = xE (zyEl zymc B s.heap) 35 4 := xFr_E hFr0 rfl
                                      have e35_5 : xE (zyEl zymc B H2) 35 5 = xE (zyEl zymc B H) 35 5 := xFr_E hfr rfl
                                      have e35_7 : xE (zyEl zymc B H2) 35 7 = xE (zyEl zymc B H) 35 7 := xFr_E hfr rfl
                                      have e35_8 : xE (zyEl zymc B H2) 35 8 = xE (zyEl zymc B H) 35 8 := xFr_E hfr rfl
                                      have e36 : ∀ i, xE (zyEl zymc B H2) 36 i = xE (zyEl zymc B H) 36 i := fun i => xFr_E hfr rfl
                                      have q36 : ∀ i, xE (zyEl zymc B H) 36 i = xE (zyEl zymc B s.heap) 36 i := fun i => xFr_E hFr0 rfl
                                      have hI : xE (zyEl zymc B H) 35 5 = tFr (xE (zyEl zymc B s.heap) 36) (xE (zyEl zymc B s.heap) 35 4) (xE (zyEl zymc B s.heap) 35 6) ∧ xE (zyEl zymc B H) 35 5 < (xE (zyEl zymc B s.heap) 35 4) ∧ xE (zyEl zymc B H) 35 7 = tk ((xE (zyEl zymc B s.heap) 36) (xE (zyEl zymc B H) 35 5)) ∧ (xE (zyEl zymc B H) 35 7 = 2 ∨ xE (zyEl zymc B H) 35 7 = 3) ∧ (xE (zyEl zymc B H) 35 5 < xE (zyEl zymc B H) 35 6 ∧ xE (zyEl zymc B H) 35 6 ≤ (xE (zyEl zymc B s.heap) 35 4)) ∧ tRn (xE (zyEl zymc B s.heap) 36) (xE (zyEl zymc B s.heap) 35 4) (xE (zyEl zymc B H) 35 7) (xE (zyEl zymc B H) 35 6) = tRn (xE (zyEl zymc B s.heap) 36) (xE (zyEl zymc B s.heap) 35 4) (xE (zyEl zymc B H) 35 7) (xE (zyEl zymc B H) 35 5 + 1) := hInv
                                      obtain ⟨i1, i2, i3, i4, i5, i6⟩ := hI
                                      have t2 : xE (zyEl zymc B s.heap) 36 (xE (zyEl zymc B H) 35 6) = (v2 3) := by rw [← q36, show xE (zyEl zymc B H) 35 6 = (v2 1) by omega]; exact f2.2
                                      have hk : tk (xE (zyEl zymc B s.heap) 36 (xE (zyEl zymc B H) 35 6)) = 5 := by rw [t2]; exact tk5 (by omega)
                                      have hx := tRn_e (T := xE (zyEl zymc B s.heap) 36) (n := xE (zyEl zymc B s.heap) 35 4) (k := xE (zyEl zymc B H) 35 7) (p := xE (zyEl zymc B H) 35 6) (by omega)
                                      refine xGo hIH hAt hB hv hFr ⟨4, by decide⟩ [0] [0] rfl ⟨by decide +kernel, ⟨rfl, by decide +kernel⟩, (xcs_c rfl xcs_n), (xe_0 xe_n), xkq_n⟩ xst_n ?_ ?_
                                      · show xE (zyEl zymc B H2) 35 5 = tFr (xE (zyEl zymc B s.heap) 36) (xE (zyEl zymc B s.heap) 35 4) (xE (zyEl zymc B s.heap) 35 6) ∧ xE (zyEl zymc B H2) 35 5 < (xE (zyEl zymc B s.heap) 35 4) ∧ xE (zyEl zymc B H2) 35 7 = tk ((xE (zyEl zymc B s.heap) 36) (xE (zyEl zymc B H2) 35 5)) ∧ (xE (zyEl zymc B H2) 35 7 = 2 ∨ xE (zyEl zymc B H2) 35 7 = 3) ∧ xE (zyEl zymc B H2) 35 6 = tNx (xE (zyEl zymc B s.heap) 36) (xE (zyEl zymc B s.heap) 35 4) (xE (zyEl zymc B s.heap) 35 6)
                                        rw [show xE (zyEl zymc B H2) 35 5 = xE (zyEl zymc B H) 35 5 by omega, show xE (zyEl zymc B H2) 35 7 = xE (zyEl zymc B H) 35 7 by omega, show xE (zyEl zymc B H2) 35 6 = xE (zyEl zymc B H) 35 6 by omega]
                                        refine ⟨i1, i2, i3, i4, ?_⟩
                                        rw [tNx_k (by omega) (by rw [← i1, ← i3]; exact i4), ← i1, ← i3, ← i6]
                                        exact hx.symm
                                      · show 500 < 1000 + (1000 - xE (zyEl zymc B H) 35 6).toNat
                                        omega
                                    · skip
                                      rcases List.mem_cons.mp hx with ex | hx
                                      · subst ex
                                        obtain ⟨hF, hBd, hM⟩ := hXs
                                        have g1 : v2 1 = v 1 := hag 1 (by decide)
                                        have b0 : ((2147483648 : Nat) : Int) ≤ (v2 1) + 2147483648 ∧ (v2 1) + 2147483648 ≤ ((2147484547 : Nat) : Int) := xXb hBd 0 rfl
                                        have b1 : ((2147483649 : Nat) : Int) ≤ (v2 2) + 2147483648 ∧ (v2 2) + 2147483648 ≤ ((2147484548 : Nat) : Int) := xXb hBd 1 rfl
                                        have b2 : ((2147483707 : Nat) : Int) ≤ (v2 3) + 2147483648 ∧ (v2 3) + 2147483648 ≤ ((2147483707 : Nat) : Int) := xXb hBd 2 rfl
                                        have b3 : ((2147483653 : Nat) : Int) ≤ (v2 4) + 2147483648 ∧ (v2 4) + 2147483648 ≤ ((2147483653 : Nat) : Int) := xXb hBd 3 rfl
                                        have k0 : xE (zyEl zymc B H) 35 6 = v 1 := xKcf hKc 0 rfl rfl
                                        have f0 : (0 : Int) ≤ 4 ∧ xE (zyEl zymc B H) 35 4 = (v2 2) := xXf hF 0 rfl
                                        have f1 : (v2 1) < (v2 2) := xXf hF 1 rfl
                                        have f2 : (0 : Int) ≤ (v2 1) ∧ xE (zyEl zymc B H) 36 (v2 1) = (v2 3) := xXf hF 2 rfl
                                        have f3 : (v2 3) < 97 := xXf hF 3 rfl
                                        have f4 : 48 ≤ (v2 3) := xXf hF 4 rfl
                                        have f5 : 57 < (v2 3) := xXf hF 5 rfl
                                        have f6 : ¬ (v2 3) = 45 := xXf hF 6 rfl
                                        have f7 : (v2 3) = 59 := xXf hF 7 rfl
                                        have f8 : (0 : Int) ≤ 7 ∧ xE (zyEl zymc B H) 35 7 = (v2 4) := xXf hF 8 rfl
                                        have f9 : 5 = (v2 4) := xXf hF 9 rfl
                                        have m0 : xE (zyEl zymc B H2) 35 6 = (v2 1 + 1) := xXm hM 0 rfl
                                        have e35_4 : xE (zyEl zymc B H2) 35 4 = xE (zyEl zymc B H) 35 4 := xFr_E hfr rfl
                                        have q35_4 : xE (zyEl zymc B H) 35 4 = xE (zyEl zymc B s.heap) 35 4 := xFr_E hFr0 rfl
                                        have e35_5 : xE (zyEl zymc B H2) 35 5 = xE (zyEl zymc B H) 35 5 := xFr_E hfr rfl
                                        have e35_7 : xE (zyEl zymc B H2) 35 7 = xE (zyEl zymc B H) 35 7 := xFr_E hfr rfl
                                        have e35_8 : xE (zyEl zymc B H2) 35 8 = xE (zyEl zymc B H) 35 8 := xFr_E hfr rfl
                                        have e36 : ∀ i, xE (zyEl zymc B H2) 36 i = xE (zyEl zymc B H) 36 i := fun i => xFr_E hfr rfl
                                        have q36 : ∀ i, xE (zyEl zymc B H) 36 i = xE (zyEl zymc B s.heap) 36 i := fun i => xFr_E hFr0 rfl
                                        have hI : xE (zyEl zymc B H) 35 5 = tFr (xE (zyEl zymc B s.heap) 36) (xE (zyEl zymc B s.heap) 35 4) (xE (zyEl zymc B s.heap) 35 6) ∧ xE (zyEl zymc B H) 35 5 < (xE (zyEl zymc B s.heap) 35 4) ∧ xE (zyEl zymc B H) 35 7 = tk ((xE (zyEl zymc B s.heap) 36) (xE (zyEl zymc B H) 35 5)) ∧ (xE (zyEl zymc B H) 35 7 = 2 ∨ xE (zyEl zymc B H) 35 7 = 3) ∧ (xE (zyEl zymc B H) 35 5 < xE (zyEl zymc B H) 35 6 ∧ xE (zyEl zymc B H) 35 6 ≤ (xE (zyEl zymc B s.heap) 35 4)) ∧ tRn (xE (zyEl zymc B s.heap) 36) (xE (zyEl zymc B s.heap) 35 4) (xE (zyEl zymc B H) 35 7) (xE (zyEl zymc B H) 35 6) = tRn (xE (zyEl zymc B s.heap) 36) (xE (zyEl zymc B s.heap) 35 4) (xE (zyEl zymc B H) 35 7) (xE (zyEl zymc B H) 35 5 + 1) := hInv
                                        obtain ⟨i1, i2, i3, i4, i5, i6⟩ := hI
                                        have t2 : xE (zyEl zymc B s.heap) 36 (xE (zyEl zymc B H) 35 6) = (v2 3) := by rw [← q36, show xE (zyEl zymc B H) 35 6 = (v2 1) by omega]; exact f2.2
                                        have hk : tk (xE (zyEl zymc B s.heap) 36 (xE (zyEl zymc B H) 35 6)) = xE (zyEl zymc B H) 35 7 := by rw [t2, show xE (zyEl zymc B H) 35 7 = 5 by omega]; exact tk5 (by omega)
                                        have z35_6 : ((2147483648 : Nat) : Int) ≤ xE (zyEl zymc B H2) 35 6 + 2147483648 ∧ xE (zyEl zymc B H2) 35 6 + 2147483648 ≤ ((2147484548 : Nat) : Int) := xTyF hT2 35 6 6 rfl rfl rfl rfl rfl rfl
                                        refine xGo hIH hAt hB hv hFr ⟨3, by decide⟩ [0] [0, xE (zyEl zymc B H2) 35 6] rfl ⟨by decide +kernel, ⟨rfl, by decide +kernel⟩, (xcs_c rfl xcs_n), (xe_0 (xe_c (by omega) (by omega) rfl xe_n)), (xkq_c hT2 35 6 (q := 6) rfl rfl rfl rfl rfl rfl rfl rfl rfl rfl rfl xkq_n)⟩ xst_n ?_ ?_
                                        · show xE (zyEl zymc B H2) 35 5 = tFr (xE (zyEl zymc B s.heap) 36) (xE (zyEl zymc B s.heap) 35 4) (xE (zyEl zymc B s.heap) 35 6) ∧ xE (zyEl zymc B H2) 35 5 < (xE (zyEl zymc B s.heap) 35 4) ∧ xE (zyEl zymc B H2) 35 7 = tk ((xE (zyEl zymc B s.heap) 36) (xE (zyEl zymc B H2) 35 5)) ∧ (xE (zyEl zymc B H2) 35 7 = 2 ∨ xE (zyEl zymc B H2) 35 7 = 3) ∧ (xE (zyEl zymc B H2) 35 5 < xE (zyEl zymc B H2) 35 6 ∧ xE (zyEl zymc B H2) 35 6 ≤ (xE (zyEl zymc B s.heap) 35 4)) ∧ tRn (xE (zyEl zymc B s.heap) 36) (xE (zyEl zymc B s.heap) 35 4) (xE (zyEl zymc B H2) 35 7) (xE (zyEl zymc B H2) 35 6) = tRn (xE (zyEl zymc B s.heap) 36) (xE (zyEl zymc B s.heap) 35 4) (xE (zyEl zymc B H2) 35 7) (xE (zyEl zymc B H2) 35 5 + 1)
                                          rw [show xE (zyEl zymc B H2) 35 5 = xE (zyEl zymc B H) 35 5 by omega, show xE (zyEl zymc B H2) 35 7 = xE (zyEl zymc B H) 35 7 by omega, show xE (zyEl zymc B H2) 35 6 = xE (zyEl zymc B H) 35 6 + 1 by omega]
                                          exact ⟨i1, i2, i3, i4, by omega, (tRn_s (by omega) hk).trans i6⟩
                                        · show 1000 + (1000 - xE (zyEl zymc B H2) 35 6).toNat < 1000 + (1000 - xE (zyEl zymc B H) 35 6).toNat
                                          omega
                                      · skip
                                        rcases List.mem_cons.mp hx with ex | hx
                                        · subst ex
                                          obtain ⟨hF, hBd, hM⟩ := hXs
                                          have g1 : v2 1 = v 1 := hag 1 (by decide)
                                          have b0 : ((2147483648 : Nat) : Int) ≤ (v2 1) + 2147483648 ∧ (v2 1) + 2147483648 ≤ ((2147484547 : Nat) : Int) := xXb hBd 0 rfl
                                          have b1 : ((2147483649 : Nat) : Int) ≤ (v2 2) + 2147483648 ∧ (v2 2) + 2147483648 ≤ ((2147484548 : Nat) : Int) := xXb hBd 1 rfl
                                          have b2 : ((2147483696 : Nat) : Int) ≤ (v2 3) + 2147483648 ∧ (v2 3) + 2147483648 ≤ ((2147483705 : Nat) : Int) := xXb hBd 2 rfl
                                          have b3 : ((2147483652 : Nat) : Int) ≤ (v2 4) + 2147483648 ∧ (v2 4) + 2147483648 ≤ ((2147483653 : Nat) : Int) := xXb hBd 3 rfl
                                          have k0 : xE (zyEl zymc B H) 35 6 = v 1 := xKcf hKc 0 rfl rfl
                                          have f0 : (0 : Int) ≤ 4 ∧ xE (zyEl zymc B H) 35 4 = (v2 2) := xXf hF 0 rfl
                                          have f1 : (v2 1) < (v2 2) := xXf hF 1 rfl
                                          have f2 : (0 : Int) ≤ (v2 1) ∧ xE (zyEl zymc B H) 36 (v2 1) = (v2 3) := xXf hF 2 rfl
                                          have f3 : (v2 3) < 97 := xXf hF 3 rfl
                                          have f4 : 48 ≤ (v2 3) := xXf hF 4 rfl
                                          have f5 : (v2 3) ≤ 57 := xXf hF 5 rfl
                                          have f6 : (0 : Int) ≤ 7 ∧ xE (zyEl zymc B H) 35 7 = (v2 4) := xXf hF 6 rfl
                                          have f7 : ¬ 3 = (v2 4) := xXf hF 7 rfl
                                          have m0 : xE (zyEl zymc B H2) 35 6 = (v2 1) := xXm hM 0 rfl
                                          have e35_4 : xE (zyEl zymc B H2) 35 4 = xE (zyEl zymc B H) 35 4 := xFr_E hfr rfl
                                          have q35_4 : xE (zyEl zymc B H) 35 4 = xE (zyEl zymc B s.heap) 35 4 := xFr_E hFr0 rfl
                                          have e35_5 : xE (zyEl zymc B H2) 35 5 = xE (zyEl zymc B H) 35 5 := xFr_E hfr rfl
                                          have e35_7 : xE (zyEl zymc B H2) 35 7 = xE (zyEl zymc B H) 35 7 := xFr_E hfr rfl
                                          have e35_8 : xE (zyEl zymc B H2) 35 8 = xE (zyEl zymc B H) 35 8 := xFr_E hfr rfl
                                          have e36 : ∀ i, xE (zyEl zymc B H2) 36 i = xE (zyEl zymc B H) 36 i := fun i => xFr_E hfr rfl
                                          have q36 : ∀ i, xE (zyEl zymc B H) 36 i = xE (zyEl zymc B s.heap) 36 i := fun i => xFr_E hFr0 rfl
                                          have hI : xE (zyEl zymc B H) 35 5 = tFr (xE (zyEl zymc B s.heap) 36) (xE (zyEl zymc B s.heap) 35 4) (xE (zyEl zymc B s.heap) 35 6) ∧ xE (zyEl zymc B H) 35 5 < (xE (zyEl zymc B s.heap) 35 4) ∧ xE (zyEl zymc B H) 35 7 = tk ((xE (zyEl zymc B s.heap) 36) (xE (zyEl zymc B H) 35 5)) ∧ (xE (zyEl zymc B H) 35 7 = 2 ∨ xE (zyEl zymc B H) 35 7 = 3) ∧ (xE (zyEl zymc B H) 35 5 < xE (zyEl zymc B H) 35 6 ∧ xE (zyEl zymc B H) 35 6 ≤ (xE (zyEl zymc B s.heap) 35 4)) ∧ tRn (xE (zyEl zymc B s.heap) 36) (xE (zyEl zymc B s.heap) 35 4) (xE (zyEl zymc B H) 35 7) (xE (zyEl zymc B H) 35 6) = tRn (xE (zyEl zymc B s.heap) 36) (xE (zyEl zymc B s.heap) 35 4) (xE (zyEl zymc B H) 35 7) (xE (zyEl zymc B H) 35 5 + 1) := hInv
                                          obtain ⟨i1, i2, i3, i4, i5, i6⟩ := hI
                                          have t2 : xE (zyEl zymc B s.heap) 36 (xE (zyEl zymc B H) 35 6) = (v2 3) := by rw [← q36, show xE (zyEl zymc B H) 35 6 = (v2 1) by omega]; exact f2.2
                                          have hk : tk (xE (zyEl zymc B s.heap) 36 (xE (zyEl zymc B H) 35 6)) = 3 := by rw [t2]; exact tk3 (by omega) (by omega)
                                          have hx := tRn_e (T := xE (zyEl zymc B s.heap) 36) (n := xE (zyEl zymc B s.heap) 35 4) (k := xE (zyEl zymc B H) 35 7) (p := xE (zyEl zymc B H) 35 6) (by omega)
                                          refine xGo hIH hAt hB hv hFr ⟨4, by decide⟩ [0] [0] rfl ⟨by decide +kernel, ⟨rfl, by decide +kernel⟩, (xcs_c rfl xcs_n), (xe_0 xe_n), xkq_n⟩ xst_n ?_ ?_
                                          · show xE (zyEl zymc B H2) 35 5 = tFr (xE (zyEl zymc B s.heap) 36) (xE (zyEl zymc B s.heap) 35 4) (xE (zyEl zymc B s.heap) 35 6) ∧ xE (zyEl zymc B H2) 35 5 < (xE (zyEl zymc B s.heap) 35 4) ∧ xE (zyEl zymc B H2) 35 7 = tk ((xE (zyEl zymc B s.heap) 36) (xE (zyEl zymc B H2) 35 5)) ∧ (xE (zyEl zymc B H2) 35 7 = 2 ∨ xE (zyEl zymc B H2) 35 7 = 3) ∧ xE (zyEl zymc B H2) 35 6 = tNx (xE (zyEl zymc B s.heap) 36) (xE (zyEl zymc B s.heap) 35 4) (xE (zyEl zymc B s.heap) 35 6)
                                            rw [show xE (zyEl zymc B H2) 35 5 = xE (zyEl zymc B H) 35 5 by omega, show xE (zyEl zymc B H2) 35 7 = xE (zyEl zymc B H) 35 7 by omega, show xE (zyEl zymc B H2) 35 6 = xE (zyEl zymc B H) 35 6 by omega]
                                            refine ⟨i1, i2, i3, i4, ?_⟩
                                            rw [tNx_k (by omega) (by rw [← i1, ← i3]; exact i4), ← i1, ← i3, ← i6]
                                            exact hx.symm
                                          · show 500 < 1000 + (1000 - xE (zyEl zymc B H) 35 6).toNat
                                            omega
                                        · skip
                                          rcases List.mem_cons.mp hx with ex | hx
                                          · subst ex
                                            obtain ⟨hF, hBd, hM⟩ := hXs
                                            have g1 : v2 1 = v 1 := hag 1 (by decide)
                                            have b0 : ((2147483648 : Nat) : Int) ≤ (v2 1) + 2147483648 ∧ (v2 1) + 2147483648 ≤ ((2147484547 : Nat) : Int) := xXb hBd 0 rfl
                                            have b1 : ((2147483649 : Nat) : Int) ≤ (v2 2) + 2147483648 ∧ (v2 2) + 2147483648 ≤ ((2147484548 : Nat) : Int) := xXb hBd 1 rfl
                                            have b2 : ((2147483696 : Nat) : Int) ≤ (v2 3) + 2147483648 ∧ (v2 3) + 2147483648 ≤ ((2147483705 : Nat) : Int) := xXb hBd 2 rfl
                                            have b3 : ((2147483648 : Nat) : Int) ≤ (v2 4) + 2147483648 ∧ (v2 4) + 2147483648 ≤ ((2147483650 : Nat) : Int) := xXb hBd 3 rfl
                                            have k0 : xE (zyEl zymc B H) 35 6 = v 1 := xKcf hKc 0 rfl rfl
                                            have f0 : (0 : Int) ≤ 4 ∧ xE (zyEl zymc B H) 35 4 = (v2 2) := xXf hF 0 rfl
                                            have f1 : (v2 1) < (v2 2) := xXf hF 1 rfl
                                            have f2 : (0 : Int) ≤ (v2 1) ∧ xE (zyEl zymc B H) 36 (v2 1) = (v2 3) := xXf hF 2 rfl
                                            have f3 : (v2 3) < 97 := xXf hF 3 rfl
                                            have f4 : 48 ≤ (v2 3) := xXf hF 4 rfl
                                            have f5 : (v2 3) ≤ 57 := xXf hF 5 rfl
                                            have f6 : (0 : Int) ≤ 7 ∧ xE (zyEl zymc B H) 35 7 = (v2 4) := xXf hF 6 rfl
                                            have f7 : ¬ 3 = (v2 4) := xXf hF 7 rfl
                                            have m0 : xE (zyEl zymc B H2) 35 6 = (v2 1) := xXm hM 0 rfl
                                            have e35_4 : xE (zyEl zymc B H2) 35 4 = xE (zyEl zymc B H) 35 4 := xFr_E hfr rfl
                                            have q35_4 : xE (zyEl zymc B H) 35 4 = xE (zyEl zymc B s.heap) 35 4 := xFr_E hFr0 rfl
                                            have e35_5 : xE (zyEl zymc B H2) 35 5 = xE (zyEl zymc B H) 35 5 := xFr_E hfr rfl
                                            have e35_7 : xE (zyEl zymc B H2) 35 7 = xE (zyEl zymc B H) 35 7 := xFr_E hfr rfl
                                            have e35_8 : xE (zyEl zymc B H2) 35 8 = xE (zyEl zymc B H) 35 8 := xFr_E hfr rfl
                                            have e36 : ∀ i, xE (zyEl zymc B H2) 36 i = xE (zyEl zymc B H) 36 i := fun i => xFr_E hfr rfl
                                            have q36 : ∀ i, xE (zyEl zymc B H) 36 i = xE (zyEl zymc B s.heap) 36 i := fun i => xFr_E hFr0 rfl
                                            have hI : xE (zyEl zymc B H) 35 5 = tFr (xE (zyEl zymc B s.heap) 36) (xE (zyEl zymc B s.heap) 35 4) (xE (zyEl zymc B s.heap) 35 6) ∧ xE (zyEl zymc B H) 35 5 < (xE (zyEl zymc B s.heap) 35 4) ∧ xE (zyEl zymc B H) 35 7 = tk ((xE (zyEl zymc B s.heap) 36) (xE (zyEl zymc B H) 35 5)) ∧ (xE (zyEl zymc B H) 35 7 = 2 ∨ xE (zyEl zymc B H) 35 7 = 3) ∧ (xE (zyEl zymc B H) 35 5 < xE (zyEl zymc B H) 35 6 ∧ xE (zyEl zymc B H) 35 6 ≤ (xE (zyEl zymc B s.heap) 35 4)) ∧ tRn (xE (zyEl zymc B s.heap) 36) (xE (zyEl zymc B s.heap) 35 4) (xE (zyEl zymc B H) 35 7) (xE (zyEl zymc B H) 35 6) = tRn (xE (zyEl zymc B s.heap) 36) (xE (zyEl zymc B s.heap) 35 4) (xE (zyEl zymc B H) 35 7) (xE (zyEl zymc B H) 35 5 + 1) := hInv
                                            obtain ⟨i1, i2, i3, i4, i5, i6⟩ := hI
                                            have t2 : xE (zyEl zymc B s.heap) 36 (xE (zyEl zymc B H) 35 6) = (v2 3) := by rw [← q36, show xE (zyEl zymc B H) 35 6 = (v2 1) by omega]; exact f2.2
                                            have hk : tk (xE (zyEl zymc B s.heap) 36 (xE (zyEl zymc B H) 35 6)) = 3 := by rw [t2]; exact tk3 (by omega) (by omega)
                                            have hx := tRn_e (T := xE (zyEl zymc B s.heap) 36) (n := xE (zyEl zymc B s.heap) 35 4) (k := xE (zyEl zymc B H) 35 7) (p := xE (zyEl zymc B H) 35 6) (by omega)
                                            refine xGo hIH hAt hB hv hFr ⟨4, by decide⟩ [0] [0] rfl ⟨by decide +kernel, ⟨rfl, by decide +kernel⟩, (xcs_c rfl xcs_n), (xe_0 xe_n), xkq_n⟩ xst_n ?_ ?_
                                            · show xE (zyEl zymc B H2) 35 5 = tFr (xE (zyEl zymc B s.heap) 36) (xE (zyEl zymc B s.heap) 35 4) (xE (zyEl zymc B s.heap) 35 6) ∧ xE (zyEl zymc B H2) 35 5 < (xE (zyEl zymc B s.heap) 35 4) ∧ xE (zyEl zymc B H2) 35 7 = tk ((xE (zyEl zymc B s.heap) 36) (xE (zyEl zymc B H2) 35 5)) ∧ (xE (zyEl zymc B H2) 35 7 = 2 ∨ xE (zyEl zymc B H2) 35 7 = 3) ∧ xE (zyEl zymc B H2) 35 6 = tNx (xE (zyEl zymc B s.heap) 36) (xE (zyEl zymc B s.heap) 35 4) (xE (zyEl zymc B s.heap) 35 6)
                                              rw [show xE (zyEl zymc B H2) 35 5 = xE (zyEl zymc B H) 35 5 by omega, show xE (zyEl zymc B H2) 35 7 = xE (zyEl zymc B H) 35 7 by omega, show xE (zyEl zymc B H2) 35 6 = xE (zyEl zymc B H) 35 6 by omega]
                                              refine ⟨i1, i2, i3, i4, ?_⟩
                                              rw [tNx_k (by omega) (by rw [← i1, ← i3]; exact i4), ← i1, ← i3, ← i6]
                                              exact hx.symm
                                            · show 500 < 1000 + (1000 - xE (zyEl zymc B H) 35 6).toNat
                                              omega
                                          · skip
                                            rcases List.mem_cons.mp hx with ex | hx
                                            · subst ex
                                              obtain ⟨hF, hBd, hM⟩ := hXs
                                              have g1 : v2 1 = v 1 := hag 1 (by decide)
                                              have b0 : ((2147483648 : Nat) : Int) ≤ (v2 1) + 2147483648 ∧ (v2 1) + 2147483648 ≤ ((2147484547 : Nat) : Int) := xXb hBd 0 rfl
                                              have b1 : ((2147483649 : Nat) : Int) ≤ (v2 2) + 2147483648 ∧ (v2 2) + 2147483648 ≤ ((2147484548 : Nat) : Int) := xXb hBd 1 rfl
                                              have b2 : ((2147483696 : Nat) : Int) ≤ (v2 3) + 2147483648 ∧ (v2 3) + 2147483648 ≤ ((2147483705 : Nat) : Int) := xXb hBd 2 rfl
                                              have b3 : ((2147483651 : Nat) : Int) ≤ (v2 4) + 2147483648 ∧ (v2 4) + 2147483648 ≤ ((2147483651 : Nat) : Int) := xXb hBd 3 rfl
                                              have k0 : xE (zyEl zymc B H) 35 6 = v 1 := xKcf hKc 0 rfl rfl
                                              have f0 : (0 : Int) ≤ 4 ∧ xE (zyEl zymc B H) 35 4 = (v2 2) := xXf hF 0 rfl
                                              have f1 : (v2 1) < (v2 2) := xXf hF 1 rfl
                                              have f2 : (0 : Int) ≤ (v2 1) ∧ xE (zyEl zymc B H) 36 (v2 1) = (v2 3) := xXf hF 2 rfl
                                              have f3 : (v2 3) < 97 := xXf hF 3 rfl
                                              have f4 : 48 ≤ (v2 3) := xXf hF 4 rfl
                                              have f5 : (v2 3) ≤ 57 := xXf hF 5 rfl
                                              have f6 : (0 : Int) ≤ 7 ∧ xE (zyEl zymc B H) 35 7 = (v2 4) := xXf hF 6 rfl
                                              have f7 : 3 = (v2 4) := xXf hF 7 rfl
                                              have m0 : xE (zyEl zymc B H2) 35 6 = (v2 1 + 1) := xXm hM 0 rfl
                                              have e35_4 : xE (zyEl zymc B H2) 35 4 = xE (zyEl zymc B H) 35 4 := xFr_E hfr rfl
                                              have q35_4 : xE (zyEl zymc B H) 35 4 = xE (zyEl zymc B s.heap) 35 4 := xFr_E hFr0 rfl
                                              have e35_5 : xE (zyEl zymc B H2) 35 5 = xE (zyEl zymc B H) 35 5 := xFr_E hfr rfl
                                              have e35_7 : xE (zyEl zymc B H2) 35 7 = xE (zyEl zymc B H) 35 7 := xFr_E hfr rfl
                                              have e35_8 : xE (zyEl zymc B H2) 35 8 = xE (zyEl zymc B H) 35 8 := xFr_E hfr rfl
                                              have e36 : ∀ i, xE (zyEl zymc B H2) 36 i = xE (zyEl zymc B H) 36 i := fun i => xFr_E hfr rfl
                                              have q36 : ∀ i, xE (zyEl zymc B H) 36 i = xE (zyEl zymc B s.heap) 36 i := fun i => xFr_E hFr0 rfl
                                              have hI : xE (zyEl zymc B H) 35 5 = tFr (xE (zyEl zymc B s.heap) 36) (xE (zyEl zymc B s.heap) 35 4) (xE (zyEl zymc B s.heap) 35 6) ∧ xE (zyEl zymc B H) 35 5 < (xE (zyEl zymc B s.heap) 35 4) ∧ xE (zyEl zymc B H) 35 7 = tk ((xE (zyEl zymc B s.heap) 36) (xE (zyEl zymc B H) 35 5)) ∧ (xE (zyEl zymc B H) 35 7 = 2 ∨ xE (zyEl zymc B H) 35 7 = 3) ∧ (xE (zyEl zymc B H) 35 5 < xE (zyEl zymc B H) 35 6 ∧ xE (zyEl zymc B H) 35 6 ≤ (xE (zyEl zymc B s.heap) 35 4)) ∧ tRn (xE (zyEl zymc B s.heap) 36) (xE (zyEl zymc B s.heap) 35 4) (xE (zyEl zymc B H) 35 7) (xE (zyEl zymc B H) 35 6) = tRn (xE (zyEl zymc B s.heap) 36) (xE (zyEl zymc B s.heap) 35 4) (xE (zyEl zymc B H) 35 7) (xE (zyEl zymc B H) 35 5 + 1) := hInv
                                              obtain ⟨i1, i2, i3, i4, i5, i6⟩ := hI
                                              have t2 : xE (zyEl zymc B s.heap) 36 (xE (zyEl zymc B H) 35 6) = (v2 3) := by rw [← q36, show xE (zyEl zymc B H) 35 6 = (v2 1) by omega]; exact f2.2
                                              have hk : tk (xE (zyEl zymc B s.heap) 36 (xE (zyEl zymc B H) 35 6)) = xE (zyEl zymc B H) 35 7 := by rw [t2, show xE (zyEl zymc B H) 35 7 = 3 by omega]; exact tk3 (by omega) (by omega)
                                              have z35_6 : ((2147483648 : Nat) : Int) ≤ xE (zyEl zymc B H2) 35 6 + 2147483648 ∧ xE (zyEl zymc B H2) 35 6 + 2147483648 ≤ ((2147484548 : Nat) : Int) := xTyF hT2 35 6 6 rfl rfl rfl rfl rfl rfl
                                              refine xGo hIH hAt hB hv hFr ⟨3, by decide⟩ [0] [0, xE (zyEl zymc B H2) 35 6] rfl ⟨by decide +kernel, ⟨rfl, by decide +kernel⟩, (xcs_c rfl xcs_n), (xe_0 (xe_c (by omega) (by omega) rfl xe_n)), (xkq_c hT2 35 6 (q := 6) rfl rfl rfl rfl rfl rfl rfl rfl rfl rfl rfl xkq_n)⟩ xst_n ?_ ?_
                                              · show xE (zyEl zymc B H2) 35 5 = tFr (xE (zyEl zymc B s.heap) 36) (xE (zyEl zymc B s.heap) 35 4) (xE (zyEl zymc B s.heap) 35 6) ∧ xE (zyEl zymc B H2) 35 5 < (xE (zyEl zymc B s.heap) 35 4) ∧ xE (zyEl zymc B H2) 35 7 = tk ((xE (zyEl zymc B s.heap) 36) (xE (zyEl zymc B H2) 35 5)) ∧ (xE (zyEl zymc B H2) 35 7 = 2 ∨ xE (zyEl zymc B H2) 35 7 = 3) ∧ (xE (zyEl zymc B H2) 35 5 < xE (zyEl zymc B H2) 35 6 ∧ xE (zyEl zymc B H2) 35 6 ≤ (xE (zyEl zymc B s.heap) 35 4)) ∧ tRn (xE (zyEl zymc B s.heap) 36) (xE (zyEl zymc B s.heap) 35 4) (xE (zyEl zymc B H2) 35 7) (xE (zyEl zymc B H2) 35 6) = tRn (xE (zyEl zymc B s.heap) 36) (xE (zyEl zymc B s.heap) 35 4) (xE (zyEl zymc B H2) 35 7) (xE (zyEl zymc B H2) 35 5 + 1)
                                                rw [show xE (zyEl zymc B H2) 35 5 = xE (zyEl zymc B H) 35 5 by omega, show xE (zyEl zymc B H2) 35 7 = xE (zyEl zymc B H) 35 7 by omega, show xE (zyEl zymc B H2) 35 6 = xE (zyEl zymc B H) 35 6 + 1 by omega]
                                                exact ⟨i1, i2, i3, i4, by omega, (tRn_s (by omega) hk).trans i6⟩
                                              · show 1000 + (1000 - xE (zyEl zymc B H2) 35 6).toNat < 1000 + (1000 - xE (zyEl zymc B H) 35 6).toNat
                                                omega
                                            · skip
                                              rcases List.mem_cons.mp hx with ex | hx
                                              · subst ex
                                                obtain ⟨hF, hBd, hM⟩ := hXs
                                                have g1 : v2 1 = v 1 := hag 1 (by decide)
                                                have b0 : ((2147483648 : Nat) : Int) ≤ (v2 1) + 2147483648 ∧ (v2 1) + 2147483648 ≤ ((2147484547 : Nat) : Int) := xXb hBd 0 rfl
                                                have b1 : ((2147483649 : Nat) : Int) ≤ (v2 2) + 2147483648 ∧ (v2 2) + 2147483648 ≤ ((2147484548 : Nat) : Int) := xXb hBd 1 rfl
                                                have b2 : ((2147483771 : Nat) : Int) ≤ (v2 3) + 2147483648 ∧ (v2 3) + 2147483648 ≤ ((2147483775 : Nat) : Int) := xXb hBd 2 rfl
                                                have b3 : ((2147483650 : Nat) : Int) ≤ (v2 4) + 2147483648 ∧ (v2 4) + 2147483648 ≤ ((2147483653 : Nat) : Int) := xXb hBd 3 rfl
                                                have k0 : xE (zyEl zymc B H) 35 6 = v 1 := xKcf hKc 0 rfl rfl
                                                have f0 : (0 : Int) ≤ 4 ∧ xE (zyEl zymc B H) 35 4 = (v2 2) := xXf hF 0 rfl
                                                have f1 : (v2 1) < (v2 2) := xXf hF 1 rfl
                                                have f2 : (0 : Int) ≤ (v2 1) ∧ xE (zyEl zymc B H) 36 (v2 1) = (v2 3) := xXf hF 2 rfl
                                                have f3 : 97 ≤ (v2 3) := xXf hF 3 rfl
                                                have f4 : 122 < (v2 3) := xXf hF 4 rfl
                                                have f5 : 48 ≤ (v2 3) := xXf hF 5 rfl
                                                have f6 : 57 < (v2 3) := xXf hF 6 rfl
                                                have f7 : ¬ (v2 3) = 45 := xXf hF 7 rfl
                                                have f8 : ¬ (v2 3) = 59 := xXf hF 8 rfl
                                                have f9 : (0 : Int) ≤ 7 ∧ xE (zyEl zymc B H) 35 7 = (v2 4) := xXf hF 9 rfl
                                                have f10 : ¬ 1 = (v2 4) := xXf hF 10 rfl
                                                have m0 : xE (zyEl zymc B H2) 35 6 = (v2 1) := xXm hM 0 rfl
                                                have e35_4 : xE (zyEl zymc B H2) 35 4 = xE (zyEl zymc B H) 35 4 := xFr_E hfr rfl
                                                have q35_4 : xE (zyEl zymc B H) 35 4 = xE (zyEl zymc B s.heap) 35 4 := xFr_E hFr0 rfl
                                                have e35_5 : xE (zyEl zymc B H2) 35 5 = xE (zyEl zymc B H) 35 5 := xFr_E hfr rfl
                                                have e35_7 : xE (zyEl zymc B H2) 35 7 = xE (zyEl zymc B H) 35 7 := xFr_E hfr rfl
                                                have e35_8 : xE (zyEl zymc B H2) 35 8 = xE (zyEl zymc B H) 35 8 := xFr_E hfr rfl
                                                have e36 : ∀ i, xE (zyEl zymc B H2) 36 i = xE (zyEl zymc B H) 36 i := fun i => xFr_E hfr rfl
                                                have q36 : ∀ i, xE (zyEl zymc B H) 36 i = xE (zyEl zymc B s.heap) 36 i := fun i => xFr_E hFr0 rfl
                                                have hI : xE (zyEl zymc B H) 35 5 = tFr (xE (zyEl zymc B s.heap) 36) (xE (zyEl zymc B s.heap) 35 4) (xE (zyEl zymc B s.heap) 35 6) ∧ xE (zyEl zymc B H) 35 5 < (xE (zyEl zymc B s.heap) 35 4) ∧ xE (zyEl zymc B H) 35 7 = tk ((xE (zyEl zymc B s.heap) 36) (xE (zyEl zymc B H) 35 5)) ∧ (xE (zyEl zymc B H) 35 7 = 2 ∨ xE (zyEl zymc B H) 35 7 = 3) ∧ (xE (zyEl zymc B H) 35 5 < xE (zyEl zymc B H) 35 6 ∧ xE (zyEl zymc B H) 35 6 ≤ (xE (zyEl zymc B s.heap) 35 4)) ∧ tRn (xE (zyEl zymc B s.heap) 36) (xE (zyEl zymc B s.heap) 35 4) (xE (zyEl zymc B H) 35 7) (xE (zyEl zymc B H) 35 6) = tRn (xE (zyEl zymc B s.heap) 36) (xE (zyEl zymc B s.heap) 35 4) (xE (zyEl zymc B H) 35 7) (xE (zyEl zymc B H) 35 5 + 1) := hInv
                                                obtain ⟨i1, i2, i3, i4, i5, i6⟩ := hI
                                                have t2 : xE (zyEl zymc B s.heap) 36 (xE (zyEl zymc B H) 35 6) = (v2 3) := by rw [← q36, show xE (zyEl zymc B H) 35 6 = (v2 1) by omega]; exact f2.2
                                                have hk : tk (xE (zyEl zymc B s.heap) 36 (xE (zyEl zymc B H) 35 6)) = 1 := by rw [t2]; exact tk1 (by omega) (by omega) (by omega) (by omega)
                                                have hx := tRn_e (T := xE (zyEl zymc B s.heap) 36) (n := xE (zyEl zymc B s.heap) 35 4) (k := xE (zyEl zymc B H) 35 7) (p := xE (zyEl zymc B H) 35 6) (by omega)
                                                refine xGo hIH hAt hB hv hFr ⟨4, by decide⟩ [0] [0] rfl ⟨by decide +kernel, ⟨rfl, by decide +kernel⟩, (xcs_c rfl xcs_n), (xe_0 xe_n), xkq_n⟩ xst_n ?_ ?_
                                                · show xE (zyEl zymc B H2) 35 5 = tFr (xE (zyEl zymc B s.heap) 36) (xE (zyEl zymc B s.heap) 35 4) (xE (zyEl zymc B s.heap) 35 6) ∧ xE (zyEl zymc B H2) 35 5 < (xE (zyEl zymc B s.heap) 35 4) ∧ xE (zyEl zymc B H2) 35 7 = tk ((xE (zyEl zymc B s.heap) 36) (xE (zyEl zymc B H2) 35 5)) ∧ (xE (zyEl zymc B H2) 35 7 = 2 ∨ xE (zyEl zymc B H2) 35 7 = 3) ∧ xE (zyEl zymc B H2) 35 6 = tNx (xE (zyEl zymc B s.heap) 36) (xE (zyEl zymc B s.heap) 35 4) (xE (zyEl zymc B s.heap) 35 6)
                                                  rw [show xE (zyEl zymc B H2) 35 5 = xE (zyEl zymc B H) 35 5 by omega, show xE (zyEl zymc B H2) 35 7 = xE (zyEl zymc B H) 35 7 by omega, show xE (zyEl zymc B H2) 35 6 = xE (zyEl zymc B H) 35 6 by omega]
                                                  refine ⟨i1, i2, i3, i4, ?_⟩
                                                  rw [tNx_k (by omega) (by rw [← i1, ← i3]; exact i4), ← i1, ← i3, ← i6]
                                                  exact hx.symm
                                                · show 500 < 1000 + (1000 - xE (zyEl zymc B H) 35 6).toNat
                                                  omega
                                              · skip
                                                rcases List.mem_cons.mp hx with ex | hx
                                                · subst ex
                                                  obtain ⟨hF, hBd, hM⟩ := hXs
                                                  have g1 : v2 1 = v 1 := hag 1 (by decide)
                                                  have b0 : ((2147483648 : Nat) : Int) ≤ (v2 1) + 2147483648 ∧ (v2 1) + 2147483648 ≤ ((2147484547 : Nat) : Int) := xXb hBd 0 rfl
                                                  have b1 : ((2147483649 : Nat) : Int) ≤ (v2 2) + 2147483648 ∧ (v2 2) + 2147483648 ≤ ((2147484548 : Nat) : Int) := xXb hBd 1 rfl
                                                  have b2 : ((2147483771 : Nat) : Int) ≤ (v2 3) + 2147483648 ∧ (v2 3) + 2147483648 ≤ ((2147483775 : Nat) : Int) := xXb hBd 2 rfl
                                                  have b3 : ((2147483648 : Nat) : Int) ≤ (v2 4) + 2147483648 ∧ (v2 4) + 2147483648 ≤ ((2147483648 : Nat) : Int) := xXb hBd 3 rfl
                                                  have k0 : xE (zyEl zymc B H) 35 6 = v 1 := xKcf hKc 0 rfl rfl
                                                  have f0 : (0 : Int) ≤ 4 ∧ xE (zyEl zymc B H) 35 4 = (v2 2) := xXf hF 0 rfl
                                                  have f1 : (v2 1) < (v2 2) := xXf hF 1 rfl
                                                  have f2 : (0 : Int) ≤ (v2 1) ∧ xE (zyEl zymc B H) 36 (v2 1) = (v2 3) := xXf hF 2 rfl
                                                  have f3 : 97 ≤ (v2 3) := xXf hF 3 rfl
                                                  have f4 : 122 < (v2 3) := xXf hF 4 rfl
                                                  have f5 : 48 ≤ (v2 3) := xXf hF 5 rfl
                                                  have f6 : 57 < (v2 3) := xXf hF 6 rfl
                                                  have f7 : ¬ (v2 3) = 45 := xXf hF 7 rfl
                                                  have f8 : ¬ (v2 3) = 59 := xXf hF 8 rfl
                                                  have f9 : (0 : Int) ≤ 7 ∧ xE (zyEl zymc B H) 35 7 = (v2 4) := xXf hF 9 rfl
                                                  have f10 : ¬ 1 = (v2 4) := xXf hF 10 rfl
                                                  have m0 : xE (zyEl zymc B H2) 35 6 = (v2 1) := xXm hM 0 rfl
                                                  have e35_4 : xE (zyEl zymc B H2) 35 4 = xE (zyEl zymc B H) 35 4 := xFr_E hfr rfl
                                                  have q35_4 : xE (zyEl zymc B H) 35 4 = xE (zyEl zymc B s.heap) 35 4 := xFr_E hFr0 rfl
                                                  have e35_5 : xE (zyEl zymc B H2) 35 5 = xE (zyEl zymc B H) 35 5 := xFr_E hfr rfl
                                                  have e35_7 : xE (zyEl zymc B H2) 35 7 = xE (zyEl zymc B H) 35 7 := xFr_E hfr rfl
                                                  have e35_8 : xE (zyEl zymc B H2) 35 8 = xE (zyEl zymc B H) 35 8 := xFr_E hfr rfl
                                                  have e36 : ∀ i, xE (zyEl zymc B H2) 36 i = xE (zyEl zymc B H) 36 i := fun i => xFr_E hfr rfl
                                                  have q36 : ∀ i, xE (zyEl zymc B H) 36 i = xE (zyEl zymc B s.heap) 36 i := fun i => xFr_E hFr0 rfl
                                                  have hI : xE (zyEl zymc B H) 35 5 = tFr (xE (zyEl zymc B s.heap) 36) (xE (zyEl zymc B s.heap) 35 4) (xE (zyEl zymc B s.heap) 35 6) ∧ xE (zyEl zymc B H) 35 5 < (xE (zyEl zymc B s.heap) 35 4) ∧ xE (zyEl zymc B H) 35 7 = tk ((xE (zyEl zymc B s.heap) 36) (xE (zyEl zymc B H) 35 5)) ∧ (xE (zyEl zymc B H) 35 7 = 2 ∨ xE (zyEl zymc B H) 35 7 = 3) ∧ (xE (zyEl zymc B H) 35 5 < xE (zyEl zymc B H) 35 6 ∧ xE (zyEl zymc B H) 35 6 ≤ (xE (zyEl zymc B s.heap) 35 4)) ∧ tRn (xE (zyEl zymc B s.heap) 36) (xE (zyEl zymc B s.heap) 35 4) (xE (zyEl zymc B H) 35 7) (xE (zyEl zymc B H) 35 6) = tRn (xE (zyEl zymc B s.heap) 36) (xE (zyEl zymc B s.heap) 35 4) (xE (zyEl zymc B H) 35 7) (xE (zyEl zymc B H) 35 5 + 1) := hInv
                                                  obtain ⟨i1, i2, i3, i4, i5, i6⟩ := hI
                                                  have t2 : xE (zyEl zymc B s.heap) 36 (xE (zyEl zymc B H) 35 6) = (v2 3) := by rw [← q36, show xE (zyEl zymc B H) 35 6 = (v2 1) by omega]; exact f2.2
                                                  have hk : tk (xE (zyEl zymc B s.heap) 36 (xE (zyEl zymc B H) 35 6)) = 1 := by rw [t2]; exact tk1 (by omega) (by omega) (by omega) (by omega)
                                                  have hx := tRn_e (T := xE (zyEl zymc B s.heap) 36) (n := xE (zyEl zymc B s.heap) 35 4) (k := xE (zyEl zymc B H) 35 7) (p := xE (zyEl zymc B H) 35 6) (by omega)
                                                  refine xGo hIH hAt hB hv hFr ⟨4, by decide⟩ [0] [0] rfl ⟨by decide +kernel, ⟨rfl, by decide +kernel⟩, (xcs_c rfl xcs_n), (xe_0 xe_n), xkq_n⟩ xst_n ?_ ?_
                                                  · show xE (zyEl zymc B H2) 35 5 = tFr (xE (zyEl zymc B s.heap) 36) (xE (zyEl zymc B s.heap) 35 4) (xE (zyEl zymc B s.heap) 35 6) ∧ xE (zyEl zymc B H2) 35 5 < (xE (zyEl zymc B s.heap) 35 4) ∧ xE (zyEl zymc B H2) 35 7 = tk ((xE (zyEl zymc B s.heap) 36) (xE (zyEl zymc B H2) 35 5)) ∧ (xE (zyEl zymc B H2) 35 7 = 2 ∨ xE (zyEl zymc B H2) 35 7 = 3) ∧ xE (zyEl zymc B H2) 35 6 = tNx (xE (zyEl zymc B s.heap) 36) (xE (zyEl zymc B s.heap) 35 4) (xE (zyEl zymc B s.heap) 35 6)
                                                    rw [show xE (zyEl zymc B H2) 35 5 = xE (zyEl zymc B H) 35 5 by omega, show xE (zyEl zymc B H2) 35 7 = xE (zyEl zymc B H) 35 7 by omega, show xE (zyEl zymc B H2) 35 6 = xE (zyEl zymc B H) 35 6 by omega]
                                                    refine ⟨i1, i2, i3, i4, ?_⟩
                                                    rw [tNx_k (by omega) (by rw [← i1, ← i3]; exact i4), ← i1, ← i3, ← i6]
                                                    exact hx.symm
                                                  · show 500 < 1000 + (1000 - xE (zyEl zymc B H) 35 6).toNat
                                                    omega
                                                · skip
                                                  rcases List.mem_cons.mp hx with ex | hx
                                                  · subst ex
                                                    obtain ⟨hF, hBd, hM⟩ := hXs
                                                    have g1 : v2 1 = v 1 := hag 1 (by decide)
                                                    have b0 : ((2147483648 : Nat) : Int) ≤ (v2 1) + 2147483648 ∧ (v2 1) + 2147483648 ≤ ((2147484547 : Nat) : Int) := xXb hBd 0 rfl
                                                    have b1 : ((2147483649 : Nat) : Int) ≤ (v2 2) + 2147483648 ∧ (v2 2) + 2147483648 ≤ ((2147484548 : Nat) : Int) := xXb hBd 1 rfl
                                                    have b2 : ((2147483771 : Nat) : Int) ≤ (v2 3) + 2147483648 ∧ (v2 3) + 2147483648 ≤ ((2147483775 : Nat) : Int) := xXb hBd 2 rfl
                                                    have b3 : ((2147483649 : Nat) : Int) ≤ (v2 4) + 2147483648 ∧ (v2 4) + 2147483648 ≤ ((2147483649 : Nat) : Int) := xXb hBd 3 rfl
                                                    have k0 : xE (zyEl zymc B H) 35 6 = v 1 := xKcf hKc 0 rfl rfl
                                                    have f0 : (0 : Int) ≤ 4 ∧ xE (zyEl zymc B H) 35 4 = (v2 2) := xXf hF 0 rfl
                                                    have f1 : (v2 1) < (v2 2) := xXf hF 1 rfl
                                                    have f2 : (0 : Int) ≤ (v2 1) ∧ xE (zyEl zymc B H) 36 (v2 1) = (v2 3) := xXf hF 2 rfl
                                                    have f3 : 97 ≤ (v2 3) := xXf hF 3 rfl
                                                    have f4 : 122 < (v2 3) := xXf hF 4 rfl
                                                    have f5 : 48 ≤ (v2 3) := xXf hF 5 rfl
                                                    have f6 : 57 < (v2 3) := xXf hF 6 rfl
                                                    have f7 : ¬ (v2 3) = 45 := xXf hF 7 rfl
                                                    have f8 : ¬ (v2 3) = 59 := xXf hF 8 rfl
                                                    have f9 : (0 : Int) ≤ 7 ∧ xE (zyEl zymc B H) 35 7 = (v2 4) := xXf hF 9 rfl
                                                    have f10 : 1 = (v2 4) := xXf hF 10 rfl
                                                    have m0 : xE (zyEl zymc B H2) 35 6 = (v2 1 + 1) := xXm hM 0 rfl
                                                    have e35_4 : xE (zyEl zymc B H2) 35 4 = xE (zyEl zymc B H) 35 4 := xFr_E hfr rfl
                                                    have q35_4 : xE (zyEl zymc B H) 35 4 = xE (zyEl zymc B s.heap) 35 4 := xFr_E hFr0 rfl
                                                    have e35_5 : xE (zyEl zymc B H2) 35 5 = xE (zyEl zymc B H) 35 5 := xFr_E hfr rfl
                                                    have e35_7 : xE (zyEl zymc B H2) 35 7 = xE (zyEl zymc B H) 35 7 := xFr_E hfr rfl
                                                    have e35_8 : xE (zyEl zymc B H2) 35 8 = xE (zyEl zymc B H) 35 8 := xFr_E hfr rfl
                                                    have e36 : ∀ i, xE (zyEl zymc B H2) 36 i = xE (zyEl zymc B H) 36 i := fun i => xFr_E hfr rfl
                                                    have q36 : ∀ i, xE (zyEl zymc B H) 36 i = xE (zyEl zymc B s.heap) 36 i := fun i => xFr_E hFr0 rfl
                                                    have hI : xE (zyEl zymc B H) 35 5 = tFr (xE (zyEl zymc B s.heap) 36) (xE (zyEl zymc B s.heap) 35 4) (xE (zyEl zymc B s.heap) 35 6) ∧ xE (zyEl zymc B H) 35 5 < (xE (zyEl zymc B s.heap) 35 4) ∧ xE (zyEl zymc B H) 35 7 = tk ((xE (zyEl zymc B s.heap) 36) (xE (zyEl zymc B H) 35 5)) ∧ (xE (zyEl zymc B H) 35 7 = 2 ∨ xE (zyEl zymc B H) 35 7 = 3) ∧ (xE (zyEl zymc B H) 35 5 < xE (zyEl zymc B H) 35 6 ∧ xE (zyEl zymc B H) 35 6 ≤ (xE (zyEl zymc B s.heap) 35 4)) ∧ tRn (xE (zyEl zymc B s.heap) 36) (xE (zyEl zymc B s.heap) 35 4) (xE (zyEl zymc B H) 35 7) (xE (zyEl zymc B H) 35 6) = tRn (xE (zyEl zymc B s.heap) 36) (xE (zyEl zymc B s.heap) 35 4) (xE (zyEl zymc B H) 35 7) (xE (zyEl zymc B H) 35 5 + 1) := hInv
                                                    obtain ⟨i1, i2, i3, i4, i5, i6⟩ := hI
                                                    have t2 : xE (zyEl zymc B s.heap) 36 (xE (zyEl zymc B H) 35 6) = (v2 3) := by rw [← q36, show xE (zyEl zymc B H) 35 6 = (v2 1) by omega]; exact f2.2
                                                    have hk : tk (xE (zyEl zymc B s.heap) 36 (xE (zyEl zymc B H) 35 6)) = xE (zyEl zymc B H) 35 7 := by rw [t2, show xE (zyEl zymc B H) 35 7 = 1 by omega]; exact tk1 (by omega) (by omega) (by omega) (by omega)
                                                    have z35_6 : ((2147483648 : Nat) : Int) ≤ xE (zyEl zymc B H2) 35 6 + 2147483648 ∧ xE (zyEl zymc B H2) 35 6 + 2147483648 ≤ ((2147484548 : Nat) : Int) := xTyF hT2 35 6 6 rfl rfl rfl rfl rfl rfl
                                                    refine xGo hIH hAt hB hv hFr ⟨3, by decide⟩ [0] [0, xE (zyEl zymc B H2) 35 6] rfl ⟨by decide +kernel, ⟨rfl, by decide +kernel⟩, (xcs_c rfl xcs_n), (xe_0 (xe_c (by omega) (by omega) rfl xe_n)), (xkq_c hT2 35 6 (q := 6) rfl rfl rfl rfl rfl rfl rfl rfl rfl rfl rfl xkq_n)⟩ xst_n ?_ ?_
                                                    · show xE (zyEl zymc B H2) 35 5 = tFr (xE (zyEl zymc B s.heap) 36) (xE (zyEl zymc B s.heap) 35 4) (xE (zyEl zymc B s.heap) 35 6) ∧ xE (zyEl zymc B H2) 35 5 < (xE (zyEl zymc B s.heap) 35 4) ∧ xE (zyEl zymc B H2) 35 7 = tk ((xE (zyEl zymc B s.heap) 36) (xE (zyEl zymc B H2) 35 5)) ∧ (xE (zyEl zymc B H2) 35 7 = 2 ∨ xE (zyEl zymc B H2) 35 7 = 3) ∧ (xE (zyEl zymc B H2) 35 5 < xE (zyEl zymc B H2) 35 6 ∧ xE (zyEl zymc B H2) 35 6 ≤ (xE (zyEl zymc B s.heap) 35 4)) ∧ tRn (xE (zyEl zymc B s.heap) 36) (xE (zyEl zymc B s.heap) 35 4) (xE (zyEl zymc B H2) 35 7) (xE (zyEl zymc B H2) 35 6) = tRn (xE (zyEl zymc B s.heap) 36) (xE (zyEl zymc B s.heap) 35 4) (xE (zyEl zymc B H2) 35 7) (xE (zyEl zymc B H2) 35 5 + 1)
                                                      rw [show xE (zyEl zymc B H2) 35 5 = xE (zyEl zymc B H) 35 5 by omega, show xE (zyEl zymc B H2) 35 7 = xE (zyEl zymc B H) 35 7 by omega, show xE (zyEl zymc B H2) 35 6 = xE (zyEl zymc B H) 35 6 + 1 by omega]
                                                      exact ⟨i1, i2, i3, i4, by omega, (tRn_s (by omega) hk).trans i6⟩
                                                    · show 1000 + (1000 - xE (zyEl zymc B H2) 35 6).toNat < 1000 + (1000 - xE (zyEl zymc B H) 35 6).toNat
                                                      omega
                                                  · skip
                                                    rcases List.mem_cons.mp hx with ex | hx
                                                    · subst ex
                                                      obtain ⟨hF, hBd, hM⟩ := hXs
                                                      have g1 : v2 1 = v 1 := hag 1 (by decide)
                                                      have b0 : ((2147483648 : Nat) : Int) ≤ (v2 1) + 2147483648 ∧ (v2 1) + 2147483648 ≤ ((2147484547 : Nat) : Int) := xXb hBd 0 rfl
                                                      have b1 : ((2147483649 : Nat) : Int) ≤ (v2 2) + 2147483648 ∧ (v2 2) + 2147483648 ≤ ((2147484548 : Nat) : Int) := xXb hBd 1 rfl
                                                      have b2 : ((2147483745 : Nat) : Int) ≤ (v2 3) + 2147483648 ∧ (v2 3) + 2147483648 ≤ ((2147483770 : Nat) : Int) := xXb hBd 2 rfl
                                                      have b3 : ((2147483651 : Nat) : Int) ≤ (v2 4) + 2147483648 ∧ (v2 4) + 2147483648 ≤ ((2147483653 : Nat) : Int) := xXb hBd 3 rfl
                                                      have k0 : xE (zyEl zymc B H) 35 6 = v 1 := xKcf hKc 0 rfl rfl
                                                      have f0 : (0 : Int) ≤ 4 ∧ xE (zyEl zymc B H) 35 4 = (v2 2) := xXf hF 0 rfl
                                                      have f1 : (v2 1) < (v2 2) := xXf hF 1 rfl
                                                      have f2 : (0 : Int) ≤ (v2 1) ∧ xE (zyEl zymc B H) 36 (v2 1) = (v2 3) := xXf hF 2 rfl
                                                      have f3 : 97 ≤ (v2 3) := xXf hF 3 rfl
                                                      have f4 : (v2 3) ≤ 122 := xXf hF 4 rfl
                                                      have f5 : (0 : Int) ≤ 7 ∧ xE (zyEl zymc B H) 35 7 = (v2 4) := xXf hF 5 rfl
                                                      have f6 : ¬ 2 = (v2 4) := xXf hF 6 rfl
                                                      have m0 : xE (zyEl zymc B H2) 35 6 = (v2 1) := xXm hM 0 rfl
                                                      have e35_4 : xE (zyEl zymc B H2) 35 4 = xE (zyEl zymc B H) 35 4 := xFr_E hfr rfl
                                                      have q35_4 : xE (zyEl zymc B H) 35 4 = xE (zyEl zymc B s.heap) 35 4 := xFr_E hFr0 rfl
                                                      have e35_5 : xE (zyEl zymc B H2) 35 5 = xE (zyEl zymc B H) 35 5 := xFr_E hfr rfl
                                                      have e35_7 : xE (zyEl zymc B H2) 35 7 = xE (zyEl zymc B H) 35 7 := xFr_E hfr rfl
                                                      have e35_8 : xE (zyEl zymc B H2) 35 8 = xE (zyEl zymc B H) 35 8 := xFr_E hfr rfl
                                                      have e36 : ∀ i, xE (zyEl zymc B H2) 36 i = xE (zyEl zymc B H) 36 i := fun i => xFr_E hfr rfl
                                                      have q36 : ∀ i, xE (zyEl zymc B H) 36 i = xE (zyEl zymc B s.heap) 36 i := fun i => xFr_E hFr0 rfl
                                                      have hI : xE (zyEl zymc B H) 35 5 = tFr (xE (zyEl zymc B s.heap) 36) (xE (zyEl zymc B s.heap) 35 4) (xE (zyEl zymc B s.heap) 35 6) ∧ xE (zyEl zymc B H) 35 5 < (xE (zyEl zymc B s.heap) 35 4) ∧ xE (zyEl zymc B H) 35 7 = tk ((xE (zyEl zymc B s.heap) 36) (xE (zyEl zymc B H) 35 5)) ∧ (xE (zyEl zymc B H) 35 7 = 2 ∨ xE (zyEl zymc B H) 35 7 = 3) ∧ (xE (zyEl zymc B H) 35 5 < xE (zyEl zymc B H) 35 6 ∧ xE (zyEl zymc B H) 35 6 ≤ (xE (zyEl zymc B s.heap) 35 4)) ∧ tRn (xE (zyEl zymc B s.heap) 36) (xE (zyEl zymc B s.heap) 35 4) (xE (zyEl zymc B H) 35 7) (xE (zyEl zymc B H) 35 6) = tRn (xE (zyEl zymc B s.heap) 36) (xE (zyEl zymc B s.heap) 35 4) (xE (zyEl zymc B H) 35 7) (xE (zyEl zymc B H) 35 5 + 1) := hInv
                                                      obtain ⟨i1, i2, i3, i4, i5, i6⟩ := hI
                                                      have t2 : xE (zyEl zymc B s.heap) 36 (xE (zyEl zymc B H) 35 6) = (v2 3) := by rw [← q36, show xE (zyEl zymc B H) 35 6 = (v2 1) by omega]; exact f2.2
                                                      have hk : tk (xE (zyEl zymc B s.heap) 36 (xE (zyEl zymc B H) 35 6)) = 2 := by rw [t2]; exact tk2 (by omega) (by omega)
                                                      have hx := tRn_e (T := xE (zyEl zymc B s.heap) 36) (n := xE (zyEl zymc B s.heap) 35 4) (k := xE (zyEl zymc B H) 35 7) (p := xE (zyEl zymc B H) 35 6) (by omega)
                                                      refine xGo hIH hAt hB hv hFr ⟨4, by decide⟩ [0] [0] rfl ⟨by decide +kernel, ⟨rfl, by decide +kernel⟩, (xcs_c rfl xcs_n), (xe_0 xe_n), xkq_n⟩ xst_n ?_ ?_
                                                      · show xE (zyEl zymc B H2) 35 5 = tFr (xE (zyEl zymc B s.heap) 36) (xE (zyEl zymc B s.heap) 35 4) (xE (zyEl zymc B s.heap) 35 6) ∧ xE (zyEl zymc B H2) 35 5 < (xE (zyEl zymc B s.heap) 35 4) ∧ xE (zyEl zymc B H2) 35 7 = tk ((xE (zyEl zymc B s.heap) 36) (xE (zyEl zymc B H2) 35 5)) ∧ (xE (zyEl zymc B H2) 35 7 = 2 ∨ xE (zyEl zymc B H2) 35 7 = 3) ∧ xE (zyEl zymc B H2) 35 6 = tNx (xE (zyEl zymc B s.heap) 36) (xE (zyEl zymc B s.heap) 35 4) (xE (zyEl zymc B s.heap) 35 6)
                                                        rw [show xE (zyEl zymc B H2) 35 5 = xE (zyEl zymc B H) 35 5 by omega, show xE (zyEl zymc B H2) 35 7 = xE (zyEl zymc B H) 35 7 by omega, show xE (zyEl zymc B H2) 35 6 = xE (zyEl zymc B H) 35 6 by omega]
                                                        refine ⟨i1, i2, i3, i4, ?_⟩
                                                        rw [tNx_k (by omega) (by rw [← i1, ← i3]; exact i4), ← i1, ← i3, ← i6]
                                                        exact hx.symm
                                                      · show 500 < 1000 + (1000 - xE (zyEl zymc B H) 35 6).toNat
                                                        omega
                                                    · skip
                                                      rcases List.mem_cons.mp hx with ex | hx
                                                      · subst ex
                                                        obtain ⟨hF, hBd, hM⟩ := hXs
                                                        have g1 : v2 1 = v 1 := hag 1 (by decide)
                                                        have b0 : ((2147483648 : Nat) : Int) ≤ (v2 1) + 2147483648 ∧ (v2 1) + 2147483648 ≤ ((2147484547 : Nat) : Int) := xXb hBd 0 rfl
                                                        have b1 : ((2147483649 : Nat) : Int) ≤ (v2 2) + 2147483648 ∧ (v2 2) + 2147483648 ≤ ((2147484548 : Nat) : Int) := xXb hBd 1 rfl
                                                        have b2 : ((2147483745 : Nat) : Int) ≤ (v2 3) + 2147483648 ∧ (v2 3) + 2147483648 ≤ ((2147483770 : Nat) : Int) := xXb hBd 2 rfl
                                                        have b3 : ((2147483648 : Nat) : Int) ≤ (v2 4) + 2147483648 ∧ (v2 4) + 2147483648 ≤ ((2147483649 : Nat) : Int) := xXb hBd 3 rfl
                                                        have k0 : xE (zyEl zymc B H) 35 6 = v 1 := xKcf hKc 0 rfl rfl
                                                        have f0 : (0 : Int) ≤ 4 ∧ xE (zyEl zymc B H) 35 4 = (v2 2) := xXf hF 0 rfl
                                                        have f1 : (v2 1) < (v2 2) := xXf hF 1 rfl
                                                        have f2 : (0 : Int) ≤ (v2 1) ∧ xE (zyEl zymc B H) 36 (v2 1) = (v2 3) := xXf hF 2 rfl
                                                        have f3 : 97 ≤ (v2 3) := xXf hF 3 rfl
                                                        have f4 : (v2 3) ≤ 122 := xXf hF 4 rfl
                                                        have f5 : (0 : Int) ≤ 7 ∧ xE (zyEl zymc B H) 35 7 = (v2 4) := xXf hF 5 rfl
                                                        have f6 : ¬ 2 = (v2 4) := xXf hF 6 rfl
                                                        have m0 : xE (zyEl zymc B H2) 35 6 = (v2 1) := xXm hM 0 rfl
                                                        have e35_4 : xE (zyEl zymc B H2) 35 4 = xE (zyEl zymc B H) 35 4 := xFr_E hfr rfl
                                                        have q35_4 : xE (zyEl zymc B H) 35 4 = xE (zyEl zymc B s.heap) 35 4 := xFr_E hFr0 rfl
                                                        have e35_5 : xE (zyEl zymc B H2) 35 5 = xE (zyEl zymc B H) 35 5 := xFr_E hfr rfl
                                                        have e35_7 : xE (zyEl zymc B H2) 35 7 = xE (zyEl zymc B H) 35 7 := xFr_E hfr rfl
                                                        have e35_8 : xE (zyEl zymc B H2) 35 8 = xE (zyEl zymc B H) 35 8 := xFr_E hfr rfl
                                                        have e36 : ∀ i, xE (zyEl zymc B H2) 36 i = xE (zyEl zymc B H) 36 i := fun i => xFr_E hfr rfl
                                                        have q36 : ∀ i, xE (zyEl zymc B H) 36 i = xE (zyEl zymc B s.heap) 36 i := fun i => xFr_E hFr0 rfl
                                                        have hI : xE (zyEl zymc B H) 35 5 = tFr (xE (zyEl zymc B s.heap) 36) (xE (zyEl zymc B s.heap) 35 4) (xE (zyEl zymc B s.heap) 35 6) ∧ xE (zyEl zymc B H) 35 5 < (xE (zyEl zymc B s.heap) 35 4) ∧ xE (zyEl zymc B H) 35 7 = tk ((xE (zyEl zymc B s.heap) 36) (xE (zyEl zymc B H) 35 5)) ∧ (xE (zyEl zymc B H) 35 7 = 2 ∨ xE (zyEl zymc B H) 35 7 = 3) ∧ (xE (zyEl zymc B H) 35 5 < xE (zyEl zymc B H) 35 6 ∧ xE (zyEl zymc B H) 35 6 ≤ (xE (zyEl zymc B s.heap) 35 4)) ∧ tRn (xE (zyEl zymc B s.heap) 36) (xE (zyEl zymc B s.heap) 35 4) (xE (zyEl zymc B H) 35 7) (xE (zyEl zymc B H) 35 6) = tRn (xE (zyEl zymc B s.heap) 36) (xE (zyEl zymc B s.heap) 35 4) (xE (zyEl zymc B H) 35 7) (xE (zyEl zymc B H) 35 5 + 1) := hInv
                                                        obtain ⟨i1, i2, i3, i4, i5, i6⟩ := hI
                                                        have t2 : xE (zyEl zymc B s.heap) 36 (xE (zyEl zymc B H) 35 6) = (v2 3) := by rw [← q36, show xE (zyEl zymc B H) 35 6 = (v2 1) by omega]; exact f2.2
                                                        have hk : tk (xE (zyEl zymc B s.heap) 36 (xE (zyEl zymc B H) 35 6)) = 2 := by rw [t2]; exact tk2 (by omega) (by omega)
                                                        have hx := tRn_e (T := xE (zyEl zymc B s.heap) 36) (n := xE (zyEl zymc B s.heap) 35 4) (k := xE (zyEl zymc B H) 35 7) (p := xE (zyEl zymc B H) 35 6) (by omega)
                                                        refine xGo hIH hAt hB hv hFr ⟨4, by decide⟩ [0] [0] rfl ⟨by decide +kernel, ⟨rfl, by decide +kernel⟩, (xcs_c rfl xcs_n), (xe_0 xe_n), xkq_n⟩ xst_n ?_ ?_
                                                        · show xE (zyEl zymc B H2) 35 5 = tFr (xE (zyEl zymc B s.heap) 36) (xE (zyEl zymc B s.heap) 35 4) (xE (zyEl zymc B s.heap) 35 6) ∧ xE (zyEl zymc B H2) 35 5 < (xE (zyEl zymc B s.heap) 35 4) ∧ xE (zyEl zymc B H2) 35 7 = tk ((xE (zyEl zymc B s.heap) 36) (xE (zyEl zymc B H2) 35 5)) ∧ (xE (zyEl zymc B H2) 35 7 = 2 ∨ xE (zyEl zymc B H2) 35 7 = 3) ∧ xE (zyEl zymc B H2) 35 6 = tNx (xE (zyEl zymc B s.heap) 36) (xE (zyEl zymc B s.heap) 35 4) (xE (zyEl zymc B s.heap) 35 6)
                                                          rw [show xE (zyEl zymc B H2) 35 5 = xE (zyEl zymc B H) 35 5 by omega, show xE (zyEl zymc B H2) 35 7 = xE (zyEl zymc B H) 35 7 by omega, show xE (zyEl zymc B H2) 35 6 = xE (zyEl zymc B H) 35 6 by omega]
                                                          refine ⟨i1, i2, i3, i4, ?_⟩
                                                          rw [tNx_k (by omega) (by rw [← i1, ← i3]; exact i4), ← i1, ← i3, ← i6]
                                                          exact hx.symm
                                                        · show 500 < 1000 + (1000 - xE (zyEl zymc B H) 35 6).toNat
                                                          omega
                                                      · skip
                                                        rcases List.mem_cons.mp hx with ex | hx
                                                        · subst ex
                                                          obtain ⟨hF, hBd, hM⟩ := hXs
                                                          have g1 : v2 1 = v 1 := hag 1 (by decide)
                                                          have b0 : ((2147483648 : Nat) : Int) ≤ (v2 1) + 2147483648 ∧ (v2 1) + 2147483648 ≤ ((2147484547 : Nat) : Int) := xXb hBd 0 rfl
                                                          have b1 : ((2147483649 : Nat) : Int) ≤ (v2 2) + 2147483648 ∧ (v2 2) + 2147483648 ≤ ((2147484548 : Nat) : Int) := xXb hBd 1 rfl
                                                          have b2 : ((2147483745 : Nat) : Int) ≤ (v2 3) + 2147483648 ∧ (v2 3) + 2147483648 ≤ ((2147483770 : Nat) : Int) := xXb hBd 2 rfl
                                                          have b3 : ((2147483650 : Nat) : Int) ≤ (v2 4) + 2147483648 ∧ (v2 4) + 2147483648 ≤ ((2147483650 : Nat) : Int) := xXb hBd 3 rfl
                                                          have k0 : xE (zyEl zymc B H) 35 6 = v 1 := xKcf hKc 0 rfl rfl
                                                          have f0 : (0 : Int) ≤ 4 ∧ xE (zyEl zymc B H) 35 4 = (v2 2) := xXf hF 0 rfl
                                                          have f1 : (v2 1) < (v2 2) := xXf hF 1 rfl
                                                          have f2 : (0 : Int) ≤ (v2 1) ∧ xE (zyEl zymc B H) 36 (v2 1) = (v2 3) := xXf hF 2 rfl
                                                          have f3 : 97 ≤ (v2 3) := xXf hF 3 rfl
                                                          have f4 : (v2 3) ≤ 122 := xXf hF 4 rfl
                                                          have f5 : (0 : Int) ≤ 7 ∧ xE (zyEl zymc B H) 35 7 = (v2 4) := xXf hF 5 rfl
                                                          have f6 : 2 = (v2 4) := xXf hF 6 rfl
                                                          have m0 : xE (zyEl zymc B H2) 35 6 = (v2 1 + 1) := xXm hM 0 rfl
                                                          have e35_4 : xE (zyEl zymc B H2) 35 4 = xE (zyEl zymc B H) 35 4 := xFr_E hfr rfl
                                                          have q35_4 : xE (zyEl zymc B H) 35 4 = xE (zyEl zymc B s.heap) 35 4 := xFr_E hFr0 rfl
                                                          have e35_5 : xE (zyEl zymc B H2) 35 5 = xE (zyEl zymc B H) 35 5 := xFr_E hfr rfl
                                                          have e35_7 : xE (zyEl zymc B H2) 35 7 = xE (zyEl zymc B H) 35 7 := xFr_E hfr rfl
                                                          have e35_8 : xE (zyEl zymc B H2) 35 8 = xE (zyEl zymc B H) 35 8 := xFr_E hfr rfl
                                                          have e36 : ∀ i, xE (zyEl zymc B H2) 36 i = xE (zyEl zymc B H) 36 i := fun i => xFr_E hfr rfl
                                                          have q36 : ∀ i, xE (zyEl zymc B H) 36 i = xE (zyEl zymc B s.heap) 36 i := fun i => xFr_E hFr0 rfl
                                                          have hI : xE (zyEl zymc B H) 35 5 = tFr (xE (zyEl zymc B s.heap) 36) (xE (zyEl zymc B s.heap) 35 4) (xE (zyEl zymc B s.heap) 35 6) ∧ xE (zyEl zymc B H) 35 5 < (xE (zyEl zymc B s.heap) 35 4) ∧ xE (zyEl zymc B H) 35 7 = tk ((xE (zyEl zymc B s.heap) 36) (xE (zyEl zymc B H) 35 5)) ∧ (xE (zyEl zymc B H) 35 7 = 2 ∨ xE (zyEl zymc B H) 35 7 = 3) ∧ (xE (zyEl zymc B H) 35 5 < xE (zyEl zymc B H) 35 6 ∧ xE (zyEl zymc B H) 35 6 ≤ (xE (zyEl zymc B s.heap) 35 4)) ∧ tRn (xE (zyEl zymc B s.heap) 36) (xE (zyEl zymc B s.heap) 35 4) (xE (zyEl zymc B H) 35 7) (xE (zyEl zymc B H) 35 6) = tRn (xE (zyEl zymc B s.heap) 36) (xE (zyEl zymc B s.heap) 35 4) (xE (zyEl zymc B H) 35 7) (xE (zyEl zymc B H) 35 5 + 1) := hInv
                                                          obtain ⟨i1, i2, i3, i4, i5, i6⟩ := hI
                                                          have t2 : xE (zyEl zymc B s.heap) 36 (xE (zyEl zymc B H) 35 6) = (v2 3) := by rw [← q36, show xE (zyEl zymc B H) 35 6 = (v2 1) by omega]; exact f2.2
                                                          have hk : tk (xE (zyEl zymc B s.heap) 36 (xE (zyEl zymc B H) 35 6)) = xE (zyEl zymc B H) 35 7 := by rw [t2, show xE (zyEl zymc B H) 35 7 = 2 by omega]; exact tk2 (by omega) (by omega)
                                                          have z35_6 : ((2147483648 : Nat) : Int) ≤ xE (zyEl zymc B H2) 35 6 + 2147483648 ∧ xE (zyEl zymc B H2) 35 6 + 2147483648 ≤ ((2147484548 : Nat) : Int) := xTyF hT2 35 6 6 rfl rfl rfl rfl rfl rfl
                                                          refine xGo hIH hAt hB hv hFr ⟨3, by decide⟩ [0] [0, xE (zyEl zymc B H2) 35 6] rfl ⟨by decide +kernel, ⟨rfl, by decide +kernel⟩, (xcs_c rfl xcs_n), (xe_0 (xe_c (by omega) (by omega) rfl xe_n)), (xkq_c hT2 35 6 (q := 6) rfl rfl rfl rfl rfl rfl rfl rfl rfl rfl rfl xkq_n)⟩ xst_n ?_ ?_
                                                          · show xE (zyEl zymc B H2) 35 5 = tFr (xE (zyEl zymc B s.heap) 36) (xE (zyEl zymc B s.heap) 35 4) (xE (zyEl zymc B s.heap) 35 6) ∧ xE (zyEl zymc B H2) 35 5 < (xE (zyEl zymc B s.heap) 35 4) ∧ xE (zyEl zymc B H2) 35 7 = tk ((xE (zyEl zymc B s.heap) 36) (xE (zyEl zymc B H2) 35 5)) ∧ (xE (zyEl zymc B H2) 35 7 = 2 ∨ xE (zyEl zymc B H2) 35 7 = 3) ∧ (xE (zyEl zymc B H2) 35 5 < xE (zyEl zymc B H2) 35 6 ∧ xE (zyEl zymc B H2) 35 6 ≤ (xE (zyEl zymc B s.heap) 35 4)) ∧ tRn (xE (zyEl zymc B s.heap) 36) (xE (zyEl zymc B s.heap) 35 4) (xE (zyEl zymc B H2) 35 7) (xE (zyEl zymc B H2) 35 6) = tRn (xE (zyEl zymc B s.heap) 36) (xE (zyEl zymc B s.heap) 35 4) (xE (zyEl zymc B H2) 35 7) (xE (zyEl zymc B H2) 35 5 + 1)
                                                            rw [show xE (zyEl zymc B H2) 35 5 = xE (zyEl zymc B H) 35 5 by omega, show xE (zyEl zymc B H2) 35 7 = xE (zyEl zymc B H) 35 7 by omega, show xE (zyEl zymc B H2) 35 6 = xE (zyEl zymc B H) 35 6 + 1 by omega]
                                                            exact ⟨i1, i2, i3, i4, by omega, (tRn_s (by omega) hk).trans i6⟩
                                                          · show 1000 + (1000 - xE (zyEl zymc B H2) 35 6).toNat < 1000 + (1000 - xE (zyEl zymc B H) 35 6).toNat
                                                            omega
                                                        · skip
                                                          have ex := List.mem_singleton.mp hx
                                                          subst ex
                                                          obtain ⟨hF, hBd, hM⟩ := hXs
                                                          have g1 : v2 1 = v 1 := hag 1 (by decide)
                                                          have b0 : ((2147483648 : Nat) : Int) ≤ (v2 1) + 2147483648 ∧ (v2 1) + 2147483648 ≤ ((2147484548 : Nat) : Int) := xXb hBd 0 rfl
                                                          have b1 : ((2147483648 : Nat) : Int) ≤ (v2 2) + 2147483648 ∧ (v2 2) + 2147483648 ≤ ((2147484548 : Nat) : Int) := xXb hBd 1 rfl
                                                          have k0 : xE (zyEl zymc B H) 35 6 = v 1 := xKcf hKc 0 rfl rfl
                                                          have f0 : (0 : Int) ≤ 4 ∧ xE (zyEl zymc B H) 35 4 = (v2 2) := xXf hF 0 rfl
                                                          have f1 : (v2 2) ≤ (v2 1) := xXf hF 1 rfl
                                                          have m0 : xE (zyEl zymc B H2) 35 6 = (v2 1) := xXm hM 0 rfl
                                                          have e35_4 : xE (zyEl zymc B H2) 35 4 = xE (zyEl zymc B H) 35 4 := xFr_E hfr rfl
                                                          have q35_4 : xE (zyEl zymc B H) 35 4 = xE (zyEl zymc B s.heap) 35 4 := xFr_E hFr0 rfl
                                                          have e35_5 : xE (zyEl zymc B H2) 35 5 = xE (zyEl zymc B H) 35 5 := xFr_E hfr rfl
                                                          have e35_7 : xE (zyEl zymc B H2) 35 7 = xE (zyEl zymc B H) 35 7 := xFr_E hfr rfl
                                                          have e35_8 : xE (zyEl zymc B H2) 35 8 = xE (zyEl zymc B H) 35 8 := xFr_E hfr rfl
                                                          have e36 : ∀ i, xE (zyEl zymc B H2) 36 i = xE (zyEl zymc B H) 36 i := fun i => xFr_E hfr rfl
                                                          have q36 : ∀ i, xE (zyEl zymc B H) 36 i = xE (zyEl zymc B s.heap) 36 i := fun i => xFr_E hFr0 rfl
                                                          have hI : xE (zyEl zymc B H) 35 5 = tFr (xE (zyEl zymc B s.heap) 36) (xE (zyEl zymc B s.heap) 35 4) (xE (zyEl zymc B s.heap) 35 6) ∧ xE (zyEl zymc B H) 35 5 < (xE (zyEl zymc B s.heap) 35 4) ∧ xE (zyEl zymc B H) 35 7 = tk ((xE (zyEl zymc B s.heap) 36) (xE (zyEl zymc B H) 35 5)) ∧ (xE (zyEl zymc B H) 35 7 = 2 ∨ xE (zyEl zymc B H) 35 7 = 3) ∧ (xE (zyEl zymc B H) 35 5 < xE (zyEl zymc B H) 35 6 ∧ xE (zyEl zymc B H) 35 6 ≤ (xE (zyEl zymc B s.heap) 35 4)) ∧ tRn (xE (zyEl zymc B s.heap) 36) (xE (zyEl zymc B s.heap) 35 4) (xE (zyEl zymc B H) 35 7) (xE (zyEl zymc B H) 35 6) = tRn (xE (zyEl zymc B s.heap) 36) (xE (zyEl zymc B s.heap) 35 4) (xE (zyEl zymc B H) 35 7) (xE (zyEl zymc B H) 35 5 + 1) := hInv
                                                          obtain ⟨i1, i2, i3, i4, i5, i6⟩ := hI
                                                          have hx := tRn_e (T := xE (zyEl zymc B s.heap) 36) (n := xE (zyEl zymc B s.heap) 35 4) (k := xE (zyEl zymc B H) 35 7) (p := xE (zyEl zymc B H) 35 6) (by omega)
                                                          refine xGo hIH hAt hB hv hFr ⟨4, by decide⟩ [0] [0] rfl ⟨by decide +kernel, ⟨rfl, by decide +kernel⟩, (xcs_c rfl xcs_n), (xe_0 xe_n), xkq_n⟩ xst_n ?_ ?_
                                                          · show xE (zyEl zymc B H2) 35 5 = tFr (xE (zyEl zymc B s.heap) 36) (xE (zyEl zymc B s.heap) 35 4) (xE (zyEl zymc B s.heap) 35 6) ∧ xE (zyEl zymc B H2) 35 5 < (xE (zyEl zymc B s.heap) 35 4) ∧ xE (zyEl zymc B H2) 35 7 = tk ((xE (zyEl zymc B s.heap) 36) (xE (zyEl zymc B H2) 35 5)) ∧ (xE (zyEl zymc B H2) 35 7 = 2 ∨ xE (zyEl zymc B H2) 35 7 = 3) ∧ xE (zyEl zymc B H2) 35 6 = tNx (xE (zyEl zymc B s.heap) 36) (xE (zyEl zymc B s.heap) 35 4) (xE (zyEl zymc B s.heap) 35 6)
                                                            rw [show xE (zyEl zymc B H2) 35 5 = xE (zyEl zymc B H) 35 5 by omega, show xE (zyEl zymc B H2) 35 7 = xE (zyEl zymc B H) 35 7 by omega, show xE (zyEl zymc B H2) 35 6 = xE (zyEl zymc B H) 35 6 by omega]
                                                            refine ⟨i1, i2, i3, i4, ?_⟩
                                                            rw [tNx_k (by omega) (by rw [← i1, ← i3]; exact i4), ← i1, ← i3, ← i6]
                                                            exact hx.symm
                                                          · show 500 < 1000 + (1000 - xE (zyEl zymc B H) 35 6).toNat
                                                            omega
    · have hx : x ∈ [zxfad_dx0] := hx
      have hag : ∀ k, k < 1 → v2 k = v k := hag
      have hfr : xFr [] _ _ := hfr
      have ex := List.mem_singleton.mp hx
      subst ex
      obtain ⟨hF, hBd, hM⟩ := hXs
      have b0 : ((2147483651 : Nat) : Int) ≤ (v2 1) + 2147483648 ∧ (v2 1) + 2147483648 ≤ ((2147483651 : Nat) : Int) := xXb hBd 0 rfl
      have f0 : (0 : Int) ≤ 7 ∧ xE (zyEl zymc B H) 35 7 = (v2 1) := xXf hF 0 rfl
      have f1 : (v2 1) = 3 := xXf hF 1 rfl
      have e35_4 : xE (zyEl zymc B H2) 35 4 = xE (zyEl zymc B H) 35 4 := xFr_E hfr rfl
      have q35_4 : xE (zyEl zymc B H) 35 4 = xE (zyEl zymc B s.heap) 35 4 := xFr_E hFr0 rfl
      have e35_5 : xE (zyEl zymc B H2) 35 5 = xE (zyEl zymc B H) 35 5 := xFr_E hfr rfl
      have e35_6 : xE (zyEl zymc B H2) 35 6 = xE (zyEl zymc B H) 35 6 := xFr_E hfr rfl
      have e35_7 : xE (zyEl zymc B H2) 35 7 = xE (zyEl zymc B H) 35 7 := xFr_E hfr rfl
      have e35_8 : xE (zyEl zymc B H2) 35 8 = xE (zyEl zymc B H) 35 8 := xFr_E hfr rfl
      have e36 : ∀ i, xE (zyEl zymc B H2) 36 i = xE (zyEl zymc B H) 36 i := fun i => xFr_E hfr rfl
      have q36 : ∀ i, xE (zyEl zymc B H) 36 i = xE (zyEl zymc B s.heap) 36 i := fun i => xFr_E hFr0 rfl
      have hI : xE (zyEl zymc B H) 35 5 = tFr (xE (zyEl zymc B s.heap) 36) (xE (zyEl zymc B s.heap) 35 4) (xE (zyEl zymc B s.heap) 35 6) ∧ xE (zyEl zymc B H) 35 5 < (xE (zyEl zymc B s.heap) 35 4) ∧ xE (zyEl zymc B H) 35 7 = tk ((xE (zyEl zymc B s.heap) 36) (xE (zyEl zymc B H) 35 5)) ∧ (xE (zyEl zymc B H) 35 7 = 2 ∨ xE (zyEl zymc B H) 35 7 = 3) ∧ xE (zyEl zymc B H) 35 6 = tNx (xE (zyEl zymc B s.heap) 36) (xE (zyEl zymc B s.heap) 35 4) (xE (zyEl zymc B s.heap) 35 6) := hInv
      obtain ⟨i1, i2, i3, i4, i5⟩ := hI
      refine xCa hRu hIH hAt hB hv hFr (hfwn B) (ix := 181) (ax := 1184) rfl rfl rfl hmefwn ⟨_, rfl, rfl, by decide⟩ ⟨rfl, rfl, rfl⟩ (by decide) [] [] [] rfl ⟨rfl, rfl⟩ (by decide +kernel) xcs_n (by decide +kernel) ?_ (fun H3 r hT3 hf3 hFr3 hr3 hΨ3 => ?_)
      · show xΦwn (xfv []) (zyEl zymc B H2)
        unfold xΦwn
        have hb := tNx_b (T := xE (zyEl zymc B s.heap) 36) (n := xE (zyEl zymc B s.heap) 35 4) (p := xE (zyEl zymc B s.heap) 35 6) hΦ
        omega
      · have hΨ3 : xΨwn (xfv []) (zyEl zymc B H2) (zyEl zymc B H3) r := hΨ3
        have d35_4 : xE (zyEl zymc B H3) 35 4 = xE (zyEl zymc B H2) 35 4 := xFr_E hf3 rfl
        have d35_5 : xE (zyEl zymc B H3) 35 5 = xE (zyEl zymc B H2) 35 5 := xFr_E hf3 rfl
        have d35_6 : xE (zyEl zymc B H3) 35 6 = xE (zyEl zymc B H2) 35 6 := xFr_E hf3 rfl
        have d36 : ∀ i, xE (zyEl zymc B H3) 36 i = xE (zyEl zymc B H2) 36 i := fun i => xFr_E hf3 rfl
        unfold xΨwn at hΨ3
        refine ⟨⟨5, by decide⟩, [0], [0], rfl, ⟨by decide +kernel, ⟨rfl, by decide +kernel⟩, (xcs_c rfl xcs_n), (xe_0 xe_n), xkq_n⟩, (by rw [if_neg (by decide)]; exact xst_n), ?_, ?_⟩
        · show xE (zyEl zymc B H3) 35 6 = tNx (xE (zyEl zymc B s.heap) 36) (xE (zyEl zymc B s.heap) 35 4) (xE (zyEl zymc B s.heap) 35 6) ∧ xE (zyEl zymc B H3) 35 5 = tFr (xE (zyEl zymc B s.heap) 36) (xE (zyEl zymc B s.heap) 35 4) (xE (zyEl zymc B s.heap) 35 6) ∧ xE (zyEl zymc B H3) 35 7 = tKd (xE (zyEl zymc B s.heap) 36) (xE (zyEl zymc B s.heap) 35 4) (xE (zyEl zymc B s.heap) 35 6) ∧ (tKd (xE (zyEl zymc B s.heap) 36) (xE (zyEl zymc B s.heap) 35 4) (xE (zyEl zymc B s.heap) 35 6) = 3 → xE (zyEl zymc B H3) 35 8 = tNm (xE (zyEl zymc B s.heap) 36) (xE (zyEl zymc B s.heap) 35 4) (xE (zyEl zymc B s.heap) 35 6))
          rw [show xE (zyEl zymc B H2) 35 5 = xE (zyEl zymc B H) 35 5 by omega, show xE (zyEl zymc B H2) 35 6 = xE (zyEl zymc B H) 35 6 by omega] at hΨ3
          rw [i1] at i2 i3
          have hk3 : xE (zyEl zymc B H) 35 7 = 3 := by omega
          rw [i1, i5] at hΨ3
          by_cases hc : 3 < tNx (xE (zyEl zymc B s.heap) 36) (xE (zyEl zymc B s.heap) 35 4) (xE (zyEl zymc B s.heap) 35 6) - tFr (xE (zyEl zymc B s.heap) 36) (xE (zyEl zymc B s.heap) 35 4) (xE (zyEl zymc B s.heap) 35 6)
          · rw [if_pos hc] at hΨ3
            have hk := tKd_b (T := xE (zyEl zymc B s.heap) 36) (n := xE (zyEl zymc B s.heap) 35 4) (p := xE (zyEl zymc B s.heap) 35 6) (by omega) (by omega) hc
            exact ⟨by omega, by omega, by omega, fun h => by omega⟩
          · rw [if_neg hc] at hΨ3
            have hk := tKd_k (T := xE (zyEl zymc B s.heap) 36) (n := xE (zyEl zymc B s.heap) 35 4) (p := xE (zyEl zymc B s.heap) 35 6) (by omega) (by omega)
            refine ⟨by omega, by omega, by omega, fun h => ?_⟩
            rw [hΨ3.2]
            unfold tNm
            rw [show xE (zyEl zymc B H2) 36 = xE (zyEl zymc B s.heap) 36 from funext fun i => (e36 i).trans (q36 i)]
        · show 1 < 500
          omega
    · cases hx
  · intro x0 E0 E E2 hrx hT0 hΦ i v hT hrv hInv hKc hFr0 x hx v2 hr2 hXs hag hfr hFr hT2
    rcases i with ⟨i, hi⟩
    have hi2 : i = 0 ∨ i = 1 ∨ i = 2 ∨ i = 3 ∨ i = 4 ∨ i = 5 := by omega
    rcases hi2 with rfl | rfl | rfl | rfl | rfl | rfl
    · cases hx
    · cases hx
    · have hx : x ∈ [zxfad_br0, zxfad_br1, zxfad_br2, zxfad_br3, zxfad_br4, zxfad_br5, zxfad_br6, zxfad_br7] := hx
      have hag : ∀ k, k < 2 → v2 k = v k := hag
      have hfr : xFr [(35, 5, 7)] _ _ := hfr
      rcases List.mem_cons.mp hx with ex | hx
      · subst ex
        obtain ⟨hF, hBd, hM⟩ := hXs
        have g1 : v2 1 = v 1 := hag 1 (by decide)
        have b0 : ((2147483648 : Nat) : Int) ≤ (v2 1) + 2147483648 ∧ (v2 1) + 2147483648 ≤ ((2147484547 : Nat) : Int) := xXb hBd 0 rfl
        have b1 : ((2147483649 : Nat) : Int) ≤ (v2 2) + 2147483648 ∧ (v2 2) + 2147483648 ≤ ((2147484548 : Nat) : Int) := xXb hBd 1 rfl
        have b2 : ((2147483694 : Nat) : Int) ≤ (v2 3) + 2147483648 ∧ (v2 3) + 2147483648 ≤ ((2147483695 : Nat) : Int) := xXb hBd 2 rfl
        have k0 : xE E 35 6 = v 1 := xKcf hKc 0 rfl rfl
        have f0 : (0 : Int) ≤ 4 ∧ xE E 35 4 = (v2 2) := xXf hF 0 rfl
        have f1 : (v2 1) < (v2 2) := xXf hF 1 rfl
        have f2 : (0 : Int) ≤ (v2 1) ∧ xE E 36 (v2 1) = (v2 3) := xXf hF 2 rfl
        have f3 : (v2 3) < 97 := xXf hF 3 rfl
        have f4 : (v2 3) < 48 := xXf hF 4 rfl
        have f5 : ¬ (v2 3) = 45 := xXf hF 5 rfl
        have f6 : ¬ (v2 3) = 59 := xXf hF 6 rfl
        have m0 : xE E2 35 5 = (v2 1) := xXm hM 0 rfl
        have m1 : xE E2 35 6 = (v2 1 + 1) := xXm hM 1 rfl
        have m2 : xE E2 35 7 = 1 := xXm hM 2 rfl
        have e35_4 : xE E2 35 4 = xE E 35 4 := xFr_E hfr rfl
        have q35_4 : xE E 35 4 = xE E0 35 4 := xFr_E hFr0 rfl
        have e35_8 : xE E2 35 8 = xE E 35 8 := xFr_E hfr rfl
        have e36 : ∀ i, xE E2 36 i = xE E 36 i := fun i => xFr_E hfr rfl
        have q36 : ∀ i, xE E 36 i = xE E0 36 i := fun i => xFr_E hFr0 rfl
        have hI : xE E 35 6 ≤ (xE E0 35 4) ∧ xE E 35 6 = tFr (xE E0 36) (xE E0 35 4) (xE E0 35 6) := hInv
        show xΨad x0 E0 E2 0
        obtain ⟨i1, i2⟩ := hI
        have t2 : xE E0 36 (xE E 35 6) = (v2 3) := by rw [← q36, show xE E 35 6 = (v2 1) by omega]; exact f2.2
        rw [i2] at i1
        unfold xΨad xAD
        rw [i2] at t2
        have hk : tk (xE E0 36 (tFr (xE E0 36) (xE E0 35 4) (xE E0 35 6))) = 1 := by rw [t2]; exact tk1 (by omega) (by omega) (by omega) (by omega)
        rw [tNx_1 (by omega) (by omega), tKd_k (by omega) (by omega), hk]
        exact ⟨by omega, by omega, by omega, fun h => absurd h (by decide)⟩
      · skip
        rcases List.mem_cons.mp hx with ex | hx
        · subst ex
          obtain ⟨hF, hBd, hM⟩ := hXs
          have g1 : v2 1 = v 1 := hag 1 (by decide)
          have b0 : ((2147483648 : Nat) : Int) ≤ (v2 1) + 2147483648 ∧ (v2 1) + 2147483648 ≤ ((2147484547 : Nat) : Int) := xXb hBd 0 rfl
          have b1 : ((2147483649 : Nat) : Int) ≤ (v2 2) + 2147483648 ∧ (v2 2) + 2147483648 ≤ ((2147484548 : Nat) : Int) := xXb hBd 1 rfl
          have b2 : ((2147483520 : Nat) : Int) ≤ (v2 3) + 2147483648 ∧ (v2 3) + 2147483648 ≤ ((2147483692 : Nat) : Int) := xXb hBd 2 rfl
          have k0 : xE E 35 6 = v 1 := xKcf hKc 0 rfl rfl
          have f0 : (0 : Int) ≤ 4 ∧ xE E 35 4 = (v2 2) := xXf hF 0 rfl
          have f1 : (v2 1) < (v2 2) := xXf hF 1 rfl
          have f2 : (0 : Int) ≤ (v2 1) ∧ xE E 36 (v2 1) = (v2 3) := xXf hF 2 rfl
          have f3 : (v2 3) < 97 := xXf hF 3 rfl
          have f4 : (v2 3) < 48 := xXf hF 4 rfl
          have f5 : ¬ (v2 3) = 45 := xXf hF 5 rfl
          have f6 : ¬ (v2 3) = 59 := xXf hF 6 rfl
          have m0 : xE E2 35 5 = (v2 1) := xXm hM 0 rfl
          have m1 : xE E2 35 6 = (v2 1 + 1) := xXm hM 1 rfl
          have m2 : xE E2 35 7 = 1 := xXm hM 2 rfl
          have e35_4 : xE E2 35 4 = xE E 35 4 := xFr_E hfr rfl
          have q35_4 : xE E 35 4 = xE E0 35 4 := xFr_E hFr0 rfl
          have e35_8 : xE E2 35 8 = xE E 35 8 := xFr_E hfr rfl
          have e36 : ∀ i, xE E2 36 i = xE E 36 i := fun i => xFr_E hfr rfl
          have q36 : ∀ i, xE E 36 i = xE E0 36 i := fun i => xFr_E hFr0 rfl
          have hI : xE E 35 6 ≤ (xE E0 35 4) ∧ xE E 35 6 = tFr (xE E0 36) (xE E0 35 4) (xE E0 35 6) := hInv
          show xΨad x0 E0 E2 0
          obtain ⟨i1, i2⟩ := hI
          have t2 : xE E0 36 (xE E 35 6) = (v2 3) := by rw [← q36, show xE E 35 6 = (v2 1) by omega]; exact f2.2
          rw [i2] at i1
          unfold xΨad xAD
          rw [i2] at t2
          have hk : tk (xE E0 36 (tFr (xE E0 36) (xE E0 35 4) (xE E0 35 6))) = 1 := by rw [t2]; exact tk1 (by omega) (by omega) (by omega) (by omega)
          rw [tNx_1 (by omega) (by omega), tKd_k (by omega) (by omega), hk]
          exact ⟨by omega, by omega, by omega, fun h => absurd h (by decide)⟩
        · skip
          rcases List.mem_cons.mp hx with ex | hx
          · subst ex
            obtain ⟨hF, hBd, hM⟩ := hXs
            have g1 : v2 1 = v 1 := hag 1 (by decide)
            have b0 : ((2147483648 : Nat) : Int) ≤ (v2 1) + 2147483648 ∧ (v2 1) + 2147483648 ≤ ((2147484547 : Nat) : Int) := xXb hBd 0 rfl
            have b1 : ((2147483649 : Nat) : Int) ≤ (v2 2) + 2147483648 ∧ (v2 2) + 2147483648 ≤ ((2147484548 : Nat) : Int) := xXb hBd 1 rfl
            have b2 : ((2147483693 : Nat) : Int) ≤ (v2 3) + 2147483648 ∧ (v2 3) + 2147483648 ≤ ((2147483693 : Nat) : Int) := xXb hBd 2 rfl
            have k0 : xE E 35 6 = v 1 := xKcf hKc 0 rfl rfl
            have f0 : (0 : Int) ≤ 4 ∧ xE E 35 4 = (v2 2) := xXf hF 0 rfl
            have f1 : (v2 1) < (v2 2) := xXf hF 1 rfl
            have f2 : (0 : Int) ≤ (v2 1) ∧ xE E 36 (v2 1) = (v2 3) := xXf hF 2 rfl
            have f3 : (v2 3) < 97 := xXf hF 3 rfl
            have f4 : (v2 3) < 48 := xXf hF 4 rfl
            have f5 : (v2 3) = 45 := xXf hF 5 rfl
            have m0 : xE E2 35 5 = (v2 1) := xXm hM 0 rfl
            have m1 : xE E2 35 6 = (v2 1 + 1) := xXm hM 1 rfl
            have m2 : xE E2 35 7 = 4 := xXm hM 2 rfl
            have e35_4 : xE E2 35 4 = xE E 35 4 := xFr_E hfr rfl
            have q35_4 : xE E 35 4 = xE E0 35 4 := xFr_E hFr0 rfl
            have e35_8 : xE E2 35 8 = xE E 35 8 := xFr_E hfr rfl
            have e36 : ∀ i, xE E2 36 i = xE E 36 i := fun i => xFr_E hfr rfl
            have q36 : ∀ i, xE E 36 i = xE E0 36 i := fun i => xFr_E hFr0 rfl
            have hI : xE E 35 6 ≤ (xE E0 35 4) ∧ xE E 35 6 = tFr (xE E0 36) (xE E0 35 4) (xE E0 35 6) := hInv
            show xΨad x0 E0 E2 0
            obtain ⟨i1, i2⟩ := hI
            have t2 : xE E0 36 (xE E 35 6) = (v2 3) := by rw [← q36, show xE E 35 6 = (v2 1) by omega]; exact f2.2
            rw [i2] at i1
            unfold xΨad xAD
            rw [i2] at t2
            have hk : tk (xE E0 36 (tFr (xE E0 36) (xE E0 35 4) (xE E0 35 6))) = 4 := by rw [t2]; exact tk4 (by omega)
            rw [tNx_1 (by omega) (by omega), tKd_k (by omega) (by omega), hk]
            exact ⟨by omega, by omega, by omega, fun h => absurd h (by decide)⟩
          · skip
            rcases List.mem_cons.mp hx with ex | hx
            · subst ex
              obtain ⟨hF, hBd, hM⟩ := hXs
              have g1 : v2 1 = v 1 := hag 1 (by decide)
              have b0 : ((2147483648 : Nat) : Int) ≤ (v2 1) + 2147483648 ∧ (v2 1) + 2147483648 ≤ ((2147484547 : Nat) : Int) := xXb hBd 0 rfl
              have b1 : ((2147483649 : Nat) : Int) ≤ (v2 2) + 2147483648 ∧ (v2 2) + 2147483648 ≤ ((2147484548 : Nat) : Int) := xXb hBd 1 rfl
              have b2 : ((2147483708 : Nat) : Int) ≤ (v2 3) + 2147483648 ∧ (v2 3) + 2147483648 ≤ ((2147483744 : Nat) : Int) := xXb hBd 2 rfl
              have k0 : xE E 35 6 = v 1 := xKcf hKc 0 rfl rfl
              have f0 : (0 : Int) ≤ 4 ∧ xE E 35 4 = (v2 2) := xXf hF 0 rfl
              have f1 : (v2 1) < (v2 2) := xXf hF 1 rfl
              have f2 : (0 : Int) ≤ (v2 1) ∧ xE E 36 (v2 1) = (v2 3) := xXf hF 2 rfl
              have f3 : (v2 3) < 97 := xXf hF 3 rfl
              have f4 : 48 ≤ (v2 3) := xXf hF 4 rfl
              have f5 : 57 < (v2 3) := xXf hF 5 rfl
              have f6 : ¬ (v2 3) = 45 := xXf hF 6 rfl
              have f7 : ¬ (v2 3) = 59 := xXf hF 7 rfl
              have m0 : xE E2 35 5 = (v2 1) := xXm hM 0 rfl
              have m1 : xE E2 35 6 = (v2 1 + 1) := xXm hM 1 rfl
              have m2 : xE E2 35 7 = 1 := xXm hM 2 rfl
              have e35_4 : xE E2 35 4 = xE E 35 4 := xFr_E hfr rfl
              have q35_4 : xE E 35 4 = xE E0 35 4 := xFr_E hFr0 rfl
              have e35_8 : xE E2 35 8 = xE E 35 8 := xFr_E hfr rfl
              have e36 : ∀ i, xE E2 36 i = xE E 36 i := fun i => xFr_E hfr rfl
              have q36 : ∀ i, xE E 36 i = xE E0 36 i := fun i => xFr_E hFr0 rfl
              have hI : xE E 35 6 ≤ (xE E0 35 4) ∧ xE E 35 6 = tFr (xE E0 36) (xE E0 35 4) (xE E0 35 6) := hInv
              show xΨad x0 E0 E2 0
              obtain ⟨i1, i2⟩ := hI
              have t2 : xE E0 36 (xE E 35 6) = (v2 3) := by rw [← q36, show xE E 35 6 = (v2 1) by omega]; exact f2.2
              rw [i2] at i1
              unfold xΨad xAD
              rw [i2] at t2
              have hk : tk (xE E0 36 (tFr (xE E0 36) (xE E0 35 4) (xE E0 35 6))) = 1 := by rw [t2]; exact tk1 (by omega) (by omega) (by omega) (by omega)
              rw [tNx_1 (by omega) (by omega), tKd_k (by omega) (by omega), hk]
              exact ⟨by omega, by omega, by omega, fun h => absurd h (by decide)⟩
            · skip
              rcases List.mem_cons.mp hx with ex | hx
              · subst ex
                obtain ⟨hF, hBd, hM⟩ := hXs
                have g1 : v2 1 = v 1 := hag 1 (by decide)
                have b0 : ((2147483648 : Nat) : Int) ≤ (v2 1) + 2147483648 ∧ (v2 1) + 2147483648 ≤ ((2147484547 : Nat) : Int) := xXb hBd 0 rfl
                have b1 : ((2147483649 : Nat) : Int) ≤ (v2 2) + 2147483648 ∧ (v2 2) + 2147483648 ≤ ((2147484548 : Nat) : Int) := xXb hBd 1 rfl
                have b2 : ((2147483706 : Nat) : Int) ≤ (v2 3) + 2147483648 ∧ (v2 3) + 2147483648 ≤ ((2147483706 : Nat) : Int) := xXb hBd 2 rfl
                have k0 : xE E 35 6 = v 1 := xKcf hKc 0 rfl rfl
                have f0 : (0 : Int) ≤ 4 ∧ xE E 35 4 = (v2 2) := xXf hF 0 rfl
                have f1 : (v2 1) < (v2 2) := xXf hF 1 rfl
                have f2 : (0 : Int) ≤ (v2 1) ∧ xE E 36 (v2 1) = (v2 3) := xXf hF 2 rfl
                have f3 : (v2 3) < 97 := xXf hF 3 rfl
                have f4 : 48 ≤ (v2 3) := xXf hF 4 rfl
                have f5 : 57 < (v2 3) := xXf hF 5 rfl
                have f6 : ¬ (v2 3) = 45 := xXf hF 6 rfl
                have f7 : ¬ (v2 3) = 59 := xXf hF 7 rfl
                have m0 : xE E2 35 5 = (v2 1) := xXm hM 0 rfl
                have m1 : xE E2 35 6 = (v2 1 + 1) := xXm hM 1 rfl
                have m2 : xE E2 35 7 = 1 := xXm hM 2 rfl
                have e35_4 : xE E2 35 4 = xE E 35 4 := xFr_E hfr rfl
                have q35_4 : xE E 35 4 = xE E0 35 4 := xFr_E hFr0 rfl
                have e35_8 : xE E2 35 8 = xE E 35 8 := xFr_E hfr rfl
                have e36 : ∀ i, xE E2 36 i = xE E 36 i := fun i => xFr_E hfr rfl
                have q36 : ∀ i, xE E 36 i = xE E0 36 i := fun i => xFr_E hFr0 rfl
                have hI : xE E 35 6 ≤ (xE E0 35 4) ∧ xE E 35 6 = tFr (xE E0 36) (xE E0 35 4) (xE E0 35 6) := hInv
                show xΨad x0 E0 E2 0
                obtain ⟨i1, i2⟩ := hI
                have t2 : xE E0 36 (xE E 35 6) = (v2 3) := by rw [← q36, show xE E 35 6 = (v2 1) by omega]; exact f2.2
                rw [i2] at i1
                unfold xΨad xAD
                rw [i2] at t2
                have hk : tk (xE E0 36 (tFr (xE E0 36) (xE E0 35 4) (xE E0 35 6))) = 1 := by rw [t2]; exact tk1 (by omega) (by omega) (by omega) (by omega)
                rw [tNx_1 (by omega) (by omega), tKd_k (by omega) (by omega), hk]
                exact ⟨by omega, by omega, by omega, fun h => absurd h (by decide)⟩
              · skip
                rcases List.mem_cons.mp hx with ex | hx
                · subst ex
                  obtain ⟨hF, hBd, hM⟩ := hXs
                  have g1 : v2 1 = v 1 := hag 1 (by decide)
                  have b0 : ((2147483648 : Nat) : Int) ≤ (v2 1) + 2147483648 ∧ (v2 1) + 2147483648 ≤ ((2147484547 : Nat) : Int) := xXb hBd 0 rfl
                  have b1 : ((2147483649 : Nat) : Int) ≤ (v2 2) + 2147483648 ∧ (v2 2) + 2147483648 ≤ ((2147484548 : Nat) : Int) := xXb hBd 1 rfl
                  have b2 : ((2147483707 : Nat) : Int) ≤ (v2 3) + 2147483648 ∧ (v2 3) + 2147483648 ≤ ((2147483707 : Nat) : Int) := xXb hBd 2 rfl
                  have k0 : xE E 35 6 = v 1 := xKcf hKc 0 rfl rfl
                  have f0 : (0 : Int) ≤ 4 ∧ xE E 35 4 = (v2 2) := xXf hF 0 rfl
                  have f1 : (v2 1) < (v2 2) := xXf hF 1 rfl
                  have f2 : (0 : Int) ≤ (v2 1) ∧ xE E 36 (v2 1) = (v2 3) := xXf hF 2 rfl
                  have f3 : (v2 3) < 97 := xXf hF 3 rfl
                  have f4 : 48 ≤ (v2 3) := xXf hF 4 rfl
                  have f5 : 57 < (v2 3) := xXf hF 5 rfl
                  have f6 : ¬ (v2 3) = 45 := xXf hF 6 rfl
                  have f7 : (v2 3) = 59 := xXf hF 7 rfl
                  have m0 : xE E2 35 5 = (v2 1) := xXm hM 0 rfl
                  have m1 : xE E2 35 6 = (v2 1 + 1) := xXm hM 1 rfl
                  have m2 : xE E2 35 7 = 5 := xXm hM 2 rfl
                  have e35_4 : xE E2 35 4 = xE E 35 4 := xFr_E hfr rfl
                  have q35_4 : xE E 35 4 = xE E0 35 4 := xFr_E hFr0 rfl
                  have e35_8 : xE E2 35 8 = xE E 35 8 := xFr_E hfr rfl
                  have e36 : ∀ i, xE E2 36 i = xE E 36 i := fun i => xFr_E hfr rfl
                  have q36 : ∀ i, xE E 36 i = xE E0 36 i := fun i => xFr_E hFr0 rfl
                  have hI : xE E 35 6 ≤ (xE E0 35 4) ∧ xE E 35 6 = tFr (xE E0 36) (xE E0 35 4) (xE E0 35 6) := hInv
                  show xΨad x0 E0 E2 0
                  obtain ⟨i1, i2⟩ := hI
                  have t2 : xE E0 36 (xE E 35 6) = (v2 3) := by rw [← q36, show xE E 35 6 = (v2 1) by omega]; exact f2.2
                  rw [i2] at i1
                  unfold xΨad xAD
                  rw [i2] at t2
                  have hk : tk (xE E0 36 (tFr (xE E0 36) (xE E0 35 4) (xE E0 35 6))) = 5 := by rw [t2]; exact tk5 (by omega)
                  rw [tNx_1 (by omega) (by omega), tKd_k (by omega) (by omega), hk]
                  exact ⟨by omega, by omega, by omega, fun h => absurd h (by decide)⟩
                · skip
                  rcases List.mem_cons.mp hx with ex | hx
                  · subst ex
                    obtain ⟨hF, hBd, hM⟩ := hXs
                    have g1 : v2 1 = v 1 := hag 1 (by decide)
                    have b0 : ((2147483648 : Nat) : Int) ≤ (v2 1) + 2147483648 ∧ (v2 1) + 2147483648 ≤ ((2147484547 : Nat) : Int) := xXb hBd 0 rfl
                    have b1 : ((2147483649 : Nat) : Int) ≤ (v2 2) + 2147483648 ∧ (v2 2) + 2147483648 ≤ ((2147484548 : Nat) : Int) := xXb hBd 1 rfl
                    have b2 : ((2147483771 : Nat) : Int) ≤ (v2 3) + 2147483648 ∧ (v2 3) + 2147483648 ≤ ((2147483775 : Nat) : Int) := xXb hBd 2 rfl
                    have k0 : xE E 35 6 = v 1 := xKcf hKc 0 rfl rfl
                    have f0 : (0 : Int) ≤ 4 ∧ xE E 35 4 = (v2 2) := xXf hF 0 rfl
                    have f1 : (v2 1) < (v2 2) := xXf hF 1 rfl
                    have f2 : (0 : Int) ≤ (v2 1) ∧ xE E 36 (v2 1) = (v2 3) := xXf hF 2 rfl
                    have f3 : 97 ≤ (v2 3) := xXf hF 3 rfl
                    have f4 : 122 < (v2 3) := xXf hF 4 rfl
                    have f5 : 48 ≤ (v2 3) := xXf hF 5 rfl
                    have f6 : 57 < (v2 3) := xXf hF 6 rfl
                    have f7 : ¬ (v2 3) = 45 := xXf hF 7 rfl
                    have f8 : ¬ (v2 3) = 59 := xXf hF 8 rfl
                    have m0 : xE E2 35 5 = (v2 1) := xXm hM 0 rfl
                    have m1 : xE E2 35 6 = (v2 1 + 1) := xXm hM 1 rfl
                    have m2 : xE E2 35 7 = 1 := xXm hM 2 rfl
                    have e35_4 : xE E2 35 4 = xE E 35 4 := xFr_E hfr rfl
                    have q35_4 : xE E 35 4 = xE E0 35 4 := xFr_E hFr0 rfl
                    have e35_8 : xE E2 35 8 = xE E 35 8 := xFr_E hfr rfl
                    have e36 : ∀ i, xE E2 36 i = xE E 36 i := fun i => xFr_E hfr rfl
                    have q36 : ∀ i, xE E 36 i = xE E0 36 i := fun i => xFr_E hFr0 rfl
                    have hI : xE E 35 6 ≤ (xE E0 35 4) ∧ xE E 35 6 = tFr (xE E0 36) (xE E0 35 4) (xE E0 35 6) := hInv
                    show xΨad x0 E0 E2 0
                    obtain ⟨i1, i2⟩ := hI
                    have t2 : xE E0 36 (xE E 35 6) = (v2 3) := by rw [← q36, show xE E 35 6 = (v2 1) by omega]; exact f2.2
                    rw [i2] at i1
                    unfold xΨad xAD
                    rw [i2] at t2
                    have hk : tk (xE E0 36 (tFr (xE E0 36) (xE E0 35 4) (xE E0 35 6))) = 1 := by rw [t2]; exact tk1 (by omega) (by omega) (by omega) (by omega)
                    rw [tNx_1 (by omega) (by omega), tKd_k (by omega) (by omega), hk]
                    exact ⟨by omega, by omega, by omega, fun h => absurd h (by decide)⟩
                  · skip
                    have ex := List.mem_singleton.mp hx
                    subst ex
                    obtain ⟨hF, hBd, hM⟩ := hXs
                    have g1 : v2 1 = v 1 := hag 1 (by decide)
                    have b0 : ((2147483648 : Nat) : Int) ≤ (v2 1) + 2147483648 ∧ (v2 1) + 2147483648 ≤ ((2147484548 : Nat) : Int) := xXb hBd 0 rfl
                    have b1 : ((2147483648 : Nat) : Int) ≤ (v2 2) + 2147483648 ∧ (v2 2) + 2147483648 ≤ ((2147484548 : Nat) : Int) := xXb hBd 1 rfl
                    have k0 : xE E 35 6 = v 1 := xKcf hKc 0 rfl rfl
                    have f0 : (0 : Int) ≤ 4 ∧ xE E 35 4 = (v2 2) := xXf hF 0 rfl
                    have f1 : (v2 2) ≤ (v2 1) := xXf hF 1 rfl
                    have m0 : xE E2 35 5 = (v2 1) := xXm hM 0 rfl
                    have m1 : xE E2 35 6 = (v2 1) := xXm hM 1 rfl
                    have m2 : xE E2 35 7 = 0 := xXm hM 2 rfl
                    have e35_4 : xE E2 35 4 = xE E 35 4 := xFr_E hfr rfl
                    have q35_4 : xE E 35 4 = xE E0 35 4 := xFr_E hFr0 rfl
                    have e35_8 : xE E2 35 8 = xE E 35 8 := xFr_E hfr rfl
                    have e36 : ∀ i, xE E2 36 i = xE E 36 i := fun i => xFr_E hfr rfl
                    have q36 : ∀ i, xE E 36 i = xE E0 36 i := fun i => xFr_E hFr0 rfl
                    have hI : xE E 35 6 ≤ (xE E0 35 4) ∧ xE E 35 6 = tFr (xE E0 36) (xE E0 35 4) (xE E0 35 6) := hInv
                    show xΨad x0 E0 E2 0
                    obtain ⟨i1, i2⟩ := hI
                    rw [i2] at i1
                    unfold xΨad xAD
                    rw [tNx_0 (by omega), tKd_e (by omega)]
                    exact ⟨by omega, by omega, by omega, fun h => absurd h (by decide)⟩
    · cases hx
    · have hx : x ∈ [zxfad_dr0, zxfad_dr1] := hx
      have hag : ∀ k, k < 1 → v2 k = v k := hag
      have hfr : xFr [] _ _ := hfr
      rcases List.mem_cons.mp hx with ex | hx
      · subst ex
        obtain ⟨hF, hBd, hM⟩ := hXs
        have b0 : ((2147483652 : Nat) : Int) ≤ (v2 1) + 2147483648 ∧ (v2 1) + 2147483648 ≤ ((2147483653 : Nat) : Int) := xXb hBd 0 rfl
        have f0 : (0 : Int) ≤ 7 ∧ xE E 35 7 = (v2 1) := xXf hF 0 rfl
        have f1 : ¬ (v2 1) = 3 := xXf hF 1 rfl
        have e35_4 : xE E2 35 4 = xE E 35 4 := xFr_E hfr rfl
        have q35_4 : xE E 35 4 = xE E0 35 4 := xFr_E hFr0 rfl
        have e35_5 : xE E2 35 5 = xE E 35 5 := xFr_E hfr rfl
        have e35_6 : xE E2 35 6 = xE E 35 6 := xFr_E hfr rfl
        have e35_7 : xE E2 35 7 = xE E 35 7 := xFr_E hfr rfl
        have e35_8 : xE E2 35 8 = xE E 35 8 := xFr_E hfr rfl
        have e36 : ∀ i, xE E2 36 i = xE E 36 i := fun i => xFr_E hfr rfl
        have q36 : ∀ i, xE E 36 i = xE E0 36 i := fun i => xFr_E hFr0 rfl
        have hI : xE E 35 5 = tFr (xE E0 36) (xE E0 35 4) (xE E0 35 6) ∧ xE E 35 5 < (xE E0 35 4) ∧ xE E 35 7 = tk ((xE E0 36) (xE E 35 5)) ∧ (xE E 35 7 = 2 ∨ xE E 35 7 = 3) ∧ xE E 35 6 = tNx (xE E0 36) (xE E0 35 4) (xE E0 35 6) := hInv
        show xΨad x0 E0 E2 0
        obtain ⟨i1, i2, i3, i4, i5⟩ := hI
        unfold xΨad xAD
        rw [i1] at i2 i3
        have hk := tKd_k (T := xE E0 36) (n := xE E0 35 4) (p := xE E0 35 6) (by omega) (by omega)
        exact ⟨by omega, by omega, by omega, fun h => by omega⟩
      · skip
        have ex := List.mem_singleton.mp hx
        subst ex
        obtain ⟨hF, hBd, hM⟩ := hXs
        have b0 : ((2147483648 : Nat) : Int) ≤ (v2 1) + 2147483648 ∧ (v2 1) + 2147483648 ≤ ((2147483650 : Nat) : Int) := xXb hBd 0 rfl
        have f0 : (0 : Int) ≤ 7 ∧ xE E 35 7 = (v2 1) := xXf hF 0 rfl
        have f1 : ¬ (v2 1) = 3 := xXf hF 1 rfl
        have e35_4 : xE E2 35 4 = xE E 35 4 := xFr_E hfr rfl
        have q35_4 : xE E 35 4 = xE E0 35 4 := xFr_E hFr0 rfl
        have e35_5 : xE E2 35 5 = xE E 35 5 := xFr_E hfr rfl
        have e35_6 : xE E2 35 6 = xE E 35 6 := xFr_E hfr rfl
        have e35_7 : xE E2 35 7 = xE E 35 7 := xFr_E hfr rfl
        have e35_8 : xE E2 35 8 = xE E 35 8 := xFr_E hfr rfl
        have e36 : ∀ i, xE E2 36 i = xE E 36 i := fun i => xFr_E hfr rfl
        have q36 : ∀ i, xE E 36 i = xE E0 36 i := fun i => xFr_E hFr0 rfl
        have hI : xE E 35 5 = tFr (xE E0 36) (xE E0 35 4) (xE E0 35 6) ∧ xE E 35 5 < (xE E0 35 4) ∧ xE E 35 7 = tk ((xE E0 36) (xE E 35 5)) ∧ (xE E 35 7 = 2 ∨ xE E 35 7 = 3) ∧ xE E 35 6 = tNx (xE E0 36) (xE E0 35 4) (xE E0 35 6) := hInv
        show xΨad x0 E0 E2 0
        obtain ⟨i1, i2, i3, i4, i5⟩ := hI
        unfold xΨad xAD
        rw [i1] at i2 i3
        have hk := tKd_k (T := xE E0 36) (n := xE E0 35 4) (p := xE E0 35 6) (by omega) (by omega)
        exact ⟨by omega, by omega, by omega, fun h => by omega⟩
    · have hx : x ∈ [zxfad_er0] := hx
      have hag : ∀ k, k < 1 → v2 k = v k := hag
      have hfr : xFr [] _ _ := hfr
      have ex := List.mem_singleton.mp hx
      subst ex
      obtain ⟨hF, hBd, hM⟩ := hXs
      have e35_4 : xE E2 35 4 = xE E 35 4 := xFr_E hfr rfl
      have q35_4 : xE E 35 4 = xE E0 35 4 := xFr_E hFr0 rfl
      have e35_5 : xE E2 35 5 = xE E 35 5 := xFr_E hfr rfl
      have e35_6 : xE E2 35 6 = xE E 35 6 := xFr_E hfr rfl
      have e35_7 : xE E2 35 7 = xE E 35 7 := xFr_E hfr rfl
      have e35_8 : xE E2 35 8 = xE E 35 8 := xFr_E hfr rfl
      have e36 : ∀ i, xE E2 36 i = xE E 36 i := fun i => xFr_E hfr rfl
      have q36 : ∀ i, xE E 36 i = xE E0 36 i := fun i => xFr_E hFr0 rfl
      have hI : xE E 35 6 = tNx (xE E0 36) (xE E0 35 4) (xE E0 35 6) ∧ xE E 35 5 = tFr (xE E0 36) (xE E0 35 4) (xE E0 35 6) ∧ xE E 35 7 = tKd (xE E0 36) (xE E0 35 4) (xE E0 35 6) ∧ (tKd (xE E0 36) (xE E0 35 4) (xE E0 35 6) = 3 → xE E 35 8 = tNm (xE E0 36) (xE E0 35 4) (xE E0 35 6)) := hInv
      show xΨad x0 E0 E2 0
      obtain ⟨i1, i2, i3, i4⟩ := hI
      unfold xΨad xAD
      exact ⟨by omega, by omega, by omega, fun h => by rw [e35_8]; exact i4 h⟩
end
section
/-! THE CLASS reads: phases of takeNumber, takeSemicolon (printed by m3.py) -/
noncomputable def zxftn_ax0 : zyXp := (1, [283, 34359738369, 68719476737], [283], [], [], [])
noncomputable def zpftn_a : zyPh := (0, [283, 34359738369, 68719476737], [(0, 4294967295), (0, 4294967295), (0, 4294967295)], [], [])
noncomputable def zxftn_br0 : zyXp := (0, [], [0], [(24, 103079215105, 35, 56), (23, 0, 103079215105, 24), (23, 0, 103079215105, 8), (24, 137438953473, 35, 40)], [(103079215105, 2147483652, 2147483653), (137438953473, 2147483648, 2147484548)], [(573442, 16), (573443, 137438953473)])
noncomputable def zxftn_br1 : zyXp := (0, [], [0], [(24, 103079215105, 35, 56), (23, 0, 103079215105, 24), (23, 0, 103079215105, 8), (24, 137438953473, 35, 40)], [(103079215105, 2147483650, 2147483650), (137438953473, 2147483648, 2147484548)], [(573442, 16), (573443, 137438953473)])
noncomputable def zxftn_br2 : zyXp := (0, [], [0], [(24, 103079215105, 35, 56), (23, 0, 103079215105, 24), (23, 0, 103079215105, 8), (24, 137438953473, 35, 40)], [(103079215105, 2147483648, 2147483648), (137438953473, 2147483648, 2147484548)], [(573442, 16), (573443, 137438953473)])
noncomputable def zxftn_br3 : zyXp := (0, [], [0], [(24, 103079215105, 35, 56), (23, 0, 103079215105, 24), (22, 0, 103079215105, 8), (24, 137438953473, 35, 40)], [(103079215105, 2147483649, 2147483649), (137438953473, 2147483648, 2147484548)], [(573442, 8), (573443, 137438953473)])
noncomputable def zxftn_br4 : zyXp := (0, [], [0], [(24, 103079215105, 35, 56), (22, 0, 103079215105, 24), (24, 137438953473, 35, 64), (20, 0, 137438953473, 34359738369), (24, 171798691841, 35, 40)], [(34359738369, 1, 4294967295), (103079215105, 2147483651, 2147483651), (137438953473, 0, 4294967294), (171798691841, 2147483648, 2147484548)], [(573442, 24), (573443, 171798691841)])
noncomputable def zxftn_br5 : zyXp := (0, [], [0], [(24, 103079215105, 35, 56), (22, 0, 103079215105, 24), (24, 137438953473, 35, 64), (21, 0, 137438953473, 34359738369), (20, 0, 68719476737, 137438953473), (24, 171798691841, 35, 40)], [(68719476737, 0, 4294967294), (103079215105, 2147483651, 2147483651), (137438953473, 1, 4294967295), (171798691841, 2147483648, 2147484548)], [(573442, 24), (573443, 171798691841)])
noncomputable def zxftn_br6 : zyXp := (0, [], [8], [(24, 103079215105, 35, 56), (22, 0, 103079215105, 24), (24, 137438953473, 35, 64), (21, 0, 137438953473, 34359738369), (21, 0, 68719476737, 137438953473)], [(103079215105, 2147483651, 2147483651)], [])
noncomputable def zpftn_b : zyPh := (4, [283, 34359738369, 68719476737], [(0, 4294967295), (0, 4294967295), (0, 4294967295)], [], [])
noncomputable def zpftn (i : Nat) : zyPh := zif (Nat.beq i 0) (zpftn_a) (zpftn_b)
noncomputable def zXftn (i : Nat) : List zyXp := zif (Nat.beq i 0) ([zxftn_ax0]) ([])
noncomputable def zRftn (i : Nat) : List zyXp := zif (Nat.beq i 0) ([]) ([zxftn_br0, zxftn_br1, zxftn_br2, zxftn_br3, zxftn_br4, zxftn_br5, zxftn_br6])
noncomputable def zFftn (i : Nat) : zyR := zif (Nat.beq i 0) ([]) ([(35, 2, 3)])
noncomputable def zSftn (i : Nat) : Nat := zif (Nat.beq i 0) (0) (0)
noncomputable def zxfts_ax0 : zyXp := (1, [283], [283], [], [], [])
noncomputable def zpfts_a : zyPh := (0, [283], [(0, 4294967295)], [], [])
noncomputable def zxfts_br0 : zyXp := (0, [], [0], [(24, 34359738369, 35, 56), (23, 0, 34359738369, 40), (23, 0, 34359738369, 8), (24, 68719476737, 35, 40)], [(34359738369, 2147483650, 2147483652), (68719476737, 2147483648, 2147484548)], [(573442, 16), (573443, 68719476737)])
noncomputable def zxfts_br1 : zyXp := (0, [], [0], [(24, 34359738369, 35, 56), (23, 0, 34359738369, 40), (23, 0, 34359738369, 8), (24, 68719476737, 35, 40)], [(34359738369, 2147483648, 2147483648), (68719476737, 2147483648, 2147484548)], [(573442, 16), (573443, 68719476737)])
noncomputable def zxfts_br2 : zyXp := (0, [], [0], [(24, 34359738369, 35, 56), (23, 0, 34359738369, 40), (22, 0, 34359738369, 8), (24, 68719476737, 35, 40)], [(34359738369, 2147483649, 2147483649), (68719476737, 2147483648, 2147484548)], [(573442, 8), (573443, 68719476737)])
noncomputable def zxfts_br3 : zyXp := (0, [], [8], [(24, 34359738369, 35, 56), (22, 0, 34359738369, 40)], [(34359738369, 2147483653, 2147483653)], [])
noncomputable def zpfts_b : zyPh := (4, [283], [(0, 4294967295)], [], [])
noncomputable def zpfts (i : Nat) : zyPh := zif (Nat.beq i 0) (zpfts_a) (zpfts_b)
noncomputable def zXfts (i : Nat) : List zyXp := zif (Nat.beq i 0) ([zxfts_ax0]) ([])
noncomputable def zRfts (i : Nat) : List zyXp := zif (Nat.beq i 0) ([]) ([zxfts_br0, zxfts_br1, zxfts_br2, zxfts_br3])
noncomputable def zFfts (i : Nat) : zyR := zif (Nat.beq i 0) ([]) ([(35, 2, 3)])
noncomputable def zSfts (i : Nat) : Nat := zif (Nat.beq i 0) (0) (0)
end
