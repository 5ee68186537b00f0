/-! THE CLASS reads: weighNumber -/
/-- a number of at most 3 digits is weighed -/
def xΦwn (_ : Nat → Int) (E : zyEm) : Prop := xE E 35 5 ≤ xE E 35 6
def xΨwn (_ : Nat → Int) (E E2 : zyEm) (_ : Int) : Prop := if 3 < xE E 35 6 - xE E 35 5 then xE E2 35 7 = 1 else xE E2 35 7 = xE E 35 7 ∧ xE E2 35 8 = tVl (xE E 36) (xE E 35 6) (xE E 35 5) 0
noncomputable def fpfwn : zyR := [(35, 7, 8)]
theorem zyfwn_run : zyrS zymc zxi74 (74, 0, 0, 0, 0) 1 zpfwn (fun _ _ => []) zFfwn zSfwn zXfwn zRfwn 3 = true := by decide +kernel
theorem zyfwn_ck : zyAll (fun i => xsubR (zFfwn i) fpfwn && ((zXfwn i).all xckX && (zRfwn i).all (fun x => xckX x && xrtB false x))) 3 = true := by decide +kernel
def xIfwn (i : Nat) (x0 : Nat → Int) (E0 : zyEm) (v : Nat → Int) (E : zyEm) : Prop := if i = 0 then (E = E0) else if i = 1 then (xE E 35 7 = xE E0 35 7 ∧ xE E0 35 5 ≤ xE E0 35 6) else (xE E0 35 5 ≤ (v 1) ∧ (v 1) ≤ xE E0 35 6 ∧ (xE E0 35 6 - xE E0 35 5 ≤ 3 ∧ xE E 35 7 = xE E0 35 7) ∧ (((v 1) = xE E0 35 5 ∧ xE E 35 8 = 0) ∨ ((v 1) = xE E0 35 5 + 1 ∧ -176 ≤ xE E 35 8 ∧ xE E 35 8 ≤ 176) ∨ ((v 1) = xE E0 35 5 + 2 ∧ -1936 ≤ xE E 35 8 ∧ xE E 35 8 ≤ 1936) ∨ ((v 1) = xE E0 35 5 + 3 ∧ -19536 ≤ xE E 35 8 ∧ xE E 35 8 ≤ 19536)) ∧ tVl (xE E0 36) (xE E0 35 6) (v 1) (xE E 35 8) = tVl (xE E0 36) (xE E0 35 6) (xE E0 35 5) 0)
def xMfwn (i : Nat) (x0 : Nat → Int) (E0 : zyEm) (v : Nat → Int) (E : zyEm) : Nat := if i = 0 then (3000) else if i = 1 then (2000) else ((1000 - (v 1)).toNat)
theorem xWn {l : Launch} {en : zEn} {me : zMe} (hen : zG zxMeta 74 = some en) (hme : zG zMeth 74 = some me) : xFc l zymc en me 1 [35] 0 fpfwn false xΦwn xΨwn := by
  have een : zG zxMeta 74 = some (zxi74, 1, 2, 5, 74, 0, 0, 0, 0) := rfl
  obtain ⟨me1, hme1, hOK⟩ := zall hen
  rw [hme] at hme1
  cases hme1
  rw [een] at hen
  cases hen
  have hr := zyfwn_run
  have hck := fun i hi => zyAll_iff zyfwn_ck i hi
  simp only [Bool.and_eq_true] at hck
  intro B
  refine xcut (mi := zymc) (B := B) hOK rfl rfl (ι := Fin 3) (fun i => zpfwn i.val) (fun _ _ => []) (fun i => zFfwn i.val) (fun i => zSfwn i.val) (fun i => zXfwn i.val) (fun i => zRfwn i.val) (fun i y2 ct en2 me2 h => by cases h) 200000 (fun i => zyAll_iff hr i.val i.isLt) (fun i => (hck i.val i.isLt).1) (fun i => (hck i.val i.isLt).2.1) (fun i => (hck i.val i.isLt).2.2) ⟨0, by decide⟩ ⟨rfl, rfl, rfl, rfl⟩ ⟨by decide, by decide⟩ (fun i x0 E0 v E => xIfwn i.val x0 E0 v E) (fun i x0 E0 v E => xMfwn i.val x0 E0 v E) ?_ ?_ ?_
  · intro x0 E hx0 hT hΦ
    have hΦ : xΦwn x0 E := hΦ
    refine ⟨fun k p hp => ?_, ?_⟩
    · have hk : k < 2 := (List.getElem?_eq_some_iff.mp hp).1
      have hk : k = 0 ∨ k = 1 := by omega
      rcases hk with rfl | rfl
      · have hp : some (0, 4294967295) = some p := hp
        cases hp
        show ((0 : Nat) : Int) ≤ 0 + 2147483648 ∧ 0 + 2147483648 ≤ ((4294967295 : Nat) : Int)
        omega
      · have hp : some (0, 4294967295) = some p := hp
        cases hp
        show ((0 : Nat) : Int) ≤ x0 0 + 2147483648 ∧ x0 0 + 2147483648 ≤ ((4294967295 : Nat) : Int)
        have hx := hx0 0
        omega
    · show E = E
      rfl
  · intro x0 s Wg hRu hrx hT0 hΦ i v H hT hrv hInv hKc hFr0 hIH x hx ρ2 v2 N2 H2 locs lsB stA hAt hB hv hr2 hXs hag hfr hFr hT2
    rcases i with ⟨i, hi⟩
    have hi2 : i = 0 ∨ i = 1 ∨ i = 2 := by omega
    rcases hi2 with rfl | rfl | rfl
    · have hx : x ∈ [zxfwn_zx0] := hx
      have hag : ∀ k, k < 2 → v2 k = v k := hag
      have hfr : xFr [] _ _ := hfr
      have ex := List.mem_singleton.mp hx
      subst ex
      obtain ⟨hF, hBd, hM⟩ := hXs
      have e35_5 : xE (zyEl zymc B H2) 35 5 = xE (zyEl zymc B H) 35 5 := xFr_E hfr rfl
      have q35_5 : xE (zyEl zymc B H) 35 5 = xE (zyEl zymc B s.heap) 35 5 := xFr_E hFr0 rfl
      have e35_6 : xE (zyEl zymc B H2) 35 6 = xE (zyEl zymc B H) 35 6 := xFr_E hfr rfl
      have q35_6 : xE (zyEl zymc B H) 35 6 = xE (zyEl zymc B s.heap) 35 6 := xFr_E hFr0 rfl
      have e35_7 : xE (zyEl zymc B H2) 35 7 = xE (zyEl zymc B H) 35 7 := xFr_E hfr rfl
      have e35_8 : xE (zyEl zymc B H2) 35 8 = xE (zyEl zymc B H) 35 8 := xFr_E hfr rfl
      have e36 : ∀ i, xE (zyEl zymc B H2) 36 i = xE (zyEl zymc B H) 36 i := fun i => xFr_E hfr rfl
      have q36 : ∀ i, xE (zyEl zymc B H) 36 i = xE (zyEl zymc B s.heap) 36 i := fun i => xFr_E hFr0 rfl
      have hI : (zyEl zymc B H) = (zyEl zymc B s.heap) := hInv
      have q35_7 : xE (zyEl zymc B H) 35 7 = xE (zyEl zymc B s.heap) 35 7 := by rw [hI]
      have q35_8 : xE (zyEl zymc B H) 35 8 = xE (zyEl zymc B s.heap) 35 8 := by rw [hI]
      have hP : xE (zyEl zymc B s.heap) 35 5 ≤ xE (zyEl zymc B s.heap) 35 6 := hΦ
      have z35_7 : ((2147483648 : Nat) : Int) ≤ xE (zyEl zymc B H2) 35 7 + 2147483648 ∧ xE (zyEl zymc B H2) 35 7 + 2147483648 ≤ ((2147483653 : Nat) : Int) := xTyF hT2 35 7 7 rfl rfl rfl rfl rfl rfl
      refine xGo hIH hAt hB hv hFr ⟨1, by decide⟩ [0, 0] [0, 0, xE (zyEl zymc B H2) 35 7] rfl ⟨by decide +kernel, ⟨rfl, by decide +kernel⟩, (xcs_c rfl (xcs_c rfl xcs_n)), (xe_0 (xe_0 (xe_c (by omega) (by omega) rfl xe_n))), (xkq_c hT2 35 7 (q := 7) rfl rfl rfl rfl rfl rfl rfl rfl rfl rfl rfl xkq_n)⟩ xst_n ?_ ?_
      · show xE (zyEl zymc B H2) 35 7 = xE (zyEl zymc B s.heap) 35 7 ∧ xE (zyEl zymc B s.heap) 35 5 ≤ xE (zyEl zymc B s.heap) 35 6
        exact ⟨by omega, by omega⟩
      · show 2000 < 3000
        omega
    · have hx : x ∈ [zxfwn_ax0] := hx
      have hag : ∀ k, k < 3 → v2 k = v k := hag
      have hfr : xFr [(35, 7, 8)] _ _ := hfr
      have ex := List.mem_singleton.mp hx
      subst ex
      obtain ⟨hF, hBd, hM⟩ := hXs
      have g2 : v2 2 = v 2 := hag 2 (by decide)
      have b0 : ((2147483648 : Nat) : Int) ≤ (v2 2) + 2147483648 ∧ (v2 2) + 2147483648 ≤ ((2147483653 : Nat) : Int) := xXb hBd 0 rfl
      have b1 : ((2147483648 : Nat) : Int) ≤ (v2 3) + 2147483648 ∧ (v2 3) + 2147483648 ≤ ((2147484548 : Nat) : Int) := xXb hBd 1 rfl
      have b2 : ((2147483648 : Nat) : Int) ≤ (v2 4) + 2147483648 ∧ (v2 4) + 2147483648 ≤ ((2147484548 : Nat) : Int) := xXb hBd 2 rfl
      have b3 : ((2147482748 : Nat) : Int) ≤ (v2 5) + 2147483648 ∧ (v2 5) + 2147483648 ≤ ((2147483651 : Nat) : Int) := xXb hBd 3 rfl
      have k0 : xE (zyEl zymc B H) 35 7 = v 2 := xKcf hKc 0 rfl rfl
      have f0 : (0 : Int) ≤ 6 ∧ xE (zyEl zymc B H) 35 6 = (v2 3) := xXf hF 0 rfl
      have f1 : (0 : Int) ≤ 5 ∧ xE (zyEl zymc B H) 35 5 = (v2 4) := xXf hF 1 rfl
      have f2 : -2147483648 ≤ (v2 3) - (v2 4) → (v2 3) - (v2 4) < 2147483648 → (v2 5) = (v2 3) - (v2 4) := xXf hF 2 rfl
      have f2 := f2 (by omega) (by omega)
      have f3 : (v2 5) ≤ 3 := xXf hF 3 rfl
      have m0 : xE (zyEl zymc B H2) 35 7 = (v2 2) := xXm hM 0 rfl
      have m1 : xE (zyEl zymc B H2) 35 8 = 0 := xXm hM 1 rfl
      have e35_5 : xE (zyEl zymc B H2) 35 5 = xE (zyEl zymc B H) 35 5 := xFr_E hfr rfl
      have q35_5 : xE (zyEl zymc B H) 35 5 = xE (zyEl zymc B s.heap) 35 5 := xFr_E hFr0 rfl
      have e35_6 : xE (zyEl zymc B H2) 35 6 = xE (zyEl zymc B H) 35 6 := xFr_E hfr rfl
      have q35_6 : xE (zyEl zymc B H) 35 6 = xE (zyEl zymc B s.heap) 35 6 := xFr_E hFr0 rfl
      have e36 : ∀ i, xE (zyEl zymc B H2) 36 i = xE (zyEl zymc B H) 36 i := fun i => xFr_E hfr rfl
      have q36 : ∀ i, xE (zyEl zymc B H) 36 i = xE (zyEl zymc B s.heap) 36 i := fun i => xFr_E hFr0 rfl
      have hI : xE (zyEl zymc B H) 35 7 = xE (zyEl zymc B s.heap) 35 7 ∧ xE (zyEl zymc B s.heap) 35 5 ≤ xE (zyEl zymc B s.heap) 35 6 := hInv
      obtain ⟨i1, i2⟩ := hI
      have z35_8 : ((0 : Nat) : Int) ≤ xE (zyEl zymc B H2) 35 8 + 2147483648 ∧ xE (zyEl zymc B H2) 35 8 + 2147483648 ≤ ((4294967295 : Nat) : Int) := xTyF hT2 35 8 8 rfl rfl rfl rfl rfl rfl
      refine xGo hIH hAt hB hv hFr ⟨2, by decide⟩ [0, 137438953473] [0, (v2 4), xE (zyEl zymc B H2) 35 8] rfl ⟨by decide +kernel, ⟨rfl, by decide +kernel⟩, (xcs_c rfl (xcs_c rfl xcs_n)), (xe_0 (xe_c (by omega) (by omega) rfl (xe_c (by omega) (by omega) rfl xe_n))), (xkq_c hT2 35 8 (q := 8) rfl rfl rfl rfl rfl rfl rfl rfl rfl rfl rfl xkq_n)⟩ xst_n ?_ ?_
      · show xE (zyEl zymc B s.heap) 35 5 ≤ ((v2 4) : Int) ∧ ((v2 4) : Int) ≤ xE (zyEl zymc B s.heap) 35 6 ∧ (xE (zyEl zymc B s.heap) 35 6 - xE (zyEl zymc B s.heap) 35 5 ≤ 3 ∧ xE (zyEl zymc B H2) 35 7 = xE (zyEl zymc B s.heap) 35 7) ∧ ((((v2 4) : Int) = xE (zyEl zymc B s.heap) 35 5 ∧ xE (zyEl zymc B H2) 35 8 = 0) ∨ (((v2 4) : Int) = xE (zyEl zymc B s.heap) 35 5 + 1 ∧ -176 ≤ xE (zyEl zymc B H2) 35 8 ∧ xE (zyEl zymc B H2) 35 8 ≤ 176) ∨ (((v2 4) : Int) = xE (zyEl zymc B s.heap) 35 5 + 2 ∧ -1936 ≤ xE (zyEl zymc B H2) 35 8 ∧ xE (zyEl zymc B H2) 35 8 ≤ 1936) ∨ (((v2 4) : Int) = xE (zyEl zymc B s.heap) 35 5 + 3 ∧ -19536 ≤ xE (zyEl zymc B H2) 35 8 ∧ xE (zyEl zymc B H2) 35 8 ≤ 19536)) ∧ tVl (xE (zyEl zymc B s.heap) 36) (xE (zyEl zymc B s.heap) 35 6) ((v2 4) : Int) (xE (zyEl zymc B H2) 35 8) = tVl (xE (zyEl zymc B s.heap) 36) (xE (zyEl zymc B s.heap) 35 6) (xE (zyEl zymc B s.heap) 35 5) 0
        exact ⟨by omega, by omega, by omega, Or.inl ⟨by omega, by omega⟩, by rw [show (v2 4) = xE (zyEl zymc B s.heap) 35 5 by omega, show xE (zyEl zymc B H2) 35 8 = 0 by omega]⟩
      · show (1000 - ((v2 4) : Int)).toNat < 2000
        omega
    · have hx : x ∈ [zxfwn_bx0] := hx
      have hag : ∀ k, k < 3 → v2 k = v k := hag
      have hfr : xFr [(35, 8, 8)] _ _ := hfr
      have ex := List.mem_singleton.mp hx
      subst ex
      obtain ⟨hF, hBd, hM⟩ := hXs
      have g1 : v2 1 = v 1 := hag 1 (by decide)
      have g2 : v2 2 = v 2 := hag 2 (by decide)
      have b0 : ((2147483648 : Nat) : Int) ≤ (v2 1) + 2147483648 ∧ (v2 1) + 2147483648 ≤ ((2147484547 : Nat) : Int) := xXb hBd 0 rfl
      have b1 : ((2147463648 : Nat) : Int) ≤ (v2 2) + 2147483648 ∧ (v2 2) + 2147483648 ≤ ((2147503648 : Nat) : Int) := xXb hBd 1 rfl
      have b2 : ((2147483649 : Nat) : Int) ≤ (v2 3) + 2147483648 ∧ (v2 3) + 2147483648 ≤ ((2147484548 : Nat) : Int) := xXb hBd 2 rfl
      have b3 : ((2147283648 : Nat) : Int) ≤ (v2 4) + 2147483648 ∧ (v2 4) + 2147483648 ≤ ((2147683648 : Nat) : Int) := xXb hBd 3 rfl
      have b4 : ((2147483520 : Nat) : Int) ≤ (v2 5) + 2147483648 ∧ (v2 5) + 2147483648 ≤ ((2147483775 : Nat) : Int) := xXb hBd 4 rfl
      have b5 : ((2147283520 : Nat) : Int) ≤ (v2 6) + 2147483648 ∧ (v2 6) + 2147483648 ≤ ((2147683775 : Nat) : Int) := xXb hBd 5 rfl
      have b6 : ((2147483649 : Nat) : Int) ≤ (v2 1 + 1) + 2147483648 ∧ (v2 1 + 1) + 2147483648 ≤ ((2147484548 : Nat) : Int) := xXb hBd 6 rfl
      have k0 : xE (zyEl zymc B H) 35 8 = v 2 := xKcf hKc 0 rfl rfl
      have f0 : (0 : Int) ≤ 6 ∧ xE (zyEl zymc B H) 35 6 = (v2 3) := xXf hF 0 rfl
      have f1 : (v2 1) < (v2 3) := xXf hF 1 rfl
      have f2 : -2147483648 ≤ 10 * (v2 2) → 10 * (v2 2) < 2147483648 → (v2 4) = 10 * (v2 2) := xXf hF 2 rfl
      have f2 := f2 (by omega) (by omega)
      have f3 : (0 : Int) ≤ (v2 1) ∧ xE (zyEl zymc B H) 36 (v2 1) = (v2 5) := xXf hF 3 rfl
      have f4 : -2147483648 ≤ (v2 4) + (v2 5) → (v2 4) + (v2 5) < 2147483648 → (v2 6) = (v2 4) + (v2 5) := xXf hF 4 rfl
      have f4 := f4 (by omega) (by omega)
      have m0 : xE (zyEl zymc B H2) 35 8 = (v2 6 + (-48)) := xXm hM 0 rfl
      have e35_5 : xE (zyEl zymc B H2) 35 5 = xE (zyEl zymc B H) 35 5 := xFr_E hfr rfl
      have q35_5 : xE (zyEl zymc B H) 35 5 = xE (zyEl zymc B s.heap) 35 5 := xFr_E hFr0 rfl
      have e35_6 : xE (zyEl zymc B H2) 35 6 = xE (zyEl zymc B H) 35 6 := xFr_E hfr rfl
      have q35_6 : xE (zyEl zymc B H) 35 6 = xE (zyEl zymc B s.heap) 35 6 := xFr_E hFr0 rfl
      have e35_7 : xE (zyEl zymc B H2) 35 7 = xE (zyEl zymc B H) 35 7 := xFr_E hfr rfl
      have e36 : ∀ i, xE (zyEl zymc B H2) 36 i = xE (zyEl zymc B H) 36 i := fun i => xFr_E hfr rfl
      have q36 : ∀ i, xE (zyEl zymc B H) 36 i = xE (zyEl zymc B s.heap) 36 i := fun i => xFr_E hFr0 rfl
      have hI : xE (zyEl zymc B s.heap) 35 5 ≤ (v 1) ∧ (v 1) ≤ xE (zyEl zymc B s.heap) 35 6 ∧ (xE (zyEl zymc B s.heap) 35 6 - xE (zyEl zymc B s.heap) 35 5 ≤ 3 ∧ xE (zyEl zymc B H) 35 7 = xE (zyEl zymc B s.heap) 35 7) ∧ (((v 1) = xE (zyEl zymc B s.heap) 35 5 ∧ xE (zyEl zymc B H) 35 8 = 0) ∨ ((v 1) = xE (zyEl zymc B s.heap) 35 5 + 1 ∧ -176 ≤ xE (zyEl zymc B H) 35 8 ∧ xE (zyEl zymc B H) 35 8 ≤ 176) ∨ ((v 1) = xE (zyEl zymc B s.heap) 35 5 + 2 ∧ -1936 ≤ xE (zyEl zymc B H) 35 8 ∧ xE (zyEl zymc B H) 35 8 ≤ 1936) ∨ ((v 1) = xE (zyEl zymc B s.heap) 35 5 + 3 ∧ -19536 ≤ xE (zyEl zymc B H) 35 8 ∧ xE (zyEl zymc B H) 35 8 ≤ 19536)) ∧ tVl (xE (zyEl zymc B s.heap) 36) (xE (zyEl zymc B s.heap) 35 6) (v 1) (xE (zyEl zymc B H) 35 8) = tVl (xE (zyEl zymc B s.heap) 36) (xE (zyEl zymc B s.heap) 35 6) (xE (zyEl zymc B s.heap) 35 5) 0 := hInv
      obtain ⟨i1, i2, i3, i4, i5⟩ := hI
      have z35_8 : ((0 : Nat) : Int) ≤ xE (zyEl zymc B H2) 35 8 + 2147483648 ∧ xE (zyEl zymc B H2) 35 8 + 2147483648 ≤ ((4294967295 : Nat) : Int) := xTyF hT2 35 8 8 rfl rfl rfl rfl rfl rfl
      refine xGo hIH hAt hB hv hFr ⟨2, by decide⟩ [0, 34359738377] [0, (v2 1 + 1), xE (zyEl zymc B H2) 35 8] rfl ⟨by decide +kernel, ⟨rfl, by decide +kernel⟩, (xcs_c rfl (xcs_c rfl xcs_n)), (xe_0 (xe_c (by omega) (by omega) rfl (xe_c (by omega) (by omega) rfl xe_n))), (xkq_c hT2 35 8 (q := 8) rfl rfl rfl rfl rfl rfl rfl rfl rfl rfl rfl xkq_n)⟩ xst_n ?_ ?_
      · show xE (zyEl zymc B s.heap) 35 5 ≤ ((v2 1 + 1) : Int) ∧ ((v2 1 + 1) : Int) ≤ xE (zyEl zymc B s.heap) 35 6 ∧ (xE (zyEl zymc B s.heap) 35 6 - xE (zyEl zymc B s.heap) 35 5 ≤ 3 ∧ xE (zyEl zymc B H2) 35 7 = xE (zyEl zymc B s.heap) 35 7) ∧ ((((v2 1 + 1) : Int) = xE (zyEl zymc B s.heap) 35 5 ∧ xE (zyEl zymc B H2) 35 8 = 0) ∨ (((v2 1 + 1) : Int) = xE (zyEl zymc B s.heap) 35 5 + 1 ∧ -176 ≤ xE (zyEl zymc B H2) 35 8 ∧ xE (zyEl zymc B H2) 35 8 ≤ 176) ∨ (((v2 1 + 1) : Int) = xE (zyEl zymc B s.heap) 35 5 + 2 ∧ -1936 ≤ xE (zyEl zymc B H2) 35 8 ∧ xE (zyEl zymc B H2) 35 8 ≤ 1936) ∨ (((v2 1 + 1) : Int) = xE (zyEl zymc B s.heap) 35 5 + 3 ∧ -19536 ≤ xE (zyEl zymc B H2) 35 8 ∧ xE (zyEl zymc B H2) 35 8 ≤ 19536)) ∧ tVl (xE (zyEl zymc B s.heap) 36) (xE (zyEl zymc B s.heap) 35 6) ((v2 1 + 1) : Int) (xE (zyEl zymc B H2) 35 8) = tVl (xE (zyEl zymc B s.heap) 36) (xE (zyEl zymc B s.heap) 35 6) (xE (zyEl zymc B s.heap) 35 5) 0
        have ht : xE (zyEl zymc B H) 36 (v2 1) = xE (zyEl zymc B s.heap) 36 (v2 1) := q36 _
        refine ⟨by omega, by omega, by omega, by omega, ?_⟩
        rw [← i5, show (v 1) = v2 1 by omega, ← tVl_s (v := xE (zyEl zymc B H) 35 8) (q := v2 1) (by omega)]
        congr 1
        omega
      · show (1000 - ((v2 1 + 1) : Int)).toNat < (1000 - (v 1)).toNat
        omega
  · intro x0 E0 E E2 hrx hT0 hΦ i v hT hrv hInv hKc hFr0 x hx v2 hr2 hXs hag hfr hFr hT2
    rcases i with ⟨i, hi⟩
    have hi2 : i = 0 ∨ i = 1 ∨ i = 2 := by omega
    rcases hi2 with rfl | rfl | rfl
    · cases hx
    · have hx : x ∈ [zxfwn_ar0] := hx
      have hag : ∀ k, k < 3 → v2 k = v k := hag
      have hfr : xFr [(35, 7, 8)] _ _ := hfr
      have ex := List.mem_singleton.mp hx
      subst ex
      obtain ⟨hF, hBd, hM⟩ := hXs
      have g2 : v2 2 = v 2 := hag 2 (by decide)
      have b0 : ((2147483648 : Nat) : Int) ≤ (v2 3) + 2147483648 ∧ (v2 3) + 2147483648 ≤ ((2147484548 : Nat) : Int) := xXb hBd 0 rfl
      have b1 : ((2147483648 : Nat) : Int) ≤ (v2 4) + 2147483648 ∧ (v2 4) + 2147483648 ≤ ((2147484548 : Nat) : Int) := xXb hBd 1 rfl
      have b2 : ((2147483652 : Nat) : Int) ≤ (v2 5) + 2147483648 ∧ (v2 5) + 2147483648 ≤ ((2147484548 : Nat) : Int) := xXb hBd 2 rfl
      have k0 : xE E 35 7 = v 2 := xKcf hKc 0 rfl rfl
      have f0 : (0 : Int) ≤ 6 ∧ xE E 35 6 = (v2 3) := xXf hF 0 rfl
      have f1 : (0 : Int) ≤ 5 ∧ xE E 35 5 = (v2 4) := xXf hF 1 rfl
      have f2 : -2147483648 ≤ (v2 3) - (v2 4) → (v2 3) - (v2 4) < 2147483648 → (v2 5) = (v2 3) - (v2 4) := xXf hF 2 rfl
      have f2 := f2 (by omega) (by omega)
      have f3 : 3 < (v2 5) := xXf hF 3 rfl
      have m0 : xE E2 35 7 = 1 := xXm hM 0 rfl
      have e35_5 : xE E2 35 5 = xE E 35 5 := xFr_E hfr rfl
      have q35_5 : xE E 35 5 = xE E0 35 5 := xFr_E hFr0 rfl
      have e35_6 : xE E2 35 6 = xE E 35 6 := xFr_E hfr rfl
      have q35_6 : xE E 35 6 = xE E0 35 6 := xFr_E hFr0 rfl
      have e36 : ∀ i, xE E2 36 i = xE E 36 i := fun i => xFr_E hfr rfl
      have q36 : ∀ i, xE E 36 i = xE E0 36 i := fun i => xFr_E hFr0 rfl
      have hI : xE E 35 7 = xE E0 35 7 ∧ xE E0 35 5 ≤ xE E0 35 6 := hInv
      show xΨwn x0 E0 E2 0
      obtain ⟨i1, i2⟩ := hI
      unfold xΨwn
      rw [if_pos (by omega)]
      omega
    · have hx : x ∈ [zxfwn_br0] := hx
      have hag : ∀ k, k < 3 → v2 k = v k := hag
      have hfr : xFr [(35, 8, 8)] _ _ := hfr
      have ex := List.mem_singleton.mp hx
      subst ex
      obtain ⟨hF, hBd, hM⟩ := hXs
      have g1 : v2 1 = v 1 := hag 1 (by decide)
      have g2 : v2 2 = v 2 := hag 2 (by decide)
      have b0 : ((2147483648 : Nat) : Int) ≤ (v2 1) + 2147483648 ∧ (v2 1) + 2147483648 ≤ ((2147484548 : Nat) : Int) := xXb hBd 0 rfl
      have b1 : ((2147463648 : Nat) : Int) ≤ (v2 2) + 2147483648 ∧ (v2 2) + 2147483648 ≤ ((2147503648 : Nat) : Int) := xXb hBd 1 rfl
      have b2 : ((2147483648 : Nat) : Int) ≤ (v2 3) + 2147483648 ∧ (v2 3) + 2147483648 ≤ ((2147484548 : Nat) : Int) := xXb hBd 2 rfl
      have k0 : xE E 35 8 = v 2 := xKcf hKc 0 rfl rfl
      have f0 : (0 : Int) ≤ 6 ∧ xE E 35 6 = (v2 3) := xXf hF 0 rfl
      have f1 : (v2 3) ≤ (v2 1) := xXf hF 1 rfl
      have m0 : xE E2 35 8 = (v2 2) := xXm hM 0 rfl
      have e35_5 : xE E2 35 5 = xE E 35 5 := xFr_E hfr rfl
      have q35_5 : xE E 35 5 = xE E0 35 5 := xFr_E hFr0 rfl
      have e35_6 : xE E2 35 6 = xE E 35 6 := xFr_E hfr rfl
      have q35_6 : xE E 35 6 = xE E0 35 6 := xFr_E hFr0 rfl
      have e35_7 : xE E2 35 7 = xE E 35 7 := xFr_E hfr rfl
      have e36 : ∀ i, xE E2 36 i = xE E 36 i := fun i => xFr_E hfr rfl
      have q36 : ∀ i, xE E 36 i = xE E0 36 i := fun i => xFr_E hFr0 rfl
      have hI : xE E0 35 5 ≤ (v 1) ∧ (v 1) ≤ xE E0 35 6 ∧ (xE E0 35 6 - xE E0 35 5 ≤ 3 ∧ xE E 35 7 = xE E0 35 7) ∧ (((v 1) = xE E0 35 5 ∧ xE E 35 8 = 0) ∨ ((v 1) = xE E0 35 5 + 1 ∧ -176 ≤ xE E 35 8 ∧ xE E 35 8 ≤ 176) ∨ ((v 1) = xE E0 35 5 + 2 ∧ -1936 ≤ xE E 35 8 ∧ xE E 35 8 ≤ 1936) ∨ ((v 1) = xE E0 35 5 + 3 ∧ -19536 ≤ xE E 35 8 ∧ xE E 35 8 ≤ 19536)) ∧ tVl (xE E0 36) (xE E0 35 6) (v 1) (xE E 35 8) = tVl (xE E0 36) (xE E0 35 6) (xE E0 35 5) 0 := hInv
      show xΨwn x0 E0 E2 0
      obtain ⟨i1, i2, i3, i4, i5⟩ := hI
      unfold xΨwn
      rw [if_neg (by omega)]
      refine ⟨by omega, ?_⟩
      rw [← i5, tVl_e (by omega)]
      omega
