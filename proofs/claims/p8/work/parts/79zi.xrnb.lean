/-! THE REFERENCE reads tokens (printed by m17.py) -/
/-- the reference reads the next token -/
def xΦrd (_ : Nat → Int) (E : zyEm) : Prop := xE E 74 39 ≤ xE E 74 42
def xRD (T : Int → Int) (n p : Int) (E2 : zyEm) : Prop := xE E2 74 38 = tFr T n p ∧ xE E2 74 40 = rKd (tKd T n p) ∧ (tFr T n p < n → xE E2 74 39 = tNx T n p) ∧ (n ≤ tFr T n p → xE E2 74 39 = tFr T n p + 1) ∧ (tKd T n p = 3 → xE E2 74 41 = tNm T n p) ∧ (tKd T n p = 2 → E2 74 43 = some (.long (lLt T (tFr T n p) (tNx T n p))))
def xΨrd (_ : Nat → Int) (E E2 : zyEm) (_ : Int) : Prop := xRD (xE E 84) (xE E 74 42) (xE E 74 39) E2
noncomputable def fpfrd : zyR := [(74, 38, 41), (74, 43, 43)]
theorem zyfrd_run : zyrS zymx zxi314 (314, 0, 0, 0, 0) 3 zpfrd (fun _ _ => []) zFfrd zSfrd zXfrd zRfrd 10 = true := by decide +kernel
theorem zyfrd_ck : zyAll (fun i => xsubR (zFfrd i) fpfrd && ((zXfrd i).all xckX && (zRfrd i).all (fun x => xckX x && xrtB false x))) 10 = true := by decide +kernel
def xIfrd (i : Nat) (x0 : Nat → Int) (E0 : zyEm) (v : Nat → Int) (E : zyEm) : Prop := if i = 0 then (E = E0) else if i = 1 then (E = E0) else if i = 2 then (xE E 74 38 ≤ (xE E0 74 42) ∧ tFr (xE E0 84) (xE E0 74 42) (xE E 74 38) = tFr (xE E0 84) (xE E0 74 42) (xE E0 74 39)) else if i = 3 then (xE E 74 38 ≤ (xE E0 74 42) ∧ xE E 74 38 = tFr (xE E0 84) (xE E0 74 42) (xE E0 74 39)) else if i = 4 then (xE E 74 38 ≤ (xE E0 74 42) ∧ xE E 74 38 = tFr (xE E0 84) (xE E0 74 42) (xE E0 74 39) ∧ xE E 74 39 = tFr (xE E0 84) (xE E0 74 42) (xE E0 74 39) + 1 ∧ xE E 74 40 = rK0 (xE E0 84) (xE E0 74 42) (tFr (xE E0 84) (xE E0 74 42) (xE E0 74 39))) else if i = 5 then (xE E 74 38 = tFr (xE E0 84) (xE E0 74 42) (xE E0 74 39) ∧ tFr (xE E0 84) (xE E0 74 42) (xE E0 74 39) < (xE E0 74 42) ∧ tk ((xE E0 84) (tFr (xE E0 84) (xE E0 74 42) (xE E0 74 39))) = 2 ∧ xE E 74 40 = 1 ∧ E 74 43 = some (.long (Int64.ofNat 0))) else if i = 6 then (xE E 74 38 = tFr (xE E0 84) (xE E0 74 42) (xE E0 74 39) ∧ tFr (xE E0 84) (xE E0 74 42) (xE E0 74 39) < (xE E0 74 42) ∧ tk ((xE E0 84) (tFr (xE E0 84) (xE E0 74 42) (xE E0 74 39))) = 2 ∧ xE E 74 40 = 1 ∧ (tFr (xE E0 84) (xE E0 74 42) (xE E0 74 39) ≤ xE E 74 39 ∧ xE E 74 39 ≤ (xE E0 74 42)) ∧ tRn (xE E0 84) (xE E0 74 42) 2 (xE E 74 39) = tRn (xE E0 84) (xE E0 74 42) 2 (tFr (xE E0 84) (xE E0 74 42) (xE E0 74 39)) ∧ E 74 43 = some (.long (lLt (xE E0 84) (tFr (xE E0 84) (xE E0 74 42) (xE E0 74 39)) (xE E 74 39)))) else if i = 7 then (xE E 74 38 = tFr (xE E0 84) (xE E0 74 42) (xE E0 74 39) ∧ tFr (xE E0 84) (xE E0 74 42) (xE E0 74 39) < (xE E0 74 42) ∧ tk ((xE E0 84) (tFr (xE E0 84) (xE E0 74 42) (xE E0 74 39))) = 2 ∧ xE E 74 40 = 1 ∧ (tFr (xE E0 84) (xE E0 74 42) (xE E0 74 39) ≤ xE E 74 39 ∧ xE E 74 39 < (xE E0 74 42)) ∧ tRn (xE E0 84) (xE E0 74 42) 2 (xE E 74 39 + 1) = tRn (xE E0 84) (xE E0 74 42) 2 (tFr (xE E0 84) (xE E0 74 42) (xE E0 74 39)) ∧ E 74 43 = some (.long (lLt (xE E0 84) (tFr (xE E0 84) (xE E0 74 42) (xE E0 74 39)) (xE E 74 39 + 1)))) else if i = 8 then (xE E 74 38 = tFr (xE E0 84) (xE E0 74 42) (xE E0 74 39) ∧ tFr (xE E0 84) (xE E0 74 42) (xE E0 74 39) < (xE E0 74 42) ∧ tk ((xE E0 84) (tFr (xE E0 84) (xE E0 74 42) (xE E0 74 39))) = 3 ∧ (tFr (xE E0 84) (xE E0 74 42) (xE E0 74 39) ≤ xE E 74 39 ∧ xE E 74 39 ≤ (xE E0 74 42)) ∧ tRn (xE E0 84) (xE E0 74 42) 3 (xE E 74 39) = tRn (xE E0 84) (xE E0 74 42) 3 (tFr (xE E0 84) (xE E0 74 42) (xE E0 74 39)) ∧ ((xE E 74 39 = tFr (xE E0 84) (xE E0 74 42) (xE E0 74 39) ∧ xE E 74 41 = 0) ∨ (xE E 74 39 = tFr (xE E0 84) (xE E0 74 42) (xE E0 74 39) + 1 ∧ xE E 74 41 ≤ 9) ∨ (xE E 74 39 = tFr (xE E0 84) (xE E0 74 42) (xE E0 74 39) + 2 ∧ xE E 74 41 ≤ 99) ∨ tFr (xE E0 84) (xE E0 74 42) (xE E0 74 39) + 3 ≤ xE E 74 39) ∧ (xE E 74 39 ≤ tFr (xE E0 84) (xE E0 74 42) (xE E0 74 39) + 3 → tVl (xE E0 84) (tNx (xE E0 84) (xE E0 74 42) (xE E0 74 39)) (xE E 74 39) (xE E 74 41) = tVl (xE E0 84) (tNx (xE E0 84) (xE E0 74 42) (xE E0 74 39)) (tFr (xE E0 84) (xE E0 74 42) (xE E0 74 39)) 0)) else (xE E 74 38 = tFr (xE E0 84) (xE E0 74 42) (xE E0 74 39) ∧ tFr (xE E0 84) (xE E0 74 42) (xE E0 74 39) < (xE E0 74 42) ∧ tk ((xE E0 84) (tFr (xE E0 84) (xE E0 74 42) (xE E0 74 39))) = 3 ∧ (tFr (xE E0 84) (xE E0 74 42) (xE E0 74 39) ≤ xE E 74 39 ∧ xE E 74 39 < (xE E0 74 42)) ∧ tRn (xE E0 84) (xE E0 74 42) 3 (xE E 74 39 + 1) = tRn (xE E0 84) (xE E0 74 42) 3 (tFr (xE E0 84) (xE E0 74 42) (xE E0 74 39)) ∧ ((xE E 74 39 = tFr (xE E0 84) (xE E0 74 42) (xE E0 74 39) ∧ (v 2) ≤ 9) ∨ (xE E 74 39 = tFr (xE E0 84) (xE E0 74 42) (xE E0 74 39) + 1 ∧ (v 2) ≤ 99) ∨ tFr (xE E0 84) (xE E0 74 42) (xE E0 74 39) + 2 ≤ xE E 74 39) ∧ (xE E 74 39 + 1 ≤ tFr (xE E0 84) (xE E0 74 42) (xE E0 74 39) + 3 → tVl (xE E0 84) (tNx (xE E0 84) (xE E0 74 42) (xE E0 74 39)) (xE E 74 39 + 1) (v 2) = tVl (xE E0 84) (tNx (xE E0 84) (xE E0 74 42) (xE E0 74 39)) (tFr (xE E0 84) (xE E0 74 42) (xE E0 74 39)) 0))
def xMfrd (i : Nat) (x0 : Nat → Int) (E0 : zyEm) (v : Nat → Int) (E : zyEm) : Nat := if i = 0 then (9000) else if i = 1 then (8000) else if i = 2 then (6000 + (1000 - xE E 74 38).toNat) else if i = 3 then (5500) else if i = 4 then (5000) else if i = 5 then (4500) else if i = 6 then (2 * (1000 - xE E 74 39).toNat + 1) else if i = 7 then (2 * (1000 - xE E 74 39).toNat) else if i = 8 then (2 * (1000 - xE E 74 39).toNat + 1) else (2 * (1000 - xE E 74 39).toNat)
theorem xRd {l : Launch} {en : zEn} {me : zMe} (hen : zG zxMeta 314 = some en) (hme : zG zMeth 314 = some me) : xFc l zymx en me 3 [74] 0 fpfrd false xΦrd xΨrd := by
  have een : zG zxMeta 314 = some (zxi314, 1, 1, 11, 314, 0, 0, 0, 0) := rfl
  obtain ⟨me1, hme1, hOK⟩ := zall hen
  rw [hme] at hme1
  cases hme1
  rw [een] at hen
  cases hen
  have hr := zyfrd_run
  have hck := fun i hi => zyAll_iff zyfrd_ck i hi
  simp only [Bool.and_eq_true] at hck
  intro B
  refine xcutL (mi := zymx) (B := B) hOK rfl rfl (ι := Fin 10) (fun i => zpfrd i.val) (fun _ _ => []) (fun i => zFfrd i.val) (fun i => zSfrd i.val) (fun i => zXfrd i.val) (fun i => zRfrd i.val) (fun i y2 ct en2 me2 h => by cases h) 200000 (fun i => zyAll_iff hr i.val i.isLt) (fun i => (hck i.val i.isLt).1) (fun i => (hck i.val i.isLt).2.1) (fun i => (hck i.val i.isLt).2.2) ⟨0, by decide⟩ ⟨rfl, rfl, rfl, rfl⟩ ⟨by decide, by decide⟩ (fun i x0 E0 v E => xIfrd i.val x0 E0 v E) (fun i x0 E0 v E => xMfrd i.val x0 E0 v E) ?_ ?_ ?_
  · intro x0 E hx0 hT hΦ
    have hΦ : xΦrd x0 E := hΦ
    refine ⟨fun k p hp => ?_, ?_⟩
    · have hk : k < 1 := (List.getElem?_eq_some_iff.mp hp).1
      have hk : k = 0 := by omega
      rcases hk with rfl
      · have hp : some (0, 4294967295) = some p := hp
        cases hp
        show ((0 : Nat) : Int) ≤ 0 + 2147483648 ∧ 0 + 2147483648 ≤ ((4294967295 : Nat) : Int)
        omega
    · show E = E
      rfl
  · intro x0 s Wg hRu hRl hrx hT0 hΦ i v H hT hrv hInv hKc hFr0 hIH x hx ρ2 v2 N2 H2 locs lsB stA hAt hB hv hr2 hXs hag hfr hFr hT2
    rcases i with ⟨i, hi⟩
    have hi2 : i = 0 ∨ i = 1 ∨ i = 2 ∨ i = 3 ∨ i = 4 ∨ i = 5 ∨ i = 6 ∨ i = 7 ∨ i = 8 ∨ i = 9 := by omega
    rcases hi2 with rfl | rfl | rfl | rfl | rfl | rfl | rfl | rfl | rfl | rfl
    · have hx : x ∈ [zxfrd_zx0] := hx
      have hag : ∀ k, k < 1 → v2 k = v k := hag
      have hfr : xFr [] _ _ := hfr
      have ex := List.mem_singleton.mp hx
      subst ex
      obtain ⟨hF, hBd, hM⟩ := hXs
      have e74_38 : xE (zyEl zymx B H2) 74 38 = xE (zyEl zymx B H) 74 38 := xFr_E hfr rfl
      have e74_39 : xE (zyEl zymx B H2) 74 39 = xE (zyEl zymx B H) 74 39 := xFr_E hfr rfl
      have e74_40 : xE (zyEl zymx B H2) 74 40 = xE (zyEl zymx B H) 74 40 := xFr_E hfr rfl
      have e74_41 : xE (zyEl zymx B H2) 74 41 = xE (zyEl zymx B H) 74 41 := xFr_E hfr rfl
      have e74_42 : xE (zyEl zymx B H2) 74 42 = xE (zyEl zymx B H) 74 42 := xFr_E hfr rfl
      have q74_42 : xE (zyEl zymx B H) 74 42 = xE (zyEl zymx B s.heap) 74 42 := xFr_E hFr0 rfl
      have e84 : ∀ i, xE (zyEl zymx B H2) 84 i = xE (zyEl zymx B H) 84 i := fun i => xFr_E hfr rfl
      have q84 : ∀ i, xE (zyEl zymx B H) 84 i = xE (zyEl zymx B s.heap) 84 i := fun i => xFr_E hFr0 rfl
      have y74_42 : ((2147483648 : Nat) : Int) ≤ xE (zyEl zymx B s.heap) 74 42 + 2147483648 ∧ xE (zyEl zymx B s.heap) 74 42 + 2147483648 ≤ ((2147484548 : Nat) : Int) := xTyF hT0 74 42 42 rfl rfl rfl rfl rfl rfl
      have hI : (zyEl zymx B H) = (zyEl zymx B s.heap) := hInv
      have q74_38 : xE (zyEl zymx B H) 74 38 = xE (zyEl zymx B s.heap) 74 38 := by rw [hI]
      have q74_39 : xE (zyEl zymx B H) 74 39 = xE (zyEl zymx B s.heap) 74 39 := by rw [hI]
      have q74_40 : xE (zyEl zymx B H) 74 40 = xE (zyEl zymx B s.heap) 74 40 := by rw [hI]
      have q74_41 : xE (zyEl zymx B H) 74 41 = xE (zyEl zymx B s.heap) 74 41 := by rw [hI]
      have hP : xE (zyEl zymx B s.heap) 74 39 ≤ xE (zyEl zymx B s.heap) 74 42 := hΦ
      have z74_39 : ((2147483648 : Nat) : Int) ≤ xE (zyEl zymx B H2) 74 39 + 2147483648 ∧ xE (zyEl zymx B H2) 74 39 + 2147483648 ≤ ((2147484549 : Nat) : Int) := xTyF hT2 74 39 39 rfl rfl rfl rfl rfl rfl
      refine xGo hIH hAt hB hv hFr ⟨1, by decide⟩ [0] [0, xE (zyEl zymx B H2) 74 39] rfl ⟨by decide +kernel, ⟨rfl, by decide +kernel⟩, (xcs_c rfl xcs_n), (xe_0 (xe_c (by omega) (by omega) rfl xe_n)), (xkq_c hT2 74 39 (q := 39) rfl rfl rfl rfl rfl rfl rfl rfl rfl rfl rfl xkq_n)⟩ xst_n ?_ ?_
      · show (zyEl zymx B H2) = (zyEl zymx B s.heap)
        exact (xFr_n hfr).trans hI
      · show 8000 < 9000
        omega
    · have hx : x ∈ [zxfrd_ax0] := hx
      have hag : ∀ k, k < 2 → v2 k = v k := hag
      have hfr : xFr [(74, 38, 38)] _ _ := hfr
      have ex := List.mem_singleton.mp hx
      subst ex
      obtain ⟨hF, hBd, hM⟩ := hXs
      have g1 : v2 1 = v 1 := hag 1 (by decide)
      have b0 : ((2147483648 : Nat) : Int) ≤ (v2 1) + 2147483648 ∧ (v2 1) + 2147483648 ≤ ((2147484548 : Nat) : Int) := xXb hBd 0 rfl
      have k0 : xE (zyEl zymx B H) 74 39 = v 1 := xKcf hKc 0 rfl rfl
      have m0 : xE (zyEl zymx B H2) 74 38 = (v2 1) := xXm hM 0 rfl
      have m1 : xE (zyEl zymx B H2) 74 39 = (v2 1) := xXm hM 1 rfl
      have e74_39 : xE (zyEl zymx B H2) 74 39 = xE (zyEl zymx B H) 74 39 := xFr_E hfr rfl
      have e74_40 : xE (zyEl zymx B H2) 74 40 = xE (zyEl zymx B H) 74 40 := xFr_E hfr rfl
      have e74_41 : xE (zyEl zymx B H2) 74 41 = xE (zyEl zymx B H) 74 41 := xFr_E hfr rfl
      have e74_42 : xE (zyEl zymx B H2) 74 42 = xE (zyEl zymx B H) 74 42 := xFr_E hfr rfl
      have q74_42 : xE (zyEl zymx B H) 74 42 = xE (zyEl zymx B s.heap) 74 42 := xFr_E hFr0 rfl
      have e84 : ∀ i, xE (zyEl zymx B H2) 84 i = xE (zyEl zymx B H) 84 i := fun i => xFr_E hfr rfl
      have q84 : ∀ i, xE (zyEl zymx B H) 84 i = xE (zyEl zymx B s.heap) 84 i := fun i => xFr_E hFr0 rfl
      have y74_42 : ((2147483648 : Nat) : Int) ≤ xE (zyEl zymx B s.heap) 74 42 + 2147483648 ∧ xE (zyEl zymx B s.heap) 74 42 + 2147483648 ≤ ((2147484548 : Nat) : Int) := xTyF hT0 74 42 42 rfl rfl rfl rfl rfl rfl
      have hI : (zyEl zymx B H) = (zyEl zymx B s.heap) := hInv
      have q74_38 : xE (zyEl zymx B H) 74 38 = xE (zyEl zymx B s.heap) 74 38 := by rw [hI]
      have q74_39 : xE (zyEl zymx B H) 74 39 = xE (zyEl zymx B s.heap) 74 39 := by rw [hI]
      have q74_40 : xE (zyEl zymx B H) 74 40 = xE (zyEl zymx B s.heap) 74 40 := by rw [hI]
      have q74_41 : xE (zyEl zymx B H) 74 41 = xE (zyEl zymx B s.heap) 74 41 := by rw [hI]
      have hP : xE (zyEl zymx B s.heap) 74 39 ≤ xE (zyEl zymx B s.heap) 74 42 := hΦ
      have z74_38 : ((2147483648 : Nat) : Int) ≤ xE (zyEl zymx B H2) 74 38 + 2147483648 ∧ xE (zyEl zymx B H2) 74 38 + 2147483648 ≤ ((2147484548 : Nat) : Int) := xTyF hT2 74 38 38 rfl rfl rfl rfl rfl rfl
      refine xGo hIH hAt hB hv hFr ⟨2, by decide⟩ [0] [0, xE (zyEl zymx B H2) 74 38] rfl ⟨by decide +kernel, ⟨rfl, by decide +kernel⟩, (xcs_c rfl xcs_n), (xe_0 (xe_c (by omega) (by omega) rfl xe_n)), (xkq_c hT2 74 38 (q := 38) rfl rfl rfl rfl rfl rfl rfl rfl rfl rfl rfl xkq_n)⟩ xst_n ?_ ?_
      · show xE (zyEl zymx B H2) 74 38 ≤ (xE (zyEl zymx B s.heap) 74 42) ∧ tFr (xE (zyEl zymx B s.heap) 84) (xE (zyEl zymx B s.heap) 74 42) (xE (zyEl zymx B H2) 74 38) = tFr (xE (zyEl zymx B s.heap) 84) (xE (zyEl zymx B s.heap) 74 42) (xE (zyEl zymx B s.heap) 74 39)
        exact ⟨by omega, by rw [show xE (zyEl zymx B H2) 74 38 = xE (zyEl zymx B s.heap) 74 39 by omega]⟩
      · show 6000 + (1000 - xE (zyEl zymx B H2) 74 38).toNat < 8000
        omega
    · have hx : x ∈ [zxfrd_bx0, zxfrd_bx1, zxfrd_bx2, zxfrd_bx3, zxfrd_bx4, zxfrd_bx5, zxfrd_bx6, zxfrd_bx7] := hx
      have hag : ∀ k, k < 2 → v2 k = v k := hag
      have hfr : xFr [(74, 38, 38)] _ _ := hfr
      rcases List.mem_cons.mp hx with ex | hx
      · subst ex
        obtain ⟨hF, hBd, hM⟩ := hXs
        have g1 : v2 1 = v 1 := hag 1 (by decide)
        have b0 : ((2147483648 : Nat) : Int) ≤ (v2 1) + 2147483648 ∧ (v2 1) + 2147483648 ≤ ((2147484547 : Nat) : Int) := xXb hBd 0 rfl
        have b1 : ((2147483649 : Nat) : Int) ≤ (v2 2) + 2147483648 ∧ (v2 2) + 2147483648 ≤ ((2147484548 : Nat) : Int) := xXb hBd 1 rfl
        have b2 : ((2147483659 : Nat) : Int) ≤ (v2 3) + 2147483648 ∧ (v2 3) + 2147483648 ≤ ((2147483775 : Nat) : Int) := xXb hBd 2 rfl
        have b3 : ((2147483681 : Nat) : Int) ≤ (v2 4) + 2147483648 ∧ (v2 4) + 2147483648 ≤ ((2147483775 : Nat) : Int) := xXb hBd 3 rfl
        have k0 : xE (zyEl zymx B H) 74 38 = v 1 := xKcf hKc 0 rfl rfl
        have f0 : (0 : Int) ≤ 42 ∧ xE (zyEl zymx B H) 74 42 = (v2 2) := xXf hF 0 rfl
        have f1 : (v2 1) < (v2 2) := xXf hF 1 rfl
        have f2 : (0 : Int) ≤ (v2 1) ∧ xE (zyEl zymx B H) 84 (v2 1) = (v2 3) := xXf hF 2 rfl
        have f3 : ¬ (v2 3) = 10 := xXf hF 3 rfl
        have f4 : (0 : Int) ≤ (v2 1) ∧ xE (zyEl zymx B H) 84 (v2 1) = (v2 4) := xXf hF 4 rfl
        have f5 : ¬ (v2 4) = 32 := xXf hF 5 rfl
        have m0 : xE (zyEl zymx B H2) 74 38 = (v2 1) := xXm hM 0 rfl
        have e74_39 : xE (zyEl zymx B H2) 74 39 = xE (zyEl zymx B H) 74 39 := xFr_E hfr rfl
        have e74_40 : xE (zyEl zymx B H2) 74 40 = xE (zyEl zymx B H) 74 40 := xFr_E hfr rfl
        have e74_41 : xE (zyEl zymx B H2) 74 41 = xE (zyEl zymx B H) 74 41 := xFr_E hfr rfl
        have e74_42 : xE (zyEl zymx B H2) 74 42 = xE (zyEl zymx B H) 74 42 := xFr_E hfr rfl
        have q74_42 : xE (zyEl zymx B H) 74 42 = xE (zyEl zymx B s.heap) 74 42 := xFr_E hFr0 rfl
        have e84 : ∀ i, xE (zyEl zymx B H2) 84 i = xE (zyEl zymx B H) 84 i := fun i => xFr_E hfr rfl
        have q84 : ∀ i, xE (zyEl zymx B H) 84 i = xE (zyEl zymx B s.heap) 84 i := fun i => xFr_E hFr0 rfl
        have y74_42 : ((2147483648 : Nat) : Int) ≤ xE (zyEl zymx B s.heap) 74 42 + 2147483648 ∧ xE (zyEl zymx B s.heap) 74 42 + 2147483648 ≤ ((2147484548 : Nat) : Int) := xTyF hT0 74 42 42 rfl rfl rfl rfl rfl rfl
        have hI : xE (zyEl zymx B H) 74 38 ≤ (xE (zyEl zymx B s.heap) 74 42) ∧ tFr (xE (zyEl zymx B s.heap) 84) (xE (zyEl zymx B s.heap) 74 42) (xE (zyEl zymx B H) 74 38) = tFr (xE (zyEl zymx B s.heap) 84) (xE (zyEl zymx B s.heap) 74 42) (xE (zyEl zymx B s.heap) 74 39) := hInv
        obtain ⟨i1, i2⟩ := hI
        have t2 : xE (zyEl zymx B s.heap) 84 (xE (zyEl zymx B H) 74 38) = (v2 3) := by rw [← q84, show xE (zyEl zymx B H) 74 38 = (v2 1) by omega]; exact f2.2
        have t4 : xE (zyEl zymx B s.heap) 84 (xE (zyEl zymx B H) 74 38) = (v2 4) := by rw [← q84, show xE (zyEl zymx B H) 74 38 = (v2 1) by omega]; exact f4.2
        have z74_38 : ((2147483648 : Nat) : Int) ≤ xE (zyEl zymx B H2) 74 38 + 2147483648 ∧ xE (zyEl zymx B H2) 74 38 + 2147483648 ≤ ((2147484548 : Nat) : Int) := xTyF hT2 74 38 38 rfl rfl rfl rfl rfl rfl
        refine xGo hIH hAt hB hv hFr ⟨3, by decide⟩ [0] [0, xE (zyEl zymx B H2) 74 38] rfl ⟨by decide +kernel, ⟨rfl, by decide +kernel⟩, (xcs_c rfl xcs_n), (xe_0 (xe_c (by omega) (by omega) rfl xe_n)), (xkq_c hT2 74 38 (q := 38) rfl rfl rfl rfl rfl rfl rfl rfl rfl rfl rfl xkq_n)⟩ xst_n ?_ ?_
        · show xE (zyEl zymx B H2) 74 38 ≤ (xE (zyEl zymx B s.heap) 74 42) ∧ xE (zyEl zymx B H2) 74 38 = tFr (xE (zyEl zymx B s.heap) 84) (xE (zyEl zymx B s.heap) 74 42) (xE (zyEl zymx B s.heap) 74 39)
          rw [show xE (zyEl zymx B H2) 74 38 = xE (zyEl zymx B H) 74 38 by omega]
          exact ⟨by omega, (tFr_e (by omega)).symm.trans i2⟩
        · show 5500 < 6000 + (1000 - xE (zyEl zymx B H) 74 38).toNat
          omega
      · skip
        rcases List.mem_cons.mp hx with ex | hx
        · subst ex
          obtain ⟨hF, hBd, hM⟩ := hXs
          have g1 : v2 1 = v 1 := hag 1 (by decide)
          have b0 : ((2147483648 : Nat) : Int) ≤ (v2 1) + 2147483648 ∧ (v2 1) + 2147483648 ≤ ((2147484547 : Nat) : Int) := xXb hBd 0 rfl
          have b1 : ((2147483649 : Nat) : Int) ≤ (v2 2) + 2147483648 ∧ (v2 2) + 2147483648 ≤ ((2147484548 : Nat) : Int) := xXb hBd 1 rfl
          have b2 : ((2147483659 : Nat) : Int) ≤ (v2 3) + 2147483648 ∧ (v2 3) + 2147483648 ≤ ((2147483775 : Nat) : Int) := xXb hBd 2 rfl
          have b3 : ((2147483520 : Nat) : Int) ≤ (v2 4) + 2147483648 ∧ (v2 4) + 2147483648 ≤ ((2147483679 : Nat) : Int) := xXb hBd 3 rfl
          have k0 : xE (zyEl zymx B H) 74 38 = v 1 := xKcf hKc 0 rfl rfl
          have f0 : (0 : Int) ≤ 42 ∧ xE (zyEl zymx B H) 74 42 = (v2 2) := xXf hF 0 rfl
          have f1 : (v2 1) < (v2 2) := xXf hF 1 rfl
          have f2 : (0 : Int) ≤ (v2 1) ∧ xE (zyEl zymx B H) 84 (v2 1) = (v2 3) := xXf hF 2 rfl
          have f3 : ¬ (v2 3) = 10 := xXf hF 3 rfl
          have f4 : (0 : Int) ≤ (v2 1) ∧ xE (zyEl zymx B H) 84 (v2 1) = (v2 4) := xXf hF 4 rfl
          have f5 : ¬ (v2 4) = 32 := xXf hF 5 rfl
          have m0 : xE (zyEl zymx B H2) 74 38 = (v2 1) := xXm hM 0 rfl
          have e74_39 : xE (zyEl zymx B H2) 74 39 = xE (zyEl zymx B H) 74 39 := xFr_E hfr rfl
          have e74_40 : xE (zyEl zymx B H2) 74 40 = xE (zyEl zymx B H) 74 40 := xFr_E hfr rfl
          have e74_41 : xE (zyEl zymx B H2) 74 41 = xE (zyEl zymx B H) 74 41 := xFr_E hfr rfl
          have e74_42 : xE (zyEl zymx B H2) 74 42 = xE (zyEl zymx B H) 74 42 := xFr_E hfr rfl
          have q74_42 : xE (zyEl zymx B H) 74 42 = xE (zyEl zymx B s.heap) 74 42 := xFr_E hFr0 rfl
          have e84 : ∀ i, xE (zyEl zymx B H2) 84 i = xE (zyEl zymx B H) 84 i := fun i => xFr_E hfr rfl
          have q84 : ∀ i, xE (zyEl zymx B H) 84 i = xE (zyEl zymx B s.heap) 84 i := fun i => xFr_E hFr0 rfl
          have y74_42 : ((2147483648 : Nat) : Int) ≤ xE (zyEl zymx B s.heap) 74 42 + 2147483648 ∧ xE (zyEl zymx B s.heap) 74 42 + 2147483648 ≤ ((2147484548 : Nat) : Int) := xTyF hT0 74 42 42 rfl rfl rfl rfl rfl rfl
          have hI : xE (zyEl zymx B H) 74 38 ≤ (xE (zyEl zymx B s.heap) 74 42) ∧ tFr (xE (zyEl zymx B s.heap) 84) (xE (zyEl zymx B s.heap) 74 42) (xE (zyEl zymx B H) 74 38) = tFr (xE (zyEl zymx B s.heap) 84) (xE (zyEl zymx B s.heap) 74 42) (xE (zyEl zymx B s.heap) 74 39) := hInv
          obtain ⟨i1, i2⟩ := hI
          have t2 : xE (zyEl zymx B s.heap) 84 (xE (zyEl zymx B H) 74 38) = (v2 3) := by rw [← q84, show xE (zyEl zymx B H) 74 38 = (v2 1) by omega]; exact f2.2
          have t4 : xE (zyEl zymx B s.heap) 84 (xE (zyEl zymx B H) 74 38) = (v2 4) := by rw [← q84, show xE (zyEl zymx B H) 74 38 = (v2 1) by omega]; exact f4.2
          have z74_38 : ((2147483648 : Nat) : Int) ≤ xE (zyEl zymx B H2) 74 38 + 2147483648 ∧ xE (zyEl zymx B H2) 74 38 + 2147483648 ≤ ((2147484548 : Nat) : Int) := xTyF hT2 74 38 38 rfl rfl rfl rfl rfl rfl
          refine xGo hIH hAt hB hv hFr ⟨3, by decide⟩ [0] [0, xE (zyEl zymx B H2) 74 38] rfl ⟨by decide +kernel, ⟨rfl, by decide +kernel⟩, (xcs_c rfl xcs_n), (xe_0 (xe_c (by omega) (by omega) rfl xe_n)), (xkq_c hT2 74 38 (q := 38) rfl rfl rfl rfl rfl rfl rfl rfl rfl rfl rfl xkq_n)⟩ xst_n ?_ ?_
          · show xE (zyEl zymx B H2) 74 38 ≤ (xE (zyEl zymx B s.heap) 74 42) ∧ xE (zyEl zymx B H2) 74 38 = tFr (xE (zyEl zymx B s.heap) 84) (xE (zyEl zymx B s.heap) 74 42) (xE (zyEl zymx B s.heap) 74 39)
            rw [show xE (zyEl zymx B H2) 74 38 = xE (zyEl zymx B H) 74 38 by omega]
            exact ⟨by omega, (tFr_e (by omega)).symm.trans i2⟩
          · show 5500 < 6000 + (1000 - xE (zyEl zymx B H) 74 38).toNat
            omega
        · skip
          rcases List.mem_cons.mp hx with ex | hx
          · subst ex
            obtain ⟨hF, hBd, hM⟩ := hXs
            have g1 : v2 1 = v 1 := hag 1 (by decide)
            have b0 : ((2147483648 : Nat) : Int) ≤ (v2 1) + 2147483648 ∧ (v2 1) + 2147483648 ≤ ((2147484547 : Nat) : Int) := xXb hBd 0 rfl
            have b1 : ((2147483649 : Nat) : Int) ≤ (v2 2) + 2147483648 ∧ (v2 2) + 2147483648 ≤ ((2147484548 : Nat) : Int) := xXb hBd 1 rfl
            have b2 : ((2147483659 : Nat) : Int) ≤ (v2 3) + 2147483648 ∧ (v2 3) + 2147483648 ≤ ((2147483775 : Nat) : Int) := xXb hBd 2 rfl
            have b3 : ((2147483680 : Nat) : Int) ≤ (v2 4) + 2147483648 ∧ (v2 4) + 2147483648 ≤ ((2147483680 : Nat) : Int) := xXb hBd 3 rfl
            have k0 : xE (zyEl zymx B H) 74 38 = v 1 := xKcf hKc 0 rfl rfl
            have f0 : (0 : Int) ≤ 42 ∧ xE (zyEl zymx B H) 74 42 = (v2 2) := xXf hF 0 rfl
            have f1 : (v2 1) < (v2 2) := xXf hF 1 rfl
            have f2 : (0 : Int) ≤ (v2 1) ∧ xE (zyEl zymx B H) 84 (v2 1) = (v2 3) := xXf hF 2 rfl
            have f3 : ¬ (v2 3) = 10 := xXf hF 3 rfl
            have f4 : (0 : Int) ≤ (v2 1) ∧ xE (zyEl zymx B H) 84 (v2 1) = (v2 4) := xXf hF 4 rfl
            have f5 : (v2 4) = 32 := xXf hF 5 rfl
            have m0 : xE (zyEl zymx B H2) 74 38 = (v2 1 + 1) := xXm hM 0 rfl
            have e74_39 : xE (zyEl zymx B H2) 74 39 = xE (zyEl zymx B H) 74 39 := xFr_E hfr rfl
            have e74_40 : xE (zyEl zymx B H2) 74 40 = xE (zyEl zymx B H) 74 40 := xFr_E hfr rfl
            have e74_41 : xE (zyEl zymx B H2) 74 41 = xE (zyEl zymx B H) 74 41 := xFr_E hfr rfl
            have e74_42 : xE (zyEl zymx B H2) 74 42 = xE (zyEl zymx B H) 74 42 := xFr_E hfr rfl
            have q74_42 : xE (zyEl zymx B H) 74 42 = xE (zyEl zymx B s.heap) 74 42 := xFr_E hFr0 rfl
            have e84 : ∀ i, xE (zyEl zymx B H2) 84 i = xE (zyEl zymx B H) 84 i := fun i => xFr_E hfr rfl
            have q84 : ∀ i, xE (zyEl zymx B H) 84 i = xE (zyEl zymx B s.heap) 84 i := fun i => xFr_E hFr0 rfl
            have y74_42 : ((2147483648 : Nat) : Int) ≤ xE (zyEl zymx B s.heap) 74 42 + 2147483648 ∧ xE (zyEl zymx B s.heap) 74 42 + 2147483648 ≤ ((2147484548 : Nat) : Int) := xTyF hT0 74 42 42 rfl rfl rfl rfl rfl rfl
            have hI : xE (zyEl zymx B H) 74 38 ≤ (xE (zyEl zymx B s.heap) 74 42) ∧ tFr (xE (zyEl zymx B s.heap) 84) (xE (zyEl zymx B s.heap) 74 42) (xE (zyEl zymx B H) 74 38) = tFr (xE (zyEl zymx B s.heap) 84) (xE (zyEl zymx B s.heap) 74 42) (xE (zyEl zymx B s.heap) 74 39) := hInv
            obtain ⟨i1, i2⟩ := hI
            have t2 : xE (zyEl zymx B s.heap) 84 (xE (zyEl zymx B H) 74 38) = (v2 3) := by rw [← q84, show xE (zyEl zymx B H) 74 38 = (v2 1) by omega]; exact f2.2
            have t4 : xE (zyEl zymx B s.heap) 84 (xE (zyEl zymx B H) 74 38) = (v2 4) := by rw [← q84, show xE (zyEl zymx B H) 74 38 = (v2 1) by omega]; exact f4.2
            have z74_38 : ((2147483648 : Nat) : Int) ≤ xE (zyEl zymx B H2) 74 38 + 2147483648 ∧ xE (zyEl zymx B H2) 74 38 + 2147483648 ≤ ((2147484548 : Nat) : Int) := xTyF hT2 74 38 38 rfl rfl rfl rfl rfl rfl
            refine xGo hIH hAt hB hv hFr ⟨2, by decide⟩ [0] [0, xE (zyEl zymx B H2) 74 38] rfl ⟨by decide +kernel, ⟨rfl, by decide +kernel⟩, (xcs_c rfl xcs_n), (xe_0 (xe_c (by omega) (by omega) rfl xe_n)), (xkq_c hT2 74 38 (q := 38) rfl rfl rfl rfl rfl rfl rfl rfl rfl rfl rfl xkq_n)⟩ xst_n ?_ ?_
            · show xE (zyEl zymx B H2) 74 38 ≤ (xE (zyEl zymx B s.heap) 74 42) ∧ tFr (xE (zyEl zymx B s.heap) 84) (xE (zyEl zymx B s.heap) 74 42) (xE (zyEl zymx B H2) 74 38) = tFr (xE (zyEl zymx B s.heap) 84) (xE (zyEl zymx B s.heap) 74 42) (xE (zyEl zymx B s.heap) 74 39)
              rw [show xE (zyEl zymx B H2) 74 38 = xE (zyEl zymx B H) 74 38 + 1 by omega]
              exact ⟨by omega, (tFr_s (by omega) (by omega)).trans i2⟩
            · show 6000 + (1000 - xE (zyEl zymx B H2) 74 38).toNat < 6000 + (1000 - xE (zyEl zymx B H) 74 38).toNat
              omega
          · skip
            rcases List.mem_cons.mp hx with ex | hx
            · subst ex
              obtain ⟨hF, hBd, hM⟩ := hXs
              have g1 : v2 1 = v 1 := hag 1 (by decide)
              have b0 : ((2147483648 : Nat) : Int) ≤ (v2 1) + 2147483648 ∧ (v2 1) + 2147483648 ≤ ((2147484547 : Nat) : Int) := xXb hBd 0 rfl
              have b1 : ((2147483649 : Nat) : Int) ≤ (v2 2) + 2147483648 ∧ (v2 2) + 2147483648 ≤ ((2147484548 : Nat) : Int) := xXb hBd 1 rfl
              have b2 : ((2147483520 : Nat) : Int) ≤ (v2 3) + 2147483648 ∧ (v2 3) + 2147483648 ≤ ((2147483657 : Nat) : Int) := xXb hBd 2 rfl
              have b3 : ((2147483681 : Nat) : Int) ≤ (v2 4) + 2147483648 ∧ (v2 4) + 2147483648 ≤ ((2147483775 : Nat) : Int) := xXb hBd 3 rfl
              have k0 : xE (zyEl zymx B H) 74 38 = v 1 := xKcf hKc 0 rfl rfl
              have f0 : (0 : Int) ≤ 42 ∧ xE (zyEl zymx B H) 74 42 = (v2 2) := xXf hF 0 rfl
              have f1 : (v2 1) < (v2 2) := xXf hF 1 rfl
              have f2 : (0 : Int) ≤ (v2 1) ∧ xE (zyEl zymx B H) 84 (v2 1) = (v2 3) := xXf hF 2 rfl
              have f3 : ¬ (v2 3) = 10 := xXf hF 3 rfl
              have f4 : (0 : Int) ≤ (v2 1) ∧ xE (zyEl zymx B H) 84 (v2 1) = (v2 4) := xXf hF 4 rfl
              have f5 : ¬ (v2 4) = 32 := xXf hF 5 rfl
              have m0 : xE (zyEl zymx B H2) 74 38 = (v2 1) := xXm hM 0 rfl
              have e74_39 : xE (zyEl zymx B H2) 74 39 = xE (zyEl zymx B H) 74 39 := xFr_E hfr rfl
              have e74_40 : xE (zyEl zymx B H2) 74 40 = xE (zyEl zymx B H) 74 40 := xFr_E hfr rfl
              have e74_41 : xE (zyEl zymx B H2) 74 41 = xE (zyEl zymx B H) 74 41 := xFr_E hfr rfl
              have e74_42 : xE (zyEl zymx B H2) 74 42 = xE (zyEl zymx B H) 74 42 := xFr_E hfr rfl
              have q74_42 : xE (zyEl zymx B H) 74 42 = xE (zyEl zymx B s.heap) 74 42 := xFr_E hFr0 rfl
              have e84 : ∀ i, xE (zyEl zymx B H2) 84 i = xE (zyEl zymx B H) 84 i := fun i => xFr_E hfr rfl
              have q84 : ∀ i, xE (zyEl zymx B H) 84 i = xE (zyEl zymx B s.heap) 84 i := fun i => xFr_E hFr0 rfl
              have y74_42 : ((2147483648 : Nat) : Int) ≤ xE (zyEl zymx B s.heap) 74 42 + 2147483648 ∧ xE (zyEl zymx B s.heap) 74 42 + 2147483648 ≤ ((2147484548 : Nat) : Int) := xTyF hT0 74 42 42 rfl rfl rfl rfl rfl rfl
              have hI : xE (zyEl zymx B H) 74 38 ≤ (xE (zyEl zymx B s.heap) 74 42) ∧ tFr (xE (zyEl zymx B s.heap) 84) (xE (zyEl zymx B s.heap) 74 42) (xE (zyEl zymx B H) 74 38) = tFr (xE (zyEl zymx B s.heap) 84) (xE (zyEl zymx B s.heap) 74 42) (xE (zyEl zymx B s.heap) 74 39) := hInv
              obtain ⟨i1, i2⟩ := hI
              have t2 : xE (zyEl zymx B s.heap) 84 (xE (zyEl zymx B H) 74 38) = (v2 3) := by rw [← q84, show xE (zyEl zymx B H) 74 38 = (v2 1) by omega]; exact f2.2
              have t4 : xE (zyEl zymx B s.heap) 84 (xE (zyEl zymx B H) 74 38) = (v2 4) := by rw [← q84, show xE (zyEl zymx B H) 74 38 = (v2 1) by omega]; exact f4.2
              have z74_38 : ((2147483648 : Nat) : Int) ≤ xE (zyEl zymx B H2) 74 38 + 2147483648 ∧ xE (zyEl zymx B H2) 74 38 + 2147483648 ≤ ((2147484548 : Nat) : Int) := xTyF hT2 74 38 38 rfl rfl rfl rfl rfl rfl
              refine xGo hIH hAt hB hv hFr ⟨3, by decide⟩ [0] [0, xE (zyEl zymx B H2) 74 38] rfl ⟨by decide +kernel, ⟨rfl, by decide +kernel⟩, (xcs_c rfl xcs_n), (xe_0 (xe_c (by omega) (by omega) rfl xe_n)), (xkq_c hT2 74 38 (q := 38) rfl rfl rfl rfl rfl rfl rfl rfl rfl rfl rfl xkq_n)⟩ xst_n ?_ ?_
              · show xE (zyEl zymx B H2) 74 38 ≤ (xE (zyEl zymx B s.heap) 74 42) ∧ xE (zyEl zymx B H2) 74 38 = tFr (xE (zyEl zymx B s.heap) 84) (xE (zyEl zymx B s.heap) 74 42) (xE (zyEl zymx B s.heap) 74 39)
                rw [show xE (zyEl zymx B H2) 74 38 = xE (zyEl zymx B H) 74 38 by omega]
                exact ⟨by omega, (tFr_e (by omega)).symm.trans i2⟩
              · show 5500 < 6000 + (1000 - xE (zyEl zymx B H) 74 38).toNat
                omega
            · skip
              rcases List.mem_cons.mp hx with ex | hx
              · subst ex
                obtain ⟨hF, hBd, hM⟩ := hXs
                have g1 : v2 1 = v 1 := hag 1 (by decide)
                have b0 : ((2147483648 : Nat) : Int) ≤ (v2 1) + 2147483648 ∧ (v2 1) + 2147483648 ≤ ((2147484547 : Nat) : Int) := xXb hBd 0 rfl
                have b1 : ((2147483649 : Nat) : Int) ≤ (v2 2) + 2147483648 ∧ (v2 2) + 2147483648 ≤ ((2147484548 : Nat) : Int) := xXb hBd 1 rfl
                have b2 : ((2147483520 : Nat) : Int) ≤ (v2 3) + 2147483648 ∧ (v2 3) + 2147483648 ≤ ((2147483657 : Nat) : Int) := xXb hBd 2 rfl
                have b3 : ((2147483520 : Nat) : Int) ≤ (v2 4) + 2147483648 ∧ (v2 4) + 2147483648 ≤ ((2147483679 : Nat) : Int) := xXb hBd 3 rfl
                have k0 : xE (zyEl zymx B H) 74 38 = v 1 := xKcf hKc 0 rfl rfl
                have f0 : (0 : Int) ≤ 42 ∧ xE (zyEl zymx B H) 74 42 = (v2 2) := xXf hF 0 rfl
                have f1 : (v2 1) < (v2 2) := xXf hF 1 rfl
                have f2 : (0 : Int) ≤ (v2 1) ∧ xE (zyEl zymx B H) 84 (v2 1) = (v2 3) := xXf hF 2 rfl
                have f3 : ¬ (v2 3) = 10 := xXf hF 3 rfl
                have f4 : (0 : Int) ≤ (v2 1) ∧ xE (zyEl zymx B H) 84 (v2 1) = (v2 4) := xXf hF 4 rfl
                have f5 : ¬ (v2 4) = 32 := xXf hF 5 rfl
                have m0 : xE (zyEl zymx B H2) 74 38 = (v2 1) := xXm hM 0 rfl
                have e74_39 : xE (zyEl zymx B H2) 74 39 = xE (zyEl zymx B H) 74 39 := xFr_E hfr rfl
                have e74_40 : xE (zyEl zymx B H2) 74 40 = xE (zyEl zymx B H) 74 40 := xFr_E hfr rfl
                have e74_41 : xE (zyEl zymx B H2) 74 41 = xE (zyEl zymx B H) 74 41 := xFr_E hfr rfl
                have e74_42 : xE (zyEl zymx B H2) 74 42 = xE (zyEl zymx B H) 74 42 := xFr_E hfr rfl
                have q74_42 : xE (zyEl zymx B H) 74 42 = xE (zyEl zymx B s.heap) 74 42 := xFr_E hFr0 rfl
                have e84 : ∀ i, xE (zyEl zymx B H2) 84 i = xE (zyEl zymx B H) 84 i := fun i => xFr_E hfr rfl
                have q84 : ∀ i, xE (zyEl zymx B H) 84 i = xE (zyEl zymx B s.heap) 84 i := fun i => xFr_E hFr0 rfl
                have y74_42 : ((2147483648 : Nat) : Int) ≤ xE (zyEl zymx B s.heap) 74 42 + 2147483648 ∧ xE (zyEl zymx B s.heap) 74 42 + 2147483648 ≤ ((2147484548 : Nat) : Int) := xTyF hT0 74 42 42 rfl rfl rfl rfl rfl rfl
                have hI : xE (zyEl zymx B H) 74 38 ≤ (xE (zyEl zymx B s.heap) 74 42) ∧ tFr (xE (zyEl zymx B s.heap) 84) (xE (zyEl zymx B s.heap) 74 42) (xE (zyEl zymx B H) 74 38) = tFr (xE (zyEl zymx B s.heap) 84) (xE (zyEl zymx B s.heap) 74 42) (xE (zyEl zymx B s.heap) 74 39) := hInv
                obtain ⟨i1, i2⟩ := hI
                have t2 : xE (zyEl zymx B s.heap) 84 (xE (zyEl zymx B H) 74 38) = (v2 3) := by rw [← q84, show xE (zyEl zymx B H) 74 38 = (v2 1) by omega]; exact f2.2
                have t4 : xE (zyEl zymx B s.heap) 84 (xE (zyEl zymx B H) 74 38) = (v2 4) := by rw [← q84, show xE (zyEl zymx B H) 74 38 = (v2 1) by omega]; exact f4.2
                have z74_38 : ((2147483648 : Nat) : Int) ≤ xE (zyEl zymx B H2) 74 38 + 2147483648 ∧ xE (zyEl zymx B H2) 74 38 + 2147483648 ≤ ((2147484548 : Nat) : Int) := xTyF hT2 74 38 38 rfl rfl rfl rfl rfl rfl
                refine xGo hIH hAt hB hv hFr ⟨3, by decide⟩ [0] [0, xE (zyEl zymx B H2) 74 38] rfl ⟨by decide +kernel, ⟨rfl, by decide +kernel⟩, (xcs_c rfl xcs_n), (xe_0 (xe_c (by omega) (by omega) rfl xe_n)), (xkq_c hT2 74 38 (q := 38) rfl rfl rfl rfl rfl rfl rfl rfl rfl rfl rfl xkq_n)⟩ xst_n ?_ ?_
                · show xE (zyEl zymx B H2) 74 38 ≤ (xE (zyEl zymx B s.heap) 74 42) ∧ xE (zyEl zymx B H2) 74 38 = tFr (xE (zyEl zymx B s.heap) 84) (xE (zyEl zymx B s.heap) 74 42) (xE (zyEl zymx B s.heap) 74 39)
                  rw [show xE (zyEl zymx B H2) 74 38 = xE (zyEl zymx B H) 74 38 by omega]
                  exact ⟨by omega, (tFr_e (by omega)).symm.trans i2⟩
                · show 5500 < 6000 + (1000 - xE (zyEl zymx B H) 74 38).toNat
                  omega
              · skip
                rcases List.mem_cons.mp hx with ex | hx
                · subst ex
                  obtain ⟨hF, hBd, hM⟩ := hXs
                  have g1 : v2 1 = v 1 := hag 1 (by decide)
                  have b0 : ((2147483648 : Nat) : Int) ≤ (v2 1) + 2147483648 ∧ (v2 1) + 2147483648 ≤ ((2147484547 : Nat) : Int) := xXb hBd 0 rfl
                  have b1 : ((2147483649 : Nat) : Int) ≤ (v2 2) + 2147483648 ∧ (v2 2) + 2147483648 ≤ ((2147484548 : Nat) : Int) := xXb hBd 1 rfl
                  have b2 : ((2147483520 : Nat) : Int) ≤ (v2 3) + 2147483648 ∧ (v2 3) + 2147483648 ≤ ((2147483657 : Nat) : Int) := xXb hBd 2 rfl
                  have b3 : ((2147483680 : Nat) : Int) ≤ (v2 4) + 2147483648 ∧ (v2 4) + 2147483648 ≤ ((2147483680 : Nat) : Int) := xXb hBd 3 rfl
                  have k0 : xE (zyEl zymx B H) 74 38 = v 1 := xKcf hKc 0 rfl rfl
                  have f0 : (0 : Int) ≤ 42 ∧ xE (zyEl zymx B H) 74 42 = (v2 2) := xXf hF 0 rfl
                  have f1 : (v2 1) < (v2 2) := xXf hF 1 rfl
                  have f2 : (0 : Int) ≤ (v2 1) ∧ xE (zyEl zymx B H) 84 (v2 1) = (v2 3) := xXf hF 2 rfl
                  have f3 : ¬ (v2 3) = 10 := xXf hF 3 rfl
                  have f4 : (0 : Int) ≤ (v2 1) ∧ xE (zyEl zymx B H) 84 (v2 1) = (v2 4) := xXf hF 4 rfl
                  have f5 : (v2 4) = 32 := xXf hF 5 rfl
                  have m0 : xE (zyEl zymx B H2) 74 38 = (v2 1 + 1) := xXm hM 0 rfl
                  have e74_39 : xE (zyEl zymx B H2) 74 39 = xE (zyEl zymx B H) 74 39 := xFr_E hfr rfl
                  have e74_40 : xE (zyEl zymx B H2) 74 40 = xE (zyEl zymx B H) 74 40 := xFr_E hfr rfl
                  have e74_41 : xE (zyEl zymx B H2) 74 41 = xE (zyEl zymx B H) 74 41 := xFr_E hfr rfl
                  have e74_42 : xE (zyEl zymx B H2) 74 42 = xE (zyEl zymx B H) 74 42 := xFr_E hfr rfl
                  have q74_42 : xE (zyEl zymx B H) 74 42 = xE (zyEl zymx B s.heap) 74 42 := xFr_E hFr0 rfl
                  have e84 : ∀ i, xE (zyEl zymx B H2) 84 i = xE (zyEl zymx B H) 84 i := fun i => xFr_E hfr rfl
                  have q84 : ∀ i, xE (zyEl zymx B H) 84 i = xE (zyEl zymx B s.heap) 84 i := fun i => xFr_E hFr0 rfl
                  have y74_42 : ((2147483648 : Nat) : Int) ≤ xE (zyEl zymx B s.heap) 74 42 + 2147483648 ∧ xE (zyEl zymx B s.heap) 74 42 + 2147483648 ≤ ((2147484548 : Nat) : Int) := xTyF hT0 74 42 42 rfl rfl rfl rfl rfl rfl
                  have hI : xE (zyEl zymx B H) 74 38 ≤ (xE (zyEl zymx B s.heap) 74 42) ∧ tFr (xE (zyEl zymx B s.heap) 84) (xE (zyEl zymx B s.heap) 74 42) (xE (zyEl zymx B H) 74 38) = tFr (xE (zyEl zymx B s.heap) 84) (xE (zyEl zymx B s.heap) 74 42) (xE (zyEl zymx B s.heap) 74 39) := hInv
                  obtain ⟨i1, i2⟩ := hI
                  have t2 : xE (zyEl zymx B s.heap) 84 (xE (zyEl zymx B H) 74 38) = (v2 3) := by rw [← q84, show xE (zyEl zymx B H) 74 38 = (v2 1) by omega]; exact f2.2
                  have t4 : xE (zyEl zymx B s.heap) 84 (xE (zyEl zymx B H) 74 38) = (v2 4) := by rw [← q84, show xE (zyEl zymx B H) 74 38 = (v2 1) by omega]; exact f4.2
                  have z74_38 : ((2147483648 : Nat) : Int) ≤ xE (zyEl zymx B H2) 74 38 + 2147483648 ∧ xE (zyEl zymx B H2) 74 38 + 2147483648 ≤ ((2147484548 : Nat) : Int) := xTyF hT2 74 38 38 rfl rfl rfl rfl rfl rfl
                  refine xGo hIH hAt hB hv hFr ⟨2, by decide⟩ [0] [0, xE (zyEl zymx B H2) 74 38] rfl ⟨by decide +kernel, ⟨rfl, by decide +kernel⟩, (xcs_c rfl xcs_n), (xe_0 (xe_c (by omega) (by omega) rfl xe_n)), (xkq_c hT2 74 38 (q := 38) rfl rfl rfl rfl rfl rfl rfl rfl rfl rfl rfl xkq_n)⟩ xst_n ?_ ?_
                  · show xE (zyEl zymx B H2) 74 38 ≤ (xE (zyEl zymx B s.heap) 74 42) ∧ tFr (xE (zyEl zymx B s.heap) 84) (xE (zyEl zymx B s.heap) 74 42) (xE (zyEl zymx B H2) 74 38) = tFr (xE (zyEl zymx B s.heap) 84) (xE (zyEl zymx B s.heap) 74 42) (xE (zyEl zymx B s.heap) 74 39)
                    rw [show xE (zyEl zymx B H2) 74 38 = xE (zyEl zymx B H) 74 38 + 1 by omega]
                    exact ⟨by omega, (tFr_s (by omega) (by omega)).trans i2⟩
                  · show 6000 + (1000 - xE (zyEl zymx B H2) 74 38).toNat < 6000 + (1000 - xE (zyEl zymx B H) 74 38).toNat
                    omega
                · skip
                  rcases List.mem_cons.mp hx with ex | hx
                  · subst ex
                    obtain ⟨hF, hBd, hM⟩ := hXs
                    have g1 : v2 1 = v 1 := hag 1 (by decide)
                    have b0 : ((2147483648 : Nat) : Int) ≤ (v2 1) + 2147483648 ∧ (v2 1) + 2147483648 ≤ ((2147484547 : Nat) : Int) := xXb hBd 0 rfl
                    have b1 : ((2147483649 : Nat) : Int) ≤ (v2 2) + 2147483648 ∧ (v2 2) + 2147483648 ≤ ((2147484548 : Nat) : Int) := xXb hBd 1 rfl
                    have b2 : ((2147483658 : Nat) : Int) ≤ (v2 3) + 2147483648 ∧ (v2 3) + 2147483648 ≤ ((2147483658 : Nat) : Int) := xXb hBd 2 rfl
                    have k0 : xE (zyEl zymx B H) 74 38 = v 1 := xKcf hKc 0 rfl rfl
                    have f0 : (0 : Int) ≤ 42 ∧ xE (zyEl zymx B H) 74 42 = (v2 2) := xXf hF 0 rfl
                    have f1 : (v2 1) < (v2 2) := xXf hF 1 rfl
                    have f2 : (0 : Int) ≤ (v2 1) ∧ xE (zyEl zymx B H) 84 (v2 1) = (v2 3) := xXf hF 2 rfl
                    have f3 : (v2 3) = 10 := xXf hF 3 rfl
                    have m0 : xE (zyEl zymx B H2) 74 38 = (v2 1 + 1) := xXm hM 0 rfl
                    have e74_39 : xE (zyEl zymx B H2) 74 39 = xE (zyEl zymx B H) 74 39 := xFr_E hfr rfl
                    have e74_40 : xE (zyEl zymx B H2) 74 40 = xE (zyEl zymx B H) 74 40 := xFr_E hfr rfl
                    have e74_41 : xE (zyEl zymx B H2) 74 41 = xE (zyEl zymx B H) 74 41 := xFr_E hfr rfl
                    have e74_42 : xE (zyEl zymx B H2) 74 42 = xE (zyEl zymx B H) 74 42 := xFr_E hfr rfl
                    have q74_42 : xE (zyEl zymx B H) 74 42 = xE (zyEl zymx B s.heap) 74 42 := xFr_E hFr0 rfl
                    have e84 : ∀ i, xE (zyEl zymx B H2) 84 i = xE (zyEl zymx B H) 84 i := fun i => xFr_E hfr rfl
                    have q84 : ∀ i, xE (zyEl zymx B H) 84 i = xE (zyEl zymx B s.heap) 84 i := fun i => xFr_E hFr0 rfl
                    have y74_42 : ((2147483648 : Nat) : Int) ≤ xE (zyEl zymx B s.heap) 74 42 + 2147483648 ∧ xE (zyEl zymx B s.heap) 74 42 + 2147483648 ≤ ((2147484548 : Nat) : Int) := xTyF hT0 74 42 42 rfl rfl rfl rfl rfl rfl
                    have hI : xE (zyEl zymx B H) 74 38 ≤ (xE (zyEl zymx B s.heap) 74 42) ∧ tFr (xE (zyEl zymx B s.heap) 84) (xE (zyEl zymx B s.heap) 74 42) (xE (zyEl zymx B H) 74 38) = tFr (xE (zyEl zymx B s.heap) 84) (xE (zyEl zymx B s.heap) 74 42) (xE (zyEl zymx B s.heap) 74 39) := hInv
                    obtain ⟨i1, i2⟩ := hI
                    have t2 : xE (zyEl zymx B s.heap) 84 (xE (zyEl zymx B H) 74 38) = (v2 3) := by rw [← q84, show xE (zyEl zymx B H) 74 38 = (v2 1) by omega]; exact f2.2
                    have z74_38 : ((2147483648 : Nat) : Int) ≤ xE (zyEl zymx B H2) 74 38 + 2147483648 ∧ xE (zyEl zymx B H2) 74 38 + 2147483648 ≤ ((2147484548 : Nat) : Int) := xTyF hT2 74 38 38 rfl rfl rfl rfl rfl rfl
                    refine xGo hIH hAt hB hv hFr ⟨2, by decide⟩ [0] [0, xE (zyEl zymx B H2) 74 38] rfl ⟨by decide +kernel, ⟨rfl, by decide +kernel⟩, (xcs_c rfl xcs_n), (xe_0 (xe_c (by omega) (by omega) rfl xe_n)), (xkq_c hT2 74 38 (q := 38) rfl rfl rfl rfl rfl rfl rfl rfl rfl rfl rfl xkq_n)⟩ xst_n ?_ ?_
                    · show xE (zyEl zymx B H2) 74 38 ≤ (xE (zyEl zymx B s.heap) 74 42) ∧ tFr (xE (zyEl zymx B s.heap) 84) (xE (zyEl zymx B s.heap) 74 42) (xE (zyEl zymx B H2) 74 38) = tFr (xE (zyEl zymx B s.heap) 84) (xE (zyEl zymx B s.heap) 74 42) (xE (zyEl zymx B s.heap) 74 39)
                      rw [show xE (zyEl zymx B H2) 74 38 = xE (zyEl zymx B H) 74 38 + 1 by omega]
                      exact ⟨by omega, (tFr_s (by omega) (by omega)).trans i2⟩
                    · show 6000 + (1000 - xE (zyEl zymx B H2) 74 38).toNat < 6000 + (1000 - xE (zyEl zymx B H) 74 38).toNat
                      omega
                  · skip
                    have ex := List.mem_singleton.mp hx
                    subst ex
                    obtain ⟨hF, hBd, hM⟩ := hXs
                    have g1 : v2 1 = v 1 := hag 1 (by decide)
                    have b0 : ((2147483648 : Nat) : Int) ≤ (v2 1) + 2147483648 ∧ (v2 1) + 2147483648 ≤ ((2147484548 : Nat) : Int) := xXb hBd 0 rfl
                    have b1 : ((2147483648 : Nat) : Int) ≤ (v2 2) + 2147483648 ∧ (v2 2) + 2147483648 ≤ ((2147484548 : Nat) : Int) := xXb hBd 1 rfl
                    have k0 : xE (zyEl zymx B H) 74 38 = v 1 := xKcf hKc 0 rfl rfl
                    have f0 : (0 : Int) ≤ 42 ∧ xE (zyEl zymx B H) 74 42 = (v2 2) := xXf hF 0 rfl
                    have f1 : (v2 2) ≤ (v2 1) := xXf hF 1 rfl
                    have m0 : xE (zyEl zymx B H2) 74 38 = (v2 1) := xXm hM 0 rfl
                    have e74_39 : xE (zyEl zymx B H2) 74 39 = xE (zyEl zymx B H) 74 39 := xFr_E hfr rfl
                    have e74_40 : xE (zyEl zymx B H2) 74 40 = xE (zyEl zymx B H) 74 40 := xFr_E hfr rfl
                    have e74_41 : xE (zyEl zymx B H2) 74 41 = xE (zyEl zymx B H) 74 41 := xFr_E hfr rfl
                    have e74_42 : xE (zyEl zymx B H2) 74 42 = xE (zyEl zymx B H) 74 42 := xFr_E hfr rfl
                    have q74_42 : xE (zyEl zymx B H) 74 42 = xE (zyEl zymx B s.heap) 74 42 := xFr_E hFr0 rfl
                    have e84 : ∀ i, xE (zyEl zymx B H2) 84 i = xE (zyEl zymx B H) 84 i := fun i => xFr_E hfr rfl
                    have q84 : ∀ i, xE (zyEl zymx B H) 84 i = xE (zyEl zymx B s.heap) 84 i := fun i => xFr_E hFr0 rfl
                    have y74_42 : ((2147483648 : Nat) : Int) ≤ xE (zyEl zymx B s.heap) 74 42 + 2147483648 ∧ xE (zyEl zymx B s.heap) 74 42 + 2147483648 ≤ ((2147484548 : Nat) : Int) := xTyF hT0 74 42 42 rfl rfl rfl rfl rfl rfl
                    have hI : xE (zyEl zymx B H) 74 38 ≤ (xE (zyEl zymx B s.heap) 74 42) ∧ tFr (xE (zyEl zymx B s.heap) 84) (xE (zyEl zymx B s.heap) 74 42) (xE (zyEl zymx B H) 74 38) = tFr (xE (zyEl zymx B s.heap) 84) (xE (zyEl zymx B s.heap) 74 42) (xE (zyEl zymx B s.heap) 74 39) := hInv
                    obtain ⟨i1, i2⟩ := hI
                    have z74_38 : ((2147483648 : Nat) : Int) ≤ xE (zyEl zymx B H2) 74 38 + 2147483648 ∧ xE (zyEl zymx B H2) 74 38 + 2147483648 ≤ ((2147484548 : Nat) : Int) := xTyF hT2 74 38 38 rfl rfl rfl rfl rfl rfl
                    refine xGo hIH hAt hB hv hFr ⟨3, by decide⟩ [0] [0, xE (zyEl zymx B H2) 74 38] rfl ⟨by decide +kernel, ⟨rfl, by decide +kernel⟩, (xcs_c rfl xcs_n), (xe_0 (xe_c (by omega) (by omega) rfl xe_n)), (xkq_c hT2 74 38 (q := 38) rfl rfl rfl rfl rfl rfl rfl rfl rfl rfl rfl xkq_n)⟩ xst_n ?_ ?_
                    · show xE (zyEl zymx B H2) 74 38 ≤ (xE (zyEl zymx B s.heap) 74 42) ∧ xE (zyEl zymx B H2) 74 38 = tFr (xE (zyEl zymx B s.heap) 84) (xE (zyEl zymx B s.heap) 74 42) (xE (zyEl zymx B s.heap) 74 39)
                      rw [show xE (zyEl zymx B H2) 74 38 = xE (zyEl zymx B H) 74 38 by omega]
                      exact ⟨by omega, (tFr_e (by omega)).symm.trans i2⟩
                    · show 5500 < 6000 + (1000 - xE (zyEl zymx B H) 74 38).toNat
                      omega
    · have hx : x ∈ [zxfrd_cx0, zxfrd_cx1, zxfrd_cx2, zxfrd_cx3, zxfrd_cx4, zxfrd_cx5, zxfrd_cx6, zxfrd_cx7] := hx
      have hag : ∀ k, k < 2 → v2 k = v k := hag
      have hfr : xFr [(74, 39, 40)] _ _ := hfr
      rcases List.mem_cons.mp hx with ex | hx
      · subst ex
        obtain ⟨hF, hBd, hM⟩ := hXs
        have g1 : v2 1 = v 1 := hag 1 (by decide)
        have b0 : ((2147483648 : Nat) : Int) ≤ (v2 1) + 2147483648 ∧ (v2 1) + 2147483648 ≤ ((2147484547 : Nat) : Int) := xXb hBd 0 rfl
        have b1 : ((2147483649 : Nat) : Int) ≤ (v2 2) + 2147483648 ∧ (v2 2) + 2147483648 ≤ ((2147484548 : Nat) : Int) := xXb hBd 1 rfl
        have b2 : ((2147483708 : Nat) : Int) ≤ (v2 3) + 2147483648 ∧ (v2 3) + 2147483648 ≤ ((2147483775 : Nat) : Int) := xXb hBd 2 rfl
        have b3 : ((2147483694 : Nat) : Int) ≤ (v2 4) + 2147483648 ∧ (v2 4) + 2147483648 ≤ ((2147483775 : Nat) : Int) := xXb hBd 3 rfl
        have k0 : xE (zyEl zymx B H) 74 38 = v 1 := xKcf hKc 0 rfl rfl
        have f0 : (0 : Int) ≤ 42 ∧ xE (zyEl zymx B H) 74 42 = (v2 2) := xXf hF 0 rfl
        have f1 : (v2 1) < (v2 2) := xXf hF 1 rfl
        have f2 : (0 : Int) ≤ (v2 1) ∧ xE (zyEl zymx B H) 84 (v2 1) = (v2 3) := xXf hF 2 rfl
        have f3 : ¬ (v2 3) = 59 := xXf hF 3 rfl
        have f4 : (0 : Int) ≤ (v2 1) ∧ xE (zyEl zymx B H) 84 (v2 1) = (v2 4) := xXf hF 4 rfl
        have f5 : ¬ (v2 4) = 45 := xXf hF 5 rfl
        have m0 : xE (zyEl zymx B H2) 74 38 = (v2 1) := xXm hM 0 rfl
        have m1 : xE (zyEl zymx B H2) 74 39 = (v2 1 + 1) := xXm hM 1 rfl
        have m2 : xE (zyEl zymx B H2) 74 40 = 4 := xXm hM 2 rfl
        have e74_38 : xE (zyEl zymx B H2) 74 38 = xE (zyEl zymx B H) 74 38 := xFr_E hfr rfl
        have e74_41 : xE (zyEl zymx B H2) 74 41 = xE (zyEl zymx B H) 74 41 := xFr_E hfr rfl
        have e74_42 : xE (zyEl zymx B H2) 74 42 = xE (zyEl zymx B H) 74 42 := xFr_E hfr rfl
        have q74_42 : xE (zyEl zymx B H) 74 42 = xE (zyEl zymx B s.heap) 74 42 := xFr_E hFr0 rfl
        have e84 : ∀ i, xE (zyEl zymx B H2) 84 i = xE (zyEl zymx B H) 84 i := fun i => xFr_E hfr rfl
        have q84 : ∀ i, xE (zyEl zymx B H) 84 i = xE (zyEl zymx B s.heap) 84 i := fun i => xFr_E hFr0 rfl
        have y74_42 : ((2147483648 : Nat) : Int) ≤ xE (zyEl zymx B s.heap) 74 42 + 2147483648 ∧ xE (zyEl zymx B s.heap) 74 42 + 2147483648 ≤ ((2147484548 : Nat) : Int) := xTyF hT0 74 42 42 rfl rfl rfl rfl rfl rfl
        have hI : xE (zyEl zymx B H) 74 38 ≤ (xE (zyEl zymx B s.heap) 74 42) ∧ xE (zyEl zymx B H) 74 38 = tFr (xE (zyEl zymx B s.heap) 84) (xE (zyEl zymx B s.heap) 74 42) (xE (zyEl zymx B s.heap) 74 39) := hInv
        obtain ⟨i1, i2⟩ := hI
        have t2 : xE (zyEl zymx B s.heap) 84 (xE (zyEl zymx B H) 74 38) = (v2 3) := by rw [← q84, show xE (zyEl zymx B H) 74 38 = (v2 1) by omega]; exact f2.2
        have t4 : xE (zyEl zymx B s.heap) 84 (xE (zyEl zymx B H) 74 38) = (v2 4) := by rw [← q84, show xE (zyEl zymx B H) 74 38 = (v2 1) by omega]; exact f4.2
        rw [i2] at t2 t4
        have z74_38 : ((2147483648 : Nat) : Int) ≤ xE (zyEl zymx B H2) 74 38 + 2147483648 ∧ xE (zyEl zymx B H2) 74 38 + 2147483648 ≤ ((2147484548 : Nat) : Int) := xTyF hT2 74 38 38 rfl rfl rfl rfl rfl rfl
        have z74_39 : ((2147483648 : Nat) : Int) ≤ xE (zyEl zymx B H2) 74 39 + 2147483648 ∧ xE (zyEl zymx B H2) 74 39 + 2147483648 ≤ ((2147484549 : Nat) : Int) := xTyF hT2 74 39 39 rfl rfl rfl rfl rfl rfl
        have z74_40 : ((2147483648 : Nat) : Int) ≤ xE (zyEl zymx B H2) 74 40 + 2147483648 ∧ xE (zyEl zymx B H2) 74 40 + 2147483648 ≤ ((2147483652 : Nat) : Int) := xTyF hT2 74 40 40 rfl rfl rfl rfl rfl rfl
        refine xGo hIH hAt hB hv hFr ⟨4, by decide⟩ [0] [0, xE (zyEl zymx B H2) 74 38, xE (zyEl zymx B H2) 74 39, xE (zyEl zymx B H2) 74 40] rfl ⟨by decide +kernel, ⟨rfl, by decide +kernel⟩, (xcs_c rfl xcs_n), (xe_0 (xe_c (by omega) (by omega) rfl (xe_c (by omega) (by omega) rfl (xe_c (by omega) (by omega) rfl xe_n)))), (xkq_c hT2 74 38 (q := 38) rfl rfl rfl rfl rfl rfl rfl rfl rfl rfl rfl (xkq_c hT2 74 39 (q := 39) rfl rfl rfl rfl rfl rfl rfl rfl rfl rfl rfl (xkq_c hT2 74 40 (q := 40) rfl rfl rfl rfl rfl rfl rfl rfl rfl rfl rfl xkq_n)))⟩ xst_n ?_ ?_
        · show xE (zyEl zymx B H2) 74 38 ≤ (xE (zyEl zymx B s.heap) 74 42) ∧ xE (zyEl zymx B H2) 74 38 = tFr (xE (zyEl zymx B s.heap) 84) (xE (zyEl zymx B s.heap) 74 42) (xE (zyEl zymx B s.heap) 74 39) ∧ xE (zyEl zymx B H2) 74 39 = tFr (xE (zyEl zymx B s.heap) 84) (xE (zyEl zymx B s.heap) 74 42) (xE (zyEl zymx B s.heap) 74 39) + 1 ∧ xE (zyEl zymx B H2) 74 40 = rK0 (xE (zyEl zymx B s.heap) 84) (xE (zyEl zymx B s.heap) 74 42) (tFr (xE (zyEl zymx B s.heap) 84) (xE (zyEl zymx B s.heap) 74 42) (xE (zyEl zymx B s.heap) 74 39))
          exact ⟨by omega, by omega, by omega, by rw [rK0_4 (by omega) (by omega)]; omega⟩
        · show 5000 < 5500
          omega
      · skip
        rcases List.mem_cons.mp hx with ex | hx
        · subst ex
          obtain ⟨hF, hBd, hM⟩ := hXs
          have g1 : v2 1 = v 1 := hag 1 (by decide)
          have b0 : ((2147483648 : Nat) : Int) ≤ (v2 1) + 2147483648 ∧ (v2 1) + 2147483648 ≤ ((2147484547 : Nat) : Int) := xXb hBd 0 rfl
          have b1 : ((2147483649 : Nat) : Int) ≤ (v2 2) + 2147483648 ∧ (v2 2) + 2147483648 ≤ ((2147484548 : Nat) : Int) := xXb hBd 1 rfl
          have b2 : ((2147483708 : Nat) : Int) ≤ (v2 3) + 2147483648 ∧ (v2 3) + 2147483648 ≤ ((2147483775 : Nat) : Int) := xXb hBd 2 rfl
          have b3 : ((2147483520 : Nat) : Int) ≤ (v2 4) + 2147483648 ∧ (v2 4) + 2147483648 ≤ ((2147483692 : Nat) : Int) := xXb hBd 3 rfl
          have k0 : xE (zyEl zymx B H) 74 38 = v 1 := xKcf hKc 0 rfl rfl
          have f0 : (0 : Int) ≤ 42 ∧ xE (zyEl zymx B H) 74 42 = (v2 2) := xXf hF 0 rfl
          have f1 : (v2 1) < (v2 2) := xXf hF 1 rfl
          have f2 : (0 : Int) ≤ (v2 1) ∧ xE (zyEl zymx B H) 84 (v2 1) = (v2 3) := xXf hF 2 rfl
          have f3 : ¬ (v2 3) = 59 := xXf hF 3 rfl
          have f4 : (0 : Int) ≤ (v2 1) ∧ xE (zyEl zymx B H) 84 (v2 1) = (v2 4) := xXf hF 4 rfl
          have f5 : ¬ (v2 4) = 45 := xXf hF 5 rfl
          have m0 : xE (zyEl zymx B H2) 74 38 = (v2 1) := xXm hM 0 rfl
          have m1 : xE (zyEl zymx B H2) 74 39 = (v2 1 + 1) := xXm hM 1 rfl
          have m2 : xE (zyEl zymx B H2) 74 40 = 4 := xXm hM 2 rfl
          have e74_38 : xE (zyEl zymx B H2) 74 38 = xE (zyEl zymx B H) 74 38 := xFr_E hfr rfl
          have e74_41 : xE (zyEl zymx B H2) 74 41 = xE (zyEl zymx B H) 74 41 := xFr_E hfr rfl
          have e74_42 : xE (zyEl zymx B H2) 74 42 = xE (zyEl zymx B H) 74 42 := xFr_E hfr rfl
          have q74_42 : xE (zyEl zymx B H) 74 42 = xE (zyEl zymx B s.heap) 74 42 := xFr_E hFr0 rfl
          have e84 : ∀ i, xE (zyEl zymx B H2) 84 i = xE (zyEl zymx B H) 84 i := fun i => xFr_E hfr rfl
          have q84 : ∀ i, xE (zyEl zymx B H) 84 i = xE (zyEl zymx B s.heap) 84 i := fun i => xFr_E hFr0 rfl
          have y74_42 : ((2147483648 : Nat) : Int) ≤ xE (zyEl zymx B s.heap) 74 42 + 2147483648 ∧ xE (zyEl zymx B s.heap) 74 42 + 2147483648 ≤ ((2147484548 : Nat) : Int) := xTyF hT0 74 42 42 rfl rfl rfl rfl rfl rfl
          have hI : xE (zyEl zymx B H) 74 38 ≤ (xE (zyEl zymx B s.heap) 74 42) ∧ xE (zyEl zymx B H) 74 38 = tFr (xE (zyEl zymx B s.heap) 84) (xE (zyEl zymx B s.heap) 74 42) (xE (zyEl zymx B s.heap) 74 39) := hInv
          obtain ⟨i1, i2⟩ := hI
          have t2 : xE (zyEl zymx B s.heap) 84 (xE (zyEl zymx B H) 74 38) = (v2 3) := by rw [← q84, show xE (zyEl zymx B H) 74 38 = (v2 1) by omega]; exact f2.2
          have t4 : xE (zyEl zymx B s.heap) 84 (xE (zyEl zymx B H) 74 38) = (v2 4) := by rw [← q84, show xE (zyEl zymx B H) 74 38 = (v2 1) by omega]; exact f4.2
          rw [i2] at t2 t4
          have z74_38 : ((2147483648 : Nat) : Int) ≤ xE (zyEl zymx B H2) 74 38 + 2147483648 ∧ xE (zyEl zymx B H2) 74 38 + 2147483648 ≤ ((2147484548 : Nat) : Int) := xTyF hT2 74 38 38 rfl rfl rfl rfl rfl rfl
          have z74_39 : ((2147483648 : Nat) : Int) ≤ xE (zyEl zymx B H2) 74 39 + 2147483648 ∧ xE (zyEl zymx B H2) 74 39 + 2147483648 ≤ ((2147484549 : Nat) : Int) := xTyF hT2 74 39 39 rfl rfl rfl rfl rfl rfl
          have z74_40 : ((2147483648 : Nat) : Int) ≤ xE (zyEl zymx B H2) 74 40 + 2147483648 ∧ xE (zyEl zymx B H2) 74 40 + 2147483648 ≤ ((2147483652 : Nat) : Int) := xTyF hT2 74 40 40 rfl rfl rfl rfl rfl rfl
          refine xGo hIH hAt hB hv hFr ⟨4, by decide⟩ [0] [0, xE (zyEl zymx B H2) 74 38, xE (zyEl zymx B H2) 74 39, xE (zyEl zymx B H2) 74 40] rfl ⟨by decide +kernel, ⟨rfl, by decide +kernel⟩, (xcs_c rfl xcs_n), (xe_0 (xe_c (by omega) (by omega) rfl (xe_c (by omega) (by omega) rfl (xe_c (by omega) (by omega) rfl xe_n)))), (xkq_c hT2 74 38 (q := 38) rfl rfl rfl rfl rfl rfl rfl rfl rfl rfl rfl (xkq_c hT2 74 39 (q := 39) rfl rfl rfl rfl rfl rfl rfl rfl rfl rfl rfl (xkq_c hT2 74 40 (q := 40) rfl rfl rfl rfl rfl rfl rfl rfl rfl rfl rfl xkq_n)))⟩ xst_n ?_ ?_
          · show xE (zyEl zymx B H2) 74 38 ≤ (xE (zyEl zymx B s.heap) 74 42) ∧ xE (zyEl zymx B H2) 74 38 = tFr (xE (zyEl zymx B s.heap) 84) (xE (zyEl zymx B s.heap) 74 42) (xE (zyEl zymx B s.heap) 74 39) ∧ xE (zyEl zymx B H2) 74 39 = tFr (xE (zyEl zymx B s.heap) 84) (xE (zyEl zymx B s.heap) 74 42) (xE (zyEl zymx B s.heap) 74 39) + 1 ∧ xE (zyEl zymx B H2) 74 40 = rK0 (xE (zyEl zymx B s.heap) 84) (xE (zyEl zymx B s.heap) 74 42) (tFr (xE (zyEl zymx B s.heap) 84) (xE (zyEl zymx B s.heap) 74 42) (xE (zyEl zymx B s.heap) 74 39))
            exact ⟨by omega, by omega, by omega, by rw [rK0_4 (by omega) (by omega)]; omega⟩
          · show 5000 < 5500
            omega
        · skip
          rcases List.mem_cons.mp hx with ex | hx
          · subst ex
            obtain ⟨hF, hBd, hM⟩ := hXs
            have g1 : v2 1 = v 1 := hag 1 (by decide)
            have b0 : ((2147483648 : Nat) : Int) ≤ (v2 1) + 2147483648 ∧ (v2 1) + 2147483648 ≤ ((2147484547 : Nat) : Int) := xXb hBd 0 rfl
            have b1 : ((2147483649 : Nat) : Int) ≤ (v2 2) + 2147483648 ∧ (v2 2) + 2147483648 ≤ ((2147484548 : Nat) : Int) := xXb hBd 1 rfl
            have b2 : ((2147483708 : Nat) : Int) ≤ (v2 3) + 2147483648 ∧ (v2 3) + 2147483648 ≤ ((2147483775 : Nat) : Int) := xXb hBd 2 rfl
            have b3 : ((2147483693 : Nat) : Int) ≤ (v2 4) + 2147483648 ∧ (v2 4) + 2147483648 ≤ ((2147483693 : Nat) : Int) := xXb hBd 3 rfl
            have k0 : xE (zyEl zymx B H) 74 38 = v 1 := xKcf hKc 0 rfl rfl
            have f0 : (0 : Int) ≤ 42 ∧ xE (zyEl zymx B H) 74 42 = (v2 2) := xXf hF 0 rfl
            have f1 : (v2 1) < (v2 2) := xXf hF 1 rfl
            have f2 : (0 : Int) ≤ (v2 1) ∧ xE (zyEl zymx B H) 84 (v2 1) = (v2 3) := xXf hF 2 rfl
            have f3 : ¬ (v2 3) = 59 := xXf hF 3 rfl
            have f4 : (0 : Int) ≤ (v2 1) ∧ xE (zyEl zymx B H) 84 (v2 1) = (v2 4) := xXf hF 4 rfl
            have f5 : (v2 4) = 45 := xXf hF 5 rfl
            have m0 : xE (zyEl zymx B H2) 74 38 = (v2 1) := xXm hM 0 rfl
            have m1 : xE (zyEl zymx B H2) 74 39 = (v2 1 + 1) := xXm hM 1 rfl
            have m2 : xE (zyEl zymx B H2) 74 40 = 3 := xXm hM 2 rfl
            have e74_38 : xE (zyEl zymx B H2) 74 38 = xE (zyEl zymx B H) 74 38 := xFr_E hfr rfl
            have e74_41 : xE (zyEl zymx B H2) 74 41 = xE (zyEl zymx B H) 74 41 := xFr_E hfr rfl
            have e74_42 : xE (zyEl zymx B H2) 74 42 = xE (zyEl zymx B H) 74 42 := xFr_E hfr rfl
            have q74_42 : xE (zyEl zymx B H) 74 42 = xE (zyEl zymx B s.heap) 74 42 := xFr_E hFr0 rfl
            have e84 : ∀ i, xE (zyEl zymx B H2) 84 i = xE (zyEl zymx B H) 84 i := fun i => xFr_E hfr rfl
            have q84 : ∀ i, xE (zyEl zymx B H) 84 i = xE (zyEl zymx B s.heap) 84 i := fun i => xFr_E hFr0 rfl
            have y74_42 : ((2147483648 : Nat) : Int) ≤ xE (zyEl zymx B s.heap) 74 42 + 2147483648 ∧ xE (zyEl zymx B s.heap) 74 42 + 2147483648 ≤ ((2147484548 : Nat) : Int) := xTyF hT0 74 42 42 rfl rfl rfl rfl rfl rfl
            have hI : xE (zyEl zymx B H) 74 38 ≤ (xE (zyEl zymx B s.heap) 74 42) ∧ xE (zyEl zymx B H) 74 38 = tFr (xE (zyEl zymx B s.heap) 84) (xE (zyEl zymx B s.heap) 74 42) (xE (zyEl zymx B s.heap) 74 39) := hInv
            obtain ⟨i1, i2⟩ := hI
            have t2 : xE (zyEl zymx B s.heap) 84 (xE (zyEl zymx B H) 74 38) = (v2 3) := by rw [← q84, show xE (zyEl zymx B H) 74 38 = (v2 1) by omega]; exact f2.2
            have t4 : xE (zyEl zymx B s.heap) 84 (xE (zyEl zymx B H) 74 38) = (v2 4) := by rw [← q84, show xE (zyEl zymx B H) 74 38 = (v2 1) by omega]; exact f4.2
            rw [i2] at t2 t4
            have z74_38 : ((2147483648 : Nat) : Int) ≤ xE (zyEl zymx B H2) 74 38 + 2147483648 ∧ xE (zyEl zymx B H2) 74 38 + 2147483648 ≤ ((2147484548 : Nat) : Int) := xTyF hT2 74 38 38 rfl rfl rfl rfl rfl rfl
            have z74_39 : ((2147483648 : Nat) : Int) ≤ xE (zyEl zymx B H2) 74 39 + 2147483648 ∧ xE (zyEl zymx B H2) 74 39 + 2147483648 ≤ ((2147484549 : Nat) : Int) := xTyF hT2 74 39 39 rfl rfl rfl rfl rfl rfl
            have z74_40 : ((2147483648 : Nat) : Int) ≤ xE (zyEl zymx B H2) 74 40 + 2147483648 ∧ xE (zyEl zymx B H2) 74 40 + 2147483648 ≤ ((2147483652 : Nat) : Int) := xTyF hT2 74 40 40 rfl rfl rfl rfl rfl rfl
            refine xGo hIH hAt hB hv hFr ⟨4, by decide⟩ [0] [0, xE (zyEl zymx B H2) 74 38, xE (zyEl zymx B H2) 74 39, xE (zyEl zymx B H2) 74 40] rfl ⟨by decide +kernel, ⟨rfl, by decide +kernel⟩, (xcs_c rfl xcs_n), (xe_0 (xe_c (by omega) (by omega) rfl (xe_c (by omega) (by omega) rfl (xe_c (by omega) (by omega) rfl xe_n)))), (xkq_c hT2 74 38 (q := 38) rfl rfl rfl rfl rfl rfl rfl rfl rfl rfl rfl (xkq_c hT2 74 39 (q := 39) rfl rfl rfl rfl rfl rfl rfl rfl rfl rfl rfl (xkq_c hT2 74 40 (q := 40) rfl rfl rfl rfl rfl rfl rfl rfl rfl rfl rfl xkq_n)))⟩ xst_n ?_ ?_
            · show xE (zyEl zymx B H2) 74 38 ≤ (xE (zyEl zymx B s.heap) 74 42) ∧ xE (zyEl zymx B H2) 74 38 = tFr (xE (zyEl zymx B s.heap) 84) (xE (zyEl zymx B s.heap) 74 42) (xE (zyEl zymx B s.heap) 74 39) ∧ xE (zyEl zymx B H2) 74 39 = tFr (xE (zyEl zymx B s.heap) 84) (xE (zyEl zymx B s.heap) 74 42) (xE (zyEl zymx B s.heap) 74 39) + 1 ∧ xE (zyEl zymx B H2) 74 40 = rK0 (xE (zyEl zymx B s.heap) 84) (xE (zyEl zymx B s.heap) 74 42) (tFr (xE (zyEl zymx B s.heap) 84) (xE (zyEl zymx B s.heap) 74 42) (xE (zyEl zymx B s.heap) 74 39))
              exact ⟨by omega, by omega, by omega, by rw [rK0_3 (by omega) (by omega)]; omega⟩
            · show 5000 < 5500
              omega
          · skip
            rcases List.mem_cons.mp hx with ex | hx
            · subst ex
              obtain ⟨hF, hBd, hM⟩ := hXs
              have g1 : v2 1 = v 1 := hag 1 (by decide)
              have b0 : ((2147483648 : Nat) : Int) ≤ (v2 1) + 2147483648 ∧ (v2 1) + 2147483648 ≤ ((2147484547 : Nat) : Int) := xXb hBd 0 rfl
              have b1 : ((2147483649 : Nat) : Int) ≤ (v2 2) + 2147483648 ∧ (v2 2) + 2147483648 ≤ ((2147484548 : Nat) : Int) := xXb hBd 1 rfl
              have b2 : ((2147483520 : Nat) : Int) ≤ (v2 3) + 2147483648 ∧ (v2 3) + 2147483648 ≤ ((2147483706 : Nat) : Int) := xXb hBd 2 rfl
              have b3 : ((2147483694 : Nat) : Int) ≤ (v2 4) + 2147483648 ∧ (v2 4) + 2147483648 ≤ ((2147483775 : Nat) : Int) := xXb hBd 3 rfl
              have k0 : xE (zyEl zymx B H) 74 38 = v 1 := xKcf hKc 0 rfl rfl
              have f0 : (0 : Int) ≤ 42 ∧ xE (zyEl zymx B H) 74 42 = (v2 2) := xXf hF 0 rfl
              have f1 : (v2 1) < (v2 2) := xXf hF 1 rfl
              have f2 : (0 : Int) ≤ (v2 1) ∧ xE (zyEl zymx B H) 84 (v2 1) = (v2 3) := xXf hF 2 rfl
              have f3 : ¬ (v2 3) = 59 := xXf hF 3 rfl
              have f4 : (0 : Int) ≤ (v2 1) ∧ xE (zyEl zymx B H) 84 (v2 1) = (v2 4) := xXf hF 4 rfl
              have f5 : ¬ (v2 4) = 45 := xXf hF 5 rfl
              have m0 : xE (zyEl zymx B H2) 74 38 = (v2 1) := xXm hM 0 rfl
              have m1 : xE (zyEl zymx B H2) 74 39 = (v2 1 + 1) := xXm hM 1 rfl
              have m2 : xE (zyEl zymx B H2) 74 40 = 4 := xXm hM 2 rfl
              have e74_38 : xE (zyEl zymx B H2) 74 38 = xE (zyEl zymx B H) 74 38 := xFr_E hfr rfl
              have e74_41 : xE (zyEl zymx B H2) 74 41 = xE (zyEl zymx B H) 74 41 := xFr_E hfr rfl
              have e74_42 : xE (zyEl zymx B H2) 74 42 = xE (zyEl zymx B H) 74 42 := xFr_E hfr rfl
              have q74_42 : xE (zyEl zymx B H) 74 42 = xE (zyEl zymx B s.heap) 74 42 := xFr_E hFr0 rfl
              have e84 : ∀ i, xE (zyEl zymx B H2) 84 i = xE (zyEl zymx B H) 84 i := fun i => xFr_E hfr rfl
              have q84 : ∀ i, xE (zyEl zymx B H) 84 i = xE (zyEl zymx B s.heap) 84 i := fun i => xFr_E hFr0 rfl
              have y74_42 : ((2147483648 : Nat) : Int) ≤ xE (zyEl zymx B s.heap) 74 42 + 2147483648 ∧ xE (zyEl zymx B s.heap) 74 42 + 2147483648 ≤ ((2147484548 : Nat) : Int) := xTyF hT0 74 42 42 rfl rfl rfl rfl rfl rfl
              have hI : xE (zyEl zymx B H) 74 38 ≤ (xE (zyEl zymx B s.heap) 74 42) ∧ xE (zyEl zymx B H) 74 38 = tFr (xE (zyEl zymx B s.heap) 84) (xE (zyEl zymx B s.heap) 74 42) (xE (zyEl zymx B s.heap) 74 39) := hInv
              obtain ⟨i1, i2⟩ := hI
              have t2 : xE (zyEl zymx B s.heap) 84 (xE (zyEl zymx B H) 74 38) = (v2 3) := by rw [← q84, show xE (zyEl zymx B H) 74 38 = (v2 1) by omega]; exact f2.2
              have t4 : xE (zyEl zymx B s.heap) 84 (xE (zyEl zymx B H) 74 38) = (v2 4) := by rw [← q84, show xE (zyEl zymx B H) 74 38 = (v2 1) by omega]; exact f4.2
              rw [i2] at t2 t4
              have z74_38 : ((2147483648 : Nat) : Int) ≤ xE (zyEl zymx B H2) 74 38 + 2147483648 ∧ xE (zyEl zymx B H2) 74 38 + 2147483648 ≤ ((2147484548 : Nat) : Int) := xTyF hT2 74 38 38 rfl rfl rfl rfl rfl rfl
              have z74_39 : ((2147483648 : Nat) : Int) ≤ xE (zyEl zymx B H2) 74 39 + 2147483648 ∧ xE (zyEl zymx B H2) 74 39 + 2147483648 ≤ ((2147484549 : Nat) : Int) := xTyF hT2 74 39 39 rfl rfl rfl rfl rfl rfl
              have z74_40 : ((2147483648 : Nat) : Int) ≤ xE (zyEl zymx B H2) 74 40 + 2147483648 ∧ xE (zyEl zymx B H2) 74 40 + 2147483648 ≤ ((2147483652 : Nat) : Int) := xTyF hT2 74 40 40 rfl rfl rfl rfl rfl rfl
              refine xGo hIH hAt hB hv hFr ⟨4, by decide⟩ [0] [0, xE (zyEl zymx B H2) 74 38, xE (zyEl zymx B H2) 74 39, xE (zyEl zymx B H2) 74 40] rfl ⟨by decide +kernel, ⟨rfl, by decide +kernel⟩, (xcs_c rfl xcs_n), (xe_0 (xe_c (by omega) (by omega) rfl (xe_c (by omega) (by omega) rfl (xe_c (by omega) (by omega) rfl xe_n)))), (xkq_c hT2 74 38 (q := 38) rfl rfl rfl rfl rfl rfl rfl rfl rfl rfl rfl (xkq_c hT2 74 39 (q := 39) rfl rfl rfl rfl rfl rfl rfl rfl rfl rfl rfl (xkq_c hT2 74 40 (q := 40) rfl rfl rfl rfl rfl rfl rfl rfl rfl rfl rfl xkq_n)))⟩ xst_n ?_ ?_
              · show xE (zyEl zymx B H2) 74 38 ≤ (xE (zyEl zymx B s.heap) 74 42) ∧ xE (zyEl zymx B H2) 74 38 = tFr (xE (zyEl zymx B s.heap) 84) (xE (zyEl zymx B s.heap) 74 42) (xE (zyEl zymx B s.heap) 74 39) ∧ xE (zyEl zymx B H2) 74 39 = tFr (xE (zyEl zymx B s.heap) 84) (xE (zyEl zymx B s.heap) 74 42) (xE (zyEl zymx B s.heap) 74 39) + 1 ∧ xE (zyEl zymx B H2) 74 40 = rK0 (xE (zyEl zymx B s.heap) 84) (xE (zyEl zymx B s.heap) 74 42) (tFr (xE (zyEl zymx B s.heap) 84) (xE (zyEl zymx B s.heap) 74 42) (xE (zyEl zymx B s.heap) 74 39))
                exact ⟨by omega, by omega, by omega, by rw [rK0_4 (by omega) (by omega)]; omega⟩
              · show 5000 < 5500
                omega
            · skip
              rcases List.mem_cons.mp hx with ex | hx
              · subst ex
                obtain ⟨hF, hBd, hM⟩ := hXs
                have g1 : v2 1 = v 1 := hag 1 (by decide)
                have b0 : ((2147483648 : Nat) : Int) ≤ (v2 1) + 2147483648 ∧ (v2 1) + 2147483648 ≤ ((2147484547 : Nat) : Int) := xXb hBd 0 rfl
                have b1 : ((2147483649 : Nat) : Int) ≤ (v2 2) + 2147483648 ∧ (v2 2) + 2147483648 ≤ ((2147484548 : Nat) : Int) := xXb hBd 1 rfl
                have b2 : ((2147483520 : Nat) : Int) ≤ (v2 3) + 2147483648 ∧ (v2 3) + 2147483648 ≤ ((2147483706 : Nat) : Int) := xXb hBd 2 rfl
                have b3 : ((2147483520 : Nat) : Int) ≤ (v2 4) + 2147483648 ∧ (v2 4) + 2147483648 ≤ ((2147483692 : Nat) : Int) := xXb hBd 3 rfl
                have k0 : xE (zyEl zymx B H) 74 38 = v 1 := xKcf hKc 0 rfl rfl
                have f0 : (0 : Int) ≤ 42 ∧ xE (zyEl zymx B H) 74 42 = (v2 2) := xXf hF 0 rfl
                have f1 : (v2 1) < (v2 2) := xXf hF 1 rfl
                have f2 : (0 : Int) ≤ (v2 1) ∧ xE (zyEl zymx B H) 84 (v2 1) = (v2 3) := xXf hF 2 rfl
                have f3 : ¬ (v2 3) = 59 := xXf hF 3 rfl
                have f4 : (0 : Int) ≤ (v2 1) ∧ xE (zyEl zymx B H) 84 (v2 1) = (v2 4) := xXf hF 4 rfl
                have f5 : ¬ (v2 4) = 45 := xXf hF 5 rfl
                have m0 : xE (zyEl zymx B H2) 74 38 = (v2 1) := xXm hM 0 rfl
                have m1 : xE (zyEl zymx B H2) 74 39 = (v2 1 + 1) := xXm hM 1 rfl
                have m2 : xE (zyEl zymx B H2) 74 40 = 4 := xXm hM 2 rfl
                have e74_38 : xE (zyEl zymx B H2) 74 38 = xE (zyEl zymx B H) 74 38 := xFr_E hfr rfl
                have e74_41 : xE (zyEl zymx B H2) 74 41 = xE (zyEl zymx B H) 74 41 := xFr_E hfr rfl
                have e74_42 : xE (zyEl zymx B H2) 74 42 = xE (zyEl zymx B H) 74 42 := xFr_E hfr rfl
                have q74_42 : xE (zyEl zymx B H) 74 42 = xE (zyEl zymx B s.heap) 74 42 := xFr_E hFr0 rfl
                have e84 : ∀ i, xE (zyEl zymx B H2) 84 i = xE (zyEl zymx B H) 84 i := fun i => xFr_E hfr rfl
                have q84 : ∀ i, xE (zyEl zymx B H) 84 i = xE (zyEl zymx B s.heap) 84 i := fun i => xFr_E hFr0 rfl
                have y74_42 : ((2147483648 : Nat) : Int) ≤ xE (zyEl zymx B s.heap) 74 42 + 2147483648 ∧ xE (zyEl zymx B s.heap) 74 42 + 2147483648 ≤ ((2147484548 : Nat) : Int) := xTyF hT0 74 42 42 rfl rfl rfl rfl rfl rfl
                have hI : xE (zyEl zymx B H) 74 38 ≤ (xE (zyEl zymx B s.heap) 74 42) ∧ xE (zyEl zymx B H) 74 38 = tFr (xE (zyEl zymx B s.heap) 84) (xE (zyEl zymx B s.heap) 74 42) (xE (zyEl zymx B s.heap) 74 39) := hInv
                obtain ⟨i1, i2⟩ := hI
                have t2 : xE (zyEl zymx B s.heap) 84 (xE (zyEl zymx B H) 74 38) = (v2 3) := by rw [← q84, show xE (zyEl zymx B H) 74 38 = (v2 1) by omega]; exact f2.2
                have t4 : xE (zyEl zymx B s.heap) 84 (xE (zyEl zymx B H) 74 38) = (v2 4) := by rw [← q84, show xE (zyEl zymx B H) 74 38 = (v2 1) by omega]; exact f4.2
                rw [i2] at t2 t4
                have z74_38 : ((2147483648 : Nat) : Int) ≤ xE (zyEl zymx B H2) 74 38 + 2147483648 ∧ xE (zyEl zymx B H2) 74 38 + 2147483648 ≤ ((2147484548 : Nat) : Int) := xTyF hT2 74 38 38 rfl rfl rfl rfl rfl rfl
                have z74_39 : ((2147483648 : Nat) : Int) ≤ xE (zyEl zymx B H2) 74 39 + 2147483648 ∧ xE (zyEl zymx B H2) 74 39 + 2147483648 ≤ ((2147484549 : Nat) : Int) := xTyF hT2 74 39 39 rfl rfl rfl rfl rfl rfl
                have z74_40 : ((2147483648 : Nat) : Int) ≤ xE (zyEl zymx B H2) 74 40 + 2147483648 ∧ xE (zyEl zymx B H2) 74 40 + 2147483648 ≤ ((2147483652 : Nat) : Int) := xTyF hT2 74 40 40 rfl rfl rfl rfl rfl rfl
                refine xGo hIH hAt hB hv hFr ⟨4, by decide⟩ [0] [0, xE (zyEl zymx B H2) 74 38, xE (zyEl zymx B H2) 74 39, xE (zyEl zymx B H2) 74 40] rfl ⟨by decide +kernel, ⟨rfl, by decide +kernel⟩, (xcs_c rfl xcs_n), (xe_0 (xe_c (by omega) (by omega) rfl (xe_c (by omega) (by omega) rfl (xe_c (by omega) (by omega) rfl xe_n)))), (xkq_c hT2 74 38 (q := 38) rfl rfl rfl rfl rfl rfl rfl rfl rfl rfl rfl (xkq_c hT2 74 39 (q := 39) rfl rfl rfl rfl rfl rfl rfl rfl rfl rfl rfl (xkq_c hT2 74 40 (q := 40) rfl rfl rfl rfl rfl rfl rfl rfl rfl rfl rfl xkq_n)))⟩ xst_n ?_ ?_
                · show xE (zyEl zymx B H2) 74 38 ≤ (xE (zyEl zymx B s.heap) 74 42) ∧ xE (zyEl zymx B H2) 74 38 = tFr (xE (zyEl zymx B s.heap) 84) (xE (zyEl zymx B s.heap) 74 42) (xE (zyEl zymx B s.heap) 74 39) ∧ xE (zyEl zymx B H2) 74 39 = tFr (xE (zyEl zymx B s.heap) 84) (xE (zyEl zymx B s.heap) 74 42) (xE (zyEl zymx B s.heap) 74 39) + 1 ∧ xE (zyEl zymx B H2) 74 40 = rK0 (xE (zyEl zymx B s.heap) 84) (xE (zyEl zymx B s.heap) 74 42) (tFr (xE (zyEl zymx B s.heap) 84) (xE (zyEl zymx B s.heap) 74 42) (xE (zyEl zymx B s.heap) 74 39))
                  exact ⟨by omega, by omega, by omega, by rw [rK0_4 (by omega) (by omega)]; omega⟩
                · show 5000 < 5500
                  omega
              · skip
                rcases List.mem_cons.mp hx with ex | hx
                · subst ex
                  obtain ⟨hF, hBd, hM⟩ := hXs
                  have g1 : v2 1 = v 1 := hag 1 (by decide)
                  have b0 : ((2147483648 : Nat) : Int) ≤ (v2 1) + 2147483648 ∧ (v2 1) + 2147483648 ≤ ((2147484547 : Nat) : Int) := xXb hBd 0 rfl
                  have b1 : ((2147483649 : Nat) : Int) ≤ (v2 2) + 2147483648 ∧ (v2 2) + 2147483648 ≤ ((2147484548 : Nat) : Int) := xXb hBd 1 rfl
                  have b2 : ((2147483520 : Nat) : Int) ≤ (v2 3) + 2147483648 ∧ (v2 3) + 2147483648 ≤ ((2147483706 : Nat) : Int) := xXb hBd 2 rfl
                  have b3 : ((2147483693 : Nat) : Int) ≤ (v2 4) + 2147483648 ∧ (v2 4) + 2147483648 ≤ ((2147483693 : Nat) : Int) := xXb hBd 3 rfl
                  have k0 : xE (zyEl zymx B H) 74 38 = v 1 := xKcf hKc 0 rfl rfl
                  have f0 : (0 : Int) ≤ 42 ∧ xE (zyEl zymx B H) 74 42 = (v2 2) := xXf hF 0 rfl
                  have f1 : (v2 1) < (v2 2) := xXf hF 1 rfl
                  have f2 : (0 : Int) ≤ (v2 1) ∧ xE (zyEl zymx B H) 84 (v2 1) = (v2 3) := xXf hF 2 rfl
                  have f3 : ¬ (v2 3) = 59 := xXf hF 3 rfl
                  have f4 : (0 : Int) ≤ (v2 1) ∧ xE (zyEl zymx B H) 84 (v2 1) = (v2 4) := xXf hF 4 rfl
                  have f5 : (v2 4) = 45 := xXf hF 5 rfl
                  have m0 : xE (zyEl zymx B H2) 74 38 = (v2 1) := xXm hM 0 rfl
                  have m1 : xE (zyEl zymx B H2) 74 39 = (v2 1 + 1) := xXm hM 1 rfl
                  have m2 : xE (zyEl zymx B H2) 74 40 = 3 := xXm hM 2 rfl
                  have e74_38 : xE (zyEl zymx B H2) 74 38 = xE (zyEl zymx B H) 74 38 := xFr_E hfr rfl
                  have e74_41 : xE (zyEl zymx B H2) 74 41 = xE (zyEl zymx B H) 74 41 := xFr_E hfr rfl
                  have e74_42 : xE (zyEl zymx B H2) 74 42 = xE (zyEl zymx B H) 74 42 := xFr_E hfr rfl
                  have q74_42 : xE (zyEl zymx B H) 74 42 = xE (zyEl zymx B s.heap) 74 42 := xFr_E hFr0 rfl
                  have e84 : ∀ i, xE (zyEl zymx B H2) 84 i = xE (zyEl zymx B H) 84 i := fun i => xFr_E hfr rfl
                  have q84 : ∀ i, xE (zyEl zymx B H) 84 i = xE (zyEl zymx B s.heap) 84 i := fun i => xFr_E hFr0 rfl
                  have y74_42 : ((2147483648 : Nat) : Int) ≤ xE (zyEl zymx B s.heap) 74 42 + 2147483648 ∧ xE (zyEl zymx B s.heap) 74 42 + 2147483648 ≤ ((2147484548 : Nat) : Int) := xTyF hT0 74 42 42 rfl rfl rfl rfl rfl rfl
                  have hI : xE (zyEl zymx B H) 74 38 ≤ (xE (zyEl zymx B s.heap) 74 42) ∧ xE (zyEl zymx B H) 74 38 = tFr (xE (zyEl zymx B s.heap) 84) (xE (zyEl zymx B s.heap) 74 42) (xE (zyEl zymx B s.heap) 74 39) := hInv
                  obtain ⟨i1, i2⟩ := hI
                  have t2 : xE (zyEl zymx B s.heap) 84 (xE (zyEl zymx B H) 74 38) = (v2 3) := by rw [← q84, show xE (zyEl zymx B H) 74 38 = (v2 1) by omega]; exact f2.2
                  have t4 : xE (zyEl zymx B s.heap) 84 (xE (zyEl zymx B H) 74 38) = (v2 4) := by rw [← q84, show xE (zyEl zymx B H) 74 38 = (v2 1) by omega]; exact f4.2
                  rw [i2] at t2 t4
                  have z74_38 : ((2147483648 : Nat) : Int) ≤ xE (zyEl zymx B H2) 74 38 + 2147483648 ∧ xE (zyEl zymx B H2) 74 38 + 2147483648 ≤ ((2147484548 : Nat) : Int) := xTyF hT2 74 38 38 rfl rfl rfl rfl rfl rfl
                  have z74_39 : ((2147483648 : Nat) : Int) ≤ xE (zyEl zymx B H2) 74 39 + 2147483648 ∧ xE (zyEl zymx B H2) 74 39 + 2147483648 ≤ ((2147484549 : Nat) : Int) := xTyF hT2 74 39 39 rfl rfl rfl rfl rfl rfl
                  have z74_40 : ((2147483648 : Nat) : Int) ≤ xE (zyEl zymx B H2) 74 40 + 2147483648 ∧ xE (zyEl zymx B H2) 74 40 + 2147483648 ≤ ((2147483652 : Nat) : Int) := xTyF hT2 74 40 40 rfl rfl rfl rfl rfl rfl
                  refine xGo hIH hAt hB hv hFr ⟨4, by decide⟩ [0] [0, xE (zyEl zymx B H2) 74 38, xE (zyEl zymx B H2) 74 39, xE (zyEl zymx B H2) 74 40] rfl ⟨by decide +kernel, ⟨rfl, by decide +kernel⟩, (xcs_c rfl xcs_n), (xe_0 (xe_c (by omega) (by omega) rfl (xe_c (by omega) (by omega) rfl (xe_c (by omega) (by omega) rfl xe_n)))), (xkq_c hT2 74 38 (q := 38) rfl rfl rfl rfl rfl rfl rfl rfl rfl rfl rfl (xkq_c hT2 74 39 (q := 39) rfl rfl rfl rfl rfl rfl rfl rfl rfl rfl rfl (xkq_c hT2 74 40 (q := 40) rfl rfl rfl rfl rfl rfl rfl rfl rfl rfl rfl xkq_n)))⟩ xst_n ?_ ?_
                  · show xE (zyEl zymx B H2) 74 38 ≤ (xE (zyEl zymx B s.heap) 74 42) ∧ xE (zyEl zymx B H2) 74 38 = tFr (xE (zyEl zymx B s.heap) 84) (xE (zyEl zymx B s.heap) 74 42) (xE (zyEl zymx B s.heap) 74 39) ∧ xE (zyEl zymx B H2) 74 39 = tFr (xE (zyEl zymx B s.heap) 84) (xE (zyEl zymx B s.heap) 74 42) (xE (zyEl zymx B s.heap) 74 39) + 1 ∧ xE (zyEl zymx B H2) 74 40 = rK0 (xE (zyEl zymx B s.heap) 84) (xE (zyEl zymx B s.heap) 74 42) (tFr (xE (zyEl zymx B s.heap) 84) (xE (zyEl zymx B s.heap) 74 42) (xE (zyEl zymx B s.heap) 74 39))
                    exact ⟨by omega, by omega, by omega, by rw [rK0_3 (by omega) (by omega)]; omega⟩
                  · show 5000 < 5500
                    omega
                · skip
                  rcases List.mem_cons.mp hx with ex | hx
                  · subst ex
                    obtain ⟨hF, hBd, hM⟩ := hXs
                    have g1 : v2 1 = v 1 := hag 1 (by decide)
                    have b0 : ((2147483648 : Nat) : Int) ≤ (v2 1) + 2147483648 ∧ (v2 1) + 2147483648 ≤ ((2147484547 : Nat) : Int) := xXb hBd 0 rfl
                    have b1 : ((2147483649 : Nat) : Int) ≤ (v2 2) + 2147483648 ∧ (v2 2) + 2147483648 ≤ ((2147484548 : Nat) : Int) := xXb hBd 1 rfl
                    have b2 : ((2147483707 : Nat) : Int) ≤ (v2 3) + 2147483648 ∧ (v2 3) + 2147483648 ≤ ((2147483707 : Nat) : Int) := xXb hBd 2 rfl
                    have k0 : xE (zyEl zymx B H) 74 38 = v 1 := xKcf hKc 0 rfl rfl
                    have f0 : (0 : Int) ≤ 42 ∧ xE (zyEl zymx B H) 74 42 = (v2 2) := xXf hF 0 rfl
                    have f1 : (v2 1) < (v2 2) := xXf hF 1 rfl
                    have f2 : (0 : Int) ≤ (v2 1) ∧ xE (zyEl zymx B H) 84 (v2 1) = (v2 3) := xXf hF 2 rfl
                    have f3 : (v2 3) = 59 := xXf hF 3 rfl
                    have m0 : xE (zyEl zymx B H2) 74 38 = (v2 1) := xXm hM 0 rfl
                    have m1 : xE (zyEl zymx B H2) 74 39 = (v2 1 + 1) := xXm hM 1 rfl
                    have m2 : xE (zyEl zymx B H2) 74 40 = 3 := xXm hM 2 rfl
                    have e74_38 : xE (zyEl zymx B H2) 74 38 = xE (zyEl zymx B H) 74 38 := xFr_E hfr rfl
                    have e74_41 : xE (zyEl zymx B H2) 74 41 = xE (zyEl zymx B H) 74 41 := xFr_E hfr rfl
                    have e74_42 : xE (zyEl zymx B H2) 74 42 = xE (zyEl zymx B H) 74 42 := xFr_E hfr rfl
                    have q74_42 : xE (zyEl zymx B H) 74 42 = xE (zyEl zymx B s.heap) 74 42 := xFr_E hFr0 rfl
                    have e84 : ∀ i, xE (zyEl zymx B H2) 84 i = xE (zyEl zymx B H) 84 i := fun i => xFr_E hfr rfl
                    have q84 : ∀ i, xE (zyEl zymx B H) 84 i = xE (zyEl zymx B s.heap) 84 i := fun i => xFr_E hFr0 rfl
                    have y74_42 : ((2147483648 : Nat) : Int) ≤ xE (zyEl zymx B s.heap) 74 42 + 2147483648 ∧ xE (zyEl zymx B s.heap) 74 42 + 2147483648 ≤ ((2147484548 : Nat) : Int) := xTyF hT0 74 42 42 rfl rfl rfl rfl rfl rfl
                    have hI : xE (zyEl zymx B H) 74 38 ≤ (xE (zyEl zymx B s.heap) 74 42) ∧ xE (zyEl zymx B H) 74 38 = tFr (xE (zyEl zymx B s.heap) 84) (xE (zyEl zymx B s.heap) 74 42) (xE (zyEl zymx B s.heap) 74 39) := hInv
                    obtain ⟨i1, i2⟩ := hI
                    have t2 : xE (zyEl zymx B s.heap) 84 (xE (zyEl zymx B H) 74 38) = (v2 3) := by rw [← q84, show xE (zyEl zymx B H) 74 38 = (v2 1) by omega]; exact f2.2
                    rw [i2] at t2
                    have z74_38 : ((2147483648 : Nat) : Int) ≤ xE (zyEl zymx B H2) 74 38 + 2147483648 ∧ xE (zyEl zymx B H2) 74 38 + 2147483648 ≤ ((2147484548 : Nat) : Int) := xTyF hT2 74 38 38 rfl rfl rfl rfl rfl rfl
                    have z74_39 : ((2147483648 : Nat) : Int) ≤ xE (zyEl zymx B H2) 74 39 + 2147483648 ∧ xE (zyEl zymx B H2) 74 39 + 2147483648 ≤ ((2147484549 : Nat) : Int) := xTyF hT2 74 39 39 rfl rfl rfl rfl rfl rfl
                    have z74_40 : ((2147483648 : Nat) : Int) ≤ xE (zyEl zymx B H2) 74 40 + 2147483648 ∧ xE (zyEl zymx B H2) 74 40 + 2147483648 ≤ ((2147483652 : Nat) : Int) := xTyF hT2 74 40 40 rfl rfl rfl rfl rfl rfl
                    refine xGo hIH hAt hB hv hFr ⟨4, by decide⟩ [0] [0, xE (zyEl zymx B H2) 74 38, xE (zyEl zymx B H2) 74 39, xE (zyEl zymx B H2) 74 40] rfl ⟨by decide +kernel, ⟨rfl, by decide +kernel⟩, (xcs_c rfl xcs_n), (xe_0 (xe_c (by omega) (by omega) rfl (xe_c (by omega) (by omega) rfl (xe_c (by omega) (by omega) rfl xe_n)))), (xkq_c hT2 74 38 (q := 38) rfl rfl rfl rfl rfl rfl rfl rfl rfl rfl rfl (xkq_c hT2 74 39 (q := 39) rfl rfl rfl rfl rfl rfl rfl rfl rfl rfl rfl (xkq_c hT2 74 40 (q := 40) rfl rfl rfl rfl rfl rfl rfl rfl rfl rfl rfl xkq_n)))⟩ xst_n ?_ ?_
                    · show xE (zyEl zymx B H2) 74 38 ≤ (xE (zyEl zymx B s.heap) 74 42) ∧ xE (zyEl zymx B H2) 74 38 = tFr (xE (zyEl zymx B s.heap) 84) (xE (zyEl zymx B s.heap) 74 42) (xE (zyEl zymx B s.heap) 74 39) ∧ xE (zyEl zymx B H2) 74 39 = tFr (xE (zyEl zymx B s.heap) 84) (xE (zyEl zymx B s.heap) 74 42) (xE (zyEl zymx B s.heap) 74 39) + 1 ∧ xE (zyEl zymx B H2) 74 40 = rK0 (xE (zyEl zymx B s.heap) 84) (xE (zyEl zymx B s.heap) 74 42) (tFr (xE (zyEl zymx B s.heap) 84) (xE (zyEl zymx B s.heap) 74 42) (xE (zyEl zymx B s.heap) 74 39))
                      exact ⟨by omega, by omega, by omega, by rw [rK0_3 (by omega) (by omega)]; omega⟩
                    · show 5000 < 5500
                      omega
                  · skip
                    have ex := List.mem_singleton.mp hx
                    subst ex
                    obtain ⟨hF, hBd, hM⟩ := hXs
                    have g1 : v2 1 = v 1 := hag 1 (by decide)
                    have b0 : ((2147483648 : Nat) : Int) ≤ (v2 1) + 2147483648 ∧ (v2 1) + 2147483648 ≤ ((2147484548 : Nat) : Int) := xXb hBd 0 rfl
                    have b1 : ((2147483648 : Nat) : Int) ≤ (v2 2) + 2147483648 ∧ (v2 2) + 2147483648 ≤ ((2147484548 : Nat) : Int) := xXb hBd 1 rfl
                    have k0 : xE (zyEl zymx B H) 74 38 = v 1 := xKcf hKc 0 rfl rfl
                    have f0 : (0 : Int) ≤ 42 ∧ xE (zyEl zymx B H) 74 42 = (v2 2) := xXf hF 0 rfl
                    have f1 : (v2 2) ≤ (v2 1) := xXf hF 1 rfl
                    have m0 : xE (zyEl zymx B H2) 74 38 = (v2 1) := xXm hM 0 rfl
                    have m1 : xE (zyEl zymx B H2) 74 39 = (v2 1 + 1) := xXm hM 1 rfl
                    have m2 : xE (zyEl zymx B H2) 74 40 = 0 := xXm hM 2 rfl
                    have e74_38 : xE (zyEl zymx B H2) 74 38 = xE (zyEl zymx B H) 74 38 := xFr_E hfr rfl
                    have e74_41 : xE (zyEl zymx B H2) 74 41 = xE (zyEl zymx B H) 74 41 := xFr_E hfr rfl
                    have e74_42 : xE (zyEl zymx B H2) 74 42 = xE (zyEl zymx B H) 74 42 := xFr_E hfr rfl
                    have q74_42 : xE (zyEl zymx B H) 74 42 = xE (zyEl zymx B s.heap) 74 42 := xFr_E hFr0 rfl
                    have e84 : ∀ i, xE (zyEl zymx B H2) 84 i = xE (zyEl zymx B H) 84 i := fun i => xFr_E hfr rfl
                    have q84 : ∀ i, xE (zyEl zymx B H) 84 i = xE (zyEl zymx B s.heap) 84 i := fun i => xFr_E hFr0 rfl
                    have y74_42 : ((2147483648 : Nat) : Int) ≤ xE (zyEl zymx B s.heap) 74 42 + 2147483648 ∧ xE (zyEl zymx B s.heap) 74 42 + 2147483648 ≤ ((2147484548 : Nat) : Int) := xTyF hT0 74 42 42 rfl rfl rfl rfl rfl rfl
                    have hI : xE (zyEl zymx B H) 74 38 ≤ (xE (zyEl zymx B s.heap) 74 42) ∧ xE (zyEl zymx B H) 74 38 = tFr (xE (zyEl zymx B s.heap) 84) (xE (zyEl zymx B s.heap) 74 42) (xE (zyEl zymx B s.heap) 74 39) := hInv
                    obtain ⟨i1, i2⟩ := hI
                    have z74_38 : ((2147483648 : Nat) : Int) ≤ xE (zyEl zymx B H2) 74 38 + 2147483648 ∧ xE (zyEl zymx B H2) 74 38 + 2147483648 ≤ ((2147484548 : Nat) : Int) := xTyF hT2 74 38 38 rfl rfl rfl rfl rfl rfl
                    have z74_39 : ((2147483648 : Nat) : Int) ≤ xE (zyEl zymx B H2) 74 39 + 2147483648 ∧ xE (zyEl zymx B H2) 74 39 + 2147483648 ≤ ((2147484549 : Nat) : Int) := xTyF hT2 74 39 39 rfl rfl rfl rfl rfl rfl
                    have z74_40 : ((2147483648 : Nat) : Int) ≤ xE (zyEl zymx B H2) 74 40 + 2147483648 ∧ xE (zyEl zymx B H2) 74 40 + 2147483648 ≤ ((2147483652 : Nat) : Int) := xTyF hT2 74 40 40 rfl rfl rfl rfl rfl rfl
                    refine xGo hIH hAt hB hv hFr ⟨4, by decide⟩ [0] [0, xE (zyEl zymx B H2) 74 38, xE (zyEl zymx B H2) 74 39, xE (zyEl zymx B H2) 74 40] rfl ⟨by decide +kernel, ⟨rfl, by decide +kernel⟩, (xcs_c rfl xcs_n), (xe_0 (xe_c (by omega) (by omega) rfl (xe_c (by omega) (by omega) rfl (xe_c (by omega) (by omega) rfl xe_n)))), (xkq_c hT2 74 38 (q := 38) rfl rfl rfl rfl rfl rfl rfl rfl rfl rfl rfl (xkq_c hT2 74 39 (q := 39) rfl rfl rfl rfl rfl rfl rfl rfl rfl rfl rfl (xkq_c hT2 74 40 (q := 40) rfl rfl rfl rfl rfl rfl rfl rfl rfl rfl rfl xkq_n)))⟩ xst_n ?_ ?_
                    · show xE (zyEl zymx B H2) 74 38 ≤ (xE (zyEl zymx B s.heap) 74 42) ∧ xE (zyEl zymx B H2) 74 38 = tFr (xE (zyEl zymx B s.heap) 84) (xE (zyEl zymx B s.heap) 74 42) (xE (zyEl zymx B s.heap) 74 39) ∧ xE (zyEl zymx B H2) 74 39 = tFr (xE (zyEl zymx B s.heap) 84) (xE (zyEl zymx B s.heap) 74 42) (xE (zyEl zymx B s.heap) 74 39) + 1 ∧ xE (zyEl zymx B H2) 74 40 = rK0 (xE (zyEl zymx B s.heap) 84) (xE (zyEl zymx B s.heap) 74 42) (tFr (xE (zyEl zymx B s.heap) 84) (xE (zyEl zymx B s.heap) 74 42) (xE (zyEl zymx B s.heap) 74 39))
                      exact ⟨by omega, by omega, by omega, by rw [rK0_0 (by omega)]; omega⟩
                    · show 5000 < 5500
                      omega
    · have hx : x ∈ [zxfrd_gx0, zxfrd_gx1, zxfrd_gx2, zxfrd_gx3] := hx
      have hag : ∀ k, k < 4 → v2 k = v k := hag
      have hfr : xFr [(74, 39, 41)] _ _ := hfr
      rcases List.mem_cons.mp hx with ex | hx
      · subst ex
        obtain ⟨hF, hBd, hM⟩ := hXs
        have g1 : v2 1 = v 1 := hag 1 (by decide)
        have g2 : v2 2 = v 2 := hag 2 (by decide)
        have g3 : v2 3 = v 3 := hag 3 (by decide)
        have b0 : ((2147483648 : Nat) : Int) ≤ (v2 1) + 2147483648 ∧ (v2 1) + 2147483648 ≤ ((2147484547 : Nat) : Int) := xXb hBd 0 rfl
        have b1 : ((2147483648 : Nat) : Int) ≤ (v2 3) + 2147483648 ∧ (v2 3) + 2147483648 ≤ ((2147483652 : Nat) : Int) := xXb hBd 1 rfl
        have b2 : ((2147483649 : Nat) : Int) ≤ (v2 4) + 2147483648 ∧ (v2 4) + 2147483648 ≤ ((2147484548 : Nat) : Int) := xXb hBd 2 rfl
        have b3 : ((2147483520 : Nat) : Int) ≤ (v2 5) + 2147483648 ∧ (v2 5) + 2147483648 ≤ ((2147483744 : Nat) : Int) := xXb hBd 3 rfl
        have b4 : ((2147483696 : Nat) : Int) ≤ (v2 6) + 2147483648 ∧ (v2 6) + 2147483648 ≤ ((2147483705 : Nat) : Int) := xXb hBd 4 rfl
        have k0 : xE (zyEl zymx B H) 74 38 = v 1 := xKcf hKc 0 rfl rfl
        have k1 : xE (zyEl zymx B H) 74 39 = v 2 := xKcf hKc 1 rfl rfl
        have k2 : xE (zyEl zymx B H) 74 40 = v 3 := xKcf hKc 2 rfl rfl
        have f0 : (0 : Int) ≤ 42 ∧ xE (zyEl zymx B H) 74 42 = (v2 4) := xXf hF 0 rfl
        have f1 : (v2 1) < (v2 4) := xXf hF 1 rfl
        have f2 : (0 : Int) ≤ (v2 1) ∧ xE (zyEl zymx B H) 84 (v2 1) = (v2 5) := xXf hF 2 rfl
        have f3 : (v2 5) < 97 := xXf hF 3 rfl
        have f4 : (v2 1) < (v2 4) := xXf hF 4 rfl
        have f5 : (0 : Int) ≤ (v2 1) ∧ xE (zyEl zymx B H) 84 (v2 1) = (v2 6) := xXf hF 5 rfl
        have f6 : 48 ≤ (v2 6) := xXf hF 6 rfl
        have f7 : (v2 6) ≤ 57 := xXf hF 7 rfl
        have m0 : xE (zyEl zymx B H2) 74 38 = (v2 1) := xXm hM 0 rfl
        have m1 : xE (zyEl zymx B H2) 74 39 = (v2 1) := xXm hM 1 rfl
        have m2 : xE (zyEl zymx B H2) 74 40 = (v2 3) := xXm hM 2 rfl
        have m3 : xE (zyEl zymx B H2) 74 41 = 0 := xXm hM 3 rfl
        have e74_38 : xE (zyEl zymx B H2) 74 38 = xE (zyEl zymx B H) 74 38 := xFr_E hfr rfl
        have e74_42 : xE (zyEl zymx B H2) 74 42 = xE (zyEl zymx B H) 74 42 := xFr_E hfr rfl
        have q74_42 : xE (zyEl zymx B H) 74 42 = xE (zyEl zymx B s.heap) 74 42 := xFr_E hFr0 rfl
        have e84 : ∀ i, xE (zyEl zymx B H2) 84 i = xE (zyEl zymx B H) 84 i := fun i => xFr_E hfr rfl
        have q84 : ∀ i, xE (zyEl zymx B H) 84 i = xE (zyEl zymx B s.heap) 84 i := fun i => xFr_E hFr0 rfl
        have y74_42 : ((2147483648 : Nat) : Int) ≤ xE (zyEl zymx B s.heap) 74 42 + 2147483648 ∧ xE (zyEl zymx B s.heap) 74 42 + 2147483648 ≤ ((2147484548 : Nat) : Int) := xTyF hT0 74 42 42 rfl rfl rfl rfl rfl rfl
        have hI : xE (zyEl zymx B H) 74 38 ≤ (xE (zyEl zymx B s.heap) 74 42) ∧ xE (zyEl zymx B H) 74 38 = tFr (xE (zyEl zymx B s.heap) 84) (xE (zyEl zymx B s.heap) 74 42) (xE (zyEl zymx B s.heap) 74 39) ∧ xE (zyEl zymx B H) 74 39 = tFr (xE (zyEl zymx B s.heap) 84) (xE (zyEl zymx B s.heap) 74 42) (xE (zyEl zymx B s.heap) 74 39) + 1 ∧ xE (zyEl zymx B H) 74 40 = rK0 (xE (zyEl zymx B s.heap) 84) (xE (zyEl zymx B s.heap) 74 42) (tFr (xE (zyEl zymx B s.heap) 84) (xE (zyEl zymx B s.heap) 74 42) (xE (zyEl zymx B s.heap) 74 39)) := hInv
        obtain ⟨i1, i2, i3, i4⟩ := hI
        have t2 : xE (zyEl zymx B s.heap) 84 (xE (zyEl zymx B H) 74 38) = (v2 5) := by rw [← q84, show xE (zyEl zymx B H) 74 38 = (v2 1) by omega]; exact f2.2
        have t5 : xE (zyEl zymx B s.heap) 84 (xE (zyEl zymx B H) 74 38) = (v2 6) := by rw [← q84, show xE (zyEl zymx B H) 74 38 = (v2 1) by omega]; exact f5.2
        rw [i2] at t2 t5
        have hk : tk (xE (zyEl zymx B s.heap) 84 (tFr (xE (zyEl zymx B s.heap) 84) (xE (zyEl zymx B s.heap) 74 42) (xE (zyEl zymx B s.heap) 74 39))) = 3 := by rw [t5]; exact tk3 (by omega) (by omega)
        have z74_39 : ((2147483648 : Nat) : Int) ≤ xE (zyEl zymx B H2) 74 39 + 2147483648 ∧ xE (zyEl zymx B H2) 74 39 + 2147483648 ≤ ((2147484549 : Nat) : Int) := xTyF hT2 74 39 39 rfl rfl rfl rfl rfl rfl
        have z74_38 : ((2147483648 : Nat) : Int) ≤ xE (zyEl zymx B H2) 74 38 + 2147483648 ∧ xE (zyEl zymx B H2) 74 38 + 2147483648 ≤ ((2147484548 : Nat) : Int) := xTyF hT2 74 38 38 rfl rfl rfl rfl rfl rfl
        have z74_41 : ((2147483648 : Nat) : Int) ≤ xE (zyEl zymx B H2) 74 41 + 2147483648 ∧ xE (zyEl zymx B H2) 74 41 + 2147483648 ≤ ((2147484647 : Nat) : Int) := xTyF hT2 74 41 41 rfl rfl rfl rfl rfl rfl
        refine xGo hIH hAt hB hv hFr ⟨8, by decide⟩ [0] [0, xE (zyEl zymx B H2) 74 39, xE (zyEl zymx B H2) 74 38, xE (zyEl zymx B H2) 74 41] rfl ⟨by decide +kernel, ⟨rfl, by decide +kernel⟩, (xcs_c rfl xcs_n), (xe_0 (xe_c (by omega) (by omega) rfl (xe_c (by omega) (by omega) rfl (xe_c (by omega) (by omega) rfl xe_n)))), (xkq_c hT2 74 39 (q := 39) rfl rfl rfl rfl rfl rfl rfl rfl rfl rfl rfl (xkq_c hT2 74 38 (q := 38) rfl rfl rfl rfl rfl rfl rfl rfl rfl rfl rfl (xkq_c hT2 74 41 (q := 41) rfl rfl rfl rfl rfl rfl rfl rfl rfl rfl rfl xkq_n)))⟩ xst_n ?_ ?_
        · show xE (zyEl zymx B H2) 74 38 = tFr (xE (zyEl zymx B s.heap) 84) (xE (zyEl zymx B s.heap) 74 42) (xE (zyEl zymx B s.heap) 74 39) ∧ tFr (xE (zyEl zymx B s.heap) 84) (xE (zyEl zymx B s.heap) 74 42) (xE (zyEl zymx B s.heap) 74 39) < (xE (zyEl zymx B s.heap) 74 42) ∧ tk ((xE (zyEl zymx B s.heap) 84) (tFr (xE (zyEl zymx B s.heap) 84) (xE (zyEl zymx B s.heap) 74 42) (xE (zyEl zymx B s.heap) 74 39))) = 3 ∧ (tFr (xE (zyEl zymx B s.heap) 84) (xE (zyEl zymx B s.heap) 74 42) (xE (zyEl zymx B s.heap) 74 39) ≤ xE (zyEl zymx B H2) 74 39 ∧ xE (zyEl zymx B H2) 74 39 ≤ (xE (zyEl zymx B s.heap) 74 42)) ∧ tRn (xE (zyEl zymx B s.heap) 84) (xE (zyEl zymx B s.heap) 74 42) 3 (xE (zyEl zymx B H2) 74 39) = tRn (xE (zyEl zymx B s.heap) 84) (xE (zyEl zymx B s.heap) 74 42) 3 (tFr (xE (zyEl zymx B s.heap) 84) (xE (zyEl zymx B s.heap) 74 42) (xE (zyEl zymx B s.heap) 74 39)) ∧ ((xE (zyEl zymx B H2) 74 39 = tFr (xE (zyEl zymx B s.heap) 84) (xE (zyEl zymx B s.heap) 74 42) (xE (zyEl zymx B s.heap) 74 39) ∧ xE (zyEl zymx B H2) 74 41 = 0) ∨ (xE (zyEl zymx B H2) 74 39 = tFr (xE (zyEl zymx B s.heap) 84) (xE (zyEl zymx B s.heap) 74 42) (xE (zyEl zymx B s.heap) 74 39) + 1 ∧ xE (zyEl zymx B H2) 74 41 ≤ 9) ∨ (xE (zyEl zymx B H2) 74 39 = tFr (xE (zyEl zymx B s.heap) 84) (xE (zyEl zymx B s.heap) 74 42) (xE (zyEl zymx B s.heap) 74 39) + 2 ∧ xE (zyEl zymx B H2) 74 41 ≤ 99) ∨ tFr (xE (zyEl zymx B s.heap) 84) (xE (zyEl zymx B s.heap) 74 42) (xE (zyEl zymx B s.heap) 74 39) + 3 ≤ xE (zyEl zymx B H2) 74 39) ∧ (xE (zyEl zymx B H2) 74 39 ≤ tFr (xE (zyEl zymx B s.heap) 84) (xE (zyEl zymx B s.heap) 74 42) (xE (zyEl zymx B s.heap) 74 39) + 3 → tVl (xE (zyEl zymx B s.heap) 84) (tNx (xE (zyEl zymx B s.heap) 84) (xE (zyEl zymx B s.heap) 74 42) (xE (zyEl zymx B s.heap) 74 39)) (xE (zyEl zymx B H2) 74 39) (xE (zyEl zymx B H2) 74 41) = tVl (xE (zyEl zymx B s.heap) 84) (tNx (xE (zyEl zymx B s.heap) 84) (xE (zyEl zymx B s.heap) 74 42) (xE (zyEl zymx B s.heap) 74 39)) (tFr (xE (zyEl zymx B s.heap) 84) (xE (zyEl zymx B s.heap) 74 42) (xE (zyEl zymx B s.heap) 74 39)) 0)
          have hq : xE (zyEl zymx B H2) 74 39 = tFr (xE (zyEl zymx B s.heap) 84) (xE (zyEl zymx B s.heap) 74 42) (xE (zyEl zymx B s.heap) 74 39) := by omega
          have hv : xE (zyEl zymx B H2) 74 41 = 0 := by omega
          rw [hq, hv]
          exact ⟨by omega, by omega, hk, by omega, rfl, Or.inl ⟨rfl, rfl⟩, fun _ => rfl⟩
        · show 2 * (1000 - xE (zyEl zymx B H2) 74 39).toNat + 1 < 5000
          omega
      · skip
        rcases List.mem_cons.mp hx with ex | hx
        · subst ex
          obtain ⟨hF, hBd, hM⟩ := hXs
          have g1 : v2 1 = v 1 := hag 1 (by decide)
          have g2 : v2 2 = v 2 := hag 2 (by decide)
          have g3 : v2 3 = v 3 := hag 3 (by decide)
          have b0 : ((2147483648 : Nat) : Int) ≤ (v2 1) + 2147483648 ∧ (v2 1) + 2147483648 ≤ ((2147484547 : Nat) : Int) := xXb hBd 0 rfl
          have b1 : ((2147483648 : Nat) : Int) ≤ (v2 3) + 2147483648 ∧ (v2 3) + 2147483648 ≤ ((2147483652 : Nat) : Int) := xXb hBd 1 rfl
          have b2 : ((2147483649 : Nat) : Int) ≤ (v2 4) + 2147483648 ∧ (v2 4) + 2147483648 ≤ ((2147484548 : Nat) : Int) := xXb hBd 2 rfl
          have b3 : ((2147483771 : Nat) : Int) ≤ (v2 5) + 2147483648 ∧ (v2 5) + 2147483648 ≤ ((2147483775 : Nat) : Int) := xXb hBd 3 rfl
          have b4 : ((2147483696 : Nat) : Int) ≤ (v2 6) + 2147483648 ∧ (v2 6) + 2147483648 ≤ ((2147483705 : Nat) : Int) := xXb hBd 4 rfl
          have k0 : xE (zyEl zymx B H) 74 38 = v 1 := xKcf hKc 0 rfl rfl
          have k1 : xE (zyEl zymx B H) 74 39 = v 2 := xKcf hKc 1 rfl rfl
          have k2 : xE (zyEl zymx B H) 74 40 = v 3 := xKcf hKc 2 rfl rfl
          have f0 : (0 : Int) ≤ 42 ∧ xE (zyEl zymx B H) 74 42 = (v2 4) := xXf hF 0 rfl
          have f1 : (v2 1) < (v2 4) := xXf hF 1 rfl
          have f2 : (0 : Int) ≤ (v2 1) ∧ xE (zyEl zymx B H) 84 (v2 1) = (v2 5) := xXf hF 2 rfl
          have f3 : 97 ≤ (v2 5) := xXf hF 3 rfl
          have f4 : 122 < (v2 5) := xXf hF 4 rfl
          have f5 : (v2 1) < (v2 4) := xXf hF 5 rfl
          have f6 : (0 : Int) ≤ (v2 1) ∧ xE (zyEl zymx B H) 84 (v2 1) = (v2 6) := xXf hF 6 rfl
          have f7 : 48 ≤ (v2 6) := xXf hF 7 rfl
          have f8 : (v2 6) ≤ 57 := xXf hF 8 rfl
          have m0 : xE (zyEl zymx B H2) 74 38 = (v2 1) := xXm hM 0 rfl
          have m1 : xE (zyEl zymx B H2) 74 39 = (v2 1) := xXm hM 1 rfl
          have m2 : xE (zyEl zymx B H2) 74 40 = (v2 3) := xXm hM 2 rfl
          have m3 : xE (zyEl zymx B H2) 74 41 = 0 := xXm hM 3 rfl
          have e74_38 : xE (zyEl zymx B H2) 74 38 = xE (zyEl zymx B H) 74 38 := xFr_E hfr rfl
          have e74_42 : xE (zyEl zymx B H2) 74 42 = xE (zyEl zymx B H) 74 42 := xFr_E hfr rfl
          have q74_42 : xE (zyEl zymx B H) 74 42 = xE (zyEl zymx B s.heap) 74 42 := xFr_E hFr0 rfl
          have e84 : ∀ i, xE (zyEl zymx B H2) 84 i = xE (zyEl zymx B H) 84 i := fun i => xFr_E hfr rfl
          have q84 : ∀ i, xE (zyEl zymx B H) 84 i = xE (zyEl zymx B s.heap) 84 i := fun i => xFr_E hFr0 rfl
          have y74_42 : ((2147483648 : Nat) : Int) ≤ xE (zyEl zymx B s.heap) 74 42 + 2147483648 ∧ xE (zyEl zymx B s.heap) 74 42 + 2147483648 ≤ ((2147484548 : Nat) : Int) := xTyF hT0 74 42 42 rfl rfl rfl rfl rfl rfl
          have hI : xE (zyEl zymx B H) 74 38 ≤ (xE (zyEl zymx B s.heap) 74 42) ∧ xE (zyEl zymx B H) 74 38 = tFr (xE (zyEl zymx B s.heap) 84) (xE (zyEl zymx B s.heap) 74 42) (xE (zyEl zymx B s.heap) 74 39) ∧ xE (zyEl zymx B H) 74 39 = tFr (xE (zyEl zymx B s.heap) 84) (xE (zyEl zymx B s.heap) 74 42) (xE (zyEl zymx B s.heap) 74 39) + 1 ∧ xE (zyEl zymx B H) 74 40 = rK0 (xE (zyEl zymx B s.heap) 84) (xE (zyEl zymx B s.heap) 74 42) (tFr (xE (zyEl zymx B s.heap) 84) (xE (zyEl zymx B s.heap) 74 42) (xE (zyEl zymx B s.heap) 74 39)) := hInv
          obtain ⟨i1, i2, i3, i4⟩ := hI
          have t2 : xE (zyEl zymx B s.heap) 84 (xE (zyEl zymx B H) 74 38) = (v2 5) := by rw [← q84, show xE (zyEl zymx B H) 74 38 = (v2 1) by omega]; exact f2.2
          have t6 : xE (zyEl zymx B s.heap) 84 (xE (zyEl zymx B H) 74 38) = (v2 6) := by rw [← q84, show xE (zyEl zymx B H) 74 38 = (v2 1) by omega]; exact f6.2
          rw [i2] at t2 t6
          have hk : tk (xE (zyEl zymx B s.heap) 84 (tFr (xE (zyEl zymx B s.heap) 84) (xE (zyEl zymx B s.heap) 74 42) (xE (zyEl zymx B s.heap) 74 39))) = 3 := by rw [t6]; exact tk3 (by omega) (by omega)
          have z74_39 : ((2147483648 : Nat) : Int) ≤ xE (zyEl zymx B H2) 74 39 + 2147483648 ∧ xE (zyEl zymx B H2) 74 39 + 2147483648 ≤ ((2147484549 : Nat) : Int) := xTyF hT2 74 39 39 rfl rfl rfl rfl rfl rfl
          have z74_38 : ((2147483648 : Nat) : Int) ≤ xE (zyEl zymx B H2) 74 38 + 2147483648 ∧ xE (zyEl zymx B H2) 74 38 + 2147483648 ≤ ((2147484548 : Nat) : Int) := xTyF hT2 74 38 38 rfl rfl rfl rfl rfl rfl
          have z74_41 : ((2147483648 : Nat) : Int) ≤ xE (zyEl zymx B H2) 74 41 + 2147483648 ∧ xE (zyEl zymx B H2) 74 41 + 2147483648 ≤ ((2147484647 : Nat) : Int) := xTyF hT2 74 41 41 rfl rfl rfl rfl rfl rfl
          refine xGo hIH hAt hB hv hFr ⟨8, by decide⟩ [0] [0, xE (zyEl zymx B H2) 74 39, xE (zyEl zymx B H2) 74 38, xE (zyEl zymx B H2) 74 41] rfl ⟨by decide +kernel, ⟨rfl, by decide +kernel⟩, (xcs_c rfl xcs_n), (xe_0 (xe_c (by omega) (by omega) rfl (xe_c (by omega) (by omega) rfl (xe_c (by omega) (by omega) rfl xe_n)))), (xkq_c hT2 74 39 (q := 39) rfl rfl rfl rfl rfl rfl rfl rfl rfl rfl rfl (xkq_c hT2 74 38 (q := 38) rfl rfl rfl rfl rfl rfl rfl rfl rfl rfl rfl (xkq_c hT2 74 41 (q := 41) rfl rfl rfl rfl rfl rfl rfl rfl rfl rfl rfl xkq_n)))⟩ xst_n ?_ ?_
          · show xE (zyEl zymx B H2) 74 38 = tFr (xE (zyEl zymx B s.heap) 84) (xE (zyEl zymx B s.heap) 74 42) (xE (zyEl zymx B s.heap) 74 39) ∧ tFr (xE (zyEl zymx B s.heap) 84) (xE (zyEl zymx B s.heap) 74 42) (xE (zyEl zymx B s.heap) 74 39) < (xE (zyEl zymx B s.heap) 74 42) ∧ tk ((xE (zyEl zymx B s.heap) 84) (tFr (xE (zyEl zymx B s.heap) 84) (xE (zyEl zymx B s.heap) 74 42) (xE (zyEl zymx B s.heap) 74 39))) = 3 ∧ (tFr (xE (zyEl zymx B s.heap) 84) (xE (zyEl zymx B s.heap) 74 42) (xE (zyEl zymx B s.heap) 74 39) ≤ xE (zyEl zymx B H2) 74 39 ∧ xE (zyEl zymx B H2) 74 39 ≤ (xE (zyEl zymx B s.heap) 74 42)) ∧ tRn (xE (zyEl zymx B s.heap) 84) (xE (zyEl zymx B s.heap) 74 42) 3 (xE (zyEl zymx B H2) 74 39) = tRn (xE (zyEl zymx B s.heap) 84) (xE (zyEl zymx B s.heap) 74 42) 3 (tFr (xE (zyEl zymx B s.heap) 84) (xE (zyEl zymx B s.heap) 74 42) (xE (zyEl zymx B s.heap) 74 39)) ∧ ((xE (zyEl zymx B H2) 74 39 = tFr (xE (zyEl zymx B s.heap) 84) (xE (zyEl zymx B s.heap) 74 42) (xE (zyEl zymx B s.heap) 74 39) ∧ xE (zyEl zymx B H2) 74 41 = 0) ∨ (xE (zyEl zymx B H2) 74 39 = tFr (xE (zyEl zymx B s.heap) 84) (xE (zyEl zymx B s.heap) 74 42) (xE (zyEl zymx B s.heap) 74 39) + 1 ∧ xE (zyEl zymx B H2) 74 41 ≤ 9) ∨ (xE (zyEl zymx B H2) 74 39 = tFr (xE (zyEl zymx B s.heap) 84) (xE (zyEl zymx B s.heap) 74 42) (xE (zyEl zymx B s.heap) 74 39) + 2 ∧ xE (zyEl zymx B H2) 74 41 ≤ 99) ∨ tFr (xE (zyEl zymx B s.heap) 84) (xE (zyEl zymx B s.heap) 74 42) (xE (zyEl zymx B s.heap) 74 39) + 3 ≤ xE (zyEl zymx B H2) 74 39) ∧ (xE (zyEl zymx B H2) 74 39 ≤ tFr (xE (zyEl zymx B s.heap) 84) (xE (zyEl zymx B s.heap) 74 42) (xE (zyEl zymx B s.heap) 74 39) + 3 → tVl (xE (zyEl zymx B s.heap) 84) (tNx (xE (zyEl zymx B s.heap) 84) (xE (zyEl zymx B s.heap) 74 42) (xE (zyEl zymx B s.heap) 74 39)) (xE (zyEl zymx B H2) 74 39) (xE (zyEl zymx B H2) 74 41) = tVl (xE (zyEl zymx B s.heap) 84) (tNx (xE (zyEl zymx B s.heap) 84) (xE (zyEl zymx B s.heap) 74 42) (xE (zyEl zymx B s.heap) 74 39)) (tFr (xE (zyEl zymx B s.heap) 84) (xE (zyEl zymx B s.heap) 74 42) (xE (zyEl zymx B s.heap) 74 39)) 0)
            have hq : xE (zyEl zymx B H2) 74 39 = tFr (xE (zyEl zymx B s.heap) 84) (xE (zyEl zymx B s.heap) 74 42) (xE (zyEl zymx B s.heap) 74 39) := by omega
            have hv : xE (zyEl zymx B H2) 74 41 = 0 := by omega
            rw [hq, hv]
            exact ⟨by omega, by omega, hk, by omega, rfl, Or.inl ⟨rfl, rfl⟩, fun _ => rfl⟩
          · show 2 * (1000 - xE (zyEl zymx B H2) 74 39).toNat + 1 < 5000
            omega
        · skip
          rcases List.mem_cons.mp hx with ex | hx
          · subst ex
            obtain ⟨hF, hBd, hM⟩ := hXs
            have g1 : v2 1 = v 1 := hag 1 (by decide)
            have g2 : v2 2 = v 2 := hag 2 (by decide)
            have g3 : v2 3 = v 3 := hag 3 (by decide)
            have b0 : ((2147483648 : Nat) : Int) ≤ (v2 1) + 2147483648 ∧ (v2 1) + 2147483648 ≤ ((2147484547 : Nat) : Int) := xXb hBd 0 rfl
            have b1 : ((2147483648 : Nat) : Int) ≤ (v2 2) + 2147483648 ∧ (v2 2) + 2147483648 ≤ ((2147484549 : Nat) : Int) := xXb hBd 1 rfl
            have b2 : ((2147483649 : Nat) : Int) ≤ (v2 4) + 2147483648 ∧ (v2 4) + 2147483648 ≤ ((2147484548 : Nat) : Int) := xXb hBd 2 rfl
            have b3 : ((2147483745 : Nat) : Int) ≤ (v2 5) + 2147483648 ∧ (v2 5) + 2147483648 ≤ ((2147483770 : Nat) : Int) := xXb hBd 3 rfl
            have k0 : xE (zyEl zymx B H) 74 38 = v 1 := xKcf hKc 0 rfl rfl
            have k1 : xE (zyEl zymx B H) 74 39 = v 2 := xKcf hKc 1 rfl rfl
            have k2 : xE (zyEl zymx B H) 74 40 = v 3 := xKcf hKc 2 rfl rfl
            have f0 : (0 : Int) ≤ 42 ∧ xE (zyEl zymx B H) 74 42 = (v2 4) := xXf hF 0 rfl
            have f1 : (v2 1) < (v2 4) := xXf hF 1 rfl
            have f2 : (0 : Int) ≤ (v2 1) ∧ xE (zyEl zymx B H) 84 (v2 1) = (v2 5) := xXf hF 2 rfl
            have f3 : 97 ≤ (v2 5) := xXf hF 3 rfl
            have f4 : (v2 5) ≤ 122 := xXf hF 4 rfl
            have m0 : xE (zyEl zymx B H2) 74 38 = (v2 1) := xXm hM 0 rfl
            have m1 : xE (zyEl zymx B H2) 74 39 = (v2 2) := xXm hM 1 rfl
            have m2 : xE (zyEl zymx B H2) 74 40 = 1 := xXm hM 2 rfl
            have e74_38 : xE (zyEl zymx B H2) 74 38 = xE (zyEl zymx B H) 74 38 := xFr_E hfr rfl
            have e74_42 : xE (zyEl zymx B H2) 74 42 = xE (zyEl zymx B H) 74 42 := xFr_E hfr rfl
            have q74_42 : xE (zyEl zymx B H) 74 42 = xE (zyEl zymx B s.heap) 74 42 := xFr_E hFr0 rfl
            have e84 : ∀ i, xE (zyEl zymx B H2) 84 i = xE (zyEl zymx B H) 84 i := fun i => xFr_E hfr rfl
            have q84 : ∀ i, xE (zyEl zymx B H) 84 i = xE (zyEl zymx B s.heap) 84 i := fun i => xFr_E hFr0 rfl
            have y74_42 : ((2147483648 : Nat) : Int) ≤ xE (zyEl zymx B s.heap) 74 42 + 2147483648 ∧ xE (zyEl zymx B s.heap) 74 42 + 2147483648 ≤ ((2147484548 : Nat) : Int) := xTyF hT0 74 42 42 rfl rfl rfl rfl rfl rfl
            have hI : xE (zyEl zymx B H) 74 38 ≤ (xE (zyEl zymx B s.heap) 74 42) ∧ xE (zyEl zymx B H) 74 38 = tFr (xE (zyEl zymx B s.heap) 84) (xE (zyEl zymx B s.heap) 74 42) (xE (zyEl zymx B s.heap) 74 39) ∧ xE (zyEl zymx B H) 74 39 = tFr (xE (zyEl zymx B s.heap) 84) (xE (zyEl zymx B s.heap) 74 42) (xE (zyEl zymx B s.heap) 74 39) + 1 ∧ xE (zyEl zymx B H) 74 40 = rK0 (xE (zyEl zymx B s.heap) 84) (xE (zyEl zymx B s.heap) 74 42) (tFr (xE (zyEl zymx B s.heap) 84) (xE (zyEl zymx B s.heap) 74 42) (xE (zyEl zymx B s.heap) 74 39)) := hInv
            obtain ⟨i1, i2, i3, i4⟩ := hI
            have t2 : xE (zyEl zymx B s.heap) 84 (xE (zyEl zymx B H) 74 38) = (v2 5) := by rw [← q84, show xE (zyEl zymx B H) 74 38 = (v2 1) by omega]; exact f2.2
            rw [i2] at t2
            have hk : tk (xE (zyEl zymx B s.heap) 84 (tFr (xE (zyEl zymx B s.heap) 84) (xE (zyEl zymx B s.heap) 74 42) (xE (zyEl zymx B s.heap) 74 39))) = 2 := by rw [t2]; exact tk2 (by omega) (by omega)
            refine xLgo0 hRl hIH hAt hB hv hFr rfl rfl rfl rfl rfl (fun H3 hT3 hst3 hne3 hFr3 => ?_)
            have hfe3 : ∀ (a2 : Nat) (k2 : Int), ¬ (a2 = 74 ∧ k2.toNat = 43) → xE (zyEl zymx B H3) a2 k2 = xE (zyEl zymx B H2) a2 k2 := fun a2 k2 hne => by unfold xE; rw [hne3 a2 k2.toNat hne]
            have d74_38 : xE (zyEl zymx B H3) 74 38 = xE (zyEl zymx B H2) 74 38 := hfe3 74 38 (by decide)
            have d74_39 : xE (zyEl zymx B H3) 74 39 = xE (zyEl zymx B H2) 74 39 := hfe3 74 39 (by decide)
            have d74_40 : xE (zyEl zymx B H3) 74 40 = xE (zyEl zymx B H2) 74 40 := hfe3 74 40 (by decide)
            have d74_41 : xE (zyEl zymx B H3) 74 41 = xE (zyEl zymx B H2) 74 41 := hfe3 74 41 (by decide)
            have d74_42 : xE (zyEl zymx B H3) 74 42 = xE (zyEl zymx B H2) 74 42 := hfe3 74 42 (by decide)
            have d84 : ∀ i, xE (zyEl zymx B H3) 84 i = xE (zyEl zymx B H2) 84 i := fun i => hfe3 84 i (fun z => absurd z.1 (by decide))
            have z74_38 : ((2147483648 : Nat) : Int) ≤ xE (zyEl zymx B H3) 74 38 + 2147483648 ∧ xE (zyEl zymx B H3) 74 38 + 2147483648 ≤ ((2147484548 : Nat) : Int) := xTyF hT3 74 38 38 rfl rfl rfl rfl rfl rfl
            refine ⟨⟨5, by decide⟩, [0], [0, xE (zyEl zymx B H3) 74 38], rfl, ⟨by decide +kernel, ⟨rfl, by decide +kernel⟩, (xcs_c rfl xcs_n), (xe_0 (xe_c (by omega) (by omega) rfl xe_n)), (xkq_c hT3 74 38 (q := 38) rfl rfl rfl rfl rfl rfl rfl rfl rfl rfl rfl xkq_n)⟩, rfl, ?_, ?_⟩
            · show xE (zyEl zymx B H3) 74 38 = tFr (xE (zyEl zymx B s.heap) 84) (xE (zyEl zymx B s.heap) 74 42) (xE (zyEl zymx B s.heap) 74 39) ∧ tFr (xE (zyEl zymx B s.heap) 84) (xE (zyEl zymx B s.heap) 74 42) (xE (zyEl zymx B s.heap) 74 39) < (xE (zyEl zymx B s.heap) 74 42) ∧ tk ((xE (zyEl zymx B s.heap) 84) (tFr (xE (zyEl zymx B s.heap) 84) (xE (zyEl zymx B s.heap) 74 42) (xE (zyEl zymx B s.heap) 74 39))) = 2 ∧ xE (zyEl zymx B H3) 74 40 = 1 ∧ (zyEl zymx B H3) 74 43 = some (.long (Int64.ofNat 0))
              exact ⟨by omega, by omega, hk, by omega, hst3⟩
            · show 4500 < 5000
              omega
          · skip
            have ex := List.mem_singleton.mp hx
            subst ex
            obtain ⟨hF, hBd, hM⟩ := hXs
            have g1 : v2 1 = v 1 := hag 1 (by decide)
            have g2 : v2 2 = v 2 := hag 2 (by decide)
            have g3 : v2 3 = v 3 := hag 3 (by decide)
            have b0 : ((2147483648 : Nat) : Int) ≤ (v2 1) + 2147483648 ∧ (v2 1) + 2147483648 ≤ ((2147484547 : Nat) : Int) := xXb hBd 0 rfl
            have b1 : ((2147483648 : Nat) : Int) ≤ (v2 3) + 2147483648 ∧ (v2 3) + 2147483648 ≤ ((2147483652 : Nat) : Int) := xXb hBd 1 rfl
            have b2 : ((2147483649 : Nat) : Int) ≤ (v2 4) + 2147483648 ∧ (v2 4) + 2147483648 ≤ ((2147484548 : Nat) : Int) := xXb hBd 2 rfl
            have b3 : ((2147483696 : Nat) : Int) ≤ (v2 5) + 2147483648 ∧ (v2 5) + 2147483648 ≤ ((2147483705 : Nat) : Int) := xXb hBd 3 rfl
            have k0 : xE (zyEl zymx B H) 74 38 = v 1 := xKcf hKc 0 rfl rfl
            have k1 : xE (zyEl zymx B H) 74 39 = v 2 := xKcf hKc 1 rfl rfl
            have k2 : xE (zyEl zymx B H) 74 40 = v 3 := xKcf hKc 2 rfl rfl
            have f0 : (0 : Int) ≤ 42 ∧ xE (zyEl zymx B H) 74 42 = (v2 4) := xXf hF 0 rfl
            have f1 : (v2 4) ≤ (v2 1) := xXf hF 1 rfl
            have f2 : (v2 1) < (v2 4) := xXf hF 2 rfl
            have f3 : (0 : Int) ≤ (v2 1) ∧ xE (zyEl zymx B H) 84 (v2 1) = (v2 5) := xXf hF 3 rfl
            have f4 : 48 ≤ (v2 5) := xXf hF 4 rfl
            have f5 : (v2 5) ≤ 57 := xXf hF 5 rfl
            have m0 : xE (zyEl zymx B H2) 74 38 = (v2 1) := xXm hM 0 rfl
            have m1 : xE (zyEl zymx B H2) 74 39 = (v2 1) := xXm hM 1 rfl
            have m2 : xE (zyEl zymx B H2) 74 40 = (v2 3) := xXm hM 2 rfl
            have m3 : xE (zyEl zymx B H2) 74 41 = 0 := xXm hM 3 rfl
            have e74_38 : xE (zyEl zymx B H2) 74 38 = xE (zyEl zymx B H) 74 38 := xFr_E hfr rfl
            have e74_42 : xE (zyEl zymx B H2) 74 42 = xE (zyEl zymx B H) 74 42 := xFr_E hfr rfl
            have q74_42 : xE (zyEl zymx B H) 74 42 = xE (zyEl zymx B s.heap) 74 42 := xFr_E hFr0 rfl
            have e84 : ∀ i, xE (zyEl zymx B H2) 84 i = xE (zyEl zymx B H) 84 i := fun i => xFr_E hfr rfl
            have q84 : ∀ i, xE (zyEl zymx B H) 84 i = xE (zyEl zymx B s.heap) 84 i := fun i => xFr_E hFr0 rfl
            have y74_42 : ((2147483648 : Nat) : Int) ≤ xE (zyEl zymx B s.heap) 74 42 + 2147483648 ∧ xE (zyEl zymx B s.heap) 74 42 + 2147483648 ≤ ((2147484548 : Nat) : Int) := xTyF hT0 74 42 42 rfl rfl rfl rfl rfl rfl
            have hI : xE (zyEl zymx B H) 74 38 ≤ (xE (zyEl zymx B s.heap) 74 42) ∧ xE (zyEl zymx B H) 74 38 = tFr (xE (zyEl zymx B s.heap) 84) (xE (zyEl zymx B s.heap) 74 42) (xE (zyEl zymx B s.heap) 74 39) ∧ xE (zyEl zymx B H) 74 39 = tFr (xE (zyEl zymx B s.heap) 84) (xE (zyEl zymx B s.heap) 74 42) (xE (zyEl zymx B s.heap) 74 39) + 1 ∧ xE (zyEl zymx B H) 74 40 = rK0 (xE (zyEl zymx B s.heap) 84) (xE (zyEl zymx B s.heap) 74 42) (tFr (xE (zyEl zymx B s.heap) 84) (xE (zyEl zymx B s.heap) 74 42) (xE (zyEl zymx B s.heap) 74 39)) := hInv
            obtain ⟨i1, i2, i3, i4⟩ := hI
            have t3 : xE (zyEl zymx B s.heap) 84 (xE (zyEl zymx B H) 74 38) = (v2 5) := by rw [← q84, show xE (zyEl zymx B H) 74 38 = (v2 1) by omega]; exact f3.2
            rw [i2] at t3
            have hk : tk (xE (zyEl zymx B s.heap) 84 (tFr (xE (zyEl zymx B s.heap) 84) (xE (zyEl zymx B s.heap) 74 42) (xE (zyEl zymx B s.heap) 74 39))) = 3 := by rw [t3]; exact tk3 (by omega) (by omega)
            have z74_39 : ((2147483648 : Nat) : Int) ≤ xE (zyEl zymx B H2) 74 39 + 2147483648 ∧ xE (zyEl zymx B H2) 74 39 + 2147483648 ≤ ((2147484549 : Nat) : Int) := xTyF hT2 74 39 39 rfl rfl rfl rfl rfl rfl
            have z74_38 : ((2147483648 : Nat) : Int) ≤ xE (zyEl zymx B H2) 74 38 + 2147483648 ∧ xE (zyEl zymx B H2) 74 38 + 2147483648 ≤ ((2147484548 : Nat) : Int) := xTyF hT2 74 38 38 rfl rfl rfl rfl rfl rfl
            have z74_41 : ((2147483648 : Nat) : Int) ≤ xE (zyEl zymx B H2) 74 41 + 2147483648 ∧ xE (zyEl zymx B H2) 74 41 + 2147483648 ≤ ((2147484647 : Nat) : Int) := xTyF hT2 74 41 41 rfl rfl rfl rfl rfl rfl
            refine xGo hIH hAt hB hv hFr ⟨8, by decide⟩ [0] [0, xE (zyEl zymx B H2) 74 39, xE (zyEl zymx B H2) 74 38, xE (zyEl zymx B H2) 74 41] rfl ⟨by decide +kernel, ⟨rfl, by decide +kernel⟩, (xcs_c rfl xcs_n), (xe_0 (xe_c (by omega) (by omega) rfl (xe_c (by omega) (by omega) rfl (xe_c (by omega) (by omega) rfl xe_n)))), (xkq_c hT2 74 39 (q := 39) rfl rfl rfl rfl rfl rfl rfl rfl rfl rfl rfl (xkq_c hT2 74 38 (q := 38) rfl rfl rfl rfl rfl rfl rfl rfl rfl rfl rfl (xkq_c hT2 74 41 (q := 41) rfl rfl rfl rfl rfl rfl rfl rfl rfl rfl rfl xkq_n)))⟩ xst_n ?_ ?_
            · show xE (zyEl zymx B H2) 74 38 = tFr (xE (zyEl zymx B s.heap) 84) (xE (zyEl zymx B s.heap) 74 42) (xE (zyEl zymx B s.heap) 74 39) ∧ tFr (xE (zyEl zymx B s.heap) 84) (xE (zyEl zymx B s.heap) 74 42) (xE (zyEl zymx B s.heap) 74 39) < (xE (zyEl zymx B s.heap) 74 42) ∧ tk ((xE (zyEl zymx B s.heap) 84) (tFr (xE (zyEl zymx B s.heap) 84) (xE (zyEl zymx B s.heap) 74 42) (xE (zyEl zymx B s.heap) 74 39))) = 3 ∧ (tFr (xE (zyEl zymx B s.heap) 84) (xE (zyEl zymx B s.heap) 74 42) (xE (zyEl zymx B s.heap) 74 39) ≤ xE (zyEl zymx B H2) 74 39 ∧ xE (zyEl zymx B H2) 74 39 ≤ (xE (zyEl zymx B s.heap) 74 42)) ∧ tRn (xE (zyEl zymx B s.heap) 84) (xE (zyEl zymx B s.heap) 74 42) 3 (xE (zyEl zymx B H2) 74 39) = tRn (xE (zyEl zymx B s.heap) 84) (xE (zyEl zymx B s.heap) 74 42) 3 (tFr (xE (zyEl zymx B s.heap) 84) (xE (zyEl zymx B s.heap) 74 42) (xE (zyEl zymx B s.heap) 74 39)) ∧ ((xE (zyEl zymx B H2) 74 39 = tFr (xE (zyEl zymx B s.heap) 84) (xE (zyEl zymx B s.heap) 74 42) (xE (zyEl zymx B s.heap) 74 39) ∧ xE (zyEl zymx B H2) 74 41 = 0) ∨ (xE (zyEl zymx B H2) 74 39 = tFr (xE (zyEl zymx B s.heap) 84) (xE (zyEl zymx B s.heap) 74 42) (xE (zyEl zymx B s.heap) 74 39) + 1 ∧ xE (zyEl zymx B H2) 74 41 ≤ 9) ∨ (xE (zyEl zymx B H2) 74 39 = tFr (xE (zyEl zymx B s.heap) 84) (xE (zyEl zymx B s.heap) 74 42) (xE (zyEl zymx B s.heap) 74 39) + 2 ∧ xE (zyEl zymx B H2) 74 41 ≤ 99) ∨ tFr (xE (zyEl zymx B s.heap) 84) (xE (zyEl zymx B s.heap) 74 42) (xE (zyEl zymx B s.heap) 74 39) + 3 ≤ xE (zyEl zymx B H2) 74 39) ∧ (xE (zyEl zymx B H2) 74 39 ≤ tFr (xE (zyEl zymx B s.heap) 84) (xE (zyEl zymx B s.heap) 74 42) (xE (zyEl zymx B s.heap) 74 39) + 3 → tVl (xE (zyEl zymx B s.heap) 84) (tNx (xE (zyEl zymx B s.heap) 84) (xE (zyEl zymx B s.heap) 74 42) (xE (zyEl zymx B s.heap) 74 39)) (xE (zyEl zymx B H2) 74 39) (xE (zyEl zymx B H2) 74 41) = tVl (xE (zyEl zymx B s.heap) 84) (tNx (xE (zyEl zymx B s.heap) 84) (xE (zyEl zymx B s.heap) 74 42) (xE (zyEl zymx B s.heap) 74 39)) (tFr (xE (zyEl zymx B s.heap) 84) (xE (zyEl zymx B s.heap) 74 42) (xE (zyEl zymx B s.heap) 74 39)) 0)
              have hq : xE (zyEl zymx B H2) 74 39 = tFr (xE (zyEl zymx B s.heap) 84) (xE (zyEl zymx B s.heap) 74 42) (xE (zyEl zymx B s.heap) 74 39) := by omega
              have hv : xE (zyEl zymx B H2) 74 41 = 0 := by omega
              rw [hq, hv]
              exact ⟨by omega, by omega, hk, by omega, rfl, Or.inl ⟨rfl, rfl⟩, fun _ => rfl⟩
            · show 2 * (1000 - xE (zyEl zymx B H2) 74 39).toNat + 1 < 5000
              omega
    · have hx : x ∈ [zxfrd_kx0] := hx
      have hag : ∀ k, k < 2 → v2 k = v k := hag
      have hfr : xFr [(74, 39, 39)] _ _ := hfr
      have ex := List.mem_singleton.mp hx
      subst ex
      obtain ⟨hF, hBd, hM⟩ := hXs
      have g1 : v2 1 = v 1 := hag 1 (by decide)
      have b0 : ((2147483648 : Nat) : Int) ≤ (v2 1) + 2147483648 ∧ (v2 1) + 2147483648 ≤ ((2147484548 : Nat) : Int) := xXb hBd 0 rfl
      have k0 : xE (zyEl zymx B H) 74 38 = v 1 := xKcf hKc 0 rfl rfl
      have m0 : xE (zyEl zymx B H2) 74 38 = (v2 1) := xXm hM 0 rfl
      have m1 : xE (zyEl zymx B H2) 74 39 = (v2 1) := xXm hM 1 rfl
      have e74_38 : xE (zyEl zymx B H2) 74 38 = xE (zyEl zymx B H) 74 38 := xFr_E hfr rfl
      have e74_40 : xE (zyEl zymx B H2) 74 40 = xE (zyEl zymx B H) 74 40 := xFr_E hfr rfl
      have e74_41 : xE (zyEl zymx B H2) 74 41 = xE (zyEl zymx B H) 74 41 := xFr_E hfr rfl
      have e74_42 : xE (zyEl zymx B H2) 74 42 = xE (zyEl zymx B H) 74 42 := xFr_E hfr rfl
      have q74_42 : xE (zyEl zymx B H) 74 42 = xE (zyEl zymx B s.heap) 74 42 := xFr_E hFr0 rfl
      have e84 : ∀ i, xE (zyEl zymx B H2) 84 i = xE (zyEl zymx B H) 84 i := fun i => xFr_E hfr rfl
      have q84 : ∀ i, xE (zyEl zymx B H) 84 i = xE (zyEl zymx B s.heap) 84 i := fun i => xFr_E hFr0 rfl
      have y74_42 : ((2147483648 : Nat) : Int) ≤ xE (zyEl zymx B s.heap) 74 42 + 2147483648 ∧ xE (zyEl zymx B s.heap) 74 42 + 2147483648 ≤ ((2147484548 : Nat) : Int) := xTyF hT0 74 42 42 rfl rfl rfl rfl rfl rfl
      have hI : xE (zyEl zymx B H) 74 38 = tFr (xE (zyEl zymx B s.heap) 84) (xE (zyEl zymx B s.heap) 74 42) (xE (zyEl zymx B s.heap) 74 39) ∧ tFr (xE (zyEl zymx B s.heap) 84) (xE (zyEl zymx B s.heap) 74 42) (xE (zyEl zymx B s.heap) 74 39) < (xE (zyEl zymx B s.heap) 74 42) ∧ tk ((xE (zyEl zymx B s.heap) 84) (tFr (xE (zyEl zymx B s.heap) 84) (xE (zyEl zymx B s.heap) 74 42) (xE (zyEl zymx B s.heap) 74 39))) = 2 ∧ xE (zyEl zymx B H) 74 40 = 1 ∧ (zyEl zymx B H) 74 43 = some (.long (Int64.ofNat 0)) := hInv
      obtain ⟨i1, i2, i3, i4, i5⟩ := hI
      have z74_39 : ((2147483648 : Nat) : Int) ≤ xE (zyEl zymx B H2) 74 39 + 2147483648 ∧ xE (zyEl zymx B H2) 74 39 + 2147483648 ≤ ((2147484549 : Nat) : Int) := xTyF hT2 74 39 39 rfl rfl rfl rfl rfl rfl
      have z74_38 : ((2147483648 : Nat) : Int) ≤ xE (zyEl zymx B H2) 74 38 + 2147483648 ∧ xE (zyEl zymx B H2) 74 38 + 2147483648 ≤ ((2147484548 : Nat) : Int) := xTyF hT2 74 38 38 rfl rfl rfl rfl rfl rfl
      refine xGo hIH hAt hB hv hFr ⟨6, by decide⟩ [0] [0, xE (zyEl zymx B H2) 74 39, xE (zyEl zymx B H2) 74 38] rfl ⟨by decide +kernel, ⟨rfl, by decide +kernel⟩, (xcs_c rfl xcs_n), (xe_0 (xe_c (by omega) (by omega) rfl (xe_c (by omega) (by omega) rfl xe_n))), (xkq_c hT2 74 39 (q := 39) rfl rfl rfl rfl rfl rfl rfl rfl rfl rfl rfl (xkq_c hT2 74 38 (q := 38) rfl rfl rfl rfl rfl rfl rfl rfl rfl rfl rfl xkq_n))⟩ xst_n ?_ ?_
      · show xE (zyEl zymx B H2) 74 38 = tFr (xE (zyEl zymx B s.heap) 84) (xE (zyEl zymx B s.heap) 74 42) (xE (zyEl zymx B s.heap) 74 39) ∧ tFr (xE (zyEl zymx B s.heap) 84) (xE (zyEl zymx B s.heap) 74 42) (xE (zyEl zymx B s.heap) 74 39) < (xE (zyEl zymx B s.heap) 74 42) ∧ tk ((xE (zyEl zymx B s.heap) 84) (tFr (xE (zyEl zymx B s.heap) 84) (xE (zyEl zymx B s.heap) 74 42) (xE (zyEl zymx B s.heap) 74 39))) = 2 ∧ xE (zyEl zymx B H2) 74 40 = 1 ∧ (tFr (xE (zyEl zymx B s.heap) 84) (xE (zyEl zymx B s.heap) 74 42) (xE (zyEl zymx B s.heap) 74 39) ≤ xE (zyEl zymx B H2) 74 39 ∧ xE (zyEl zymx B H2) 74 39 ≤ (xE (zyEl zymx B s.heap) 74 42)) ∧ tRn (xE (zyEl zymx B s.heap) 84) (xE (zyEl zymx B s.heap) 74 42) 2 (xE (zyEl zymx B H2) 74 39) = tRn (xE (zyEl zymx B s.heap) 84) (xE (zyEl zymx B s.heap) 74 42) 2 (tFr (xE (zyEl zymx B s.heap) 84) (xE (zyEl zymx B s.heap) 74 42) (xE (zyEl zymx B s.heap) 74 39)) ∧ (zyEl zymx B H2) 74 43 = some (.long (lLt (xE (zyEl zymx B s.heap) 84) (tFr (xE (zyEl zymx B s.heap) 84) (xE (zyEl zymx B s.heap) 74 42) (xE (zyEl zymx B s.heap) 74 39)) (xE (zyEl zymx B H2) 74 39)))
        have hq : xE (zyEl zymx B H2) 74 39 = tFr (xE (zyEl zymx B s.heap) 84) (xE (zyEl zymx B s.heap) 74 42) (xE (zyEl zymx B s.heap) 74 39) := by omega
        rw [hq]
        exact ⟨by omega, i2, i3, by omega, by omega, rfl, by rw [hfr 74 43 rfl, i5, lLt_0]⟩
      · show 2 * (1000 - xE (zyEl zymx B H2) 74 39).toNat + 1 < 4500
        omega
    · have hx : x ∈ [zxfrd_dx0, zxfrd_dx1] := hx
      have hag : ∀ k, k < 3 → v2 k = v k := hag
      have hfr : xFr [] _ _ := hfr
      rcases List.mem_cons.mp hx with ex | hx
      · subst ex
        obtain ⟨hF, hBd, hM⟩ := hXs
        have g1 : v2 1 = v 1 := hag 1 (by decide)
        have g2 : v2 2 = v 2 := hag 2 (by decide)
        have b0 : ((2147483648 : Nat) : Int) ≤ (v2 1) + 2147483648 ∧ (v2 1) + 2147483648 ≤ ((2147484547 : Nat) : Int) := xXb hBd 0 rfl
        have b1 : ((2147483648 : Nat) : Int) ≤ (v2 2) + 2147483648 ∧ (v2 2) + 2147483648 ≤ ((2147484548 : Nat) : Int) := xXb hBd 1 rfl
        have b2 : ((2147483649 : Nat) : Int) ≤ (v2 3) + 2147483648 ∧ (v2 3) + 2147483648 ≤ ((2147484548 : Nat) : Int) := xXb hBd 2 rfl
        have b3 : ((2147483745 : Nat) : Int) ≤ (v2 4) + 2147483648 ∧ (v2 4) + 2147483648 ≤ ((2147483770 : Nat) : Int) := xXb hBd 3 rfl
        have b4 : ((2147482748 : Nat) : Int) ≤ (v2 5) + 2147483648 ∧ (v2 5) + 2147483648 ≤ ((2147483655 : Nat) : Int) := xXb hBd 4 rfl
        have k0 : xE (zyEl zymx B H) 74 39 = v 1 := xKcf hKc 0 rfl rfl
        have k1 : xE (zyEl zymx B H) 74 38 = v 2 := xKcf hKc 1 rfl rfl
        have f0 : (0 : Int) ≤ 42 ∧ xE (zyEl zymx B H) 74 42 = (v2 3) := xXf hF 0 rfl
        have f1 : (v2 1) < (v2 3) := xXf hF 1 rfl
        have f2 : (0 : Int) ≤ (v2 1) ∧ xE (zyEl zymx B H) 84 (v2 1) = (v2 4) := xXf hF 2 rfl
        have f3 : 97 ≤ (v2 4) := xXf hF 3 rfl
        have f4 : (v2 4) ≤ 122 := xXf hF 4 rfl
        have f5 : -2147483648 ≤ (v2 1) - (v2 2) → (v2 1) - (v2 2) < 2147483648 → (v2 5) = (v2 1) - (v2 2) := xXf hF 5 rfl
        have f5 := f5 (by omega) (by omega)
        have f6 : (v2 5) < 8 := xXf hF 6 rfl
        have m0 : xE (zyEl zymx B H2) 74 39 = (v2 1) := xXm hM 0 rfl
        have m1 : xE (zyEl zymx B H2) 74 38 = (v2 2) := xXm hM 1 rfl
        have e74_38 : xE (zyEl zymx B H2) 74 38 = xE (zyEl zymx B H) 74 38 := xFr_E hfr rfl
        have e74_39 : xE (zyEl zymx B H2) 74 39 = xE (zyEl zymx B H) 74 39 := xFr_E hfr rfl
        have e74_40 : xE (zyEl zymx B H2) 74 40 = xE (zyEl zymx B H) 74 40 := xFr_E hfr rfl
        have e74_41 : xE (zyEl zymx B H2) 74 41 = xE (zyEl zymx B H) 74 41 := xFr_E hfr rfl
        have e74_42 : xE (zyEl zymx B H2) 74 42 = xE (zyEl zymx B H) 74 42 := xFr_E hfr rfl
        have q74_42 : xE (zyEl zymx B H) 74 42 = xE (zyEl zymx B s.heap) 74 42 := xFr_E hFr0 rfl
        have e84 : ∀ i, xE (zyEl zymx B H2) 84 i = xE (zyEl zymx B H) 84 i := fun i => xFr_E hfr rfl
        have q84 : ∀ i, xE (zyEl zymx B H) 84 i = xE (zyEl zymx B s.heap) 84 i := fun i => xFr_E hFr0 rfl
        have y74_42 : ((2147483648 : Nat) : Int) ≤ xE (zyEl zymx B s.heap) 74 42 + 2147483648 ∧ xE (zyEl zymx B s.heap) 74 42 + 2147483648 ≤ ((2147484548 : Nat) : Int) := xTyF hT0 74 42 42 rfl rfl rfl rfl rfl rfl
        have hI : xE (zyEl zymx B H) 74 38 = tFr (xE (zyEl zymx B s.heap) 84) (xE (zyEl zymx B s.heap) 74 42) (xE (zyEl zymx B s.heap) 74 39) ∧ tFr (xE (zyEl zymx B s.heap) 84) (xE (zyEl zymx B s.heap) 74 42) (xE (zyEl zymx B s.heap) 74 39) < (xE (zyEl zymx B s.heap) 74 42) ∧ tk ((xE (zyEl zymx B s.heap) 84) (tFr (xE (zyEl zymx B s.heap) 84) (xE (zyEl zymx B s.heap) 74 42) (xE (zyEl zymx B s.heap) 74 39))) = 2 ∧ xE (zyEl zymx B H) 74 40 = 1 ∧ (tFr (xE (zyEl zymx B s.heap) 84) (xE (zyEl zymx B s.heap) 74 42) (xE (zyEl zymx B s.heap) 74 39) ≤ xE (zyEl zymx B H) 74 39 ∧ xE (zyEl zymx B H) 74 39 ≤ (xE (zyEl zymx B s.heap) 74 42)) ∧ tRn (xE (zyEl zymx B s.heap) 84) (xE (zyEl zymx B s.heap) 74 42) 2 (xE (zyEl zymx B H) 74 39) = tRn (xE (zyEl zymx B s.heap) 84) (xE (zyEl zymx B s.heap) 74 42) 2 (tFr (xE (zyEl zymx B s.heap) 84) (xE (zyEl zymx B s.heap) 74 42) (xE (zyEl zymx B s.heap) 74 39)) ∧ (zyEl zymx B H) 74 43 = some (.long (lLt (xE (zyEl zymx B s.heap) 84) (tFr (xE (zyEl zymx B s.heap) 84) (xE (zyEl zymx B s.heap) 74 42) (xE (zyEl zymx B s.heap) 74 39)) (xE (zyEl zymx B H) 74 39))) := hInv
        obtain ⟨i1, i2, i3, i4, i5, i6, i7⟩ := hI
        have t2 : xE (zyEl zymx B s.heap) 84 (xE (zyEl zymx B H) 74 39) = (v2 4) := by rw [← q84, show xE (zyEl zymx B H) 74 39 = (v2 1) by omega]; exact f2.2
        have hk : tk (xE (zyEl zymx B s.heap) 84 (xE (zyEl zymx B H) 74 39)) = 2 := by rw [t2]; exact tk2 (by omega) (by omega)
        refine xLgo hRl hIH hAt hB hv hFr rfl rfl rfl rfl (lLt (xE (zyEl zymx B s.heap) 84) (tFr (xE (zyEl zymx B s.heap) 84) (xE (zyEl zymx B s.heap) 74 42) (xE (zyEl zymx B s.heap) 74 39)) (xE (zyEl zymx B H) 74 39 + 1)) (Or.inl ⟨rfl, _, (hfr 74 43 rfl).trans i7, by omega, by omega, (lLt_s (by omega) (by omega) (by rw [xI_ofInt (xE_r _ _ _), e84, q84, e74_39])).symm⟩) (fun H3 hT3 hst3 hne3 hFr3 => ?_)
        have hfe3 : ∀ (a2 : Nat) (k2 : Int), ¬ (a2 = 74 ∧ k2.toNat = 43) → xE (zyEl zymx B H3) a2 k2 = xE (zyEl zymx B H2) a2 k2 := fun a2 k2 hne => by unfold xE; rw [hne3 a2 k2.toNat hne]
        have d74_38 : xE (zyEl zymx B H3) 74 38 = xE (zyEl zymx B H2) 74 38 := hfe3 74 38 (by decide)
        have d74_39 : xE (zyEl zymx B H3) 74 39 = xE (zyEl zymx B H2) 74 39 := hfe3 74 39 (by decide)
        have d74_40 : xE (zyEl zymx B H3) 74 40 = xE (zyEl zymx B H2) 74 40 := hfe3 74 40 (by decide)
        have d74_41 : xE (zyEl zymx B H3) 74 41 = xE (zyEl zymx B H2) 74 41 := hfe3 74 41 (by decide)
        have d74_42 : xE (zyEl zymx B H3) 74 42 = xE (zyEl zymx B H2) 74 42 := hfe3 74 42 (by decide)
        have d84 : ∀ i, xE (zyEl zymx B H3) 84 i = xE (zyEl zymx B H2) 84 i := fun i => hfe3 84 i (fun z => absurd z.1 (by decide))
        have z74_39 : ((2147483648 : Nat) : Int) ≤ xE (zyEl zymx B H3) 74 39 + 2147483648 ∧ xE (zyEl zymx B H3) 74 39 + 2147483648 ≤ ((2147484549 : Nat) : Int) := xTyF hT3 74 39 39 rfl rfl rfl rfl rfl rfl
        refine ⟨⟨7, by decide⟩, [0], [0, xE (zyEl zymx B H3) 74 39], rfl, ⟨by decide +kernel, ⟨rfl, by decide +kernel⟩, (xcs_c rfl xcs_n), (xe_0 (xe_c (by omega) (by omega) rfl xe_n)), (xkq_c hT3 74 39 (q := 39) rfl rfl rfl rfl rfl rfl rfl rfl rfl rfl rfl xkq_n)⟩, rfl, ?_, ?_⟩
        · show xE (zyEl zymx B H3) 74 38 = tFr (xE (zyEl zymx B s.heap) 84) (xE (zyEl zymx B s.heap) 74 42) (xE (zyEl zymx B s.heap) 74 39) ∧ tFr (xE (zyEl zymx B s.heap) 84) (xE (zyEl zymx B s.heap) 74 42) (xE (zyEl zymx B s.heap) 74 39) < (xE (zyEl zymx B s.heap) 74 42) ∧ tk ((xE (zyEl zymx B s.heap) 84) (tFr (xE (zyEl zymx B s.heap) 84) (xE (zyEl zymx B s.heap) 74 42) (xE (zyEl zymx B s.heap) 74 39))) = 2 ∧ xE (zyEl zymx B H3) 74 40 = 1 ∧ (tFr (xE (zyEl zymx B s.heap) 84) (xE (zyEl zymx B s.heap) 74 42) (xE (zyEl zymx B s.heap) 74 39) ≤ xE (zyEl zymx B H3) 74 39 ∧ xE (zyEl zymx B H3) 74 39 < (xE (zyEl zymx B s.heap) 74 42)) ∧ tRn (xE (zyEl zymx B s.heap) 84) (xE (zyEl zymx B s.heap) 74 42) 2 (xE (zyEl zymx B H3) 74 39 + 1) = tRn (xE (zyEl zymx B s.heap) 84) (xE (zyEl zymx B s.heap) 74 42) 2 (tFr (xE (zyEl zymx B s.heap) 84) (xE (zyEl zymx B s.heap) 74 42) (xE (zyEl zymx B s.heap) 74 39)) ∧ (zyEl zymx B H3) 74 43 = some (.long (lLt (xE (zyEl zymx B s.heap) 84) (tFr (xE (zyEl zymx B s.heap) 84) (xE (zyEl zymx B s.heap) 74 42) (xE (zyEl zymx B s.heap) 74 39)) (xE (zyEl zymx B H3) 74 39 + 1)))
          have hq : xE (zyEl zymx B H3) 74 39 = xE (zyEl zymx B H) 74 39 := by omega
          rw [hq]
          exact ⟨by omega, i2, i3, by omega, by omega, (tRn_s (by omega) hk).trans i6, hst3⟩
        · show 2 * (1000 - xE (zyEl zymx B H3) 74 39).toNat < 2 * (1000 - xE (zyEl zymx B H) 74 39).toNat + 1
          omega
      · skip
        have ex := List.mem_singleton.mp hx
        subst ex
        obtain ⟨hF, hBd, hM⟩ := hXs
        have g1 : v2 1 = v 1 := hag 1 (by decide)
        have g2 : v2 2 = v 2 := hag 2 (by decide)
        have b0 : ((2147483648 : Nat) : Int) ≤ (v2 1) + 2147483648 ∧ (v2 1) + 2147483648 ≤ ((2147484547 : Nat) : Int) := xXb hBd 0 rfl
        have b1 : ((2147483648 : Nat) : Int) ≤ (v2 2) + 2147483648 ∧ (v2 2) + 2147483648 ≤ ((2147484548 : Nat) : Int) := xXb hBd 1 rfl
        have b2 : ((2147483649 : Nat) : Int) ≤ (v2 3) + 2147483648 ∧ (v2 3) + 2147483648 ≤ ((2147484548 : Nat) : Int) := xXb hBd 2 rfl
        have b3 : ((2147483745 : Nat) : Int) ≤ (v2 4) + 2147483648 ∧ (v2 4) + 2147483648 ≤ ((2147483770 : Nat) : Int) := xXb hBd 3 rfl
        have b4 : ((2147483656 : Nat) : Int) ≤ (v2 5) + 2147483648 ∧ (v2 5) + 2147483648 ≤ ((2147484547 : Nat) : Int) := xXb hBd 4 rfl
        have k0 : xE (zyEl zymx B H) 74 39 = v 1 := xKcf hKc 0 rfl rfl
        have k1 : xE (zyEl zymx B H) 74 38 = v 2 := xKcf hKc 1 rfl rfl
        have f0 : (0 : Int) ≤ 42 ∧ xE (zyEl zymx B H) 74 42 = (v2 3) := xXf hF 0 rfl
        have f1 : (v2 1) < (v2 3) := xXf hF 1 rfl
        have f2 : (0 : Int) ≤ (v2 1) ∧ xE (zyEl zymx B H) 84 (v2 1) = (v2 4) := xXf hF 2 rfl
        have f3 : 97 ≤ (v2 4) := xXf hF 3 rfl
        have f4 : (v2 4) ≤ 122 := xXf hF 4 rfl
        have f5 : -2147483648 ≤ (v2 1) - (v2 2) → (v2 1) - (v2 2) < 2147483648 → (v2 5) = (v2 1) - (v2 2) := xXf hF 5 rfl
        have f5 := f5 (by omega) (by omega)
        have f6 : 8 ≤ (v2 5) := xXf hF 6 rfl
        have m0 : xE (zyEl zymx B H2) 74 39 = (v2 1) := xXm hM 0 rfl
        have m1 : xE (zyEl zymx B H2) 74 38 = (v2 2) := xXm hM 1 rfl
        have e74_38 : xE (zyEl zymx B H2) 74 38 = xE (zyEl zymx B H) 74 38 := xFr_E hfr rfl
        have e74_39 : xE (zyEl zymx B H2) 74 39 = xE (zyEl zymx B H) 74 39 := xFr_E hfr rfl
        have e74_40 : xE (zyEl zymx B H2) 74 40 = xE (zyEl zymx B H) 74 40 := xFr_E hfr rfl
        have e74_41 : xE (zyEl zymx B H2) 74 41 = xE (zyEl zymx B H) 74 41 := xFr_E hfr rfl
        have e74_42 : xE (zyEl zymx B H2) 74 42 = xE (zyEl zymx B H) 74 42 := xFr_E hfr rfl
        have q74_42 : xE (zyEl zymx B H) 74 42 = xE (zyEl zymx B s.heap) 74 42 := xFr_E hFr0 rfl
        have e84 : ∀ i, xE (zyEl zymx B H2) 84 i = xE (zyEl zymx B H) 84 i := fun i => xFr_E hfr rfl
        have q84 : ∀ i, xE (zyEl zymx B H) 84 i = xE (zyEl zymx B s.heap) 84 i := fun i => xFr_E hFr0 rfl
        have y74_42 : ((2147483648 : Nat) : Int) ≤ xE (zyEl zymx B s.heap) 74 42 + 2147483648 ∧ xE (zyEl zymx B s.heap) 74 42 + 2147483648 ≤ ((2147484548 : Nat) : Int) := xTyF hT0 74 42 42 rfl rfl rfl rfl rfl rfl
        have hI : xE (zyEl zymx B H) 74 38 = tFr (xE (zyEl zymx B s.heap) 84) (xE (zyEl zymx B s.heap) 74 42) (xE (zyEl zymx B s.heap) 74 39) ∧ tFr (xE (zyEl zymx B s.heap) 84) (xE (zyEl zymx B s.heap) 74 42) (xE (zyEl zymx B s.heap) 74 39) < (xE (zyEl zymx B s.heap) 74 42) ∧ tk ((xE (zyEl zymx B s.heap) 84) (tFr (xE (zyEl zymx B s.heap) 84) (xE (zyEl zymx B s.heap) 74 42) (xE (zyEl zymx B s.heap) 74 39))) = 2 ∧ xE (zyEl zymx B H) 74 40 = 1 ∧ (tFr (xE (zyEl zymx B s.heap) 84) (xE (zyEl zymx B s.heap) 74 42) (xE (zyEl zymx B s.heap) 74 39) ≤ xE (zyEl zymx B H) 74 39 ∧ xE (zyEl zymx B H) 74 39 ≤ (xE (zyEl zymx B s.heap) 74 42)) ∧ tRn (xE (zyEl zymx B s.heap) 84) (xE (zyEl zymx B s.heap) 74 42) 2 (xE (zyEl zymx B H) 74 39) = tRn (xE (zyEl zymx B s.heap) 84) (xE (zyEl zymx B s.heap) 74 42) 2 (tFr (xE (zyEl zymx B s.heap) 84) (xE (zyEl zymx B s.heap) 74 42) (xE (zyEl zymx B s.heap) 74 39)) ∧ (zyEl zymx B H) 74 43 = some (.long (lLt (xE (zyEl zymx B s.heap) 84) (tFr (xE (zyEl zymx B s.heap) 84) (xE (zyEl zymx B s.heap) 74 42) (xE (zyEl zymx B s.heap) 74 39)) (xE (zyEl zymx B H) 74 39))) := hInv
        obtain ⟨i1, i2, i3, i4, i5, i6, i7⟩ := hI
        have t2 : xE (zyEl zymx B s.heap) 84 (xE (zyEl zymx B H) 74 39) = (v2 4) := by rw [← q84, show xE (zyEl zymx B H) 74 39 = (v2 1) by omega]; exact f2.2
        have hk : tk (xE (zyEl zymx B s.heap) 84 (xE (zyEl zymx B H) 74 39)) = 2 := by rw [t2]; exact tk2 (by omega) (by omega)
        refine xLgo hRl hIH hAt hB hv hFr rfl rfl rfl rfl (lLt (xE (zyEl zymx B s.heap) 84) (tFr (xE (zyEl zymx B s.heap) 84) (xE (zyEl zymx B s.heap) 74 42) (xE (zyEl zymx B s.heap) 74 39)) (xE (zyEl zymx B H) 74 39 + 1)) (Or.inr ⟨rfl, (lLt_8 (by omega)).symm⟩) (fun H3 hT3 hst3 hne3 hFr3 => ?_)
        have hfe3 : ∀ (a2 : Nat) (k2 : Int), ¬ (a2 = 74 ∧ k2.toNat = 43) → xE (zyEl zymx B H3) a2 k2 = xE (zyEl zymx B H2) a2 k2 := fun a2 k2 hne => by unfold xE; rw [hne3 a2 k2.toNat hne]
        have d74_38 : xE (zyEl zymx B H3) 74 38 = xE (zyEl zymx B H2) 74 38 := hfe3 74 38 (by decide)
        have d74_39 : xE (zyEl zymx B H3) 74 39 = xE (zyEl zymx B H2) 74 39 := hfe3 74 39 (by decide)
        have d74_40 : xE (zyEl zymx B H3) 74 40 = xE (zyEl zymx B H2) 74 40 := hfe3 74 40 (by decide)
        have d74_41 : xE (zyEl zymx B H3) 74 41 = xE (zyEl zymx B H2) 74 41 := hfe3 74 41 (by decide)
        have d74_42 : xE (zyEl zymx B H3) 74 42 = xE (zyEl zymx B H2) 74 42 := hfe3 74 42 (by decide)
        have d84 : ∀ i, xE (zyEl zymx B H3) 84 i = xE (zyEl zymx B H2) 84 i := fun i => hfe3 84 i (fun z => absurd z.1 (by decide))
        have z74_39 : ((2147483648 : Nat) : Int) ≤ xE (zyEl zymx B H3) 74 39 + 2147483648 ∧ xE (zyEl zymx B H3) 74 39 + 2147483648 ≤ ((2147484549 : Nat) : Int) := xTyF hT3 74 39 39 rfl rfl rfl rfl rfl rfl
        refine ⟨⟨7, by decide⟩, [0], [0, xE (zyEl zymx B H3) 74 39], rfl, ⟨by decide +kernel, ⟨rfl, by decide +kernel⟩, (xcs_c rfl xcs_n), (xe_0 (xe_c (by omega) (by omega) rfl xe_n)), (xkq_c hT3 74 39 (q := 39) rfl rfl rfl rfl rfl rfl rfl rfl rfl rfl rfl xkq_n)⟩, rfl, ?_, ?_⟩
        · show xE (zyEl zymx B H3) 74 38 = tFr (xE (zyEl zymx B s.heap) 84) (xE (zyEl zymx B s.heap) 74 42) (xE (zyEl zymx B s.heap) 74 39) ∧ tFr (xE (zyEl zymx B s.heap) 84) (xE (zyEl zymx B s.heap) 74 42) (xE (zyEl zymx B s.heap) 74 39) < (xE (zyEl zymx B s.heap) 74 42) ∧ tk ((xE (zyEl zymx B s.heap) 84) (tFr (xE (zyEl zymx B s.heap) 84) (xE (zyEl zymx B s.heap) 74 42) (xE (zyEl zymx B s.heap) 74 39))) = 2 ∧ xE (zyEl zymx B H3) 74 40 = 1 ∧ (tFr (xE (zyEl zymx B s.heap) 84) (xE (zyEl zymx B s.heap) 74 42) (xE (zyEl zymx B s.heap) 74 39) ≤ xE (zyEl zymx B H3) 74 39 ∧ xE (zyEl zymx B H3) 74 39 < (xE (zyEl zymx B s.heap) 74 42)) ∧ tRn (xE (zyEl zymx B s.heap) 84) (xE (zyEl zymx B s.heap) 74 42) 2 (xE (zyEl zymx B H3) 74 39 + 1) = tRn (xE (zyEl zymx B s.heap) 84) (xE (zyEl zymx B s.heap) 74 42) 2 (tFr (xE (zyEl zymx B s.heap) 84) (xE (zyEl zymx B s.heap) 74 42) (xE (zyEl zymx B s.heap) 74 39)) ∧ (zyEl zymx B H3) 74 43 = some (.long (lLt (xE (zyEl zymx B s.heap) 84) (tFr (xE (zyEl zymx B s.heap) 84) (xE (zyEl zymx B s.heap) 74 42) (xE (zyEl zymx B s.heap) 74 39)) (xE (zyEl zymx B H3) 74 39 + 1)))
          have hq : xE (zyEl zymx B H3) 74 39 = xE (zyEl zymx B H) 74 39 := by omega
          rw [hq]
          exact ⟨by omega, i2, i3, by omega, by omega, (tRn_s (by omega) hk).trans i6, hst3⟩
        · show 2 * (1000 - xE (zyEl zymx B H3) 74 39).toNat < 2 * (1000 - xE (zyEl zymx B H) 74 39).toNat + 1
          omega
    · have hx : x ∈ [zxfrd_hx0] := hx
      have hag : ∀ k, k < 2 → v2 k = v k := hag
      have hfr : xFr [(74, 39, 39)] _ _ := hfr
      have ex := List.mem_singleton.mp hx
      subst ex
      obtain ⟨hF, hBd, hM⟩ := hXs
      have g1 : v2 1 = v 1 := hag 1 (by decide)
      have b0 : ((2147483648 : Nat) : Int) ≤ (v2 1) + 2147483648 ∧ (v2 1) + 2147483648 ≤ ((2147484547 : Nat) : Int) := xXb hBd 0 rfl
      have k0 : xE (zyEl zymx B H) 74 39 = v 1 := xKcf hKc 0 rfl rfl
      have m0 : xE (zyEl zymx B H2) 74 39 = (v2 1 + 1) := xXm hM 0 rfl
      have e74_38 : xE (zyEl zymx B H2) 74 38 = xE (zyEl zymx B H) 74 38 := xFr_E hfr rfl
      have e74_40 : xE (zyEl zymx B H2) 74 40 = xE (zyEl zymx B H) 74 40 := xFr_E hfr rfl
      have e74_41 : xE (zyEl zymx B H2) 74 41 = xE (zyEl zymx B H) 74 41 := xFr_E hfr rfl
      have e74_42 : xE (zyEl zymx B H2) 74 42 = xE (zyEl zymx B H) 74 42 := xFr_E hfr rfl
      have q74_42 : xE (zyEl zymx B H) 74 42 = xE (zyEl zymx B s.heap) 74 42 := xFr_E hFr0 rfl
      have e84 : ∀ i, xE (zyEl zymx B H2) 84 i = xE (zyEl zymx B H) 84 i := fun i => xFr_E hfr rfl
      have q84 : ∀ i, xE (zyEl zymx B H) 84 i = xE (zyEl zymx B s.heap) 84 i := fun i => xFr_E hFr0 rfl
      have y74_42 : ((2147483648 : Nat) : Int) ≤ xE (zyEl zymx B s.heap) 74 42 + 2147483648 ∧ xE (zyEl zymx B s.heap) 74 42 + 2147483648 ≤ ((2147484548 : Nat) : Int) := xTyF hT0 74 42 42 rfl rfl rfl rfl rfl rfl
      have hI : xE (zyEl zymx B H) 74 38 = tFr (xE (zyEl zymx B s.heap) 84) (xE (zyEl zymx B s.heap) 74 42) (xE (zyEl zymx B s.heap) 74 39) ∧ tFr (xE (zyEl zymx B s.heap) 84) (xE (zyEl zymx B s.heap) 74 42) (xE (zyEl zymx B s.heap) 74 39) < (xE (zyEl zymx B s.heap) 74 42) ∧ tk ((xE (zyEl zymx B s.heap) 84) (tFr (xE (zyEl zymx B s.heap) 84) (xE (zyEl zymx B s.heap) 74 42) (xE (zyEl zymx B s.heap) 74 39))) = 2 ∧ xE (zyEl zymx B H) 74 40 = 1 ∧ (tFr (xE (zyEl zymx B s.heap) 84) (xE (zyEl zymx B s.heap) 74 42) (xE (zyEl zymx B s.heap) 74 39) ≤ xE (zyEl zymx B H) 74 39 ∧ xE (zyEl zymx B H) 74 39 < (xE (zyEl zymx B s.heap) 74 42)) ∧ tRn (xE (zyEl zymx B s.heap) 84) (xE (zyEl zymx B s.heap) 74 42) 2 (xE (zyEl zymx B H) 74 39 + 1) = tRn (xE (zyEl zymx B s.heap) 84) (xE (zyEl zymx B s.heap) 74 42) 2 (tFr (xE (zyEl zymx B s.heap) 84) (xE (zyEl zymx B s.heap) 74 42) (xE (zyEl zymx B s.heap) 74 39)) ∧ (zyEl zymx B H) 74 43 = some (.long (lLt (xE (zyEl zymx B s.heap) 84) (tFr (xE (zyEl zymx B s.heap) 84) (xE (zyEl zymx B s.heap) 74 42) (xE (zyEl zymx B s.heap) 74 39)) (xE (zyEl zymx B H) 74 39 + 1))) := hInv
      obtain ⟨i1, i2, i3, i4, i5, i6, i7⟩ := hI
      have z74_39 : ((2147483648 : Nat) : Int) ≤ xE (zyEl zymx B H2) 74 39 + 2147483648 ∧ xE (zyEl zymx B H2) 74 39 + 2147483648 ≤ ((2147484549 : Nat) : Int) := xTyF hT2 74 39 39 rfl rfl rfl rfl rfl rfl
      have z74_38 : ((2147483648 : Nat) : Int) ≤ xE (zyEl zymx B H2) 74 38 + 2147483648 ∧ xE (zyEl zymx B H2) 74 38 + 2147483648 ≤ ((2147484548 : Nat) : Int) := xTyF hT2 74 38 38 rfl rfl rfl rfl rfl rfl
      refine xGo hIH hAt hB hv hFr ⟨6, by decide⟩ [0] [0, xE (zyEl zymx B H2) 74 39, xE (zyEl zymx B H2) 74 38] rfl ⟨by decide +kernel, ⟨rfl, by decide +kernel⟩, (xcs_c rfl xcs_n), (xe_0 (xe_c (by omega) (by omega) rfl (xe_c (by omega) (by omega) rfl xe_n))), (xkq_c hT2 74 39 (q := 39) rfl rfl rfl rfl rfl rfl rfl rfl rfl rfl rfl (xkq_c hT2 74 38 (q := 38) rfl rfl rfl rfl rfl rfl rfl rfl rfl rfl rfl xkq_n))⟩ xst_n ?_ ?_
      · show xE (zyEl zymx B H2) 74 38 = tFr (xE (zyEl zymx B s.heap) 84) (xE (zyEl zymx B s.heap) 74 42) (xE (zyEl zymx B s.heap) 74 39) ∧ tFr (xE (zyEl zymx B s.heap) 84) (xE (zyEl zymx B s.heap) 74 42) (xE (zyEl zymx B s.heap) 74 39) < (xE (zyEl zymx B s.heap) 74 42) ∧ tk ((xE (zyEl zymx B s.heap) 84) (tFr (xE (zyEl zymx B s.heap) 84) (xE (zyEl zymx B s.heap) 74 42) (xE (zyEl zymx B s.heap) 74 39))) = 2 ∧ xE (zyEl zymx B H2) 74 40 = 1 ∧ (tFr (xE (zyEl zymx B s.heap) 84) (xE (zyEl zymx B s.heap) 74 42) (xE (zyEl zymx B s.heap) 74 39) ≤ xE (zyEl zymx B H2) 74 39 ∧ xE (zyEl zymx B H2) 74 39 ≤ (xE (zyEl zymx B s.heap) 74 42)) ∧ tRn (xE (zyEl zymx B s.heap) 84) (xE (zyEl zymx B s.heap) 74 42) 2 (xE (zyEl zymx B H2) 74 39) = tRn (xE (zyEl zymx B s.heap) 84) (xE (zyEl zymx B s.heap) 74 42) 2 (tFr (xE (zyEl zymx B s.heap) 84) (xE (zyEl zymx B s.heap) 74 42) (xE (zyEl zymx B s.heap) 74 39)) ∧ (zyEl zymx B H2) 74 43 = some (.long (lLt (xE (zyEl zymx B s.heap) 84) (tFr (xE (zyEl zymx B s.heap) 84) (xE (zyEl zymx B s.heap) 74 42) (xE (zyEl zymx B s.heap) 74 39)) (xE (zyEl zymx B H2) 74 39)))
        have hq : xE (zyEl zymx B H2) 74 39 = xE (zyEl zymx B H) 74 39 + 1 := by omega
        rw [hq]
        exact ⟨by omega, i2, i3, by omega, by omega, i6, (hfr 74 43 rfl).trans i7⟩
      · show 2 * (1000 - xE (zyEl zymx B H2) 74 39).toNat + 1 < 2 * (1000 - xE (zyEl zymx B H) 74 39).toNat
        omega
    · have hx : x ∈ [zxfrd_ex0, zxfrd_ex1] := hx
      have hag : ∀ k, k < 4 → v2 k = v k := hag
      have hfr : xFr [(74, 40, 40)] _ _ := hfr
      rcases List.mem_cons.mp hx with ex | hx
      · subst ex
        obtain ⟨hF, hBd, hM⟩ := hXs
        have g1 : v2 1 = v 1 := hag 1 (by decide)
        have g2 : v2 2 = v 2 := hag 2 (by decide)
        have g3 : v2 3 = v 3 := hag 3 (by decide)
        have b0 : ((2147483648 : Nat) : Int) ≤ (v2 1) + 2147483648 ∧ (v2 1) + 2147483648 ≤ ((2147484547 : Nat) : Int) := xXb hBd 0 rfl
        have b1 : ((2147483648 : Nat) : Int) ≤ (v2 2) + 2147483648 ∧ (v2 2) + 2147483648 ≤ ((2147484548 : Nat) : Int) := xXb hBd 1 rfl
        have b2 : ((2147483648 : Nat) : Int) ≤ (v2 3) + 2147483648 ∧ (v2 3) + 2147483648 ≤ ((2147484647 : Nat) : Int) := xXb hBd 2 rfl
        have b3 : ((2147483649 : Nat) : Int) ≤ (v2 4) + 2147483648 ∧ (v2 4) + 2147483648 ≤ ((2147484548 : Nat) : Int) := xXb hBd 3 rfl
        have b4 : ((2147483696 : Nat) : Int) ≤ (v2 5) + 2147483648 ∧ (v2 5) + 2147483648 ≤ ((2147483705 : Nat) : Int) := xXb hBd 4 rfl
        have b5 : ((2147482748 : Nat) : Int) ≤ (v2 6) + 2147483648 ∧ (v2 6) + 2147483648 ≤ ((2147483650 : Nat) : Int) := xXb hBd 5 rfl
        have b6 : ((2147483648 : Nat) : Int) ≤ (v2 7) + 2147483648 ∧ (v2 7) + 2147483648 ≤ ((2147493638 : Nat) : Int) := xXb hBd 6 rfl
        have b7 : ((2147483520 : Nat) : Int) ≤ (v2 8) + 2147483648 ∧ (v2 8) + 2147483648 ≤ ((2147483775 : Nat) : Int) := xXb hBd 7 rfl
        have b8 : ((2147483520 : Nat) : Int) ≤ (v2 9) + 2147483648 ∧ (v2 9) + 2147483648 ≤ ((2147493765 : Nat) : Int) := xXb hBd 8 rfl
        have b9 : ((2147483472 : Nat) : Int) ≤ (v2 9 + (-48)) + 2147483648 ∧ (v2 9 + (-48)) + 2147483648 ≤ ((2147493717 : Nat) : Int) := xXb hBd 9 rfl
        have k0 : xE (zyEl zymx B H) 74 39 = v 1 := xKcf hKc 0 rfl rfl
        have k1 : xE (zyEl zymx B H) 74 38 = v 2 := xKcf hKc 1 rfl rfl
        have k2 : xE (zyEl zymx B H) 74 41 = v 3 := xKcf hKc 2 rfl rfl
        have f0 : (0 : Int) ≤ 42 ∧ xE (zyEl zymx B H) 74 42 = (v2 4) := xXf hF 0 rfl
        have f1 : (v2 1) < (v2 4) := xXf hF 1 rfl
        have f2 : (0 : Int) ≤ (v2 1) ∧ xE (zyEl zymx B H) 84 (v2 1) = (v2 5) := xXf hF 2 rfl
        have f3 : 48 ≤ (v2 5) := xXf hF 3 rfl
        have f4 : (v2 5) ≤ 57 := xXf hF 4 rfl
        have f5 : -2147483648 ≤ (v2 1) - (v2 2) → (v2 1) - (v2 2) < 2147483648 → (v2 6) = (v2 1) - (v2 2) := xXf hF 5 rfl
        have f5 := f5 (by omega) (by omega)
        have f6 : (v2 6) < 3 := xXf hF 6 rfl
        have f7 : -2147483648 ≤ 10 * (v2 3) → 10 * (v2 3) < 2147483648 → (v2 7) = 10 * (v2 3) := xXf hF 7 rfl
        have f7 := f7 (by omega) (by omega)
        have f8 : (0 : Int) ≤ (v2 1) ∧ xE (zyEl zymx B H) 84 (v2 1) = (v2 8) := xXf hF 8 rfl
        have f9 : -2147483648 ≤ (v2 7) + (v2 8) → (v2 7) + (v2 8) < 2147483648 → (v2 9) = (v2 7) + (v2 8) := xXf hF 9 rfl
        have f9 := f9 (by omega) (by omega)
        have m0 : xE (zyEl zymx B H2) 74 39 = (v2 1) := xXm hM 0 rfl
        have m1 : xE (zyEl zymx B H2) 74 38 = (v2 2) := xXm hM 1 rfl
        have m2 : xE (zyEl zymx B H2) 74 41 = (v2 3) := xXm hM 2 rfl
        have e74_38 : xE (zyEl zymx B H2) 74 38 = xE (zyEl zymx B H) 74 38 := xFr_E hfr rfl
        have e74_39 : xE (zyEl zymx B H2) 74 39 = xE (zyEl zymx B H) 74 39 := xFr_E hfr rfl
        have e74_41 : xE (zyEl zymx B H2) 74 41 = xE (zyEl zymx B H) 74 41 := xFr_E hfr rfl
        have e74_42 : xE (zyEl zymx B H2) 74 42 = xE (zyEl zymx B H) 74 42 := xFr_E hfr rfl
        have q74_42 : xE (zyEl zymx B H) 74 42 = xE (zyEl zymx B s.heap) 74 42 := xFr_E hFr0 rfl
        have e84 : ∀ i, xE (zyEl zymx B H2) 84 i = xE (zyEl zymx B H) 84 i := fun i => xFr_E hfr rfl
        have q84 : ∀ i, xE (zyEl zymx B H) 84 i = xE (zyEl zymx B s.heap) 84 i := fun i => xFr_E hFr0 rfl
        have y74_42 : ((2147483648 : Nat) : Int) ≤ xE (zyEl zymx B s.heap) 74 42 + 2147483648 ∧ xE (zyEl zymx B s.heap) 74 42 + 2147483648 ≤ ((2147484548 : Nat) : Int) := xTyF hT0 74 42 42 rfl rfl rfl rfl rfl rfl
        have hI : xE (zyEl zymx B H) 74 38 = tFr (xE (zyEl zymx B s.heap) 84) (xE (zyEl zymx B s.heap) 74 42) (xE (zyEl zymx B s.heap) 74 39) ∧ tFr (xE (zyEl zymx B s.heap) 84) (xE (zyEl zymx B s.heap) 74 42) (xE (zyEl zymx B s.heap) 74 39) < (xE (zyEl zymx B s.heap) 74 42) ∧ tk ((xE (zyEl zymx B s.heap) 84) (tFr (xE (zyEl zymx B s.heap) 84) (xE (zyEl zymx B s.heap) 74 42) (xE (zyEl zymx B s.heap) 74 39))) = 3 ∧ (tFr (xE (zyEl zymx B s.heap) 84) (xE (zyEl zymx B s.heap) 74 42) (xE (zyEl zymx B s.heap) 74 39) ≤ xE (zyEl zymx B H) 74 39 ∧ xE (zyEl zymx B H) 74 39 ≤ (xE (zyEl zymx B s.heap) 74 42)) ∧ tRn (xE (zyEl zymx B s.heap) 84) (xE (zyEl zymx B s.heap) 74 42) 3 (xE (zyEl zymx B H) 74 39) = tRn (xE (zyEl zymx B s.heap) 84) (xE (zyEl zymx B s.heap) 74 42) 3 (tFr (xE (zyEl zymx B s.heap) 84) (xE (zyEl zymx B s.heap) 74 42) (xE (zyEl zymx B s.heap) 74 39)) ∧ ((xE (zyEl zymx B H) 74 39 = tFr (xE (zyEl zymx B s.heap) 84) (xE (zyEl zymx B s.heap) 74 42) (xE (zyEl zymx B s.heap) 74 39) ∧ xE (zyEl zymx B H) 74 41 = 0) ∨ (xE (zyEl zymx B H) 74 39 = tFr (xE (zyEl zymx B s.heap) 84) (xE (zyEl zymx B s.heap) 74 42) (xE (zyEl zymx B s.heap) 74 39) + 1 ∧ xE (zyEl zymx B H) 74 41 ≤ 9) ∨ (xE (zyEl zymx B H) 74 39 = tFr (xE (zyEl zymx B s.heap) 84) (xE (zyEl zymx B s.heap) 74 42) (xE (zyEl zymx B s.heap) 74 39) + 2 ∧ xE (zyEl zymx B H) 74 41 ≤ 99) ∨ tFr (xE (zyEl zymx B s.heap) 84) (xE (zyEl zymx B s.heap) 74 42) (xE (zyEl zymx B s.heap) 74 39) + 3 ≤ xE (zyEl zymx B H) 74 39) ∧ (xE (zyEl zymx B H) 74 39 ≤ tFr (xE (zyEl zymx B s.heap) 84) (xE (zyEl zymx B s.heap) 74 42) (xE (zyEl zymx B s.heap) 74 39) + 3 → tVl (xE (zyEl zymx B s.heap) 84) (tNx (xE (zyEl zymx B s.heap) 84) (xE (zyEl zymx B s.heap) 74 42) (xE (zyEl zymx B s.heap) 74 39)) (xE (zyEl zymx B H) 74 39) (xE (zyEl zymx B H) 74 41) = tVl (xE (zyEl zymx B s.heap) 84) (tNx (xE (zyEl zymx B s.heap) 84) (xE (zyEl zymx B s.heap) 74 42) (xE (zyEl zymx B s.heap) 74 39)) (tFr (xE (zyEl zymx B s.heap) 84) (xE (zyEl zymx B s.heap) 74 42) (xE (zyEl zymx B s.heap) 74 39)) 0) := hInv
        obtain ⟨i1, i2, i3, i5, i6, i7, i8⟩ := hI
        have t2 : xE (zyEl zymx B s.heap) 84 (xE (zyEl zymx B H) 74 39) = (v2 5) := by rw [← q84, show xE (zyEl zymx B H) 74 39 = (v2 1) by omega]; exact f2.2
        have t8 : xE (zyEl zymx B s.heap) 84 (xE (zyEl zymx B H) 74 39) = (v2 8) := by rw [← q84, show xE (zyEl zymx B H) 74 39 = (v2 1) by omega]; exact f8.2
        have hn1 := tNx_k (T := xE (zyEl zymx B s.heap) 84) (n := xE (zyEl zymx B s.heap) 74 42) (p := xE (zyEl zymx B s.heap) 74 39) i2 (Or.inr i3)
        rw [i3, tRn_s i2 i3] at hn1
        have hk : tk (xE (zyEl zymx B s.heap) 84 (xE (zyEl zymx B H) 74 39)) = 3 := by rw [t2]; exact tk3 (by omega) (by omega)
        have hrs := tRn_s (show xE (zyEl zymx B H) 74 39 < xE (zyEl zymx B s.heap) 74 42 by omega) hk
        have hrb := tRn_b (T := xE (zyEl zymx B s.heap) 84) (n := xE (zyEl zymx B s.heap) 74 42) (k := 3) (p := xE (zyEl zymx B H) 74 39 + 1) (by omega)
        have hq : xE (zyEl zymx B H2) 74 39 = xE (zyEl zymx B H) 74 39 := by omega
        have z74_39 : ((2147483648 : Nat) : Int) ≤ xE (zyEl zymx B H2) 74 39 + 2147483648 ∧ xE (zyEl zymx B H2) 74 39 + 2147483648 ≤ ((2147484549 : Nat) : Int) := xTyF hT2 74 39 39 rfl rfl rfl rfl rfl rfl
        refine xGo hIH hAt hB hv hFr ⟨9, by decide⟩ [0] [0, xE (zyEl zymx B H2) 74 39, (v2 9 + (-48))] rfl ⟨by decide +kernel, ⟨rfl, by decide +kernel⟩, (xcs_c rfl xcs_n), (xe_0 (xe_c (by omega) (by omega) rfl (xe_c (by omega) (by omega) rfl xe_n))), (xkq_c hT2 74 39 (q := 39) rfl rfl rfl rfl rfl rfl rfl rfl rfl rfl rfl xkq_n)⟩ (xst_s 2 rfl rfl rfl (by decide +kernel) rfl (xst_r rfl xst_n)) ?_ ?_
        · show xE (zyEl zymx B H2) 74 38 = tFr (xE (zyEl zymx B s.heap) 84) (xE (zyEl zymx B s.heap) 74 42) (xE (zyEl zymx B s.heap) 74 39) ∧ tFr (xE (zyEl zymx B s.heap) 84) (xE (zyEl zymx B s.heap) 74 42) (xE (zyEl zymx B s.heap) 74 39) < (xE (zyEl zymx B s.heap) 74 42) ∧ tk ((xE (zyEl zymx B s.heap) 84) (tFr (xE (zyEl zymx B s.heap) 84) (xE (zyEl zymx B s.heap) 74 42) (xE (zyEl zymx B s.heap) 74 39))) = 3 ∧ (tFr (xE (zyEl zymx B s.heap) 84) (xE (zyEl zymx B s.heap) 74 42) (xE (zyEl zymx B s.heap) 74 39) ≤ xE (zyEl zymx B H2) 74 39 ∧ xE (zyEl zymx B H2) 74 39 < (xE (zyEl zymx B s.heap) 74 42)) ∧ tRn (xE (zyEl zymx B s.heap) 84) (xE (zyEl zymx B s.heap) 74 42) 3 (xE (zyEl zymx B H2) 74 39 + 1) = tRn (xE (zyEl zymx B s.heap) 84) (xE (zyEl zymx B s.heap) 74 42) 3 (tFr (xE (zyEl zymx B s.heap) 84) (xE (zyEl zymx B s.heap) 74 42) (xE (zyEl zymx B s.heap) 74 39)) ∧ ((xE (zyEl zymx B H2) 74 39 = tFr (xE (zyEl zymx B s.heap) 84) (xE (zyEl zymx B s.heap) 74 42) (xE (zyEl zymx B s.heap) 74 39) ∧ ((v2 9 + (-48)) : Int) ≤ 9) ∨ (xE (zyEl zymx B H2) 74 39 = tFr (xE (zyEl zymx B s.heap) 84) (xE (zyEl zymx B s.heap) 74 42) (xE (zyEl zymx B s.heap) 74 39) + 1 ∧ ((v2 9 + (-48)) : Int) ≤ 99) ∨ tFr (xE (zyEl zymx B s.heap) 84) (xE (zyEl zymx B s.heap) 74 42) (xE (zyEl zymx B s.heap) 74 39) + 2 ≤ xE (zyEl zymx B H2) 74 39) ∧ (xE (zyEl zymx B H2) 74 39 + 1 ≤ tFr (xE (zyEl zymx B s.heap) 84) (xE (zyEl zymx B s.heap) 74 42) (xE (zyEl zymx B s.heap) 74 39) + 3 → tVl (xE (zyEl zymx B s.heap) 84) (tNx (xE (zyEl zymx B s.heap) 84) (xE (zyEl zymx B s.heap) 74 42) (xE (zyEl zymx B s.heap) 74 39)) (xE (zyEl zymx B H2) 74 39 + 1) ((v2 9 + (-48)) : Int) = tVl (xE (zyEl zymx B s.heap) 84) (tNx (xE (zyEl zymx B s.heap) 84) (xE (zyEl zymx B s.heap) 74 42) (xE (zyEl zymx B s.heap) 74 39)) (tFr (xE (zyEl zymx B s.heap) 84) (xE (zyEl zymx B s.heap) 74 42) (xE (zyEl zymx B s.heap) 74 39)) 0)
          rw [hq]
          exact ⟨by omega, i2, i3, by omega, hrs.trans i6, by omega, fun h => by rw [show (v2 9 + (-48)) = 10 * xE (zyEl zymx B H) 74 41 + xE (zyEl zymx B s.heap) 84 (xE (zyEl zymx B H) 74 39) - 48 by omega]; exact (tVl_s (by omega)).trans (i8 (by omega))⟩
        · show 2 * (1000 - xE (zyEl zymx B H2) 74 39).toNat < 2 * (1000 - xE (zyEl zymx B H) 74 39).toNat + 1
          omega
      · skip
        have ex := List.mem_singleton.mp hx
        subst ex
        obtain ⟨hF, hBd, hM⟩ := hXs
        have g1 : v2 1 = v 1 := hag 1 (by decide)
        have g2 : v2 2 = v 2 := hag 2 (by decide)
        have g3 : v2 3 = v 3 := hag 3 (by decide)
        have b0 : ((2147483648 : Nat) : Int) ≤ (v2 1) + 2147483648 ∧ (v2 1) + 2147483648 ≤ ((2147484547 : Nat) : Int) := xXb hBd 0 rfl
        have b1 : ((2147483648 : Nat) : Int) ≤ (v2 2) + 2147483648 ∧ (v2 2) + 2147483648 ≤ ((2147484548 : Nat) : Int) := xXb hBd 1 rfl
        have b2 : ((2147483648 : Nat) : Int) ≤ (v2 3) + 2147483648 ∧ (v2 3) + 2147483648 ≤ ((2147484647 : Nat) : Int) := xXb hBd 2 rfl
        have b3 : ((2147483649 : Nat) : Int) ≤ (v2 4) + 2147483648 ∧ (v2 4) + 2147483648 ≤ ((2147484548 : Nat) : Int) := xXb hBd 3 rfl
        have b4 : ((2147483696 : Nat) : Int) ≤ (v2 5) + 2147483648 ∧ (v2 5) + 2147483648 ≤ ((2147483705 : Nat) : Int) := xXb hBd 4 rfl
        have b5 : ((2147483651 : Nat) : Int) ≤ (v2 6) + 2147483648 ∧ (v2 6) + 2147483648 ≤ ((2147484547 : Nat) : Int) := xXb hBd 5 rfl
        have k0 : xE (zyEl zymx B H) 74 39 = v 1 := xKcf hKc 0 rfl rfl
        have k1 : xE (zyEl zymx B H) 74 38 = v 2 := xKcf hKc 1 rfl rfl
        have k2 : xE (zyEl zymx B H) 74 41 = v 3 := xKcf hKc 2 rfl rfl
        have f0 : (0 : Int) ≤ 42 ∧ xE (zyEl zymx B H) 74 42 = (v2 4) := xXf hF 0 rfl
        have f1 : (v2 1) < (v2 4) := xXf hF 1 rfl
        have f2 : (0 : Int) ≤ (v2 1) ∧ xE (zyEl zymx B H) 84 (v2 1) = (v2 5) := xXf hF 2 rfl
        have f3 : 48 ≤ (v2 5) := xXf hF 3 rfl
        have f4 : (v2 5) ≤ 57 := xXf hF 4 rfl
        have f5 : -2147483648 ≤ (v2 1) - (v2 2) → (v2 1) - (v2 2) < 2147483648 → (v2 6) = (v2 1) - (v2 2) := xXf hF 5 rfl
        have f5 := f5 (by omega) (by omega)
        have f6 : 3 ≤ (v2 6) := xXf hF 6 rfl
        have m0 : xE (zyEl zymx B H2) 74 39 = (v2 1) := xXm hM 0 rfl
        have m1 : xE (zyEl zymx B H2) 74 38 = (v2 2) := xXm hM 1 rfl
        have m2 : xE (zyEl zymx B H2) 74 41 = (v2 3) := xXm hM 2 rfl
        have e74_38 : xE (zyEl zymx B H2) 74 38 = xE (zyEl zymx B H) 74 38 := xFr_E hfr rfl
        have e74_39 : xE (zyEl zymx B H2) 74 39 = xE (zyEl zymx B H) 74 39 := xFr_E hfr rfl
        have e74_41 : xE (zyEl zymx B H2) 74 41 = xE (zyEl zymx B H) 74 41 := xFr_E hfr rfl
        have e74_42 : xE (zyEl zymx B H2) 74 42 = xE (zyEl zymx B H) 74 42 := xFr_E hfr rfl
        have q74_42 : xE (zyEl zymx B H) 74 42 = xE (zyEl zymx B s.heap) 74 42 := xFr_E hFr0 rfl
        have e84 : ∀ i, xE (zyEl zymx B H2) 84 i = xE (zyEl zymx B H) 84 i := fun i => xFr_E hfr rfl
        have q84 : ∀ i, xE (zyEl zymx B H) 84 i = xE (zyEl zymx B s.heap) 84 i := fun i => xFr_E hFr0 rfl
        have y74_42 : ((2147483648 : Nat) : Int) ≤ xE (zyEl zymx B s.heap) 74 42 + 2147483648 ∧ xE (zyEl zymx B s.heap) 74 42 + 2147483648 ≤ ((2147484548 : Nat) : Int) := xTyF hT0 74 42 42 rfl rfl rfl rfl rfl rfl
        have hI : xE (zyEl zymx B H) 74 38 = tFr (xE (zyEl zymx B s.heap) 84) (xE (zyEl zymx B s.heap) 74 42) (xE (zyEl zymx B s.heap) 74 39) ∧ tFr (xE (zyEl zymx B s.heap) 84) (xE (zyEl zymx B s.heap) 74 42) (xE (zyEl zymx B s.heap) 74 39) < (xE (zyEl zymx B s.heap) 74 42) ∧ tk ((xE (zyEl zymx B s.heap) 84) (tFr (xE (zyEl zymx B s.heap) 84) (xE (zyEl zymx B s.heap) 74 42) (xE (zyEl zymx B s.heap) 74 39))) = 3 ∧ (tFr (xE (zyEl zymx B s.heap) 84) (xE (zyEl zymx B s.heap) 74 42) (xE (zyEl zymx B s.heap) 74 39) ≤ xE (zyEl zymx B H) 74 39 ∧ xE (zyEl zymx B H) 74 39 ≤ (xE (zyEl zymx B s.heap) 74 42)) ∧ tRn (xE (zyEl zymx B s.heap) 84) (xE (zyEl zymx B s.heap) 74 42) 3 (xE (zyEl zymx B H) 74 39) = tRn (xE (zyEl zymx B s.heap) 84) (xE (zyEl zymx B s.heap) 74 42) 3 (tFr (xE (zyEl zymx B s.heap) 84) (xE (zyEl zymx B s.heap) 74 42) (xE (zyEl zymx B s.heap) 74 39)) ∧ ((xE (zyEl zymx B H) 74 39 = tFr (xE (zyEl zymx B s.heap) 84) (xE (zyEl zymx B s.heap) 74 42) (xE (zyEl zymx B s.heap) 74 39) ∧ xE (zyEl zymx B H) 74 41 = 0) ∨ (xE (zyEl zymx B H) 74 39 = tFr (xE (zyEl zymx B s.heap) 84) (xE (zyEl zymx B s.heap) 74 42) (xE (zyEl zymx B s.heap) 74 39) + 1 ∧ xE (zyEl zymx B H) 74 41 ≤ 9) ∨ (xE (zyEl zymx B H) 74 39 = tFr (xE (zyEl zymx B s.heap) 84) (xE (zyEl zymx B s.heap) 74 42) (xE (zyEl zymx B s.heap) 74 39) + 2 ∧ xE (zyEl zymx B H) 74 41 ≤ 99) ∨ tFr (xE (zyEl zymx B s.heap) 84) (xE (zyEl zymx B s.heap) 74 42) (xE (zyEl zymx B s.heap) 74 39) + 3 ≤ xE (zyEl zymx B H) 74 39) ∧ (xE (zyEl zymx B H) 74 39 ≤ tFr (xE (zyEl zymx B s.heap) 84) (xE (zyEl zymx B s.heap) 74 42) (xE (zyEl zymx B s.heap) 74 39) + 3 → tVl (xE (zyEl zymx B s.heap) 84) (tNx (xE (zyEl zymx B s.heap) 84) (xE (zyEl zymx B s.heap) 74 42) (xE (zyEl zymx B s.heap) 74 39)) (xE (zyEl zymx B H) 74 39) (xE (zyEl zymx B H) 74 41) = tVl (xE (zyEl zymx B s.heap) 84) (tNx (xE (zyEl zymx B s.heap) 84) (xE (zyEl zymx B s.heap) 74 42) (xE (zyEl zymx B s.heap) 74 39)) (tFr (xE (zyEl zymx B s.heap) 84) (xE (zyEl zymx B s.heap) 74 42) (xE (zyEl zymx B s.heap) 74 39)) 0) := hInv
        obtain ⟨i1, i2, i3, i5, i6, i7, i8⟩ := hI
        have t2 : xE (zyEl zymx B s.heap) 84 (xE (zyEl zymx B H) 74 39) = (v2 5) := by rw [← q84, show xE (zyEl zymx B H) 74 39 = (v2 1) by omega]; exact f2.2
        have hn1 := tNx_k (T := xE (zyEl zymx B s.heap) 84) (n := xE (zyEl zymx B s.heap) 74 42) (p := xE (zyEl zymx B s.heap) 74 39) i2 (Or.inr i3)
        rw [i3, tRn_s i2 i3] at hn1
        have hk : tk (xE (zyEl zymx B s.heap) 84 (xE (zyEl zymx B H) 74 39)) = 3 := by rw [t2]; exact tk3 (by omega) (by omega)
        have hrs := tRn_s (show xE (zyEl zymx B H) 74 39 < xE (zyEl zymx B s.heap) 74 42 by omega) hk
        have hrb := tRn_b (T := xE (zyEl zymx B s.heap) 84) (n := xE (zyEl zymx B s.heap) 74 42) (k := 3) (p := xE (zyEl zymx B H) 74 39 + 1) (by omega)
        have hq : xE (zyEl zymx B H2) 74 39 = xE (zyEl zymx B H) 74 39 := by omega
        have z74_39 : ((2147483648 : Nat) : Int) ≤ xE (zyEl zymx B H2) 74 39 + 2147483648 ∧ xE (zyEl zymx B H2) 74 39 + 2147483648 ≤ ((2147484549 : Nat) : Int) := xTyF hT2 74 39 39 rfl rfl rfl rfl rfl rfl
        refine xGo hIH hAt hB hv hFr ⟨9, by decide⟩ [0] [0, xE (zyEl zymx B H2) 74 39, (v2 3)] rfl ⟨by decide +kernel, ⟨rfl, by decide +kernel⟩, (xcs_c rfl xcs_n), (xe_0 (xe_c (by omega) (by omega) rfl (xe_c (by omega) (by omega) rfl xe_n))), (xkq_c hT2 74 39 (q := 39) rfl rfl rfl rfl rfl rfl rfl rfl rfl rfl rfl xkq_n)⟩ (xst_s 2 rfl rfl rfl (by decide +kernel) rfl (xst_r rfl xst_n)) ?_ ?_
        · show xE (zyEl zymx B H2) 74 38 = tFr (xE (zyEl zymx B s.heap) 84) (xE (zyEl zymx B s.heap) 74 42) (xE (zyEl zymx B s.heap) 74 39) ∧ tFr (xE (zyEl zymx B s.heap) 84) (xE (zyEl zymx B s.heap) 74 42) (xE (zyEl zymx B s.heap) 74 39) < (xE (zyEl zymx B s.heap) 74 42) ∧ tk ((xE (zyEl zymx B s.heap) 84) (tFr (xE (zyEl zymx B s.heap) 84) (xE (zyEl zymx B s.heap) 74 42) (xE (zyEl zymx B s.heap) 74 39))) = 3 ∧ (tFr (xE (zyEl zymx B s.heap) 84) (xE (zyEl zymx B s.heap) 74 42) (xE (zyEl zymx B s.heap) 74 39) ≤ xE (zyEl zymx B H2) 74 39 ∧ xE (zyEl zymx B H2) 74 39 < (xE (zyEl zymx B s.heap) 74 42)) ∧ tRn (xE (zyEl zymx B s.heap) 84) (xE (zyEl zymx B s.heap) 74 42) 3 (xE (zyEl zymx B H2) 74 39 + 1) = tRn (xE (zyEl zymx B s.heap) 84) (xE (zyEl zymx B s.heap) 74 42) 3 (tFr (xE (zyEl zymx B s.heap) 84) (xE (zyEl zymx B s.heap) 74 42) (xE (zyEl zymx B s.heap) 74 39)) ∧ ((xE (zyEl zymx B H2) 74 39 = tFr (xE (zyEl zymx B s.heap) 84) (xE (zyEl zymx B s.heap) 74 42) (xE (zyEl zymx B s.heap) 74 39) ∧ ((v2 3) : Int) ≤ 9) ∨ (xE (zyEl zymx B H2) 74 39 = tFr (xE (zyEl zymx B s.heap) 84) (xE (zyEl zymx B s.heap) 74 42) (xE (zyEl zymx B s.heap) 74 39) + 1 ∧ ((v2 3) : Int) ≤ 99) ∨ tFr (xE (zyEl zymx B s.heap) 84) (xE (zyEl zymx B s.heap) 74 42) (xE (zyEl zymx B s.heap) 74 39) + 2 ≤ xE (zyEl zymx B H2) 74 39) ∧ (xE (zyEl zymx B H2) 74 39 + 1 ≤ tFr (xE (zyEl zymx B s.heap) 84) (xE (zyEl zymx B s.heap) 74 42) (xE (zyEl zymx B s.heap) 74 39) + 3 → tVl (xE (zyEl zymx B s.heap) 84) (tNx (xE (zyEl zymx B s.heap) 84) (xE (zyEl zymx B s.heap) 74 42) (xE (zyEl zymx B s.heap) 74 39)) (xE (zyEl zymx B H2) 74 39 + 1) ((v2 3) : Int) = tVl (xE (zyEl zymx B s.heap) 84) (tNx (xE (zyEl zymx B s.heap) 84) (xE (zyEl zymx B s.heap) 74 42) (xE (zyEl zymx B s.heap) 74 39)) (tFr (xE (zyEl zymx B s.heap) 84) (xE (zyEl zymx B s.heap) 74 42) (xE (zyEl zymx B s.heap) 74 39)) 0)
          rw [hq]
          exact ⟨by omega, i2, i3, by omega, hrs.trans i6, by omega, fun h => by omega⟩
        · show 2 * (1000 - xE (zyEl zymx B H2) 74 39).toNat < 2 * (1000 - xE (zyEl zymx B H) 74 39).toNat + 1
          omega
    · have hx : x ∈ [zxfrd_fx0] := hx
      have hag : ∀ k, k < 3 → v2 k = v k := hag
      have hfr : xFr [(74, 39, 39), (74, 41, 41)] _ _ := hfr
      have ex := List.mem_singleton.mp hx
      subst ex
      obtain ⟨hF, hBd, hM⟩ := hXs
      have g1 : v2 1 = v 1 := hag 1 (by decide)
      have g2 : v2 2 = v 2 := hag 2 (by decide)
      have b0 : ((2147483648 : Nat) : Int) ≤ (v2 1) + 2147483648 ∧ (v2 1) + 2147483648 ≤ ((2147484547 : Nat) : Int) := xXb hBd 0 rfl
      have b1 : ((2147483648 : Nat) : Int) ≤ (v2 2) + 2147483648 ∧ (v2 2) + 2147483648 ≤ ((2147484647 : Nat) : Int) := xXb hBd 1 rfl
      have k0 : xE (zyEl zymx B H) 74 39 = v 1 := xKcf hKc 0 rfl rfl
      have m0 : xE (zyEl zymx B H2) 74 39 = (v2 1 + 1) := xXm hM 0 rfl
      have m1 : xE (zyEl zymx B H2) 74 41 = (v2 2) := xXm hM 1 rfl
      have e74_38 : xE (zyEl zymx B H2) 74 38 = xE (zyEl zymx B H) 74 38 := xFr_E hfr rfl
      have e74_40 : xE (zyEl zymx B H2) 74 40 = xE (zyEl zymx B H) 74 40 := xFr_E hfr rfl
      have e74_42 : xE (zyEl zymx B H2) 74 42 = xE (zyEl zymx B H) 74 42 := xFr_E hfr rfl
      have q74_42 : xE (zyEl zymx B H) 74 42 = xE (zyEl zymx B s.heap) 74 42 := xFr_E hFr0 rfl
      have e84 : ∀ i, xE (zyEl zymx B H2) 84 i = xE (zyEl zymx B H) 84 i := fun i => xFr_E hfr rfl
      have q84 : ∀ i, xE (zyEl zymx B H) 84 i = xE (zyEl zymx B s.heap) 84 i := fun i => xFr_E hFr0 rfl
      have y74_42 : ((2147483648 : Nat) : Int) ≤ xE (zyEl zymx B s.heap) 74 42 + 2147483648 ∧ xE (zyEl zymx B s.heap) 74 42 + 2147483648 ≤ ((2147484548 : Nat) : Int) := xTyF hT0 74 42 42 rfl rfl rfl rfl rfl rfl
      have hI : xE (zyEl zymx B H) 74 38 = tFr (xE (zyEl zymx B s.heap) 84) (xE (zyEl zymx B s.heap) 74 42) (xE (zyEl zymx B s.heap) 74 39) ∧ tFr (xE (zyEl zymx B s.heap) 84) (xE (zyEl zymx B s.heap) 74 42) (xE (zyEl zymx B s.heap) 74 39) < (xE (zyEl zymx B s.heap) 74 42) ∧ tk ((xE (zyEl zymx B s.heap) 84) (tFr (xE (zyEl zymx B s.heap) 84) (xE (zyEl zymx B s.heap) 74 42) (xE (zyEl zymx B s.heap) 74 39))) = 3 ∧ (tFr (xE (zyEl zymx B s.heap) 84) (xE (zyEl zymx B s.heap) 74 42) (xE (zyEl zymx B s.heap) 74 39) ≤ xE (zyEl zymx B H) 74 39 ∧ xE (zyEl zymx B H) 74 39 < (xE (zyEl zymx B s.heap) 74 42)) ∧ tRn (xE (zyEl zymx B s.heap) 84) (xE (zyEl zymx B s.heap) 74 42) 3 (xE (zyEl zymx B H) 74 39 + 1) = tRn (xE (zyEl zymx B s.heap) 84) (xE (zyEl zymx B s.heap) 74 42) 3 (tFr (xE (zyEl zymx B s.heap) 84) (xE (zyEl zymx B s.heap) 74 42) (xE (zyEl zymx B s.heap) 74 39)) ∧ ((xE (zyEl zymx B H) 74 39 = tFr (xE (zyEl zymx B s.heap) 84) (xE (zyEl zymx B s.heap) 74 42) (xE (zyEl zymx B s.heap) 74 39) ∧ (v 2) ≤ 9) ∨ (xE (zyEl zymx B H) 74 39 = tFr (xE (zyEl zymx B s.heap) 84) (xE (zyEl zymx B s.heap) 74 42) (xE (zyEl zymx B s.heap) 74 39) + 1 ∧ (v 2) ≤ 99) ∨ tFr (xE (zyEl zymx B s.heap) 84) (xE (zyEl zymx B s.heap) 74 42) (xE (zyEl zymx B s.heap) 74 39) + 2 ≤ xE (zyEl zymx B H) 74 39) ∧ (xE (zyEl zymx B H) 74 39 + 1 ≤ tFr (xE (zyEl zymx B s.heap) 84) (xE (zyEl zymx B s.heap) 74 42) (xE (zyEl zymx B s.heap) 74 39) + 3 → tVl (xE (zyEl zymx B s.heap) 84) (tNx (xE (zyEl zymx B s.heap) 84) (xE (zyEl zymx B s.heap) 74 42) (xE (zyEl zymx B s.heap) 74 39)) (xE (zyEl zymx B H) 74 39 + 1) (v 2) = tVl (xE (zyEl zymx B s.heap) 84) (tNx (xE (zyEl zymx B s.heap) 84) (xE (zyEl zymx B s.heap) 74 42) (xE (zyEl zymx B s.heap) 74 39)) (tFr (xE (zyEl zymx B s.heap) 84) (xE (zyEl zymx B s.heap) 74 42) (xE (zyEl zymx B s.heap) 74 39)) 0) := hInv
      obtain ⟨i1, i2, i3, i5, i6, i7, i8⟩ := hI
      have z74_39 : ((2147483648 : Nat) : Int) ≤ xE (zyEl zymx B H2) 74 39 + 2147483648 ∧ xE (zyEl zymx B H2) 74 39 + 2147483648 ≤ ((2147484549 : Nat) : Int) := xTyF hT2 74 39 39 rfl rfl rfl rfl rfl rfl
      have z74_38 : ((2147483648 : Nat) : Int) ≤ xE (zyEl zymx B H2) 74 38 + 2147483648 ∧ xE (zyEl zymx B H2) 74 38 + 2147483648 ≤ ((2147484548 : Nat) : Int) := xTyF hT2 74 38 38 rfl rfl rfl rfl rfl rfl
      have z74_41 : ((2147483648 : Nat) : Int) ≤ xE (zyEl zymx B H2) 74 41 + 2147483648 ∧ xE (zyEl zymx B H2) 74 41 + 2147483648 ≤ ((2147484647 : Nat) : Int) := xTyF hT2 74 41 41 rfl rfl rfl rfl rfl rfl
      refine xGo hIH hAt hB hv hFr ⟨8, by decide⟩ [0] [0, xE (zyEl zymx B H2) 74 39, xE (zyEl zymx B H2) 74 38, xE (zyEl zymx B H2) 74 41] rfl ⟨by decide +kernel, ⟨rfl, by decide +kernel⟩, (xcs_c rfl xcs_n), (xe_0 (xe_c (by omega) (by omega) rfl (xe_c (by omega) (by omega) rfl (xe_c (by omega) (by omega) rfl xe_n)))), (xkq_c hT2 74 39 (q := 39) rfl rfl rfl rfl rfl rfl rfl rfl rfl rfl rfl (xkq_c hT2 74 38 (q := 38) rfl rfl rfl rfl rfl rfl rfl rfl rfl rfl rfl (xkq_c hT2 74 41 (q := 41) rfl rfl rfl rfl rfl rfl rfl rfl rfl rfl rfl xkq_n)))⟩ xst_n ?_ ?_
      · show xE (zyEl zymx B H2) 74 38 = tFr (xE (zyEl zymx B s.heap) 84) (xE (zyEl zymx B s.heap) 74 42) (xE (zyEl zymx B s.heap) 74 39) ∧ tFr (xE (zyEl zymx B s.heap) 84) (xE (zyEl zymx B s.heap) 74 42) (xE (zyEl zymx B s.heap) 74 39) < (xE (zyEl zymx B s.heap) 74 42) ∧ tk ((xE (zyEl zymx B s.heap) 84) (tFr (xE (zyEl zymx B s.heap) 84) (xE (zyEl zymx B s.heap) 74 42) (xE (zyEl zymx B s.heap) 74 39))) = 3 ∧ (tFr (xE (zyEl zymx B s.heap) 84) (xE (zyEl zymx B s.heap) 74 42) (xE (zyEl zymx B s.heap) 74 39) ≤ xE (zyEl zymx B H2) 74 39 ∧ xE (zyEl zymx B H2) 74 39 ≤ (xE (zyEl zymx B s.heap) 74 42)) ∧ tRn (xE (zyEl zymx B s.heap) 84) (xE (zyEl zymx B s.heap) 74 42) 3 (xE (zyEl zymx B H2) 74 39) = tRn (xE (zyEl zymx B s.heap) 84) (xE (zyEl zymx B s.heap) 74 42) 3 (tFr (xE (zyEl zymx B s.heap) 84) (xE (zyEl zymx B s.heap) 74 42) (xE (zyEl zymx B s.heap) 74 39)) ∧ ((xE (zyEl zymx B H2) 74 39 = tFr (xE (zyEl zymx B s.heap) 84) (xE (zyEl zymx B s.heap) 74 42) (xE (zyEl zymx B s.heap) 74 39) ∧ xE (zyEl zymx B H2) 74 41 = 0) ∨ (xE (zyEl zymx B H2) 74 39 = tFr (xE (zyEl zymx B s.heap) 84) (xE (zyEl zymx B s.heap) 74 42) (xE (zyEl zymx B s.heap) 74 39) + 1 ∧ xE (zyEl zymx B H2) 74 41 ≤ 9) ∨ (xE (zyEl zymx B H2) 74 39 = tFr (xE (zyEl zymx B s.heap) 84) (xE (zyEl zymx B s.heap) 74 42) (xE (zyEl zymx B s.heap) 74 39) + 2 ∧ xE (zyEl zymx B H2) 74 41 ≤ 99) ∨ tFr (xE (zyEl zymx B s.heap) 84) (xE (zyEl zymx B s.heap) 74 42) (xE (zyEl zymx B s.heap) 74 39) + 3 ≤ xE (zyEl zymx B H2) 74 39) ∧ (xE (zyEl zymx B H2) 74 39 ≤ tFr (xE (zyEl zymx B s.heap) 84) (xE (zyEl zymx B s.heap) 74 42) (xE (zyEl zymx B s.heap) 74 39) + 3 → tVl (xE (zyEl zymx B s.heap) 84) (tNx (xE (zyEl zymx B s.heap) 84) (xE (zyEl zymx B s.heap) 74 42) (xE (zyEl zymx B s.heap) 74 39)) (xE (zyEl zymx B H2) 74 39) (xE (zyEl zymx B H2) 74 41) = tVl (xE (zyEl zymx B s.heap) 84) (tNx (xE (zyEl zymx B s.heap) 84) (xE (zyEl zymx B s.heap) 74 42) (xE (zyEl zymx B s.heap) 74 39)) (tFr (xE (zyEl zymx B s.heap) 84) (xE (zyEl zymx B s.heap) 74 42) (xE (zyEl zymx B s.heap) 74 39)) 0)
        have hq : xE (zyEl zymx B H2) 74 39 = xE (zyEl zymx B H) 74 39 + 1 := by omega
        have hv2 : xE (zyEl zymx B H2) 74 41 = v 2 := by omega
        rw [hq, hv2]
        exact ⟨by omega, i2, i3, by omega, i6, by omega, fun h => i8 (by omega)⟩
      · show 2 * (1000 - xE (zyEl zymx B H2) 74 39).toNat + 1 < 2 * (1000 - xE (zyEl zymx B H) 74 39).toNat
        omega
  · intro x0 E0 E E2 hrx hT0 hΦ i v hT hrv hInv hKc hFr0 x hx v2 hr2 hXs hag hfr hFr hT2
    rcases i with ⟨i, hi⟩
    have hi2 : i = 0 ∨ i = 1 ∨ i = 2 ∨ i = 3 ∨ i = 4 ∨ i = 5 ∨ i = 6 ∨ i = 7 ∨ i = 8 ∨ i = 9 := by omega
    rcases hi2 with rfl | rfl | rfl | rfl | rfl | rfl | rfl | rfl | rfl | rfl
    · cases hx
    · cases hx
    · cases hx
    · cases hx
    · have hx : x ∈ [zxfrd_gr0, zxfrd_gr1, zxfrd_gr2, zxfrd_gr3, zxfrd_gr4, zxfrd_gr5, zxfrd_gr6, zxfrd_gr7, zxfrd_gr8] := hx
      have hag : ∀ k, k < 4 → v2 k = v k := hag
      have hfr : xFr [(74, 39, 41)] _ _ := hfr
      rcases List.mem_cons.mp hx with ex | hx
      · subst ex
        obtain ⟨hF, hBd, hM⟩ := hXs
        have g1 : v2 1 = v 1 := hag 1 (by decide)
        have g2 : v2 2 = v 2 := hag 2 (by decide)
        have g3 : v2 3 = v 3 := hag 3 (by decide)
        have b0 : ((2147483648 : Nat) : Int) ≤ (v2 1) + 2147483648 ∧ (v2 1) + 2147483648 ≤ ((2147484547 : Nat) : Int) := xXb hBd 0 rfl
        have b1 : ((2147483648 : Nat) : Int) ≤ (v2 2) + 2147483648 ∧ (v2 2) + 2147483648 ≤ ((2147484549 : Nat) : Int) := xXb hBd 1 rfl
        have b2 : ((2147483648 : Nat) : Int) ≤ (v2 3) + 2147483648 ∧ (v2 3) + 2147483648 ≤ ((2147483652 : Nat) : Int) := xXb hBd 2 rfl
        have b3 : ((2147483649 : Nat) : Int) ≤ (v2 4) + 2147483648 ∧ (v2 4) + 2147483648 ≤ ((2147484548 : Nat) : Int) := xXb hBd 3 rfl
        have b4 : ((2147483520 : Nat) : Int) ≤ (v2 5) + 2147483648 ∧ (v2 5) + 2147483648 ≤ ((2147483744 : Nat) : Int) := xXb hBd 4 rfl
        have b5 : ((2147483520 : Nat) : Int) ≤ (v2 6) + 2147483648 ∧ (v2 6) + 2147483648 ≤ ((2147483695 : Nat) : Int) := xXb hBd 5 rfl
        have k0 : xE E 74 38 = v 1 := xKcf hKc 0 rfl rfl
        have k1 : xE E 74 39 = v 2 := xKcf hKc 1 rfl rfl
        have k2 : xE E 74 40 = v 3 := xKcf hKc 2 rfl rfl
        have f0 : (0 : Int) ≤ 42 ∧ xE E 74 42 = (v2 4) := xXf hF 0 rfl
        have f1 : (v2 1) < (v2 4) := xXf hF 1 rfl
        have f2 : (0 : Int) ≤ (v2 1) ∧ xE E 84 (v2 1) = (v2 5) := xXf hF 2 rfl
        have f3 : (v2 5) < 97 := xXf hF 3 rfl
        have f4 : (v2 1) < (v2 4) := xXf hF 4 rfl
        have f5 : (0 : Int) ≤ (v2 1) ∧ xE E 84 (v2 1) = (v2 6) := xXf hF 5 rfl
        have f6 : (v2 6) < 48 := xXf hF 6 rfl
        have m0 : xE E2 74 38 = (v2 1) := xXm hM 0 rfl
        have m1 : xE E2 74 39 = (v2 2) := xXm hM 1 rfl
        have m2 : xE E2 74 40 = (v2 3) := xXm hM 2 rfl
        have e74_38 : xE E2 74 38 = xE E 74 38 := xFr_E hfr rfl
        have e74_42 : xE E2 74 42 = xE E 74 42 := xFr_E hfr rfl
        have q74_42 : xE E 74 42 = xE E0 74 42 := xFr_E hFr0 rfl
        have e84 : ∀ i, xE E2 84 i = xE E 84 i := fun i => xFr_E hfr rfl
        have q84 : ∀ i, xE E 84 i = xE E0 84 i := fun i => xFr_E hFr0 rfl
        have y74_42 : ((2147483648 : Nat) : Int) ≤ xE E0 74 42 + 2147483648 ∧ xE E0 74 42 + 2147483648 ≤ ((2147484548 : Nat) : Int) := xTyF hT0 74 42 42 rfl rfl rfl rfl rfl rfl
        have hI : xE E 74 38 ≤ (xE E0 74 42) ∧ xE E 74 38 = tFr (xE E0 84) (xE E0 74 42) (xE E0 74 39) ∧ xE E 74 39 = tFr (xE E0 84) (xE E0 74 42) (xE E0 74 39) + 1 ∧ xE E 74 40 = rK0 (xE E0 84) (xE E0 74 42) (tFr (xE E0 84) (xE E0 74 42) (xE E0 74 39)) := hInv
        show xΨrd x0 E0 E2 0
        obtain ⟨i1, i2, i3, i4⟩ := hI
        have t2 : xE E0 84 (xE E 74 38) = (v2 5) := by rw [← q84, show xE E 74 38 = (v2 1) by omega]; exact f2.2
        have t5 : xE E0 84 (xE E 74 38) = (v2 6) := by rw [← q84, show xE E 74 38 = (v2 1) by omega]; exact f5.2
        rw [i2] at t2 t5
        unfold xΨrd xRD
        have hs : ∀ s : Int, xE E0 84 (tFr (xE E0 84) (xE E0 74 42) (xE E0 74 39)) = s → ¬ (97 ≤ s ∧ s ≤ 122) → ¬ (48 ≤ s ∧ s ≤ 57) → rK0 (xE E0 84) (xE E0 74 42) (tFr (xE E0 84) (xE E0 74 42) (xE E0 74 39)) = rKd (tk s) ∧ ¬ tk s = 2 ∧ ¬ tk s = 3 := by
          intro s h1 h2 h3
          by_cases c1 : s = 45
          · rw [tk4 c1, rK0_3 (by omega) (by omega)]
            exact ⟨rfl, by decide, by decide⟩
          · by_cases c2 : s = 59
            · rw [tk5 c2, rK0_3 (by omega) (by omega)]
              exact ⟨rfl, by decide, by decide⟩
            · rw [tk1 h2 h3 c1 c2, rK0_4 (by omega) (by omega)]
              exact ⟨rfl, by decide, by decide⟩
        obtain ⟨g1, g2, g3⟩ := hs _ t2 (by omega) (by omega)
        rw [← t2] at g1 g2 g3
        have hkd := tKd_k (T := xE E0 84) (n := xE E0 74 42) (p := xE E0 74 39) (by omega) (fun h => g3 h.1)
        have hnx := tNx_1 (T := xE E0 84) (n := xE E0 74 42) (p := xE E0 74 39) (by omega) (by omega)
        rw [hkd]
        exact ⟨by omega, by rw [← g1]; omega, fun h => by omega, fun h => by omega, fun h => absurd h g3, fun h => absurd h g2⟩
      · skip
        rcases List.mem_cons.mp hx with ex | hx
        · subst ex
          obtain ⟨hF, hBd, hM⟩ := hXs
          have g1 : v2 1 = v 1 := hag 1 (by decide)
          have g2 : v2 2 = v 2 := hag 2 (by decide)
          have g3 : v2 3 = v 3 := hag 3 (by decide)
          have b0 : ((2147483648 : Nat) : Int) ≤ (v2 1) + 2147483648 ∧ (v2 1) + 2147483648 ≤ ((2147484547 : Nat) : Int) := xXb hBd 0 rfl
          have b1 : ((2147483648 : Nat) : Int) ≤ (v2 2) + 2147483648 ∧ (v2 2) + 2147483648 ≤ ((2147484549 : Nat) : Int) := xXb hBd 1 rfl
          have b2 : ((2147483648 : Nat) : Int) ≤ (v2 3) + 2147483648 ∧ (v2 3) + 2147483648 ≤ ((2147483652 : Nat) : Int) := xXb hBd 2 rfl
          have b3 : ((2147483649 : Nat) : Int) ≤ (v2 4) + 2147483648 ∧ (v2 4) + 2147483648 ≤ ((2147484548 : Nat) : Int) := xXb hBd 3 rfl
          have b4 : ((2147483520 : Nat) : Int) ≤ (v2 5) + 2147483648 ∧ (v2 5) + 2147483648 ≤ ((2147483744 : Nat) : Int) := xXb hBd 4 rfl
          have b5 : ((2147483706 : Nat) : Int) ≤ (v2 6) + 2147483648 ∧ (v2 6) + 2147483648 ≤ ((2147483775 : Nat) : Int) := xXb hBd 5 rfl
          have k0 : xE E 74 38 = v 1 := xKcf hKc 0 rfl rfl
          have k1 : xE E 74 39 = v 2 := xKcf hKc 1 rfl rfl
          have k2 : xE E 74 40 = v 3 := xKcf hKc 2 rfl rfl
          have f0 : (0 : Int) ≤ 42 ∧ xE E 74 42 = (v2 4) := xXf hF 0 rfl
          have f1 : (v2 1) < (v2 4) := xXf hF 1 rfl
          have f2 : (0 : Int) ≤ (v2 1) ∧ xE E 84 (v2 1) = (v2 5) := xXf hF 2 rfl
          have f3 : (v2 5) < 97 := xXf hF 3 rfl
          have f4 : (v2 1) < (v2 4) := xXf hF 4 rfl
          have f5 : (0 : Int) ≤ (v2 1) ∧ xE E 84 (v2 1) = (v2 6) := xXf hF 5 rfl
          have f6 : 48 ≤ (v2 6) := xXf hF 6 rfl
          have f7 : 57 < (v2 6) := xXf hF 7 rfl
          have m0 : xE E2 74 38 = (v2 1) := xXm hM 0 rfl
          have m1 : xE E2 74 39 = (v2 2) := xXm hM 1 rfl
          have m2 : xE E2 74 40 = (v2 3) := xXm hM 2 rfl
          have e74_38 : xE E2 74 38 = xE E 74 38 := xFr_E hfr rfl
          have e74_42 : xE E2 74 42 = xE E 74 42 := xFr_E hfr rfl
          have q74_42 : xE E 74 42 = xE E0 74 42 := xFr_E hFr0 rfl
          have e84 : ∀ i, xE E2 84 i = xE E 84 i := fun i => xFr_E hfr rfl
          have q84 : ∀ i, xE E 84 i = xE E0 84 i := fun i => xFr_E hFr0 rfl
          have y74_42 : ((2147483648 : Nat) : Int) ≤ xE E0 74 42 + 2147483648 ∧ xE E0 74 42 + 2147483648 ≤ ((2147484548 : Nat) : Int) := xTyF hT0 74 42 42 rfl rfl rfl rfl rfl rfl
          have hI : xE E 74 38 ≤ (xE E0 74 42) ∧ xE E 74 38 = tFr (xE E0 84) (xE E0 74 42) (xE E0 74 39) ∧ xE E 74 39 = tFr (xE E0 84) (xE E0 74 42) (xE E0 74 39) + 1 ∧ xE E 74 40 = rK0 (xE E0 84) (xE E0 74 42) (tFr (xE E0 84) (xE E0 74 42) (xE E0 74 39)) := hInv
          show xΨrd x0 E0 E2 0
          obtain ⟨i1, i2, i3, i4⟩ := hI
          have t2 : xE E0 84 (xE E 74 38) = (v2 5) := by rw [← q84, show xE E 74 38 = (v2 1) by omega]; exact f2.2
          have t5 : xE E0 84 (xE E 74 38) = (v2 6) := by rw [← q84, show xE E 74 38 = (v2 1) by omega]; exact f5.2
          rw [i2] at t2 t5
          unfold xΨrd xRD
          have hs : ∀ s : Int, xE E0 84 (tFr (xE E0 84) (xE E0 74 42) (xE E0 74 39)) = s → ¬ (97 ≤ s ∧ s ≤ 122) → ¬ (48 ≤ s ∧ s ≤ 57) → rK0 (xE E0 84) (xE E0 74 42) (tFr (xE E0 84) (xE E0 74 42) (xE E0 74 39)) = rKd (tk s) ∧ ¬ tk s = 2 ∧ ¬ tk s = 3 := by
            intro s h1 h2 h3
            by_cases c1 : s = 45
            · rw [tk4 c1, rK0_3 (by omega) (by omega)]
              exact ⟨rfl, by decide, by decide⟩
            · by_cases c2 : s = 59
              · rw [tk5 c2, rK0_3 (by omega) (by omega)]
                exact ⟨rfl, by decide, by decide⟩
              · rw [tk1 h2 h3 c1 c2, rK0_4 (by omega) (by omega)]
                exact ⟨rfl, by decide, by decide⟩
          obtain ⟨g1, g2, g3⟩ := hs _ t2 (by omega) (by omega)
          rw [← t2] at g1 g2 g3
          have hkd := tKd_k (T := xE E0 84) (n := xE E0 74 42) (p := xE E0 74 39) (by omega) (fun h => g3 h.1)
          have hnx := tNx_1 (T := xE E0 84) (n := xE E0 74 42) (p := xE E0 74 39) (by omega) (by omega)
          rw [hkd]
          exact ⟨by omega, by rw [← g1]; omega, fun h => by omega, fun h => by omega, fun h => absurd h g3, fun h => absurd h g2⟩
        · skip
          rcases List.mem_cons.mp hx with ex | hx
          · subst ex
            obtain ⟨hF, hBd, hM⟩ := hXs
            have g1 : v2 1 = v 1 := hag 1 (by decide)
            have g2 : v2 2 = v 2 := hag 2 (by decide)
            have g3 : v2 3 = v 3 := hag 3 (by decide)
            have b0 : ((2147483649 : Nat) : Int) ≤ (v2 1) + 2147483648 ∧ (v2 1) + 2147483648 ≤ ((2147484547 : Nat) : Int) := xXb hBd 0 rfl
            have b1 : ((2147483648 : Nat) : Int) ≤ (v2 2) + 2147483648 ∧ (v2 2) + 2147483648 ≤ ((2147484549 : Nat) : Int) := xXb hBd 1 rfl
            have b2 : ((2147483648 : Nat) : Int) ≤ (v2 3) + 2147483648 ∧ (v2 3) + 2147483648 ≤ ((2147483652 : Nat) : Int) := xXb hBd 2 rfl
            have b3 : ((2147483649 : Nat) : Int) ≤ (v2 4) + 2147483648 ∧ (v2 4) + 2147483648 ≤ ((2147484547 : Nat) : Int) := xXb hBd 3 rfl
            have b4 : ((2147483520 : Nat) : Int) ≤ (v2 5) + 2147483648 ∧ (v2 5) + 2147483648 ≤ ((2147483744 : Nat) : Int) := xXb hBd 4 rfl
            have k0 : xE E 74 38 = v 1 := xKcf hKc 0 rfl rfl
            have k1 : xE E 74 39 = v 2 := xKcf hKc 1 rfl rfl
            have k2 : xE E 74 40 = v 3 := xKcf hKc 2 rfl rfl
            have f0 : (0 : Int) ≤ 42 ∧ xE E 74 42 = (v2 4) := xXf hF 0 rfl
            have f1 : (v2 1) < (v2 4) := xXf hF 1 rfl
            have f2 : (0 : Int) ≤ (v2 1) ∧ xE E 84 (v2 1) = (v2 5) := xXf hF 2 rfl
            have f3 : (v2 5) < 97 := xXf hF 3 rfl
            have f4 : (v2 4) ≤ (v2 1) := xXf hF 4 rfl
            have m0 : xE E2 74 38 = (v2 1) := xXm hM 0 rfl
            have m1 : xE E2 74 39 = (v2 2) := xXm hM 1 rfl
            have m2 : xE E2 74 40 = (v2 3) := xXm hM 2 rfl
            have e74_38 : xE E2 74 38 = xE E 74 38 := xFr_E hfr rfl
            have e74_42 : xE E2 74 42 = xE E 74 42 := xFr_E hfr rfl
            have q74_42 : xE E 74 42 = xE E0 74 42 := xFr_E hFr0 rfl
            have e84 : ∀ i, xE E2 84 i = xE E 84 i := fun i => xFr_E hfr rfl
            have q84 : ∀ i, xE E 84 i = xE E0 84 i := fun i => xFr_E hFr0 rfl
            have y74_42 : ((2147483648 : Nat) : Int) ≤ xE E0 74 42 + 2147483648 ∧ xE E0 74 42 + 2147483648 ≤ ((2147484548 : Nat) : Int) := xTyF hT0 74 42 42 rfl rfl rfl rfl rfl rfl
            have hI : xE E 74 38 ≤ (xE E0 74 42) ∧ xE E 74 38 = tFr (xE E0 84) (xE E0 74 42) (xE E0 74 39) ∧ xE E 74 39 = tFr (xE E0 84) (xE E0 74 42) (xE E0 74 39) + 1 ∧ xE E 74 40 = rK0 (xE E0 84) (xE E0 74 42) (tFr (xE E0 84) (xE E0 74 42) (xE E0 74 39)) := hInv
            show xΨrd x0 E0 E2 0
            obtain ⟨i1, i2, i3, i4⟩ := hI
            have t2 : xE E0 84 (xE E 74 38) = (v2 5) := by rw [← q84, show xE E 74 38 = (v2 1) by omega]; exact f2.2
            rw [i2] at t2
            unfold xΨrd xRD
            have hs : ∀ s : Int, xE E0 84 (tFr (xE E0 84) (xE E0 74 42) (xE E0 74 39)) = s → ¬ (97 ≤ s ∧ s ≤ 122) → ¬ (48 ≤ s ∧ s ≤ 57) → rK0 (xE E0 84) (xE E0 74 42) (tFr (xE E0 84) (xE E0 74 42) (xE E0 74 39)) = rKd (tk s) ∧ ¬ tk s = 2 ∧ ¬ tk s = 3 := by
              intro s h1 h2 h3
              by_cases c1 : s = 45
              · rw [tk4 c1, rK0_3 (by omega) (by omega)]
                exact ⟨rfl, by decide, by decide⟩
              · by_cases c2 : s = 59
                · rw [tk5 c2, rK0_3 (by omega) (by omega)]
                  exact ⟨rfl, by decide, by decide⟩
                · rw [tk1 h2 h3 c1 c2, rK0_4 (by omega) (by omega)]
                  exact ⟨rfl, by decide, by decide⟩
            obtain ⟨g1, g2, g3⟩ := hs _ t2 (by omega) (by omega)
            rw [← t2] at g1 g2 g3
            have hkd := tKd_k (T := xE E0 84) (n := xE E0 74 42) (p := xE E0 74 39) (by omega) (fun h => g3 h.1)
            have hnx := tNx_1 (T := xE E0 84) (n := xE E0 74 42) (p := xE E0 74 39) (by omega) (by omega)
            rw [hkd]
            exact ⟨by omega, by rw [← g1]; omega, fun h => by omega, fun h => by omega, fun h => absurd h g3, fun h => absurd h g2⟩
          · skip
            rcases List.mem_cons.mp hx with ex | hx
            · subst ex
              obtain ⟨hF, hBd, hM⟩ := hXs
              have g1 : v2 1 = v 1 := hag 1 (by decide)
              have g2 : v2 2 = v 2 := hag 2 (by decide)
              have g3 : v2 3 = v 3 := hag 3 (by decide)
              have b0 : ((2147483648 : Nat) : Int) ≤ (v2 1) + 2147483648 ∧ (v2 1) + 2147483648 ≤ ((2147484547 : Nat) : Int) := xXb hBd 0 rfl
              have b1 : ((2147483648 : Nat) : Int) ≤ (v2 2) + 2147483648 ∧ (v2 2) + 2147483648 ≤ ((2147484549 : Nat) : Int) := xXb hBd 1 rfl
              have b2 : ((2147483648 : Nat) : Int) ≤ (v2 3) + 2147483648 ∧ (v2 3) + 2147483648 ≤ ((2147483652 : Nat) : Int) := xXb hBd 2 rfl
              have b3 : ((2147483649 : Nat) : Int) ≤ (v2 4) + 2147483648 ∧ (v2 4) + 2147483648 ≤ ((2147484548 : Nat) : Int) := xXb hBd 3 rfl
              have b4 : ((2147483771 : Nat) : Int) ≤ (v2 5) + 2147483648 ∧ (v2 5) + 2147483648 ≤ ((2147483775 : Nat) : Int) := xXb hBd 4 rfl
              have b5 : ((2147483520 : Nat) : Int) ≤ (v2 6) + 2147483648 ∧ (v2 6) + 2147483648 ≤ ((2147483695 : Nat) : Int) := xXb hBd 5 rfl
              have k0 : xE E 74 38 = v 1 := xKcf hKc 0 rfl rfl
              have k1 : xE E 74 39 = v 2 := xKcf hKc 1 rfl rfl
              have k2 : xE E 74 40 = v 3 := xKcf hKc 2 rfl rfl
              have f0 : (0 : Int) ≤ 42 ∧ xE E 74 42 = (v2 4) := xXf hF 0 rfl
              have f1 : (v2 1) < (v2 4) := xXf hF 1 rfl
              have f2 : (0 : Int) ≤ (v2 1) ∧ xE E 84 (v2 1) = (v2 5) := xXf hF 2 rfl
              have f3 : 97 ≤ (v2 5) := xXf hF 3 rfl
              have f4 : 122 < (v2 5) := xXf hF 4 rfl
              have f5 : (v2 1) < (v2 4) := xXf hF 5 rfl
              have f6 : (0 : Int) ≤ (v2 1) ∧ xE E 84 (v2 1) = (v2 6) := xXf hF 6 rfl
              have f7 : (v2 6) < 48 := xXf hF 7 rfl
              have m0 : xE E2 74 38 = (v2 1) := xXm hM 0 rfl
              have m1 : xE E2 74 39 = (v2 2) := xXm hM 1 rfl
              have m2 : xE E2 74 40 = (v2 3) := xXm hM 2 rfl
              have e74_38 : xE E2 74 38 = xE E 74 38 := xFr_E hfr rfl
              have e74_42 : xE E2 74 42 = xE E 74 42 := xFr_E hfr rfl
              have q74_42 : xE E 74 42 = xE E0 74 42 := xFr_E hFr0 rfl
              have e84 : ∀ i, xE E2 84 i = xE E 84 i := fun i => xFr_E hfr rfl
              have q84 : ∀ i, xE E 84 i = xE E0 84 i := fun i => xFr_E hFr0 rfl
              have y74_42 : ((2147483648 : Nat) : Int) ≤ xE E0 74 42 + 2147483648 ∧ xE E0 74 42 + 2147483648 ≤ ((2147484548 : Nat) : Int) := xTyF hT0 74 42 42 rfl rfl rfl rfl rfl rfl
              have hI : xE E 74 38 ≤ (xE E0 74 42) ∧ xE E 74 38 = tFr (xE E0 84) (xE E0 74 42) (xE E0 74 39) ∧ xE E 74 39 = tFr (xE E0 84) (xE E0 74 42) (xE E0 74 39) + 1 ∧ xE E 74 40 = rK0 (xE E0 84) (xE E0 74 42) (tFr (xE E0 84) (xE E0 74 42) (xE E0 74 39)) := hInv
              show xΨrd x0 E0 E2 0
              obtain ⟨i1, i2, i3, i4⟩ := hI
              have t2 : xE E0 84 (xE E 74 38) = (v2 5) := by rw [← q84, show xE E 74 38 = (v2 1) by omega]; exact f2.2
              have t6 : xE E0 84 (xE E 74 38) = (v2 6) := by rw [← q84, show xE E 74 38 = (v2 1) by omega]; exact f6.2
              rw [i2] at t2 t6
              unfold xΨrd xRD
              have hs : ∀ s : Int, xE E0 84 (tFr (xE E0 84) (xE E0 74 42) (xE E0 74 39)) = s → ¬ (97 ≤ s ∧ s ≤ 122) → ¬ (48 ≤ s ∧ s ≤ 57) → rK0 (xE E0 84) (xE E0 74 42) (tFr (xE E0 84) (xE E0 74 42) (xE E0 74 39)) = rKd (tk s) ∧ ¬ tk s = 2 ∧ ¬ tk s = 3 := by
                intro s h1 h2 h3
                by_cases c1 : s = 45
                · rw [tk4 c1, rK0_3 (by omega) (by omega)]
                  exact ⟨rfl, by decide, by decide⟩
                · by_cases c2 : s = 59
                  · rw [tk5 c2, rK0_3 (by omega) (by omega)]
                    exact ⟨rfl, by decide, by decide⟩
                  · rw [tk1 h2 h3 c1 c2, rK0_4 (by omega) (by omega)]
                    exact ⟨rfl, by decide, by decide⟩
              obtain ⟨g1, g2, g3⟩ := hs _ t2 (by omega) (by omega)
              rw [← t2] at g1 g2 g3
              have hkd := tKd_k (T := xE E0 84) (n := xE E0 74 42) (p := xE E0 74 39) (by omega) (fun h => g3 h.1)
              have hnx := tNx_1 (T := xE E0 84) (n := xE E0 74 42) (p := xE E0 74 39) (by omega) (by omega)
              rw [hkd]
              exact ⟨by omega, by rw [← g1]; omega, fun h => by omega, fun h => by omega, fun h => absurd h g3, fun h => absurd h g2⟩
            · skip
              rcases List.mem_cons.mp hx with ex | hx
              · subst ex
                obtain ⟨hF, hBd, hM⟩ := hXs
                have g1 : v2 1 = v 1 := hag 1 (by decide)
                have g2 : v2 2 = v 2 := hag 2 (by decide)
                have g3 : v2 3 = v 3 := hag 3 (by decide)
                have b0 : ((2147483648 : Nat) : Int) ≤ (v2 1) + 2147483648 ∧ (v2 1) + 2147483648 ≤ ((2147484547 : Nat) : Int) := xXb hBd 0 rfl
                have b1 : ((2147483648 : Nat) : Int) ≤ (v2 2) + 2147483648 ∧ (v2 2) + 2147483648 ≤ ((2147484549 : Nat) : Int) := xXb hBd 1 rfl
                have b2 : ((2147483648 : Nat) : Int) ≤ (v2 3) + 2147483648 ∧ (v2 3) + 2147483648 ≤ ((2147483652 : Nat) : Int) := xXb hBd 2 rfl
                have b3 : ((2147483649 : Nat) : Int) ≤ (v2 4) + 2147483648 ∧ (v2 4) + 2147483648 ≤ ((2147484548 : Nat) : Int) := xXb hBd 3 rfl
                have b4 : ((2147483771 : Nat) : Int) ≤ (v2 5) + 2147483648 ∧ (v2 5) + 2147483648 ≤ ((2147483775 : Nat) : Int) := xXb hBd 4 rfl
                have b5 : ((2147483706 : Nat) : Int) ≤ (v2 6) + 2147483648 ∧ (v2 6) + 2147483648 ≤ ((2147483775 : Nat) : Int) := xXb hBd 5 rfl
                have k0 : xE E 74 38 = v 1 := xKcf hKc 0 rfl rfl
                have k1 : xE E 74 39 = v 2 := xKcf hKc 1 rfl rfl
                have k2 : xE E 74 40 = v 3 := xKcf hKc 2 rfl rfl
                have f0 : (0 : Int) ≤ 42 ∧ xE E 74 42 = (v2 4) := xXf hF 0 rfl
                have f1 : (v2 1) < (v2 4) := xXf hF 1 rfl
                have f2 : (0 : Int) ≤ (v2 1) ∧ xE E 84 (v2 1) = (v2 5) := xXf hF 2 rfl
                have f3 : 97 ≤ (v2 5) := xXf hF 3 rfl
                have f4 : 122 < (v2 5) := xXf hF 4 rfl
                have f5 : (v2 1) < (v2 4) := xXf hF 5 rfl
                have f6 : (0 : Int) ≤ (v2 1) ∧ xE E 84 (v2 1) = (v2 6) := xXf hF 6 rfl
                have f7 : 48 ≤ (v2 6) := xXf hF 7 rfl
                have f8 : 57 < (v2 6) := xXf hF 8 rfl
                have m0 : xE E2 74 38 = (v2 1) := xXm hM 0 rfl
                have m1 : xE E2 74 39 = (v2 2) := xXm hM 1 rfl
                have m2 : xE E2 74 40 = (v2 3) := xXm hM 2 rfl
                have e74_38 : xE E2 74 38 = xE E 74 38 := xFr_E hfr rfl
                have e74_42 : xE E2 74 42 = xE E 74 42 := xFr_E hfr rfl
                have q74_42 : xE E 74 42 = xE E0 74 42 := xFr_E hFr0 rfl
                have e84 : ∀ i, xE E2 84 i = xE E 84 i := fun i => xFr_E hfr rfl
                have q84 : ∀ i, xE E 84 i = xE E0 84 i := fun i => xFr_E hFr0 rfl
                have y74_42 : ((2147483648 : Nat) : Int) ≤ xE E0 74 42 + 2147483648 ∧ xE E0 74 42 + 2147483648 ≤ ((2147484548 : Nat) : Int) := xTyF hT0 74 42 42 rfl rfl rfl rfl rfl rfl
                have hI : xE E 74 38 ≤ (xE E0 74 42) ∧ xE E 74 38 = tFr (xE E0 84) (xE E0 74 42) (xE E0 74 39) ∧ xE E 74 39 = tFr (xE E0 84) (xE E0 74 42) (xE E0 74 39) + 1 ∧ xE E 74 40 = rK0 (xE E0 84) (xE E0 74 42) (tFr (xE E0 84) (xE E0 74 42) (xE E0 74 39)) := hInv
                show xΨrd x0 E0 E2 0
                obtain ⟨i1, i2, i3, i4⟩ := hI
                have t2 : xE E0 84 (xE E 74 38) = (v2 5) := by rw [← q84, show xE E 74 38 = (v2 1) by omega]; exact f2.2
                have t6 : xE E0 84 (xE E 74 38) = (v2 6) := by rw [← q84, show xE E 74 38 = (v2 1) by omega]; exact f6.2
                rw [i2] at t2 t6
                unfold xΨrd xRD
                have hs : ∀ s : Int, xE E0 84 (tFr (xE E0 84) (xE E0 74 42) (xE E0 74 39)) = s → ¬ (97 ≤ s ∧ s ≤ 122) → ¬ (48 ≤ s ∧ s ≤ 57) → rK0 (xE E0 84) (xE E0 74 42) (tFr (xE E0 84) (xE E0 74 42) (xE E0 74 39)) = rKd (tk s) ∧ ¬ tk s = 2 ∧ ¬ tk s = 3 := by
                  intro s h1 h2 h3
                  by_cases c1 : s = 45
                  · rw [tk4 c1, rK0_3 (by omega) (by omega)]
                    exact ⟨rfl, by decide, by decide⟩
                  · by_cases c2 : s = 59
                    · rw [tk5 c2, rK0_3 (by omega) (by omega)]
                      exact ⟨rfl, by decide, by decide⟩
                    · rw [tk1 h2 h3 c1 c2, rK0_4 (by omega) (by omega)]
                      exact ⟨rfl, by decide, by decide⟩
                obtain ⟨g1, g2, g3⟩ := hs _ t2 (by omega) (by omega)
                rw [← t2] at g1 g2 g3
                have hkd := tKd_k (T := xE E0 84) (n := xE E0 74 42) (p := xE E0 74 39) (by omega) (fun h => g3 h.1)
                have hnx := tNx_1 (T := xE E0 84) (n := xE E0 74 42) (p := xE E0 74 39) (by omega) (by omega)
                rw [hkd]
                exact ⟨by omega, by rw [← g1]; omega, fun h => by omega, fun h => by omega, fun h => absurd h g3, fun h => absurd h g2⟩
              · skip
                rcases List.mem_cons.mp hx with ex | hx
                · subst ex
                  obtain ⟨hF, hBd, hM⟩ := hXs
                  have g1 : v2 1 = v 1 := hag 1 (by decide)
                  have g2 : v2 2 = v 2 := hag 2 (by decide)
                  have g3 : v2 3 = v 3 := hag 3 (by decide)
                  have b0 : ((2147483649 : Nat) : Int) ≤ (v2 1) + 2147483648 ∧ (v2 1) + 2147483648 ≤ ((2147484547 : Nat) : Int) := xXb hBd 0 rfl
                  have b1 : ((2147483648 : Nat) : Int) ≤ (v2 2) + 2147483648 ∧ (v2 2) + 2147483648 ≤ ((2147484549 : Nat) : Int) := xXb hBd 1 rfl
                  have b2 : ((2147483648 : Nat) : Int) ≤ (v2 3) + 2147483648 ∧ (v2 3) + 2147483648 ≤ ((2147483652 : Nat) : Int) := xXb hBd 2 rfl
                  have b3 : ((2147483649 : Nat) : Int) ≤ (v2 4) + 2147483648 ∧ (v2 4) + 2147483648 ≤ ((2147484547 : Nat) : Int) := xXb hBd 3 rfl
                  have b4 : ((2147483771 : Nat) : Int) ≤ (v2 5) + 2147483648 ∧ (v2 5) + 2147483648 ≤ ((2147483775 : Nat) : Int) := xXb hBd 4 rfl
                  have k0 : xE E 74 38 = v 1 := xKcf hKc 0 rfl rfl
                  have k1 : xE E 74 39 = v 2 := xKcf hKc 1 rfl rfl
                  have k2 : xE E 74 40 = v 3 := xKcf hKc 2 rfl rfl
                  have f0 : (0 : Int) ≤ 42 ∧ xE E 74 42 = (v2 4) := xXf hF 0 rfl
                  have f1 : (v2 1) < (v2 4) := xXf hF 1 rfl
                  have f2 : (0 : Int) ≤ (v2 1) ∧ xE E 84 (v2 1) = (v2 5) := xXf hF 2 rfl
                  have f3 : 97 ≤ (v2 5) := xXf hF 3 rfl
                  have f4 : 122 < (v2 5) := xXf hF 4 rfl
                  have f5 : (v2 4) ≤ (v2 1) := xXf hF 5 rfl
                  have m0 : xE E2 74 38 = (v2 1) := xXm hM 0 rfl
                  have m1 : xE E2 74 39 = (v2 2) := xXm hM 1 rfl
                  have m2 : xE E2 74 40 = (v2 3) := xXm hM 2 rfl
                  have e74_38 : xE E2 74 38 = xE E 74 38 := xFr_E hfr rfl
                  have e74_42 : xE E2 74 42 = xE E 74 42 := xFr_E hfr rfl
                  have q74_42 : xE E 74 42 = xE E0 74 42 := xFr_E hFr0 rfl
                  have e84 : ∀ i, xE E2 84 i = xE E 84 i := fun i => xFr_E hfr rfl
                  have q84 : ∀ i, xE E 84 i = xE E0 84 i := fun i => xFr_E hFr0 rfl
                  have y74_42 : ((2147483648 : Nat) : Int) ≤ xE E0 74 42 + 2147483648 ∧ xE E0 74 42 + 2147483648 ≤ ((2147484548 : Nat) : Int) := xTyF hT0 74 42 42 rfl rfl rfl rfl rfl rfl
                  have hI : xE E 74 38 ≤ (xE E0 74 42) ∧ xE E 74 38 = tFr (xE E0 84) (xE E0 74 42) (xE E0 74 39) ∧ xE E 74 39 = tFr (xE E0 84) (xE E0 74 42) (xE E0 74 39) + 1 ∧ xE E 74 40 = rK0 (xE E0 84) (xE E0 74 42) (tFr (xE E0 84) (xE E0 74 42) (xE E0 74 39)) := hInv
                  show xΨrd x0 E0 E2 0
                  obtain ⟨i1, i2, i3, i4⟩ := hI
                  have t2 : xE E0 84 (xE E 74 38) = (v2 5) := by rw [← q84, show xE E 74 38 = (v2 1) by omega]; exact f2.2
                  rw [i2] at t2
                  unfold xΨrd xRD
                  have hs : ∀ s : Int, xE E0 84 (tFr (xE E0 84) (xE E0 74 42) (xE E0 74 39)) = s → ¬ (97 ≤ s ∧ s ≤ 122) → ¬ (48 ≤ s ∧ s ≤ 57) → rK0 (xE E0 84) (xE E0 74 42) (tFr (xE E0 84) (xE E0 74 42) (xE E0 74 39)) = rKd (tk s) ∧ ¬ tk s = 2 ∧ ¬ tk s = 3 := by
                    intro s h1 h2 h3
                    by_cases c1 : s = 45
                    · rw [tk4 c1, rK0_3 (by omega) (by omega)]
                      exact ⟨rfl, by decide, by decide⟩
                    · by_cases c2 : s = 59
                      · rw [tk5 c2, rK0_3 (by omega) (by omega)]
                        exact ⟨rfl, by decide, by decide⟩
                      · rw [tk1 h2 h3 c1 c2, rK0_4 (by omega) (by omega)]
                        exact ⟨rfl, by decide, by decide⟩
                  obtain ⟨g1, g2, g3⟩ := hs _ t2 (by omega) (by omega)
                  rw [← t2] at g1 g2 g3
                  have hkd := tKd_k (T := xE E0 84) (n := xE E0 74 42) (p := xE E0 74 39) (by omega) (fun h => g3 h.1)
                  have hnx := tNx_1 (T := xE E0 84) (n := xE E0 74 42) (p := xE E0 74 39) (by omega) (by omega)
                  rw [hkd]
                  exact ⟨by omega, by rw [← g1]; omega, fun h => by omega, fun h => by omega, fun h => absurd h g3, fun h => absurd h g2⟩
                · skip
                  rcases List.mem_cons.mp hx with ex | hx
                  · subst ex
                    obtain ⟨hF, hBd, hM⟩ := hXs
                    have g1 : v2 1 = v 1 := hag 1 (by decide)
                    have g2 : v2 2 = v 2 := hag 2 (by decide)
                    have g3 : v2 3 = v 3 := hag 3 (by decide)
                    have b0 : ((2147483648 : Nat) : Int) ≤ (v2 1) + 2147483648 ∧ (v2 1) + 2147483648 ≤ ((2147484547 : Nat) : Int) := xXb hBd 0 rfl
                    have b1 : ((2147483648 : Nat) : Int) ≤ (v2 2) + 2147483648 ∧ (v2 2) + 2147483648 ≤ ((2147484549 : Nat) : Int) := xXb hBd 1 rfl
                    have b2 : ((2147483648 : Nat) : Int) ≤ (v2 3) + 2147483648 ∧ (v2 3) + 2147483648 ≤ ((2147483652 : Nat) : Int) := xXb hBd 2 rfl
                    have b3 : ((2147483649 : Nat) : Int) ≤ (v2 4) + 2147483648 ∧ (v2 4) + 2147483648 ≤ ((2147484548 : Nat) : Int) := xXb hBd 3 rfl
                    have b4 : ((2147483520 : Nat) : Int) ≤ (v2 5) + 2147483648 ∧ (v2 5) + 2147483648 ≤ ((2147483695 : Nat) : Int) := xXb hBd 4 rfl
                    have k0 : xE E 74 38 = v 1 := xKcf hKc 0 rfl rfl
                    have k1 : xE E 74 39 = v 2 := xKcf hKc 1 rfl rfl
                    have k2 : xE E 74 40 = v 3 := xKcf hKc 2 rfl rfl
                    have f0 : (0 : Int) ≤ 42 ∧ xE E 74 42 = (v2 4) := xXf hF 0 rfl
                    have f1 : (v2 4) ≤ (v2 1) := xXf hF 1 rfl
                    have f2 : (v2 1) < (v2 4) := xXf hF 2 rfl
                    have f3 : (0 : Int) ≤ (v2 1) ∧ xE E 84 (v2 1) = (v2 5) := xXf hF 3 rfl
                    have f4 : (v2 5) < 48 := xXf hF 4 rfl
                    have m0 : xE E2 74 38 = (v2 1) := xXm hM 0 rfl
                    have m1 : xE E2 74 39 = (v2 2) := xXm hM 1 rfl
                    have m2 : xE E2 74 40 = (v2 3) := xXm hM 2 rfl
                    have e74_38 : xE E2 74 38 = xE E 74 38 := xFr_E hfr rfl
                    have e74_42 : xE E2 74 42 = xE E 74 42 := xFr_E hfr rfl
                    have q74_42 : xE E 74 42 = xE E0 74 42 := xFr_E hFr0 rfl
                    have e84 : ∀ i, xE E2 84 i = xE E 84 i := fun i => xFr_E hfr rfl
                    have q84 : ∀ i, xE E 84 i = xE E0 84 i := fun i => xFr_E hFr0 rfl
                    have y74_42 : ((2147483648 : Nat) : Int) ≤ xE E0 74 42 + 2147483648 ∧ xE E0 74 42 + 2147483648 ≤ ((2147484548 : Nat) : Int) := xTyF hT0 74 42 42 rfl rfl rfl rfl rfl rfl
                    have hI : xE E 74 38 ≤ (xE E0 74 42) ∧ xE E 74 38 = tFr (xE E0 84) (xE E0 74 42) (xE E0 74 39) ∧ xE E 74 39 = tFr (xE E0 84) (xE E0 74 42) (xE E0 74 39) + 1 ∧ xE E 74 40 = rK0 (xE E0 84) (xE E0 74 42) (tFr (xE E0 84) (xE E0 74 42) (xE E0 74 39)) := hInv
                    show xΨrd x0 E0 E2 0
                    obtain ⟨i1, i2, i3, i4⟩ := hI
                    have t3 : xE E0 84 (xE E 74 38) = (v2 5) := by rw [← q84, show xE E 74 38 = (v2 1) by omega]; exact f3.2
                    rw [i2] at t3
                    unfold xΨrd xRD
                    have hs : ∀ s : Int, xE E0 84 (tFr (xE E0 84) (xE E0 74 42) (xE E0 74 39)) = s → ¬ (97 ≤ s ∧ s ≤ 122) → ¬ (48 ≤ s ∧ s ≤ 57) → rK0 (xE E0 84) (xE E0 74 42) (tFr (xE E0 84) (xE E0 74 42) (xE E0 74 39)) = rKd (tk s) ∧ ¬ tk s = 2 ∧ ¬ tk s = 3 := by
                      intro s h1 h2 h3
                      by_cases c1 : s = 45
                      · rw [tk4 c1, rK0_3 (by omega) (by omega)]
                        exact ⟨rfl, by decide, by decide⟩
                      · by_cases c2 : s = 59
                        · rw [tk5 c2, rK0_3 (by omega) (by omega)]
                          exact ⟨rfl, by decide, by decide⟩
                        · rw [tk1 h2 h3 c1 c2, rK0_4 (by omega) (by omega)]
                          exact ⟨rfl, by decide, by decide⟩
                    obtain ⟨g1, g2, g3⟩ := hs _ t3 (by omega) (by omega)
                    rw [← t3] at g1 g2 g3
                    have hkd := tKd_k (T := xE E0 84) (n := xE E0 74 42) (p := xE E0 74 39) (by omega) (fun h => g3 h.1)
                    have hnx := tNx_1 (T := xE E0 84) (n := xE E0 74 42) (p := xE E0 74 39) (by omega) (by omega)
                    rw [hkd]
                    exact ⟨by omega, by rw [← g1]; omega, fun h => by omega, fun h => by omega, fun h => absurd h g3, fun h => absurd h g2⟩
                  · skip
                    rcases List.mem_cons.mp hx with ex | hx
                    · subst ex
                      obtain ⟨hF, hBd, hM⟩ := hXs
                      have g1 : v2 1 = v 1 := hag 1 (by decide)
                      have g2 : v2 2 = v 2 := hag 2 (by decide)
                      have g3 : v2 3 = v 3 := hag 3 (by decide)
                      have b0 : ((2147483648 : Nat) : Int) ≤ (v2 1) + 2147483648 ∧ (v2 1) + 2147483648 ≤ ((2147484547 : Nat) : Int) := xXb hBd 0 rfl
                      have b1 : ((2147483648 : Nat) : Int) ≤ (v2 2) + 2147483648 ∧ (v2 2) + 2147483648 ≤ ((2147484549 : Nat) : Int) := xXb hBd 1 rfl
                      have b2 : ((2147483648 : Nat) : Int) ≤ (v2 3) + 2147483648 ∧ (v2 3) + 2147483648 ≤ ((2147483652 : Nat) : Int) := xXb hBd 2 rfl
                      have b3 : ((2147483649 : Nat) : Int) ≤ (v2 4) + 2147483648 ∧ (v2 4) + 2147483648 ≤ ((2147484548 : Nat) : Int) := xXb hBd 3 rfl
                      have b4 : ((2147483706 : Nat) : Int) ≤ (v2 5) + 2147483648 ∧ (v2 5) + 2147483648 ≤ ((2147483775 : Nat) : Int) := xXb hBd 4 rfl
                      have k0 : xE E 74 38 = v 1 := xKcf hKc 0 rfl rfl
                      have k1 : xE E 74 39 = v 2 := xKcf hKc 1 rfl rfl
                      have k2 : xE E 74 40 = v 3 := xKcf hKc 2 rfl rfl
                      have f0 : (0 : Int) ≤ 42 ∧ xE E 74 42 = (v2 4) := xXf hF 0 rfl
                      have f1 : (v2 4) ≤ (v2 1) := xXf hF 1 rfl
                      have f2 : (v2 1) < (v2 4) := xXf hF 2 rfl
                      have f3 : (0 : Int) ≤ (v2 1) ∧ xE E 84 (v2 1) = (v2 5) := xXf hF 3 rfl
                      have f4 : 48 ≤ (v2 5) := xXf hF 4 rfl
                      have f5 : 57 < (v2 5) := xXf hF 5 rfl
                      have m0 : xE E2 74 38 = (v2 1) := xXm hM 0 rfl
                      have m1 : xE E2 74 39 = (v2 2) := xXm hM 1 rfl
                      have m2 : xE E2 74 40 = (v2 3) := xXm hM 2 rfl
                      have e74_38 : xE E2 74 38 = xE E 74 38 := xFr_E hfr rfl
                      have e74_42 : xE E2 74 42 = xE E 74 42 := xFr_E hfr rfl
                      have q74_42 : xE E 74 42 = xE E0 74 42 := xFr_E hFr0 rfl
                      have e84 : ∀ i, xE E2 84 i = xE E 84 i := fun i => xFr_E hfr rfl
                      have q84 : ∀ i, xE E 84 i = xE E0 84 i := fun i => xFr_E hFr0 rfl
                      have y74_42 : ((2147483648 : Nat) : Int) ≤ xE E0 74 42 + 2147483648 ∧ xE E0 74 42 + 2147483648 ≤ ((2147484548 : Nat) : Int) := xTyF hT0 74 42 42 rfl rfl rfl rfl rfl rfl
                      have hI : xE E 74 38 ≤ (xE E0 74 42) ∧ xE E 74 38 = tFr (xE E0 84) (xE E0 74 42) (xE E0 74 39) ∧ xE E 74 39 = tFr (xE E0 84) (xE E0 74 42) (xE E0 74 39) + 1 ∧ xE E 74 40 = rK0 (xE E0 84) (xE E0 74 42) (tFr (xE E0 84) (xE E0 74 42) (xE E0 74 39)) := hInv
                      show xΨrd x0 E0 E2 0
                      obtain ⟨i1, i2, i3, i4⟩ := hI
                      have t3 : xE E0 84 (xE E 74 38) = (v2 5) := by rw [← q84, show xE E 74 38 = (v2 1) by omega]; exact f3.2
                      rw [i2] at t3
                      unfold xΨrd xRD
                      have hs : ∀ s : Int, xE E0 84 (tFr (xE E0 84) (xE E0 74 42) (xE E0 74 39)) = s → ¬ (97 ≤ s ∧ s ≤ 122) → ¬ (48 ≤ s ∧ s ≤ 57) → rK0 (xE E0 84) (xE E0 74 42) (tFr (xE E0 84) (xE E0 74 42) (xE E0 74 39)) = rKd (tk s) ∧ ¬ tk s = 2 ∧ ¬ tk s = 3 := by
                        intro s h1 h2 h3
                        by_cases c1 : s = 45
                        · rw [tk4 c1, rK0_3 (by omega) (by omega)]
                          exact ⟨rfl, by decide, by decide⟩
                        · by_cases c2 : s = 59
                          · rw [tk5 c2, rK0_3 (by omega) (by omega)]
                            exact ⟨rfl, by decide, by decide⟩
                          · rw [tk1 h2 h3 c1 c2, rK0_4 (by omega) (by omega)]
                            exact ⟨rfl, by decide, by decide⟩
                      obtain ⟨g1, g2, g3⟩ := hs _ t3 (by omega) (by omega)
                      rw [← t3] at g1 g2 g3
                      have hkd := tKd_k (T := xE E0 84) (n := xE E0 74 42) (p := xE E0 74 39) (by omega) (fun h => g3 h.1)
                      have hnx := tNx_1 (T := xE E0 84) (n := xE E0 74 42) (p := xE E0 74 39) (by omega) (by omega)
                      rw [hkd]
                      exact ⟨by omega, by rw [← g1]; omega, fun h => by omega, fun h => by omega, fun h => absurd h g3, fun h => absurd h g2⟩
                    · skip
                      have ex := List.mem_singleton.mp hx
                      subst ex
                      obtain ⟨hF, hBd, hM⟩ := hXs
                      have g1 : v2 1 = v 1 := hag 1 (by decide)
                      have g2 : v2 2 = v 2 := hag 2 (by decide)
                      have g3 : v2 3 = v 3 := hag 3 (by decide)
                      have b0 : ((2147483648 : Nat) : Int) ≤ (v2 1) + 2147483648 ∧ (v2 1) + 2147483648 ≤ ((2147484548 : Nat) : Int) := xXb hBd 0 rfl
                      have b1 : ((2147483648 : Nat) : Int) ≤ (v2 2) + 2147483648 ∧ (v2 2) + 2147483648 ≤ ((2147484549 : Nat) : Int) := xXb hBd 1 rfl
                      have b2 : ((2147483648 : Nat) : Int) ≤ (v2 3) + 2147483648 ∧ (v2 3) + 2147483648 ≤ ((2147483652 : Nat) : Int) := xXb hBd 2 rfl
                      have b3 : ((2147483648 : Nat) : Int) ≤ (v2 4) + 2147483648 ∧ (v2 4) + 2147483648 ≤ ((2147484548 : Nat) : Int) := xXb hBd 3 rfl
                      have k0 : xE E 74 38 = v 1 := xKcf hKc 0 rfl rfl
                      have k1 : xE E 74 39 = v 2 := xKcf hKc 1 rfl rfl
                      have k2 : xE E 74 40 = v 3 := xKcf hKc 2 rfl rfl
                      have f0 : (0 : Int) ≤ 42 ∧ xE E 74 42 = (v2 4) := xXf hF 0 rfl
                      have f1 : (v2 4) ≤ (v2 1) := xXf hF 1 rfl
                      have f2 : (v2 4) ≤ (v2 1) := xXf hF 2 rfl
                      have m0 : xE E2 74 38 = (v2 1) := xXm hM 0 rfl
                      have m1 : xE E2 74 39 = (v2 2) := xXm hM 1 rfl
                      have m2 : xE E2 74 40 = (v2 3) := xXm hM 2 rfl
                      have e74_38 : xE E2 74 38 = xE E 74 38 := xFr_E hfr rfl
                      have e74_42 : xE E2 74 42 = xE E 74 42 := xFr_E hfr rfl
                      have q74_42 : xE E 74 42 = xE E0 74 42 := xFr_E hFr0 rfl
                      have e84 : ∀ i, xE E2 84 i = xE E 84 i := fun i => xFr_E hfr rfl
                      have q84 : ∀ i, xE E 84 i = xE E0 84 i := fun i => xFr_E hFr0 rfl
                      have y74_42 : ((2147483648 : Nat) : Int) ≤ xE E0 74 42 + 2147483648 ∧ xE E0 74 42 + 2147483648 ≤ ((2147484548 : Nat) : Int) := xTyF hT0 74 42 42 rfl rfl rfl rfl rfl rfl
                      have hI : xE E 74 38 ≤ (xE E0 74 42) ∧ xE E 74 38 = tFr (xE E0 84) (xE E0 74 42) (xE E0 74 39) ∧ xE E 74 39 = tFr (xE E0 84) (xE E0 74 42) (xE E0 74 39) + 1 ∧ xE E 74 40 = rK0 (xE E0 84) (xE E0 74 42) (tFr (xE E0 84) (xE E0 74 42) (xE E0 74 39)) := hInv
                      show xΨrd x0 E0 E2 0
                      obtain ⟨i1, i2, i3, i4⟩ := hI
                      unfold xΨrd xRD
                      rw [tKd_e (by omega)]
                      exact ⟨by omega, by rw [show xE E2 74 40 = xE E 74 40 by omega, i4, rK0_0 (by omega)]; rfl, fun h => by omega, fun h => by omega, fun h => absurd h (by decide), fun h => absurd h (by decide)⟩
    · cases hx
    · have hx : x ∈ [zxfrd_dr0, zxfrd_dr1, zxfrd_dr2] := hx
      have hag : ∀ k, k < 3 → v2 k = v k := hag
      have hfr : xFr [] _ _ := hfr
      rcases List.mem_cons.mp hx with ex | hx
      · subst ex
        obtain ⟨hF, hBd, hM⟩ := hXs
        have g1 : v2 1 = v 1 := hag 1 (by decide)
        have g2 : v2 2 = v 2 := hag 2 (by decide)
        have b0 : ((2147483648 : Nat) : Int) ≤ (v2 1) + 2147483648 ∧ (v2 1) + 2147483648 ≤ ((2147484547 : Nat) : Int) := xXb hBd 0 rfl
        have b1 : ((2147483648 : Nat) : Int) ≤ (v2 2) + 2147483648 ∧ (v2 2) + 2147483648 ≤ ((2147484548 : Nat) : Int) := xXb hBd 1 rfl
        have b2 : ((2147483649 : Nat) : Int) ≤ (v2 3) + 2147483648 ∧ (v2 3) + 2147483648 ≤ ((2147484548 : Nat) : Int) := xXb hBd 2 rfl
        have b3 : ((2147483520 : Nat) : Int) ≤ (v2 4) + 2147483648 ∧ (v2 4) + 2147483648 ≤ ((2147483744 : Nat) : Int) := xXb hBd 3 rfl
        have k0 : xE E 74 39 = v 1 := xKcf hKc 0 rfl rfl
        have k1 : xE E 74 38 = v 2 := xKcf hKc 1 rfl rfl
        have f0 : (0 : Int) ≤ 42 ∧ xE E 74 42 = (v2 3) := xXf hF 0 rfl
        have f1 : (v2 1) < (v2 3) := xXf hF 1 rfl
        have f2 : (0 : Int) ≤ (v2 1) ∧ xE E 84 (v2 1) = (v2 4) := xXf hF 2 rfl
        have f3 : (v2 4) < 97 := xXf hF 3 rfl
        have m0 : xE E2 74 39 = (v2 1) := xXm hM 0 rfl
        have m1 : xE E2 74 38 = (v2 2) := xXm hM 1 rfl
        have e74_38 : xE E2 74 38 = xE E 74 38 := xFr_E hfr rfl
        have e74_39 : xE E2 74 39 = xE E 74 39 := xFr_E hfr rfl
        have e74_40 : xE E2 74 40 = xE E 74 40 := xFr_E hfr rfl
        have e74_41 : xE E2 74 41 = xE E 74 41 := xFr_E hfr rfl
        have e74_42 : xE E2 74 42 = xE E 74 42 := xFr_E hfr rfl
        have q74_42 : xE E 74 42 = xE E0 74 42 := xFr_E hFr0 rfl
        have e84 : ∀ i, xE E2 84 i = xE E 84 i := fun i => xFr_E hfr rfl
        have q84 : ∀ i, xE E 84 i = xE E0 84 i := fun i => xFr_E hFr0 rfl
        have y74_42 : ((2147483648 : Nat) : Int) ≤ xE E0 74 42 + 2147483648 ∧ xE E0 74 42 + 2147483648 ≤ ((2147484548 : Nat) : Int) := xTyF hT0 74 42 42 rfl rfl rfl rfl rfl rfl
        have hI : xE E 74 38 = tFr (xE E0 84) (xE E0 74 42) (xE E0 74 39) ∧ tFr (xE E0 84) (xE E0 74 42) (xE E0 74 39) < (xE E0 74 42) ∧ tk ((xE E0 84) (tFr (xE E0 84) (xE E0 74 42) (xE E0 74 39))) = 2 ∧ xE E 74 40 = 1 ∧ (tFr (xE E0 84) (xE E0 74 42) (xE E0 74 39) ≤ xE E 74 39 ∧ xE E 74 39 ≤ (xE E0 74 42)) ∧ tRn (xE E0 84) (xE E0 74 42) 2 (xE E 74 39) = tRn (xE E0 84) (xE E0 74 42) 2 (tFr (xE E0 84) (xE E0 74 42) (xE E0 74 39)) ∧ E 74 43 = some (.long (lLt (xE E0 84) (tFr (xE E0 84) (xE E0 74 42) (xE E0 74 39)) (xE E 74 39))) := hInv
        show xΨrd x0 E0 E2 0
        obtain ⟨i1, i2, i3, i4, i5, i6, i7⟩ := hI
        have t2 : xE E0 84 (xE E 74 39) = (v2 4) := by rw [← q84, show xE E 74 39 = (v2 1) by omega]; exact f2.2
        have hk : ¬ tk (xE E0 84 (xE E 74 39)) = 2 := by
          rw [t2]
          unfold tk
          rw [if_neg (by omega)]
          split
          · decide
          · split
            · decide
            · split <;> decide
        have hx := tRn_e (T := xE E0 84) (n := xE E0 74 42) (k := 2) (p := xE E 74 39) (by omega)
        have hn2 := tNx_k (T := xE E0 84) (n := xE E0 74 42) (p := xE E0 74 39) i2 (Or.inl i3)
        rw [i3, tRn_s i2 i3, ← i6, hx] at hn2
        have hkd := tKd_k (T := xE E0 84) (n := xE E0 74 42) (p := xE E0 74 39) i2 (by omega)
        rw [i3] at hkd
        unfold xΨrd xRD
        rw [hkd, hn2]
        exact ⟨by omega, by rw [show rKd 2 = 1 from rfl]; omega, fun h => by omega, fun h => by omega, fun h => absurd h (by decide), fun h => (hfr 74 43 rfl).trans i7⟩
      · skip
        rcases List.mem_cons.mp hx with ex | hx
        · subst ex
          obtain ⟨hF, hBd, hM⟩ := hXs
          have g1 : v2 1 = v 1 := hag 1 (by decide)
          have g2 : v2 2 = v 2 := hag 2 (by decide)
          have b0 : ((2147483648 : Nat) : Int) ≤ (v2 1) + 2147483648 ∧ (v2 1) + 2147483648 ≤ ((2147484547 : Nat) : Int) := xXb hBd 0 rfl
          have b1 : ((2147483648 : Nat) : Int) ≤ (v2 2) + 2147483648 ∧ (v2 2) + 2147483648 ≤ ((2147484548 : Nat) : Int) := xXb hBd 1 rfl
          have b2 : ((2147483649 : Nat) : Int) ≤ (v2 3) + 2147483648 ∧ (v2 3) + 2147483648 ≤ ((2147484548 : Nat) : Int) := xXb hBd 2 rfl
          have b3 : ((2147483771 : Nat) : Int) ≤ (v2 4) + 2147483648 ∧ (v2 4) + 2147483648 ≤ ((2147483775 : Nat) : Int) := xXb hBd 3 rfl
          have k0 : xE E 74 39 = v 1 := xKcf hKc 0 rfl rfl
          have k1 : xE E 74 38 = v 2 := xKcf hKc 1 rfl rfl
          have f0 : (0 : Int) ≤ 42 ∧ xE E 74 42 = (v2 3) := xXf hF 0 rfl
          have f1 : (v2 1) < (v2 3) := xXf hF 1 rfl
          have f2 : (0 : Int) ≤ (v2 1) ∧ xE E 84 (v2 1) = (v2 4) := xXf hF 2 rfl
          have f3 : 97 ≤ (v2 4) := xXf hF 3 rfl
          have f4 : 122 < (v2 4) := xXf hF 4 rfl
          have m0 : xE E2 74 39 = (v2 1) := xXm hM 0 rfl
          have m1 : xE E2 74 38 = (v2 2) := xXm hM 1 rfl
          have e74_38 : xE E2 74 38 = xE E 74 38 := xFr_E hfr rfl
          have e74_39 : xE E2 74 39 = xE E 74 39 := xFr_E hfr rfl
          have e74_40 : xE E2 74 40 = xE E 74 40 := xFr_E hfr rfl
          have e74_41 : xE E2 74 41 = xE E 74 41 := xFr_E hfr rfl
          have e74_42 : xE E2 74 42 = xE E 74 42 := xFr_E hfr rfl
          have q74_42 : xE E 74 42 = xE E0 74 42 := xFr_E hFr0 rfl
          have e84 : ∀ i, xE E2 84 i = xE E 84 i := fun i => xFr_E hfr rfl
          have q84 : ∀ i, xE E 84 i = xE E0 84 i := fun i => xFr_E hFr0 rfl
          have y74_42 : ((2147483648 : Nat) : Int) ≤ xE E0 74 42 + 2147483648 ∧ xE E0 74 42 + 2147483648 ≤ ((2147484548 : Nat) : Int) := xTyF hT0 74 42 42 rfl rfl rfl rfl rfl rfl
          have hI : xE E 74 38 = tFr (xE E0 84) (xE E0 74 42) (xE E0 74 39) ∧ tFr (xE E0 84) (xE E0 74 42) (xE E0 74 39) < (xE E0 74 42) ∧ tk ((xE E0 84) (tFr (xE E0 84) (xE E0 74 42) (xE E0 74 39))) = 2 ∧ xE E 74 40 = 1 ∧ (tFr (xE E0 84) (xE E0 74 42) (xE E0 74 39) ≤ xE E 74 39 ∧ xE E 74 39 ≤ (xE E0 74 42)) ∧ tRn (xE E0 84) (xE E0 74 42) 2 (xE E 74 39) = tRn (xE E0 84) (xE E0 74 42) 2 (tFr (xE E0 84) (xE E0 74 42) (xE E0 74 39)) ∧ E 74 43 = some (.long (lLt (xE E0 84) (tFr (xE E0 84) (xE E0 74 42) (xE E0 74 39)) (xE E 74 39))) := hInv
          show xΨrd x0 E0 E2 0
          obtain ⟨i1, i2, i3, i4, i5, i6, i7⟩ := hI
          have t2 : xE E0 84 (xE E 74 39) = (v2 4) := by rw [← q84, show xE E 74 39 = (v2 1) by omega]; exact f2.2
          have hk : ¬ tk (xE E0 84 (xE E 74 39)) = 2 := by
            rw [t2]
            unfold tk
            rw [if_neg (by omega)]
            split
            · decide
            · split
              · decide
              · split <;> decide
          have hx := tRn_e (T := xE E0 84) (n := xE E0 74 42) (k := 2) (p := xE E 74 39) (by omega)
          have hn2 := tNx_k (T := xE E0 84) (n := xE E0 74 42) (p := xE E0 74 39) i2 (Or.inl i3)
          rw [i3, tRn_s i2 i3, ← i6, hx] at hn2
          have hkd := tKd_k (T := xE E0 84) (n := xE E0 74 42) (p := xE E0 74 39) i2 (by omega)
          rw [i3] at hkd
          unfold xΨrd xRD
          rw [hkd, hn2]
          exact ⟨by omega, by rw [show rKd 2 = 1 from rfl]; omega, fun h => by omega, fun h => by omega, fun h => absurd h (by decide), fun h => (hfr 74 43 rfl).trans i7⟩
        · skip
          have ex := List.mem_singleton.mp hx
          subst ex
          obtain ⟨hF, hBd, hM⟩ := hXs
          have g1 : v2 1 = v 1 := hag 1 (by decide)
          have g2 : v2 2 = v 2 := hag 2 (by decide)
          have b0 : ((2147483648 : Nat) : Int) ≤ (v2 1) + 2147483648 ∧ (v2 1) + 2147483648 ≤ ((2147484548 : Nat) : Int) := xXb hBd 0 rfl
          have b1 : ((2147483648 : Nat) : Int) ≤ (v2 2) + 2147483648 ∧ (v2 2) + 2147483648 ≤ ((2147484548 : Nat) : Int) := xXb hBd 1 rfl
          have b2 : ((2147483648 : Nat) : Int) ≤ (v2 3) + 2147483648 ∧ (v2 3) + 2147483648 ≤ ((2147484548 : Nat) : Int) := xXb hBd 2 rfl
          have k0 : xE E 74 39 = v 1 := xKcf hKc 0 rfl rfl
          have k1 : xE E 74 38 = v 2 := xKcf hKc 1 rfl rfl
          have f0 : (0 : Int) ≤ 42 ∧ xE E 74 42 = (v2 3) := xXf hF 0 rfl
          have f1 : (v2 3) ≤ (v2 1) := xXf hF 1 rfl
          have m0 : xE E2 74 39 = (v2 1) := xXm hM 0 rfl
          have m1 : xE E2 74 38 = (v2 2) := xXm hM 1 rfl
          have e74_38 : xE E2 74 38 = xE E 74 38 := xFr_E hfr rfl
          have e74_39 : xE E2 74 39 = xE E 74 39 := xFr_E hfr rfl
          have e74_40 : xE E2 74 40 = xE E 74 40 := xFr_E hfr rfl
          have e74_41 : xE E2 74 41 = xE E 74 41 := xFr_E hfr rfl
          have e74_42 : xE E2 74 42 = xE E 74 42 := xFr_E hfr rfl
          have q74_42 : xE E 74 42 = xE E0 74 42 := xFr_E hFr0 rfl
          have e84 : ∀ i, xE E2 84 i = xE E 84 i := fun i => xFr_E hfr rfl
          have q84 : ∀ i, xE E 84 i = xE E0 84 i := fun i => xFr_E hFr0 rfl
          have y74_42 : ((2147483648 : Nat) : Int) ≤ xE E0 74 42 + 2147483648 ∧ xE E0 74 42 + 2147483648 ≤ ((2147484548 : Nat) : Int) := xTyF hT0 74 42 42 rfl rfl rfl rfl rfl rfl
          have hI : xE E 74 38 = tFr (xE E0 84) (xE E0 74 42) (xE E0 74 39) ∧ tFr (xE E0 84) (xE E0 74 42) (xE E0 74 39) < (xE E0 74 42) ∧ tk ((xE E0 84) (tFr (xE E0 84) (xE E0 74 42) (xE E0 74 39))) = 2 ∧ xE E 74 40 = 1 ∧ (tFr (xE E0 84) (xE E0 74 42) (xE E0 74 39) ≤ xE E 74 39 ∧ xE E 74 39 ≤ (xE E0 74 42)) ∧ tRn (xE E0 84) (xE E0 74 42) 2 (xE E 74 39) = tRn (xE E0 84) (xE E0 74 42) 2 (tFr (xE E0 84) (xE E0 74 42) (xE E0 74 39)) ∧ E 74 43 = some (.long (lLt (xE E0 84) (tFr (xE E0 84) (xE E0 74 42) (xE E0 74 39)) (xE E 74 39))) := hInv
          show xΨrd x0 E0 E2 0
          obtain ⟨i1, i2, i3, i4, i5, i6, i7⟩ := hI
          have hx := tRn_e (T := xE E0 84) (n := xE E0 74 42) (k := 2) (p := xE E 74 39) (by omega)
          have hn2 := tNx_k (T := xE E0 84) (n := xE E0 74 42) (p := xE E0 74 39) i2 (Or.inl i3)
          rw [i3, tRn_s i2 i3, ← i6, hx] at hn2
          have hkd := tKd_k (T := xE E0 84) (n := xE E0 74 42) (p := xE E0 74 39) i2 (by omega)
          rw [i3] at hkd
          unfold xΨrd xRD
          rw [hkd, hn2]
          exact ⟨by omega, by rw [show rKd 2 = 1 from rfl]; omega, fun h => by omega, fun h => by omega, fun h => absurd h (by decide), fun h => (hfr 74 43 rfl).trans i7⟩
    · cases hx
    · have hx : x ∈ [zxfrd_er0, zxfrd_er1, zxfrd_er2, zxfrd_er3, zxfrd_er4, zxfrd_er5] := hx
      have hag : ∀ k, k < 4 → v2 k = v k := hag
      have hfr : xFr [(74, 40, 40)] _ _ := hfr
      rcases List.mem_cons.mp hx with ex | hx
      · subst ex
        obtain ⟨hF, hBd, hM⟩ := hXs
        have g1 : v2 1 = v 1 := hag 1 (by decide)
        have g2 : v2 2 = v 2 := hag 2 (by decide)
        have g3 : v2 3 = v 3 := hag 3 (by decide)
        have b0 : ((2147483648 : Nat) : Int) ≤ (v2 1) + 2147483648 ∧ (v2 1) + 2147483648 ≤ ((2147484547 : Nat) : Int) := xXb hBd 0 rfl
        have b1 : ((2147483648 : Nat) : Int) ≤ (v2 2) + 2147483648 ∧ (v2 2) + 2147483648 ≤ ((2147484548 : Nat) : Int) := xXb hBd 1 rfl
        have b2 : ((2147483648 : Nat) : Int) ≤ (v2 3) + 2147483648 ∧ (v2 3) + 2147483648 ≤ ((2147484647 : Nat) : Int) := xXb hBd 2 rfl
        have b3 : ((2147483649 : Nat) : Int) ≤ (v2 4) + 2147483648 ∧ (v2 4) + 2147483648 ≤ ((2147484548 : Nat) : Int) := xXb hBd 3 rfl
        have b4 : ((2147483520 : Nat) : Int) ≤ (v2 5) + 2147483648 ∧ (v2 5) + 2147483648 ≤ ((2147483695 : Nat) : Int) := xXb hBd 4 rfl
        have b5 : ((2147483652 : Nat) : Int) ≤ (v2 6) + 2147483648 ∧ (v2 6) + 2147483648 ≤ ((2147484547 : Nat) : Int) := xXb hBd 5 rfl
        have k0 : xE E 74 39 = v 1 := xKcf hKc 0 rfl rfl
        have k1 : xE E 74 38 = v 2 := xKcf hKc 1 rfl rfl
        have k2 : xE E 74 41 = v 3 := xKcf hKc 2 rfl rfl
        have f0 : (0 : Int) ≤ 42 ∧ xE E 74 42 = (v2 4) := xXf hF 0 rfl
        have f1 : (v2 1) < (v2 4) := xXf hF 1 rfl
        have f2 : (0 : Int) ≤ (v2 1) ∧ xE E 84 (v2 1) = (v2 5) := xXf hF 2 rfl
        have f3 : (v2 5) < 48 := xXf hF 3 rfl
        have f4 : -2147483648 ≤ (v2 1) - (v2 2) → (v2 1) - (v2 2) < 2147483648 → (v2 6) = (v2 1) - (v2 2) := xXf hF 4 rfl
        have f4 := f4 (by omega) (by omega)
        have f5 : 3 < (v2 6) := xXf hF 5 rfl
        have m0 : xE E2 74 39 = (v2 1) := xXm hM 0 rfl
        have m1 : xE E2 74 38 = (v2 2) := xXm hM 1 rfl
        have m2 : xE E2 74 40 = 4 := xXm hM 2 rfl
        have m3 : xE E2 74 41 = (v2 3) := xXm hM 3 rfl
        have e74_38 : xE E2 74 38 = xE E 74 38 := xFr_E hfr rfl
        have e74_39 : xE E2 74 39 = xE E 74 39 := xFr_E hfr rfl
        have e74_41 : xE E2 74 41 = xE E 74 41 := xFr_E hfr rfl
        have e74_42 : xE E2 74 42 = xE E 74 42 := xFr_E hfr rfl
        have q74_42 : xE E 74 42 = xE E0 74 42 := xFr_E hFr0 rfl
        have e84 : ∀ i, xE E2 84 i = xE E 84 i := fun i => xFr_E hfr rfl
        have q84 : ∀ i, xE E 84 i = xE E0 84 i := fun i => xFr_E hFr0 rfl
        have y74_42 : ((2147483648 : Nat) : Int) ≤ xE E0 74 42 + 2147483648 ∧ xE E0 74 42 + 2147483648 ≤ ((2147484548 : Nat) : Int) := xTyF hT0 74 42 42 rfl rfl rfl rfl rfl rfl
        have hI : xE E 74 38 = tFr (xE E0 84) (xE E0 74 42) (xE E0 74 39) ∧ tFr (xE E0 84) (xE E0 74 42) (xE E0 74 39) < (xE E0 74 42) ∧ tk ((xE E0 84) (tFr (xE E0 84) (xE E0 74 42) (xE E0 74 39))) = 3 ∧ (tFr (xE E0 84) (xE E0 74 42) (xE E0 74 39) ≤ xE E 74 39 ∧ xE E 74 39 ≤ (xE E0 74 42)) ∧ tRn (xE E0 84) (xE E0 74 42) 3 (xE E 74 39) = tRn (xE E0 84) (xE E0 74 42) 3 (tFr (xE E0 84) (xE E0 74 42) (xE E0 74 39)) ∧ ((xE E 74 39 = tFr (xE E0 84) (xE E0 74 42) (xE E0 74 39) ∧ xE E 74 41 = 0) ∨ (xE E 74 39 = tFr (xE E0 84) (xE E0 74 42) (xE E0 74 39) + 1 ∧ xE E 74 41 ≤ 9) ∨ (xE E 74 39 = tFr (xE E0 84) (xE E0 74 42) (xE E0 74 39) + 2 ∧ xE E 74 41 ≤ 99) ∨ tFr (xE E0 84) (xE E0 74 42) (xE E0 74 39) + 3 ≤ xE E 74 39) ∧ (xE E 74 39 ≤ tFr (xE E0 84) (xE E0 74 42) (xE E0 74 39) + 3 → tVl (xE E0 84) (tNx (xE E0 84) (xE E0 74 42) (xE E0 74 39)) (xE E 74 39) (xE E 74 41) = tVl (xE E0 84) (tNx (xE E0 84) (xE E0 74 42) (xE E0 74 39)) (tFr (xE E0 84) (xE E0 74 42) (xE E0 74 39)) 0) := hInv
        show xΨrd x0 E0 E2 0
        obtain ⟨i1, i2, i3, i5, i6, i7, i8⟩ := hI
        have t2 : xE E0 84 (xE E 74 39) = (v2 5) := by rw [← q84, show xE E 74 39 = (v2 1) by omega]; exact f2.2
        have hn1 := tNx_k (T := xE E0 84) (n := xE E0 74 42) (p := xE E0 74 39) i2 (Or.inr i3)
        rw [i3, tRn_s i2 i3] at hn1
        have hk : ¬ tk (xE E0 84 (xE E 74 39)) = 3 := by
          rw [t2]
          unfold tk
          split
          · decide
          · rw [if_neg (by omega)]
            split
            · decide
            · split <;> decide
        have hx := tRn_e (T := xE E0 84) (n := xE E0 74 42) (k := 3) (p := xE E 74 39) (by omega)
        rw [← i6, hx] at hn1
        unfold xΨrd xRD
        have hkd := tKd_b (T := xE E0 84) (n := xE E0 74 42) (p := xE E0 74 39) i2 i3 (by omega)
        rw [hkd, hn1]
        exact ⟨by omega, by rw [show rKd 1 = 4 from rfl]; omega, fun h => by omega, fun h => by omega, fun h => absurd h (by decide), fun h => absurd h (by decide)⟩
      · skip
        rcases List.mem_cons.mp hx with ex | hx
        · subst ex
          obtain ⟨hF, hBd, hM⟩ := hXs
          have g1 : v2 1 = v 1 := hag 1 (by decide)
          have g2 : v2 2 = v 2 := hag 2 (by decide)
          have g3 : v2 3 = v 3 := hag 3 (by decide)
          have b0 : ((2147483648 : Nat) : Int) ≤ (v2 1) + 2147483648 ∧ (v2 1) + 2147483648 ≤ ((2147484547 : Nat) : Int) := xXb hBd 0 rfl
          have b1 : ((2147483648 : Nat) : Int) ≤ (v2 2) + 2147483648 ∧ (v2 2) + 2147483648 ≤ ((2147484548 : Nat) : Int) := xXb hBd 1 rfl
          have b2 : ((2147483648 : Nat) : Int) ≤ (v2 3) + 2147483648 ∧ (v2 3) + 2147483648 ≤ ((2147484647 : Nat) : Int) := xXb hBd 2 rfl
          have b3 : ((2147483649 : Nat) : Int) ≤ (v2 4) + 2147483648 ∧ (v2 4) + 2147483648 ≤ ((2147484548 : Nat) : Int) := xXb hBd 3 rfl
          have b4 : ((2147483520 : Nat) : Int) ≤ (v2 5) + 2147483648 ∧ (v2 5) + 2147483648 ≤ ((2147483695 : Nat) : Int) := xXb hBd 4 rfl
          have b5 : ((2147482748 : Nat) : Int) ≤ (v2 6) + 2147483648 ∧ (v2 6) + 2147483648 ≤ ((2147483651 : Nat) : Int) := xXb hBd 5 rfl
          have k0 : xE E 74 39 = v 1 := xKcf hKc 0 rfl rfl
          have k1 : xE E 74 38 = v 2 := xKcf hKc 1 rfl rfl
          have k2 : xE E 74 41 = v 3 := xKcf hKc 2 rfl rfl
          have f0 : (0 : Int) ≤ 42 ∧ xE E 74 42 = (v2 4) := xXf hF 0 rfl
          have f1 : (v2 1) < (v2 4) := xXf hF 1 rfl
          have f2 : (0 : Int) ≤ (v2 1) ∧ xE E 84 (v2 1) = (v2 5) := xXf hF 2 rfl
          have f3 : (v2 5) < 48 := xXf hF 3 rfl
          have f4 : -2147483648 ≤ (v2 1) - (v2 2) → (v2 1) - (v2 2) < 2147483648 → (v2 6) = (v2 1) - (v2 2) := xXf hF 4 rfl
          have f4 := f4 (by omega) (by omega)
          have f5 : (v2 6) ≤ 3 := xXf hF 5 rfl
          have m0 : xE E2 74 39 = (v2 1) := xXm hM 0 rfl
          have m1 : xE E2 74 38 = (v2 2) := xXm hM 1 rfl
          have m2 : xE E2 74 40 = 2 := xXm hM 2 rfl
          have m3 : xE E2 74 41 = (v2 3) := xXm hM 3 rfl
          have e74_38 : xE E2 74 38 = xE E 74 38 := xFr_E hfr rfl
          have e74_39 : xE E2 74 39 = xE E 74 39 := xFr_E hfr rfl
          have e74_41 : xE E2 74 41 = xE E 74 41 := xFr_E hfr rfl
          have e74_42 : xE E2 74 42 = xE E 74 42 := xFr_E hfr rfl
          have q74_42 : xE E 74 42 = xE E0 74 42 := xFr_E hFr0 rfl
          have e84 : ∀ i, xE E2 84 i = xE E 84 i := fun i => xFr_E hfr rfl
          have q84 : ∀ i, xE E 84 i = xE E0 84 i := fun i => xFr_E hFr0 rfl
          have y74_42 : ((2147483648 : Nat) : Int) ≤ xE E0 74 42 + 2147483648 ∧ xE E0 74 42 + 2147483648 ≤ ((2147484548 : Nat) : Int) := xTyF hT0 74 42 42 rfl rfl rfl rfl rfl rfl
          have hI : xE E 74 38 = tFr (xE E0 84) (xE E0 74 42) (xE E0 74 39) ∧ tFr (xE E0 84) (xE E0 74 42) (xE E0 74 39) < (xE E0 74 42) ∧ tk ((xE E0 84) (tFr (xE E0 84) (xE E0 74 42) (xE E0 74 39))) = 3 ∧ (tFr (xE E0 84) (xE E0 74 42) (xE E0 74 39) ≤ xE E 74 39 ∧ xE E 74 39 ≤ (xE E0 74 42)) ∧ tRn (xE E0 84) (xE E0 74 42) 3 (xE E 74 39) = tRn (xE E0 84) (xE E0 74 42) 3 (tFr (xE E0 84) (xE E0 74 42) (xE E0 74 39)) ∧ ((xE E 74 39 = tFr (xE E0 84) (xE E0 74 42) (xE E0 74 39) ∧ xE E 74 41 = 0) ∨ (xE E 74 39 = tFr (xE E0 84) (xE E0 74 42) (xE E0 74 39) + 1 ∧ xE E 74 41 ≤ 9) ∨ (xE E 74 39 = tFr (xE E0 84) (xE E0 74 42) (xE E0 74 39) + 2 ∧ xE E 74 41 ≤ 99) ∨ tFr (xE E0 84) (xE E0 74 42) (xE E0 74 39) + 3 ≤ xE E 74 39) ∧ (xE E 74 39 ≤ tFr (xE E0 84) (xE E0 74 42) (xE E0 74 39) + 3 → tVl (xE E0 84) (tNx (xE E0 84) (xE E0 74 42) (xE E0 74 39)) (xE E 74 39) (xE E 74 41) = tVl (xE E0 84) (tNx (xE E0 84) (xE E0 74 42) (xE E0 74 39)) (tFr (xE E0 84) (xE E0 74 42) (xE E0 74 39)) 0) := hInv
          show xΨrd x0 E0 E2 0
          obtain ⟨i1, i2, i3, i5, i6, i7, i8⟩ := hI
          have t2 : xE E0 84 (xE E 74 39) = (v2 5) := by rw [← q84, show xE E 74 39 = (v2 1) by omega]; exact f2.2
          have hn1 := tNx_k (T := xE E0 84) (n := xE E0 74 42) (p := xE E0 74 39) i2 (Or.inr i3)
          rw [i3, tRn_s i2 i3] at hn1
          have hk : ¬ tk (xE E0 84 (xE E 74 39)) = 3 := by
            rw [t2]
            unfold tk
            split
            · decide
            · rw [if_neg (by omega)]
              split
              · decide
              · split <;> decide
          have hx := tRn_e (T := xE E0 84) (n := xE E0 74 42) (k := 3) (p := xE E 74 39) (by omega)
          rw [← i6, hx] at hn1
          unfold xΨrd xRD
          have hkd := tKd_k (T := xE E0 84) (n := xE E0 74 42) (p := xE E0 74 39) i2 (by omega)
          rw [i3] at hkd
          have i8 := i8 (by omega)
          rw [hn1, tVl_e (by omega)] at i8
          unfold tNm
          rw [hkd, hn1]
          exact ⟨by omega, by rw [show rKd 3 = 2 from rfl]; omega, fun h => by omega, fun h => by omega, fun h => by rw [← i8]; omega, fun h => absurd h (by decide)⟩
        · skip
          rcases List.mem_cons.mp hx with ex | hx
          · subst ex
            obtain ⟨hF, hBd, hM⟩ := hXs
            have g1 : v2 1 = v 1 := hag 1 (by decide)
            have g2 : v2 2 = v 2 := hag 2 (by decide)
            have g3 : v2 3 = v 3 := hag 3 (by decide)
            have b0 : ((2147483648 : Nat) : Int) ≤ (v2 1) + 2147483648 ∧ (v2 1) + 2147483648 ≤ ((2147484547 : Nat) : Int) := xXb hBd 0 rfl
            have b1 : ((2147483648 : Nat) : Int) ≤ (v2 2) + 2147483648 ∧ (v2 2) + 2147483648 ≤ ((2147484548 : Nat) : Int) := xXb hBd 1 rfl
            have b2 : ((2147483648 : Nat) : Int) ≤ (v2 3) + 2147483648 ∧ (v2 3) + 2147483648 ≤ ((2147484647 : Nat) : Int) := xXb hBd 2 rfl
            have b3 : ((2147483649 : Nat) : Int) ≤ (v2 4) + 2147483648 ∧ (v2 4) + 2147483648 ≤ ((2147484548 : Nat) : Int) := xXb hBd 3 rfl
            have b4 : ((2147483706 : Nat) : Int) ≤ (v2 5) + 2147483648 ∧ (v2 5) + 2147483648 ≤ ((2147483775 : Nat) : Int) := xXb hBd 4 rfl
            have b5 : ((2147483652 : Nat) : Int) ≤ (v2 6) + 2147483648 ∧ (v2 6) + 2147483648 ≤ ((2147484547 : Nat) : Int) := xXb hBd 5 rfl
            have k0 : xE E 74 39 = v 1 := xKcf hKc 0 rfl rfl
            have k1 : xE E 74 38 = v 2 := xKcf hKc 1 rfl rfl
            have k2 : xE E 74 41 = v 3 := xKcf hKc 2 rfl rfl
            have f0 : (0 : Int) ≤ 42 ∧ xE E 74 42 = (v2 4) := xXf hF 0 rfl
            have f1 : (v2 1) < (v2 4) := xXf hF 1 rfl
            have f2 : (0 : Int) ≤ (v2 1) ∧ xE E 84 (v2 1) = (v2 5) := xXf hF 2 rfl
            have f3 : 48 ≤ (v2 5) := xXf hF 3 rfl
            have f4 : 57 < (v2 5) := xXf hF 4 rfl
            have f5 : -2147483648 ≤ (v2 1) - (v2 2) → (v2 1) - (v2 2) < 2147483648 → (v2 6) = (v2 1) - (v2 2) := xXf hF 5 rfl
            have f5 := f5 (by omega) (by omega)
            have f6 : 3 < (v2 6) := xXf hF 6 rfl
            have m0 : xE E2 74 39 = (v2 1) := xXm hM 0 rfl
            have m1 : xE E2 74 38 = (v2 2) := xXm hM 1 rfl
            have m2 : xE E2 74 40 = 4 := xXm hM 2 rfl
            have m3 : xE E2 74 41 = (v2 3) := xXm hM 3 rfl
            have e74_38 : xE E2 74 38 = xE E 74 38 := xFr_E hfr rfl
            have e74_39 : xE E2 74 39 = xE E 74 39 := xFr_E hfr rfl
            have e74_41 : xE E2 74 41 = xE E 74 41 := xFr_E hfr rfl
            have e74_42 : xE E2 74 42 = xE E 74 42 := xFr_E hfr rfl
            have q74_42 : xE E 74 42 = xE E0 74 42 := xFr_E hFr0 rfl
            have e84 : ∀ i, xE E2 84 i = xE E 84 i := fun i => xFr_E hfr rfl
            have q84 : ∀ i, xE E 84 i = xE E0 84 i := fun i => xFr_E hFr0 rfl
            have y74_42 : ((2147483648 : Nat) : Int) ≤ xE E0 74 42 + 2147483648 ∧ xE E0 74 42 + 2147483648 ≤ ((2147484548 : Nat) : Int) := xTyF hT0 74 42 42 rfl rfl rfl rfl rfl rfl
            have hI : xE E 74 38 = tFr (xE E0 84) (xE E0 74 42) (xE E0 74 39) ∧ tFr (xE E0 84) (xE E0 74 42) (xE E0 74 39) < (xE E0 74 42) ∧ tk ((xE E0 84) (tFr (xE E0 84) (xE E0 74 42) (xE E0 74 39))) = 3 ∧ (tFr (xE E0 84) (xE E0 74 42) (xE E0 74 39) ≤ xE E 74 39 ∧ xE E 74 39 ≤ (xE E0 74 42)) ∧ tRn (xE E0 84) (xE E0 74 42) 3 (xE E 74 39) = tRn (xE E0 84) (xE E0 74 42) 3 (tFr (xE E0 84) (xE E0 74 42) (xE E0 74 39)) ∧ ((xE E 74 39 = tFr (xE E0 84) (xE E0 74 42) (xE E0 74 39) ∧ xE E 74 41 = 0) ∨ (xE E 74 39 = tFr (xE E0 84) (xE E0 74 42) (xE E0 74 39) + 1 ∧ xE E 74 41 ≤ 9) ∨ (xE E 74 39 = tFr (xE E0 84) (xE E0 74 42) (xE E0 74 39) + 2 ∧ xE E 74 41 ≤ 99) ∨ tFr (xE E0 84) (xE E0 74 42) (xE E0 74 39) + 3 ≤ xE E 74 39) ∧ (xE E 74 39 ≤ tFr (xE E0 84) (xE E0 74 42) (xE E0 74 39) + 3 → tVl (xE E0 84) (tNx (xE E0 84) (xE E0 74 42) (xE E0 74 39)) (xE E 74 39) (xE E 74 41) = tVl (xE E0 84) (tNx (xE E0 84) (xE E0 74 42) (xE E0 74 39)) (tFr (xE E0 84) (xE E0 74 42) (xE E0 74 39)) 0) := hInv
            show xΨrd x0 E0 E2 0
            obtain ⟨i1, i2, i3, i5, i6, i7, i8⟩ := hI
            have t2 : xE E0 84 (xE E 74 39) = (v2 5) := by rw [← q84, show xE E 74 39 = (v2 1) by omega]; exact f2.2
            have hn1 := tNx_k (T := xE E0 84) (n := xE E0 74 42) (p := xE E0 74 39) i2 (Or.inr i3)
            rw [i3, tRn_s i2 i3] at hn1
            have hk : ¬ tk (xE E0 84 (xE E 74 39)) = 3 := by
              rw [t2]
              unfold tk
              split
              · decide
              · rw [if_neg (by omega)]
                split
                · decide
                · split <;> decide
            have hx := tRn_e (T := xE E0 84) (n := xE E0 74 42) (k := 3) (p := xE E 74 39) (by omega)
            rw [← i6, hx] at hn1
            unfold xΨrd xRD
            have hkd := tKd_b (T := xE E0 84) (n := xE E0 74 42) (p := xE E0 74 39) i2 i3 (by omega)
            rw [hkd, hn1]
            exact ⟨by omega, by rw [show rKd 1 = 4 from rfl]; omega, fun h => by omega, fun h => by omega, fun h => absurd h (by decide), fun h => absurd h (by decide)⟩
          · skip
            rcases List.mem_cons.mp hx with ex | hx
            · subst ex
              obtain ⟨hF, hBd, hM⟩ := hXs
              have g1 : v2 1 = v 1 := hag 1 (by decide)
              have g2 : v2 2 = v 2 := hag 2 (by decide)
              have g3 : v2 3 = v 3 := hag 3 (by decide)
              have b0 : ((2147483648 : Nat) : Int) ≤ (v2 1) + 2147483648 ∧ (v2 1) + 2147483648 ≤ ((2147484547 : Nat) : Int) := xXb hBd 0 rfl
              have b1 : ((2147483648 : Nat) : Int) ≤ (v2 2) + 2147483648 ∧ (v2 2) + 2147483648 ≤ ((2147484548 : Nat) : Int) := xXb hBd 1 rfl
              have b2 : ((2147483648 : Nat) : Int) ≤ (v2 3) + 2147483648 ∧ (v2 3) + 2147483648 ≤ ((2147484647 : Nat) : Int) := xXb hBd 2 rfl
              have b3 : ((2147483649 : Nat) : Int) ≤ (v2 4) + 2147483648 ∧ (v2 4) + 2147483648 ≤ ((2147484548 : Nat) : Int) := xXb hBd 3 rfl
              have b4 : ((2147483706 : Nat) : Int) ≤ (v2 5) + 2147483648 ∧ (v2 5) + 2147483648 ≤ ((2147483775 : Nat) : Int) := xXb hBd 4 rfl
              have b5 : ((2147482748 : Nat) : Int) ≤ (v2 6) + 2147483648 ∧ (v2 6) + 2147483648 ≤ ((2147483651 : Nat) : Int) := xXb hBd 5 rfl
              have k0 : xE E 74 39 = v 1 := xKcf hKc 0 rfl rfl
              have k1 : xE E 74 38 = v 2 := xKcf hKc 1 rfl rfl
              have k2 : xE E 74 41 = v 3 := xKcf hKc 2 rfl rfl
              have f0 : (0 : Int) ≤ 42 ∧ xE E 74 42 = (v2 4) := xXf hF 0 rfl
              have f1 : (v2 1) < (v2 4) := xXf hF 1 rfl
              have f2 : (0 : Int) ≤ (v2 1) ∧ xE E 84 (v2 1) = (v2 5) := xXf hF 2 rfl
              have f3 : 48 ≤ (v2 5) := xXf hF 3 rfl
              have f4 : 57 < (v2 5) := xXf hF 4 rfl
              have f5 : -2147483648 ≤ (v2 1) - (v2 2) → (v2 1) - (v2 2) < 2147483648 → (v2 6) = (v2 1) - (v2 2) := xXf hF 5 rfl
              have f5 := f5 (by omega) (by omega)
              have f6 : (v2 6) ≤ 3 := xXf hF 6 rfl
              have m0 : xE E2 74 39 = (v2 1) := xXm hM 0 rfl
              have m1 : xE E2 74 38 = (v2 2) := xXm hM 1 rfl
              have m2 : xE E2 74 40 = 2 := xXm hM 2 rfl
              have m3 : xE E2 74 41 = (v2 3) := xXm hM 3 rfl
              have e74_38 : xE E2 74 38 = xE E 74 38 := xFr_E hfr rfl
              have e74_39 : xE E2 74 39 = xE E 74 39 := xFr_E hfr rfl
              have e74_41 : xE E2 74 41 = xE E 74 41 := xFr_E hfr rfl
              have e74_42 : xE E2 74 42 = xE E 74 42 := xFr_E hfr rfl
              have q74_42 : xE E 74 42 = xE E0 74 42 := xFr_E hFr0 rfl
              have e84 : ∀ i, xE E2 84 i = xE E 84 i := fun i => xFr_E hfr rfl
              have q84 : ∀ i, xE E 84 i = xE E0 84 i := fun i => xFr_E hFr0 rfl
              have y74_42 : ((2147483648 : Nat) : Int) ≤ xE E0 74 42 + 2147483648 ∧ xE E0 74 42 + 2147483648 ≤ ((2147484548 : Nat) : Int) := xTyF hT0 74 42 42 rfl rfl rfl rfl rfl rfl
              have hI : xE E 74 38 = tFr (xE E0 84) (xE E0 74 42) (xE E0 74 39) ∧ tFr (xE E0 84) (xE E0 74 42) (xE E0 74 39) < (xE E0 74 42) ∧ tk ((xE E0 84) (tFr (xE E0 84) (xE E0 74 42) (xE E0 74 39))) = 3 ∧ (tFr (xE E0 84) (xE E0 74 42) (xE E0 74 39) ≤ xE E 74 39 ∧ xE E 74 39 ≤ (xE E0 74 42)) ∧ tRn (xE E0 84) (xE E0 74 42) 3 (xE E 74 39) = tRn (xE E0 84) (xE E0 74 42) 3 (tFr (xE E0 84) (xE E0 74 42) (xE E0 74 39)) ∧ ((xE E 74 39 = tFr (xE E0 84) (xE E0 74 42) (xE E0 74 39) ∧ xE E 74 41 = 0) ∨ (xE E 74 39 = tFr (xE E0 84) (xE E0 74 42) (xE E0 74 39) + 1 ∧ xE E 74 41 ≤ 9) ∨ (xE E 74 39 = tFr (xE E0 84) (xE E0 74 42) (xE E0 74 39) + 2 ∧ xE E 74 41 ≤ 99) ∨ tFr (xE E0 84) (xE E0 74 42) (xE E0 74 39) + 3 ≤ xE E 74 39) ∧ (xE E 74 39 ≤ tFr (xE E0 84) (xE E0 74 42) (xE E0 74 39) + 3 → tVl (xE E0 84) (tNx (xE E0 84) (xE E0 74 42) (xE E0 74 39)) (xE E 74 39) (xE E 74 41) = tVl (xE E0 84) (tNx (xE E0 84) (xE E0 74 42) (xE E0 74 39)) (tFr (xE E0 84) (xE E0 74 42) (xE E0 74 39)) 0) := hInv
              show xΨrd x0 E0 E2 0
              obtain ⟨i1, i2, i3, i5, i6, i7, i8⟩ := hI
              have t2 : xE E0 84 (xE E 74 39) = (v2 5) := by rw [← q84, show xE E 74 39 = (v2 1) by omega]; exact f2.2
              have hn1 := tNx_k (T := xE E0 84) (n := xE E0 74 42) (p := xE E0 74 39) i2 (Or.inr i3)
              rw [i3, tRn_s i2 i3] at hn1
              have hk : ¬ tk (xE E0 84 (xE E 74 39)) = 3 := by
                rw [t2]
                unfold tk
                split
                · decide
                · rw [if_neg (by omega)]
                  split
                  · decide
                  · split <;> decide
              have hx := tRn_e (T := xE E0 84) (n := xE E0 74 42) (k := 3) (p := xE E 74 39) (by omega)
              rw [← i6, hx] at hn1
              unfold xΨrd xRD
              have hkd := tKd_k (T := xE E0 84) (n := xE E0 74 42) (p := xE E0 74 39) i2 (by omega)
              rw [i3] at hkd
              have i8 := i8 (by omega)
              rw [hn1, tVl_e (by omega)] at i8
              unfold tNm
              rw [hkd, hn1]
              exact ⟨by omega, by rw [show rKd 3 = 2 from rfl]; omega, fun h => by omega, fun h => by omega, fun h => by rw [← i8]; omega, fun h => absurd h (by decide)⟩
            · skip
              rcases List.mem_cons.mp hx with ex | hx
              · subst ex
                obtain ⟨hF, hBd, hM⟩ := hXs
                have g1 : v2 1 = v 1 := hag 1 (by decide)
                have g2 : v2 2 = v 2 := hag 2 (by decide)
                have g3 : v2 3 = v 3 := hag 3 (by decide)
                have b0 : ((2147483648 : Nat) : Int) ≤ (v2 1) + 2147483648 ∧ (v2 1) + 2147483648 ≤ ((2147484548 : Nat) : Int) := xXb hBd 0 rfl
                have b1 : ((2147483648 : Nat) : Int) ≤ (v2 2) + 2147483648 ∧ (v2 2) + 2147483648 ≤ ((2147484548 : Nat) : Int) := xXb hBd 1 rfl
                have b2 : ((2147483648 : Nat) : Int) ≤ (v2 3) + 2147483648 ∧ (v2 3) + 2147483648 ≤ ((2147484647 : Nat) : Int) := xXb hBd 2 rfl
                have b3 : ((2147483648 : Nat) : Int) ≤ (v2 4) + 2147483648 ∧ (v2 4) + 2147483648 ≤ ((2147484548 : Nat) : Int) := xXb hBd 3 rfl
                have b4 : ((2147483652 : Nat) : Int) ≤ (v2 5) + 2147483648 ∧ (v2 5) + 2147483648 ≤ ((2147484548 : Nat) : Int) := xXb hBd 4 rfl
                have k0 : xE E 74 39 = v 1 := xKcf hKc 0 rfl rfl
                have k1 : xE E 74 38 = v 2 := xKcf hKc 1 rfl rfl
                have k2 : xE E 74 41 = v 3 := xKcf hKc 2 rfl rfl
                have f0 : (0 : Int) ≤ 42 ∧ xE E 74 42 = (v2 4) := xXf hF 0 rfl
                have f1 : (v2 4) ≤ (v2 1) := xXf hF 1 rfl
                have f2 : -2147483648 ≤ (v2 1) - (v2 2) → (v2 1) - (v2 2) < 2147483648 → (v2 5) = (v2 1) - (v2 2) := xXf hF 2 rfl
                have f2 := f2 (by omega) (by omega)
                have f3 : 3 < (v2 5) := xXf hF 3 rfl
                have m0 : xE E2 74 39 = (v2 1) := xXm hM 0 rfl
                have m1 : xE E2 74 38 = (v2 2) := xXm hM 1 rfl
                have m2 : xE E2 74 40 = 4 := xXm hM 2 rfl
                have m3 : xE E2 74 41 = (v2 3) := xXm hM 3 rfl
                have e74_38 : xE E2 74 38 = xE E 74 38 := xFr_E hfr rfl
                have e74_39 : xE E2 74 39 = xE E 74 39 := xFr_E hfr rfl
                have e74_41 : xE E2 74 41 = xE E 74 41 := xFr_E hfr rfl
                have e74_42 : xE E2 74 42 = xE E 74 42 := xFr_E hfr rfl
                have q74_42 : xE E 74 42 = xE E0 74 42 := xFr_E hFr0 rfl
                have e84 : ∀ i, xE E2 84 i = xE E 84 i := fun i => xFr_E hfr rfl
                have q84 : ∀ i, xE E 84 i = xE E0 84 i := fun i => xFr_E hFr0 rfl
                have y74_42 : ((2147483648 : Nat) : Int) ≤ xE E0 74 42 + 2147483648 ∧ xE E0 74 42 + 2147483648 ≤ ((2147484548 : Nat) : Int) := xTyF hT0 74 42 42 rfl rfl rfl rfl rfl rfl
                have hI : xE E 74 38 = tFr (xE E0 84) (xE E0 74 42) (xE E0 74 39) ∧ tFr (xE E0 84) (xE E0 74 42) (xE E0 74 39) < (xE E0 74 42) ∧ tk ((xE E0 84) (tFr (xE E0 84) (xE E0 74 42) (xE E0 74 39))) = 3 ∧ (tFr (xE E0 84) (xE E0 74 42) (xE E0 74 39) ≤ xE E 74 39 ∧ xE E 74 39 ≤ (xE E0 74 42)) ∧ tRn (xE E0 84) (xE E0 74 42) 3 (xE E 74 39) = tRn (xE E0 84) (xE E0 74 42) 3 (tFr (xE E0 84) (xE E0 74 42) (xE E0 74 39)) ∧ ((xE E 74 39 = tFr (xE E0 84) (xE E0 74 42) (xE E0 74 39) ∧ xE E 74 41 = 0) ∨ (xE E 74 39 = tFr (xE E0 84) (xE E0 74 42) (xE E0 74 39) + 1 ∧ xE E 74 41 ≤ 9) ∨ (xE E 74 39 = tFr (xE E0 84) (xE E0 74 42) (xE E0 74 39) + 2 ∧ xE E 74 41 ≤ 99) ∨ tFr (xE E0 84) (xE E0 74 42) (xE E0 74 39) + 3 ≤ xE E 74 39) ∧ (xE E 74 39 ≤ tFr (xE E0 84) (xE E0 74 42) (xE E0 74 39) + 3 → tVl (xE E0 84) (tNx (xE E0 84) (xE E0 74 42) (xE E0 74 39)) (xE E 74 39) (xE E 74 41) = tVl (xE E0 84) (tNx (xE E0 84) (xE E0 74 42) (xE E0 74 39)) (tFr (xE E0 84) (xE E0 74 42) (xE E0 74 39)) 0) := hInv
                show xΨrd x0 E0 E2 0
                obtain ⟨i1, i2, i3, i5, i6, i7, i8⟩ := hI
                have hn1 := tNx_k (T := xE E0 84) (n := xE E0 74 42) (p := xE E0 74 39) i2 (Or.inr i3)
                rw [i3, tRn_s i2 i3] at hn1
                have hx := tRn_e (T := xE E0 84) (n := xE E0 74 42) (k := 3) (p := xE E 74 39) (by omega)
                rw [← i6, hx] at hn1
                unfold xΨrd xRD
                have hkd := tKd_b (T := xE E0 84) (n := xE E0 74 42) (p := xE E0 74 39) i2 i3 (by omega)
                rw [hkd, hn1]
                exact ⟨by omega, by rw [show rKd 1 = 4 from rfl]; omega, fun h => by omega, fun h => by omega, fun h => absurd h (by decide), fun h => absurd h (by decide)⟩
              · skip
                have ex := List.mem_singleton.mp hx
                subst ex
                obtain ⟨hF, hBd, hM⟩ := hXs
                have g1 : v2 1 = v 1 := hag 1 (by decide)
                have g2 : v2 2 = v 2 := hag 2 (by decide)
                have g3 : v2 3 = v 3 := hag 3 (by decide)
                have b0 : ((2147483648 : Nat) : Int) ≤ (v2 1) + 2147483648 ∧ (v2 1) + 2147483648 ≤ ((2147484548 : Nat) : Int) := xXb hBd 0 rfl
                have b1 : ((2147483648 : Nat) : Int) ≤ (v2 2) + 2147483648 ∧ (v2 2) + 2147483648 ≤ ((2147484548 : Nat) : Int) := xXb hBd 1 rfl
                have b2 : ((2147483648 : Nat) : Int) ≤ (v2 3) + 2147483648 ∧ (v2 3) + 2147483648 ≤ ((2147484647 : Nat) : Int) := xXb hBd 2 rfl
                have b3 : ((2147483648 : Nat) : Int) ≤ (v2 4) + 2147483648 ∧ (v2 4) + 2147483648 ≤ ((2147484548 : Nat) : Int) := xXb hBd 3 rfl
                have b4 : ((2147482748 : Nat) : Int) ≤ (v2 5) + 2147483648 ∧ (v2 5) + 2147483648 ≤ ((2147483651 : Nat) : Int) := xXb hBd 4 rfl
                have k0 : xE E 74 39 = v 1 := xKcf hKc 0 rfl rfl
                have k1 : xE E 74 38 = v 2 := xKcf hKc 1 rfl rfl
                have k2 : xE E 74 41 = v 3 := xKcf hKc 2 rfl rfl
                have f0 : (0 : Int) ≤ 42 ∧ xE E 74 42 = (v2 4) := xXf hF 0 rfl
                have f1 : (v2 4) ≤ (v2 1) := xXf hF 1 rfl
                have f2 : -2147483648 ≤ (v2 1) - (v2 2) → (v2 1) - (v2 2) < 2147483648 → (v2 5) = (v2 1) - (v2 2) := xXf hF 2 rfl
                have f2 := f2 (by omega) (by omega)
                have f3 : (v2 5) ≤ 3 := xXf hF 3 rfl
                have m0 : xE E2 74 39 = (v2 1) := xXm hM 0 rfl
                have m1 : xE E2 74 38 = (v2 2) := xXm hM 1 rfl
                have m2 : xE E2 74 40 = 2 := xXm hM 2 rfl
                have m3 : xE E2 74 41 = (v2 3) := xXm hM 3 rfl
                have e74_38 : xE E2 74 38 = xE E 74 38 := xFr_E hfr rfl
                have e74_39 : xE E2 74 39 = xE E 74 39 := xFr_E hfr rfl
                have e74_41 : xE E2 74 41 = xE E 74 41 := xFr_E hfr rfl
                have e74_42 : xE E2 74 42 = xE E 74 42 := xFr_E hfr rfl
                have q74_42 : xE E 74 42 = xE E0 74 42 := xFr_E hFr0 rfl
                have e84 : ∀ i, xE E2 84 i = xE E 84 i := fun i => xFr_E hfr rfl
                have q84 : ∀ i, xE E 84 i = xE E0 84 i := fun i => xFr_E hFr0 rfl
                have y74_42 : ((2147483648 : Nat) : Int) ≤ xE E0 74 42 + 2147483648 ∧ xE E0 74 42 + 2147483648 ≤ ((2147484548 : Nat) : Int) := xTyF hT0 74 42 42 rfl rfl rfl rfl rfl rfl
                have hI : xE E 74 38 = tFr (xE E0 84) (xE E0 74 42) (xE E0 74 39) ∧ tFr (xE E0 84) (xE E0 74 42) (xE E0 74 39) < (xE E0 74 42) ∧ tk ((xE E0 84) (tFr (xE E0 84) (xE E0 74 42) (xE E0 74 39))) = 3 ∧ (tFr (xE E0 84) (xE E0 74 42) (xE E0 74 39) ≤ xE E 74 39 ∧ xE E 74 39 ≤ (xE E0 74 42)) ∧ tRn (xE E0 84) (xE E0 74 42) 3 (xE E 74 39) = tRn (xE E0 84) (xE E0 74 42) 3 (tFr (xE E0 84) (xE E0 74 42) (xE E0 74 39)) ∧ ((xE E 74 39 = tFr (xE E0 84) (xE E0 74 42) (xE E0 74 39) ∧ xE E 74 41 = 0) ∨ (xE E 74 39 = tFr (xE E0 84) (xE E0 74 42) (xE E0 74 39) + 1 ∧ xE E 74 41 ≤ 9) ∨ (xE E 74 39 = tFr (xE E0 84) (xE E0 74 42) (xE E0 74 39) + 2 ∧ xE E 74 41 ≤ 99) ∨ tFr (xE E0 84) (xE E0 74 42) (xE E0 74 39) + 3 ≤ xE E 74 39) ∧ (xE E 74 39 ≤ tFr (xE E0 84) (xE E0 74 42) (xE E0 74 39) + 3 → tVl (xE E0 84) (tNx (xE E0 84) (xE E0 74 42) (xE E0 74 39)) (xE E 74 39) (xE E 74 41) = tVl (xE E0 84) (tNx (xE E0 84) (xE E0 74 42) (xE E0 74 39)) (tFr (xE E0 84) (xE E0 74 42) (xE E0 74 39)) 0) := hInv
                show xΨrd x0 E0 E2 0
                obtain ⟨i1, i2, i3, i5, i6, i7, i8⟩ := hI
                have hn1 := tNx_k (T := xE E0 84) (n := xE E0 74 42) (p := xE E0 74 39) i2 (Or.inr i3)
                rw [i3, tRn_s i2 i3] at hn1
                have hx := tRn_e (T := xE E0 84) (n := xE E0 74 42) (k := 3) (p := xE E 74 39) (by omega)
                rw [← i6, hx] at hn1
                unfold xΨrd xRD
                have hkd := tKd_k (T := xE E0 84) (n := xE E0 74 42) (p := xE E0 74 39) i2 (by omega)
                rw [i3] at hkd
                have i8 := i8 (by omega)
                rw [hn1, tVl_e (by omega)] at i8
                unfold tNm
                rw [hkd, hn1]
                exact ⟨by omega, by rw [show rKd 3 = 2 from rfl]; omega, fun h => by omega, fun h => by omega, fun h => by rw [← i8]; omega, fun h => absurd h (by decide)⟩
    · cases hx
