section
/-! THE REFERENCE loads (printed by m29.py) -/
noncomputable def zxflr_zx0 : zyXp := (0, [595, 34359738369, 13], [], [], [], [])
noncomputable def zpflr_z : zyPh := (0, [595, 34359738369, 13], [(0, 4294967295), (0, 4294967295), (0, 4294967295)], [], [])
noncomputable def zxflr_ax0 : zyXp := (28, [595, 34359738369, 0], [], [(21, 0, 34359738369, 0), (21, 0, 103079215105, 34359738369)], [(34359738369, 2147483648, 2147484548), (103079215105, 2147483648, 2147484548)], [(1212418, 0)])
noncomputable def zxflr_ar0 : zyXp := (0, [], [34359738360], [(20, 0, 34359738369, 0)], [(34359738369, 0, 2147483647)], [(1212418, 8)])
noncomputable def zxflr_ar1 : zyXp := (0, [], [34359738360], [(21, 0, 34359738369, 0), (20, 0, 103079215105, 34359738369)], [(34359738369, 2147483649, 4294967295), (103079215105, 2147483648, 2147484548)], [(1212418, 8)])
noncomputable def zpflr_a : zyPh := (0, [595, 34359738369, 13], [(0, 4294967295), (0, 4294967295), (0, 4294967295), (2147483648, 2147484548)], [(1212449, 103079215105)], [])
noncomputable def zxflr_hx0 : zyXp := (46, [595, 34359738369, 68719476737], [103079215105, 68719476737, 611], [(20, 0, 68719476737, 4448), (24, 103079215105, 75, 68719476737)], [(34359738369, 2147483648, 2147484548), (68719476737, 2147483648, 2147484203)], [])
noncomputable def zxflr_hx1 : zyXp := (69, [595, 13, 13], [595], [(21, 0, 68719476737, 4448)], [(34359738369, 2147483648, 2147484548), (68719476737, 2147484204, 2147484204)], [(1212452, 0), (1212455, 0), (1212458, 34359738369)])
noncomputable def zpflr_h : zyPh := (28, [595, 34359738369, 68719476737], [(0, 4294967295), (2147483648, 2147484548), (2147483648, 2147484204)], [], [])
noncomputable def zxflr_ix0 : zyXp := (28, [595, 34359738369, 68719476745], [], [], [(34359738369, 2147483648, 2147484548), (68719476737, 2147483648, 2147484203), (68719476745, 2147483649, 2147484204)], [])
noncomputable def zpflr_i : zyPh := (47, [595, 34359738369, 68719476737], [(0, 4294967295), (2147483648, 2147484548), (2147483648, 2147484203)], [], [])
noncomputable def zxflr_jx0 : zyXp := (73, [595, 13, 13], [595], [], [], [])
noncomputable def zpflr_j : zyPh := (72, [595, 13, 13], [(0, 4294967295), (0, 4294967295), (0, 4294967295)], [], [])
noncomputable def zxflr_mx0 : zyXp := (139, [595, 13, 0], [], [(20, 0, 0, 103079215105), (20, 0, 0, 103079215105), (23, 0, 103079215105, 0)], [(103079215105, 2147483649, 2147483657)], [(1212418, 72), (1212449, 0), (1212450, 103079215105), (1212451, 137438953473)])
noncomputable def zxflr_mr0 : zyXp := (0, [], [274877906945], [(21, 0, 0, 103079215105), (21, 0, 0, 103079215105), (22, 0, 103079215105, 0), (3, 240518168577, 32, 171798691841), (3, 274877906945, 240518168577, 206158430209)], [(103079215105, 2147483648, 2147483648)], [(1212418, 0), (1212449, 0), (1212450, 103079215105), (1212451, 34359738360)])
noncomputable def zpflr_m : zyPh := (76, [595, 13, 13], [(0, 4294967295), (0, 4294967295), (0, 4294967295), (2147483648, 2147483657), (0, 4294967295), (0, 4294967295), (0, 4294967295)], [(1212452, 103079215105), (1212453, 137438953473), (1228800, 171798691841), (1228801, 206158430209)], [])
noncomputable def zxflr_px0 : zyXp := (157, [595, 13, 68719476737], [103079215105, 68719476737, 603], [(20, 0, 68719476737, 4448), (24, 103079215105, 76, 68719476737)], [(68719476737, 2147483648, 2147484203)], [])
noncomputable def zxflr_pr0 : zyXp := (0, [], [34359738360], [(21, 0, 68719476737, 4448)], [(68719476737, 2147484204, 2147484204)], [])
noncomputable def zpflr_p : zyPh := (139, [595, 13, 68719476737], [(0, 4294967295), (0, 4294967295), (2147483648, 2147484204)], [], [])
noncomputable def zxflr_qx0 : zyXp := (139, [595, 13, 68719476745], [], [], [(68719476737, 2147483648, 2147484203), (68719476745, 2147483649, 2147484204)], [])
noncomputable def zpflr_q : zyPh := (158, [595, 13, 68719476737], [(0, 4294967295), (0, 4294967295), (2147483648, 2147484203)], [], [])
noncomputable def zpflr (i : Nat) : zyPh := zif (Nat.beq i 0) (zpflr_z) (zif (Nat.beq i 1) (zpflr_a) (zif (Nat.beq i 2) (zpflr_h) (zif (Nat.beq i 3) (zpflr_i) (zif (Nat.beq i 4) (zpflr_j) (zif (Nat.beq i 5) (zpflr_m) (zif (Nat.beq i 6) (zpflr_p) (zpflr_q)))))))
noncomputable def zXflr (i : Nat) : List zyXp := zif (Nat.beq i 0) ([zxflr_zx0]) (zif (Nat.beq i 1) ([zxflr_ax0]) (zif (Nat.beq i 2) ([zxflr_hx0, zxflr_hx1]) (zif (Nat.beq i 3) ([zxflr_ix0]) (zif (Nat.beq i 4) ([zxflr_jx0]) (zif (Nat.beq i 5) ([zxflr_mx0]) (zif (Nat.beq i 6) ([zxflr_px0]) ([zxflr_qx0])))))))
noncomputable def zRflr (i : Nat) : List zyXp := zif (Nat.beq i 0) ([]) (zif (Nat.beq i 1) ([zxflr_ar0, zxflr_ar1]) (zif (Nat.beq i 2) ([]) (zif (Nat.beq i 3) ([]) (zif (Nat.beq i 4) ([]) (zif (Nat.beq i 5) ([zxflr_mr0]) (zif (Nat.beq i 6) ([zxflr_pr0]) ([])))))))
noncomputable def zFflr (i : Nat) : zyR := zif (Nat.beq i 0) ([]) (zif (Nat.beq i 1) ([(74, 2, 3)]) (zif (Nat.beq i 2) ([(74, 36, 36), (74, 39, 39), (74, 42, 42)]) (zif (Nat.beq i 3) ([]) (zif (Nat.beq i 4) ([]) (zif (Nat.beq i 5) ([(74, 2, 2), (74, 33, 35)]) (zif (Nat.beq i 6) ([]) ([])))))))
noncomputable def zSflr (i : Nat) : Nat := zif (Nat.beq i 0) (0) (zif (Nat.beq i 1) (0) (zif (Nat.beq i 2) (0) (zif (Nat.beq i 3) (0) (zif (Nat.beq i 4) (0) (zif (Nat.beq i 5) (0) (zif (Nat.beq i 6) (0) (0)))))))
/-- a text is loaded -/
def xΦlr (_ : Nat → Int) (E : zyEm) : Prop := xWs E
def xΨlr (x : Nat → Int) (E E2 : zyEm) (r : Int) : Prop := if 0 ≤ x 0 ∧ x 0 ≤ xE E 74 33 then (xE E2 74 33 = 0 ∧ match pAll (xE E 84) (x 0) with
  | .ok (_, S) => r = sN (S 0) (S 1) ∧ xE E2 74 2 = 0 ∧ xE E2 74 34 = 0 ∧ xE E2 74 35 = -1 ∧ sI S ∧ ∀ k, 0 ≤ k → k < 520 → xE E2 75 k = S k
  | .error (w, a) => r = -1 ∧ 1 ≤ w ∧ xE E2 74 2 = 9 ∧ xE E2 74 34 = w ∧ xE E2 74 35 = a ∧ ∀ k, 0 ≤ k → k < 556 → xE E2 75 k = xE E 75 k)
  else r = -1 ∧ xE E2 74 2 = 1 ∧ xE E2 74 33 = xE E 74 33 ∧ xE E2 74 34 = xE E 74 34 ∧ xE E2 74 35 = xE E 74 35 ∧ ∀ k, 0 ≤ k → k < 556 → xE E2 75 k = xE E 75 k
theorem pLines_I {T : Int → Int} {n : Int} : ∀ {f : Nat} {p q : Int} {S S2 : Int → Int}, sI S → pLines T n f p S = .ok (q, S2) → sI S2 := by
  intro f
  induction f with
  | zero =>
    intro p q S S2 hS h
    cases h
    exact hS
  | succ f ih =>
    intro p q S S2 hS h
    by_cases hk : tKd T n p = 0
    · rw [pLines_0 hk] at h
      cases h
      exact hS
    · rw [pLines_s hk] at h
      obtain ⟨p2, S3, h1, h2⟩ := pBind_ok h
      exact ih (pLine_I hS h1) h2
theorem pAll_I {T : Int → Int} {n q : Int} {S : Int → Int} (h : pAll T n = .ok (q, S)) : sI S := by
  unfold pAll at h
  obtain ⟨p2, S3, h1, h2⟩ := pBind_ok h
  refine pLines_I ?_ h2
  unfold pSz at h1
  split at h1
  · obtain ⟨x, x1, x2, -, h1⟩ := pNum_ok h1
    obtain ⟨y, y1, y2, -, h1⟩ := pNum_ok h1
    rw [pSem_S h1]
    refine ⟨by show 1 ≤ x ∧ x ≤ 4; omega, by show 1 ≤ y ∧ y ≤ 5; omega, by show (0 : Int) ≤ 0 ∧ (0 : Int) ≤ 8; decide, fun b b0 b1 => ?_⟩
    have b1 : b < 0 := b1
    omega
  · cases h1
noncomputable def fpflr : zyR := [(74, 2, 3), (74, 33, 43), (75, 0, 555), (76, 0, 555)]
theorem zyflr_run : zyrS zymx zxi329 (329, 0, 0, 1, 0) 10 zpflr (fun _ _ => []) zFflr zSflr zXflr zRflr 8 = true := by decide +kernel
theorem zyflr_ck : zyAll (fun i => xsubR (zFflr i) fpflr && ((zXflr i).all xckX && (zRflr i).all (fun x => xckX x && xrtB true x))) 8 = true := by decide +kernel
def xIflr (i : Nat) (x0 : Nat → Int) (E0 : zyEm) (v : Nat → Int) (E : zyEm) : Prop := if i = 0 then (E = E0 ∧ (v 1) = x0 0) else if i = 1 then (E = E0 ∧ (v 1) = x0 0) else if i = 2 then ((0 ≤ x0 0 ∧ x0 0 ≤ xE E0 74 33) ∧ (v 1) = x0 0 ∧ (∀ k, 0 ≤ k → xE E 75 k = xE E0 75 k) ∧ (∀ k, 0 ≤ k → k < (v 2) → xE E 76 k = xE E0 75 k) ∧ 0 ≤ (v 2)) else if i = 3 then ((0 ≤ x0 0 ∧ x0 0 ≤ xE E0 74 33) ∧ (v 1) = x0 0 ∧ (∀ k, 0 ≤ k → xE E 75 k = xE E0 75 k) ∧ (∀ k, 0 ≤ k → k < (v 2) + 1 → xE E 76 k = xE E0 75 k) ∧ 0 ≤ (v 2)) else if i = 4 then ((0 ≤ x0 0 ∧ x0 0 ≤ xE E0 74 33) ∧ (∀ k, 0 ≤ k → k < 556 → xE E 76 k = xE E0 75 k) ∧ xE E 74 36 = 0 ∧ xE E 74 42 = x0 0 ∧ xRD (xE E0 84) (x0 0) 0 E) else if i = 5 then ((0 ≤ x0 0 ∧ x0 0 ≤ xE E0 74 33) ∧ (∀ k, 0 ≤ k → k < 556 → xE E 76 k = xE E0 75 k) ∧ xRs (xE E0 84) (x0 0) E (pAll (xE E0 84) (x0 0))) else if i = 6 then ((0 ≤ x0 0 ∧ x0 0 ≤ xE E0 74 33) ∧ (∀ k, 0 ≤ k → k < 556 → xE E 76 k = xE E0 75 k) ∧ (∃ w a, pAll (xE E0 84) (x0 0) = .error (w, a) ∧ 1 ≤ w ∧ xE E 74 34 = w ∧ xE E 74 35 = a) ∧ (xE E 74 33 = 0 ∧ xE E 74 2 = 9) ∧ (∀ k, 0 ≤ k → k < (v 2) → xE E 75 k = xE E0 75 k) ∧ 0 ≤ (v 2)) else ((0 ≤ x0 0 ∧ x0 0 ≤ xE E0 74 33) ∧ (∀ k, 0 ≤ k → k < 556 → xE E 76 k = xE E0 75 k) ∧ (∃ w a, pAll (xE E0 84) (x0 0) = .error (w, a) ∧ 1 ≤ w ∧ xE E 74 34 = w ∧ xE E 74 35 = a) ∧ (xE E 74 33 = 0 ∧ xE E 74 2 = 9) ∧ (∀ k, 0 ≤ k → k < (v 2) + 1 → xE E 75 k = xE E0 75 k) ∧ 0 ≤ (v 2))
def xMflr (i : Nat) (x0 : Nat → Int) (E0 : zyEm) (v : Nat → Int) (E : zyEm) : Nat := if i = 0 then (9000) else if i = 1 then (8000) else if i = 2 then (5000 + 2 * (600 - (v 2)).toNat + 1) else if i = 3 then (5000 + 2 * (600 - (v 2)).toNat) else if i = 4 then (4000) else if i = 5 then (3000) else if i = 6 then (2 * (600 - (v 2)).toNat + 1) else (2 * (600 - (v 2)).toNat)
theorem xLr {l : Launch} {en : zEn} {me : zMe} (hen : zG zxMeta 329 = some en) (hme : zG zMeth 329 = some me) : xFc l zymx en me 10 [74] 1 fpflr true xΦlr xΨlr := by
  have een : zG zxMeta 329 = some (zxi329, 2, 3, 11, 329, 0, 0, 1, 0) := rfl
  obtain ⟨me1, hme1, hOK⟩ := zall hen
  rw [hme] at hme1
  cases hme1
  rw [een] at hen
  cases hen
  have hr := zyflr_run
  have hck := fun i hi => zyAll_iff zyflr_ck i hi
  simp only [Bool.and_eq_true] at hck
  obtain ⟨mefrd, hmefrd, -⟩ := zall (show zG zxMeta 314 = some (zxi314, 1, 1, 11, 314, 0, 0, 0, 0) from rfl)
  have hfrd := xRd (l := l) (show zG zxMeta 314 = some (zxi314, 1, 1, 11, 314, 0, 0, 0, 0) from rfl) hmefrd
  obtain ⟨mefra, hmefra, -⟩ := zall (show zG zxMeta 328 = some (zxi328, 1, 3, 11, 328, 0, 0, 0, 0) from rfl)
  have hfra := xAl (l := l) (show zG zxMeta 328 = some (zxi328, 1, 3, 11, 328, 0, 0, 0, 0) from rfl) hmefra
  intro B
  refine xcut (mi := zymx) (B := B) hOK rfl rfl (ι := Fin 8) (fun i => zpflr i.val) (fun _ _ => []) (fun i => zFflr i.val) (fun i => zSflr i.val) (fun i => zXflr i.val) (fun i => zRflr i.val) (fun i y2 ct en2 me2 h => by cases h) 200000 (fun i => zyAll_iff hr i.val i.isLt) (fun i => (hck i.val i.isLt).1) (fun i => (hck i.val i.isLt).2.1) (fun i => (hck i.val i.isLt).2.2) ⟨0, by decide⟩ ⟨rfl, rfl, rfl, rfl⟩ ⟨by decide, by decide⟩ (fun i x0 E0 v E => xIflr i.val x0 E0 v E) (fun i x0 E0 v E => xMflr i.val x0 E0 v E) ?_ ?_ ?_
  · intro x0 E hx0 hT hΦ
    have hΦ : xΦlr x0 E := hΦ
    refine ⟨fun k p hp => ?_, ?_⟩
    · have hk : k < 3 := (List.getElem?_eq_some_iff.mp hp).1
      have hk : k = 0 ∨ k = 1 ∨ k = 2 := by omega
      rcases hk with rfl | rfl | rfl
      · have hp : some (0, 4294967295) = some p := hp
        cases hp
        show ((0 : Nat) : Int) ≤ 0 + 2147483648 ∧ 0 + 2147483648 ≤ ((4294967295 : Nat) : Int)
        omega
      · have hp : some (0, 4294967295) = some p := hp
        cases hp
        show ((0 : Nat) : Int) ≤ x0 0 + 2147483648 ∧ x0 0 + 2147483648 ≤ ((4294967295 : Nat) : Int)
        have hx := hx0 0
        omega
      · have hp : some (0, 4294967295) = some p := hp
        cases hp
        show ((0 : Nat) : Int) ≤ x0 1 + 2147483648 ∧ x0 1 + 2147483648 ≤ ((4294967295 : Nat) : Int)
        have hx := hx0 1
        omega
    · show E = E ∧ (x0 0) = x0 0
      exact ⟨rfl, rfl⟩
  · intro x0 s Wg hRu hrx hT0 hΦ i v H hT hrv hInv hKc hFr0 hIH x hx ρ2 v2 N2 H2 locs lsB stA hAt hB hv hr2 hXs hag hfr hFr hT2
    rcases i with ⟨i, hi⟩
    have hi2 : i = 0 ∨ i = 1 ∨ i = 2 ∨ i = 3 ∨ i = 4 ∨ i = 5 ∨ i = 6 ∨ i = 7 := by omega
    rcases hi2 with rfl | rfl | rfl | rfl | rfl | rfl | rfl | rfl
    · have hx : x ∈ [zxflr_zx0] := hx
      have hag : ∀ k, k < 3 → v2 k = v k := hag
      have hfr : xFr [] _ _ := hfr
      have ex := List.mem_singleton.mp hx
      subst ex
      obtain ⟨hF, hBd, hM⟩ := hXs
      have r1 := hr2 1
      have g1 : v2 1 = v 1 := hag 1 (by decide)
      have e74_2 : xE (zyEl zymx B H2) 74 2 = xE (zyEl zymx B H) 74 2 := xFr_E hfr rfl
      have e74_33 : xE (zyEl zymx B H2) 74 33 = xE (zyEl zymx B H) 74 33 := xFr_E hfr rfl
      have e74_34 : xE (zyEl zymx B H2) 74 34 = xE (zyEl zymx B H) 74 34 := xFr_E hfr rfl
      have e74_35 : xE (zyEl zymx B H2) 74 35 = xE (zyEl zymx B H) 74 35 := xFr_E hfr rfl
      have e74_36 : xE (zyEl zymx B H2) 74 36 = xE (zyEl zymx B H) 74 36 := xFr_E hfr rfl
      have e74_37 : xE (zyEl zymx B H2) 74 37 = xE (zyEl zymx B H) 74 37 := xFr_E hfr rfl
      have e74_39 : xE (zyEl zymx B H2) 74 39 = xE (zyEl zymx B H) 74 39 := xFr_E hfr rfl
      have e74_42 : xE (zyEl zymx B H2) 74 42 = xE (zyEl zymx B H) 74 42 := xFr_E hfr rfl
      have e84 : ∀ i, xE (zyEl zymx B H2) 84 i = xE (zyEl zymx B H) 84 i := fun i => xFr_E hfr rfl
      have q84 : ∀ i, xE (zyEl zymx B H) 84 i = xE (zyEl zymx B s.heap) 84 i := fun i => xFr_E hFr0 rfl
      have e75 : ∀ i, xE (zyEl zymx B H2) 75 i = xE (zyEl zymx B H) 75 i := fun i => xFr_E hfr rfl
      have e76 : ∀ i, xE (zyEl zymx B H2) 76 i = xE (zyEl zymx B H) 76 i := fun i => xFr_E hfr rfl
      have y74_33 : ((2147483648 : Nat) : Int) ≤ xE (zyEl zymx B s.heap) 74 33 + 2147483648 ∧ xE (zyEl zymx B s.heap) 74 33 + 2147483648 ≤ ((2147484548 : Nat) : Int) := xTyF hT0 74 33 33 rfl rfl rfl rfl rfl rfl
      have hI : (zyEl zymx B H) = (zyEl zymx B s.heap) ∧ (v 1) = x0 0 := hInv
      have q74_2 : xE (zyEl zymx B H) 74 2 = xE (zyEl zymx B s.heap) 74 2 := by rw [hI.1]
      have q74_33 : xE (zyEl zymx B H) 74 33 = xE (zyEl zymx B s.heap) 74 33 := by rw [hI.1]
      have q74_34 : xE (zyEl zymx B H) 74 34 = xE (zyEl zymx B s.heap) 74 34 := by rw [hI.1]
      have q74_35 : xE (zyEl zymx B H) 74 35 = xE (zyEl zymx B s.heap) 74 35 := by rw [hI.1]
      have q74_36 : xE (zyEl zymx B H) 74 36 = xE (zyEl zymx B s.heap) 74 36 := by rw [hI.1]
      have q74_37 : xE (zyEl zymx B H) 74 37 = xE (zyEl zymx B s.heap) 74 37 := by rw [hI.1]
      have q74_39 : xE (zyEl zymx B H) 74 39 = xE (zyEl zymx B s.heap) 74 39 := by rw [hI.1]
      have q74_42 : xE (zyEl zymx B H) 74 42 = xE (zyEl zymx B s.heap) 74 42 := by rw [hI.1]
      have q75 : ∀ i, xE (zyEl zymx B H) 75 i = xE (zyEl zymx B s.heap) 75 i := fun i => by rw [hI.1]
      have q76 : ∀ i, xE (zyEl zymx B H) 76 i = xE (zyEl zymx B s.heap) 76 i := fun i => by rw [hI.1]
      obtain ⟨hE, i1⟩ := hI
      have z74_33 : ((2147483648 : Nat) : Int) ≤ xE (zyEl zymx B H2) 74 33 + 2147483648 ∧ xE (zyEl zymx B H2) 74 33 + 2147483648 ≤ ((2147484548 : Nat) : Int) := xTyF hT2 74 33 33 rfl rfl rfl rfl rfl rfl
      refine xGo hIH hAt hB hv hFr ⟨1, by decide⟩ [0, 34359738369, 0] [0, (v2 1), 0, xE (zyEl zymx B H2) 74 33] rfl ⟨by decide +kernel, ⟨rfl, by decide +kernel⟩, (xcs_c rfl (xcs_c rfl (xcs_c rfl xcs_n))), (xe_0 (xe_f (by omega) (xe_0 (xe_c (by omega) (by omega) rfl xe_n)))), (xkq_c hT2 74 33 (q := 33) rfl rfl rfl rfl rfl rfl rfl rfl rfl rfl rfl xkq_n)⟩ xst_n ?_ ?_
      · show (zyEl zymx B H2) = (zyEl zymx B s.heap) ∧ ((v2 1) : Int) = x0 0
        exact ⟨(xFr_n hfr).trans hE, by omega⟩
      · show 8000 < 9000
        omega
    · have hx : x ∈ [zxflr_ax0] := hx
      have hag : ∀ k, k < 4 → v2 k = v k := hag
      have hfr : xFr [(74, 2, 3)] _ _ := hfr
      have ex := List.mem_singleton.mp hx
      subst ex
      obtain ⟨hF, hBd, hM⟩ := hXs
      have g1 : v2 1 = v 1 := hag 1 (by decide)
      have g3 : v2 3 = v 3 := hag 3 (by decide)
      have b0 : ((2147483648 : Nat) : Int) ≤ (v2 1) + 2147483648 ∧ (v2 1) + 2147483648 ≤ ((2147484548 : Nat) : Int) := xXb hBd 0 rfl
      have b1 : ((2147483648 : Nat) : Int) ≤ (v2 3) + 2147483648 ∧ (v2 3) + 2147483648 ≤ ((2147484548 : Nat) : Int) := xXb hBd 1 rfl
      have k0 : xE (zyEl zymx B H) 74 33 = v 3 := xKcf hKc 0 rfl rfl
      have f0 : 0 ≤ (v2 1) := xXf hF 0 rfl
      have f1 : (v2 1) ≤ (v2 3) := xXf hF 1 rfl
      have m0 : xE (zyEl zymx B H2) 74 2 = 0 := xXm hM 0 rfl
      have e74_33 : xE (zyEl zymx B H2) 74 33 = xE (zyEl zymx B H) 74 33 := xFr_E hfr rfl
      have e74_34 : xE (zyEl zymx B H2) 74 34 = xE (zyEl zymx B H) 74 34 := xFr_E hfr rfl
      have e74_35 : xE (zyEl zymx B H2) 74 35 = xE (zyEl zymx B H) 74 35 := xFr_E hfr rfl
      have e74_36 : xE (zyEl zymx B H2) 74 36 = xE (zyEl zymx B H) 74 36 := xFr_E hfr rfl
      have e74_37 : xE (zyEl zymx B H2) 74 37 = xE (zyEl zymx B H) 74 37 := xFr_E hfr rfl
      have e74_39 : xE (zyEl zymx B H2) 74 39 = xE (zyEl zymx B H) 74 39 := xFr_E hfr rfl
      have e74_42 : xE (zyEl zymx B H2) 74 42 = xE (zyEl zymx B H) 74 42 := xFr_E hfr rfl
      have e84 : ∀ i, xE (zyEl zymx B H2) 84 i = xE (zyEl zymx B H) 84 i := fun i => xFr_E hfr rfl
      have q84 : ∀ i, xE (zyEl zymx B H) 84 i = xE (zyEl zymx B s.heap) 84 i := fun i => xFr_E hFr0 rfl
      have e75 : ∀ i, xE (zyEl zymx B H2) 75 i = xE (zyEl zymx B H) 75 i := fun i => xFr_E hfr rfl
      have e76 : ∀ i, xE (zyEl zymx B H2) 76 i = xE (zyEl zymx B H) 76 i := fun i => xFr_E hfr rfl
      have y74_33 : ((2147483648 : Nat) : Int) ≤ xE (zyEl zymx B s.heap) 74 33 + 2147483648 ∧ xE (zyEl zymx B s.heap) 74 33 + 2147483648 ≤ ((2147484548 : Nat) : Int) := xTyF hT0 74 33 33 rfl rfl rfl rfl rfl rfl
      have hI : (zyEl zymx B H) = (zyEl zymx B s.heap) ∧ (v 1) = x0 0 := hInv
      have q74_2 : xE (zyEl zymx B H) 74 2 = xE (zyEl zymx B s.heap) 74 2 := by rw [hI.1]
      have q74_33 : xE (zyEl zymx B H) 74 33 = xE (zyEl zymx B s.heap) 74 33 := by rw [hI.1]
      have q74_34 : xE (zyEl zymx B H) 74 34 = xE (zyEl zymx B s.heap) 74 34 := by rw [hI.1]
      have q74_35 : xE (zyEl zymx B H) 74 35 = xE (zyEl zymx B s.heap) 74 35 := by rw [hI.1]
      have q74_36 : xE (zyEl zymx B H) 74 36 = xE (zyEl zymx B s.heap) 74 36 := by rw [hI.1]
      have q74_37 : xE (zyEl zymx B H) 74 37 = xE (zyEl zymx B s.heap) 74 37 := by rw [hI.1]
      have q74_39 : xE (zyEl zymx B H) 74 39 = xE (zyEl zymx B s.heap) 74 39 := by rw [hI.1]
      have q74_42 : xE (zyEl zymx B H) 74 42 = xE (zyEl zymx B s.heap) 74 42 := by rw [hI.1]
      have q75 : ∀ i, xE (zyEl zymx B H) 75 i = xE (zyEl zymx B s.heap) 75 i := fun i => by rw [hI.1]
      have q76 : ∀ i, xE (zyEl zymx B H) 76 i = xE (zyEl zymx B s.heap) 76 i := fun i => by rw [hI.1]
      obtain ⟨hE, i1⟩ := hI
      refine xGo hIH hAt hB hv hFr ⟨2, by decide⟩ [0, 34359738369, 0] [0, (v2 1), 0] rfl ⟨by decide +kernel, ⟨rfl, by decide +kernel⟩, (xcs_c rfl (xcs_c rfl (xcs_c rfl xcs_n))), (xe_0 (xe_c (by omega) (by omega) rfl (xe_c (by omega) (by omega) rfl xe_n))), xkq_n⟩ xst_n ?_ ?_
      · show (0 ≤ x0 0 ∧ x0 0 ≤ xE (zyEl zymx B s.heap) 74 33) ∧ ((v2 1) : Int) = x0 0 ∧ (∀ k, 0 ≤ k → xE (zyEl zymx B H2) 75 k = xE (zyEl zymx B s.heap) 75 k) ∧ (∀ k, 0 ≤ k → k < (0 : Int) → xE (zyEl zymx B H2) 76 k = xE (zyEl zymx B s.heap) 75 k) ∧ 0 ≤ (0 : Int)
        exact ⟨by omega, by omega, fun k k0 => (e75 k).trans (q75 k), fun k k0 k1 => by omega, by omega⟩
      · show 5000 + 2 * (600 - (0 : Int)).toNat + 1 < 8000
        omega
    · have hx : x ∈ [zxflr_hx0, zxflr_hx1] := hx
      have hag : ∀ k, k < 3 → v2 k = v k := hag
      have hfr : xFr [(74, 36, 36), (74, 39, 39), (74, 42, 42)] _ _ := hfr
      rcases List.mem_cons.mp hx with ex | hx
      · subst ex
        obtain ⟨hF, hBd, hM⟩ := hXs
        have r3 := hr2 3
        have g1 : v2 1 = v 1 := hag 1 (by decide)
        have g2 : v2 2 = v 2 := hag 2 (by decide)
        have b0 : ((2147483648 : Nat) : Int) ≤ (v2 1) + 2147483648 ∧ (v2 1) + 2147483648 ≤ ((2147484548 : Nat) : Int) := xXb hBd 0 rfl
        have b1 : ((2147483648 : Nat) : Int) ≤ (v2 2) + 2147483648 ∧ (v2 2) + 2147483648 ≤ ((2147484203 : Nat) : Int) := xXb hBd 1 rfl
        have f0 : (v2 2) < 556 := xXf hF 0 rfl
        have f1 : (0 : Int) ≤ (v2 2) ∧ xE (zyEl zymx B H) 75 (v2 2) = (v2 3) := xXf hF 1 rfl
        have e74_2 : xE (zyEl zymx B H2) 74 2 = xE (zyEl zymx B H) 74 2 := xFr_E hfr rfl
        have e74_33 : xE (zyEl zymx B H2) 74 33 = xE (zyEl zymx B H) 74 33 := xFr_E hfr rfl
        have e74_34 : xE (zyEl zymx B H2) 74 34 = xE (zyEl zymx B H) 74 34 := xFr_E hfr rfl
        have e74_35 : xE (zyEl zymx B H2) 74 35 = xE (zyEl zymx B H) 74 35 := xFr_E hfr rfl
        have e74_37 : xE (zyEl zymx B H2) 74 37 = xE (zyEl zymx B H) 74 37 := xFr_E hfr rfl
        have e84 : ∀ i, xE (zyEl zymx B H2) 84 i = xE (zyEl zymx B H) 84 i := fun i => xFr_E hfr rfl
        have q84 : ∀ i, xE (zyEl zymx B H) 84 i = xE (zyEl zymx B s.heap) 84 i := fun i => xFr_E hFr0 rfl
        have e75 : ∀ i, xE (zyEl zymx B H2) 75 i = xE (zyEl zymx B H) 75 i := fun i => xFr_E hfr rfl
        have e76 : ∀ i, xE (zyEl zymx B H2) 76 i = xE (zyEl zymx B H) 76 i := fun i => xFr_E hfr rfl
        have y74_33 : ((2147483648 : Nat) : Int) ≤ xE (zyEl zymx B s.heap) 74 33 + 2147483648 ∧ xE (zyEl zymx B s.heap) 74 33 + 2147483648 ≤ ((2147484548 : Nat) : Int) := xTyF hT0 74 33 33 rfl rfl rfl rfl rfl rfl
        have hI : (0 ≤ x0 0 ∧ x0 0 ≤ xE (zyEl zymx B s.heap) 74 33) ∧ (v 1) = x0 0 ∧ (∀ k, 0 ≤ k → xE (zyEl zymx B H) 75 k = xE (zyEl zymx B s.heap) 75 k) ∧ (∀ k, 0 ≤ k → k < (v 2) → xE (zyEl zymx B H) 76 k = xE (zyEl zymx B s.heap) 75 k) ∧ 0 ≤ (v 2) := hInv
        obtain ⟨i1, i2, hc, hw, i3⟩ := hI
        have hPW := (show xΦlr x0 (zyEl zymx B s.heap) from hΦ)
        have ev : xE (zyEl zymx B s.heap) 75 (v 2) = (v2 3) := by
          rw [← hc _ i3, show v 2 = (v2 2) by omega]
          exact f1.2
        refine xSt hRu hIH hAt hB hv hFr 76 (ax := 0) 103079215105 68719476737 (v2 3) (v2 2) rfl (Or.inl ⟨rfl, rfl⟩) rfl (by decide +kernel) rfl rfl (by omega) (by show (v2 2) < ((556 : Nat) : Int); omega) (fun r hr q1 q2 => by rw [List.mem_singleton.mp hr]; exact ⟨rfl, by show ((0 : Nat) : Int) ≤ (v2 3) + 2147483648; omega, by show (v2 3) + 2147483648 ≤ ((4294967295 : Nat) : Int); omega⟩) (zyin_iff.mpr ⟨(76, 0, 555), by decide, rfl, (by show 0 ≤ Int.toNat (v2 2); omega), by show Int.toNat (v2 2) ≤ 555; omega⟩) (fun H3 hT3 hst3 hne3 hfn3 hFr3 => ?_)
        have hfe3 : ∀ (a2 : Nat) (k2 : Int), ¬ a2 = 76 → xE (zyEl zymx B H3) a2 k2 = xE (zyEl zymx B H2) a2 k2 := fun a2 k2 hne => by unfold xE; rw [hfn3 a2 k2.toNat (fun z => hne z.1)]
        have d74_2 : xE (zyEl zymx B H3) 74 2 = xE (zyEl zymx B H2) 74 2 := hfe3 74 2 (fun z => absurd z (by decide))
        have d74_33 : xE (zyEl zymx B H3) 74 33 = xE (zyEl zymx B H2) 74 33 := hfe3 74 33 (fun z => absurd z (by decide))
        have d74_34 : xE (zyEl zymx B H3) 74 34 = xE (zyEl zymx B H2) 74 34 := hfe3 74 34 (fun z => absurd z (by decide))
        have d74_35 : xE (zyEl zymx B H3) 74 35 = xE (zyEl zymx B H2) 74 35 := hfe3 74 35 (fun z => absurd z (by decide))
        have d74_36 : xE (zyEl zymx B H3) 74 36 = xE (zyEl zymx B H2) 74 36 := hfe3 74 36 (fun z => absurd z (by decide))
        have d74_37 : xE (zyEl zymx B H3) 74 37 = xE (zyEl zymx B H2) 74 37 := hfe3 74 37 (fun z => absurd z (by decide))
        have d74_39 : xE (zyEl zymx B H3) 74 39 = xE (zyEl zymx B H2) 74 39 := hfe3 74 39 (fun z => absurd z (by decide))
        have d74_42 : xE (zyEl zymx B H3) 74 42 = xE (zyEl zymx B H2) 74 42 := hfe3 74 42 (fun z => absurd z (by decide))
        refine ⟨⟨3, by decide⟩, [0, 34359738369, 68719476737], [0, (v2 1), (v2 2)], rfl, ⟨by decide +kernel, ⟨rfl, by decide +kernel⟩, (xcs_c rfl (xcs_c rfl (xcs_c rfl xcs_n))), (xe_0 (xe_c (by omega) (by omega) rfl (xe_c (by omega) (by omega) rfl xe_n))), xkq_n⟩, rfl, ?_, ?_⟩
        · show (0 ≤ x0 0 ∧ x0 0 ≤ xE (zyEl zymx B s.heap) 74 33) ∧ ((v2 1) : Int) = x0 0 ∧ (∀ k, 0 ≤ k → xE (zyEl zymx B H3) 75 k = xE (zyEl zymx B s.heap) 75 k) ∧ (∀ k, 0 ≤ k → k < ((v2 2) : Int) + 1 → xE (zyEl zymx B H3) 76 k = xE (zyEl zymx B s.heap) 75 k) ∧ 0 ≤ ((v2 2) : Int)
          refine ⟨i1, by omega, fun k k0 => ((hfe3 75 k (by decide)).trans (e75 k)).trans (hc k k0), fun k k0 k1 => ?_, by omega⟩
          by_cases e : k = v 2
          · rw [e, ev, show v 2 = (v2 2) by omega]
            exact hst3
          · rw [hne3 76 k k0 (fun z => e (by omega)), e76]
            exact hw k k0 (by omega)
        · show 5000 + 2 * (600 - ((v2 2) : Int)).toNat < 5000 + 2 * (600 - (v 2)).toNat + 1
          omega
      · skip
        have ex := List.mem_singleton.mp hx
        subst ex
        obtain ⟨hF, hBd, hM⟩ := hXs
        have g1 : v2 1 = v 1 := hag 1 (by decide)
        have g2 : v2 2 = v 2 := hag 2 (by decide)
        have b0 : ((2147483648 : Nat) : Int) ≤ (v2 1) + 2147483648 ∧ (v2 1) + 2147483648 ≤ ((2147484548 : Nat) : Int) := xXb hBd 0 rfl
        have b1 : ((2147484204 : Nat) : Int) ≤ (v2 2) + 2147483648 ∧ (v2 2) + 2147483648 ≤ ((2147484204 : Nat) : Int) := xXb hBd 1 rfl
        have f0 : 556 ≤ (v2 2) := xXf hF 0 rfl
        have m0 : xE (zyEl zymx B H2) 74 36 = 0 := xXm hM 0 rfl
        have m1 : xE (zyEl zymx B H2) 74 39 = 0 := xXm hM 1 rfl
        have m2 : xE (zyEl zymx B H2) 74 42 = (v2 1) := xXm hM 2 rfl
        have e74_2 : xE (zyEl zymx B H2) 74 2 = xE (zyEl zymx B H) 74 2 := xFr_E hfr rfl
        have e74_33 : xE (zyEl zymx B H2) 74 33 = xE (zyEl zymx B H) 74 33 := xFr_E hfr rfl
        have e74_34 : xE (zyEl zymx B H2) 74 34 = xE (zyEl zymx B H) 74 34 := xFr_E hfr rfl
        have e74_35 : xE (zyEl zymx B H2) 74 35 = xE (zyEl zymx B H) 74 35 := xFr_E hfr rfl
        have e74_37 : xE (zyEl zymx B H2) 74 37 = xE (zyEl zymx B H) 74 37 := xFr_E hfr rfl
        have e84 : ∀ i, xE (zyEl zymx B H2) 84 i = xE (zyEl zymx B H) 84 i := fun i => xFr_E hfr rfl
        have q84 : ∀ i, xE (zyEl zymx B H) 84 i = xE (zyEl zymx B s.heap) 84 i := fun i => xFr_E hFr0 rfl
        have e75 : ∀ i, xE (zyEl zymx B H2) 75 i = xE (zyEl zymx B H) 75 i := fun i => xFr_E hfr rfl
        have e76 : ∀ i, xE (zyEl zymx B H2) 76 i = xE (zyEl zymx B H) 76 i := fun i => xFr_E hfr rfl
        have y74_33 : ((2147483648 : Nat) : Int) ≤ xE (zyEl zymx B s.heap) 74 33 + 2147483648 ∧ xE (zyEl zymx B s.heap) 74 33 + 2147483648 ≤ ((2147484548 : Nat) : Int) := xTyF hT0 74 33 33 rfl rfl rfl rfl rfl rfl
        have hI : (0 ≤ x0 0 ∧ x0 0 ≤ xE (zyEl zymx B s.heap) 74 33) ∧ (v 1) = x0 0 ∧ (∀ k, 0 ≤ k → xE (zyEl zymx B H) 75 k = xE (zyEl zymx B s.heap) 75 k) ∧ (∀ k, 0 ≤ k → k < (v 2) → xE (zyEl zymx B H) 76 k = xE (zyEl zymx B s.heap) 75 k) ∧ 0 ≤ (v 2) := hInv
        obtain ⟨i1, i2, hc, hw, i3⟩ := hI
        have hPW := (show xΦlr x0 (zyEl zymx B s.heap) from hΦ)
        refine xCa hRu hIH hAt hB hv hFr (hfrd B) (ix := 450) (ax := 5024) rfl rfl rfl hmefrd ⟨_, rfl, rfl, by decide⟩ ⟨rfl, rfl, rfl⟩ (by decide) [] [] [] rfl ⟨rfl, rfl⟩ (by decide +kernel) xcs_n (by decide +kernel) ?_ (fun H3 r hT3 hf3 hFr3 hr3 hΨ3 => ?_)
        · show xΦrd (xfv []) (zyEl zymx B H2)
          unfold xΦrd
          omega
        · have hΨ3 : xΨrd (xfv []) (zyEl zymx B H2) (zyEl zymx B H3) r := hΨ3
          have d74_2 : xE (zyEl zymx B H3) 74 2 = xE (zyEl zymx B H2) 74 2 := xFr_E hf3 rfl
          have d74_33 : xE (zyEl zymx B H3) 74 33 = xE (zyEl zymx B H2) 74 33 := xFr_E hf3 rfl
          have d74_34 : xE (zyEl zymx B H3) 74 34 = xE (zyEl zymx B H2) 74 34 := xFr_E hf3 rfl
          have d74_35 : xE (zyEl zymx B H3) 74 35 = xE (zyEl zymx B H2) 74 35 := xFr_E hf3 rfl
          have d74_36 : xE (zyEl zymx B H3) 74 36 = xE (zyEl zymx B H2) 74 36 := xFr_E hf3 rfl
          have d74_37 : xE (zyEl zymx B H3) 74 37 = xE (zyEl zymx B H2) 74 37 := xFr_E hf3 rfl
          have d74_42 : xE (zyEl zymx B H3) 74 42 = xE (zyEl zymx B H2) 74 42 := xFr_E hf3 rfl
          have d84 : ∀ i, xE (zyEl zymx B H3) 84 i = xE (zyEl zymx B H2) 84 i := fun i => xFr_E hf3 rfl
          have d75 : ∀ i, xE (zyEl zymx B H3) 75 i = xE (zyEl zymx B H2) 75 i := fun i => xFr_E hf3 rfl
          have d76 : ∀ i, xE (zyEl zymx B H3) 76 i = xE (zyEl zymx B H2) 76 i := fun i => xFr_E hf3 rfl
          unfold xΨrd at hΨ3
          rw [show xE (zyEl zymx B H2) 84 = xE (zyEl zymx B s.heap) 84 from funext fun i => (e84 i).trans (q84 i), show xE (zyEl zymx B H2) 74 42 = x0 0 by omega, show xE (zyEl zymx B H2) 74 39 = 0 by omega] at hΨ3
          refine ⟨⟨4, by decide⟩, [0, 0, 0], [0, 0, 0], rfl, ⟨by decide +kernel, ⟨rfl, by decide +kernel⟩, (xcs_c rfl (xcs_c rfl (xcs_c rfl xcs_n))), (xe_0 (xe_0 (xe_0 xe_n))), xkq_n⟩, (by rw [if_neg (by decide)]; exact xst_n), ?_, ?_⟩
          · show (0 ≤ x0 0 ∧ x0 0 ≤ xE (zyEl zymx B s.heap) 74 33) ∧ (∀ k, 0 ≤ k → k < 556 → xE (zyEl zymx B H3) 76 k = xE (zyEl zymx B s.heap) 75 k) ∧ xE (zyEl zymx B H3) 74 36 = 0 ∧ xE (zyEl zymx B H3) 74 42 = x0 0 ∧ xRD (xE (zyEl zymx B s.heap) 84) (x0 0) 0 (zyEl zymx B H3)
            exact ⟨i1, fun k k0 k1 => ((d76 k).trans (e76 k)).trans (hw k k0 (by omega)), by omega, by omega, hΨ3⟩
          · show 4000 < 5000 + 2 * (600 - (v 2)).toNat + 1
            omega
    · have hx : x ∈ [zxflr_ix0] := hx
      have hag : ∀ k, k < 3 → v2 k = v k := hag
      have hfr : xFr [] _ _ := hfr
      have ex := List.mem_singleton.mp hx
      subst ex
      obtain ⟨hF, hBd, hM⟩ := hXs
      have g1 : v2 1 = v 1 := hag 1 (by decide)
      have g2 : v2 2 = v 2 := hag 2 (by decide)
      have b0 : ((2147483648 : Nat) : Int) ≤ (v2 1) + 2147483648 ∧ (v2 1) + 2147483648 ≤ ((2147484548 : Nat) : Int) := xXb hBd 0 rfl
      have b1 : ((2147483648 : Nat) : Int) ≤ (v2 2) + 2147483648 ∧ (v2 2) + 2147483648 ≤ ((2147484203 : Nat) : Int) := xXb hBd 1 rfl
      have b2 : ((2147483649 : Nat) : Int) ≤ (v2 2 + 1) + 2147483648 ∧ (v2 2 + 1) + 2147483648 ≤ ((2147484204 : Nat) : Int) := xXb hBd 2 rfl
      have e74_2 : xE (zyEl zymx B H2) 74 2 = xE (zyEl zymx B H) 74 2 := xFr_E hfr rfl
      have e74_33 : xE (zyEl zymx B H2) 74 33 = xE (zyEl zymx B H) 74 33 := xFr_E hfr rfl
      have e74_34 : xE (zyEl zymx B H2) 74 34 = xE (zyEl zymx B H) 74 34 := xFr_E hfr rfl
      have e74_35 : xE (zyEl zymx B H2) 74 35 = xE (zyEl zymx B H) 74 35 := xFr_E hfr rfl
      have e74_36 : xE (zyEl zymx B H2) 74 36 = xE (zyEl zymx B H) 74 36 := xFr_E hfr rfl
      have e74_37 : xE (zyEl zymx B H2) 74 37 = xE (zyEl zymx B H) 74 37 := xFr_E hfr rfl
      have e74_39 : xE (zyEl zymx B H2) 74 39 = xE (zyEl zymx B H) 74 39 := xFr_E hfr rfl
      have e74_42 : xE (zyEl zymx B H2) 74 42 = xE (zyEl zymx B H) 74 42 := xFr_E hfr rfl
      have e84 : ∀ i, xE (zyEl zymx B H2) 84 i = xE (zyEl zymx B H) 84 i := fun i => xFr_E hfr rfl
      have q84 : ∀ i, xE (zyEl zymx B H) 84 i = xE (zyEl zymx B s.heap) 84 i := fun i => xFr_E hFr0 rfl
      have e75 : ∀ i, xE (zyEl zymx B H2) 75 i = xE (zyEl zymx B H) 75 i := fun i => xFr_E hfr rfl
      have e76 : ∀ i, xE (zyEl zymx B H2) 76 i = xE (zyEl zymx B H) 76 i := fun i => xFr_E hfr rfl
      have y74_33 : ((2147483648 : Nat) : Int) ≤ xE (zyEl zymx B s.heap) 74 33 + 2147483648 ∧ xE (zyEl zymx B s.heap) 74 33 + 2147483648 ≤ ((2147484548 : Nat) : Int) := xTyF hT0 74 33 33 rfl rfl rfl rfl rfl rfl
      have hI : (0 ≤ x0 0 ∧ x0 0 ≤ xE (zyEl zymx B s.heap) 74 33) ∧ (v 1) = x0 0 ∧ (∀ k, 0 ≤ k → xE (zyEl zymx B H) 75 k = xE (zyEl zymx B s.heap) 75 k) ∧ (∀ k, 0 ≤ k → k < (v 2) + 1 → xE (zyEl zymx B H) 76 k = xE (zyEl zymx B s.heap) 75 k) ∧ 0 ≤ (v 2) := hInv
      obtain ⟨i1, i2, hc, hw, i3⟩ := hI
      refine xGo hIH hAt hB hv hFr ⟨2, by decide⟩ [0, 34359738369, 68719476745] [0, (v2 1), (v2 2 + 1)] rfl ⟨by decide +kernel, ⟨rfl, by decide +kernel⟩, (xcs_c rfl (xcs_c rfl (xcs_c rfl xcs_n))), (xe_0 (xe_c (by omega) (by omega) rfl (xe_c (by omega) (by omega) rfl xe_n))), xkq_n⟩ xst_n ?_ ?_
      · show (0 ≤ x0 0 ∧ x0 0 ≤ xE (zyEl zymx B s.heap) 74 33) ∧ ((v2 1) : Int) = x0 0 ∧ (∀ k, 0 ≤ k → xE (zyEl zymx B H2) 75 k = xE (zyEl zymx B s.heap) 75 k) ∧ (∀ k, 0 ≤ k → k < ((v2 2 + 1) : Int) → xE (zyEl zymx B H2) 76 k = xE (zyEl zymx B s.heap) 75 k) ∧ 0 ≤ ((v2 2 + 1) : Int)
        exact ⟨i1, by omega, fun k k0 => (e75 k).trans (hc k k0), fun k k0 k1 => (e76 k).trans (hw k k0 (by omega)), by omega⟩
      · show 5000 + 2 * (600 - ((v2 2 + 1) : Int)).toNat + 1 < 5000 + 2 * (600 - (v 2)).toNat
        omega
    · have hx : x ∈ [zxflr_jx0] := hx
      have hag : ∀ k, k < 3 → v2 k = v k := hag
      have hfr : xFr [] _ _ := hfr
      have ex := List.mem_singleton.mp hx
      subst ex
      obtain ⟨hF, hBd, hM⟩ := hXs
      have e74_2 : xE (zyEl zymx B H2) 74 2 = xE (zyEl zymx B H) 74 2 := xFr_E hfr rfl
      have e74_33 : xE (zyEl zymx B H2) 74 33 = xE (zyEl zymx B H) 74 33 := xFr_E hfr rfl
      have e74_34 : xE (zyEl zymx B H2) 74 34 = xE (zyEl zymx B H) 74 34 := xFr_E hfr rfl
      have e74_35 : xE (zyEl zymx B H2) 74 35 = xE (zyEl zymx B H) 74 35 := xFr_E hfr rfl
      have e74_36 : xE (zyEl zymx B H2) 74 36 = xE (zyEl zymx B H) 74 36 := xFr_E hfr rfl
      have e74_37 : xE (zyEl zymx B H2) 74 37 = xE (zyEl zymx B H) 74 37 := xFr_E hfr rfl
      have e74_39 : xE (zyEl zymx B H2) 74 39 = xE (zyEl zymx B H) 74 39 := xFr_E hfr rfl
      have e74_42 : xE (zyEl zymx B H2) 74 42 = xE (zyEl zymx B H) 74 42 := xFr_E hfr rfl
      have e84 : ∀ i, xE (zyEl zymx B H2) 84 i = xE (zyEl zymx B H) 84 i := fun i => xFr_E hfr rfl
      have q84 : ∀ i, xE (zyEl zymx B H) 84 i = xE (zyEl zymx B s.heap) 84 i := fun i => xFr_E hFr0 rfl
      have e75 : ∀ i, xE (zyEl zymx B H2) 75 i = xE (zyEl zymx B H) 75 i := fun i => xFr_E hfr rfl
      have e76 : ∀ i, xE (zyEl zymx B H2) 76 i = xE (zyEl zymx B H) 76 i := fun i => xFr_E hfr rfl
      have y74_33 : ((2147483648 : Nat) : Int) ≤ xE (zyEl zymx B s.heap) 74 33 + 2147483648 ∧ xE (zyEl zymx B s.heap) 74 33 + 2147483648 ≤ ((2147484548 : Nat) : Int) := xTyF hT0 74 33 33 rfl rfl rfl rfl rfl rfl
      have hI : (0 ≤ x0 0 ∧ x0 0 ≤ xE (zyEl zymx B s.heap) 74 33) ∧ (∀ k, 0 ≤ k → k < 556 → xE (zyEl zymx B H) 76 k = xE (zyEl zymx B s.heap) 75 k) ∧ xE (zyEl zymx B H) 74 36 = 0 ∧ xE (zyEl zymx B H) 74 42 = x0 0 ∧ xRD (xE (zyEl zymx B s.heap) 84) (x0 0) 0 (zyEl zymx B H) := hInv
      obtain ⟨i1, hw, i2, i3, hs⟩ := hI
      have hEE : (zyEl zymx B H2) = (zyEl zymx B H) := xFr_n hfr
      have hPW := (show xΦlr x0 (zyEl zymx B s.heap) from hΦ)
      have hT : xE (zyEl zymx B H) 84 = xE (zyEl zymx B s.heap) 84 := funext q84
      refine xCa hRu hIH hAt hB hv hFr (hfra B) (ix := 490) (ax := 5248) rfl rfl rfl hmefra ⟨_, rfl, rfl, by decide⟩ ⟨rfl, rfl, rfl⟩ (by decide) [] [] [] rfl ⟨rfl, rfl⟩ (by decide +kernel) xcs_n (by decide +kernel) ?_ (fun H3 r hT3 hf3 hFr3 hr3 hΨ3 => ?_)
      · show xΦal (xfv []) (zyEl zymx B H2)
        rw [hEE]
        unfold xΦal
        rw [hT, i3]
        exact ⟨xWs_k hPW hFr0 (fun _ => rfl), i2, by omega, hs⟩
      · have hΨ3 : xΨal (xfv []) (zyEl zymx B H2) (zyEl zymx B H3) r := hΨ3
        have d74_2 : xE (zyEl zymx B H3) 74 2 = xE (zyEl zymx B H2) 74 2 := xFr_E hf3 rfl
        have d74_33 : xE (zyEl zymx B H3) 74 33 = xE (zyEl zymx B H2) 74 33 := xFr_E hf3 rfl
        have d74_34 : xE (zyEl zymx B H3) 74 34 = xE (zyEl zymx B H2) 74 34 := xFr_E hf3 rfl
        have d74_35 : xE (zyEl zymx B H3) 74 35 = xE (zyEl zymx B H2) 74 35 := xFr_E hf3 rfl
        have d74_42 : xE (zyEl zymx B H3) 74 42 = xE (zyEl zymx B H2) 74 42 := xFr_E hf3 rfl
        have d84 : ∀ i, xE (zyEl zymx B H3) 84 i = xE (zyEl zymx B H2) 84 i := fun i => xFr_E hf3 rfl
        have d76 : ∀ i, xE (zyEl zymx B H3) 76 i = xE (zyEl zymx B H2) 76 i := fun i => xFr_E hf3 rfl
        have z74_36 : ((2147483648 : Nat) : Int) ≤ xE (zyEl zymx B H3) 74 36 + 2147483648 ∧ xE (zyEl zymx B H3) 74 36 + 2147483648 ≤ ((2147483657 : Nat) : Int) := xTyF hT3 74 36 36 rfl rfl rfl rfl rfl rfl
        have z74_37 : ((0 : Nat) : Int) ≤ xE (zyEl zymx B H3) 74 37 + 2147483648 ∧ xE (zyEl zymx B H3) 74 37 + 2147483648 ≤ ((4294967295 : Nat) : Int) := xTyF hT3 74 37 37 rfl rfl rfl rfl rfl rfl
        have z75_0 : ((0 : Nat) : Int) ≤ xE (zyEl zymx B H3) 75 0 + 2147483648 ∧ xE (zyEl zymx B H3) 75 0 + 2147483648 ≤ ((4294967295 : Nat) : Int) := xTyF hT3 75 0 0 rfl rfl rfl rfl rfl rfl
        have z75_1 : ((0 : Nat) : Int) ≤ xE (zyEl zymx B H3) 75 1 + 2147483648 ∧ xE (zyEl zymx B H3) 75 1 + 2147483648 ≤ ((4294967295 : Nat) : Int) := xTyF hT3 75 1 0 rfl rfl rfl rfl rfl rfl
        have hR : xRs (xE (zyEl zymx B H2) 84) (xE (zyEl zymx B H2) 74 42) (zyEl zymx B H3) (pAll (xE (zyEl zymx B H2) 84) (xE (zyEl zymx B H2) 74 42)) := hΨ3
        rw [hEE, hT, i3] at hR
        refine ⟨⟨5, by decide⟩, [0, 0, 0], [0, 0, 0, xE (zyEl zymx B H3) 74 36, xE (zyEl zymx B H3) 74 37, xE (zyEl zymx B H3) 75 0, xE (zyEl zymx B H3) 75 1], rfl, ⟨by decide +kernel, ⟨rfl, by decide +kernel⟩, (xcs_c rfl (xcs_c rfl (xcs_c rfl xcs_n))), (xe_0 (xe_0 (xe_0 (xe_c (by omega) (by omega) rfl (xe_f (xE_r _ _ _) (xe_f (xE_r _ _ _) (xe_f (xE_r _ _ _) xe_n))))))), (xkq_c hT3 74 36 (q := 36) rfl rfl rfl rfl rfl rfl rfl rfl rfl rfl rfl (xkq_c hT3 74 37 (q := 37) rfl rfl rfl rfl rfl rfl rfl rfl rfl rfl rfl (xkq_c hT3 75 0 (q := 0) rfl rfl rfl rfl rfl rfl rfl rfl rfl rfl rfl (xkq_c hT3 75 1 (q := 0) rfl rfl rfl rfl rfl rfl rfl rfl rfl rfl rfl xkq_n))))⟩, (by rw [if_neg (by decide)]; exact xst_n), ?_, ?_⟩
        · show (0 ≤ x0 0 ∧ x0 0 ≤ xE (zyEl zymx B s.heap) 74 33) ∧ (∀ k, 0 ≤ k → k < 556 → xE (zyEl zymx B H3) 76 k = xE (zyEl zymx B s.heap) 75 k) ∧ xRs (xE (zyEl zymx B s.heap) 84) (x0 0) (zyEl zymx B H3) (pAll (xE (zyEl zymx B s.heap) 84) (x0 0))
          exact ⟨i1, fun k k0 k1 => ((d76 k).trans (e76 k)).trans (hw k k0 k1), hR⟩
        · show 3000 < 4000
          omega
    · have hx : x ∈ [zxflr_mx0] := hx
      have hag : ∀ k, k < 7 → v2 k = v k := hag
      have hfr : xFr [(74, 2, 2), (74, 33, 35)] _ _ := hfr
      have ex := List.mem_singleton.mp hx
      subst ex
      obtain ⟨hF, hBd, hM⟩ := hXs
      have r4 := hr2 4
      have g3 : v2 3 = v 3 := hag 3 (by decide)
      have g4 : v2 4 = v 4 := hag 4 (by decide)
      have g5 : v2 5 = v 5 := hag 5 (by decide)
      have g6 : v2 6 = v 6 := hag 6 (by decide)
      have b0 : ((2147483649 : Nat) : Int) ≤ (v2 3) + 2147483648 ∧ (v2 3) + 2147483648 ≤ ((2147483657 : Nat) : Int) := xXb hBd 0 rfl
      have k0 : xE (zyEl zymx B H) 74 36 = v 3 := xKcf hKc 0 rfl rfl
      have k1 : xE (zyEl zymx B H) 74 37 = v 4 := xKcf hKc 1 rfl rfl
      have k2 : xE (zyEl zymx B H) 75 0 = v 5 := xKcf hKc 2 rfl rfl
      have k3 : xE (zyEl zymx B H) 75 1 = v 6 := xKcf hKc 3 rfl rfl
      have f0 : 0 < (v2 3) := xXf hF 0 rfl
      have f1 : 0 < (v2 3) := xXf hF 1 rfl
      have f2 : ¬ (v2 3) = 0 := xXf hF 2 rfl
      have m0 : xE (zyEl zymx B H2) 74 2 = 9 := xXm hM 0 rfl
      have m1 : xE (zyEl zymx B H2) 74 33 = 0 := xXm hM 1 rfl
      have m2 : xE (zyEl zymx B H2) 74 34 = (v2 3) := xXm hM 2 rfl
      have m3 : xE (zyEl zymx B H2) 74 35 = (v2 4) := xXm hM 3 rfl
      have e74_36 : xE (zyEl zymx B H2) 74 36 = xE (zyEl zymx B H) 74 36 := xFr_E hfr rfl
      have e74_37 : xE (zyEl zymx B H2) 74 37 = xE (zyEl zymx B H) 74 37 := xFr_E hfr rfl
      have e74_39 : xE (zyEl zymx B H2) 74 39 = xE (zyEl zymx B H) 74 39 := xFr_E hfr rfl
      have e74_42 : xE (zyEl zymx B H2) 74 42 = xE (zyEl zymx B H) 74 42 := xFr_E hfr rfl
      have e84 : ∀ i, xE (zyEl zymx B H2) 84 i = xE (zyEl zymx B H) 84 i := fun i => xFr_E hfr rfl
      have q84 : ∀ i, xE (zyEl zymx B H) 84 i = xE (zyEl zymx B s.heap) 84 i := fun i => xFr_E hFr0 rfl
      have e75 : ∀ i, xE (zyEl zymx B H2) 75 i = xE (zyEl zymx B H) 75 i := fun i => xFr_E hfr rfl
      have e76 : ∀ i, xE (zyEl zymx B H2) 76 i = xE (zyEl zymx B H) 76 i := fun i => xFr_E hfr rfl
      have y74_33 : ((2147483648 : Nat) : Int) ≤ xE (zyEl zymx B s.heap) 74 33 + 2147483648 ∧ xE (zyEl zymx B s.heap) 74 33 + 2147483648 ≤ ((2147484548 : Nat) : Int) := xTyF hT0 74 33 33 rfl rfl rfl rfl rfl rfl
      have hI : (0 ≤ x0 0 ∧ x0 0 ≤ xE (zyEl zymx B s.heap) 74 33) ∧ (∀ k, 0 ≤ k → k < 556 → xE (zyEl zymx B H) 76 k = xE (zyEl zymx B s.heap) 75 k) ∧ xRs (xE (zyEl zymx B s.heap) 84) (x0 0) (zyEl zymx B H) (pAll (xE (zyEl zymx B s.heap) 84) (x0 0)) := hInv
      obtain ⟨i1, hw, hR⟩ := hI
      have hPW := (show xΦlr x0 (zyEl zymx B s.heap) from hΦ)
      have hX := xRs_r hR (by omega)
      refine xGo hIH hAt hB hv hFr ⟨6, by decide⟩ [0, 0, 0] [0, 0, 0] rfl ⟨by decide +kernel, ⟨rfl, by decide +kernel⟩, (xcs_c rfl (xcs_c rfl (xcs_c rfl xcs_n))), (xe_0 (xe_0 (xe_c (by omega) (by omega) rfl xe_n))), xkq_n⟩ xst_n ?_ ?_
      · show (0 ≤ x0 0 ∧ x0 0 ≤ xE (zyEl zymx B s.heap) 74 33) ∧ (∀ k, 0 ≤ k → k < 556 → xE (zyEl zymx B H2) 76 k = xE (zyEl zymx B s.heap) 75 k) ∧ (∃ w a, pAll (xE (zyEl zymx B s.heap) 84) (x0 0) = .error (w, a) ∧ 1 ≤ w ∧ xE (zyEl zymx B H2) 74 34 = w ∧ xE (zyEl zymx B H2) 74 35 = a) ∧ (xE (zyEl zymx B H2) 74 33 = 0 ∧ xE (zyEl zymx B H2) 74 2 = 9) ∧ (∀ k, 0 ≤ k → k < (0 : Int) → xE (zyEl zymx B H2) 75 k = xE (zyEl zymx B s.heap) 75 k) ∧ 0 ≤ (0 : Int)
        exact ⟨i1, fun k k0 k1 => (e76 k).trans (hw k k0 k1), ⟨_, _, hX.2, hX.1, by omega, by omega⟩, by omega, fun k k0 k1 => by omega, by omega⟩
      · show 2 * (600 - (0 : Int)).toNat + 1 < 3000
        omega
    · have hx : x ∈ [zxflr_px0] := hx
      have hag : ∀ k, k < 3 → v2 k = v k := hag
      have hfr : xFr [] _ _ := hfr
      have ex := List.mem_singleton.mp hx
      subst ex
      obtain ⟨hF, hBd, hM⟩ := hXs
      have r3 := hr2 3
      have g2 : v2 2 = v 2 := hag 2 (by decide)
      have b0 : ((2147483648 : Nat) : Int) ≤ (v2 2) + 2147483648 ∧ (v2 2) + 2147483648 ≤ ((2147484203 : Nat) : Int) := xXb hBd 0 rfl
      have f0 : (v2 2) < 556 := xXf hF 0 rfl
      have f1 : (0 : Int) ≤ (v2 2) ∧ xE (zyEl zymx B H) 76 (v2 2) = (v2 3) := xXf hF 1 rfl
      have e74_2 : xE (zyEl zymx B H2) 74 2 = xE (zyEl zymx B H) 74 2 := xFr_E hfr rfl
      have e74_33 : xE (zyEl zymx B H2) 74 33 = xE (zyEl zymx B H) 74 33 := xFr_E hfr rfl
      have e74_34 : xE (zyEl zymx B H2) 74 34 = xE (zyEl zymx B H) 74 34 := xFr_E hfr rfl
      have e74_35 : xE (zyEl zymx B H2) 74 35 = xE (zyEl zymx B H) 74 35 := xFr_E hfr rfl
      have e74_36 : xE (zyEl zymx B H2) 74 36 = xE (zyEl zymx B H) 74 36 := xFr_E hfr rfl
      have e74_37 : xE (zyEl zymx B H2) 74 37 = xE (zyEl zymx B H) 74 37 := xFr_E hfr rfl
      have e74_39 : xE (zyEl zymx B H2) 74 39 = xE (zyEl zymx B H) 74 39 := xFr_E hfr rfl
      have e74_42 : xE (zyEl zymx B H2) 74 42 = xE (zyEl zymx B H) 74 42 := xFr_E hfr rfl
      have e84 : ∀ i, xE (zyEl zymx B H2) 84 i = xE (zyEl zymx B H) 84 i := fun i => xFr_E hfr rfl
      have q84 : ∀ i, xE (zyEl zymx B H) 84 i = xE (zyEl zymx B s.heap) 84 i := fun i => xFr_E hFr0 rfl
      have e75 : ∀ i, xE (zyEl zymx B H2) 75 i = xE (zyEl zymx B H) 75 i := fun i => xFr_E hfr rfl
      have e76 : ∀ i, xE (zyEl zymx B H2) 76 i = xE (zyEl zymx B H) 76 i := fun i => xFr_E hfr rfl
      have y74_33 : ((2147483648 : Nat) : Int) ≤ xE (zyEl zymx B s.heap) 74 33 + 2147483648 ∧ xE (zyEl zymx B s.heap) 74 33 + 2147483648 ≤ ((2147484548 : Nat) : Int) := xTyF hT0 74 33 33 rfl rfl rfl rfl rfl rfl
      have hI : (0 ≤ x0 0 ∧ x0 0 ≤ xE (zyEl zymx B s.heap) 74 33) ∧ (∀ k, 0 ≤ k → k < 556 → xE (zyEl zymx B H) 76 k = xE (zyEl zymx B s.heap) 75 k) ∧ (∃ w a, pAll (xE (zyEl zymx B s.heap) 84) (x0 0) = .error (w, a) ∧ 1 ≤ w ∧ xE (zyEl zymx B H) 74 34 = w ∧ xE (zyEl zymx B H) 74 35 = a) ∧ (xE (zyEl zymx B H) 74 33 = 0 ∧ xE (zyEl zymx B H) 74 2 = 9) ∧ (∀ k, 0 ≤ k → k < (v 2) → xE (zyEl zymx B H) 75 k = xE (zyEl zymx B s.heap) 75 k) ∧ 0 ≤ (v 2) := hInv
      obtain ⟨i1, hw, hX, i2, hc, i3⟩ := hI
      have hPW := (show xΦlr x0 (zyEl zymx B s.heap) from hΦ)
      have hEE : (zyEl zymx B H2) = (zyEl zymx B H) := xFr_n hfr
      have ev : xE (zyEl zymx B s.heap) 75 (v 2) = (v2 3) := by
        rw [← hw _ i3 (by omega), show v 2 = (v2 2) by omega]
        exact f1.2
      refine xSt hRu hIH hAt hB hv hFr 75 (ax := 0) 103079215105 68719476737 (v2 3) (v2 2) rfl (Or.inl ⟨rfl, rfl⟩) rfl (by decide +kernel) rfl rfl (by omega) (by show (v2 2) < ((556 : Nat) : Int); omega) (fun r hr q1 q2 => by rw [List.mem_singleton.mp hr]; exact ⟨rfl, by show ((0 : Nat) : Int) ≤ (v2 3) + 2147483648; omega, by show (v2 3) + 2147483648 ≤ ((4294967295 : Nat) : Int); omega⟩) (zyin_iff.mpr ⟨(75, 0, 555), by decide, rfl, (by show 0 ≤ Int.toNat (v2 2); omega), by show Int.toNat (v2 2) ≤ 555; omega⟩) (fun H3 hT3 hst3 hne3 hfn3 hFr3 => ?_)
      have hfe3 : ∀ (a2 : Nat) (k2 : Int), ¬ a2 = 75 → xE (zyEl zymx B H3) a2 k2 = xE (zyEl zymx B H2) a2 k2 := fun a2 k2 hne => by unfold xE; rw [hfn3 a2 k2.toNat (fun z => hne z.1)]
      have d74_2 : xE (zyEl zymx B H3) 74 2 = xE (zyEl zymx B H2) 74 2 := hfe3 74 2 (fun z => absurd z (by decide))
      have d74_33 : xE (zyEl zymx B H3) 74 33 = xE (zyEl zymx B H2) 74 33 := hfe3 74 33 (fun z => absurd z (by decide))
      have d74_34 : xE (zyEl zymx B H3) 74 34 = xE (zyEl zymx B H2) 74 34 := hfe3 74 34 (fun z => absurd z (by decide))
      have d74_35 : xE (zyEl zymx B H3) 74 35 = xE (zyEl zymx B H2) 74 35 := hfe3 74 35 (fun z => absurd z (by decide))
      have d74_36 : xE (zyEl zymx B H3) 74 36 = xE (zyEl zymx B H2) 74 36 := hfe3 74 36 (fun z => absurd z (by decide))
      have d74_37 : xE (zyEl zymx B H3) 74 37 = xE (zyEl zymx B H2) 74 37 := hfe3 74 37 (fun z => absurd z (by decide))
      have d74_39 : xE (zyEl zymx B H3) 74 39 = xE (zyEl zymx B H2) 74 39 := hfe3 74 39 (fun z => absurd z (by decide))
      have d74_42 : xE (zyEl zymx B H3) 74 42 = xE (zyEl zymx B H2) 74 42 := hfe3 74 42 (fun z => absurd z (by decide))
      refine ⟨⟨7, by decide⟩, [0, 0, 68719476737], [0, 0, (v2 2)], rfl, ⟨by decide +kernel, ⟨rfl, by decide +kernel⟩, (xcs_c rfl (xcs_c rfl (xcs_c rfl xcs_n))), (xe_0 (xe_0 (xe_c (by omega) (by omega) rfl xe_n))), xkq_n⟩, rfl, ?_, ?_⟩
      · show (0 ≤ x0 0 ∧ x0 0 ≤ xE (zyEl zymx B s.heap) 74 33) ∧ (∀ k, 0 ≤ k → k < 556 → xE (zyEl zymx B H3) 76 k = xE (zyEl zymx B s.heap) 75 k) ∧ (∃ w a, pAll (xE (zyEl zymx B s.heap) 84) (x0 0) = .error (w, a) ∧ 1 ≤ w ∧ xE (zyEl zymx B H3) 74 34 = w ∧ xE (zyEl zymx B H3) 74 35 = a) ∧ (xE (zyEl zymx B H3) 74 33 = 0 ∧ xE (zyEl zymx B H3) 74 2 = 9) ∧ (∀ k, 0 ≤ k → k < ((v2 2) : Int) + 1 → xE (zyEl zymx B H3) 75 k = xE (zyEl zymx B s.heap) 75 k) ∧ 0 ≤ ((v2 2) : Int)
        refine ⟨i1, fun k k0 k1 => ((hfe3 76 k (by decide)).trans (e76 k)).trans (hw k k0 k1), ?_, by omega, fun k k0 k1 => ?_, by omega⟩
        · obtain ⟨w, a, hA, h1, h2, h3⟩ := hX
          exact ⟨w, a, hA, h1, by omega, by omega⟩
        · by_cases e : k = v 2
          · rw [e, ev, show v 2 = (v2 2) by omega]
            exact hst3
          · rw [hne3 75 k k0 (fun z => e (by omega)), e75]
            exact hc k k0 (by omega)
      · show 2 * (600 - ((v2 2) : Int)).toNat < 2 * (600 - (v 2)).toNat + 1
        omega
    · have hx : x ∈ [zxflr_qx0] := hx
      have hag : ∀ k, k < 3 → v2 k = v k := hag
      have hfr : xFr [] _ _ := hfr
      have ex := List.mem_singleton.mp hx
      subst ex
      obtain ⟨hF, hBd, hM⟩ := hXs
      have g2 : v2 2 = v 2 := hag 2 (by decide)
      have b0 : ((2147483648 : Nat) : Int) ≤ (v2 2) + 2147483648 ∧ (v2 2) + 2147483648 ≤ ((2147484203 : Nat) : Int) := xXb hBd 0 rfl
      have b1 : ((2147483649 : Nat) : Int) ≤ (v2 2 + 1) + 2147483648 ∧ (v2 2 + 1) + 2147483648 ≤ ((2147484204 : Nat) : Int) := xXb hBd 1 rfl
      have e74_2 : xE (zyEl zymx B H2) 74 2 = xE (zyEl zymx B H) 74 2 := xFr_E hfr rfl
      have e74_33 : xE (zyEl zymx B H2) 74 33 = xE (zyEl zymx B H) 74 33 := xFr_E hfr rfl
      have e74_34 : xE (zyEl zymx B H2) 74 34 = xE (zyEl zymx B H) 74 34 := xFr_E hfr rfl
      have e74_35 : xE (zyEl zymx B H2) 74 35 = xE (zyEl zymx B H) 74 35 := xFr_E hfr rfl
      have e74_36 : xE (zyEl zymx B H2) 74 36 = xE (zyEl zymx B H) 74 36 := xFr_E hfr rfl
      have e74_37 : xE (zyEl zymx B H2) 74 37 = xE (zyEl zymx B H) 74 37 := xFr_E hfr rfl
      have e74_39 : xE (zyEl zymx B H2) 74 39 = xE (zyEl zymx B H) 74 39 := xFr_E hfr rfl
      have e74_42 : xE (zyEl zymx B H2) 74 42 = xE (zyEl zymx B H) 74 42 := xFr_E hfr rfl
      have e84 : ∀ i, xE (zyEl zymx B H2) 84 i = xE (zyEl zymx B H) 84 i := fun i => xFr_E hfr rfl
      have q84 : ∀ i, xE (zyEl zymx B H) 84 i = xE (zyEl zymx B s.heap) 84 i := fun i => xFr_E hFr0 rfl
      have e75 : ∀ i, xE (zyEl zymx B H2) 75 i = xE (zyEl zymx B H) 75 i := fun i => xFr_E hfr rfl
      have e76 : ∀ i, xE (zyEl zymx B H2) 76 i = xE (zyEl zymx B H) 76 i := fun i => xFr_E hfr rfl
      have y74_33 : ((2147483648 : Nat) : Int) ≤ xE (zyEl zymx B s.heap) 74 33 + 2147483648 ∧ xE (zyEl zymx B s.heap) 74 33 + 2147483648 ≤ ((2147484548 : Nat) : Int) := xTyF hT0 74 33 33 rfl rfl rfl rfl rfl rfl
      have hI : (0 ≤ x0 0 ∧ x0 0 ≤ xE (zyEl zymx B s.heap) 74 33) ∧ (∀ k, 0 ≤ k → k < 556 → xE (zyEl zymx B H) 76 k = xE (zyEl zymx B s.heap) 75 k) ∧ (∃ w a, pAll (xE (zyEl zymx B s.heap) 84) (x0 0) = .error (w, a) ∧ 1 ≤ w ∧ xE (zyEl zymx B H) 74 34 = w ∧ xE (zyEl zymx B H) 74 35 = a) ∧ (xE (zyEl zymx B H) 74 33 = 0 ∧ xE (zyEl zymx B H) 74 2 = 9) ∧ (∀ k, 0 ≤ k → k < (v 2) + 1 → xE (zyEl zymx B H) 75 k = xE (zyEl zymx B s.heap) 75 k) ∧ 0 ≤ (v 2) := hInv
      obtain ⟨i1, hw, hX, i2, hc, i3⟩ := hI
      have hEE : (zyEl zymx B H2) = (zyEl zymx B H) := xFr_n hfr
      refine xGo hIH hAt hB hv hFr ⟨6, by decide⟩ [0, 0, 68719476745] [0, 0, (v2 2 + 1)] rfl ⟨by decide +kernel, ⟨rfl, by decide +kernel⟩, (xcs_c rfl (xcs_c rfl (xcs_c rfl xcs_n))), (xe_0 (xe_0 (xe_c (by omega) (by omega) rfl xe_n))), xkq_n⟩ xst_n ?_ ?_
      · show (0 ≤ x0 0 ∧ x0 0 ≤ xE (zyEl zymx B s.heap) 74 33) ∧ (∀ k, 0 ≤ k → k < 556 → xE (zyEl zymx B H2) 76 k = xE (zyEl zymx B s.heap) 75 k) ∧ (∃ w a, pAll (xE (zyEl zymx B s.heap) 84) (x0 0) = .error (w, a) ∧ 1 ≤ w ∧ xE (zyEl zymx B H2) 74 34 = w ∧ xE (zyEl zymx B H2) 74 35 = a) ∧ (xE (zyEl zymx B H2) 74 33 = 0 ∧ xE (zyEl zymx B H2) 74 2 = 9) ∧ (∀ k, 0 ≤ k → k < ((v2 2 + 1) : Int) → xE (zyEl zymx B H2) 75 k = xE (zyEl zymx B s.heap) 75 k) ∧ 0 ≤ ((v2 2 + 1) : Int)
        rw [hEE]
        exact ⟨i1, hw, hX, i2, fun k k0 k1 => hc k k0 (by omega), by omega⟩
      · show 2 * (600 - ((v2 2 + 1) : Int)).toNat + 1 < 2 * (600 - (v 2)).toNat
        omega
  · intro x0 E0 E E2 hrx hT0 hΦ i v hT hrv hInv hKc hFr0 x hx v2 hr2 hXs hag hfr hFr hT2
    rcases i with ⟨i, hi⟩
    have hi2 : i = 0 ∨ i = 1 ∨ i = 2 ∨ i = 3 ∨ i = 4 ∨ i = 5 ∨ i = 6 ∨ i = 7 := by omega
    rcases hi2 with rfl | rfl | rfl | rfl | rfl | rfl | rfl | rfl
    · cases hx
    · have hx : x ∈ [zxflr_ar0, zxflr_ar1] := hx
      have hag : ∀ k, k < 4 → v2 k = v k := hag
      have hfr : xFr [(74, 2, 3)] _ _ := hfr
      rcases List.mem_cons.mp hx with ex | hx
      · subst ex
        obtain ⟨hF, hBd, hM⟩ := hXs
        have g1 : v2 1 = v 1 := hag 1 (by decide)
        have g3 : v2 3 = v 3 := hag 3 (by decide)
        have b0 : ((0 : Nat) : Int) ≤ (v2 1) + 2147483648 ∧ (v2 1) + 2147483648 ≤ ((2147483647 : Nat) : Int) := xXb hBd 0 rfl
        have k0 : xE E 74 33 = v 3 := xKcf hKc 0 rfl rfl
        have f0 : (v2 1) < 0 := xXf hF 0 rfl
        have m0 : xE E2 74 2 = 1 := xXm hM 0 rfl
        have e74_33 : xE E2 74 33 = xE E 74 33 := xFr_E hfr rfl
        have e74_34 : xE E2 74 34 = xE E 74 34 := xFr_E hfr rfl
        have e74_35 : xE E2 74 35 = xE E 74 35 := xFr_E hfr rfl
        have e74_36 : xE E2 74 36 = xE E 74 36 := xFr_E hfr rfl
        have e74_37 : xE E2 74 37 = xE E 74 37 := xFr_E hfr rfl
        have e74_39 : xE E2 74 39 = xE E 74 39 := xFr_E hfr rfl
        have e74_42 : xE E2 74 42 = xE E 74 42 := xFr_E hfr rfl
        have e84 : ∀ i, xE E2 84 i = xE E 84 i := fun i => xFr_E hfr rfl
        have q84 : ∀ i, xE E 84 i = xE E0 84 i := fun i => xFr_E hFr0 rfl
        have e75 : ∀ i, xE E2 75 i = xE E 75 i := fun i => xFr_E hfr rfl
        have e76 : ∀ i, xE E2 76 i = xE E 76 i := fun i => xFr_E hfr rfl
        have y74_33 : ((2147483648 : Nat) : Int) ≤ xE E0 74 33 + 2147483648 ∧ xE E0 74 33 + 2147483648 ≤ ((2147484548 : Nat) : Int) := xTyF hT0 74 33 33 rfl rfl rfl rfl rfl rfl
        have hI : E = E0 ∧ (v 1) = x0 0 := hInv
        have q74_2 : xE E 74 2 = xE E0 74 2 := by rw [hI.1]
        have q74_33 : xE E 74 33 = xE E0 74 33 := by rw [hI.1]
        have q74_34 : xE E 74 34 = xE E0 74 34 := by rw [hI.1]
        have q74_35 : xE E 74 35 = xE E0 74 35 := by rw [hI.1]
        have q74_36 : xE E 74 36 = xE E0 74 36 := by rw [hI.1]
        have q74_37 : xE E 74 37 = xE E0 74 37 := by rw [hI.1]
        have q74_39 : xE E 74 39 = xE E0 74 39 := by rw [hI.1]
        have q74_42 : xE E 74 42 = xE E0 74 42 := by rw [hI.1]
        have q75 : ∀ i, xE E 75 i = xE E0 75 i := fun i => by rw [hI.1]
        have q76 : ∀ i, xE E 76 i = xE E0 76 i := fun i => by rw [hI.1]
        show xΨlr x0 E0 E2 (-1)
        obtain ⟨hE, i1⟩ := hI
        unfold xΨlr
        rw [if_neg (by omega)]
        exact ⟨rfl, by omega, by omega, by omega, by omega, fun k k0 k1 => (e75 k).trans (q75 k)⟩
      · skip
        have ex := List.mem_singleton.mp hx
        subst ex
        obtain ⟨hF, hBd, hM⟩ := hXs
        have g1 : v2 1 = v 1 := hag 1 (by decide)
        have g3 : v2 3 = v 3 := hag 3 (by decide)
        have b0 : ((2147483649 : Nat) : Int) ≤ (v2 1) + 2147483648 ∧ (v2 1) + 2147483648 ≤ ((4294967295 : Nat) : Int) := xXb hBd 0 rfl
        have b1 : ((2147483648 : Nat) : Int) ≤ (v2 3) + 2147483648 ∧ (v2 3) + 2147483648 ≤ ((2147484548 : Nat) : Int) := xXb hBd 1 rfl
        have k0 : xE E 74 33 = v 3 := xKcf hKc 0 rfl rfl
        have f0 : 0 ≤ (v2 1) := xXf hF 0 rfl
        have f1 : (v2 3) < (v2 1) := xXf hF 1 rfl
        have m0 : xE E2 74 2 = 1 := xXm hM 0 rfl
        have e74_33 : xE E2 74 33 = xE E 74 33 := xFr_E hfr rfl
        have e74_34 : xE E2 74 34 = xE E 74 34 := xFr_E hfr rfl
        have e74_35 : xE E2 74 35 = xE E 74 35 := xFr_E hfr rfl
        have e74_36 : xE E2 74 36 = xE E 74 36 := xFr_E hfr rfl
        have e74_37 : xE E2 74 37 = xE E 74 37 := xFr_E hfr rfl
        have e74_39 : xE E2 74 39 = xE E 74 39 := xFr_E hfr rfl
        have e74_42 : xE E2 74 42 = xE E 74 42 := xFr_E hfr rfl
        have e84 : ∀ i, xE E2 84 i = xE E 84 i := fun i => xFr_E hfr rfl
        have q84 : ∀ i, xE E 84 i = xE E0 84 i := fun i => xFr_E hFr0 rfl
        have e75 : ∀ i, xE E2 75 i = xE E 75 i := fun i => xFr_E hfr rfl
        have e76 : ∀ i, xE E2 76 i = xE E 76 i := fun i => xFr_E hfr rfl
        have y74_33 : ((2147483648 : Nat) : Int) ≤ xE E0 74 33 + 2147483648 ∧ xE E0 74 33 + 2147483648 ≤ ((2147484548 : Nat) : Int) := xTyF hT0 74 33 33 rfl rfl rfl rfl rfl rfl
        have hI : E = E0 ∧ (v 1) = x0 0 := hInv
        have q74_2 : xE E 74 2 = xE E0 74 2 := by rw [hI.1]
        have q74_33 : xE E 74 33 = xE E0 74 33 := by rw [hI.1]
        have q74_34 : xE E 74 34 = xE E0 74 34 := by rw [hI.1]
        have q74_35 : xE E 74 35 = xE E0 74 35 := by rw [hI.1]
        have q74_36 : xE E 74 36 = xE E0 74 36 := by rw [hI.1]
        have q74_37 : xE E 74 37 = xE E0 74 37 := by rw [hI.1]
        have q74_39 : xE E 74 39 = xE E0 74 39 := by rw [hI.1]
        have q74_42 : xE E 74 42 = xE E0 74 42 := by rw [hI.1]
        have q75 : ∀ i, xE E 75 i = xE E0 75 i := fun i => by rw [hI.1]
        have q76 : ∀ i, xE E 76 i = xE E0 76 i := fun i => by rw [hI.1]
        show xΨlr x0 E0 E2 (-1)
        obtain ⟨hE, i1⟩ := hI
        unfold xΨlr
        rw [if_neg (by omega)]
        exact ⟨rfl, by omega, by omega, by omega, by omega, fun k k0 k1 => (e75 k).trans (q75 k)⟩
    · cases hx
    · cases hx
    · cases hx
    · have hx : x ∈ [zxflr_mr0] := hx
      have hag : ∀ k, k < 7 → v2 k = v k := hag
      have hfr : xFr [(74, 2, 2), (74, 33, 35)] _ _ := hfr
      have ex := List.mem_singleton.mp hx
      subst ex
      obtain ⟨hF, hBd, hM⟩ := hXs
      have r5 := hr2 5
      have r6 := hr2 6
      have r7 := hr2 7
      have r8 := hr2 8
      have g3 : v2 3 = v 3 := hag 3 (by decide)
      have g4 : v2 4 = v 4 := hag 4 (by decide)
      have g5 : v2 5 = v 5 := hag 5 (by decide)
      have g6 : v2 6 = v 6 := hag 6 (by decide)
      have b0 : ((2147483648 : Nat) : Int) ≤ (v2 3) + 2147483648 ∧ (v2 3) + 2147483648 ≤ ((2147483648 : Nat) : Int) := xXb hBd 0 rfl
      have k0 : xE E 74 36 = v 3 := xKcf hKc 0 rfl rfl
      have k1 : xE E 74 37 = v 4 := xKcf hKc 1 rfl rfl
      have k2 : xE E 75 0 = v 5 := xKcf hKc 2 rfl rfl
      have k3 : xE E 75 1 = v 6 := xKcf hKc 3 rfl rfl
      have f0 : (v2 3) ≤ 0 := xXf hF 0 rfl
      have f1 : (v2 3) ≤ 0 := xXf hF 1 rfl
      have f2 : (v2 3) = 0 := xXf hF 2 rfl
      have f3 : -2147483648 ≤ 4 * (v2 5) → 4 * (v2 5) < 2147483648 → (v2 7) = 4 * (v2 5) := xXf hF 3 rfl
      have f4 : -2147483648 ≤ (v2 7) * (v2 6) → (v2 7) * (v2 6) < 2147483648 → (v2 8) = (v2 7) * (v2 6) := xXf hF 4 rfl
      have m0 : xE E2 74 2 = 0 := xXm hM 0 rfl
      have m1 : xE E2 74 33 = 0 := xXm hM 1 rfl
      have m2 : xE E2 74 34 = (v2 3) := xXm hM 2 rfl
      have m3 : xE E2 74 35 = (-1) := xXm hM 3 rfl
      have e74_36 : xE E2 74 36 = xE E 74 36 := xFr_E hfr rfl
      have e74_37 : xE E2 74 37 = xE E 74 37 := xFr_E hfr rfl
      have e74_39 : xE E2 74 39 = xE E 74 39 := xFr_E hfr rfl
      have e74_42 : xE E2 74 42 = xE E 74 42 := xFr_E hfr rfl
      have e84 : ∀ i, xE E2 84 i = xE E 84 i := fun i => xFr_E hfr rfl
      have q84 : ∀ i, xE E 84 i = xE E0 84 i := fun i => xFr_E hFr0 rfl
      have e75 : ∀ i, xE E2 75 i = xE E 75 i := fun i => xFr_E hfr rfl
      have e76 : ∀ i, xE E2 76 i = xE E 76 i := fun i => xFr_E hfr rfl
      have y74_33 : ((2147483648 : Nat) : Int) ≤ xE E0 74 33 + 2147483648 ∧ xE E0 74 33 + 2147483648 ≤ ((2147484548 : Nat) : Int) := xTyF hT0 74 33 33 rfl rfl rfl rfl rfl rfl
      have hI : (0 ≤ x0 0 ∧ x0 0 ≤ xE E0 74 33) ∧ (∀ k, 0 ≤ k → k < 556 → xE E 76 k = xE E0 75 k) ∧ xRs (xE E0 84) (x0 0) E (pAll (xE E0 84) (x0 0)) := hInv
      show xΨlr x0 E0 E2 (v2 8)
      obtain ⟨i1, hw, hR⟩ := hI
      have hPW := (show xΦlr x0 E0 from hΦ)
      obtain ⟨q, S, hA, hq, hs, hu⟩ := xRs_o hR (by omega)
      have hI := pAll_I hA
      have h0 := hu 0 (by decide) (by decide)
      have h1 := hu 1 (by decide) (by decide)
      obtain ⟨y1, y2, y3, y4⟩ := hI
      have fA : (v2 7) = 4 * (v2 5) := by omega
      obtain ⟨w1, w2, w3⟩ := sN_of (r := S 0) (c := (v2 6)) (A := (v2 7)) y1 (by omega) (by omega) f4
      rw [show (v2 6) = S 1 by omega] at w1
      unfold xΨlr
      rw [if_pos i1, hA]
      exact ⟨by omega, w1, by omega, by omega, by omega, pAll_I hA, fun k k0 k1 => (e75 k).trans (hu k k0 k1)⟩
    · have hx : x ∈ [zxflr_pr0] := hx
      have hag : ∀ k, k < 3 → v2 k = v k := hag
      have hfr : xFr [] _ _ := hfr
      have ex := List.mem_singleton.mp hx
      subst ex
      obtain ⟨hF, hBd, hM⟩ := hXs
      have g2 : v2 2 = v 2 := hag 2 (by decide)
      have b0 : ((2147484204 : Nat) : Int) ≤ (v2 2) + 2147483648 ∧ (v2 2) + 2147483648 ≤ ((2147484204 : Nat) : Int) := xXb hBd 0 rfl
      have f0 : 556 ≤ (v2 2) := xXf hF 0 rfl
      have e74_2 : xE E2 74 2 = xE E 74 2 := xFr_E hfr rfl
      have e74_33 : xE E2 74 33 = xE E 74 33 := xFr_E hfr rfl
      have e74_34 : xE E2 74 34 = xE E 74 34 := xFr_E hfr rfl
      have e74_35 : xE E2 74 35 = xE E 74 35 := xFr_E hfr rfl
      have e74_36 : xE E2 74 36 = xE E 74 36 := xFr_E hfr rfl
      have e74_37 : xE E2 74 37 = xE E 74 37 := xFr_E hfr rfl
      have e74_39 : xE E2 74 39 = xE E 74 39 := xFr_E hfr rfl
      have e74_42 : xE E2 74 42 = xE E 74 42 := xFr_E hfr rfl
      have e84 : ∀ i, xE E2 84 i = xE E 84 i := fun i => xFr_E hfr rfl
      have q84 : ∀ i, xE E 84 i = xE E0 84 i := fun i => xFr_E hFr0 rfl
      have e75 : ∀ i, xE E2 75 i = xE E 75 i := fun i => xFr_E hfr rfl
      have e76 : ∀ i, xE E2 76 i = xE E 76 i := fun i => xFr_E hfr rfl
      have y74_33 : ((2147483648 : Nat) : Int) ≤ xE E0 74 33 + 2147483648 ∧ xE E0 74 33 + 2147483648 ≤ ((2147484548 : Nat) : Int) := xTyF hT0 74 33 33 rfl rfl rfl rfl rfl rfl
      have hI : (0 ≤ x0 0 ∧ x0 0 ≤ xE E0 74 33) ∧ (∀ k, 0 ≤ k → k < 556 → xE E 76 k = xE E0 75 k) ∧ (∃ w a, pAll (xE E0 84) (x0 0) = .error (w, a) ∧ 1 ≤ w ∧ xE E 74 34 = w ∧ xE E 74 35 = a) ∧ (xE E 74 33 = 0 ∧ xE E 74 2 = 9) ∧ (∀ k, 0 ≤ k → k < (v 2) → xE E 75 k = xE E0 75 k) ∧ 0 ≤ (v 2) := hInv
      show xΨlr x0 E0 E2 (-1)
      obtain ⟨i1, hw, hX, i2, hc, i3⟩ := hI
      have hPW := (show xΦlr x0 E0 from hΦ)
      have hEE : E2 = E := xFr_n hfr
      obtain ⟨w, a, hA, h1, h2, h3⟩ := hX
      unfold xΨlr
      rw [if_pos i1, hA, hEE]
      exact ⟨i2.1, rfl, h1, i2.2, h2, h3, fun k k0 k1 => hc k k0 (by omega)⟩
    · cases hx
end
section
/-! TWO CONTRACTS OF ONE METHOD HOLD TOGETHER -/
theorem zEnd_w {s : State} {below : List Frame} {o : Outcome} (h : Ended s below o) : ¬ Within s below := by
  rintro ⟨above, h1, h2, h3⟩
  have len : ∀ {f g : Frame} {r : List Frame}, s.frames = f :: r → s.frames = above ++ g :: r → False := by
    intro f g r e1 e2
    rw [e1] at e2
    have := congrArg List.length e2
    rw [List.length_cons, List.length_append, List.length_cons] at this
    exact h2 (List.eq_nil_of_length_eq_zero (by omega))
  cases o with
  | threw a =>
    have h : s.frames = .throwing a :: below := h
    rw [h] at h1
    have hl := congrArg List.length h1
    rw [List.length_cons, List.length_append] at hl
    obtain ⟨b, hb⟩ : ∃ b, above = [b] := List.length_eq_one_iff.mp (by omega)
    rw [hb] at h1
    have h4 := (List.cons.inj h1).1
    exact h3 a (by rw [hb, h4])
  | returned v =>
    cases below with
    | nil =>
      obtain ⟨-, e⟩ := (show v = none ∧ s.frames = [] from h)
      rw [e] at h1
      have := congrArg List.length h1
      rw [List.length_append] at this
      exact h2 (List.eq_nil_of_length_eq_zero (by simpa using this.symm))
    | cons f r =>
      cases f with
      | java g =>
        obtain ⟨c, i, le, -, -, e⟩ := h
        exact len e h1
      | native g => exact len h h1
      | proc g => exact len h h1
      | _ =>
        obtain ⟨-, e⟩ := h
        rw [e] at h1
        have := congrArg List.length h1
        rw [List.length_append] at this
        exact h2 (List.eq_nil_of_length_eq_zero (by omega))
theorem zEnd_u {s : State} {below : List Frame} {v1 v2 : Option Value} (h1 : Ended s below (.returned v1)) (h2 : Ended s below (.returned v2)) : v1 = v2 := by
  have tl : ∀ {a b : Option Value} {l : List Value}, a.toList ++ l = b.toList ++ l → a = b := by
    intro a b l e
    have e := List.append_cancel_right e
    cases a <;> cases b <;> first | rfl | cases e | skip
    all_goals first | rfl | (cases e; rfl)
  cases below with
  | nil =>
    have e1 : v1 = none := h1.1
    have e2 : v2 = none := h2.1
    rw [e1, e2]
  | cons f r =>
    cases f with
    | java g =>
      obtain ⟨c1, i1, l1, -, -, e1⟩ := h1
      obtain ⟨c2, i2, l2, -, -, e2⟩ := h2
      rw [e1] at e2
      have e3 := (List.cons.inj e2).1
      have e4 := congrArg JFrame.stack (Frame.java.inj e3)
      exact tl e4
    | native g =>
      have h1 : s.frames = _ := h1
      have h2 : s.frames = _ := h2
      rw [h1] at h2
      have e3 := (List.cons.inj h2).1
      have e4 := congrArg NFrame.answer (Frame.native.inj e3)
      exact Outcome.returned.inj (Option.some.inj e4)
    | proc g =>
      have h1 : s.frames = _ := h1
      have h2 : s.frames = _ := h2
      rw [h1] at h2
      have e3 := (List.cons.inj h2).1
      have e4 := congrArg PFrame.answer (Frame.proc.inj e3)
      exact Outcome.returned.inj (Option.some.inj e4)
    | _ =>
      have e1 : v1 = none := h1.1
      have e2 : v2 = none := h2.1
      rw [e1, e2]
theorem zMet_and {l : Launch} {y : MethodName} {ws : List Cond} {rm : Room} {P1 P2 : Array Value → State → Prop} {Q1 Q2 : Array Value → State → Outcome → State → Prop} {mc ms : Nat} {free : Addr → Prop} (h1 : Met l y ws rm P1 Q1 mc ms free) (h2 : Met l y ws rm P2 Q2 mc ms free) (hr1 : ∀ a s o t, Q1 a s o t → ∃ v, o = .returned v) (hr2 : ∀ a s o t, Q2 a s o t → ∃ v, o = .returned v) : Met l y ws rm (fun a s => P1 a s ∧ P2 a s) (fun a s o t => Q1 a s o t ∧ Q2 a s o t) mc ms free := by
  intro p e ha hc hk s m args below hf happ hP hK
  obtain ⟨n1, o1, a1, b1, c1, d1⟩ := h1 p e ha hc hk s m args below hf happ hP.1 hK
  obtain ⟨n2, o2, a2, b2, c2, d2⟩ := h2 p e ha hc hk s m args below hf happ hP.2 hK
  have en : n1 = n2 := by
    rcases Nat.lt_trichotomy n1 n2 with q | q | q
    · exact absurd (a2 n1 q) (zEnd_w c1)
    · exact q
    · exact absurd (a1 n2 q) (zEnd_w c2)
  subst en
  obtain ⟨v1, rfl⟩ := hr1 _ _ _ _ d1.1
  obtain ⟨v2, rfl⟩ := hr2 _ _ _ _ d2.1
  have ev := zEnd_u c1 c2
  subst ev
  exact ⟨n1, _, a1, b1, c1, ⟨d1.1, d2.1⟩, d1.2⟩
theorem zRoom_le {s : State} {pl : Platform} {r1 r2 : Room} (h : s.hasRoom pl r2 = true) (h1 : r1.frames ≤ r2.frames) (h2 : r1.cells ≤ r2.cells) (h3 : r1.slots ≤ r2.slots) (h4 : r1.locals ≤ r2.locals) : s.hasRoom pl r1 = true := by
  unfold State.hasRoom at h ⊢
  simp only [Bool.and_eq_true, decide_eq_true_eq] at h ⊢
  obtain ⟨⟨⟨⟨a1, a2, a3, a4, a5, a6⟩, a7⟩, a8⟩, a9⟩ := h
  refine ⟨⟨⟨⟨?_, ?_, ?_, ?_, ?_, a6⟩, ?_⟩, ?_⟩, a9⟩ <;> omega
theorem zMet_room {l : Launch} {y : MethodName} {ws : List Cond} {r1 r2 : Room} {P : Array Value → State → Prop} {Q : Array Value → State → Outcome → State → Prop} {mc ms : Nat} {free : Addr → Prop} (h : Met l y ws r1 P Q mc ms free) (h1 : r1.frames ≤ r2.frames) (h2 : r1.cells ≤ r2.cells) (h3 : r1.slots ≤ r2.slots) (h4 : r1.locals ≤ r2.locals) : Met l y ws r2 P Q mc ms free := by
  intro p e ha hc hk s m args below hf happ hP hK
  refine h p e ha hc hk s m args below hf ?_ hP hK
  unfold Spec.appliesLoose at happ ⊢
  rw [hf] at happ ⊢
  simp only [Bool.and_eq_true] at happ ⊢
  exact ⟨⟨happ.1.1, zRoom_le happ.1.2 h1 h2 h3 h4⟩, happ.2⟩
end
section
/-! HOW A TEXT IS READ: only its n bytes count -/
section TEX
variable {T T2 : Int → Int} {n p lo hi : Int} {S : Int → Int}
theorem tsp_t (hT : ∀ i, 0 ≤ i → i < n → T i = T2 i) : ∀ (f : Nat) (p : Int), 0 ≤ p → tsp T n f p = tsp T2 n f p := by
  intro f
  induction f with
  | zero => intro p _; rfl
  | succ f ih =>
    intro p h
    show (if p < n ∧ (T p = 10 ∨ T p = 32) then tsp T n f (p + 1) else p) = (if p < n ∧ (T2 p = 10 ∨ T2 p = 32) then tsp T2 n f (p + 1) else p)
    by_cases c : p < n
    · rw [hT p h c, ih (p + 1) (by omega)]
    · rw [if_neg (fun z => c z.1), if_neg (fun z => c z.1)]
theorem tFr_t (hT : ∀ i, 0 ≤ i → i < n → T i = T2 i) (h : 0 ≤ p) : tFr T n p = tFr T2 n p := tsp_t hT _ p h
theorem trn_t (hT : ∀ i, 0 ≤ i → i < n → T i = T2 i) {k : Int} : ∀ (f : Nat) (p : Int), 0 ≤ p → trn T n k f p = trn T2 n k f p := by
  intro f
  induction f with
  | zero => intro p _; rfl
  | succ f ih =>
    intro p h
    show (if p < n ∧ tk (T p) = k then trn T n k f (p + 1) else p) = (if p < n ∧ tk (T2 p) = k then trn T2 n k f (p + 1) else p)
    by_cases c : p < n
    · rw [hT p h c, ih (p + 1) (by omega)]
    · rw [if_neg (fun z => c z.1), if_neg (fun z => c z.1)]
theorem tNx_t (hT : ∀ i, 0 ≤ i → i < n → T i = T2 i) (h : 0 ≤ p) (h2 : p ≤ n) : tNx T n p = tNx T2 n p := by
  have hb := tFr_b (T := T) h2
  have e := tFr_t hT h
  unfold tNx
  rw [← e]
  by_cases c : tFr T n p < n
  · rw [if_pos c, if_pos c, ← hT _ (by omega) c]
    unfold tRn
    rw [trn_t hT _ _ (by omega)]
  · rw [if_neg c, if_neg c]
theorem tKd_t (hT : ∀ i, 0 ≤ i → i < n → T i = T2 i) (h : 0 ≤ p) (h2 : p ≤ n) : tKd T n p = tKd T2 n p := by
  have hb := tFr_b (T := T) h2
  have e := tFr_t hT h
  unfold tKd
  rw [← e, ← tNx_t hT h h2]
  by_cases c : tFr T n p < n
  · rw [if_pos c, if_pos c, ← hT _ (by omega) c]
  · rw [if_neg c, if_neg c]
theorem tvl_t (hT : ∀ i, 0 ≤ i → i < n → T i = T2 i) : ∀ (f : Nat) (q v : Int), 0 ≤ q → q + f ≤ n → tvl T f q v = tvl T2 f q v := by
  intro f
  induction f with
  | zero => intro q v _ _; rfl
  | succ f ih =>
    intro q v h h2
    show tvl T f (q + 1) (10 * v + T q - 48) = tvl T2 f (q + 1) (10 * v + T2 q - 48)
    rw [hT q h (by omega), ih (q + 1) _ (by omega) (by omega)]
theorem tNm_t (hT : ∀ i, 0 ≤ i → i < n → T i = T2 i) (h : 0 ≤ p) (h2 : p ≤ n) : tNm T n p = tNm T2 n p := by
  have hb := tFr_b (T := T) h2
  have hx := tNx_b (T := T) h2
  unfold tNm tVl
  rw [← tFr_t hT h, ← tNx_t hT h h2]
  exact tvl_t hT _ _ _ (by omega) (by omega)
theorem tWb_t (hT : ∀ i, 0 ≤ i → i < n → T i = T2 i) : ∀ (w : List Int) (q : Int), 0 ≤ q → q + w.length ≤ n → tWb T w q = tWb T2 w q := by
  intro w
  induction w with
  | nil => intro q _ _; rfl
  | cons a l ih =>
    intro q h h2
    rw [List.length_cons] at h2
    show (decide (T q = a) && tWb T l (q + 1)) = (decide (T2 q = a) && tWb T2 l (q + 1))
    rw [hT q h (by omega), ih (q + 1) (by omega) (by omega)]
theorem tW_t (hT : ∀ i, 0 ≤ i → i < n → T i = T2 i) (h : 0 ≤ p) (h2 : p ≤ n) {w : List Int} : tW T n p w = tW T2 n p w := by
  have hb := tFr_b (T := T) h2
  have hx := tNx_b (T := T) h2
  unfold tW sW
  rw [← tFr_t hT h, ← tNx_t hT h h2, ← tKd_t hT h h2]
  by_cases c : tNx T n p - tFr T n p = (w.length : Int)
  · rw [tWb_t hT w _ (by omega) (by omega)]
  · rw [decide_eq_false c, Bool.false_and, Bool.false_and]
theorem pMis_t (hT : ∀ i, 0 ≤ i → i < n → T i = T2 i) (h : 0 ≤ p) (h2 : p ≤ n) : pMis T n p = pMis T2 n p := by
  unfold pMis
  rw [tKd_t hT h h2]
theorem pNum_t (hT : ∀ i, 0 ≤ i → i < n → T i = T2 i) (h : 0 ≤ p) (h2 : p ≤ n) {k k2 : Int → Int → pR} (hk : ∀ x q, 0 ≤ q → q ≤ n → k x q = k2 x q) : pNum T n p lo hi k = pNum T2 n p lo hi k2 := by
  have hb := tFr_b (T := T) h2
  have hx := tNx_b (T := T) h2
  unfold pNum
  rw [← tKd_t hT h h2, ← tNm_t hT h h2, ← tFr_t hT h, ← pMis_t hT h h2, ← tNx_t hT h h2, hk _ _ (by omega) hx.2.1]
theorem pSem_t (hT : ∀ i, 0 ≤ i → i < n → T i = T2 i) (h : 0 ≤ p) (h2 : p ≤ n) : pSem T n p S = pSem T2 n p S := by
  unfold pSem
  rw [← tKd_t hT h h2, ← tFr_t hT h, ← pMis_t hT h h2, ← tNx_t hT h h2]
theorem pBits_t (hT : ∀ i, 0 ≤ i → i < n → T i = T2 i) {g : Int} : ∀ {f : Nat} {p len b : Int}, 0 ≤ p → p ≤ n → pBits T n S g f p len b = pBits T2 n S g f p len b := by
  intro f
  induction f with
  | zero =>
    intro p len b h h2
    unfold pBits
    rw [← tKd_t hT h h2, ← tNm_t hT h h2, ← tFr_t hT h]
  | succ f ih =>
    intro p len b h h2
    have hb := tFr_b (T := T) h2
    have hx := tNx_b (T := T) h2
    unfold pBits
    rw [← tKd_t hT h h2, ← tNm_t hT h h2, ← tFr_t hT h, ← tNx_t hT h h2, ih (by omega) hx.2.1]
theorem pWs_t (hT : ∀ i, 0 ≤ i → i < n → T i = T2 i) : ∀ {f : Nat} {p : Int} {S : Int → Int}, 0 ≤ p → p ≤ n → pWs T n f p S = pWs T2 n f p S := by
  intro f
  induction f with
  | zero =>
    intro p S h h2
    have hb := tFr_b (T := T) h2
    have hx := tNx_b (T := T) h2
    unfold pWs
    rw [← tKd_t hT h h2, ← tFr_t hT h, ← tNx_t hT h h2, pNum_t (k2 := fun _ _ => .error (6, tFr T n p)) hT h h2 (fun _ _ _ _ => rfl), pNum_t (k2 := fun _ _ => .error (6, tFr T n (tNx T n p))) hT (show 0 ≤ tNx T n p by omega) hx.2.1 (fun _ _ _ _ => rfl), ← tFr_t hT (show 0 ≤ tNx T n p by omega)]
  | succ f ih =>
    intro p S h h2
    have hb := tFr_b (T := T) h2
    have hx := tNx_b (T := T) h2
    unfold pWs
    rw [← tKd_t hT h h2, ← tNx_t hT h h2, pNum_t hT h h2 (fun x q q0 q1 => ih q0 q1), pNum_t hT (show 0 ≤ tNx T n p by omega) hx.2.1 (fun x q q0 q1 => ih q0 q1)]
theorem pBody_t (hT : ∀ i, 0 ≤ i → i < n → T i = T2 i) (h : 0 ≤ p) (h2 : p ≤ n) : pBody T n p S = pBody T2 n p S := by
  have hb := tFr_b (T := T) h2
  have hx := tNx_b (T := T) h2
  have x0 : 0 ≤ tNx T n p := by omega
  have x1 := hx.2.1
  unfold pBody
  rw [← tW_t hT h h2, ← tW_t hT h h2, ← tW_t hT h h2, ← tW_t hT h h2, ← tW_t hT h h2, ← tW_t hT h h2, ← tNx_t hT h h2, ← pMis_t hT h h2, ← tFr_t hT h]
  have e1 : pSwitch T n (tNx T n p) S = pSwitch T2 n (tNx T n p) S := by
    unfold pSwitch
    exact pNum_t hT x0 x1 (fun x q q0 q1 => pNum_t hT q0 q1 (fun y q2 q20 q21 => pBits_t hT q20 q21))
  have e2 : pBobbin T n p (tNx T n p) S = pBobbin T2 n p (tNx T n p) S := by
    unfold pBobbin
    rw [← tFr_t hT h, ← tFr_t hT x0]
    rw [pNum_t (k2 := fun s p1 => if pTak S s (pF (S 0) (S 1) s) (S 2).toNat = true then .error (4, tFr T n (tNx T n p)) else .ok (p1, pNew S s)) hT x0 x1 (fun _ _ _ _ => rfl)]
  have e3 : pStuck T n (tNx T n p) S = pStuck T2 n (tNx T n p) S := by
    unfold pStuck
    refine pNum_t hT x0 x1 (fun x q q0 q1 => ?_)
    rw [← tW_t hT q0 q1, ← tW_t hT q0 q1, ← tNx_t hT q0 q1, ← pMis_t hT q0 q1, ← tFr_t hT q0]
  have e4 : pFree T n p (tNx T n p) S = pFree T2 n p (tNx T n p) S := by
    unfold pFree
    rw [← tFr_t hT h, pNum_t (k2 := fun g p1 => .ok (p1, uS S (104 + g) 1)) hT x0 x1 (fun _ _ _ _ => rfl)]
  have e5 : pPlace T n (tNx T n p) S = pPlace T2 n (tNx T n p) S := by
    unfold pPlace
    exact pNum_t hT x0 x1 (fun x q q0 q1 => pNum_t hT q0 q1 (fun _ _ _ _ => rfl))
  have e6 : ∀ k : Nat, pWs T n k (tNx T n p) (uS S 5 0) = pWs T2 n k (tNx T n p) (uS S 5 0) := fun k => pWs_t hT x0 x1
  rw [e1, e2, e3, e4, e5, e6 60]
theorem pLine_t (hT : ∀ i, 0 ≤ i → i < n → T i = T2 i) (h : 0 ≤ p) (h2 : p ≤ n) (hk : ¬ tKd T n p = 0) : pLine T n p S = pLine T2 n p S := by
  unfold pLine
  rw [← pBody_t hT h h2]
  cases hB : pBody T n p S with
  | error e => rfl
  | ok x =>
    have hq := pBody_p h2 hk (show pBody T n p S = .ok (x.1, x.2) from hB)
    exact pSem_t hT (by omega) hq.2
theorem pLines_t (hT : ∀ i, 0 ≤ i → i < n → T i = T2 i) : ∀ {f : Nat} {p : Int} {S : Int → Int}, 0 ≤ p → p ≤ n → pLines T n f p S = pLines T2 n f p S := by
  intro f
  induction f with
  | zero => intro p S _ _; rfl
  | succ f ih =>
    intro p S h h2
    by_cases hk : tKd T n p = 0
    · rw [pLines_0 hk, pLines_0 (by rw [← tKd_t hT h h2]; exact hk)]
    · rw [pLines_s hk, pLines_s (by rw [← tKd_t hT h h2]; exact hk), ← pLine_t hT h h2 hk]
      cases hL : pLine T n p S with
      | error e => rfl
      | ok x =>
        have hq := pLine_p h2 hk (show pLine T n p S = .ok (x.1, x.2) from hL)
        exact ih (by omega) hq.2
theorem pAll_t (hT : ∀ i, 0 ≤ i → i < n → T i = T2 i) (h2 : 0 ≤ n) : pAll T n = pAll T2 n := by
  have hx := tNx_b (T := T) (p := 0) h2
  have hb := tFr_b (T := T) (p := 0) h2
  have x0 : 0 ≤ tNx T n 0 := by omega
  have eS : pSz T n = pSz T2 n := by
    unfold pSz
    rw [← tW_t hT (Int.le_refl 0) h2, ← tNx_t hT (Int.le_refl 0) h2, ← pMis_t hT (Int.le_refl 0) h2, ← tFr_t hT (Int.le_refl 0)]
    rw [pNum_t hT x0 hx.2.1 (fun x q q0 q1 => pNum_t hT q0 q1 (fun y q2 q20 q21 => pSem_t hT q20 q21))]
  have key : ∀ m : Nat, pBind (pSz T n) (pLines T n m) = pBind (pSz T n) (pLines T2 n m) := by
    intro m
    cases hS : pSz T n with
    | error e => rfl
    | ok x =>
      obtain ⟨q, S⟩ := x
      have hq := pSz_p h2 hS
      exact pLines_t (f := m) (p := q) (S := S) hT (by omega) hq.2
  unfold pAll
  rw [← eS]
  exact key 901
end TEX
end
section
/-! THE REFERENCE's public methods keep the tape, the words, what a load has told (printed by mlv.py) -/
def zyKv (E E2 : zyEm) : Prop := (∀ k, E2 84 k = E 84 k) ∧ (∀ k, E2 85 k = E 85 k) ∧ ∀ k, 33 ≤ k → k ≤ 46 → E2 74 k = E 74 k
def zyΨv (as : List Int32) (E E2 : zyEm) (vo : Option Value) : Prop := zyΨu as E E2 vo ∧ zyKv E E2
noncomputable def zyvck (fp : zyR) : Bool := List.rec (motive := fun _ => Bool) true (fun p _ ih => zand (zif (Nat.beq p.1 84) false (zif (Nat.beq p.1 85) false (zif (Nat.beq p.1 74) (zif (Nat.ble (Nat.succ p.2.2) 33) true (Nat.ble 47 p.2.1)) true))) ih) fp
theorem zyvck_iff : ∀ {fp : zyR}, zyvck fp = true → ∀ a k, (a = 84 ∨ a = 85 ∨ (a = 74 ∧ 33 ≤ k ∧ k ≤ 46)) → zyin fp a k = false := by
  intro fp h a k ha
  cases hq : zyin fp a k with
  | false => rfl
  | true =>
    exfalso
    obtain ⟨p, hp, g1, g2, g3⟩ := zyin_iff.mp hq
    revert h
    induction fp with
    | nil => cases hp
    | cons b t ih =>
      intro h
      have h : zand (zif (Nat.beq b.1 84) false (zif (Nat.beq b.1 85) false (zif (Nat.beq b.1 74) (zif (Nat.ble (Nat.succ b.2.2) 33) true (Nat.ble 47 b.2.1)) true))) (zyvck t) = true := h
      obtain ⟨h1, h2⟩ := zand_iff h
      rcases List.mem_cons.mp hp with e | e
      · subst e
        rcases zif_iff h1 with ⟨-, q⟩ | ⟨n1, q⟩
        · cases q
        · rcases zif_iff q with ⟨-, q⟩ | ⟨n2, q⟩
          · cases q
          · have m1 : ¬ p.1 = 84 := fun z => by rw [z] at n1; cases n1
            have m2 : ¬ p.1 = 85 := fun z => by rw [z] at n2; cases n2
            rcases zif_iff q with ⟨-, q⟩ | ⟨n3, -⟩
            · rcases zif_iff q with ⟨q, -⟩ | ⟨-, q⟩
              · have := zbleT q
                omega
              · have := zbleT q
                omega
            · have m3 : ¬ p.1 = 74 := fun z => by rw [z] at n3; cases n3
              omega
      · refine ih (zyin_iff.mpr ⟨p, e, g1, g2, g3⟩) e h2
theorem zyKv_c {fp : zyR} {E E2 : zyEm} (h : zyvck fp = true) (hf : ∀ a k, zyin fp a k = false → E2 a k = E a k) : zyKv E E2 := ⟨fun k => hf 84 k (zyvck_iff h _ _ (Or.inl rfl)), fun k => hf 85 k (zyvck_iff h _ _ (Or.inr (Or.inl rfl))), fun k k1 k2 => hf 74 k (zyvck_iff h _ _ (Or.inr (Or.inr ⟨rfl, k1, k2⟩)))⟩
theorem zyHc_cV {l : Launch} {mi : zyB} {en : zEn} {me : zMe} {ct : zyCt} (h : zyCon l mi zyJf en me ct) {dep na : Nat} {Φa : List Int32 → Prop} (hd : ct.2.2.2.1 = dep) (hargs : ∀ (B : zCx) (xs : List Int32), xs.length = na → Φa xs → zySt (zyX0 B zyJf) ct.1 (zyAr B xs)) (hpre : ∀ (B : zCx) (H : Heap) (U : State), zyMI mi B zyJ0 U H → (∃ T : Nat, T + 100 ≤ 1073741824 ∧ zyEl mi B H 75 3 = some (.int (Int32.ofNat T))) → zyPk mi B ct.2.2.2.2.1 H) {cd : Nat} (hres : ct.2.2.1 = [cd] ∧ cd % 8 ≤ 2) (hfp : zand (zif (zyin ct.2.1 75 3) false true) (zif (zyin ct.2.1 74 33) false true) = true) (hv84 : zyvck ct.2.1 = true) : zyHc l mi en me dep na (fun xs E => Φa xs ∧ zyΦu xs E) zyΨv := by
  subst hd
  intro B xs hl
  refine zyMet_pt (fun a s hp => ?_)
  obtain ⟨rfl, hK, hI, hφa, hJ, hT⟩ := hp
  refine ⟨_, _, h B _ (hargs B xs hl hφa), ⟨rfl, hK, ⟨hI.1, hI.2.1, hJ, hI.2.2.2⟩, hpre B s.heap s hI hT⟩, fun o t hq => ?_⟩
  obtain ⟨vo, e1, hv, k1, k2, k3, k4, k5⟩ := hq
  rw [hres.1] at hv
  obtain ⟨f1, f2⟩ := zand_iff hfp
  have g1 : zyin ct.2.1 75 3 = false := by
    cases hq : zyin ct.2.1 75 3 with
    | false => rfl
    | true => rw [hq] at f1; cases f1
  have g2 : zyin ct.2.1 74 33 = false := by
    cases hq : zyin ct.2.1 74 33 with
    | false => rfl
    | true => rw [hq] at f2; cases f2
  exact ⟨vo, e1, k1, ⟨k2.1, k2.2.1, trivial, k2.2.2.2⟩, ⟨⟨zyKu_3 k2.2.2.1 (k4 74 33 g2) (k4 75 3 g1), zyvo_z hres.2 hv⟩, zyKv_c hv84 k4⟩, k5⟩
/-- put, take: by T -/
theorem zyHc_TV {l : Launch} {r c : Nat} {en : zEn} {me : zMe} {ct1 ct2 : zyCt} (c1 : zyCon l (zymr r c) zyJ0 en me ct1) (c2 : zyCon l (zymr r c) zyJ0 en me ct2) {dep : Nat} (hd : ct1.2.2.2.1 = dep ∧ ct2.2.2.2.1 = dep) (ha : ct1.1 = [595, 34359738362] ∧ ct2.1 = [595, 34359738362]) (hpre : ct1.2.2.2.2.1 = [(1228803, 73786976363557683194)] ∧ ct2.2.2.2.2.1 = [(1228803, 17179869186)]) {cd1 cd2 : Nat} (hres : (ct1.2.2.1 = [cd1] ∧ cd1 % 8 ≤ 2) ∧ ct2.2.2.1 = [cd2] ∧ cd2 % 8 ≤ 2)
    (hf1 : ∀ a k, zyin ct1.2.1 a k = true → a = 74 ∧ 2 ≤ k ∧ k ≤ 3) (hf2 : ∀ a k, zyin ct2.2.1 a k = true → (a = 74 ∧ 2 ≤ k ∧ k ≤ 3) ∨ (a = 75 ∧ (k ≤ 2 ∨ (6 ≤ k ∧ k < 160) ∨ 520 ≤ k))) : zyHc l (zymr r c) en me dep 1 zyΦu zyΨv := by
  intro B xs hl
  have hA : ∀ J, zySt (zyX0 B J) [595, 34359738362] (zyAr B xs) := by
    intro J
    cases xs with
    | nil => cases hl
    | cons x t =>
      cases t with
      | cons y u => cases hl
      | nil => exact ⟨Or.inl ⟨Or.inr (Or.inr (Or.inr (Or.inl ⟨rfl, rfl⟩))), fun q => by omega, fun q => by omega⟩, zyv_bd (lo := 0) (hi := 4294967295) (Nat.zero_le _) (by have := zB_lt x; omega) (by decide), trivial⟩
  refine zyMet_pt (fun a s hp => ?_)
  obtain ⟨rfl, hK, hI, hJ, T, hT1, hT2⟩ := hp
  have hg : zG (zymr r c) (1228803 / 16384) = some (zymr75 r c) := rfl
  have hlen : 1228803 % 16384 < zyLen (zymr75 r c) := by rw [zyL75]; decide
  by_cases hz : T = 0
  · have hA2 : zySt (zyX0 B zyJ0) ct2.1 (zyAr B xs) := by rw [ha.2]; exact hA _
    have hm := c2 B (zyAr B xs) hA2
    rw [hd.2] at hm
    have hpk : zyPk (zymr r c) B ct2.2.2.2.2.1 s.heap := by
      rw [hpre.2]
      intro p hp
      rw [List.mem_singleton.mp hp]
      exact ⟨_, _, hg, hlen, hT2, by decide, zyv_bd (lo := 0) (hi := 2147483648) (Nat.zero_le _) (by rw [zyBn (by omega)]; omega) (by decide)⟩
    refine ⟨_, _, hm, ⟨rfl, hK, hI, hpk⟩, fun o t hq => ?_⟩
    · obtain ⟨vo, e1, hv, k1, k2, k3, k4, k5⟩ := hq
      rw [hres.2.1] at hv
      have nf : ∀ a k, ¬ ((a = 74 ∧ 2 ≤ k ∧ k ≤ 3) ∨ (a = 75 ∧ (k ≤ 2 ∨ (6 ≤ k ∧ k < 160) ∨ 520 ≤ k))) → zyEl (zymr r c) B t.heap a k = zyEl (zymr r c) B s.heap a k := by
        intro a k n
        apply k4
        cases hq : zyin ct2.2.1 a k with
        | false => rfl
        | true => exact absurd (hf2 a k hq) n
      have h3 := nf 75 3 (by omega)
      have h4 := nf 75 4 (by omega)
      have hL : zyI (zyEl (zymr r c) B s.heap) 75 4 = Int32.ofNat 0 := by
        obtain ⟨m, hm, hms⟩ := zc_m (zyTy_of hI)
        refine (hJ m hm hms).2.2 ?_
        rw [zyI_s hT2, zyOl (by omega) (by omega)]
        omega
      have kv : zyKv (zyEl (zymr r c) B s.heap) (zyEl (zymr r c) B t.heap) := ⟨fun k => nf 84 k (by omega), fun k => nf 85 k (by omega), fun k k1 k2 => nf 74 k (by omega)⟩
      refine ⟨vo, e1, k1, k2, ⟨⟨zyKu_3 (fun m hm hms => ?_) (nf 74 33 (by omega)) h3, zyvo_z hres.2.2 hv⟩, kv⟩, k5⟩
      have hW : zWv (zyEl (zymr r c) B s.heap) := by
        obtain ⟨m, hm, hms⟩ := zc_m (zyTy_of hI)
        exact (hJ m hm hms).2.1
      have hL2 : zyI (zyEl (zymr r c) B t.heap) 75 4 = Int32.ofNat 0 := (zyI_eq h4).trans hL
      exact ⟨zLv_0 hL2, zWv_fr (nf 75 5 (by omega)) (fun k hk => nf 75 (460 + k) (by omega)) hW, fun _ => hL2⟩
  · have hA2 : zySt (zyX0 B zyJ0) ct1.1 (zyAr B xs) := by rw [ha.1]; exact hA _
    have hm := c1 B (zyAr B xs) hA2
    rw [hd.1] at hm
    have hpk : zyPk (zymr r c) B ct1.2.2.2.2.1 s.heap := by
      rw [hpre.1]
      intro p hp
      rw [List.mem_singleton.mp hp]
      exact ⟨_, _, hg, hlen, hT2, by decide, zyv_bd (lo := 2147483649) (hi := 4294967295) (by rw [zyBn (by omega)]; omega) (by have := zB_lt (Int32.ofNat T); omega) (by decide)⟩
    refine ⟨_, _, hm, ⟨rfl, hK, hI, hpk⟩, fun o t hq => ?_⟩
    · obtain ⟨vo, e1, hv, k1, k2, k3, k4, k5⟩ := hq
      rw [hres.1.1] at hv
      have nf : ∀ a k, ¬ (a = 74 ∧ 2 ≤ k ∧ k ≤ 3) → zyEl (zymr r c) B t.heap a k = zyEl (zymr r c) B s.heap a k := by
        intro a k n
        apply k4
        cases hq : zyin ct1.2.1 a k with
        | false => rfl
        | true => exact absurd (hf1 a k hq) n
      have kv : zyKv (zyEl (zymr r c) B s.heap) (zyEl (zymr r c) B t.heap) := ⟨fun k => nf 84 k (by omega), fun k => nf 85 k (by omega), fun k k1 k2 => nf 74 k (by omega)⟩
      exact ⟨vo, e1, k1, k2, ⟨⟨zyKu_3 (zJ1_fr (fun k _ => nf 75 k (by omega)) hJ) (nf 74 33 (by omega)) (nf 75 3 (by omega)), zyvo_z hres.1.2 hv⟩, kv⟩, k5⟩

section YHV2
variable {l : Launch} {r c : Nat} {en : zEn} {me : zMe}
theorem zyput_V (h1 : 1 ≤ r) (h2 : r ≤ 4) (h3 : 1 ≤ c) (h4 : c ≤ 5) (hen : zG zxMeta 275 = some en) (hme : zG zMeth 275 = some me) : zyHc l (zymr r c) en me 9 1 zyΦu zyΨv := by
  refine zyHc_TV (zyqA h1 h2 h3 h4 1 (by decide) en me hen hme) (zyqA h1 h2 h3 h4 2 (by decide) en me hen hme) ⟨rfl, rfl⟩ ⟨rfl, rfl⟩ ⟨rfl, rfl⟩ (cd1 := 34359738360) (cd2 := 73786976277658337338) ⟨⟨rfl, by decide⟩, rfl, by decide⟩ ?_ ?_
  · intro a k h
    obtain ⟨p0, g1, g2, g3, g4⟩ := zyin_iff.mp h
    have g1 : p0 ∈ [(74, 2, 3)] := g1
    simp only [List.mem_cons, List.not_mem_nil, or_false] at g1
    rcases g1 with rfl <;> dsimp only at g2 g3 g4 <;> omega
  · intro a k h
    obtain ⟨p0, g1, g2, g3, g4⟩ := zyin_iff.mp h
    have g1 : p0 ∈ [(74, 2, 3), (75, 2, 2), (75, 136, 159)] := g1
    simp only [List.mem_cons, List.not_mem_nil, or_false] at g1
    rcases g1 with rfl | rfl | rfl <;> dsimp only at g2 g3 g4 <;> omega
theorem zytake_V (h1 : 1 ≤ r) (h2 : r ≤ 4) (h3 : 1 ≤ c) (h4 : c ≤ 5) (hen : zG zxMeta 276 = some en) (hme : zG zMeth 276 = some me) : zyHc l (zymr r c) en me 3 1 zyΦu zyΨv := by
  refine zyHc_TV (zyqA h1 h2 h3 h4 3 (by decide) en me hen hme) (zyqA h1 h2 h3 h4 4 (by decide) en me hen hme) ⟨rfl, rfl⟩ ⟨rfl, rfl⟩ ⟨rfl, rfl⟩ (cd1 := 34359738360) (cd2 := 73786976277658337338) ⟨⟨rfl, by decide⟩, rfl, by decide⟩ ?_ ?_
  · intro a k h
    obtain ⟨p0, g1, g2, g3, g4⟩ := zyin_iff.mp h
    have g1 : p0 ∈ [(74, 2, 3)] := g1
    simp only [List.mem_cons, List.not_mem_nil, or_false] at g1
    rcases g1 with rfl <;> dsimp only at g2 g3 g4 <;> omega
  · intro a k h
    obtain ⟨p0, g1, g2, g3, g4⟩ := zyin_iff.mp h
    have g1 : p0 ∈ [(74, 2, 3), (75, 2, 2), (75, 6, 6), (75, 136, 142), (75, 144, 150), (75, 152, 158), (75, 520, 555)] := g1
    simp only [List.mem_cons, List.not_mem_nil, or_false] at g1
    rcases g1 with rfl | rfl | rfl | rfl | rfl | rfl | rfl <;> dsimp only at g2 g3 g4 <;> omega
theorem zystep_V (h1 : 1 ≤ r) (h2 : r ≤ 4) (h3 : 1 ≤ c) (h4 : c ≤ 5) (hen : zG zxMeta 279 = some en) (hme : zG zMeth 279 = some me) : zyHc l (zymr r c) en me 8 1 zyΦu zyΨv := by
  refine zyHc_mono (zystep_H h1 h2 h3 h4 hen hme) (fun xs E _ _ h => h) (fun xs E E2 vo _ _ h hΨ => ?_)
  obtain ⟨k1, k2, k3, k4⟩ := hΨ
  refine ⟨⟨⟨k1, k2 74 33 (by omega) (by omega) (by omega), fun T hT e => ?_⟩, k3⟩, ⟨fun k => k2 84 k (by omega) (by omega) (by omega), fun k => k2 85 k (by omega) (by omega) (by omega), fun k q1 q2 => k2 74 k (by omega) (by omega) (by omega)⟩⟩
  obtain ⟨T', -, q2, q3⟩ := k4 T hT e
  exact ⟨T', q2, q3⟩
theorem zyreset_V (h1 : 1 ≤ r) (h2 : r ≤ 4) (h3 : 1 ≤ c) (h4 : c ≤ 5) (hen : zG zxMeta 280 = some en) (hme : zG zMeth 280 = some me) : zyHc l (zymr r c) en me 8 0 zyΦu zyΨv := by
  refine zyHc_mono (zyreset_H h1 h2 h3 h4 hen hme) (fun xs E _ _ h => h.1) (fun xs E E2 vo _ _ h hΨ => ?_)
  obtain ⟨k1, k2, k3, k4⟩ := hΨ
  exact ⟨⟨⟨k1, k2 74 33 (by omega) (by omega) (by omega), fun T hT e => ⟨0, by omega, k3⟩⟩, k4⟩, ⟨fun k => k2 84 k (by omega) (by omega) (by omega), fun k => k2 85 k (by omega) (by omega) (by omega), fun k q1 q2 => k2 74 k (by omega) (by omega) (by omega)⟩⟩
theorem zycut_V (h1 : 1 ≤ r) (h2 : r ≤ 4) (h3 : 1 ≤ c) (h4 : c ≤ 5) (hen : zG zxMeta 281 = some en) (hme : zG zMeth 281 = some me) : zyHc l (zymr r c) en me 8 0 zyΦu zyΨv := by
  refine zyHc_mono (zycut_H h1 h2 h3 h4 hen hme) (fun xs E _ _ h => h.1) (fun xs E E2 vo _ _ h hΨ => ?_)
  obtain ⟨k1, k2, k4⟩ := hΨ
  exact ⟨⟨zyKu_3 k1 (k2 74 33 (by omega) (by omega)) (k2 75 3 (by omega) (by omega)), k4⟩, ⟨fun k => k2 84 k (by omega) (by omega), fun k => k2 85 k (by omega) (by omega), fun k q1 q2 => k2 74 k (by omega) (by omega)⟩⟩
theorem zypair_V (h1 : 1 ≤ r) (h2 : r ≤ 4) (h3 : 1 ≤ c) (h4 : c ≤ 5) (hen : zG zxMeta 256 = some en) (hme : zG zMeth 256 = some me) : zyHc l (zymr r c) en me 4 2 zyΦu zyΨv := by
  refine zyHc_mono (zypair_H h1 h2 h3 h4 hen hme) (fun xs E _ _ h => h.1) (fun xs E E2 vo _ _ h hΨ => ?_)
  obtain ⟨k1, k4⟩ := hΨ
  exact ⟨⟨zyKu_3 (zJ1_fr (fun k _ => k1 75 k (by omega) (by omega)) h.1) (k1 74 33 (by omega) (by omega)) (k1 75 3 (by omega) (by omega)), k4⟩, ⟨fun k => k1 84 k (by omega) (by omega), fun k => k1 85 k (by omega) (by omega), fun k q1 q2 => k1 74 k (by omega) (by omega)⟩⟩
end YHV2
section YHVW
variable {l : Launch} {r c : Nat} {en : zEn} {me : zMe}
theorem zystatus_V (h1 : 1 ≤ r) (h2 : r ≤ 4) (h3 : 1 ≤ c) (h4 : c ≤ 5) (hen : zG zxMeta 189 = some en) (hme : zG zMeth 189 = some me) : zyHc l (zymr r c) en me 1 0 zyΦu zyΨv := zyHc_mono (zyHc_cV (zyrefB h1 h2 h3 h4 23 (by decide) en me hen hme) (Φa := fun _ => True) rfl zyag0 zypre0 (cd := 73786976312018075722) ⟨rfl, by decide⟩ rfl rfl) (fun _ _ _ _ h => ⟨trivial, h⟩) (fun _ _ _ _ _ _ _ h => h)
theorem zyfault_V (h1 : 1 ≤ r) (h2 : r ≤ 4) (h3 : 1 ≤ c) (h4 : c ≤ 5) (hen : zG zxMeta 330 = some en) (hme : zG zMeth 330 = some me) : zyHc l (zymr r c) en me 1 1 zyΦu zyΨv := zyHc_mono (zyHc_cV (zyrefB h1 h2 h3 h4 64 (by decide) en me hen hme) (Φa := fun _ => True) rfl zyag1 zypre0 (cd := 34359738362) ⟨rfl, by decide⟩ rfl rfl) (fun _ _ _ _ h => ⟨trivial, h⟩) (fun _ _ _ _ _ _ _ h => h)
theorem zymany_V (h1 : 1 ≤ r) (h2 : r ≤ 4) (h3 : 1 ≤ c) (h4 : c ≤ 5) (hen : zG zxMeta 262 = some en) (hme : zG zMeth 262 = some me) : zyHc l (zymr r c) en me 14 1 zyΦu zyΨv := zyHc_mono (zyHc_cV (zyrefB h1 h2 h3 h4 29 (by decide) en me hen hme) (Φa := fun _ => True) rfl zyag1 zypre0 (cd := 34359738362) ⟨rfl, by decide⟩ rfl rfl) (fun _ _ _ _ h => ⟨trivial, h⟩) (fun _ _ _ _ _ _ _ h => h)
theorem zygate_V (h1 : 1 ≤ r) (h2 : r ≤ 4) (h3 : 1 ≤ c) (h4 : c ≤ 5) (hen : zG zxMeta 263 = some en) (hme : zG zMeth 263 = some me) : zyHc l (zymr r c) en me 5 2 zyΦu zyΨv := zyHc_mono (zyHc_cV (zyrefB h1 h2 h3 h4 30 (by decide) en me hen hme) (Φa := fun _ => True) rfl zyag2 zypre0 (cd := 73786976277658337914) ⟨rfl, by decide⟩ rfl rfl) (fun _ _ _ _ h => ⟨trivial, h⟩) (fun _ _ _ _ _ _ _ h => h)
theorem zybit_V (h1 : 1 ≤ r) (h2 : r ≤ 4) (h3 : 1 ≤ c) (h4 : c ≤ 5) (hen : zG zxMeta 264 = some en) (hme : zG zMeth 264 = some me) : zyHc l (zymr r c) en me 4 2 zyΦu zyΨv := zyHc_mono (zyHc_cV (zyrefB h1 h2 h3 h4 31 (by decide) en me hen hme) (Φa := fun _ => True) rfl zyag2 zypre0 (cd := 73786976277658337290) ⟨rfl, by decide⟩ rfl rfl) (fun _ _ _ _ h => ⟨trivial, h⟩) (fun _ _ _ _ _ _ _ h => h)
theorem zybobbin_V (h1 : 1 ≤ r) (h2 : r ≤ 4) (h3 : 1 ≤ c) (h4 : c ≤ 5) (hen : zG zxMeta 266 = some en) (hme : zG zMeth 266 = some me) : zyHc l (zymr r c) en me 7 2 zyΦu zyΨv := zyHc_mono (zyHc_cV (zyrefB h1 h2 h3 h4 36 (by decide) en me hen hme) (Φa := fun _ => True) rfl zyag2 zypre0 (cd := 34359738362) ⟨rfl, by decide⟩ rfl rfl) (fun _ _ _ _ h => ⟨trivial, h⟩) (fun _ _ _ _ _ _ _ h => h)
theorem zyat_V (h1 : 1 ≤ r) (h2 : r ≤ 4) (h3 : 1 ≤ c) (h4 : c ≤ 5) (hen : zG zxMeta 268 = some en) (hme : zG zMeth 268 = some me) : zyHc l (zymr r c) en me 3 1 zyΦu zyΨv := zyHc_mono (zyHc_cV (zyrefB h1 h2 h3 h4 38 (by decide) en me hen hme) (Φa := fun _ => True) rfl zyag1 zypre0 (cd := 73786976277658337338) ⟨rfl, by decide⟩ rfl rfl) (fun _ _ _ _ h => ⟨trivial, h⟩) (fun _ _ _ _ _ _ _ h => h)
theorem zyfaces_V (h1 : 1 ≤ r) (h2 : r ≤ 4) (h3 : 1 ≤ c) (h4 : c ≤ 5) (hen : zG zxMeta 269 = some en) (hme : zG zMeth 269 = some me) : zyHc l (zymr r c) en me 7 1 zyΦu zyΨv := zyHc_mono (zyHc_cV (zyrefB h1 h2 h3 h4 39 (by decide) en me hen hme) (Φa := fun _ => True) rfl zyag1 zypre0 (cd := (zyS1 r c)) ⟨rfl, zyS1m⟩ rfl rfl) (fun _ _ _ _ h => ⟨trivial, h⟩) (fun _ _ _ _ _ _ _ h => h)
theorem zyprogram_V (h1 : 1 ≤ r) (h2 : r ≤ 4) (h3 : 1 ≤ c) (h4 : c ≤ 5) (hen : zG zxMeta 270 = some en) (hme : zG zMeth 270 = some me) : zyHc l (zymr r c) en me 4 3 zyΦu zyΨv := zyHc_mono (zyHc_cV (zyrefB h1 h2 h3 h4 40 (by decide) en me hen hme) (Φa := fun _ => True) rfl zyag3 zypre0 (cd := 73786976277658337314) ⟨rfl, by decide⟩ rfl rfl) (fun _ _ _ _ h => ⟨trivial, h⟩) (fun _ _ _ _ _ _ _ h => h)
theorem zystick_V (h1 : 1 ≤ r) (h2 : r ≤ 4) (h3 : 1 ≤ c) (h4 : c ≤ 5) (hen : zG zxMeta 271 = some en) (hme : zG zMeth 271 = some me) : zyHc l (zymr r c) en me 4 2 zyΦu zyΨv := zyHc_mono (zyHc_cV (zyrefB h1 h2 h3 h4 41 (by decide) en me hen hme) (Φa := fun _ => True) rfl zyag2 zypre0 (cd := 73786976277658337298) ⟨rfl, by decide⟩ rfl rfl) (fun _ _ _ _ h => ⟨trivial, h⟩) (fun _ _ _ _ _ _ _ h => h)
theorem zyfree_V (h1 : 1 ≤ r) (h2 : r ≤ 4) (h3 : 1 ≤ c) (h4 : c ≤ 5) (hen : zG zxMeta 272 = some en) (hme : zG zMeth 272 = some me) : zyHc l (zymr r c) en me 5 2 (fun xs E => zyBo xs ∧ zyΦu xs E) zyΨv := zyHc_cV (zyrefB h1 h2 h3 h4 42 (by decide) en me hen hme) (Φa := zyBo) rfl zyagb zypre0 (cd := 34359738362) ⟨rfl, by decide⟩ rfl rfl
theorem zywish_V (h1 : 1 ≤ r) (h2 : r ≤ 4) (h3 : 1 ≤ c) (h4 : c ≤ 5) (hen : zG zxMeta 277 = some en) (hme : zG zMeth 277 = some me) : zyHc l (zymr r c) en me 3 2 zyΦu zyΨv := zyHc_mono (zyHc_cV (zyrefB h1 h2 h3 h4 43 (by decide) en me hen hme) (Φa := fun _ => True) rfl zyag2 zypre0 (cd := (zyS1 r c)) ⟨rfl, zyS1m⟩ rfl rfl) (fun _ _ _ _ h => ⟨trivial, h⟩) (fun _ _ _ _ _ _ _ h => h)
theorem zyout_V (h1 : 1 ≤ r) (h2 : r ≤ 4) (h3 : 1 ≤ c) (h4 : c ≤ 5) (hen : zG zxMeta 339 = some en) (hme : zG zMeth 339 = some me) : zyHc l (zymr r c) en me 2 1 zyΦu zyΨv := zyHc_mono (zyHc_cV (zyrefB h1 h2 h3 h4 65 (by decide) en me hen hme) (Φa := fun _ => True) rfl zyag1 zypre0 (cd := 34359738362) ⟨rfl, by decide⟩ rfl rfl) (fun _ _ _ _ h => ⟨trivial, h⟩) (fun _ _ _ _ _ _ _ h => h)
theorem zymap_V (h1 : 1 ≤ r) (h2 : r ≤ 4) (h3 : 1 ≤ c) (h4 : c ≤ 5) (hen : zG zxMeta 282 = some en) (hme : zG zMeth 282 = some me) : zyHc l (zymr r c) en me 9 2 zyΦu zyΨv := zyHc_mono (zyHc_cV (zyrefB h1 h2 h3 h4 44 (by decide) en me hen hme) (Φa := fun _ => True) rfl zyag2 zypre0 (cd := (zyS1 r c)) ⟨rfl, zyS1m⟩ rfl rfl) (fun _ _ _ _ h => ⟨trivial, h⟩) (fun _ _ _ _ _ _ _ h => h)
theorem zyride_V (h1 : 1 ≤ r) (h2 : r ≤ 4) (h3 : 1 ≤ c) (h4 : c ≤ 5) (hen : zG zxMeta 283 = some en) (hme : zG zMeth 283 = some me) : zyHc l (zymr r c) en me 9 3 zyΦu zyΨv := zyHc_mono (zyHc_cV (zyrefB h1 h2 h3 h4 45 (by decide) en me hen hme) (Φa := fun _ => True) rfl zyag3 zypre0 (cd := (zyS1 r c)) ⟨rfl, zyS1m⟩ rfl rfl) (fun _ _ _ _ h => ⟨trivial, h⟩) (fun _ _ _ _ _ _ _ h => h)
theorem zyround_V (h1 : 1 ≤ r) (h2 : r ≤ 4) (h3 : 1 ≤ c) (h4 : c ≤ 5) (hen : zG zxMeta 284 = some en) (hme : zG zMeth 284 = some me) : zyHc l (zymr r c) en me 15 1 zyΦu zyΨv := zyHc_mono (zyHc_cV (zyrefB h1 h2 h3 h4 46 (by decide) en me hen hme) (Φa := fun _ => True) rfl zyag1 zypre0 (cd := (zyS1 r c)) ⟨rfl, zyS1m⟩ rfl rfl) (fun _ _ _ _ h => ⟨trivial, h⟩) (fun _ _ _ _ _ _ _ h => h)
theorem zytrack_V (h1 : 1 ≤ r) (h2 : r ≤ 4) (h3 : 1 ≤ c) (h4 : c ≤ 5) (hen : zG zxMeta 287 = some en) (hme : zG zMeth 287 = some me) : zyHc l (zymr r c) en me 18 2 zyΦu zyΨv := zyHc_mono (zyHc_cV (zyrefB h1 h2 h3 h4 48 (by decide) en me hen hme) (Φa := fun _ => True) rfl zyag2 zypre0 (cd := 34359738362) ⟨rfl, by decide⟩ rfl rfl) (fun _ _ _ _ h => ⟨trivial, h⟩) (fun _ _ _ _ _ _ _ h => h)
theorem zytracks_V (h1 : 1 ≤ r) (h2 : r ≤ 4) (h3 : 1 ≤ c) (h4 : c ≤ 5) (hen : zG zxMeta 288 = some en) (hme : zG zMeth 288 = some me) : zyHc l (zymr r c) en me 92 1 zyΦu zyΨv := zyHc_mono (zyHc_cV (zyrefB h1 h2 h3 h4 49 (by decide) en me hen hme) (Φa := fun _ => True) rfl zyag1 zypre0 (cd := 34359738362) ⟨rfl, by decide⟩ rfl rfl) (fun _ _ _ _ h => ⟨trivial, h⟩) (fun _ _ _ _ _ _ _ h => h)
theorem zyofLength_V (h1 : 1 ≤ r) (h2 : r ≤ 4) (h3 : 1 ≤ c) (h4 : c ≤ 5) (hen : zG zxMeta 289 = some en) (hme : zG zMeth 289 = some me) : zyHc l (zymr r c) en me 16 1 zyΦu zyΨv := zyHc_mono (zyHc_cV (zyrefB h1 h2 h3 h4 50 (by decide) en me hen hme) (Φa := fun _ => True) rfl zyag1 zypre0 (cd := 34359738362) ⟨rfl, by decide⟩ rfl rfl) (fun _ _ _ _ h => ⟨trivial, h⟩) (fun _ _ _ _ _ _ _ h => h)
theorem zymeets_V (h1 : 1 ≤ r) (h2 : r ≤ 4) (h3 : 1 ≤ c) (h4 : c ≤ 5) (hen : zG zxMeta 291 = some en) (hme : zG zMeth 291 = some me) : zyHc l (zymr r c) en me 15 3 zyΦu zyΨv := zyHc_mono (zyHc_cV (zyrefB h1 h2 h3 h4 51 (by decide) en me hen hme) (Φa := fun _ => True) rfl zyag3 zypre0 (cd := 34359738362) ⟨rfl, by decide⟩ rfl rfl) (fun _ _ _ _ h => ⟨trivial, h⟩) (fun _ _ _ _ _ _ _ h => h)
theorem zycrash_V (h1 : 1 ≤ r) (h2 : r ≤ 4) (h3 : 1 ≤ c) (h4 : c ≤ 5) (hen : zG zxMeta 292 = some en) (hme : zG zMeth 292 = some me) : zyHc l (zymr r c) en me 15 1 zyΦu zyΨv := zyHc_mono (zyHc_cV (zyrefB h1 h2 h3 h4 52 (by decide) en me hen hme) (Φa := fun _ => True) rfl zyag1 zypreT (cd := 34359738362) ⟨rfl, by decide⟩ rfl rfl) (fun _ _ _ _ h => ⟨trivial, h⟩) (fun _ _ _ _ _ _ _ h => h)
theorem zyrepeat_V (h1 : 1 ≤ r) (h2 : r ≤ 4) (h3 : 1 ≤ c) (h4 : c ≤ 5) (hen : zG zxMeta 293 = some en) (hme : zG zMeth 293 = some me) : zyHc l (zymr r c) en me 92 0 zyΦu zyΨv := zyHc_mono (zyHc_cV (zyrefB h1 h2 h3 h4 53 (by decide) en me hen hme) (Φa := fun _ => True) rfl zyag0 zypreT (cd := 34359738362) ⟨rfl, by decide⟩ rfl rfl) (fun _ _ _ _ h => ⟨trivial, h⟩) (fun _ _ _ _ _ _ _ h => h)
theorem zylaid_V (h1 : 1 ≤ r) (h2 : r ≤ 4) (h3 : 1 ≤ c) (h4 : c ≤ 5) (hen : zG zxMeta 294 = some en) (hme : zG zMeth 294 = some me) : zyHc l (zymr r c) en me 15 1 zyΦu zyΨv := zyHc_mono (zyHc_cV (zyrefB h1 h2 h3 h4 54 (by decide) en me hen hme) (Φa := fun _ => True) rfl zyag1 zypre0 (cd := (zyS1 r c)) ⟨rfl, zyS1m⟩ rfl rfl) (fun _ _ _ _ h => ⟨trivial, h⟩) (fun _ _ _ _ _ _ _ h => h)
theorem zyletter_V (h1 : 1 ≤ r) (h2 : r ≤ 4) (h3 : 1 ≤ c) (h4 : c ≤ 5) (hen : zG zxMeta 259 = some en) (hme : zG zMeth 259 = some me) : zyHc l (zymr r c) en me 2 1 zyΦu zyΨv := zyHc_mono (zyHc_cV (zyrefB h1 h2 h3 h4 27 (by decide) en me hen hme) (Φa := fun _ => True) rfl zyag1 zypre0 (cd := 73786976071499907130) ⟨rfl, by decide⟩ rfl rfl) (fun _ _ _ _ h => ⟨trivial, h⟩) (fun _ _ _ _ _ _ _ h => h)
theorem zywished_V (h1 : 1 ≤ r) (h2 : r ≤ 4) (h3 : 1 ≤ c) (h4 : c ≤ 5) (hen : zG zxMeta 260 = some en) (hme : zG zMeth 260 = some me) : zyHc l (zymr r c) en me 2 1 zyΦu zyΨv := zyHc_mono (zyHc_cV (zyrefB h1 h2 h3 h4 28 (by decide) en me hen hme) (Φa := fun _ => True) rfl zyag1 zypre0 (cd := 73786976071499907130) ⟨rfl, by decide⟩ rfl rfl) (fun _ _ _ _ h => ⟨trivial, h⟩) (fun _ _ _ _ _ _ _ h => h)
theorem zyends_V (h1 : 1 ≤ r) (h2 : r ≤ 4) (h3 : 1 ≤ c) (h4 : c ≤ 5) (hen : zG zxMeta 255 = some en) (hme : zG zMeth 255 = some me) : zyHc l (zymr r c) en me 3 1 zyΦu zyΨv := zyHc_mono (zyHc_cV (zyrefB h1 h2 h3 h4 24 (by decide) en me hen hme) (Φa := fun _ => True) rfl zyag1 zypre0 (cd := 34359738362) ⟨rfl, by decide⟩ rfl rfl) (fun _ _ _ _ h => ⟨trivial, h⟩) (fun _ _ _ _ _ _ _ h => h)
theorem zythread_V (h1 : 1 ≤ r) (h2 : r ≤ 4) (h3 : 1 ≤ c) (h4 : c ≤ 5) (hen : zG zxMeta 257 = some en) (hme : zG zMeth 257 = some me) : zyHc l (zymr r c) en me 3 2 zyΦu zyΨv := zyHc_mono (zyHc_cV (zyrefB h1 h2 h3 h4 25 (by decide) en me hen hme) (Φa := fun _ => True) rfl zyag2 zypre0 (cd := 34359738362) ⟨rfl, by decide⟩ rfl rfl) (fun _ _ _ _ h => ⟨trivial, h⟩) (fun _ _ _ _ _ _ _ h => h)
theorem zytimes_V (h1 : 1 ≤ r) (h2 : r ≤ 4) (h3 : 1 ≤ c) (h4 : c ≤ 5) (hen : zG zxMeta 258 = some en) (hme : zG zMeth 258 = some me) : zyHc l (zymr r c) en me 10 1 zyΦu zyΨv := zyHc_mono (zyHc_cV (zyrefB h1 h2 h3 h4 26 (by decide) en me hen hme) (Φa := fun _ => True) rfl zyag1 zypre0 (cd := 73786976277658337290) ⟨rfl, by decide⟩ rfl rfl) (fun _ _ _ _ h => ⟨trivial, h⟩) (fun _ _ _ _ _ _ _ h => h)
theorem zysearch_V (h1 : 1 ≤ r) (h2 : r ≤ 4) (h3 : 1 ≤ c) (h4 : c ≤ 5) (hen : zG zxMeta 299 = some en) (hme : zG zMeth 299 = some me) : zyHc l (zymr r c) en me 11 1 zyΦu zyΨv := zyHc_mono (zyHc_cV (zyrefB h1 h2 h3 h4 55 (by decide) en me hen hme) (Φa := fun _ => True) rfl zyag1 zypre0 (cd := 73786976294838206450) ⟨rfl, by decide⟩ rfl rfl) (fun _ _ _ _ h => ⟨trivial, h⟩) (fun _ _ _ _ _ _ _ h => h)
theorem zyrefusal_V (h1 : 1 ≤ r) (h2 : r ≤ 4) (h3 : 1 ≤ c) (h4 : c ≤ 5) (hen : zG zxMeta 300 = some en) (hme : zG zMeth 300 = some me) : zyHc l (zymr r c) en me 11 3 zyΦu zyΨv := zyHc_mono (zyHc_cV (zyrefB h1 h2 h3 h4 56 (by decide) en me hen hme) (Φa := fun _ => True) rfl zyag3 zypre0 (cd := 34359738362) ⟨rfl, by decide⟩ rfl rfl) (fun _ _ _ _ h => ⟨trivial, h⟩) (fun _ _ _ _ _ _ _ h => h)
theorem zyrefused_V (h1 : 1 ≤ r) (h2 : r ≤ 4) (h3 : 1 ≤ c) (h4 : c ≤ 5) (hen : zG zxMeta 301 = some en) (hme : zG zMeth 301 = some me) : zyHc l (zymr r c) en me 11 2 zyΦu zyΨv := zyHc_mono (zyHc_cV (zyrefB h1 h2 h3 h4 57 (by decide) en me hen hme) (Φa := fun _ => True) rfl zyag2 zypre0 (cd := 34359738362) ⟨rfl, by decide⟩ rfl rfl) (fun _ _ _ _ h => ⟨trivial, h⟩) (fun _ _ _ _ _ _ _ h => h)
theorem zyseen_V (h1 : 1 ≤ r) (h2 : r ≤ 4) (h3 : 1 ≤ c) (h4 : c ≤ 5) (hen : zG zxMeta 302 = some en) (hme : zG zMeth 302 = some me) : zyHc l (zymr r c) en me 3 3 zyΦu zyΨv := zyHc_mono (zyHc_cV (zyrefB h1 h2 h3 h4 58 (by decide) en me hen hme) (Φa := fun _ => True) rfl zyag3 zypre0 (cd := 73786976277658337378) ⟨rfl, by decide⟩ rfl rfl) (fun _ _ _ _ h => ⟨trivial, h⟩) (fun _ _ _ _ _ _ _ h => h)
theorem zyforget_V (h1 : 1 ≤ r) (h2 : r ≤ 4) (h3 : 1 ≤ c) (h4 : c ≤ 5) (hen : zG zxMeta 303 = some en) (hme : zG zMeth 303 = some me) : zyHc l (zymr r c) en me 2 0 zyΦu zyΨv := zyHc_mono (zyHc_cV (zyrefB h1 h2 h3 h4 59 (by decide) en me hen hme) (Φa := fun _ => True) rfl zyag0 zypre0 (cd := 73786976312018075746) ⟨rfl, by decide⟩ rfl rfl) (fun _ _ _ _ h => ⟨trivial, h⟩) (fun _ _ _ _ _ _ _ h => h)
theorem zyname_V (h1 : 1 ≤ r) (h2 : r ≤ 4) (h3 : 1 ≤ c) (h4 : c ≤ 5) (hen : zG zxMeta 309 = some en) (hme : zG zMeth 309 = some me) : zyHc l (zymr r c) en me 15 1 zyΦu zyΨv := zyHc_mono (zyHc_cV (zyrefB h1 h2 h3 h4 62 (by decide) en me hen hme) (Φa := fun _ => True) rfl zyag1 zypre0 (cd := 34359738362) ⟨rfl, by decide⟩ rfl rfl) (fun _ _ _ _ h => ⟨trivial, h⟩) (fun _ _ _ _ _ _ _ h => h)
theorem zynamed_V (h1 : 1 ≤ r) (h2 : r ≤ 4) (h3 : 1 ≤ c) (h4 : c ≤ 5) (hen : zG zxMeta 310 = some en) (hme : zG zMeth 310 = some me) : zyHc l (zymr r c) en me 15 2 zyΦu zyΨv := zyHc_mono (zyHc_cV (zyrefB h1 h2 h3 h4 63 (by decide) en me hen hme) (Φa := fun _ => True) rfl zyag2 zypre0 (cd := 34359738362) ⟨rfl, by decide⟩ rfl rfl) (fun _ _ _ _ h => ⟨trivial, h⟩) (fun _ _ _ _ _ _ _ h => h)
theorem zybraid_V (h1 : 1 ≤ r) (h2 : r ≤ 4) (h3 : 1 ≤ c) (h4 : c ≤ 5) (hen : zG zxMeta 253 = some en) (hme : zG zMeth 253 = some me) : zyHc l (zymr r c) en me 9 1 zyΦu zyΨv := by
  refine zyHc_mono (zybraid_H h1 h2 h3 h4 hen hme) (fun xs E _ _ h => h.1) (fun xs E E2 vo _ _ h hΨ => ?_)
  obtain ⟨k1, k4⟩ := hΨ
  exact ⟨⟨zyKu_3 (zJ1_bd k1 h.1) (k1 74 33 (by omega) (by omega)) (k1 75 3 (by omega) (by omega)), k4⟩, ⟨fun k => k1 84 k (by omega) (by omega), fun k => k1 85 k (by omega) (by omega), fun k q1 q2 => k1 74 k (by omega) (by omega)⟩⟩
end YHVW
/-! print -/
theorem zyprint_V {l : Launch} {r c : Nat} {en : zEn} {me : zMe} (h1 : 1 ≤ r) (h2 : r ≤ 4) (h3 : 1 ≤ c) (h4 : c ≤ 5) (hen : zG zxMeta 338 = some en) (hme : zG zMeth 338 = some me) : zyHc l (zymr r c) en me 10 0 zyΦu zyΨv := by
  have hc := zyCon_up h1 h2 h3 h4 (zyrefG (l := l) zyJf_r 4 (by decide) en me hen hme) rfl (fun k hk => by
    cases hq : zyin (zyIg zyig 4).2.1.2.1 75 k with
    | false => rfl
    | true =>
      obtain ⟨p0, g1, g2, g3, g4⟩ := zyin_iff.mp hq
      have g1 : p0 ∈ [(74, 2, 3), (74, 47, 48), (86, 0, 899), (87, 0, 899)] := g1
      simp only [List.mem_cons, List.not_mem_nil, or_false] at g1
      rcases g1 with rfl | rfl | rfl | rfl <;> exact absurd g2 (by decide))
  exact zyHc_mono (zyHc_cV hc (Φa := fun _ => True) rfl zyag0 zypre0 (cd := 73786976277658344482) ⟨rfl, by decide⟩ rfl rfl) (fun _ _ _ _ h => ⟨trivial, h⟩) (fun _ _ _ _ _ _ _ h => h)
end
section
/-! THE REFERENCE's public methods keep the plan (printed by mlw.py) -/
def zyKw (E E2 : zyEm) : Prop := ∀ k, (k ≤ 1 ∨ k = 5 ∨ (8 ≤ k ∧ k ≤ 135) ∨ (460 ≤ k ∧ k ≤ 519)) → E2 75 k = E 75 k
def zyΨw (as : List Int32) (E E2 : zyEm) (vo : Option Value) : Prop := zyΨv as E E2 vo ∧ zyKw E E2
noncomputable def zywck (fp : zyR) : Bool := List.rec (motive := fun _ => Bool) true (fun p _ ih => zand (zif (Nat.beq p.1 75) (zif (Nat.ble 520 p.2.1) true (zif (Nat.ble p.2.2 4) (Nat.ble 2 p.2.1) (zif (Nat.ble p.2.2 7) (Nat.ble 6 p.2.1) (zif (Nat.ble p.2.2 459) (Nat.ble 136 p.2.1) false)))) true) ih) fp
theorem zywck_iff : ∀ {fp : zyR}, zywck fp = true → ∀ k, (k ≤ 1 ∨ k = 5 ∨ (8 ≤ k ∧ k ≤ 135) ∨ (460 ≤ k ∧ k ≤ 519)) → zyin fp 75 k = false := by
  intro fp h k hk
  cases hq : zyin fp 75 k with
  | false => rfl
  | true =>
    exfalso
    obtain ⟨p, hp, g1, g2, g3⟩ := zyin_iff.mp hq
    revert h
    induction fp with
    | nil => cases hp
    | cons b t ih =>
      intro h
      have h : zand (zif (Nat.beq b.1 75) (zif (Nat.ble 520 b.2.1) true (zif (Nat.ble b.2.2 4) (Nat.ble 2 b.2.1) (zif (Nat.ble b.2.2 7) (Nat.ble 6 b.2.1) (zif (Nat.ble b.2.2 459) (Nat.ble 136 b.2.1) false)))) true) (zywck t) = true := h
      obtain ⟨h1, h2⟩ := zand_iff h
      rcases List.mem_cons.mp hp with e | e
      · subst e
        rcases zif_iff h1 with ⟨-, q⟩ | ⟨n1, -⟩
        · rcases zif_iff q with ⟨q1, -⟩ | ⟨-, q⟩
          · have := zbleT q1
            omega
          rcases zif_iff q with ⟨q1, q2⟩ | ⟨-, q⟩
          · have := zbleT q1
            have := zbleT q2
            omega
          rcases zif_iff q with ⟨q1, q2⟩ | ⟨-, q⟩
          · have := zbleT q1
            have := zbleT q2
            omega
          rcases zif_iff q with ⟨q1, q2⟩ | ⟨-, q⟩
          · have := zbleT q1
            have := zbleT q2
            omega
          · cases q
        · rw [g1] at n1
          cases n1
      · refine ih (zyin_iff.mpr ⟨p, e, g1, g2, g3⟩) e h2
theorem zyKw_c {fp : zyR} {E E2 : zyEm} (h : zywck fp = true) (hf : ∀ a k, zyin fp a k = false → E2 a k = E a k) : zyKw E E2 := fun k hk => hf 75 k (zywck_iff h k hk)
theorem zyHc_cW {l : Launch} {mi : zyB} {en : zEn} {me : zMe} {ct : zyCt} (h : zyCon l mi zyJf en me ct) {dep na : Nat} {Φa : List Int32 → Prop} (hd : ct.2.2.2.1 = dep) (hargs : ∀ (B : zCx) (xs : List Int32), xs.length = na → Φa xs → zySt (zyX0 B zyJf) ct.1 (zyAr B xs)) (hpre : ∀ (B : zCx) (H : Heap) (U : State), zyMI mi B zyJ0 U H → (∃ T : Nat, T + 100 ≤ 1073741824 ∧ zyEl mi B H 75 3 = some (.int (Int32.ofNat T))) → zyPk mi B ct.2.2.2.2.1 H) {cd : Nat} (hres : ct.2.2.1 = [cd] ∧ cd % 8 ≤ 2) (hfp : zand (zif (zyin ct.2.1 75 3) false true) (zif (zyin ct.2.1 74 33) false true) = true) (hv84 : zyvck ct.2.1 = true) (hw75 : zywck ct.2.1 = true) : zyHc l mi en me dep na (fun xs E => Φa xs ∧ zyΦu xs E) zyΨw := by
  subst hd
  intro B xs hl
  refine zyMet_pt (fun a s hp => ?_)
  obtain ⟨rfl, hK, hI, hφa, hJ, hT⟩ := hp
  refine ⟨_, _, h B _ (hargs B xs hl hφa), ⟨rfl, hK, ⟨hI.1, hI.2.1, hJ, hI.2.2.2⟩, hpre B s.heap s hI hT⟩, fun o t hq => ?_⟩
  obtain ⟨vo, e1, hv, k1, k2, k3, k4, k5⟩ := hq
  rw [hres.1] at hv
  obtain ⟨f1, f2⟩ := zand_iff hfp
  have g1 : zyin ct.2.1 75 3 = false := by
    cases hq : zyin ct.2.1 75 3 with
    | false => rfl
    | true => rw [hq] at f1; cases f1
  have g2 : zyin ct.2.1 74 33 = false := by
    cases hq : zyin ct.2.1 74 33 with
    | false => rfl
    | true => rw [hq] at f2; cases f2
  exact ⟨vo, e1, k1, ⟨k2.1, k2.2.1, trivial, k2.2.2.2⟩, ⟨⟨⟨zyKu_3 k2.2.2.1 (k4 74 33 g2) (k4 75 3 g1), zyvo_z hres.2 hv⟩, zyKv_c hv84 k4⟩, zyKw_c hw75 k4⟩, k5⟩
/-- put, take: by T -/
theorem zyHc_TW {l : Launch} {r c : Nat} {en : zEn} {me : zMe} {ct1 ct2 : zyCt} (c1 : zyCon l (zymr r c) zyJ0 en me ct1) (c2 : zyCon l (zymr r c) zyJ0 en me ct2) {dep : Nat} (hd : ct1.2.2.2.1 = dep ∧ ct2.2.2.2.1 = dep) (ha : ct1.1 = [595, 34359738362] ∧ ct2.1 = [595, 34359738362]) (hpre : ct1.2.2.2.2.1 = [(1228803, 73786976363557683194)] ∧ ct2.2.2.2.2.1 = [(1228803, 17179869186)]) {cd1 cd2 : Nat} (hres : (ct1.2.2.1 = [cd1] ∧ cd1 % 8 ≤ 2) ∧ ct2.2.2.1 = [cd2] ∧ cd2 % 8 ≤ 2)
    (hf1 : ∀ a k, zyin ct1.2.1 a k = true → a = 74 ∧ 2 ≤ k ∧ k ≤ 3) (hf2 : ∀ a k, zyin ct2.2.1 a k = true → (a = 74 ∧ 2 ≤ k ∧ k ≤ 3) ∨ (a = 75 ∧ (k = 2 ∨ k = 6 ∨ (136 ≤ k ∧ k < 160) ∨ 520 ≤ k))) : zyHc l (zymr r c) en me dep 1 zyΦu zyΨw := by
  intro B xs hl
  have hA : ∀ J, zySt (zyX0 B J) [595, 34359738362] (zyAr B xs) := by
    intro J
    cases xs with
    | nil => cases hl
    | cons x t =>
      cases t with
      | cons y u => cases hl
      | nil => exact ⟨Or.inl ⟨Or.inr (Or.inr (Or.inr (Or.inl ⟨rfl, rfl⟩))), fun q => by omega, fun q => by omega⟩, zyv_bd (lo := 0) (hi := 4294967295) (Nat.zero_le _) (by have := zB_lt x; omega) (by decide), trivial⟩
  refine zyMet_pt (fun a s hp => ?_)
  obtain ⟨rfl, hK, hI, hJ, T, hT1, hT2⟩ := hp
  have hg : zG (zymr r c) (1228803 / 16384) = some (zymr75 r c) := rfl
  have hlen : 1228803 % 16384 < zyLen (zymr75 r c) := by rw [zyL75]; decide
  by_cases hz : T = 0
  · have hA2 : zySt (zyX0 B zyJ0) ct2.1 (zyAr B xs) := by rw [ha.2]; exact hA _
    have hm := c2 B (zyAr B xs) hA2
    rw [hd.2] at hm
    have hpk : zyPk (zymr r c) B ct2.2.2.2.2.1 s.heap := by
      rw [hpre.2]
      intro p hp
      rw [List.mem_singleton.mp hp]
      exact ⟨_, _, hg, hlen, hT2, by decide, zyv_bd (lo := 0) (hi := 2147483648) (Nat.zero_le _) (by rw [zyBn (by omega)]; omega) (by decide)⟩
    refine ⟨_, _, hm, ⟨rfl, hK, hI, hpk⟩, fun o t hq => ?_⟩
    · obtain ⟨vo, e1, hv, k1, k2, k3, k4, k5⟩ := hq
      rw [hres.2.1] at hv
      have nf : ∀ a k, ¬ ((a = 74 ∧ 2 ≤ k ∧ k ≤ 3) ∨ (a = 75 ∧ (k = 2 ∨ k = 6 ∨ (136 ≤ k ∧ k < 160) ∨ 520 ≤ k))) → zyEl (zymr r c) B t.heap a k = zyEl (zymr r c) B s.heap a k := by
        intro a k n
        apply k4
        cases hq : zyin ct2.2.1 a k with
        | false => rfl
        | true => exact absurd (hf2 a k hq) n
      have h3 := nf 75 3 (by omega)
      have h4 := nf 75 4 (by omega)
      have hL : zyI (zyEl (zymr r c) B s.heap) 75 4 = Int32.ofNat 0 := by
        obtain ⟨m, hm, hms⟩ := zc_m (zyTy_of hI)
        refine (hJ m hm hms).2.2 ?_
        rw [zyI_s hT2, zyOl (by omega) (by omega)]
        omega
      have kv : zyKv (zyEl (zymr r c) B s.heap) (zyEl (zymr r c) B t.heap) := ⟨fun k => nf 84 k (by omega), fun k => nf 85 k (by omega), fun k k1 k2 => nf 74 k (by omega)⟩
      have kw : zyKw (zyEl (zymr r c) B s.heap) (zyEl (zymr r c) B t.heap) := fun k hk => nf 75 k (by omega)
      refine ⟨vo, e1, k1, k2, ⟨⟨⟨zyKu_3 (fun m hm hms => ?_) (nf 74 33 (by omega)) h3, zyvo_z hres.2.2 hv⟩, kv⟩, kw⟩, k5⟩
      have hW : zWv (zyEl (zymr r c) B s.heap) := by
        obtain ⟨m, hm, hms⟩ := zc_m (zyTy_of hI)
        exact (hJ m hm hms).2.1
      have hL2 : zyI (zyEl (zymr r c) B t.heap) 75 4 = Int32.ofNat 0 := (zyI_eq h4).trans hL
      exact ⟨zLv_0 hL2, zWv_fr (nf 75 5 (by omega)) (fun k hk => nf 75 (460 + k) (by omega)) hW, fun _ => hL2⟩
  · have hA2 : zySt (zyX0 B zyJ0) ct1.1 (zyAr B xs) := by rw [ha.1]; exact hA _
    have hm := c1 B (zyAr B xs) hA2
    rw [hd.1] at hm
    have hpk : zyPk (zymr r c) B ct1.2.2.2.2.1 s.heap := by
      rw [hpre.1]
      intro p hp
      rw [List.mem_singleton.mp hp]
      exact ⟨_, _, hg, hlen, hT2, by decide, zyv_bd (lo := 2147483649) (hi := 4294967295) (by rw [zyBn (by omega)]; omega) (by have := zB_lt (Int32.ofNat T); omega) (by decide)⟩
    refine ⟨_, _, hm, ⟨rfl, hK, hI, hpk⟩, fun o t hq => ?_⟩
    · obtain ⟨vo, e1, hv, k1, k2, k3, k4, k5⟩ := hq
      rw [hres.1.1] at hv
      have nf : ∀ a k, ¬ (a = 74 ∧ 2 ≤ k ∧ k ≤ 3) → zyEl (zymr r c) B t.heap a k = zyEl (zymr r c) B s.heap a k := by
        intro a k n
        apply k4
        cases hq : zyin ct1.2.1 a k with
        | false => rfl
        | true => exact absurd (hf1 a k hq) n
      have kv : zyKv (zyEl (zymr r c) B s.heap) (zyEl (zymr r c) B t.heap) := ⟨fun k => nf 84 k (by omega), fun k => nf 85 k (by omega), fun k k1 k2 => nf 74 k (by omega)⟩
      have kw : zyKw (zyEl (zymr r c) B s.heap) (zyEl (zymr r c) B t.heap) := fun k hk => nf 75 k (by omega)
      exact ⟨vo, e1, k1, k2, ⟨⟨⟨zyKu_3 (zJ1_fr (fun k _ => nf 75 k (by omega)) hJ) (nf 74 33 (by omega)) (nf 75 3 (by omega)), zyvo_z hres.1.2 hv⟩, kv⟩, kw⟩, k5⟩

section YHG2
variable {l : Launch} {r c : Nat} {en : zEn} {me : zMe}
theorem zyput_W (h1 : 1 ≤ r) (h2 : r ≤ 4) (h3 : 1 ≤ c) (h4 : c ≤ 5) (hen : zG zxMeta 275 = some en) (hme : zG zMeth 275 = some me) : zyHc l (zymr r c) en me 9 1 zyΦu zyΨw := by
  refine zyHc_TW (zyqA h1 h2 h3 h4 1 (by decide) en me hen hme) (zyqA h1 h2 h3 h4 2 (by decide) en me hen hme) ⟨rfl, rfl⟩ ⟨rfl, rfl⟩ ⟨rfl, rfl⟩ (cd1 := 34359738360) (cd2 := 73786976277658337338) ⟨⟨rfl, by decide⟩, rfl, by decide⟩ ?_ ?_
  · intro a k h
    obtain ⟨p0, g1, g2, g3, g4⟩ := zyin_iff.mp h
    have g1 : p0 ∈ [(74, 2, 3)] := g1
    simp only [List.mem_cons, List.not_mem_nil, or_false] at g1
    rcases g1 with rfl <;> dsimp only at g2 g3 g4 <;> omega
  · intro a k h
    obtain ⟨p0, g1, g2, g3, g4⟩ := zyin_iff.mp h
    have g1 : p0 ∈ [(74, 2, 3), (75, 2, 2), (75, 136, 159)] := g1
    simp only [List.mem_cons, List.not_mem_nil, or_false] at g1
    rcases g1 with rfl | rfl | rfl <;> dsimp only at g2 g3 g4 <;> omega
theorem zytake_W (h1 : 1 ≤ r) (h2 : r ≤ 4) (h3 : 1 ≤ c) (h4 : c ≤ 5) (hen : zG zxMeta 276 = some en) (hme : zG zMeth 276 = some me) : zyHc l (zymr r c) en me 3 1 zyΦu zyΨw := by
  refine zyHc_TW (zyqA h1 h2 h3 h4 3 (by decide) en me hen hme) (zyqA h1 h2 h3 h4 4 (by decide) en me hen hme) ⟨rfl, rfl⟩ ⟨rfl, rfl⟩ ⟨rfl, rfl⟩ (cd1 := 34359738360) (cd2 := 73786976277658337338) ⟨⟨rfl, by decide⟩, rfl, by decide⟩ ?_ ?_
  · intro a k h
    obtain ⟨p0, g1, g2, g3, g4⟩ := zyin_iff.mp h
    have g1 : p0 ∈ [(74, 2, 3)] := g1
    simp only [List.mem_cons, List.not_mem_nil, or_false] at g1
    rcases g1 with rfl <;> dsimp only at g2 g3 g4 <;> omega
  · intro a k h
    obtain ⟨p0, g1, g2, g3, g4⟩ := zyin_iff.mp h
    have g1 : p0 ∈ [(74, 2, 3), (75, 2, 2), (75, 6, 6), (75, 136, 142), (75, 144, 150), (75, 152, 158), (75, 520, 555)] := g1
    simp only [List.mem_cons, List.not_mem_nil, or_false] at g1
    rcases g1 with rfl | rfl | rfl | rfl | rfl | rfl | rfl <;> dsimp only at g2 g3 g4 <;> omega
theorem zystep_W (h1 : 1 ≤ r) (h2 : r ≤ 4) (h3 : 1 ≤ c) (h4 : c ≤ 5) (hen : zG zxMeta 279 = some en) (hme : zG zMeth 279 = some me) : zyHc l (zymr r c) en me 8 1 zyΦu zyΨw := by
  refine zyHc_mono (zystep_H h1 h2 h3 h4 hen hme) (fun xs E _ _ h => h) (fun xs E E2 vo _ _ h hΨ => ?_)
  obtain ⟨k1, k2, k3, k4⟩ := hΨ
  refine ⟨⟨⟨⟨k1, k2 74 33 (by omega) (by omega) (by omega), fun T hT e => ?_⟩, k3⟩, ⟨fun k => k2 84 k (by omega) (by omega) (by omega), fun k => k2 85 k (by omega) (by omega) (by omega), fun k q1 q2 => k2 74 k (by omega) (by omega) (by omega)⟩⟩, fun k hk => k2 75 k (by omega) (by omega) (by omega)⟩
  obtain ⟨T', -, q2, q3⟩ := k4 T hT e
  exact ⟨T', q2, q3⟩
theorem zyreset_W (h1 : 1 ≤ r) (h2 : r ≤ 4) (h3 : 1 ≤ c) (h4 : c ≤ 5) (hen : zG zxMeta 280 = some en) (hme : zG zMeth 280 = some me) : zyHc l (zymr r c) en me 8 0 zyΦu zyΨw := by
  refine zyHc_mono (zyreset_H h1 h2 h3 h4 hen hme) (fun xs E _ _ h => h.1) (fun xs E E2 vo _ _ h hΨ => ?_)
  obtain ⟨k1, k2, k3, k4⟩ := hΨ
  exact ⟨⟨⟨⟨k1, k2 74 33 (by omega) (by omega) (by omega), fun T hT e => ⟨0, by omega, k3⟩⟩, k4⟩, ⟨fun k => k2 84 k (by omega) (by omega) (by omega), fun k => k2 85 k (by omega) (by omega) (by omega), fun k q1 q2 => k2 74 k (by omega) (by omega) (by omega)⟩⟩, fun k hk => k2 75 k (by omega) (by omega) (by omega)⟩
theorem zycut_W (h1 : 1 ≤ r) (h2 : r ≤ 4) (h3 : 1 ≤ c) (h4 : c ≤ 5) (hen : zG zxMeta 281 = some en) (hme : zG zMeth 281 = some me) : zyHc l (zymr r c) en me 8 0 zyΦu zyΨw := by
  refine zyHc_mono (zycut_H h1 h2 h3 h4 hen hme) (fun xs E _ _ h => h.1) (fun xs E E2 vo _ _ h hΨ => ?_)
  obtain ⟨k1, k2, k4⟩ := hΨ
  exact ⟨⟨⟨zyKu_3 k1 (k2 74 33 (by omega) (by omega)) (k2 75 3 (by omega) (by omega)), k4⟩, ⟨fun k => k2 84 k (by omega) (by omega), fun k => k2 85 k (by omega) (by omega), fun k q1 q2 => k2 74 k (by omega) (by omega)⟩⟩, fun k hk => k2 75 k (by omega) (by omega)⟩
theorem zypair_W (h1 : 1 ≤ r) (h2 : r ≤ 4) (h3 : 1 ≤ c) (h4 : c ≤ 5) (hen : zG zxMeta 256 = some en) (hme : zG zMeth 256 = some me) : zyHc l (zymr r c) en me 4 2 zyΦu zyΨw := by
  refine zyHc_mono (zypair_H h1 h2 h3 h4 hen hme) (fun xs E _ _ h => h.1) (fun xs E E2 vo _ _ h hΨ => ?_)
  obtain ⟨k1, k4⟩ := hΨ
  exact ⟨⟨⟨zyKu_3 (zJ1_fr (fun k _ => k1 75 k (by omega) (by omega)) h.1) (k1 74 33 (by omega) (by omega)) (k1 75 3 (by omega) (by omega)), k4⟩, ⟨fun k => k1 84 k (by omega) (by omega), fun k => k1 85 k (by omega) (by omega), fun k q1 q2 => k1 74 k (by omega) (by omega)⟩⟩, fun k hk => k1 75 k (by omega) (by omega)⟩
end YHG2
section YHGW
variable {l : Launch} {r c : Nat} {en : zEn} {me : zMe}
theorem zystatus_W (h1 : 1 ≤ r) (h2 : r ≤ 4) (h3 : 1 ≤ c) (h4 : c ≤ 5) (hen : zG zxMeta 189 = some en) (hme : zG zMeth 189 = some me) : zyHc l (zymr r c) en me 1 0 zyΦu zyΨw := zyHc_mono (zyHc_cW (zyrefB h1 h2 h3 h4 23 (by decide) en me hen hme) (Φa := fun _ => True) rfl zyag0 zypre0 (cd := 73786976312018075722) ⟨rfl, by decide⟩ rfl rfl rfl) (fun _ _ _ _ h => ⟨trivial, h⟩) (fun _ _ _ _ _ _ _ h => h)
theorem zyfault_W (h1 : 1 ≤ r) (h2 : r ≤ 4) (h3 : 1 ≤ c) (h4 : c ≤ 5) (hen : zG zxMeta 330 = some en) (hme : zG zMeth 330 = some me) : zyHc l (zymr r c) en me 1 1 zyΦu zyΨw := zyHc_mono (zyHc_cW (zyrefB h1 h2 h3 h4 64 (by decide) en me hen hme) (Φa := fun _ => True) rfl zyag1 zypre0 (cd := 34359738362) ⟨rfl, by decide⟩ rfl rfl rfl) (fun _ _ _ _ h => ⟨trivial, h⟩) (fun _ _ _ _ _ _ _ h => h)
theorem zymany_W (h1 : 1 ≤ r) (h2 : r ≤ 4) (h3 : 1 ≤ c) (h4 : c ≤ 5) (hen : zG zxMeta 262 = some en) (hme : zG zMeth 262 = some me) : zyHc l (zymr r c) en me 14 1 zyΦu zyΨw := zyHc_mono (zyHc_cW (zyrefB h1 h2 h3 h4 29 (by decide) en me hen hme) (Φa := fun _ => True) rfl zyag1 zypre0 (cd := 34359738362) ⟨rfl, by decide⟩ rfl rfl rfl) (fun _ _ _ _ h => ⟨trivial, h⟩) (fun _ _ _ _ _ _ _ h => h)
theorem zygate_W (h1 : 1 ≤ r) (h2 : r ≤ 4) (h3 : 1 ≤ c) (h4 : c ≤ 5) (hen : zG zxMeta 263 = some en) (hme : zG zMeth 263 = some me) : zyHc l (zymr r c) en me 5 2 zyΦu zyΨw := zyHc_mono (zyHc_cW (zyrefB h1 h2 h3 h4 30 (by decide) en me hen hme) (Φa := fun _ => True) rfl zyag2 zypre0 (cd := 73786976277658337914) ⟨rfl, by decide⟩ rfl rfl rfl) (fun _ _ _ _ h => ⟨trivial, h⟩) (fun _ _ _ _ _ _ _ h => h)
theorem zybit_W (h1 : 1 ≤ r) (h2 : r ≤ 4) (h3 : 1 ≤ c) (h4 : c ≤ 5) (hen : zG zxMeta 264 = some en) (hme : zG zMeth 264 = some me) : zyHc l (zymr r c) en me 4 2 zyΦu zyΨw := zyHc_mono (zyHc_cW (zyrefB h1 h2 h3 h4 31 (by decide) en me hen hme) (Φa := fun _ => True) rfl zyag2 zypre0 (cd := 73786976277658337290) ⟨rfl, by decide⟩ rfl rfl rfl) (fun _ _ _ _ h => ⟨trivial, h⟩) (fun _ _ _ _ _ _ _ h => h)
theorem zybobbin_W (h1 : 1 ≤ r) (h2 : r ≤ 4) (h3 : 1 ≤ c) (h4 : c ≤ 5) (hen : zG zxMeta 266 = some en) (hme : zG zMeth 266 = some me) : zyHc l (zymr r c) en me 7 2 zyΦu zyΨw := zyHc_mono (zyHc_cW (zyrefB h1 h2 h3 h4 36 (by decide) en me hen hme) (Φa := fun _ => True) rfl zyag2 zypre0 (cd := 34359738362) ⟨rfl, by decide⟩ rfl rfl rfl) (fun _ _ _ _ h => ⟨trivial, h⟩) (fun _ _ _ _ _ _ _ h => h)
theorem zyat_W (h1 : 1 ≤ r) (h2 : r ≤ 4) (h3 : 1 ≤ c) (h4 : c ≤ 5) (hen : zG zxMeta 268 = some en) (hme : zG zMeth 268 = some me) : zyHc l (zymr r c) en me 3 1 zyΦu zyΨw := zyHc_mono (zyHc_cW (zyrefB h1 h2 h3 h4 38 (by decide) en me hen hme) (Φa := fun _ => True) rfl zyag1 zypre0 (cd := 73786976277658337338) ⟨rfl, by decide⟩ rfl rfl rfl) (fun _ _ _ _ h => ⟨trivial, h⟩) (fun _ _ _ _ _ _ _ h => h)
theorem zyfaces_W (h1 : 1 ≤ r) (h2 : r ≤ 4) (h3 : 1 ≤ c) (h4 : c ≤ 5) (hen : zG zxMeta 269 = some en) (hme : zG zMeth 269 = some me) : zyHc l (zymr r c) en me 7 1 zyΦu zyΨw := zyHc_mono (zyHc_cW (zyrefB h1 h2 h3 h4 39 (by decide) en me hen hme) (Φa := fun _ => True) rfl zyag1 zypre0 (cd := (zyS1 r c)) ⟨rfl, zyS1m⟩ rfl rfl rfl) (fun _ _ _ _ h => ⟨trivial, h⟩) (fun _ _ _ _ _ _ _ h => h)
theorem zywish_W (h1 : 1 ≤ r) (h2 : r ≤ 4) (h3 : 1 ≤ c) (h4 : c ≤ 5) (hen : zG zxMeta 277 = some en) (hme : zG zMeth 277 = some me) : zyHc l (zymr r c) en me 3 2 zyΦu zyΨw := zyHc_mono (zyHc_cW (zyrefB h1 h2 h3 h4 43 (by decide) en me hen hme) (Φa := fun _ => True) rfl zyag2 zypre0 (cd := (zyS1 r c)) ⟨rfl, zyS1m⟩ rfl rfl rfl) (fun _ _ _ _ h => ⟨trivial, h⟩) (fun _ _ _ _ _ _ _ h => h)
theorem zyout_W (h1 : 1 ≤ r) (h2 : r ≤ 4) (h3 : 1 ≤ c) (h4 : c ≤ 5) (hen : zG zxMeta 339 = some en) (hme : zG zMeth 339 = some me) : zyHc l (zymr r c) en me 2 1 zyΦu zyΨw := zyHc_mono (zyHc_cW (zyrefB h1 h2 h3 h4 65 (by decide) en me hen hme) (Φa := fun _ => True) rfl zyag1 zypre0 (cd := 34359738362) ⟨rfl, by decide⟩ rfl rfl rfl) (fun _ _ _ _ h => ⟨trivial, h⟩) (fun _ _ _ _ _ _ _ h => h)
theorem zymap_W (h1 : 1 ≤ r) (h2 : r ≤ 4) (h3 : 1 ≤ c) (h4 : c ≤ 5) (hen : zG zxMeta 282 = some en) (hme : zG zMeth 282 = some me) : zyHc l (zymr r c) en me 9 2 zyΦu zyΨw := zyHc_mono (zyHc_cW (zyrefB h1 h2 h3 h4 44 (by decide) en me hen hme) (Φa := fun _ => True) rfl zyag2 zypre0 (cd := (zyS1 r c)) ⟨rfl, zyS1m⟩ rfl rfl rfl) (fun _ _ _ _ h => ⟨trivial, h⟩) (fun _ _ _ _ _ _ _ h => h)
theorem zyride_W (h1 : 1 ≤ r) (h2 : r ≤ 4) (h3 : 1 ≤ c) (h4 : c ≤ 5) (hen : zG zxMeta 283 = some en) (hme : zG zMeth 283 = some me) : zyHc l (zymr r c) en me 9 3 zyΦu zyΨw := zyHc_mono (zyHc_cW (zyrefB h1 h2 h3 h4 45 (by decide) en me hen hme) (Φa := fun _ => True) rfl zyag3 zypre0 (cd := (zyS1 r c)) ⟨rfl, zyS1m⟩ rfl rfl rfl) (fun _ _ _ _ h => ⟨trivial, h⟩) (fun _ _ _ _ _ _ _ h => h)
theorem zyround_W (h1 : 1 ≤ r) (h2 : r ≤ 4) (h3 : 1 ≤ c) (h4 : c ≤ 5) (hen : zG zxMeta 284 = some en) (hme : zG zMeth 284 = some me) : zyHc l (zymr r c) en me 15 1 zyΦu zyΨw := zyHc_mono (zyHc_cW (zyrefB h1 h2 h3 h4 46 (by decide) en me hen hme) (Φa := fun _ => True) rfl zyag1 zypre0 (cd := (zyS1 r c)) ⟨rfl, zyS1m⟩ rfl rfl rfl) (fun _ _ _ _ h => ⟨trivial, h⟩) (fun _ _ _ _ _ _ _ h => h)
theorem zytrack_W (h1 : 1 ≤ r) (h2 : r ≤ 4) (h3 : 1 ≤ c) (h4 : c ≤ 5) (hen : zG zxMeta 287 = some en) (hme : zG zMeth 287 = some me) : zyHc l (zymr r c) en me 18 2 zyΦu zyΨw := zyHc_mono (zyHc_cW (zyrefB h1 h2 h3 h4 48 (by decide) en me hen hme) (Φa := fun _ => True) rfl zyag2 zypre0 (cd := 34359738362) ⟨rfl, by decide⟩ rfl rfl rfl) (fun _ _ _ _ h => ⟨trivial, h⟩) (fun _ _ _ _ _ _ _ h => h)
theorem zytracks_W (h1 : 1 ≤ r) (h2 : r ≤ 4) (h3 : 1 ≤ c) (h4 : c ≤ 5) (hen : zG zxMeta 288 = some en) (hme : zG zMeth 288 = some me) : zyHc l (zymr r c) en me 92 1 zyΦu zyΨw := zyHc_mono (zyHc_cW (zyrefB h1 h2 h3 h4 49 (by decide) en me hen hme) (Φa := fun _ => True) rfl zyag1 zypre0 (cd := 34359738362) ⟨rfl, by decide⟩ rfl rfl rfl) (fun _ _ _ _ h => ⟨trivial, h⟩) (fun _ _ _ _ _ _ _ h => h)
theorem zyofLength_W (h1 : 1 ≤ r) (h2 : r ≤ 4) (h3 : 1 ≤ c) (h4 : c ≤ 5) (hen : zG zxMeta 289 = some en) (hme : zG zMeth 289 = some me) : zyHc l (zymr r c) en me 16 1 zyΦu zyΨw := zyHc_mono (zyHc_cW (zyrefB h1 h2 h3 h4 50 (by decide) en me hen hme) (Φa := fun _ => True) rfl zyag1 zypre0 (cd := 34359738362) ⟨rfl, by decide⟩ rfl rfl rfl) (fun _ _ _ _ h => ⟨trivial, h⟩) (fun _ _ _ _ _ _ _ h => h)
theorem zymeets_W (h1 : 1 ≤ r) (h2 : r ≤ 4) (h3 : 1 ≤ c) (h4 : c ≤ 5) (hen : zG zxMeta 291 = some en) (hme : zG zMeth 291 = some me) : zyHc l (zymr r c) en me 15 3 zyΦu zyΨw := zyHc_mono (zyHc_cW (zyrefB h1 h2 h3 h4 51 (by decide) en me hen hme) (Φa := fun _ => True) rfl zyag3 zypre0 (cd := 34359738362) ⟨rfl, by decide⟩ rfl rfl rfl) (fun _ _ _ _ h => ⟨trivial, h⟩) (fun _ _ _ _ _ _ _ h => h)
theorem zycrash_W (h1 : 1 ≤ r) (h2 : r ≤ 4) (h3 : 1 ≤ c) (h4 : c ≤ 5) (hen : zG zxMeta 292 = some en) (hme : zG zMeth 292 = some me) : zyHc l (zymr r c) en me 15 1 zyΦu zyΨw := zyHc_mono (zyHc_cW (zyrefB h1 h2 h3 h4 52 (by decide) en me hen hme) (Φa := fun _ => True) rfl zyag1 zypreT (cd := 34359738362) ⟨rfl, by decide⟩ rfl rfl rfl) (fun _ _ _ _ h => ⟨trivial, h⟩) (fun _ _ _ _ _ _ _ h => h)
theorem zyrepeat_W (h1 : 1 ≤ r) (h2 : r ≤ 4) (h3 : 1 ≤ c) (h4 : c ≤ 5) (hen : zG zxMeta 293 = some en) (hme : zG zMeth 293 = some me) : zyHc l (zymr r c) en me 92 0 zyΦu zyΨw := zyHc_mono (zyHc_cW (zyrefB h1 h2 h3 h4 53 (by decide) en me hen hme) (Φa := fun _ => True) rfl zyag0 zypreT (cd := 34359738362) ⟨rfl, by decide⟩ rfl rfl rfl) (fun _ _ _ _ h => ⟨trivial, h⟩) (fun _ _ _ _ _ _ _ h => h)
theorem zylaid_W (h1 : 1 ≤ r) (h2 : r ≤ 4) (h3 : 1 ≤ c) (h4 : c ≤ 5) (hen : zG zxMeta 294 = some en) (hme : zG zMeth 294 = some me) : zyHc l (zymr r c) en me 15 1 zyΦu zyΨw := zyHc_mono (zyHc_cW (zyrefB h1 h2 h3 h4 54 (by decide) en me hen hme) (Φa := fun _ => True) rfl zyag1 zypre0 (cd := (zyS1 r c)) ⟨rfl, zyS1m⟩ rfl rfl rfl) (fun _ _ _ _ h => ⟨trivial, h⟩) (fun _ _ _ _ _ _ _ h => h)
theorem zyletter_W (h1 : 1 ≤ r) (h2 : r ≤ 4) (h3 : 1 ≤ c) (h4 : c ≤ 5) (hen : zG zxMeta 259 = some en) (hme : zG zMeth 259 = some me) : zyHc l (zymr r c) en me 2 1 zyΦu zyΨw := zyHc_mono (zyHc_cW (zyrefB h1 h2 h3 h4 27 (by decide) en me hen hme) (Φa := fun _ => True) rfl zyag1 zypre0 (cd := 73786976071499907130) ⟨rfl, by decide⟩ rfl rfl rfl) (fun _ _ _ _ h => ⟨trivial, h⟩) (fun _ _ _ _ _ _ _ h => h)
theorem zywished_W (h1 : 1 ≤ r) (h2 : r ≤ 4) (h3 : 1 ≤ c) (h4 : c ≤ 5) (hen : zG zxMeta 260 = some en) (hme : zG zMeth 260 = some me) : zyHc l (zymr r c) en me 2 1 zyΦu zyΨw := zyHc_mono (zyHc_cW (zyrefB h1 h2 h3 h4 28 (by decide) en me hen hme) (Φa := fun _ => True) rfl zyag1 zypre0 (cd := 73786976071499907130) ⟨rfl, by decide⟩ rfl rfl rfl) (fun _ _ _ _ h => ⟨trivial, h⟩) (fun _ _ _ _ _ _ _ h => h)
theorem zyends_W (h1 : 1 ≤ r) (h2 : r ≤ 4) (h3 : 1 ≤ c) (h4 : c ≤ 5) (hen : zG zxMeta 255 = some en) (hme : zG zMeth 255 = some me) : zyHc l (zymr r c) en me 3 1 zyΦu zyΨw := zyHc_mono (zyHc_cW (zyrefB h1 h2 h3 h4 24 (by decide) en me hen hme) (Φa := fun _ => True) rfl zyag1 zypre0 (cd := 34359738362) ⟨rfl, by decide⟩ rfl rfl rfl) (fun _ _ _ _ h => ⟨trivial, h⟩) (fun _ _ _ _ _ _ _ h => h)
theorem zythread_W (h1 : 1 ≤ r) (h2 : r ≤ 4) (h3 : 1 ≤ c) (h4 : c ≤ 5) (hen : zG zxMeta 257 = some en) (hme : zG zMeth 257 = some me) : zyHc l (zymr r c) en me 3 2 zyΦu zyΨw := zyHc_mono (zyHc_cW (zyrefB h1 h2 h3 h4 25 (by decide) en me hen hme) (Φa := fun _ => True) rfl zyag2 zypre0 (cd := 34359738362) ⟨rfl, by decide⟩ rfl rfl rfl) (fun _ _ _ _ h => ⟨trivial, h⟩) (fun _ _ _ _ _ _ _ h => h)
theorem zytimes_W (h1 : 1 ≤ r) (h2 : r ≤ 4) (h3 : 1 ≤ c) (h4 : c ≤ 5) (hen : zG zxMeta 258 = some en) (hme : zG zMeth 258 = some me) : zyHc l (zymr r c) en me 10 1 zyΦu zyΨw := zyHc_mono (zyHc_cW (zyrefB h1 h2 h3 h4 26 (by decide) en me hen hme) (Φa := fun _ => True) rfl zyag1 zypre0 (cd := 73786976277658337290) ⟨rfl, by decide⟩ rfl rfl rfl) (fun _ _ _ _ h => ⟨trivial, h⟩) (fun _ _ _ _ _ _ _ h => h)
theorem zysearch_W (h1 : 1 ≤ r) (h2 : r ≤ 4) (h3 : 1 ≤ c) (h4 : c ≤ 5) (hen : zG zxMeta 299 = some en) (hme : zG zMeth 299 = some me) : zyHc l (zymr r c) en me 11 1 zyΦu zyΨw := zyHc_mono (zyHc_cW (zyrefB h1 h2 h3 h4 55 (by decide) en me hen hme) (Φa := fun _ => True) rfl zyag1 zypre0 (cd := 73786976294838206450) ⟨rfl, by decide⟩ rfl rfl rfl) (fun _ _ _ _ h => ⟨trivial, h⟩) (fun _ _ _ _ _ _ _ h => h)
theorem zyrefusal_W (h1 : 1 ≤ r) (h2 : r ≤ 4) (h3 : 1 ≤ c) (h4 : c ≤ 5) (hen : zG zxMeta 300 = some en) (hme : zG zMeth 300 = some me) : zyHc l (zymr r c) en me 11 3 zyΦu zyΨw := zyHc_mono (zyHc_cW (zyrefB h1 h2 h3 h4 56 (by decide) en me hen hme) (Φa := fun _ => True) rfl zyag3 zypre0 (cd := 34359738362) ⟨rfl, by decide⟩ rfl rfl rfl) (fun _ _ _ _ h => ⟨trivial, h⟩) (fun _ _ _ _ _ _ _ h => h)
theorem zyrefused_W (h1 : 1 ≤ r) (h2 : r ≤ 4) (h3 : 1 ≤ c) (h4 : c ≤ 5) (hen : zG zxMeta 301 = some en) (hme : zG zMeth 301 = some me) : zyHc l (zymr r c) en me 11 2 zyΦu zyΨw := zyHc_mono (zyHc_cW (zyrefB h1 h2 h3 h4 57 (by decide) en me hen hme) (Φa := fun _ => True) rfl zyag2 zypre0 (cd := 34359738362) ⟨rfl, by decide⟩ rfl rfl rfl) (fun _ _ _ _ h => ⟨trivial, h⟩) (fun _ _ _ _ _ _ _ h => h)
theorem zyseen_W (h1 : 1 ≤ r) (h2 : r ≤ 4) (h3 : 1 ≤ c) (h4 : c ≤ 5) (hen : zG zxMeta 302 = some en) (hme : zG zMeth 302 = some me) : zyHc l (zymr r c) en me 3 3 zyΦu zyΨw := zyHc_mono (zyHc_cW (zyrefB h1 h2 h3 h4 58 (by decide) en me hen hme) (Φa := fun _ => True) rfl zyag3 zypre0 (cd := 73786976277658337378) ⟨rfl, by decide⟩ rfl rfl rfl) (fun _ _ _ _ h => ⟨trivial, h⟩) (fun _ _ _ _ _ _ _ h => h)
theorem zyforget_W (h1 : 1 ≤ r) (h2 : r ≤ 4) (h3 : 1 ≤ c) (h4 : c ≤ 5) (hen : zG zxMeta 303 = some en) (hme : zG zMeth 303 = some me) : zyHc l (zymr r c) en me 2 0 zyΦu zyΨw := zyHc_mono (zyHc_cW (zyrefB h1 h2 h3 h4 59 (by decide) en me hen hme) (Φa := fun _ => True) rfl zyag0 zypre0 (cd := 73786976312018075746) ⟨rfl, by decide⟩ rfl rfl rfl) (fun _ _ _ _ h => ⟨trivial, h⟩) (fun _ _ _ _ _ _ _ h => h)
theorem zyname_W (h1 : 1 ≤ r) (h2 : r ≤ 4) (h3 : 1 ≤ c) (h4 : c ≤ 5) (hen : zG zxMeta 309 = some en) (hme : zG zMeth 309 = some me) : zyHc l (zymr r c) en me 15 1 zyΦu zyΨw := zyHc_mono (zyHc_cW (zyrefB h1 h2 h3 h4 62 (by decide) en me hen hme) (Φa := fun _ => True) rfl zyag1 zypre0 (cd := 34359738362) ⟨rfl, by decide⟩ rfl rfl rfl) (fun _ _ _ _ h => ⟨trivial, h⟩) (fun _ _ _ _ _ _ _ h => h)
theorem zynamed_W (h1 : 1 ≤ r) (h2 : r ≤ 4) (h3 : 1 ≤ c) (h4 : c ≤ 5) (hen : zG zxMeta 310 = some en) (hme : zG zMeth 310 = some me) : zyHc l (zymr r c) en me 15 2 zyΦu zyΨw := zyHc_mono (zyHc_cW (zyrefB h1 h2 h3 h4 63 (by decide) en me hen hme) (Φa := fun _ => True) rfl zyag2 zypre0 (cd := 34359738362) ⟨rfl, by decide⟩ rfl rfl rfl) (fun _ _ _ _ h => ⟨trivial, h⟩) (fun _ _ _ _ _ _ _ h => h)
theorem zybraid_W (h1 : 1 ≤ r) (h2 : r ≤ 4) (h3 : 1 ≤ c) (h4 : c ≤ 5) (hen : zG zxMeta 253 = some en) (hme : zG zMeth 253 = some me) : zyHc l (zymr r c) en me 9 1 zyΦu zyΨw := by
  refine zyHc_mono (zybraid_H h1 h2 h3 h4 hen hme) (fun xs E _ _ h => h.1) (fun xs E E2 vo _ _ h hΨ => ?_)
  obtain ⟨k1, k4⟩ := hΨ
  exact ⟨⟨⟨zyKu_3 (zJ1_bd k1 h.1) (k1 74 33 (by omega) (by omega)) (k1 75 3 (by omega) (by omega)), k4⟩, ⟨fun k => k1 84 k (by omega) (by omega), fun k => k1 85 k (by omega) (by omega), fun k q1 q2 => k1 74 k (by omega) (by omega)⟩⟩, fun k hk => k1 75 k (by omega) (by omega)⟩
end YHGW
/-! print -/
theorem zyprint_W {l : Launch} {r c : Nat} {en : zEn} {me : zMe} (h1 : 1 ≤ r) (h2 : r ≤ 4) (h3 : 1 ≤ c) (h4 : c ≤ 5) (hen : zG zxMeta 338 = some en) (hme : zG zMeth 338 = some me) : zyHc l (zymr r c) en me 10 0 zyΦu zyΨw := by
  have hc := zyCon_up h1 h2 h3 h4 (zyrefG (l := l) zyJf_r 4 (by decide) en me hen hme) rfl (fun k hk => by
    cases hq : zyin (zyIg zyig 4).2.1.2.1 75 k with
    | false => rfl
    | true =>
      obtain ⟨p0, g1, g2, g3, g4⟩ := zyin_iff.mp hq
      have g1 : p0 ∈ [(74, 2, 3), (74, 47, 48), (86, 0, 899), (87, 0, 899)] := g1
      simp only [List.mem_cons, List.not_mem_nil, or_false] at g1
      rcases g1 with rfl | rfl | rfl | rfl <;> exact absurd g2 (by decide))
  exact zyHc_mono (zyHc_cW hc (Φa := fun _ => True) rfl zyag0 zypre0 (cd := 73786976277658344482) ⟨rfl, by decide⟩ rfl rfl rfl) (fun _ _ _ _ h => ⟨trivial, h⟩) (fun _ _ _ _ _ _ _ h => h)
end
