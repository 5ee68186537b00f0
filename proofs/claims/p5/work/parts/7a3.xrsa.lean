/-! THE REFERENCE loads (printed by m29.py) -/
noncomputable def zxflr_zx0 : zyXp := (0, [595, 34359738369, 13], [], [], [], [])
noncomputable def zpflr_z : zyPh := (0, [595, 34359738369, 13], [(0, 4294967295), (0, 4294967295), (0, 4294967295)], [], [])
noncomputable def zxflr_ax0 : zyXp := (28, [595, 34359738369, 0], [], [(21, 0, 34359738369, 0), (21, 0, 103079215105, 34359738369)], [(34359738369, 2147483648, 2147484548), (103079215105, 2147483648, 2147484548)], [(1212418, 0)])
noncomputable def zxflr_ar0 : zyXp := (0, [], [34359738360], [(20, 0, 34359738369, 0)], [(34359738369, 0, 2147483647)], [(1212418, 8)])
noncomputable def zxflr_ar1 : zyXp := (0, [], [34359738360], [(21, 0, 34359738369, 0), (20, 0, 103079215105, 34359738369)], [(34359738369, 2147483649, 4294967295), (103079215105, 2147483648, 2147484548)], [(1212418, 8)])
noncomputable def zpflr_a : zyPh := (0, [595, 34359738369, 13], [(0, 4294967295), (0, 4294967295), (0, 4294967295), (2147483648, 2147484548)], [(1212449, 103079215105)], [])
noncomputable def zxflr_hx0 : zyXp := (46, [595, 34359738369, 68719476737], [103079215105, 68719476737, 611], [(20, 0, 68719476737, 4448), (24, 103079215105, 75, 68719476737)], [(34359738369, 2147483648, 2147484548), (68719476737, 2147483648, 2147484203)], [])
noncomputable def zxflr_hx1 : zyXp := (69, [595, 13, 13], [595], [(21, 0, 68719476737, 4448)], [(34359738369, 2147483648, 2147484548), (68719476737, 2147484204, 2147484204)], [(1212452, 0), (1212455, 0), (1212458, 34359738369)])
noncomputable def zpflr_h : zyPh := (28, [595, 34359738369, 68719476737], [(0, 4294967295), (2147483648, 2147484548), (2147483648, 2147484204)], [], [])
noncomputable def zxflr_ix0 : zyXp := (28, [595, 34359738369, 68719476745], [], [], [(34359738369, 2147483648, 2147484548), (68719476737, 2147483648, 2147484203), (68719476745, 2147483649, 2147484204)], [])
noncomputable def zpflr_i : zyPh := (47, [595, 34359738369, 68719476737], [(0, 4294967295), (2147483648, 2147484548), (2147483648, 2147484203)], [], [])
noncomputable def zxflr_jx0 : zyXp := (73, [595, 13, 13], [595], [], [], [])
noncomputable def zpflr_j : zyPh := (72, [595, 13, 13], [(0, 4294967295), (0, 4294967295), (0, 4294967295)], [], [])
noncomputable def zxflr_mx0 : zyXp := (139, [595, 13, 0], [], [(20, 0, 0, 103079215105), (20, 0, 0, 103079215105), (23, 0, 103079215105, 0)], [(103079215105, 2147483649, 2147483657)], [(1212418, 72), (1212449, 0), (1212450, 103079215105), (1212451, 137438953473)])
noncomputable def zxflr_mr0 : zyXp := (0, [], [274877906945], [(21, 0, 0, 103079215105), (21, 0, 0, 103079215105), (22, 0, 103079215105, 0), (3, 240518168577, 32, 171798691841), (3, 274877906945, 240518168577, 206158430209)], [(103079215105, 2147483648, 2147483648)], [(1212418, 0), (1212449, 0), (1212450, 103079215105), (1212451, 34359738360)])
noncomputable def zpflr_m : zyPh := (76, [595, 13, 13], [(0, 4294967295), (0, 4294967295), (0, 4294967295), (2147483648, 2147483657), (0, 4294967295), (0, 4294967295), (0, 4294967295)], [(1212452, 103079215105), (1212453, 137438953473), (1228800, 171798691841), (1228801, 206158430209)], [])
noncomputable def zxflr_px0 : zyXp := (157, [595, 13, 68719476737], [103079215105, 68719476737, 603], [(20, 0, 68719476737, 4448), (24, 103079215105, 76, 68719476737)], [(68719476737, 2147483648, 2147484203)], [])
noncomputable def zxflr_pr0 : zyXp := (0, [], [34359738360], [(21, 0, 68719476737, 4448)], [(68719476737, 2147484204, 2147484204)], [])
noncomputable def zpflr_p : zyPh := (139, [595, 13, 68719476737], [(0, 4294967295), (0, 4294967295), (2147483648, 2147484204)], [], [])
noncomputable def zxflr_qx0 : zyXp := (139, [595, 13, 68719476745], [], [], [(68719476737, 2147483648, 2147484203), (68719476745, 2147483649, 2147484204)], [])
noncomputable def zpflr_q : zyPh := (158, [595, 13, 68719476737], [(0, 4294967295), (0, 4294967295), (2147483648, 2147484203)], [], [])
noncomputable def zpflr (i : Nat) : zyPh := zif (Nat.beq i 0) (zpflr_z) (zif (Nat.beq i 1) (zpflr_a) (zif (Nat.beq i 2) (zpflr_h) (zif (Nat.beq i 3) (zpflr_i) (zif (Nat.beq i 4) (zpflr_j) (zif (Nat.beq i 5) (zpflr_m) (zif (Nat.beq i 6) (zpflr_p) (zpflr_q)))))))
noncomputable def zXflr (i : Nat) : List zyXp := zif (Nat.beq i 0) ([zxflr_zx0]) (zif (Nat.beq i 1) ([zxflr_ax0]) (zif (Nat.beq i 2) ([zxflr_hx0, zxflr_hx1]) (zif (Nat.beq i 3) ([zxflr_ix0]) (zif (Nat.beq i 4) ([zxflr_jx0]) (zif (Nat.beq i 5) ([zxflr_mx0]) (zif (Nat.beq i 6) ([zxflr_px0]) ([zxflr_qx0])))))))
noncomputable def zRflr (i : Nat) : List zyXp := zif (Nat.beq i 0) ([]) (zif (Nat.beq i 1) ([zxflr_ar0, zxflr_ar1]) (zif (Nat.beq i 2) ([]) (zif (Nat.beq i 3) ([]) (zif (Nat.beq i 4) ([]) (zif (Nat.beq i 5) ([zxflr_mr0]) (zif (Nat.beq i 6) ([zxflr_pr0]) ([])))))))
noncomputable def zFflr (i : Nat) : zyR := zif (Nat.beq i 0) ([]) (zif (Nat.beq i 1) ([(74, 2, 3)]) (zif (Nat.beq i 2) ([(74, 36, 36), (74, 39, 39), (74, 42, 42)]) (zif (Nat.beq i 3) ([]) (zif (Nat.beq i 4) ([]) (zif (Nat.beq i 5) ([(74, 2, 2), (74, 33, 35)]) (zif (Nat.beq i 6) ([]) ([])))))))
noncomputable def zSflr (i : Nat) : Nat := zif (Nat.beq i 0) (0) (zif (Nat.beq i 1) (0) (zif (Nat.beq i 2) (0) (zif (Nat.beq i 3) (0) (zif (Nat.beq i 4) (0) (zif (Nat.beq i 5) (0) (zif (Nat.beq i 6) (0) (0)))))))
/-- a text is loaded -/
def xΦlr (_ : Nat → Int) (E : zyEm) : Prop := xWs E
def xΨlr (x : Nat → Int) (E E2 : zyEm) (r : Int) : Prop := if 0 ≤ x 0 ∧ x 0 ≤ xE E 74 33 then (xE E2 74 33 = 0 ∧ match pAll (xE E 84) (x 0) with
  | .ok (_, S) => r = sN (S 0) (S 1) ∧ xE E2 74 2 = 0 ∧ xE E2 74 34 = 0 ∧ xE E2 74 35 = -1 ∧ sI S ∧ ∀ k, 0 ≤ k → k < 520 → xE E2 75 k = S k
  | .error (w, a) => r = -1 ∧ 1 ≤ w ∧ xE E2 74 2 = 9 ∧ xE E2 74 34 = w ∧ xE E2 74 35 = a ∧ ∀ k, 0 ≤ k → k < 556 → xE E2 75 k = xE E 75 k)
  else r = -1 ∧ xE E2 74 2 = 1 ∧ xE E2 74 33 = xE E 74 33 ∧ xE E2 74 34 = xE E 74 34 ∧ xE E2 74 35 = xE E 74 35 ∧ ∀ k, 0 ≤ k → k < 556 → xE E2 75 k = xE E 75 k
theorem pLines_I {T : Int → Int} {n : Int} : ∀ {f : Nat} {p q : Int} {S S2 : Int → Int}, sI S → pLines T n f p S = .ok (q, S2) → sI S2 := by
  intro f
  induction f with
  | zero =>
    intro p q S S2 hS h
    cases h
    exact hS
  | succ f ih =>
    intro p q S S2 hS h
    by_cases hk : tKd T n p = 0
    · rw [pLines_0 hk] at h
      cases h
      exact hS
    · rw [pLines_s hk] at h
      obtain ⟨p2, S3, h1, h2⟩ := pBind_ok h
      exact ih (pLine_I hS h1) h2
theorem pAll_I {T : Int → Int} {n q : Int} {S : Int → Int} (h : pAll T n = .ok (q, S)) : sI S := by
  unfold pAll at h
  obtain ⟨p2, S3, h1, h2⟩ := pBind_ok h
  refine pLines_I ?_ h2
  unfold pSz at h1
  split at h1
  · obtain ⟨x, x1, x2, -, h1⟩ := pNum_ok h1
    obtain ⟨y, y1, y2, -, h1⟩ := pNum_ok h1
    rw [pSem_S h1]
    refine ⟨by show 1 ≤ x ∧ x ≤ 4; omega, by show 1 ≤ y ∧ y ≤ 5; omega, by show (0 : Int) ≤ 0 ∧ (0 : Int) ≤ 8; decide, fun b b0 b1 => ?_⟩
    have b1 : b < 0 := b1
    omega
  · cases h1
noncomputable def fpflr : zyR := [(74, 2, 3), (74, 33, 43), (75, 0, 555), (76, 0, 555)]
theorem zyflr_run : zyrS zymx zxi329 (329, 0, 0, 1, 0) 10 zpflr (fun _ _ => []) zFflr zSflr zXflr zRflr 8 = true := by decide +kernel
theorem zyflr_ck : zyAll (fun i => xsubR (zFflr i) fpflr && ((zXflr i).all xckX && (zRflr i).all (fun x => xckX x && xrtB true x))) 8 = true := by decide +kernel
def xIflr (i : Nat) (x0 : Nat → Int) (E0 : zyEm) (v : Nat → Int) (E : zyEm) : Prop := if i = 0 then (E = E0 ∧ (v 1) = x0 0) else if i = 1 then (E = E0 ∧ (v 1) = x0 0) else if i = 2 then ((0 ≤ x0 0 ∧ x0 0 ≤ xE E0 74 33) ∧ (v 1) = x0 0 ∧ (∀ k, 0 ≤ k → xE E 75 k = xE E0 75 k) ∧ (∀ k, 0 ≤ k → k < (v 2) → xE E 76 k = xE E0 75 k) ∧ 0 ≤ (v 2)) else if i = 3 then ((0 ≤ x0 0 ∧ x0 0 ≤ xE E0 74 33) ∧ (v 1) = x0 0 ∧ (∀ k, 0 ≤ k → xE E 75 k = xE E0 75 k) ∧ (∀ k, 0 ≤ k → k < (v 2) + 1 → xE E 76 k = xE E0 75 k) ∧ 0 ≤ (v 2)) else if i = 4 then ((0 ≤ x0 0 ∧ x0 0 ≤ xE E0 74 33) ∧ (∀ k, 0 ≤ k → k < 556 → xE E 76 k = xE E0 75 k) ∧ xE E 74 36 = 0 ∧ xE E 74 42 = x0 0 ∧ xRD (xE E0 84) (x0 0) 0 E) else if i = 5 then ((0 ≤ x0 0 ∧ x0 0 ≤ xE E0 74 33) ∧ (∀ k, 0 ≤ k → k < 556 → xE E 76 k = xE E0 75 k) ∧ xRs (xE E0 84) (x0 0) E (pAll (xE E0 84) (x0 0))) else if i = 6 then ((0 ≤ x0 0 ∧ x0 0 ≤ xE E0 74 33) ∧ (∀ k, 0 ≤ k → k < 556 → xE E 76 k = xE E0 75 k) ∧ (∃ w a, pAll (xE E0 84) (x0 0) = .error (w, a) ∧ 1 ≤ w ∧ xE E 74 34 = w ∧ xE E 74 35 = a) ∧ (xE E 74 33 = 0 ∧ xE E 74 2 = 9) ∧ (∀ k, 0 ≤ k → k < (v 2) → xE E 75 k = xE E0 75 k) ∧ 0 ≤ (v 2)) else ((0 ≤ x0 0 ∧ x0 0 ≤ xE E0 74 33) ∧ (∀ k, 0 ≤ k → k < 556 → xE E 76 k = xE E0 75 k) ∧ (∃ w a, pAll (xE E0 84) (x0 0) = .error (w, a) ∧ 1 ≤ w ∧ xE E 74 34 = w ∧ xE E 74 35 = a) ∧ (xE E 74 33 = 0 ∧ xE E 74 2 = 9) ∧ (∀ k, 0 ≤ k → k < (v 2) + 1 → xE E 75 k = xE E0 75 k) ∧ 0 ≤ (v 2))
def xMflr (i : Nat) (x0 : Nat → Int) (E0 : zyEm) (v : Nat → Int) (E : zyEm) : Nat := if i = 0 then (9000) else if i = 1 then (8000) else if i = 2 then (5000 + 2 * (600 - (v 2)).toNat + 1) else if i = 3 then (5000 + 2 * (600 - (v 2)).toNat) else if i = 4 then (4000) else if i = 5 then (3000) else if i = 6 then (2 * (600 - (v 2)).toNat + 1) else (2 * (600 - (v 2)).toNat)
theorem xLr {l : Launch} {en : zEn} {me : zMe} (hen : zG zxMeta 329 = some en) (hme : zG zMeth 329 = some me) : xFc l zymx en me 10 [74] 1 fpflr true xΦlr xΨlr := by
  have een : zG zxMeta 329 = some (zxi329, 2, 3, 11, 329, 0, 0, 1, 0) := rfl
  obtain ⟨me1, hme1, hOK⟩ := zall hen
  rw [hme] at hme1
  cases hme1
  rw [een] at hen
  cases hen
  have hr := zyflr_run
  have hck := fun i hi => zyAll_iff zyflr_ck i hi
  simp only [Bool.and_eq_true] at hck
  obtain ⟨mefrd, hmefrd, -⟩ := zall (show zG zxMeta 314 = some (zxi314, 1, 1, 11, 314, 0, 0, 0, 0) from rfl)
  have hfrd := xRd (l := l) (show zG zxMeta 314 = some (zxi314, 1, 1, 11, 314, 0, 0, 0, 0) from rfl) hmefrd
  obtain ⟨mefra, hmefra, -⟩ := zall (show zG zxMeta 328 = some (zxi328, 1, 3, 11, 328, 0, 0, 0, 0) from rfl)
  have hfra := xAl (l := l) (show zG zxMeta 328 = some (zxi328, 1, 3, 11, 328, 0, 0, 0, 0) from rfl) hmefra
  intro B
  refine xcut (mi := zymx) (B := B) hOK rfl rfl (ι := Fin 8) (fun i => zpflr i.val) (fun _ _ => []) (fun i => zFflr i.val) (fun i => zSflr i.val) (fun i => zXflr i.val) (fun i => zRflr i.val) (fun i y2 ct en2 me2 h => by cases h) 200000 (fun i => zyAll_iff hr i.val i.isLt) (fun i => (hck i.val i.isLt).1) (fun i => (hck i.val i.isLt).2.1) (fun i => (hck i.val i.isLt).2.2) ⟨0, by decide⟩ ⟨rfl, rfl, rfl, rfl⟩ ⟨by decide, by decide⟩ (fun i x0 E0 v E => xIflr i.val x0 E0 v E) (fun i x0 E0 v E => xMflr i.val x0 E0 v E) ?_ ?_ ?_
  · intro x0 E hx0 hT hΦ
    have hΦ : xΦlr x0 E := hΦ
    refine ⟨fun k p hp => ?_, ?_⟩
    · have hk : k < 3 := (List.getElem?_eq_some_iff.mp hp).1
      have hk : k = 0 ∨ k = 1 ∨ k = 2 := by omega
      rcases hk with rfl | rfl | rfl
      · have hp : some (0, 4294967295) = some p := hp
        cases hp
        show ((0 : Nat) : Int) ≤ 0 + 2147483648 ∧ 0 + 2147483648 ≤ ((4294967295 : Nat) : Int)
        omega
      · have hp : some (0, 4294967295) = some p := hp
        cases hp
        show ((0 : Nat) : Int) ≤ x0 0 + 2147483648 ∧ x0 0 + 2147483648 ≤ ((4294967295 : Nat) : Int)
        have hx := hx0 0
        omega
      · have hp : some (0, 4294967295) = some p := hp
        cases hp
        show ((0 : Nat) : Int) ≤ x0 1 + 2147483648 ∧ x0 1 + 2147483648 ≤ ((4294967295 : Nat) : Int)
        have hx := hx0 1
        omega
    · show E = E ∧ (x0 0) = x0 0
      exact ⟨rfl, rfl⟩
  · intro x0 s Wg hRu hrx hT0 hΦ i v H hT hrv hInv hKc hFr0 hIH x hx ρ2 v2 N2 H2 locs lsB stA hAt hB hv hr2 hXs hag hfr hFr hT2
    rcases i with ⟨i, hi⟩
    have hi2 : i = 0 ∨ i = 1 ∨ i = 2 ∨ i = 3 ∨ i = 4 ∨ i = 5 ∨ i = 6 ∨ i = 7 := by omega
    rcases hi2 with rfl | rfl | rfl | rfl | rfl | rfl | rfl | rfl
    · have hx : x ∈ [zxflr_zx0] := hx
      have hag : ∀ k, k < 3 → v2 k = v k := hag
      have hfr : xFr [] _ _ := hfr
      have ex := List.mem_singleton.mp hx
      subst ex
      obtain ⟨hF, hBd, hM⟩ := hXs
      have r1 := hr2 1
      have g1 : v2 1 = v 1 := hag 1 (by decide)
      have e74_2 : xE (zyEl zymx B H2) 74 2 = xE (zyEl zymx B H) 74 2 := xFr_E hfr rfl
      have e74_33 : xE (zyEl zymx B H2) 74 33 = xE (zyEl zymx B H) 74 33 := xFr_E hfr rfl
      have e74_34 : xE (zyEl zymx B H2) 74 34 = xE (zyEl zymx B H) 74 34 := xFr_E hfr rfl
      have e74_35 : xE (zyEl zymx B H2) 74 35 = xE (zyEl zymx B H) 74 35 := xFr_E hfr rfl
      have e74_36 : xE (zyEl zymx B H2) 74 36 = xE (zyEl zymx B H) 74 36 := xFr_E hfr rfl
      have e74_37 : xE (zyEl zymx B H2) 74 37 = xE (zyEl zymx B H) 74 37 := xFr_E hfr rfl
      have e74_39 : xE (zyEl zymx B H2) 74 39 = xE (zyEl zymx B H) 74 39 := xFr_E hfr rfl
      have e74_42 : xE (zyEl zymx B H2) 74 42 = xE (zyEl zymx B H) 74 42 := xFr_E hfr rfl
      have e84 : ∀ i, xE (zyEl zymx B H2) 84 i = xE (zyEl zymx B H) 84 i := fun i => xFr_E hfr rfl
      have q84 : ∀ i, xE (zyEl zymx B H) 84 i = xE (zyEl zymx B s.heap) 84 i := fun i => xFr_E hFr0 rfl
      have e75 : ∀ i, xE (zyEl zymx B H2) 75 i = xE (zyEl zymx B H) 75 i := fun i => xFr_E hfr rfl
      have e76 : ∀ i, xE (zyEl zymx B H2) 76 i = xE (zyEl zymx B H) 76 i := fun i => xFr_E hfr rfl
      have y74_33 : ((2147483648 : Nat) : Int) ≤ xE (zyEl zymx B s.heap) 74 33 + 2147483648 ∧ xE (zyEl zymx B s.heap) 74 33 + 2147483648 ≤ ((2147484548 : Nat) : Int) := xTyF hT0 74 33 33 rfl rfl rfl rfl rfl rfl
      have hI : (zyEl zymx B H) = (zyEl zymx B s.heap) ∧ (v 1) = x0 0 := hInv
      have q74_2 : xE (zyEl zymx B H) 74 2 = xE (zyEl zymx B s.heap) 74 2 := by rw [hI.1]
      have q74_33 : xE (zyEl zymx B H) 74 33 = xE (zyEl zymx B s.heap) 74 33 := by rw [hI.1]
      have q74_34 : xE (zyEl zymx B H) 74 34 = xE (zyEl zymx B s.heap) 74 34 := by rw [hI.1]
      have q74_35 : xE (zyEl zymx B H) 74 35 = xE (zyEl zymx B s.heap) 74 35 := by rw [hI.1]
      have q74_36 : xE (zyEl zymx B H) 74 36 = xE (zyEl zymx B s.heap) 74 36 := by rw [hI.1]
      have q74_37 : xE (zyEl zymx B H) 74 37 = xE (zyEl zymx B s.heap) 74 37 := by rw [hI.1]
      have q74_39 : xE (zyEl zymx B H) 74 39 = xE (zyEl zymx B s.heap) 74 39 := by rw [hI.1]
      have q74_42 : xE (zyEl zymx B H) 74 42 = xE (zyEl zymx B s.heap) 74 42 := by rw [hI.1]
      have q75 : ∀ i, xE (zyEl zymx B H) 75 i = xE (zyEl zymx B s.heap) 75 i := fun i => by rw [hI.1]
      have q76 : ∀ i, xE (zyEl zymx B H) 76 i = xE (zyEl zymx B s.heap) 76 i := fun i => by rw [hI.1]
      obtain ⟨hE, i1⟩ := hI
      have z74_33 : ((2147483648 : Nat) : Int) ≤ xE (zyEl zymx B H2) 74 33 + 2147483648 ∧ xE (zyEl zymx B H2) 74 33 + 2147483648 ≤ ((2147484548 : Nat) : Int) := xTyF hT2 74 33 33 rfl rfl rfl rfl rfl rfl
      refine xGo hIH hAt hB hv hFr ⟨1, by decide⟩ [0, 34359738369, 0] [0, (v2 1), 0, xE (zyEl zymx B H2) 74 33] rfl ⟨by decide +kernel, ⟨rfl, by decide +kernel⟩, (xcs_c rfl (xcs_c rfl (xcs_c rfl xcs_n))), (xe_0 (xe_f (by omega) (xe_0 (xe_c (by omega) (by omega) rfl xe_n)))), (xkq_c hT2 74 33 (q := 33) rfl rfl rfl rfl rfl rfl rfl rfl rfl rfl rfl xkq_n)⟩ xst_n ?_ ?_
      · show (zyEl zymx B H2) = (zyEl zymx B s.heap) ∧ ((v2 1) : Int) = x0 0
        exact ⟨(xFr_n hfr).trans hE, by omega⟩
      · show 8000 < 9000
        omega
    · have hx : x ∈ [zxflr_ax0] := hx
      have hag : ∀ k, k < 4 → v2 k = v k := hag
      have hfr : xFr [(74, 2, 3)] _ _ := hfr
      have ex := List.mem_singleton.mp hx
      subst ex
      obtain ⟨hF, hBd, hM⟩ := hXs
      have g1 : v2 1 = v 1 := hag 1 (by decide)
      have g3 : v2 3 = v 3 := hag 3 (by decide)
      have b0 : ((2147483648 : Nat) : Int) ≤ (v2 1) + 2147483648 ∧ (v2 1) + 2147483648 ≤ ((2147484548 : Nat) : Int) := xXb hBd 0 rfl
      have b1 : ((2147483648 : Nat) : Int) ≤ (v2 3) + 2147483648 ∧ (v2 3) + 2147483648 ≤ ((2147484548 : Nat) : Int) := xXb hBd 1 rfl
      have k0 : xE (zyEl zymx B H) 74 33 = v 3 := xKcf hKc 0 rfl rfl
      have f0 : 0 ≤ (v2 1) := xXf hF 0 rfl
      have f1 : (v2 1) ≤ (v2 3) := xXf hF 1 rfl
      have m0 : xE (zyEl zymx B H2) 74 2 = 0 := xXm hM 0 rfl
      have e74_33 : xE (zyEl zymx B H2) 74 33 = xE (zyEl zymx B H) 74 33 := xFr_E hfr rfl
      have e74_34 : xE (zyEl zymx B H2) 74 34 = xE (zyEl zymx B H) 74 34 := xFr_E hfr rfl
      have e74_35 : xE (zyEl zymx B H2) 74 35 = xE (zyEl zymx B H) 74 35 := xFr_E hfr rfl
      have e74_36 : xE (zyEl zymx B H2) 74 36 = xE (zyEl zymx B H) 74 36 := xFr_E hfr rfl
      have e74_37 : xE (zyEl zymx B H2) 74 37 = xE (zyEl zymx B H) 74 37 := xFr_E hfr rfl
      have e74_39 : xE (zyEl zymx B H2) 74 39 = xE (zyEl zymx B H) 74 39 := xFr_E hfr rfl
      have e74_42 : xE (zyEl zymx B H2) 74 42 = xE (zyEl zymx B H) 74 42 := xFr_E hfr rfl
      have e84 : ∀ i, xE (zyEl zymx B H2) 84 i = xE (zyEl zymx B H) 84 i := fun i => xFr_E hfr rfl
      have q84 : ∀ i, xE (zyEl zymx B H) 84 i = xE (zyEl zymx B s.heap) 84 i := fun i => xFr_E hFr0 rfl
      have e75 : ∀ i, xE (zyEl zymx B H2) 75 i = xE (zyEl zymx B H) 75 i := fun i => xFr_E hfr rfl
      have e76 : ∀ i, xE (zyEl zymx B H2) 76 i = xE (zyEl zymx B H) 76 i := fun i => xFr_E hfr rfl
      have y74_33 : ((2147483648 : Nat) : Int) ≤ xE (zyEl zymx B s.heap) 74 33 + 2147483648 ∧ xE (zyEl zymx B s.heap) 74 33 + 2147483648 ≤ ((2147484548 : Nat) : Int) := xTyF hT0 74 33 33 rfl rfl rfl rfl rfl rfl
      have hI : (zyEl zymx B H) = (zyEl zymx B s.heap) ∧ (v 1) = x0 0 := hInv
      have q74_2 : xE (zyEl zymx B H) 74 2 = xE (zyEl zymx B s.heap) 74 2 := by rw [hI.1]
      have q74_33 : xE (zyEl zymx B H) 74 33 = xE (zyEl zymx B s.heap) 74 33 := by rw [hI.1]
      have q74_34 : xE (zyEl zymx B H) 74 34 = xE (zyEl zymx B s.heap) 74 34 := by rw [hI.1]
      have q74_35 : xE (zyEl zymx B H) 74 35 = xE (zyEl zymx B s.heap) 74 35 := by rw [hI.1]
      have q74_36 : xE (zyEl zymx B H) 74 36 = xE (zyEl zymx B s.heap) 74 36 := by rw [hI.1]
      have q74_37 : xE (zyEl zymx B H) 74 37 = xE (zyEl zymx B s.heap) 74 37 := by rw [hI.1]
      have q74_39 : xE (zyEl zymx B H) 74 39 = xE (zyEl zymx B s.heap) 74 39 := by rw [hI.1]
      have q74_42 : xE (zyEl zymx B H) 74 42 = xE (zyEl zymx B s.heap) 74 42 := by rw [hI.1]
      have q75 : ∀ i, xE (zyEl zymx B H) 75 i = xE (zyEl zymx B s.heap) 75 i := fun i => by rw [hI.1]
      have q76 : ∀ i, xE (zyEl zymx B H) 76 i = xE (zyEl zymx B s.heap) 76 i := fun i => by rw [hI.1]
      obtain ⟨hE, i1⟩ := hI
      refine xGo hIH hAt hB hv hFr ⟨2, by decide⟩ [0, 34359738369, 0] [0, (v2 1), 0] rfl ⟨by decide +kernel, ⟨rfl, by decide +kernel⟩, (xcs_c rfl (xcs_c rfl (xcs_c rfl xcs_n))), (xe_0 (xe_c (by omega) (by omega) rfl (xe_c (by omega) (by omega) rfl xe_n))), xkq_n⟩ xst_n ?_ ?_
      · show (0 ≤ x0 0 ∧ x0 0 ≤ xE (zyEl zymx B s.heap) 74 33) ∧ ((v2 1) : Int) = x0 0 ∧ (∀ k, 0 ≤ k → xE (zyEl zymx B H2) 75 k = xE (zyEl zymx B s.heap) 75 k) ∧ (∀ k, 0 ≤ k → k < (0 : Int) → xE (zyEl zymx B H2) 76 k = xE (zyEl zymx B s.heap) 75 k) ∧ 0 ≤ (0 : Int)
        exact ⟨by omega, by omega, fun k k0 => (e75 k).trans (q75 k), fun k k0 k1 => by omega, by omega⟩
      · show 5000 + 2 * (600 - (0 : Int)).toNat + 1 < 8000
        omega
    · have hx : x ∈ [zxflr_hx0, zxflr_hx1] := hx
      have hag : ∀ k, k < 3 → v2 k = v k := hag
      have hfr : xFr [(74, 36, 36), (74, 39, 39), (74, 42, 42)] _ _ := hfr
      rcases List.mem_cons.mp hx with ex | hx
      · subst ex
        obtain ⟨hF, hBd, hM⟩ := hXs
        have r3 := hr2 3
        have g1 : v2 1 = v 1 := hag 1 (by decide)
        have g2 : v2 2 = v 2 := hag 2 (by decide)
        have b0 : ((2147483648 : Nat) : Int) ≤ (v2 1) + 2147483648 ∧ (v2 1) + 2147483648 ≤ ((2147484548 : Nat) : Int) := xXb hBd 0 rfl
        have b1 : ((2147483648 : Nat) : Int) ≤ (v2 2) + 2147483648 ∧ (v2 2) + 2147483648 ≤ ((2147484203 : Nat) : Int) := xXb hBd 1 rfl
        have f0 : (v2 2) < 556 := xXf hF 0 rfl
        have f1 : (0 : Int) ≤ (v2 2) ∧ xE (zyEl zymx B H) 75 (v2 2) = (v2 3) := xXf hF 1 rfl
        have e74_2 : xE (zyEl zymx B H2) 74 2 = xE (zyEl zymx B H) 74 2 := xFr_E hfr rfl
        have e74_33 : xE (zyEl zymx B H2) 74 33 = xE (zyEl zymx B H) 74 33 := xFr_E hfr rfl
        have e74_34 : xE (zyEl zymx B H2) 74 34 = xE (zyEl zymx B H) 74 34 := xFr_E hfr rfl
        have e74_35 : xE (zyEl zymx B H2) 74 35 = xE (zyEl zymx B H) 74 35 := xFr_E hfr rfl
        have e74_37 : xE (zyEl zymx B H2) 74 37 = xE (zyEl zymx B H) 74 37 := xFr_E hfr rfl
        have e84 : ∀ i, xE (zyEl zymx B H2) 84 i = xE (zyEl zymx B H) 84 i := fun i => xFr_E hfr rfl
        have q84 : ∀ i, xE (zyEl zymx B H) 84 i = xE (zyEl zymx B s.heap) 84 i := fun i => xFr_E hFr0 rfl
        have e75 : ∀ i, xE (zyEl zymx B H2) 75 i = xE (zyEl zymx B H) 75 i := fun i => xFr_E hfr rfl
        have e76 : ∀ i, xE (zyEl zymx B H2) 76 i = xE (zyEl zymx B H) 76 i := fun i => xFr_E hfr rfl
        have y74_33 : ((2147483648 : Nat) : Int) ≤ xE (zyEl zymx B s.heap) 74 33 + 2147483648 ∧ xE (zyEl zymx B s.heap) 74 33 + 2147483648 ≤ ((2147484548 : Nat) : Int) := xTyF hT0 74 33 33 rfl rfl rfl rfl rfl rfl
        have hI : (0 ≤ x0 0 ∧ x0 0 ≤ xE (zyEl zymx B s.heap) 74 33) ∧ (v 1) = x0 0 ∧ (∀ k, 0 ≤ k → xE (zyEl zymx B H) 75 k = xE (zyEl zymx B s.heap) 75 k) ∧ (∀ k, 0 ≤ k → k < (v 2) → xE (zyEl zymx B H) 76 k = xE (zyEl zymx B s.heap) 75 k) ∧ 0 ≤ (v 2) := hInv
        obtain ⟨i1, i2, hc, hw, i3⟩ := hI
        have hPW := (show xΦlr x0 (zyEl zymx B s.heap) from hΦ)
        have ev : xE (zyEl zymx B s.heap) 75 (v 2) = (v2 3) := by
          rw [← hc _ i3, show v 2 = (v2 2) by omega]
          exact f1.2
        refine xSt hRu hIH hAt hB hv hFr 76 (ax := 0) 103079215105 68719476737 (v2 3) (v2 2) rfl (Or.inl ⟨rfl, rfl⟩) rfl (by decide +kernel) rfl rfl (by omega) (by show (v2 2) < ((556 : Nat) : Int); omega) (fun r hr q1 q2 => by rw [List.mem_singleton.mp hr]; exact ⟨rfl, by show ((0 : Nat) : Int) ≤ (v2 3) + 2147483648; omega, by show (v2 3) + 2147483648 ≤ ((4294967295 : Nat) : Int); omega⟩) (zyin_iff.mpr ⟨(76, 0, 555), by decide, rfl, (by show 0 ≤ Int.toNat (v2 2); omega), by show Int.toNat (v2 2) ≤ 555; omega⟩) (fun H3 hT3 hst3 hne3 hfn3 hFr3 => ?_)
        have hfe3 : ∀ (a2 : Nat) (k2 : Int), ¬ a2 = 76 → xE (zyEl zymx B H3) a2 k2 = xE (zyEl zymx B H2) a2 k2 := fun a2 k2 hne => by unfold xE; rw [hfn3 a2 k2.toNat (fun z => hne z.1)]
        have d74_2 : xE (zyEl zymx B H3) 74 2 = xE (zyEl zymx B H2) 74 2 := hfe3 74 2 (fun z => absurd z (by decide))
        have d74_33 : xE (zyEl zymx B H3) 74 33 = xE (zyEl zymx B H2) 74 33 := hfe3 74 33 (fun z => absurd z (by decide))
        have d74_34 : xE (zyEl zymx B H3) 74 34 = xE (zyEl zymx B H2) 74 34 := hfe3 74 34 (fun z => absurd z (by decide))
        have d74_35 : xE (zyEl zymx B H3) 74 35 = xE (zyEl zymx B H2) 74 35 := hfe3 74 35 (fun z => absurd z (by decide))
        have d74_36 : xE (zyEl zymx B H3) 74 36 = xE (zyEl zymx B H2) 74 36 := hfe3 74 36 (fun z => absurd z (by decide))
        have d74_37 : xE (zyEl zymx B H3) 74 37 = xE (zyEl zymx B H2) 74 37 := hfe3 74 37 (fun z => absurd z (by decide))
        have d74_39 : xE (zyEl zymx B H3) 74 39 = xE (zyEl zymx B H2) 74 39 := hfe3 74 39 (fun z => absurd z (by decide))
        have d74_42 : xE (zyEl zymx B H3) 74 42 = xE (zyEl zymx B H2) 74 42 := hfe3 74 42 (fun z => absurd z (by decide))
        refine ⟨⟨3, by decide⟩, [0, 34359738369, 68719476737], [0, (v2 1), (v2 2)], rfl, ⟨by decide +kernel, ⟨rfl, by decide +kernel⟩, (xcs_c rfl (xcs_c rfl (xcs_c rfl xcs_n))), (xe_0 (xe_c (by omega) (by omega) rfl (xe_c (by omega) (by omega) rfl xe_n))), xkq_n⟩, rfl, ?_, ?_⟩
        · show (0 ≤ x0 0 ∧ x0 0 ≤ xE (zyEl zymx B s.heap) 74 33) ∧ ((v2 1) : Int) = x0 0 ∧ (∀ k, 0 ≤ k → xE (zyEl zymx B H3) 75 k = xE (zyEl zymx B s.heap) 75 k) ∧ (∀ k, 0 ≤ k → k < ((v2 2) : Int) + 1 → xE (zyEl zymx B H3) 76 k = xE (zyEl zymx B s.heap) 75 k) ∧ 0 ≤ ((v2 2) : Int)
          refine ⟨i1, by omega, fun k k0 => ((hfe3 75 k (by decide)).trans (e75 k)).trans (hc k k0), fun k k0 k1 => ?_, by omega⟩
          by_cases e : k = v 2
          · rw [e, ev, show v 2 = (v2 2) by omega]
            exact hst3
          · rw [hne3 76 k k0 (fun z => e (by omega)), e76]
            exact hw k k0 (by omega)
        · show 5000 + 2 * (600 - ((v2 2) : Int)).toNat < 5000 + 2 * (600 - (v 2)).toNat + 1
          omega
      · skip
        have ex := List.mem_singleton.mp hx
        subst ex
        obtain ⟨hF, hBd, hM⟩ := hXs
        have g1 : v2 1 = v 1 := hag 1 (by decide)
        have g2 : v2 2 = v 2 := hag 2 (by decide)
        have b0 : ((2147483648 : Nat) : Int) ≤ (v2 1) + 2147483648 ∧ (v2 1) + 2147483648 ≤ ((2147484548 : Nat) : Int) := xXb hBd 0 rfl
        have b1 : ((2147484204 : Nat) : Int) ≤ (v2 2) + 2147483648 ∧ (v2 2) + 2147483648 ≤ ((2147484204 : Nat) : Int) := xXb hBd 1 rfl
        have f0 : 556 ≤ (v2 2) := xXf hF 0 rfl
        have m0 : xE (zyEl zymx B H2) 74 36 = 0 := xXm hM 0 rfl
        have m1 : xE (zyEl zymx B H2) 74 39 = 0 := xXm hM 1 rfl
        have m2 : xE (zyEl zymx B H2) 74 42 = (v2 1) := xXm hM 2 rfl
        have e74_2 : xE (zyEl zymx B H2) 74 2 = xE (zyEl zymx B H) 74 2 := xFr_E hfr rfl
        have e74_33 : xE (zyEl zymx B H2) 74 33 = xE (zyEl zymx B H) 74 33 := xFr_E hfr rfl
        have e74_34 : xE (zyEl zymx B H2) 74 34 = xE (zyEl zymx B H) 74 34 := xFr_E hfr rfl
        have e74_35 : xE (zyEl zymx B H2) 74 35 = xE (zyEl zymx B H) 74 35 := xFr_E hfr rfl
        have e74_37 : xE (zyEl zymx B H2) 74 37 = xE (zyEl zymx B H) 74 37 := xFr_E hfr rfl
        have e84 : ∀ i, xE (zyEl zymx B H2) 84 i = xE (zyEl zymx B H) 84 i := fun i => xFr_E hfr rfl
        have q84 : ∀ i, xE (zyEl zymx B H) 84 i = xE (zyEl zymx B s.heap) 84 i := fun i => xFr_E hFr0 rfl
        have e75 : ∀ i, xE (zyEl zymx B H2) 75 i = xE (zyEl zymx B H) 75 i := fun i => xFr_E hfr rfl
        have e76 : ∀ i, xE (zyEl zymx B H2) 76 i = xE (zyEl zymx B H) 76 i := fun i => xFr_E hfr rfl
        have y74_33 : ((2147483648 : Nat) : Int) ≤ xE (zyEl zymx B s.heap) 74 33 + 2147483648 ∧ xE (zyEl zymx B s.heap) 74 33 + 2147483648 ≤ ((2147484548 : Nat) : Int) := xTyF hT0 74 33 33 rfl rfl rfl rfl rfl rfl
        have hI : (0 ≤ x0 0 ∧ x0 0 ≤ xE (zyEl zymx B s.heap) 74 33) ∧ (v 1) = x0 0 ∧ (∀ k, 0 ≤ k → xE (zyEl zymx B H) 75 k = xE (zyEl zymx B s.heap) 75 k) ∧ (∀ k, 0 ≤ k → k < (v 2) → xE (zyEl zymx B H) 76 k = xE (zyEl zymx B s.heap) 75 k) ∧ 0 ≤ (v 2) := hInv
        obtain ⟨i1, i2, hc, hw, i3⟩ := hI
        have hPW := (show xΦlr x0 (zyEl zymx B s.heap) from hΦ)
        refine xCa hRu hIH hAt hB hv hFr (hfrd B) (ix := 450) (ax := 5024) rfl rfl rfl hmefrd ⟨_, rfl, rfl, by decide⟩ ⟨rfl, rfl, rfl⟩ (by decide) [] [] [] rfl ⟨rfl, rfl⟩ (by decide +kernel) xcs_n (by decide +kernel) ?_ (fun H3 r hT3 hf3 hFr3 hr3 hΨ3 => ?_)
        · show xΦrd (xfv []) (zyEl zymx B H2)
          unfold xΦrd
          omega
        · have hΨ3 : xΨrd (xfv []) (zyEl zymx B H2) (zyEl zymx B H3) r := hΨ3
          have d74_2 : xE (zyEl zymx B H3) 74 2 = xE (zyEl zymx B H2) 74 2 := xFr_E hf3 rfl
          have d74_33 : xE (zyEl zymx B H3) 74 33 = xE (zyEl zymx B H2) 74 33 := xFr_E hf3 rfl
          have d74_34 : xE (zyEl zymx B H3) 74 34 = xE (zyEl zymx B H2) 74 34 := xFr_E hf3 rfl
          have d74_35 : xE (zyEl zymx B H3) 74 35 = xE (zyEl zymx B H2) 74 35 := xFr_E hf3 rfl
          have d74_36 : xE (zyEl zymx B H3) 74 36 = xE (zyEl zymx B H2) 74 36 := xFr_E hf3 rfl
          have d74_37 : xE (zyEl zymx B H3) 74 37 = xE (zyEl zymx B H2) 74 37 := xFr_E hf3 rfl
          have d74_42 : xE (zyEl zymx B H3) 74 42 = xE (zyEl zymx B H2) 74 42 := xFr_E hf3 rfl
          have d84 : ∀ i, xE (zyEl zymx B H3) 84 i = xE (zyEl zymx B H2) 84 i := fun i => xFr_E hf3 rfl
          have d75 : ∀ i, xE (zyEl zymx B H3) 75 i = xE (zyEl zymx B H2) 75 i := fun i => xFr_E hf3 rfl
          have d76 : ∀ i, xE (zyEl zymx B H3) 76 i = xE (zyEl zymx B H2) 76 i := fun i => xFr_E hf3 rfl
          unfold xΨrd at hΨ3
          rw [show xE (zyEl zymx B H2) 84 = xE (zyEl zymx B s.heap) 84 from funext fun i => (e84 i).trans (q84 i), show xE (zyEl zymx B H2) 74 42 = x0 0 by omega, show xE (zyEl zymx B H2) 74 39 = 0 by omega] at hΨ3
          refine ⟨⟨4, by decide⟩, [0, 0, 0], [0, 0, 0], rfl, ⟨by decide +kernel, ⟨rfl, by decide +kernel⟩, (xcs_c rfl (xcs_c rfl (xcs_c rfl xcs_n))), (xe_0 (xe_0 (xe_0 xe_n))), xkq_n⟩, (by rw [if_neg (by decide)]; exact xst_n), ?_, ?_⟩
          · show (0 ≤ x0 0 ∧ x0 0 ≤ xE (zyEl zymx B s.heap) 74 33) ∧ (∀ k, 0 ≤ k → k < 556 → xE (zyEl zymx B H3) 76 k = xE (zyEl zymx B s.heap) 75 k) ∧ xE (zyEl zymx B H3) 74 36 = 0 ∧ xE (zyEl zymx B H3) 74 42 = x0 0 ∧ xRD (xE (zyEl zymx B s.heap) 84) (x0 0) 0 (zyEl zymx B H3)
            exact ⟨i1, fun k k0 k1 => ((d76 k).trans (e76 k)).trans (hw k k0 (by omega)), by omega, by omega, hΨ3⟩
          · show 4000 < 5000 + 2 * (600 - (v 2)).toNat + 1
            omega
    · have hx : x ∈ [zxflr_ix0] := hx
      have hag : ∀ k, k < 3 → v2 k = v k := hag
      have hfr : xFr [] _ _ := hfr
      have ex := List.mem_singleton.mp hx
      subst ex
      obtain ⟨hF, hBd, hM⟩ := hXs
      have g1 : v2 1 = v 1 := hag 1 (by decide)
      have g2 : v2 2 = v 2 := hag 2 (by decide)
      have b0 : ((2147483648 : Nat) : Int) ≤ (v2 1) + 2147483648 ∧ (v2 1) + 2147483648 ≤ ((2147484548 : Nat) : Int) := xXb hBd 0 rfl
      have b1 : ((2147483648 : Nat) : Int) ≤ (v2 2) + 2147483648 ∧ (v2 2) + 2147483648 ≤ ((2147484203 : Nat) : Int) := xXb hBd 1 rfl
      have b2 : ((2147483649 : Nat) : Int) ≤ (v2 2 + 1) + 2147483648 ∧ (v2 2 + 1) + 2147483648 ≤ ((2147484204 : Nat) : Int) := xXb hBd 2 rfl
      have e74_2 : xE (zyEl zymx B H2) 74 2 = xE (zyEl zymx B H) 74 2 := xFr_E hfr rfl
      have e74_33 : xE (zyEl zymx B H2) 74 33 = xE (zyEl zymx B H) 74 33 := xFr_E hfr rfl
      have e74_34 : xE (zyEl zymx B H2) 74 34 = xE (zyEl zymx B H) 74 34 := xFr_E hfr rfl
      have e74_35 : xE (zyEl zymx B H2) 74 35 = xE (zyEl zymx B H) 74 35 := xFr_E hfr rfl
      have e74_36 : xE (zyEl zymx B H2) 74 36 = xE (zyEl zymx B H) 74 36 := xFr_E hfr rfl
      have e74_37 : xE (zyEl zymx B H2) 74 37 = xE (zyEl zymx B H) 74 37 := xFr_E hfr rfl
      have e74_39 : xE (zyEl zymx B H2) 74 39 = xE (zyEl zymx B H) 74 39 := xFr_E hfr rfl
      have e74_42 : xE (zyEl zymx B H2) 74 42 = xE (zyEl zymx B H) 74 42 := xFr_E hfr rfl
      have e84 : ∀ i, xE (zyEl zymx B H2) 84 i = xE (zyEl zymx B H) 84 i := fun i => xFr_E hfr rfl
      have q84 : ∀ i, xE (zyEl zymx B H) 84 i = xE (zyEl zymx B s.heap) 84 i := fun i => xFr_E hFr0 rfl
      have e75 : ∀ i, xE (zyEl zymx B H2) 75 i = xE (zyEl zymx B H) 75 i := fun i => xFr_E hfr rfl
      have e76 : ∀ i, xE (zyEl zymx B H2) 76 i = xE (zyEl zymx B H) 76 i := fun i => xFr_E hfr rfl
      have y74_33 : ((2147483648 : Nat) : Int) ≤ xE (zyEl zymx B s.heap) 74 33 + 2147483648 ∧ xE (zyEl zymx B s.heap) 74 33 + 2147483648 ≤ ((2147484548 : Nat) : Int) := xTyF hT0 74 33 33 rfl rfl rfl rfl rfl rfl
      have hI : (0 ≤ x0 0 ∧ x0 0 ≤ xE (zyEl zymx B s.heap) 74 33) ∧ (v 1) = x0 0 ∧ (∀ k, 0 ≤ k → xE (zyEl zymx B H) 75 k = xE (zyEl zymx B s.heap) 75 k) ∧ (∀ k, 0 ≤ k → k < (v 2) + 1 → xE (zyEl zymx B H) 76 k = xE (zyEl zymx B s.heap) 75 k) ∧ 0 ≤ (v 2) := hInv
      obtain ⟨i1, i2, hc, hw, i3⟩ := hI
      refine xGo hIH hAt hB hv hFr ⟨2, by decide⟩ [0, 34359738369, 68719476745] [0, (v2 1), (v2 2 + 1)] rfl ⟨by decide +kernel, ⟨rfl, by decide +kernel⟩, (xcs_c rfl (xcs_c rfl (xcs_c rfl xcs_n))), (xe_0 (xe_c (by omega) (by omega) rfl (xe_c (by omega) (by omega) rfl xe_n))), xkq_n⟩ xst_n ?_ ?_
      · show (0 ≤ x0 0 ∧ x0 0 ≤ xE (zyEl zymx B s.heap) 74 33) ∧ ((v2 1) : Int) = x0 0 ∧ (∀ k, 0 ≤ k → xE (zyEl zymx B H2) 75 k = xE (zyEl zymx B s.heap) 75 k) ∧ (∀ k, 0 ≤ k → k < ((v2 2 + 1) : Int) → xE (zyEl zymx B H2) 76 k = xE (zyEl zymx B s.heap) 75 k) ∧ 0 ≤ ((v2 2 + 1) : Int)
        exact ⟨i1, by omega, fun k k0 => (e75 k).trans (hc k k0), fun k k0 k1 => (e76 k).trans (hw k k0 (by omega)), by omega⟩
      · show 5000 + 2 * (600 - ((v2 2 + 1) : Int)).toNat + 1 < 5000 + 2 * (600 - (v 2)).toNat
        omega
    · have hx : x ∈ [zxflr_jx0] := hx
      have hag : ∀ k, k < 3 → v2 k = v k := hag
      have hfr : xFr [] _ _ := hfr
      have ex := List.mem_singleton.mp hx
      subst ex
      obtain ⟨hF, hBd, hM⟩ := hXs
      have e74_2 : xE (zyEl zymx B H2) 74 2 = xE (zyEl zymx B H) 74 2 := xFr_E hfr rfl
      have e74_33 : xE (zyEl zymx B H2) 74 33 = xE (zyEl zymx B H) 74 33 := xFr_E hfr rfl
      have e74_34 : xE (zyEl zymx B H2) 74 34 = xE (zyEl zymx B H) 74 34 := xFr_E hfr rfl
      have e74_35 : xE (zyEl zymx B H2) 74 35 = xE (zyEl zymx B H) 74 35 := xFr_E hfr rfl
      have e74_36 : xE (zyEl zymx B H2) 74 36 = xE (zyEl zymx B H) 74 36 := xFr_E hfr rfl
      have e74_37 : xE (zyEl zymx B H2) 74 37 = xE (zyEl zymx B H) 74 37 := xFr_E hfr rfl
      have e74_39 : xE (zyEl zymx B H2) 74 39 = xE (zyEl zymx B H) 74 39 := xFr_E hfr rfl
      have e74_42 : xE (zyEl zymx B H2) 74 42 = xE (zyEl zymx B H) 74 42 := xFr_E hfr rfl
      have e84 : ∀ i, xE (zyEl zymx B H2) 84 i = xE (zyEl zymx B H) 84 i := fun i => xFr_E hfr rfl
      have q84 : ∀ i, xE (zyEl zymx B H) 84 i = xE (zyEl zymx B s.heap) 84 i := fun i => xFr_E hFr0 rfl
      have e75 : ∀ i, xE (zyEl zymx B H2) 75 i = xE (zyEl zymx B H) 75 i := fun i => xFr_E hfr rfl
      have e76 : ∀ i, xE (zyEl zymx B H2) 76 i = xE (zyEl zymx B H) 76 i := fun i => xFr_E hfr rfl
      have y74_33 : ((2147483648 : Nat) : Int) ≤ xE (zyEl zymx B s.heap) 74 33 + 2147483648 ∧ xE (zyEl zymx B s.heap) 74 33 + 2147483648 ≤ ((2147484548 : Nat) : Int) := xTyF hT0 74 33 33 rfl rfl rfl rfl rfl rfl
      have hI : (0 ≤ x0 0 ∧ x0 0 ≤ xE (zyEl zymx B s.heap) 74 33) ∧ (∀ k, 0 ≤ k → k < 556 → xE (zyEl zymx B H) 76 k = xE (zyEl zymx B s.heap) 75 k) ∧ xE (zyEl zymx B H) 74 36 = 0 ∧ xE (zyEl zymx B H) 74 42 = x0 0 ∧ xRD (xE (zyEl zymx B s.heap) 84) (x0 0) 0 (zyEl zymx B H) := hInv
      obtain ⟨i1, hw, i2, i3, hs⟩ := hI
      have hEE : (zyEl zymx B H2) = (zyEl zymx B H) := xFr_n hfr
      have hPW := (show xΦlr x0 (zyEl zymx B s.heap) from hΦ)
      have hT : xE (zyEl zymx B H) 84 = xE (zyEl zymx B s.heap) 84 := funext q84
      refine xCa hRu hIH hAt hB hv hFr (hfra B) (ix := 490) (ax := 5248) rfl rfl rfl hmefra ⟨_, rfl, rfl, by decide⟩ ⟨rfl, rfl, rfl⟩ (by decide) [] [] [] rfl ⟨rfl, rfl⟩ (by decide +kernel) xcs_n (by decide +kernel) ?_ (fun H3 r hT3 hf3 hFr3 hr3 hΨ3 => ?_)
      · show xΦal (xfv []) (zyEl zymx B H2)
        rw [hEE]
        unfold xΦal
        rw [hT, i3]
        exact ⟨xWs_k hPW hFr0 (fun _ => rfl), i2, by omega, hs⟩
      · have hΨ3 : xΨal (xfv []) (zyEl zymx B H2) (zyEl zymx B H3) r := hΨ3
        have d74_2 : xE (zyEl zymx B H3) 74 2 = xE (zyEl zymx B H2) 74 2 := xFr_E hf3 rfl
        have d74_33 : xE (zyEl zymx B H3) 74 33 = xE (zyEl zymx B H2) 74 33 := xFr_E hf3 rfl
        have d74_34 : xE (zyEl zymx B H3) 74 34 = xE (zyEl zymx B H2) 74 34 := xFr_E hf3 rfl
        have d74_35 : xE (zyEl zymx B H3) 74 35 = xE (zyEl zymx B H2) 74 35 := xFr_E hf3 rfl
        have d74_42 : xE (zyEl zymx B H3) 74 42 = xE (zyEl zymx B H2) 74 42 := xFr_E hf3 rfl
        have d84 : ∀ i, xE (zyEl zymx B H3) 84 i = xE (zyEl zymx B H2) 84 i := fun i => xFr_E hf3 rfl
        have d76 : ∀ i, xE (zyEl zymx B H3) 76 i = xE (zyEl zymx B H2) 76 i := fun i => xFr_E hf3 rfl
        have z74_36 : ((2147483648 : Nat) : Int) ≤ xE (zyEl zymx B H3) 74 36 + 2147483648 ∧ xE (zyEl zymx B H3) 74 36 + 2147483648 ≤ ((2147483657 : Nat) : Int) := xTyF hT3 74 36 36 rfl rfl rfl rfl rfl rfl
        have z74_37 : ((0 : Nat) : Int) ≤ xE (zyEl zymx B H3) 74 37 + 2147483648 ∧ xE (zyEl zymx B H3) 74 37 + 2147483648 ≤ ((4294967295 : Nat) : Int) := xTyF hT3 74 37 37 rfl rfl rfl rfl rfl rfl
        have z75_0 : ((0 : Nat) : Int) ≤ xE (zyEl zymx B H3) 75 0 + 2147483648 ∧ xE (zyEl zymx B H3) 75 0 + 2147483648 ≤ ((4294967295 : Nat) : Int) := xTyF hT3 75 0 0 rfl rfl rfl rfl rfl rfl
        have z75_1 : ((0 : Nat) : Int) ≤ xE (zyEl zymx B H3) 75 1 + 2147483648 ∧ xE (zyEl zymx B H3) 75 1 + 2147483648 ≤ ((4294967295 : Nat) : Int) := xTyF hT3 75 1 0 rfl rfl rfl rfl rfl rfl
        have hR : xRs (xE (zyEl zymx B H2) 84) (xE (zyEl zymx B H2) 74 42) (zyEl zymx B H3) (pAll (xE (zyEl zymx B H2) 84) (xE (zyEl zymx B H2) 74 42)) := hΨ3
        rw [hEE, hT, i3] at hR
        refine ⟨⟨5, by decide⟩, [0, 0, 0], [0, 0, 0, xE (zyEl zymx B H3) 74 36, xE (zyEl zymx B H3) 74 37, xE (zyEl zymx B H3) 75 0, xE (zyEl zymx B H3) 75 1], rfl, ⟨by decide +kernel, ⟨rfl, by decide +kernel⟩, (xcs_c rfl (xcs_c rfl (xcs_c rfl xcs_n))), (xe_0 (xe_0 (xe_0 (xe_c (by omega) (by omega) rfl (xe_f (xE_r _ _ _) (xe_f (xE_r _ _ _) (xe_f (xE_r _ _ _) xe_n))))))), (xkq_c hT3 74 36 (q := 36) rfl rfl rfl rfl rfl rfl rfl rfl rfl rfl rfl (xkq_c hT3 74 37 (q := 37) rfl rfl rfl rfl rfl rfl rfl rfl rfl rfl rfl (xkq_c hT3 75 0 (q := 0) rfl rfl rfl rfl rfl rfl rfl rfl rfl rfl rfl (xkq_c hT3 75 1 (q := 0) rfl rfl rfl rfl rfl rfl rfl rfl rfl rfl rfl xkq_n))))⟩, (by rw [if_neg (by decide)]; exact xst_n), ?_, ?_⟩
        · show (0 ≤ x0 0 ∧ x0 0 ≤ xE (zyEl zymx B s.heap) 74 33) ∧ (∀ k, 0 ≤ k → k < 556 → xE (zyEl zymx B H3) 76 k = xE (zyEl zymx B s.heap) 75 k) ∧ xRs (xE (zyEl zymx B s.heap) 84) (x0 0) (zyEl zymx B H3) (pAll (xE (zyEl zymx B s.heap) 84) (x0 0))
          exact ⟨i1, fun k k0 k1 => ((d76 k).trans (e76 k)).trans (hw k k0 k1), hR⟩
        · show 3000 < 4000
          omega
    · have hx : x ∈ [zxflr_mx0] := hx
      have hag : ∀ k, k < 7 → v2 k = v k := hag
      have hfr : xFr [(74, 2, 2), (74, 33, 35)] _ _ := hfr
      have ex := List.mem_singleton.mp hx
      subst ex
      obtain ⟨hF, hBd, hM⟩ := hXs
      have r4 := hr2 4
      have g3 : v2 3 = v 3 := hag 3 (by decide)
      have g4 : v2 4 = v 4 := hag 4 (by decide)
      have g5 : v2 5 = v 5 := hag 5 (by decide)
      have g6 : v2 6 = v 6 := hag 6 (by decide)
      have b0 : ((2147483649 : Nat) : Int) ≤ (v2 3) + 2147483648 ∧ (v2 3) + 2147483648 ≤ ((2147483657 : Nat) : Int) := xXb hBd 0 rfl
      have k0 : xE (zyEl zymx B H) 74 36 = v 3 := xKcf hKc 0 rfl rfl
      have k1 : xE (zyEl zymx B H) 74 37 = v 4 := xKcf hKc 1 rfl rfl
      have k2 : xE (zyEl zymx B H) 75 0 = v 5 := xKcf hKc 2 rfl rfl
      have k3 : xE (zyEl zymx B H) 75 1 = v 6 := xKcf hKc 3 rfl rfl
      have f0 : 0 < (v2 3) := xXf hF 0 rfl
      have f1 : 0 < (v2 3) := xXf hF 1 rfl
      have f2 : ¬ (v2 3) = 0 := xXf hF 2 rfl
      have m0 : xE (zyEl zymx B H2) 74 2 = 9 := xXm hM 0 rfl
      have m1 : xE (zyEl zymx B H2) 74 33 = 0 := xXm hM 1 rfl
      have m2 : xE (zyEl zymx B H2) 74 34 = (v2 3) := xXm hM 2 rfl
      have m3 : xE (zyEl zymx B H2) 74 35 = (v2 4) := xXm hM 3 rfl
      have e74_36 : xE (zyEl zymx B H2) 74 36 = xE (zyEl zymx B H) 74 36 := xFr_E hfr rfl
      have e74_37 : xE (zyEl zymx B H2) 74 37 = xE (zyEl zymx B H) 74 37 := xFr_E hfr rfl
      have e74_39 : xE (zyEl zymx B H2) 74 39 = xE (zyEl zymx B H) 74 39 := xFr_E hfr rfl
      have e74_42 : xE (zyEl zymx B H2) 74 42 = xE (zyEl zymx B H) 74 42 := xFr_E hfr rfl
      have e84 : ∀ i, xE (zyEl zymx B H2) 84 i = xE (zyEl zymx B H) 84 i := fun i => xFr_E hfr rfl
      have q84 : ∀ i, xE (zyEl zymx B H) 84 i = xE (zyEl zymx B s.heap) 84 i := fun i => xFr_E hFr0 rfl
      have e75 : ∀ i, xE (zyEl zymx B H2) 75 i = xE (zyEl zymx B H) 75 i := fun i => xFr_E hfr rfl
      have e76 : ∀ i, xE (zyEl zymx B H2) 76 i = xE (zyEl zymx B H) 76 i := fun i => xFr_E hfr rfl
      have y74_33 : ((2147483648 : Nat) : Int) ≤ xE (zyEl zymx B s.heap) 74 33 + 2147483648 ∧ xE (zyEl zymx B s.heap) 74 33 + 2147483648 ≤ ((2147484548 : Nat) : Int) := xTyF hT0 74 33 33 rfl rfl rfl rfl rfl rfl
      have hI : (0 ≤ x0 0 ∧ x0 0 ≤ xE (zyEl zymx B s.heap) 74 33) ∧ (∀ k, 0 ≤ k → k < 556 → xE (zyEl zymx B H) 76 k = xE (zyEl zymx B s.heap) 75 k) ∧ xRs (xE (zyEl zymx B s.heap) 84) (x0 0) (zyEl zymx B H) (pAll (xE (zyEl zymx B s.heap) 84) (x0 0)) := hInv
      obtain ⟨i1, hw, hR⟩ := hI
      have hPW := (show xΦlr x0 (zyEl zymx B s.heap) from hΦ)
      have hX := xRs_r hR (by omega)
      refine xGo hIH hAt hB hv hFr ⟨6, by decide⟩ [0, 0, 0] [0, 0, 0] rfl ⟨by decide +kernel, ⟨rfl, by decide +kernel⟩, (xcs_c rfl (xcs_c rfl (xcs_c rfl xcs_n))), (xe_0 (xe_0 (xe_c (by omega) (by omega) rfl xe_n))), xkq_n⟩ xst_n ?_ ?_
      · show (0 ≤ x0 0 ∧ x0 0 ≤ xE (zyEl zymx B s.heap) 74 33) ∧ (∀ k, 0 ≤ k → k < 556 → xE (zyEl zymx B H2) 76 k = xE (zyEl zymx B s.heap) 75 k) ∧ (∃ w a, pAll (xE (zyEl zymx B s.heap) 84) (x0 0) = .error (w, a) ∧ 1 ≤ w ∧ xE (zyEl zymx B H2) 74 34 = w ∧ xE (zyEl zymx B H2) 74 35 = a) ∧ (xE (zyEl zymx B H2) 74 33 = 0 ∧ xE (zyEl zymx B H2) 74 2 = 9) ∧ (∀ k, 0 ≤ k → k < (0 : Int) → xE (zyEl zymx B H2) 75 k = xE (zyEl zymx B s.heap) 75 k) ∧ 0 ≤ (0 : Int)
        exact ⟨i1, fun k k0 k1 => (e76 k).trans (hw k k0 k1), ⟨_, _, hX.2, hX.1, by omega, by omega⟩, by omega, fun k k0 k1 => by omega, by omega⟩
      · show 2 * (600 - (0 : Int)).toNat + 1 < 3000
        omega
    · have hx : x ∈ [zxflr_px0] := hx
      have hag : ∀ k, k < 3 → v2 k = v k := hag
      have hfr : xFr [] _ _ := hfr
      have ex := List.mem_singleton.mp hx
      subst ex
      obtain ⟨hF, hBd, hM⟩ := hXs
      have r3 := hr2 3
      have g2 : v2 2 = v 2 := hag 2 (by decide)
      have b0 : ((2147483648 : Nat) : Int) ≤ (v2 2) + 2147483648 ∧ (v2 2) + 2147483648 ≤ ((2147484203 : Nat) : Int) := xXb hBd 0 rfl
      have f0 : (v2 2) < 556 := xXf hF 0 rfl
      have f1 : (0 : Int) ≤ (v2 2) ∧ xE (zyEl zymx B H) 76 (v2 2) = (v2 3) := xXf hF 1 rfl
      have e74_2 : xE (zyEl zymx B H2) 74 2 = xE (zyEl zymx B H) 74 2 := xFr_E hfr rfl
      have e74_33 : xE (zyEl zymx B H2) 74 33 = xE (zyEl zymx B H) 74 33 := xFr_E hfr rfl
      have e74_34 : xE (zyEl zymx B H2) 74 34 = xE (zyEl zymx B H) 74 34 := xFr_E hfr rfl
      have e74_35 : xE (zyEl zymx B H2) 74 35 = xE (zyEl zymx B H) 74 35 := xFr_E hfr rfl
      have e74_36 : xE (zyEl zymx B H2) 74 36 = xE (zyEl zymx B H) 74 36 := xFr_E hfr rfl
      have e74_37 : xE (zyEl zymx B H2) 74 37 = xE (zyEl zymx B H) 74 37 := xFr_E hfr rfl
      have e74_39 : xE (zyEl zymx B H2) 74 39 = xE (zyEl zymx B H) 74 39 := xFr_E hfr rfl
      have e74_42 : xE (zyEl zymx B H2) 74 42 = xE (zyEl zymx B H) 74 42 := xFr_E hfr rfl
      have e84 : ∀ i, xE (zyEl zymx B H2) 84 i = xE (zyEl zymx B H) 84 i := fun i => xFr_E hfr rfl
      have q84 : ∀ i, xE (zyEl zymx B H) 84 i = xE (zyEl zymx B s.heap) 84 i := fun i => xFr_E hFr0 rfl
      have e75 : ∀ i, xE (zyEl zymx B H2) 75 i = xE (zyEl zymx B H) 75 i := fun i => xFr_E hfr rfl
      have e76 : ∀ i, xE (zyEl zymx B H2) 76 i = xE (zyEl zymx B H) 76 i := fun i => xFr_E hfr rfl
      have y74_33 : ((2147483648 : Nat) : Int) ≤ xE (zyEl zymx B s.heap) 74 33 + 2147483648 ∧ xE (zyEl zymx B s.heap) 74 33 + 2147483648 ≤ ((2147484548 : Nat) : Int) := xTyF hT0 74 33 33 rfl rfl rfl rfl rfl rfl
      have hI : (0 ≤ x0 0 ∧ x0 0 ≤ xE (zyEl zymx B s.heap) 74 33) ∧ (∀ k, 0 ≤ k → k < 556 → xE (zyEl zymx B H) 76 k = xE (zyEl zymx B s.heap) 75 k) ∧ (∃ w a, pAll (xE (zyEl zymx B s.heap) 84) (x0 0) = .error (w, a) ∧ 1 ≤ w ∧ xE (zyEl zymx B H) 74 34 = w ∧ xE (zyEl zymx B H) 74 35 = a) ∧ (xE (zyEl zymx B H) 74 33 = 0 ∧ xE (zyEl zymx B H) 74 2 = 9) ∧ (∀ k, 0 ≤ k → k < (v 2) → xE (zyEl zymx B H) 75 k = xE (zyEl zymx B s.heap) 75 k) ∧ 0 ≤ (v 2) := hInv
      obtain ⟨i1, hw, hX, i2, hc, i3⟩ := hI
      have hPW := (show xΦlr x0 (zyEl zymx B s.heap) from hΦ)
      have hEE : (zyEl zymx B H2) = (zyEl zymx B H) := xFr_n hfr
      have ev : xE (zyEl zymx B s.heap) 75 (v 2) = (v2 3) := by
        rw [← hw _ i3 (by omega), show v 2 = (v2 2) by omega]
        exact f1.2
      refine xSt hRu hIH hAt hB hv hFr 75 (ax := 0) 103079215105 68719476737 (v2 3) (v2 2) rfl (Or.inl ⟨rfl, rfl⟩) rfl (by decide +kernel) rfl rfl (by omega) (by show (v2 2) < ((556 : Nat) : Int); omega) (fun r hr q1 q2 => by rw [List.mem_singleton.mp hr]; exact ⟨rfl, by show ((0 : Nat) : Int) ≤ (v2 3) + 2147483648; omega, by show (v2 3) + 2147483648 ≤ ((4294967295 : Nat) : Int); omega⟩) (zyin_iff.mpr ⟨(75, 0, 555), by decide, rfl, (by show 0 ≤ Int.toNat (v2 2); omega), by show Int.toNat (v2 2) ≤ 555; omega⟩) (fun H3 hT3 hst3 hne3 hfn3 hFr3 => ?_)
      have hfe3 : ∀ (a2 : Nat) (k2 : Int), ¬ a2 = 75 → xE (zyEl zymx B H3) a2 k2 = xE (zyEl zymx B H2) a2 k2 := fun a2 k2 hne => by unfold xE; rw [hfn3 a2 k2.toNat (fun z => hne z.1)]
      have d74_2 : xE (zyEl zymx B H3) 74 2 = xE (zyEl zymx B H2) 74 2 := hfe3 74 2 (fun z => absurd z (by decide))
      have d74_33 : xE (zyEl zymx B H3) 74 33 = xE (zyEl zymx B H2) 74 33 := hfe3 74 33 (fun z => absurd z (by decide))
      have d74_34 : xE (zyEl zymx B H3) 74 34 = xE (zyEl zymx B H2) 74 34 := hfe3 74 34 (fun z => absurd z (by decide))
      have d74_35 : xE (zyEl zymx B H3) 74 35 = xE (zyEl zymx B H2) 74 35 := hfe3 74 35 (fun z => absurd z (by decide))
      have d74_36 : xE (zyEl zymx B H3) 74 36 = xE (zyEl zymx B H2) 74 36 := hfe3 74 36 (fun z => absurd z (by decide))
      have d74_37 : xE (zyEl zymx B H3) 74 37 = xE (zyEl zymx B H2) 74 37 := hfe3 74 37 (fun z => absurd z (by decide))
      have d74_39 : xE (zyEl zymx B H3) 74 39 = xE (zyEl zymx B H2) 74 39 := hfe3 74 39 (fun z => absurd z (by decide))
      have d74_42 : xE (zyEl zymx B H3) 74 42 = xE (zyEl zymx B H2) 74 42 := hfe3 74 42 (fun z => absurd z (by decide))
      refine ⟨⟨7, by decide⟩, [0, 0, 68719476737], [0, 0, (v2 2)], rfl, ⟨by decide +kernel, ⟨rfl, by decide +kernel⟩, (xcs_c rfl (xcs_c rfl (xcs_c rfl xcs_n))), (xe_0 (xe_0 (xe_c (by omega) (by omega) rfl xe_n))), xkq_n⟩, rfl, ?_, ?_⟩
      · show (0 ≤ x0 0 ∧ x0 0 ≤ xE (zyEl zymx B s.heap) 74 33) ∧ (∀ k, 0 ≤ k → k < 556 → xE (zyEl zymx B H3) 76 k = xE (zyEl zymx B s.heap) 75 k) ∧ (∃ w a, pAll (xE (zyEl zymx B s.heap) 84) (x0 0) = .error (w, a) ∧ 1 ≤ w ∧ xE (zyEl zymx B H3) 74 34 = w ∧ xE (zyEl zymx B H3) 74 35 = a) ∧ (xE (zyEl zymx B H3) 74 33 = 0 ∧ xE (zyEl zymx B H3) 74 2 = 9) ∧ (∀ k, 0 ≤ k → k < ((v2 2) : Int) + 1 → xE (zyEl zymx B H3) 75 k = xE (zyEl zymx B s.heap) 75 k) ∧ 0 ≤ ((v2 2) : Int)
        refine ⟨i1, fun k k0 k1 => ((hfe3 76 k (by decide)).trans (e76 k)).trans (hw k k0 k1), ?_, by omega, fun k k0 k1 => ?_, by omega⟩
        · obtain ⟨w, a, hA, h1, h2, h3⟩ := hX
          exact ⟨w, a, hA, h1, by omega, by omega⟩
        · by_cases e : k = v 2
          · rw [e, ev, show v 2 = (v2 2) by omega]
            exact hst3
          · rw [hne3 75 k k0 (fun z => e (by omega)), e75]
            exact hc k k0 (by omega)
      · show 2 * (600 - ((v2 2) : Int)).toNat < 2 * (600 - (v 2)).toNat + 1
        omega
    · have hx : x ∈ [zxflr_qx0] := hx
      have hag : ∀ k, k < 3 → v2 k = v k := hag
      have hfr : xFr [] _ _ := hfr
      have ex := List.mem_singleton.mp hx
      subst ex
      obtain ⟨hF, hBd, hM⟩ := hXs
      have g2 : v2 2 = v 2 := hag 2 (by decide)
      have b0 : ((2147483648 : Nat) : Int) ≤ (v2 2) + 2147483648 ∧ (v2 2) + 2147483648 ≤ ((2147484203 : Nat) : Int) := xXb hBd 0 rfl
      have b1 : ((2147483649 : Nat) : Int) ≤ (v2 2 + 1) + 2147483648 ∧ (v2 2 + 1) + 2147483648 ≤ ((2147484204 : Nat) : Int) := xXb hBd 1 rfl
      have e74_2 : xE (zyEl zymx B H2) 74 2 = xE (zyEl zymx B H) 74 2 := xFr_E hfr rfl
      have e74_33 : xE (zyEl zymx B H2) 74 33 = xE (zyEl zymx B H) 74 33 := xFr_E hfr rfl
      have e74_34 : xE (zyEl zymx B H2) 74 34 = xE (zyEl zymx B H) 74 34 := xFr_E hfr rfl
      have e74_35 : xE (zyEl zymx B H2) 74 35 = xE (zyEl zymx B H) 74 35 := xFr_E hfr rfl
      have e74_36 : xE (zyEl zymx B H2) 74 36 = xE (zyEl zymx B H) 74 36 := xFr_E hfr rfl
      have e74_37 : xE (zyEl zymx B H2) 74 37 = xE (zyEl zymx B H) 74 37 := xFr_E hfr rfl
      have e74_39 : xE (zyEl zymx B H2) 74 39 = xE (zyEl zymx B H) 74 39 := xFr_E hfr rfl
      have e74_42 : xE (zyEl zymx B H2) 74 42 = xE (zyEl zymx B H) 74 42 := xFr_E hfr rfl
      have e84 : ∀ i, xE (zyEl zymx B H2) 84 i = xE (zyEl zymx B H) 84 i := fun i => xFr_E hfr rfl
      have q84 : ∀ i, xE (zyEl zymx B H) 84 i = xE (zyEl zymx B s.heap) 84 i := fun i => xFr_E hFr0 rfl
      have e75 : ∀ i, xE (zyEl zymx B H2) 75 i = xE (zyEl zymx B H) 75 i := fun i => xFr_E hfr rfl
      have e76 : ∀ i, xE (zyEl zymx B H2) 76 i = xE (zyEl zymx B H) 76 i := fun i => xFr_E hfr rfl
      have y74_33 : ((2147483648 : Nat) : Int) ≤ xE (zyEl zymx B s.heap) 74 33 + 2147483648 ∧ xE (zyEl zymx B s.heap) 74 33 + 2147483648 ≤ ((2147484548 : Nat) : Int) := xTyF hT0 74 33 33 rfl rfl rfl rfl rfl rfl
      have hI : (0 ≤ x0 0 ∧ x0 0 ≤ xE (zyEl zymx B s.heap) 74 33) ∧ (∀ k, 0 ≤ k → k < 556 → xE (zyEl zymx B H) 76 k = xE (zyEl zymx B s.heap) 75 k) ∧ (∃ w a, pAll (xE (zyEl zymx B s.heap) 84) (x0 0) = .error (w, a) ∧ 1 ≤ w ∧ xE (zyEl zymx B H) 74 34 = w ∧ xE (zyEl zymx B H) 74 35 = a) ∧ (xE (zyEl zymx B H) 74 33 = 0 ∧ xE (zyEl zymx B H) 74 2 = 9) ∧ (∀ k, 0 ≤ k → k < (v 2) + 1 → xE (zyEl zymx B H) 75 k = xE (zyEl zymx B s.heap) 75 k) ∧ 0 ≤ (v 2) := hInv
      obtain ⟨i1, hw, hX, i2, hc, i3⟩ := hI
      have hEE : (zyEl zymx B H2) = (zyEl zymx B H) := xFr_n hfr
      refine xGo hIH hAt hB hv hFr ⟨6, by decide⟩ [0, 0, 68719476745] [0, 0, (v2 2 + 1)] rfl ⟨by decide +kernel, ⟨rfl, by decide +kernel⟩, (xcs_c rfl (xcs_c rfl (xcs_c rfl xcs_n))), (xe_0 (xe_0 (xe_c (by omega) (by omega) rfl xe_n))), xkq_n⟩ xst_n ?_ ?_
      · show (0 ≤ x0 0 ∧ x0 0 ≤ xE (zyEl zymx B s.heap) 74 33) ∧ (∀ k, 0 ≤ k → k < 556 → xE (zyEl zymx B H2) 76 k = xE (zyEl zymx B s.heap) 75 k) ∧ (∃ w a, pAll (xE (zyEl zymx B s.heap) 84) (x0 0) = .error (w, a) ∧ 1 ≤ w ∧ xE (zyEl zymx B H2) 74 34 = w ∧ xE (zyEl zymx B H2) 74 35 = a) ∧ (xE (zyEl zymx B H2) 74 33 = 0 ∧ xE (zyEl zymx B H2) 74 2 = 9) ∧ (∀ k, 0 ≤ k → k < ((v2 2 + 1) : Int) → xE (zyEl zymx B H2) 75 k = xE (zyEl zymx B s.heap) 75 k) ∧ 0 ≤ ((v2 2 + 1) : Int)
        rw [hEE]
        exact ⟨i1, hw, hX, i2, fun k k0 k1 => hc k k0 (by omega), by omega⟩
      · show 2 * (600 - ((v2 2 + 1) : Int)).toNat + 1 < 2 * (600 - (v 2)).toNat
        omega
  · intro x0 E0 E E2 hrx hT0 hΦ i v hT hrv hInv hKc hFr0 x hx v2 hr2 hXs hag hfr hFr hT2
    rcases i with ⟨i, hi⟩
    have hi2 : i = 0 ∨ i = 1 ∨ i = 2 ∨ i = 3 ∨ i = 4 ∨ i = 5 ∨ i = 6 ∨ i = 7 := by omega
    rcases hi2 with rfl | rfl | rfl | rfl | rfl | rfl | rfl | rfl
    · cases hx
    · have hx : x ∈ [zxflr_ar0, zxflr_ar1] := hx
      have hag : ∀ k, k < 4 → v2 k = v k := hag
      have hfr : xFr [(74, 2, 3)] _ _ := hfr
      rcases List.mem_cons.mp hx with ex | hx
      · subst ex
        obtain ⟨hF, hBd, hM⟩ := hXs
        have g1 : v2 1 = v 1 := hag 1 (by decide)
        have g3 : v2 3 = v 3 := hag 3 (by decide)
        have b0 : ((0 : Nat) : Int) ≤ (v2 1) + 2147483648 ∧ (v2 1) + 2147483648 ≤ ((2147483647 : Nat) : Int) := xXb hBd 0 rfl
        have k0 : xE E 74 33 = v 3 := xKcf hKc 0 rfl rfl
        have f0 : (v2 1) < 0 := xXf hF 0 rfl
        have m0 : xE E2 74 2 = 1 := xXm hM 0 rfl
        have e74_33 : xE E2 74 33 = xE E 74 33 := xFr_E hfr rfl
        have e74_34 : xE E2 74 34 = xE E 74 34 := xFr_E hfr rfl
        have e74_35 : xE E2 74 35 = xE E 74 35 := xFr_E hfr rfl
        have e74_36 : xE E2 74 36 = xE E 74 36 := xFr_E hfr rfl
        have e74_37 : xE E2 74 37 = xE E 74 37 := xFr_E hfr rfl
        have e74_39 : xE E2 74 39 = xE E 74 39 := xFr_E hfr rfl
        have e74_42 : xE E2 74 42 = xE E 74 42 := xFr_E hfr rfl
        have e84 : ∀ i, xE E2 84 i = xE E 84 i := fun i => xFr_E hfr rfl
        have q84 : ∀ i, xE E 84 i = xE E0 84 i := fun i => xFr_E hFr0 rfl
        have e75 : ∀ i, xE E2 75 i = xE E 75 i := fun i => xFr_E hfr rfl
        have e76 : ∀ i, xE E2 76 i = xE E 76 i := fun i => xFr_E hfr rfl
        have y74_33 : ((2147483648 : Nat) : Int) ≤ xE E0 74 33 + 2147483648 ∧ xE E0 74 33 + 2147483648 ≤ ((2147484548 : Nat) : Int) := xTyF hT0 74 33 33 rfl rfl rfl rfl rfl rfl
        have hI : E = E0 ∧ (v 1) = x0 0 := hInv
        have q74_2 : xE E 74 2 = xE E0 74 2 := by rw [hI.1]
        have q74_33 : xE E 74 33 = xE E0 74 33 := by rw [hI.1]
        have q74_34 : xE E 74 34 = xE E0 74 34 := by rw [hI.1]
        have q74_35 : xE E 74 35 = xE E0 74 35 := by rw [hI.1]
        have q74_36 : xE E 74 36 = xE E0 74 36 := by rw [hI.1]
        have q74_37 : xE E 74 37 = xE E0 74 37 := by rw [hI.1]
        have q74_39 : xE E 74 39 = xE E0 74 39 := by rw [hI.1]
        have q74_42 : xE E 74 42 = xE E0 74 42 := by rw [hI.1]
        have q75 : ∀ i, xE E 75 i = xE E0 75 i := fun i => by rw [hI.1]
        have q76 : ∀ i, xE E 76 i = xE E0 76 i := fun i => by rw [hI.1]
        show xΨlr x0 E0 E2 (-1)
        obtain ⟨hE, i1⟩ := hI
        unfold xΨlr
        rw [if_neg (by omega)]
        exact ⟨rfl, by omega, by omega, by omega, by omega, fun k k0 k1 => (e75 k).trans (q75 k)⟩
      · skip
        have ex := List.mem_singleton.mp hx
        subst ex
        obtain ⟨hF, hBd, hM⟩ := hXs
        have g1 : v2 1 = v 1 := hag 1 (by decide)
        have g3 : v2 3 = v 3 := hag 3 (by decide)
        have b0 : ((2147483649 : Nat) : Int) ≤ (v2 1) + 2147483648 ∧ (v2 1) + 2147483648 ≤ ((4294967295 : Nat) : Int) := xXb hBd 0 rfl
        have b1 : ((2147483648 : Nat) : Int) ≤ (v2 3) + 2147483648 ∧ (v2 3) + 2147483648 ≤ ((2147484548 : Nat) : Int) := xXb hBd 1 rfl
        have k0 : xE E 74 33 = v 3 := xKcf hKc 0 rfl rfl
        have f0 : 0 ≤ (v2 1) := xXf hF 0 rfl
        have f1 : (v2 3) < (v2 1) := xXf hF 1 rfl
        have m0 : xE E2 74 2 = 1 := xXm hM 0 rfl
        have e74_33 : xE E2 74 33 = xE E 74 33 := xFr_E hfr rfl
        have e74_34 : xE E2 74 34 = xE E 74 34 := xFr_E hfr rfl
        have e74_35 : xE E2 74 35 = xE E 74 35 := xFr_E hfr rfl
        have e74_36 : xE E2 74 36 = xE E 74 36 := xFr_E hfr rfl
        have e74_37 : xE E2 74 37 = xE E 74 37 := xFr_E hfr rfl
        have e74_39 : xE E2 74 39 = xE E 74 39 := xFr_E hfr rfl
        have e74_42 : xE E2 74 42 = xE E 74 42 := xFr_E hfr rfl
        have e84 : ∀ i, xE E2 84 i = xE E 84 i := fun i => xFr_E hfr rfl
        have q84 : ∀ i, xE E 84 i = xE E0 84 i := fun i => xFr_E hFr0 rfl
        have e75 : ∀ i, xE E2 75 i = xE E 75 i := fun i => xFr_E hfr rfl
        have e76 : ∀ i, xE E2 76 i = xE E 76 i := fun i => xFr_E hfr rfl
        have y74_33 : ((2147483648 : Nat) : Int) ≤ xE E0 74 33 + 2147483648 ∧ xE E0 74 33 + 2147483648 ≤ ((2147484548 : Nat) : Int) := xTyF hT0 74 33 33 rfl rfl rfl rfl rfl rfl
        have hI : E = E0 ∧ (v 1) = x0 0 := hInv
        have q74_2 : xE E 74 2 = xE E0 74 2 := by rw [hI.1]
        have q74_33 : xE E 74 33 = xE E0 74 33 := by rw [hI.1]
        have q74_34 : xE E 74 34 = xE E0 74 34 := by rw [hI.1]
        have q74_35 : xE E 74 35 = xE E0 74 35 := by rw [hI.1]
        have q74_36 : xE E 74 36 = xE E0 74 36 := by rw [hI.1]
        have q74_37 : xE E 74 37 = xE E0 74 37 := by rw [hI.1]
        have q74_39 : xE E 74 39 = xE E0 74 39 := by rw [hI.1]
        have q74_42 : xE E 74 42 = xE E0 74 42 := by rw [hI.1]
        have q75 : ∀ i, xE E 75 i = xE E0 75 i := fun i => by rw [hI.1]
        have q76 : ∀ i, xE E 76 i = xE E0 76 i := fun i => by rw [hI.1]
        show xΨlr x0 E0 E2 (-1)
        obtain ⟨hE, i1⟩ := hI
        unfold xΨlr
        rw [if_neg (by omega)]
        exact ⟨rfl, by omega, by omega, by omega, by omega, fun k k0 k1 => (e75 k).trans (q75 k)⟩
    · cases hx
    · cases hx
    · cases hx
    · have hx : x ∈ [zxflr_mr0] := hx
      have hag : ∀ k, k < 7 → v2 k = v k := hag
      have hfr : xFr [(74, 2, 2), (74, 33, 35)] _ _ := hfr
      have ex := List.mem_singleton.mp hx
      subst ex
      obtain ⟨hF, hBd, hM⟩ := hXs
      have r5 := hr2 5
      have r6 := hr2 6
      have r7 := hr2 7
      have r8 := hr2 8
      have g3 : v2 3 = v 3 := hag 3 (by decide)
      have g4 : v2 4 = v 4 := hag 4 (by decide)
      have g5 : v2 5 = v 5 := hag 5 (by decide)
      have g6 : v2 6 = v 6 := hag 6 (by decide)
      have b0 : ((2147483648 : Nat) : Int) ≤ (v2 3) + 2147483648 ∧ (v2 3) + 2147483648 ≤ ((2147483648 : Nat) : Int) := xXb hBd 0 rfl
      have k0 : xE E 74 36 = v 3 := xKcf hKc 0 rfl rfl
      have k1 : xE E 74 37 = v 4 := xKcf hKc 1 rfl rfl
      have k2 : xE E 75 0 = v 5 := xKcf hKc 2 rfl rfl
      have k3 : xE E 75 1 = v 6 := xKcf hKc 3 rfl rfl
      have f0 : (v2 3) ≤ 0 := xXf hF 0 rfl
      have f1 : (v2 3) ≤ 0 := xXf hF 1 rfl
      have f2 : (v2 3) = 0 := xXf hF 2 rfl
      have f3 : -2147483648 ≤ 4 * (v2 5) → 4 * (v2 5) < 2147483648 → (v2 7) = 4 * (v2 5) := xXf hF 3 rfl
      have f4 : -2147483648 ≤ (v2 7) * (v2 6) → (v2 7) * (v2 6) < 2147483648 → (v2 8) = (v2 7) * (v2 6) := xXf hF 4 rfl
      have m0 : xE E2 74 2 = 0 := xXm hM 0 rfl
      have m1 : xE E2 74 33 = 0 := xXm hM 1 rfl
      have m2 : xE E2 74 34 = (v2 3) := xXm hM 2 rfl
      have m3 : xE E2 74 35 = (-1) := xXm hM 3 rfl
      have e74_36 : xE E2 74 36 = xE E 74 36 := xFr_E hfr rfl
      have e74_37 : xE E2 74 37 = xE E 74 37 := xFr_E hfr rfl
      have e74_39 : xE E2 74 39 = xE E 74 39 := xFr_E hfr rfl
      have e74_42 : xE E2 74 42 = xE E 74 42 := xFr_E hfr rfl
      have e84 : ∀ i, xE E2 84 i = xE E 84 i := fun i => xFr_E hfr rfl
      have q84 : ∀ i, xE E 84 i = xE E0 84 i := fun i => xFr_E hFr0 rfl
      have e75 : ∀ i, xE E2 75 i = xE E 75 i := fun i => xFr_E hfr rfl
      have e76 : ∀ i, xE E2 76 i = xE E 76 i := fun i => xFr_E hfr rfl
      have y74_33 : ((2147483648 : Nat) : Int) ≤ xE E0 74 33 + 2147483648 ∧ xE E0 74 33 + 2147483648 ≤ ((2147484548 : Nat) : Int) := xTyF hT0 74 33 33 rfl rfl rfl rfl rfl rfl
      have hI : (0 ≤ x0 0 ∧ x0 0 ≤ xE E0 74 33) ∧ (∀ k, 0 ≤ k → k < 556 → xE E 76 k = xE E0 75 k) ∧ xRs (xE E0 84) (x0 0) E (pAll (xE E0 84) (x0 0)) := hInv
      show xΨlr x0 E0 E2 (v2 8)
      obtain ⟨i1, hw, hR⟩ := hI
      have hPW := (show xΦlr x0 E0 from hΦ)
      obtain ⟨q, S, hA, hq, hs, hu⟩ := xRs_o hR (by omega)
      have hI := pAll_I hA
      have h0 := hu 0 (by decide) (by decide)
      have h1 := hu 1 (by decide) (by decide)
      obtain ⟨y1, y2, y3, y4⟩ := hI
      have fA : (v2 7) = 4 * (v2 5) := by omega
      obtain ⟨w1, w2, w3⟩ := sN_of (r := S 0) (c := (v2 6)) (A := (v2 7)) y1 (by omega) (by omega) f4
      rw [show (v2 6) = S 1 by omega] at w1
      unfold xΨlr
      rw [if_pos i1, hA]
      exact ⟨by omega, w1, by omega, by omega, by omega, pAll_I hA, fun k k0 k1 => (e75 k).trans (hu k k0 k1)⟩
    · have hx : x ∈ [zxflr_pr0] := hx
      have hag : ∀ k, k < 3 → v2 k = v k := hag
      have hfr : xFr [] _ _ := hfr
      have ex := List.mem_singleton.mp hx
      subst ex
      obtain ⟨hF, hBd, hM⟩ := hXs
      have g2 : v2 2 = v 2 := hag 2 (by decide)
      have b0 : ((2147484204 : Nat) : Int) ≤ (v2 2) + 2147483648 ∧ (v2 2) + 2147483648 ≤ ((2147484204 : Nat) : Int) := xXb hBd 0 rfl
      have f0 : 556 ≤ (v2 2) := xXf hF 0 rfl
      have e74_2 : xE E2 74 2 = xE E 74 2 := xFr_E hfr rfl
      have e74_33 : xE E2 74 33 = xE E 74 33 := xFr_E hfr rfl
      have e74_34 : xE E2 74 34 = xE E 74 34 := xFr_E hfr rfl
      have e74_35 : xE E2 74 35 = xE E 74 35 := xFr_E hfr rfl
      have e74_36 : xE E2 74 36 = xE E 74 36 := xFr_E hfr rfl
      have e74_37 : xE E2 74 37 = xE E 74 37 := xFr_E hfr rfl
      have e74_39 : xE E2 74 39 = xE E 74 39 := xFr_E hfr rfl
      have e74_42 : xE E2 74 42 = xE E 74 42 := xFr_E hfr rfl
      have e84 : ∀ i, xE E2 84 i = xE E 84 i := fun i => xFr_E hfr rfl
      have q84 : ∀ i, xE E 84 i = xE E0 84 i := fun i => xFr_E hFr0 rfl
      have e75 : ∀ i, xE E2 75 i = xE E 75 i := fun i => xFr_E hfr rfl
      have e76 : ∀ i, xE E2 76 i = xE E 76 i := fun i => xFr_E hfr rfl
      have y74_33 : ((2147483648 : Nat) : Int) ≤ xE E0 74 33 + 2147483648 ∧ xE E0 74 33 + 2147483648 ≤ ((2147484548 : Nat) : Int) := xTyF hT0 74 33 33 rfl rfl rfl rfl rfl rfl
      have hI : (0 ≤ x0 0 ∧ x0 0 ≤ xE E0 74 33) ∧ (∀ k, 0 ≤ k → k < 556 → xE E 76 k = xE E0 75 k) ∧ (∃ w a, pAll (xE E0 84) (x0 0) = .error (w, a) ∧ 1 ≤ w ∧ xE E 74 34 = w ∧ xE E 74 35 = a) ∧ (xE E 74 33 = 0 ∧ xE E 74 2 = 9) ∧ (∀ k, 0 ≤ k → k < (v 2) → xE E 75 k = xE E0 75 k) ∧ 0 ≤ (v 2) := hInv
      show xΨlr x0 E0 E2 (-1)
      obtain ⟨i1, hw, hX, i2, hc, i3⟩ := hI
      have hPW := (show xΦlr x0 E0 from hΦ)
      have hEE : E2 = E := xFr_n hfr
      obtain ⟨w, a, hA, h1, h2, h3⟩ := hX
      unfold xΨlr
      rw [if_pos i1, hA, hEE]
      exact ⟨i2.1, rfl, h1, i2.2, h2, h3, fun k k0 k1 => hc k k0 (by omega)⟩
    · cases hx
