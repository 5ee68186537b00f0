/-! THE REFERENCE reads all (printed by m28.py) -/
noncomputable def zxfra_zx0 : zyXp := (0, [595, 13, 13], [], [], [], [])
noncomputable def zpfra_z : zyPh := (0, [595, 13, 13], [(0, 4294967295), (0, 4294967295), (0, 4294967295)], [], [])
noncomputable def zxfra_ax0 : zyXp := (3, [595, 13, 13], [0, 595, 595], [], [], [])
noncomputable def zpfra_a : zyPh := (0, [595, 13, 13], [(0, 4294967295), (0, 4294967295), (0, 4294967295)], [], [])
noncomputable def zxfra_bx0 : zyXp := (6, [595, 13, 13], [103079215105, 595], [], [(103079215105, 2147483648, 2147483649)], [])
noncomputable def zpfra_b : zyPh := (6, [595, 13, 13], [(0, 4294967295), (0, 4294967295), (0, 4294967295), (2147483648, 2147483649)], [], [103079215105, 595])
noncomputable def zxfra_cx0 : zyXp := (12, [595, 13, 13], [32, 8, 595], [], [], [])
noncomputable def zpfra_c : zyPh := (9, [595, 13, 13], [(0, 4294967295), (0, 4294967295), (0, 4294967295)], [], [])
noncomputable def zxfra_dx0 : zyXp := (19, [595, 103079215105, 13], [40, 8, 595], [], [], [])
noncomputable def zpfra_d : zyPh := (15, [595, 13, 13], [(0, 4294967295), (0, 4294967295), (0, 4294967295), (0, 4294967295)], [], [103079215105])
noncomputable def zxfra_ex0 : zyXp := (27, [595, 34359738369, 103079215105], [472, 595, 595], [], [], [])
noncomputable def zpfra_e : zyPh := (22, [595, 34359738369, 13], [(0, 4294967295), (0, 4294967295), (0, 4294967295), (0, 4294967295)], [], [103079215105])
noncomputable def zxfra_fx0 : zyXp := (30, [595, 34359738369, 68719476737], [103079215105, 595], [], [(103079215105, 2147483648, 2147483649)], [])
noncomputable def zpfra_f : zyPh := (30, [595, 34359738369, 68719476737], [(0, 4294967295), (0, 4294967295), (0, 4294967295), (2147483648, 2147483649)], [], [103079215105, 595])
noncomputable def zxfra_gx0 : zyXp := (44, [595, 34359738369, 68719476737], [68719476737, 34359738369, 595], [(21, 0, 0, 103079215105)], [(103079215105, 2147483648, 2147483648)], [])
noncomputable def zxfra_gr0 : zyXp := (0, [], [], [(20, 0, 0, 103079215105)], [(103079215105, 2147483649, 2147483657)], [])
noncomputable def zpfra_g : zyPh := (33, [595, 34359738369, 68719476737], [(0, 4294967295), (0, 4294967295), (0, 4294967295), (2147483648, 2147483657)], [(1212452, 103079215105)], [])
noncomputable def zxfra_hx0 : zyXp := (62, [595, 13, 13], [595], [(22, 0, 103079215105, 0), (23, 0, 137438953473, 0)], [(103079215105, 2147483648, 2147483648), (137438953473, 2147483649, 2147483652)], [])
noncomputable def zxfra_hr0 : zyXp := (0, [], [], [(23, 0, 103079215105, 0)], [(103079215105, 2147483649, 2147483657)], [])
noncomputable def zxfra_hr1 : zyXp := (0, [], [], [(22, 0, 103079215105, 0), (22, 0, 137438953473, 0)], [(103079215105, 2147483648, 2147483648), (137438953473, 2147483648, 2147483648)], [])
noncomputable def zpfra_h : zyPh := (47, [595, 13, 13], [(0, 4294967295), (0, 4294967295), (0, 4294967295), (2147483648, 2147483657), (2147483648, 2147483652)], [(1212452, 103079215105), (1212456, 137438953473)], [])
noncomputable def zxfra_ix0 : zyXp := (47, [595, 13, 13], [], [], [], [])
noncomputable def zpfra_i : zyPh := (65, [595, 13, 13], [(0, 4294967295), (0, 4294967295), (0, 4294967295)], [], [])
noncomputable def zpfra (i : Nat) : zyPh := zif (Nat.beq i 0) (zpfra_z) (zif (Nat.beq i 1) (zpfra_a) (zif (Nat.beq i 2) (zpfra_b) (zif (Nat.beq i 3) (zpfra_c) (zif (Nat.beq i 4) (zpfra_d) (zif (Nat.beq i 5) (zpfra_e) (zif (Nat.beq i 6) (zpfra_f) (zif (Nat.beq i 7) (zpfra_g) (zif (Nat.beq i 8) (zpfra_h) (zpfra_i)))))))))
noncomputable def zXfra (i : Nat) : List zyXp := zif (Nat.beq i 0) ([zxfra_zx0]) (zif (Nat.beq i 1) ([zxfra_ax0]) (zif (Nat.beq i 2) ([zxfra_bx0]) (zif (Nat.beq i 3) ([zxfra_cx0]) (zif (Nat.beq i 4) ([zxfra_dx0]) (zif (Nat.beq i 5) ([zxfra_ex0]) (zif (Nat.beq i 6) ([zxfra_fx0]) (zif (Nat.beq i 7) ([zxfra_gx0]) (zif (Nat.beq i 8) ([zxfra_hx0]) ([zxfra_ix0])))))))))
noncomputable def zRfra (i : Nat) : List zyXp := zif (Nat.beq i 0) ([]) (zif (Nat.beq i 1) ([]) (zif (Nat.beq i 2) ([]) (zif (Nat.beq i 3) ([]) (zif (Nat.beq i 4) ([]) (zif (Nat.beq i 5) ([]) (zif (Nat.beq i 6) ([]) (zif (Nat.beq i 7) ([zxfra_gr0]) (zif (Nat.beq i 8) ([zxfra_hr0, zxfra_hr1]) ([])))))))))
noncomputable def zFfra (i : Nat) : zyR := zif (Nat.beq i 0) ([]) (zif (Nat.beq i 1) ([]) (zif (Nat.beq i 2) ([]) (zif (Nat.beq i 3) ([]) (zif (Nat.beq i 4) ([]) (zif (Nat.beq i 5) ([]) (zif (Nat.beq i 6) ([]) (zif (Nat.beq i 7) ([]) (zif (Nat.beq i 8) ([]) ([])))))))))
noncomputable def zSfra (i : Nat) : Nat := zif (Nat.beq i 0) (0) (zif (Nat.beq i 1) (0) (zif (Nat.beq i 2) (0) (zif (Nat.beq i 3) (0) (zif (Nat.beq i 4) (0) (zif (Nat.beq i 5) (0) (zif (Nat.beq i 6) (0) (zif (Nat.beq i 7) (0) (zif (Nat.beq i 8) (0) (0)))))))))
/-- all of a text is read -/
def xΦal (_ : Nat → Int) (E : zyEm) : Prop := xWs E ∧ xE E 74 36 = 0 ∧ 0 ≤ xE E 74 42 ∧ xRD (xE E 84) (xE E 74 42) 0 E
def xΨal (_ : Nat → Int) (E E2 : zyEm) (_ : Int) : Prop := xRs (xE E 84) (xE E 74 42) E2 (pAll (xE E 84) (xE E 74 42))
/-- a line's end stands behind where it began -/
theorem pLine_p2 {T : Int → Int} {n p q : Int} {S S2 : Int → Int} (h : p ≤ n) (hk : ¬ tKd T n p = 0) (he : pLine T n p S = .ok (q, S2)) : tFr T n p < tFr T n q ∧ tFr T n q ≤ n := by
  have hb := tFr_b (T := T) h
  have hl := (tKd_i (T := T) h).2 hk
  rw [← pLine_f] at he
  have hq := pLine_p hb.2 (by rw [tKd_f]; exact hk) he
  have := tFr_b (T := T) hq.2
  omega
noncomputable def fpfra : zyR := [(74, 36, 41), (74, 43, 43), (75, 0, 555)]
theorem zyfra_run : zyrS zymx zxi328 (328, 0, 0, 0, 0) 9 zpfra (fun _ _ => []) zFfra zSfra zXfra zRfra 10 = true := by decide +kernel
theorem zyfra_ck : zyAll (fun i => xsubR (zFfra i) fpfra && ((zXfra i).all xckX && (zRfra i).all (fun x => xckX x && xrtB false x))) 10 = true := by decide +kernel
def xIfra (i : Nat) (x0 : Nat → Int) (E0 : zyEm) (v : Nat → Int) (E : zyEm) : Prop := if i = 0 then (E = E0) else if i = 1 then (E = E0) else if i = 2 then (E = E0 ∧ ((v 3) = 1 ↔ tW (xE E0 84) (xE E0 74 42) 0 [115, 105, 122, 101] = true)) else if i = 3 then ((xE E 74 36 = 0 → ((tNx (xE E0 84) (xE E0 74 42) 0) ≤ (xE E0 74 42) ∧ xRD (xE E0 84) (xE E0 74 42) (tNx (xE E0 84) (xE E0 74 42) 0) E) ∧ tW (xE E0 84) (xE E0 74 42) 0 [115, 105, 122, 101] = true) ∧ (¬ xE E 74 36 = 0 → xEr E (pSz (xE E0 84) (xE E0 74 42)))) else if i = 4 then ((xE E 74 36 = 0 → (1 ≤ (v 3) ∧ (v 3) ≤ 4) ∧ ∃ p, ((p) ≤ (xE E0 74 42) ∧ xRD (xE E0 84) (xE E0 74 42) (p) E) ∧ pSz (xE E0 84) (xE E0 74 42) = pNum (xE E0 84) (xE E0 74 42) p 1 5 (fun c p2 => pSem (xE E0 84) (xE E0 74 42) p2 (pClr (v 3) c))) ∧ (¬ xE E 74 36 = 0 → xEr E (pSz (xE E0 84) (xE E0 74 42)))) else if i = 5 then ((xE E 74 36 = 0 → (1 ≤ (v 1) ∧ (v 1) ≤ 4) ∧ (1 ≤ (v 3) ∧ (v 3) ≤ 5) ∧ ∃ p, ((p) ≤ (xE E0 74 42) ∧ xRD (xE E0 84) (xE E0 74 42) (p) E) ∧ pSz (xE E0 84) (xE E0 74 42) = pSem (xE E0 84) (xE E0 74 42) p (pClr (v 1) (v 3))) ∧ (¬ xE E 74 36 = 0 → xEr E (pSz (xE E0 84) (xE E0 74 42)))) else if i = 6 then ((xE E 74 36 = 0 → (1 ≤ (v 1) ∧ (v 1) ≤ 4) ∧ (1 ≤ (v 2) ∧ (v 2) ≤ 5) ∧ ∃ p, ((p) ≤ (xE E0 74 42) ∧ xRD (xE E0 84) (xE E0 74 42) (p) E) ∧ pSz (xE E0 84) (xE E0 74 42) = pSem (xE E0 84) (xE E0 74 42) p (pClr (v 1) (v 2)) ∧ (v 3) = (if tKd (xE E0 84) (xE E0 74 42) p = 5 then 1 else 0)) ∧ (¬ xE E 74 36 = 0 → xEr E (pSz (xE E0 84) (xE E0 74 42)))) else if i = 7 then ((xE E 74 36 = 0 → (1 ≤ (v 1) ∧ (v 1) ≤ 4) ∧ (1 ≤ (v 2) ∧ (v 2) ≤ 5) ∧ ∃ p, (0 ≤ p) ∧ ((p) ≤ (xE E0 74 42) ∧ xRD (xE E0 84) (xE E0 74 42) (p) E) ∧ pSz (xE E0 84) (xE E0 74 42) = .ok (p, pClr (v 1) (v 2))) ∧ (¬ xE E 74 36 = 0 → xEr E (pSz (xE E0 84) (xE E0 74 42)))) else if i = 8 then ((xE E 74 36 = 0 → ∃ (f : Nat) (p : Int) (U : Int → Int), ((p) ≤ (xE E0 74 42) ∧ xRD (xE E0 84) (xE E0 74 42) (p) E) ∧ pAll (xE E0 84) (xE E0 74 42) = pLines (xE E0 84) (xE E0 74 42) f p U ∧ (xE E0 74 42) - p < f ∧ (xE E0 74 42) - p < xE E0 74 42 + 1 ∧ sI U ∧ (∀ k, 0 ≤ k → k < 520 → xE E 75 k = U k)) ∧ (¬ xE E 74 36 = 0 → xEr E (pAll (xE E0 84) (xE E0 74 42)))) else ((xE E 74 36 = 0 → ∃ (f : Nat) (p : Int) (U : Int → Int), ((p) ≤ (xE E0 74 42) ∧ xRD (xE E0 84) (xE E0 74 42) (p) E) ∧ pAll (xE E0 84) (xE E0 74 42) = pLines (xE E0 84) (xE E0 74 42) f p U ∧ (xE E0 74 42) - p < f ∧ (xE E0 74 42) - p < xE E0 74 42 + 1 ∧ sI U ∧ (∀ k, 0 ≤ k → k < 520 → xE E 75 k = U k)) ∧ (¬ xE E 74 36 = 0 → xEr E (pAll (xE E0 84) (xE E0 74 42))))
def xMfra (i : Nat) (x0 : Nat → Int) (E0 : zyEm) (v : Nat → Int) (E : zyEm) : Nat := if i = 0 then (9000) else if i = 1 then (8999) else if i = 2 then (8998) else if i = 3 then (8997) else if i = 4 then (8996) else if i = 5 then (8995) else if i = 6 then (8994) else if i = 7 then (8993) else if i = 8 then (2 * (if xE E 74 36 = 0 then (2 + xE E 74 42 - xE E 74 38).toNat else 0)) else (2 * (if xE E 74 36 = 0 then (2 + xE E 74 42 - xE E 74 38).toNat else 0) + 1)
theorem xAl {l : Launch} {en : zEn} {me : zMe} (hen : zG zxMeta 328 = some en) (hme : zG zMeth 328 = some me) : xFc l zymx en me 9 [74] 0 fpfra false xΦal xΨal := by
  have een : zG zxMeta 328 = some (zxi328, 1, 3, 11, 328, 0, 0, 0, 0) := rfl
  obtain ⟨me1, hme1, hOK⟩ := zall hen
  rw [hme] at hme1
  cases hme1
  rw [een] at hen
  cases hen
  have hr := zyfra_run
  have hck := fun i hi => zyAll_iff zyfra_ck i hi
  simp only [Bool.and_eq_true] at hck
  obtain ⟨mefiw, hmefiw, -⟩ := zall (show zG zxMeta 316 = some (zxi316, 2, 2, 11, 316, 0, 0, 2, 0) from rfl)
  have hfiw := xIw (l := l) (show zG zxMeta 316 = some (zxi316, 2, 2, 11, 316, 0, 0, 2, 0) from rfl) hmefiw
  obtain ⟨meftk, hmeftk, -⟩ := zall (show zG zxMeta 318 = some (zxi318, 2, 2, 11, 318, 0, 0, 0, 0) from rfl)
  have hftk := xTk (l := l) (show zG zxMeta 318 = some (zxi318, 2, 2, 11, 318, 0, 0, 0, 0) from rfl) hmeftk
  obtain ⟨meftm, hmeftm, -⟩ := zall (show zG zxMeta 320 = some (zxi320, 3, 4, 11, 320, 0, 0, 1, 0) from rfl)
  have hftm := xTm (l := l) (show zG zxMeta 320 = some (zxi320, 3, 4, 11, 320, 0, 0, 1, 0) from rfl) hmeftm
  obtain ⟨mefis, hmefis, -⟩ := zall (show zG zxMeta 317 = some (zxi317, 2, 2, 11, 317, 0, 0, 2, 0) from rfl)
  have hfis := xIs (l := l) (show zG zxMeta 317 = some (zxi317, 2, 2, 11, 317, 0, 0, 2, 0) from rfl) hmefis
  obtain ⟨mefcs, hmefcs, -⟩ := zall (show zG zxMeta 193 = some (zxi193, 3, 4, 11, 193, 0, 0, 0, 0) from rfl)
  have hfcs := xCs (l := l) (show zG zxMeta 193 = some (zxi193, 3, 4, 11, 193, 0, 0, 0, 0) from rfl) hmefcs
  obtain ⟨mefli, hmefli, -⟩ := zall (show zG zxMeta 327 = some (zxi327, 1, 1, 11, 327, 0, 0, 0, 0) from rfl)
  have hfli := xLn (l := l) (show zG zxMeta 327 = some (zxi327, 1, 1, 11, 327, 0, 0, 0, 0) from rfl) hmefli
  intro B
  refine xcut (mi := zymx) (B := B) hOK rfl rfl (ι := Fin 10) (fun i => zpfra i.val) (fun _ _ => []) (fun i => zFfra i.val) (fun i => zSfra i.val) (fun i => zXfra i.val) (fun i => zRfra i.val) (fun i y2 ct en2 me2 h => by cases h) 200000 (fun i => zyAll_iff hr i.val i.isLt) (fun i => (hck i.val i.isLt).1) (fun i => (hck i.val i.isLt).2.1) (fun i => (hck i.val i.isLt).2.2) ⟨0, by decide⟩ ⟨rfl, rfl, rfl, rfl⟩ ⟨by decide, by decide⟩ (fun i x0 E0 v E => xIfra i.val x0 E0 v E) (fun i x0 E0 v E => xMfra i.val x0 E0 v E) ?_ ?_ ?_
  · intro x0 E hx0 hT hΦ
    have hΦ : xΦal x0 E := hΦ
    refine ⟨fun k p hp => ?_, ?_⟩
    · have hk : k < 3 := (List.getElem?_eq_some_iff.mp hp).1
      have hk : k = 0 ∨ k = 1 ∨ k = 2 := by omega
      rcases hk with rfl | rfl | rfl
      · have hp : some (0, 4294967295) = some p := hp
        cases hp
        show ((0 : Nat) : Int) ≤ 0 + 2147483648 ∧ 0 + 2147483648 ≤ ((4294967295 : Nat) : Int)
        omega
      · have hp : some (0, 4294967295) = some p := hp
        cases hp
        show ((0 : Nat) : Int) ≤ x0 0 + 2147483648 ∧ x0 0 + 2147483648 ≤ ((4294967295 : Nat) : Int)
        have hx := hx0 0
        omega
      · have hp : some (0, 4294967295) = some p := hp
        cases hp
        show ((0 : Nat) : Int) ≤ x0 1 + 2147483648 ∧ x0 1 + 2147483648 ≤ ((4294967295 : Nat) : Int)
        have hx := hx0 1
        omega
    · show E = E
      rfl
  · intro x0 s Wg hRu hrx hT0 hΦ i v H hT hrv hInv hKc hFr0 hIH x hx ρ2 v2 N2 H2 locs lsB stA hAt hB hv hr2 hXs hag hfr hFr hT2
    rcases i with ⟨i, hi⟩
    have hi2 : i = 0 ∨ i = 1 ∨ i = 2 ∨ i = 3 ∨ i = 4 ∨ i = 5 ∨ i = 6 ∨ i = 7 ∨ i = 8 ∨ i = 9 := by omega
    rcases hi2 with rfl | rfl | rfl | rfl | rfl | rfl | rfl | rfl | rfl | rfl
    · have hx : x ∈ [zxfra_zx0] := hx
      have hag : ∀ k, k < 3 → v2 k = v k := hag
      have hfr : xFr [] _ _ := hfr
      have ex := List.mem_singleton.mp hx
      subst ex
      obtain ⟨hF, hBd, hM⟩ := hXs
      have e74_36 : xE (zyEl zymx B H2) 74 36 = xE (zyEl zymx B H) 74 36 := xFr_E hfr rfl
      have e74_37 : xE (zyEl zymx B H2) 74 37 = xE (zyEl zymx B H) 74 37 := xFr_E hfr rfl
      have e74_38 : xE (zyEl zymx B H2) 74 38 = xE (zyEl zymx B H) 74 38 := xFr_E hfr rfl
      have e74_39 : xE (zyEl zymx B H2) 74 39 = xE (zyEl zymx B H) 74 39 := xFr_E hfr rfl
      have e74_40 : xE (zyEl zymx B H2) 74 40 = xE (zyEl zymx B H) 74 40 := xFr_E hfr rfl
      have e74_41 : xE (zyEl zymx B H2) 74 41 = xE (zyEl zymx B H) 74 41 := xFr_E hfr rfl
      have e74_42 : xE (zyEl zymx B H2) 74 42 = xE (zyEl zymx B H) 74 42 := xFr_E hfr rfl
      have q74_42 : xE (zyEl zymx B H) 74 42 = xE (zyEl zymx B s.heap) 74 42 := xFr_E hFr0 rfl
      have e75_0 : xE (zyEl zymx B H2) 75 0 = xE (zyEl zymx B H) 75 0 := xFr_E hfr rfl
      have e75_1 : xE (zyEl zymx B H2) 75 1 = xE (zyEl zymx B H) 75 1 := xFr_E hfr rfl
      have e75_2 : xE (zyEl zymx B H2) 75 2 = xE (zyEl zymx B H) 75 2 := xFr_E hfr rfl
      have e84 : ∀ i, xE (zyEl zymx B H2) 84 i = xE (zyEl zymx B H) 84 i := fun i => xFr_E hfr rfl
      have q84 : ∀ i, xE (zyEl zymx B H) 84 i = xE (zyEl zymx B s.heap) 84 i := fun i => xFr_E hFr0 rfl
      have y74_42 : ((2147483648 : Nat) : Int) ≤ xE (zyEl zymx B s.heap) 74 42 + 2147483648 ∧ xE (zyEl zymx B s.heap) 74 42 + 2147483648 ≤ ((2147484548 : Nat) : Int) := xTyF hT0 74 42 42 rfl rfl rfl rfl rfl rfl
      have hI : (zyEl zymx B H) = (zyEl zymx B s.heap) := hInv
      have q74_36 : xE (zyEl zymx B H) 74 36 = xE (zyEl zymx B s.heap) 74 36 := by rw [hI]
      have q74_37 : xE (zyEl zymx B H) 74 37 = xE (zyEl zymx B s.heap) 74 37 := by rw [hI]
      have q74_38 : xE (zyEl zymx B H) 74 38 = xE (zyEl zymx B s.heap) 74 38 := by rw [hI]
      have q74_39 : xE (zyEl zymx B H) 74 39 = xE (zyEl zymx B s.heap) 74 39 := by rw [hI]
      have q74_40 : xE (zyEl zymx B H) 74 40 = xE (zyEl zymx B s.heap) 74 40 := by rw [hI]
      have q74_41 : xE (zyEl zymx B H) 74 41 = xE (zyEl zymx B s.heap) 74 41 := by rw [hI]
      have q75_0 : xE (zyEl zymx B H) 75 0 = xE (zyEl zymx B s.heap) 75 0 := by rw [hI]
      have q75_1 : xE (zyEl zymx B H) 75 1 = xE (zyEl zymx B s.heap) 75 1 := by rw [hI]
      have q75_2 : xE (zyEl zymx B H) 75 2 = xE (zyEl zymx B s.heap) 75 2 := by rw [hI]
      refine xGo hIH hAt hB hv hFr ⟨1, by decide⟩ [0, 0, 0] [0, 0, 0] rfl ⟨by decide +kernel, ⟨rfl, by decide +kernel⟩, (xcs_c rfl (xcs_c rfl (xcs_c rfl xcs_n))), (xe_0 (xe_0 (xe_0 xe_n))), xkq_n⟩ xst_n ?_ ?_
      · show (zyEl zymx B H2) = (zyEl zymx B s.heap)
        exact (xFr_n hfr).trans hI
      · show 8999 < 9000
        omega
    · have hx : x ∈ [zxfra_ax0] := hx
      have hag : ∀ k, k < 3 → v2 k = v k := hag
      have hfr : xFr [] _ _ := hfr
      have ex := List.mem_singleton.mp hx
      subst ex
      obtain ⟨hF, hBd, hM⟩ := hXs
      have e74_36 : xE (zyEl zymx B H2) 74 36 = xE (zyEl zymx B H) 74 36 := xFr_E hfr rfl
      have e74_37 : xE (zyEl zymx B H2) 74 37 = xE (zyEl zymx B H) 74 37 := xFr_E hfr rfl
      have e74_38 : xE (zyEl zymx B H2) 74 38 = xE (zyEl zymx B H) 74 38 := xFr_E hfr rfl
      have e74_39 : xE (zyEl zymx B H2) 74 39 = xE (zyEl zymx B H) 74 39 := xFr_E hfr rfl
      have e74_40 : xE (zyEl zymx B H2) 74 40 = xE (zyEl zymx B H) 74 40 := xFr_E hfr rfl
      have e74_41 : xE (zyEl zymx B H2) 74 41 = xE (zyEl zymx B H) 74 41 := xFr_E hfr rfl
      have e74_42 : xE (zyEl zymx B H2) 74 42 = xE (zyEl zymx B H) 74 42 := xFr_E hfr rfl
      have q74_42 : xE (zyEl zymx B H) 74 42 = xE (zyEl zymx B s.heap) 74 42 := xFr_E hFr0 rfl
      have e75_0 : xE (zyEl zymx B H2) 75 0 = xE (zyEl zymx B H) 75 0 := xFr_E hfr rfl
      have e75_1 : xE (zyEl zymx B H2) 75 1 = xE (zyEl zymx B H) 75 1 := xFr_E hfr rfl
      have e75_2 : xE (zyEl zymx B H2) 75 2 = xE (zyEl zymx B H) 75 2 := xFr_E hfr rfl
      have e84 : ∀ i, xE (zyEl zymx B H2) 84 i = xE (zyEl zymx B H) 84 i := fun i => xFr_E hfr rfl
      have q84 : ∀ i, xE (zyEl zymx B H) 84 i = xE (zyEl zymx B s.heap) 84 i := fun i => xFr_E hFr0 rfl
      have y74_42 : ((2147483648 : Nat) : Int) ≤ xE (zyEl zymx B s.heap) 74 42 + 2147483648 ∧ xE (zyEl zymx B s.heap) 74 42 + 2147483648 ≤ ((2147484548 : Nat) : Int) := xTyF hT0 74 42 42 rfl rfl rfl rfl rfl rfl
      have hI : (zyEl zymx B H) = (zyEl zymx B s.heap) := hInv
      have q74_36 : xE (zyEl zymx B H) 74 36 = xE (zyEl zymx B s.heap) 74 36 := by rw [hI]
      have q74_37 : xE (zyEl zymx B H) 74 37 = xE (zyEl zymx B s.heap) 74 37 := by rw [hI]
      have q74_38 : xE (zyEl zymx B H) 74 38 = xE (zyEl zymx B s.heap) 74 38 := by rw [hI]
      have q74_39 : xE (zyEl zymx B H) 74 39 = xE (zyEl zymx B s.heap) 74 39 := by rw [hI]
      have q74_40 : xE (zyEl zymx B H) 74 40 = xE (zyEl zymx B s.heap) 74 40 := by rw [hI]
      have q74_41 : xE (zyEl zymx B H) 74 41 = xE (zyEl zymx B s.heap) 74 41 := by rw [hI]
      have q75_0 : xE (zyEl zymx B H) 75 0 = xE (zyEl zymx B s.heap) 75 0 := by rw [hI]
      have q75_1 : xE (zyEl zymx B H) 75 1 = xE (zyEl zymx B s.heap) 75 1 := by rw [hI]
      have q75_2 : xE (zyEl zymx B H) 75 2 = xE (zyEl zymx B s.heap) 75 2 := by rw [hI]
      have hE := hI
      have hEE : (zyEl zymx B H2) = (zyEl zymx B s.heap) := (xFr_n hfr).trans hE
      obtain ⟨hPW, hP1, hP2, hP3⟩ := (show xΦal x0 (zyEl zymx B s.heap) from hΦ)
      refine xCa hRu hIH hAt hB hv hFr (hfiw B) (ix := 459) (ax := 5056) rfl rfl rfl hmefiw ⟨_, rfl, rfl, by decide⟩ ⟨rfl, rfl, rfl⟩ (by decide) [0] [595] [0] rfl ⟨rfl, rfl⟩ (by decide +kernel) (xcs_c rfl xcs_n) (by decide +kernel) ?_ (fun H3 r hT3 hf3 hFr3 hr3 hΨ3 => ?_)
      · show xΦiw (xfv [0]) (zyEl zymx B H2)
        rw [hEE]
        exact ⟨by decide, hPW⟩
      · have hΨ3 : xΨiw (xfv [0]) (zyEl zymx B H2) (zyEl zymx B H3) r := hΨ3
        have d74_36 : xE (zyEl zymx B H3) 74 36 = xE (zyEl zymx B H2) 74 36 := xFr_E hf3 rfl
        have d74_37 : xE (zyEl zymx B H3) 74 37 = xE (zyEl zymx B H2) 74 37 := xFr_E hf3 rfl
        have d74_38 : xE (zyEl zymx B H3) 74 38 = xE (zyEl zymx B H2) 74 38 := xFr_E hf3 rfl
        have d74_39 : xE (zyEl zymx B H3) 74 39 = xE (zyEl zymx B H2) 74 39 := xFr_E hf3 rfl
        have d74_40 : xE (zyEl zymx B H3) 74 40 = xE (zyEl zymx B H2) 74 40 := xFr_E hf3 rfl
        have d74_41 : xE (zyEl zymx B H3) 74 41 = xE (zyEl zymx B H2) 74 41 := xFr_E hf3 rfl
        have d74_42 : xE (zyEl zymx B H3) 74 42 = xE (zyEl zymx B H2) 74 42 := xFr_E hf3 rfl
        have d75_0 : xE (zyEl zymx B H3) 75 0 = xE (zyEl zymx B H2) 75 0 := xFr_E hf3 rfl
        have d75_1 : xE (zyEl zymx B H3) 75 1 = xE (zyEl zymx B H2) 75 1 := xFr_E hf3 rfl
        have d75_2 : xE (zyEl zymx B H3) 75 2 = xE (zyEl zymx B H2) 75 2 := xFr_E hf3 rfl
        have d84 : ∀ i, xE (zyEl zymx B H3) 84 i = xE (zyEl zymx B H2) 84 i := fun i => xFr_E hf3 rfl
        obtain ⟨hb, hb0, hb1⟩ := (show xΨiw (xfv [0]) (zyEl zymx B H2) (zyEl zymx B H3) r from hΨ3)
        rw [hEE] at hb1
        have hw : r = 1 ↔ tW (xE (zyEl zymx B s.heap) 84) (xE (zyEl zymx B s.heap) 74 42) 0 [115, 105, 122, 101] = true := hb1 _ hP2 hP3 hP1
        have hE3 : (zyEl zymx B H3) = (zyEl zymx B s.heap) := (xFr_n hf3).trans hEE
        refine ⟨⟨2, by decide⟩, [0, 0, 0], [0, 0, 0, r], rfl, ⟨by decide +kernel, ⟨rfl, by decide +kernel⟩, (xcs_c rfl (xcs_c rfl (xcs_c rfl xcs_n))), (xe_0 (xe_0 (xe_0 (xe_c (by omega) (by omega) rfl xe_n)))), xkq_n⟩, (by rw [if_pos rfl]; exact ⟨3, [595], rfl, by decide, rfl, (xst_r rfl xst_n)⟩), ?_, ?_⟩
        · show (zyEl zymx B H3) = (zyEl zymx B s.heap) ∧ ((r : Int) = 1 ↔ tW (xE (zyEl zymx B s.heap) 84) (xE (zyEl zymx B s.heap) 74 42) 0 [115, 105, 122, 101] = true)
          exact ⟨hE3, hw⟩
        · show 8998 < 8999
          omega
    · have hx : x ∈ [zxfra_bx0] := hx
      have hag : ∀ k, k < 4 → v2 k = v k := hag
      have hfr : xFr [] _ _ := hfr
      have ex := List.mem_singleton.mp hx
      subst ex
      obtain ⟨hF, hBd, hM⟩ := hXs
      have g3 : v2 3 = v 3 := hag 3 (by decide)
      have b0 : ((2147483648 : Nat) : Int) ≤ (v2 3) + 2147483648 ∧ (v2 3) + 2147483648 ≤ ((2147483649 : Nat) : Int) := xXb hBd 0 rfl
      have e74_36 : xE (zyEl zymx B H2) 74 36 = xE (zyEl zymx B H) 74 36 := xFr_E hfr rfl
      have e74_37 : xE (zyEl zymx B H2) 74 37 = xE (zyEl zymx B H) 74 37 := xFr_E hfr rfl
      have e74_38 : xE (zyEl zymx B H2) 74 38 = xE (zyEl zymx B H) 74 38 := xFr_E hfr rfl
      have e74_39 : xE (zyEl zymx B H2) 74 39 = xE (zyEl zymx B H) 74 39 := xFr_E hfr rfl
      have e74_40 : xE (zyEl zymx B H2) 74 40 = xE (zyEl zymx B H) 74 40 := xFr_E hfr rfl
      have e74_41 : xE (zyEl zymx B H2) 74 41 = xE (zyEl zymx B H) 74 41 := xFr_E hfr rfl
      have e74_42 : xE (zyEl zymx B H2) 74 42 = xE (zyEl zymx B H) 74 42 := xFr_E hfr rfl
      have q74_42 : xE (zyEl zymx B H) 74 42 = xE (zyEl zymx B s.heap) 74 42 := xFr_E hFr0 rfl
      have e75_0 : xE (zyEl zymx B H2) 75 0 = xE (zyEl zymx B H) 75 0 := xFr_E hfr rfl
      have e75_1 : xE (zyEl zymx B H2) 75 1 = xE (zyEl zymx B H) 75 1 := xFr_E hfr rfl
      have e75_2 : xE (zyEl zymx B H2) 75 2 = xE (zyEl zymx B H) 75 2 := xFr_E hfr rfl
      have e84 : ∀ i, xE (zyEl zymx B H2) 84 i = xE (zyEl zymx B H) 84 i := fun i => xFr_E hfr rfl
      have q84 : ∀ i, xE (zyEl zymx B H) 84 i = xE (zyEl zymx B s.heap) 84 i := fun i => xFr_E hFr0 rfl
      have y74_42 : ((2147483648 : Nat) : Int) ≤ xE (zyEl zymx B s.heap) 74 42 + 2147483648 ∧ xE (zyEl zymx B s.heap) 74 42 + 2147483648 ≤ ((2147484548 : Nat) : Int) := xTyF hT0 74 42 42 rfl rfl rfl rfl rfl rfl
      have hI : (zyEl zymx B H) = (zyEl zymx B s.heap) ∧ ((v 3) = 1 ↔ tW (xE (zyEl zymx B s.heap) 84) (xE (zyEl zymx B s.heap) 74 42) 0 [115, 105, 122, 101] = true) := hInv
      have q74_36 : xE (zyEl zymx B H) 74 36 = xE (zyEl zymx B s.heap) 74 36 := by rw [hI.1]
      have q74_37 : xE (zyEl zymx B H) 74 37 = xE (zyEl zymx B s.heap) 74 37 := by rw [hI.1]
      have q74_38 : xE (zyEl zymx B H) 74 38 = xE (zyEl zymx B s.heap) 74 38 := by rw [hI.1]
      have q74_39 : xE (zyEl zymx B H) 74 39 = xE (zyEl zymx B s.heap) 74 39 := by rw [hI.1]
      have q74_40 : xE (zyEl zymx B H) 74 40 = xE (zyEl zymx B s.heap) 74 40 := by rw [hI.1]
      have q74_41 : xE (zyEl zymx B H) 74 41 = xE (zyEl zymx B s.heap) 74 41 := by rw [hI.1]
      have q75_0 : xE (zyEl zymx B H) 75 0 = xE (zyEl zymx B s.heap) 75 0 := by rw [hI.1]
      have q75_1 : xE (zyEl zymx B H) 75 1 = xE (zyEl zymx B s.heap) 75 1 := by rw [hI.1]
      have q75_2 : xE (zyEl zymx B H) 75 2 = xE (zyEl zymx B s.heap) 75 2 := by rw [hI.1]
      obtain ⟨hE, i1⟩ := hI
      have hEE : (zyEl zymx B H2) = (zyEl zymx B s.heap) := (xFr_n hfr).trans hE
      obtain ⟨hPW, hP1, hP2, hP3⟩ := (show xΦal x0 (zyEl zymx B s.heap) from hΦ)
      refine xCa hRu hIH hAt hB hv hFr (hftk B) (ix := 462) (ax := 5088) rfl rfl rfl hmeftk ⟨_, rfl, rfl, by decide⟩ ⟨rfl, rfl, rfl⟩ (by decide) [103079215105] [] [(v2 3)] rfl ⟨rfl, rfl⟩ (by decide +kernel) (xcs_c rfl xcs_n) (by decide +kernel) ?_ (fun H3 r hT3 hf3 hFr3 hr3 hΨ3 => ?_)
      · show xΦtk (xfv [(v2 3)]) (zyEl zymx B H2)
        rw [hEE]
        intro q1 q2
        have q2 : ¬ (v2 3) = 0 := q2
        have hk := tW_k (i1.mp (by omega))
        obtain ⟨s1, s1b, s2, s3, s4, s5, s6, s7, s8⟩ := xRD_i hP3 hP2
        omega
      · have hΨ3 : xΨtk (xfv [(v2 3)]) (zyEl zymx B H2) (zyEl zymx B H3) r := hΨ3
        have d74_42 : xE (zyEl zymx B H3) 74 42 = xE (zyEl zymx B H2) 74 42 := xFr_E hf3 rfl
        have d75_0 : xE (zyEl zymx B H3) 75 0 = xE (zyEl zymx B H2) 75 0 := xFr_E hf3 rfl
        have d75_1 : xE (zyEl zymx B H3) 75 1 = xE (zyEl zymx B H2) 75 1 := xFr_E hf3 rfl
        have d75_2 : xE (zyEl zymx B H3) 75 2 = xE (zyEl zymx B H2) 75 2 := xFr_E hf3 rfl
        have d84 : ∀ i, xE (zyEl zymx B H3) 84 i = xE (zyEl zymx B H2) 84 i := fun i => xFr_E hf3 rfl
        have hg := fun p hw hs hp => xTk_g (T := (xE (zyEl zymx B s.heap) 84)) (n := (xE (zyEl zymx B s.heap) 74 42)) (p := p) (x := xfv [(v2 3)]) hΨ3 hw hs hp (fun i => (e84 i).trans (q84 i)) (by omega)
        have hge : ¬ xE (zyEl zymx B H2) 74 36 = 0 → xE (zyEl zymx B H3) 74 36 = xE (zyEl zymx B H2) 74 36 ∧ xE (zyEl zymx B H3) 74 37 = xE (zyEl zymx B H2) 74 37 := fun hw => xTk_e (x := xfv [(v2 3)]) hΨ3 hw
        refine ⟨⟨3, by decide⟩, [0, 0, 0], [0, 0, 0], rfl, ⟨by decide +kernel, ⟨rfl, by decide +kernel⟩, (xcs_c rfl (xcs_c rfl (xcs_c rfl xcs_n))), (xe_0 (xe_0 (xe_0 xe_n))), xkq_n⟩, (by rw [if_neg (by decide)]; exact xst_n), ?_, ?_⟩
        · show (xE (zyEl zymx B H3) 74 36 = 0 → ((tNx (xE (zyEl zymx B s.heap) 84) (xE (zyEl zymx B s.heap) 74 42) 0) ≤ (xE (zyEl zymx B s.heap) 74 42) ∧ xRD (xE (zyEl zymx B s.heap) 84) (xE (zyEl zymx B s.heap) 74 42) (tNx (xE (zyEl zymx B s.heap) 84) (xE (zyEl zymx B s.heap) 74 42) 0) (zyEl zymx B H3)) ∧ tW (xE (zyEl zymx B s.heap) 84) (xE (zyEl zymx B s.heap) 74 42) 0 [115, 105, 122, 101] = true) ∧ (¬ xE (zyEl zymx B H3) 74 36 = 0 → xEr (zyEl zymx B H3) (pSz (xE (zyEl zymx B s.heap) 84) (xE (zyEl zymx B s.heap) 74 42)))
          obtain ⟨g1, g2⟩ := hg 0 (by omega) (by rw [hEE]; exact hP3) hP2
          have g1 : ¬ (v2 3) = 0 → _ := g1
          have g2 : (v2 3) = 0 → _ := g2
          by_cases cw : tW (xE (zyEl zymx B s.heap) 84) (xE (zyEl zymx B s.heap) 74 42) 0 [115, 105, 122, 101] = true
          · have g1 := g1 (by have := i1.mpr cw; omega) (by have := tW_k cw; omega)
            exact ⟨fun hz => ⟨⟨g1.2.2.1, g1.2.1⟩, cw⟩, fun hz => absurd g1.1 hz⟩
          · have g2 := g2 (by have : ¬ v 3 = 1 := fun z => cw (i1.mp z); omega)
            refine ⟨fun hz => (xEr_1 g2 hz).elim, fun hz => ?_⟩
            unfold pSz
            rw [if_neg cw]
            exact g2
        · show 8997 < 8998
          omega
    · have hx : x ∈ [zxfra_cx0] := hx
      have hag : ∀ k, k < 3 → v2 k = v k := hag
      have hfr : xFr [] _ _ := hfr
      have ex := List.mem_singleton.mp hx
      subst ex
      obtain ⟨hF, hBd, hM⟩ := hXs
      have e74_36 : xE (zyEl zymx B H2) 74 36 = xE (zyEl zymx B H) 74 36 := xFr_E hfr rfl
      have e74_37 : xE (zyEl zymx B H2) 74 37 = xE (zyEl zymx B H) 74 37 := xFr_E hfr rfl
      have e74_38 : xE (zyEl zymx B H2) 74 38 = xE (zyEl zymx B H) 74 38 := xFr_E hfr rfl
      have e74_39 : xE (zyEl zymx B H2) 74 39 = xE (zyEl zymx B H) 74 39 := xFr_E hfr rfl
      have e74_40 : xE (zyEl zymx B H2) 74 40 = xE (zyEl zymx B H) 74 40 := xFr_E hfr rfl
      have e74_41 : xE (zyEl zymx B H2) 74 41 = xE (zyEl zymx B H) 74 41 := xFr_E hfr rfl
      have e74_42 : xE (zyEl zymx B H2) 74 42 = xE (zyEl zymx B H) 74 42 := xFr_E hfr rfl
      have q74_42 : xE (zyEl zymx B H) 74 42 = xE (zyEl zymx B s.heap) 74 42 := xFr_E hFr0 rfl
      have e75_0 : xE (zyEl zymx B H2) 75 0 = xE (zyEl zymx B H) 75 0 := xFr_E hfr rfl
      have e75_1 : xE (zyEl zymx B H2) 75 1 = xE (zyEl zymx B H) 75 1 := xFr_E hfr rfl
      have e75_2 : xE (zyEl zymx B H2) 75 2 = xE (zyEl zymx B H) 75 2 := xFr_E hfr rfl
      have e84 : ∀ i, xE (zyEl zymx B H2) 84 i = xE (zyEl zymx B H) 84 i := fun i => xFr_E hfr rfl
      have q84 : ∀ i, xE (zyEl zymx B H) 84 i = xE (zyEl zymx B s.heap) 84 i := fun i => xFr_E hFr0 rfl
      have y74_42 : ((2147483648 : Nat) : Int) ≤ xE (zyEl zymx B s.heap) 74 42 + 2147483648 ∧ xE (zyEl zymx B s.heap) 74 42 + 2147483648 ≤ ((2147484548 : Nat) : Int) := xTyF hT0 74 42 42 rfl rfl rfl rfl rfl rfl
      have hI : (xE (zyEl zymx B H) 74 36 = 0 → ((tNx (xE (zyEl zymx B s.heap) 84) (xE (zyEl zymx B s.heap) 74 42) 0) ≤ (xE (zyEl zymx B s.heap) 74 42) ∧ xRD (xE (zyEl zymx B s.heap) 84) (xE (zyEl zymx B s.heap) 74 42) (tNx (xE (zyEl zymx B s.heap) 84) (xE (zyEl zymx B s.heap) 74 42) 0) (zyEl zymx B H)) ∧ tW (xE (zyEl zymx B s.heap) 84) (xE (zyEl zymx B s.heap) 74 42) 0 [115, 105, 122, 101] = true) ∧ (¬ xE (zyEl zymx B H) 74 36 = 0 → xEr (zyEl zymx B H) (pSz (xE (zyEl zymx B s.heap) 84) (xE (zyEl zymx B s.heap) 74 42))) := hInv
      obtain ⟨i1, i2⟩ := hI
      have hEE : (zyEl zymx B H2) = (zyEl zymx B H) := xFr_n hfr
      obtain ⟨hPW, hP1, hP2, hP3⟩ := (show xΦal x0 (zyEl zymx B s.heap) from hΦ)
      refine xCa hRu hIH hAt hB hv hFr (hftm B) (ix := 456) (ax := 5120) rfl rfl rfl hmeftm ⟨_, rfl, rfl, by decide⟩ ⟨rfl, rfl, rfl⟩ (by decide) [8, 32] [] [1, 4] rfl ⟨rfl, rfl⟩ (by decide +kernel) (xcs_c rfl (xcs_c rfl xcs_n)) (by decide +kernel) ?_ (fun H3 r hT3 hf3 hFr3 hr3 hΨ3 => ?_)
      · show xΦtm (xfv [1, 4]) (zyEl zymx B H2)
        intro q1 q2
        obtain ⟨⟨j1, j2⟩, j3⟩ := i1 (by omega)
        obtain ⟨s1, s1b, s2, s3, s4, s5, s6, s7, s8⟩ := xRD_i j2 j1
        omega
      · have hΨ3 : xΨtm (xfv [1, 4]) (zyEl zymx B H2) (zyEl zymx B H3) r := hΨ3
        have d74_42 : xE (zyEl zymx B H3) 74 42 = xE (zyEl zymx B H2) 74 42 := xFr_E hf3 rfl
        have d75_0 : xE (zyEl zymx B H3) 75 0 = xE (zyEl zymx B H2) 75 0 := xFr_E hf3 rfl
        have d75_1 : xE (zyEl zymx B H3) 75 1 = xE (zyEl zymx B H2) 75 1 := xFr_E hf3 rfl
        have d75_2 : xE (zyEl zymx B H3) 75 2 = xE (zyEl zymx B H2) 75 2 := xFr_E hf3 rfl
        have d84 : ∀ i, xE (zyEl zymx B H3) 84 i = xE (zyEl zymx B H2) 84 i := fun i => xFr_E hf3 rfl
        have hg : ∀ p, xE (zyEl zymx B H2) 74 36 = 0 → p ≤ (xE (zyEl zymx B s.heap) 74 42) → xRD (xE (zyEl zymx B s.heap) 84) (xE (zyEl zymx B s.heap) 74 42) p (zyEl zymx B H2) → (xE (zyEl zymx B H3) 74 36 = 0 ∧ xRD (xE (zyEl zymx B s.heap) 84) (xE (zyEl zymx B s.heap) 74 42) (tNx (xE (zyEl zymx B s.heap) 84) (xE (zyEl zymx B s.heap) 74 42) p) (zyEl zymx B H3) ∧ tNx (xE (zyEl zymx B s.heap) 84) (xE (zyEl zymx B s.heap) 74 42) p ≤ (xE (zyEl zymx B s.heap) 74 42) ∧ p < tNx (xE (zyEl zymx B s.heap) 84) (xE (zyEl zymx B s.heap) 74 42) p ∧ 1 ≤ r ∧ r ≤ 4 ∧ ∀ k, pNum (xE (zyEl zymx B s.heap) 84) (xE (zyEl zymx B s.heap) 74 42) p 1 4 k = k r (tNx (xE (zyEl zymx B s.heap) 84) (xE (zyEl zymx B s.heap) 74 42) p)) ∨ (∀ k, xEr (zyEl zymx B H3) (pNum (xE (zyEl zymx B s.heap) 84) (xE (zyEl zymx B s.heap) 74 42) p 1 4 k)) := fun p hw hp hs => xTm_g (x := xfv [1, 4]) hΨ3 hw hs hp (fun i => (e84 i).trans (q84 i)) (by omega)
        have hge : ¬ xE (zyEl zymx B H2) 74 36 = 0 → xE (zyEl zymx B H3) 74 36 = xE (zyEl zymx B H2) 74 36 ∧ xE (zyEl zymx B H3) 74 37 = xE (zyEl zymx B H2) 74 37 := fun hw => xTm_e (x := xfv [1, 4]) hΨ3 hw
        refine ⟨⟨4, by decide⟩, [0, 0, 0], [0, 0, 0, r], rfl, ⟨by decide +kernel, ⟨rfl, by decide +kernel⟩, (xcs_c rfl (xcs_c rfl (xcs_c rfl xcs_n))), (xe_0 (xe_0 (xe_0 (xe_f (by omega) xe_n)))), xkq_n⟩, (by rw [if_pos rfl]; exact ⟨3, [], rfl, by decide, rfl, xst_n⟩), ?_, ?_⟩
        · show (xE (zyEl zymx B H3) 74 36 = 0 → (1 ≤ (r : Int) ∧ (r : Int) ≤ 4) ∧ ∃ p, ((p) ≤ (xE (zyEl zymx B s.heap) 74 42) ∧ xRD (xE (zyEl zymx B s.heap) 84) (xE (zyEl zymx B s.heap) 74 42) (p) (zyEl zymx B H3)) ∧ pSz (xE (zyEl zymx B s.heap) 84) (xE (zyEl zymx B s.heap) 74 42) = pNum (xE (zyEl zymx B s.heap) 84) (xE (zyEl zymx B s.heap) 74 42) p 1 5 (fun c p2 => pSem (xE (zyEl zymx B s.heap) 84) (xE (zyEl zymx B s.heap) 74 42) p2 (pClr (r : Int) c))) ∧ (¬ xE (zyEl zymx B H3) 74 36 = 0 → xEr (zyEl zymx B H3) (pSz (xE (zyEl zymx B s.heap) 84) (xE (zyEl zymx B s.heap) 74 42)))
          refine ⟨fun hz => ?_, fun hz => ?_⟩
          · by_cases hw : xE (zyEl zymx B H2) 74 36 = 0
            · obtain ⟨⟨j1, j2⟩, j3⟩ := i1 (by omega)
              rcases hg _ hw j1 (by rw [hEE]; exact j2) with ⟨h1, h2, h3, h4, h5, h6, h7⟩ | he
              · refine ⟨⟨h5, h6⟩, _, ⟨h3, h2⟩, ?_⟩
                unfold pSz
                rw [if_pos j3]
                exact h7 _
              · exact (xEr_1 (he (fun _ _ => .error (0, 0))) hz).elim
            · have := hge hw
              omega
          · by_cases hw : xE (zyEl zymx B H2) 74 36 = 0
            · obtain ⟨⟨j1, j2⟩, j3⟩ := i1 (by omega)
              rcases hg _ hw j1 (by rw [hEE]; exact j2) with ⟨h1, h2, h3, h4, h5, h6, h7⟩ | he
              · exact absurd h1 hz
              · unfold pSz
                rw [if_pos j3]
                exact he _
            · have := hge hw
              exact xEr_k (i2 (by omega)) (by omega) (by omega)
        · show 8996 < 8997
          omega
    · have hx : x ∈ [zxfra_dx0] := hx
      have hag : ∀ k, k < 4 → v2 k = v k := hag
      have hfr : xFr [] _ _ := hfr
      have ex := List.mem_singleton.mp hx
      subst ex
      obtain ⟨hF, hBd, hM⟩ := hXs
      have r3 := hr2 3
      have g3 : v2 3 = v 3 := hag 3 (by decide)
      have e74_36 : xE (zyEl zymx B H2) 74 36 = xE (zyEl zymx B H) 74 36 := xFr_E hfr rfl
      have e74_37 : xE (zyEl zymx B H2) 74 37 = xE (zyEl zymx B H) 74 37 := xFr_E hfr rfl
      have e74_38 : xE (zyEl zymx B H2) 74 38 = xE (zyEl zymx B H) 74 38 := xFr_E hfr rfl
      have e74_39 : xE (zyEl zymx B H2) 74 39 = xE (zyEl zymx B H) 74 39 := xFr_E hfr rfl
      have e74_40 : xE (zyEl zymx B H2) 74 40 = xE (zyEl zymx B H) 74 40 := xFr_E hfr rfl
      have e74_41 : xE (zyEl zymx B H2) 74 41 = xE (zyEl zymx B H) 74 41 := xFr_E hfr rfl
      have e74_42 : xE (zyEl zymx B H2) 74 42 = xE (zyEl zymx B H) 74 42 := xFr_E hfr rfl
      have q74_42 : xE (zyEl zymx B H) 74 42 = xE (zyEl zymx B s.heap) 74 42 := xFr_E hFr0 rfl
      have e75_0 : xE (zyEl zymx B H2) 75 0 = xE (zyEl zymx B H) 75 0 := xFr_E hfr rfl
      have e75_1 : xE (zyEl zymx B H2) 75 1 = xE (zyEl zymx B H) 75 1 := xFr_E hfr rfl
      have e75_2 : xE (zyEl zymx B H2) 75 2 = xE (zyEl zymx B H) 75 2 := xFr_E hfr rfl
      have e84 : ∀ i, xE (zyEl zymx B H2) 84 i = xE (zyEl zymx B H) 84 i := fun i => xFr_E hfr rfl
      have q84 : ∀ i, xE (zyEl zymx B H) 84 i = xE (zyEl zymx B s.heap) 84 i := fun i => xFr_E hFr0 rfl
      have y74_42 : ((2147483648 : Nat) : Int) ≤ xE (zyEl zymx B s.heap) 74 42 + 2147483648 ∧ xE (zyEl zymx B s.heap) 74 42 + 2147483648 ≤ ((2147484548 : Nat) : Int) := xTyF hT0 74 42 42 rfl rfl rfl rfl rfl rfl
      have hI : (xE (zyEl zymx B H) 74 36 = 0 → (1 ≤ (v 3) ∧ (v 3) ≤ 4) ∧ ∃ p, ((p) ≤ (xE (zyEl zymx B s.heap) 74 42) ∧ xRD (xE (zyEl zymx B s.heap) 84) (xE (zyEl zymx B s.heap) 74 42) (p) (zyEl zymx B H)) ∧ pSz (xE (zyEl zymx B s.heap) 84) (xE (zyEl zymx B s.heap) 74 42) = pNum (xE (zyEl zymx B s.heap) 84) (xE (zyEl zymx B s.heap) 74 42) p 1 5 (fun c p2 => pSem (xE (zyEl zymx B s.heap) 84) (xE (zyEl zymx B s.heap) 74 42) p2 (pClr (v 3) c))) ∧ (¬ xE (zyEl zymx B H) 74 36 = 0 → xEr (zyEl zymx B H) (pSz (xE (zyEl zymx B s.heap) 84) (xE (zyEl zymx B s.heap) 74 42))) := hInv
      obtain ⟨i1, i2⟩ := hI
      have hEE : (zyEl zymx B H2) = (zyEl zymx B H) := xFr_n hfr
      obtain ⟨hPW, hP1, hP2, hP3⟩ := (show xΦal x0 (zyEl zymx B s.heap) from hΦ)
      refine xCa hRu hIH hAt hB hv hFr (hftm B) (ix := 456) (ax := 5120) rfl rfl rfl hmeftm ⟨_, rfl, rfl, by decide⟩ ⟨rfl, rfl, rfl⟩ (by decide) [8, 40] [] [1, 5] rfl ⟨rfl, rfl⟩ (by decide +kernel) (xcs_c rfl (xcs_c rfl xcs_n)) (by decide +kernel) ?_ (fun H3 r hT3 hf3 hFr3 hr3 hΨ3 => ?_)
      · show xΦtm (xfv [1, 5]) (zyEl zymx B H2)
        intro q1 q2
        obtain ⟨j0, p, ⟨j1, j2⟩, j3⟩ := i1 (by omega)
        obtain ⟨s1, s1b, s2, s3, s4, s5, s6, s7, s8⟩ := xRD_i j2 j1
        omega
      · have hΨ3 : xΨtm (xfv [1, 5]) (zyEl zymx B H2) (zyEl zymx B H3) r := hΨ3
        have d74_42 : xE (zyEl zymx B H3) 74 42 = xE (zyEl zymx B H2) 74 42 := xFr_E hf3 rfl
        have d75_0 : xE (zyEl zymx B H3) 75 0 = xE (zyEl zymx B H2) 75 0 := xFr_E hf3 rfl
        have d75_1 : xE (zyEl zymx B H3) 75 1 = xE (zyEl zymx B H2) 75 1 := xFr_E hf3 rfl
        have d75_2 : xE (zyEl zymx B H3) 75 2 = xE (zyEl zymx B H2) 75 2 := xFr_E hf3 rfl
        have d84 : ∀ i, xE (zyEl zymx B H3) 84 i = xE (zyEl zymx B H2) 84 i := fun i => xFr_E hf3 rfl
        have hg : ∀ p, xE (zyEl zymx B H2) 74 36 = 0 → p ≤ (xE (zyEl zymx B s.heap) 74 42) → xRD (xE (zyEl zymx B s.heap) 84) (xE (zyEl zymx B s.heap) 74 42) p (zyEl zymx B H2) → (xE (zyEl zymx B H3) 74 36 = 0 ∧ xRD (xE (zyEl zymx B s.heap) 84) (xE (zyEl zymx B s.heap) 74 42) (tNx (xE (zyEl zymx B s.heap) 84) (xE (zyEl zymx B s.heap) 74 42) p) (zyEl zymx B H3) ∧ tNx (xE (zyEl zymx B s.heap) 84) (xE (zyEl zymx B s.heap) 74 42) p ≤ (xE (zyEl zymx B s.heap) 74 42) ∧ p < tNx (xE (zyEl zymx B s.heap) 84) (xE (zyEl zymx B s.heap) 74 42) p ∧ 1 ≤ r ∧ r ≤ 5 ∧ ∀ k, pNum (xE (zyEl zymx B s.heap) 84) (xE (zyEl zymx B s.heap) 74 42) p 1 5 k = k r (tNx (xE (zyEl zymx B s.heap) 84) (xE (zyEl zymx B s.heap) 74 42) p)) ∨ (∀ k, xEr (zyEl zymx B H3) (pNum (xE (zyEl zymx B s.heap) 84) (xE (zyEl zymx B s.heap) 74 42) p 1 5 k)) := fun p hw hp hs => xTm_g (x := xfv [1, 5]) hΨ3 hw hs hp (fun i => (e84 i).trans (q84 i)) (by omega)
        have hge : ¬ xE (zyEl zymx B H2) 74 36 = 0 → xE (zyEl zymx B H3) 74 36 = xE (zyEl zymx B H2) 74 36 ∧ xE (zyEl zymx B H3) 74 37 = xE (zyEl zymx B H2) 74 37 := fun hw => xTm_e (x := xfv [1, 5]) hΨ3 hw
        refine ⟨⟨5, by decide⟩, [0, 103079215105, 0], [0, (v2 3), 0, r], rfl, ⟨by decide +kernel, ⟨rfl, by decide +kernel⟩, (xcs_c rfl (xcs_c rfl (xcs_c rfl xcs_n))), (xe_0 (xe_f (by omega) (xe_0 (xe_f (by omega) xe_n)))), xkq_n⟩, (by rw [if_pos rfl]; exact ⟨3, [], rfl, by decide, rfl, xst_n⟩), ?_, ?_⟩
        · show (xE (zyEl zymx B H3) 74 36 = 0 → (1 ≤ ((v2 3) : Int) ∧ ((v2 3) : Int) ≤ 4) ∧ (1 ≤ (r : Int) ∧ (r : Int) ≤ 5) ∧ ∃ p, ((p) ≤ (xE (zyEl zymx B s.heap) 74 42) ∧ xRD (xE (zyEl zymx B s.heap) 84) (xE (zyEl zymx B s.heap) 74 42) (p) (zyEl zymx B H3)) ∧ pSz (xE (zyEl zymx B s.heap) 84) (xE (zyEl zymx B s.heap) 74 42) = pSem (xE (zyEl zymx B s.heap) 84) (xE (zyEl zymx B s.heap) 74 42) p (pClr ((v2 3) : Int) (r : Int))) ∧ (¬ xE (zyEl zymx B H3) 74 36 = 0 → xEr (zyEl zymx B H3) (pSz (xE (zyEl zymx B s.heap) 84) (xE (zyEl zymx B s.heap) 74 42)))
          refine ⟨fun hz => ?_, fun hz => ?_⟩
          · by_cases hw : xE (zyEl zymx B H2) 74 36 = 0
            · obtain ⟨j0, p, ⟨j1, j2⟩, j3⟩ := i1 (by omega)
              rcases hg _ hw j1 (by rw [hEE]; exact j2) with ⟨h1, h2, h3, h4, h5, h6, h7⟩ | he
              · refine ⟨by omega, ⟨h5, h6⟩, _, ⟨h3, h2⟩, ?_⟩
                rw [j3, h7, show v2 3 = v 3 by omega]
              · exact (xEr_1 (he (fun _ _ => .error (0, 0))) hz).elim
            · have := hge hw
              omega
          · by_cases hw : xE (zyEl zymx B H2) 74 36 = 0
            · obtain ⟨j0, p, ⟨j1, j2⟩, j3⟩ := i1 (by omega)
              rcases hg _ hw j1 (by rw [hEE]; exact j2) with ⟨h1, h2, h3, h4, h5, h6, h7⟩ | he
              · exact absurd h1 hz
              · rw [j3]
                exact he _
            · have := hge hw
              exact xEr_k (i2 (by omega)) (by omega) (by omega)
        · show 8995 < 8996
          omega
    · have hx : x ∈ [zxfra_ex0] := hx
      have hag : ∀ k, k < 4 → v2 k = v k := hag
      have hfr : xFr [] _ _ := hfr
      have ex := List.mem_singleton.mp hx
      subst ex
      obtain ⟨hF, hBd, hM⟩ := hXs
      have r1 := hr2 1
      have r3 := hr2 3
      have g1 : v2 1 = v 1 := hag 1 (by decide)
      have g3 : v2 3 = v 3 := hag 3 (by decide)
      have e74_36 : xE (zyEl zymx B H2) 74 36 = xE (zyEl zymx B H) 74 36 := xFr_E hfr rfl
      have e74_37 : xE (zyEl zymx B H2) 74 37 = xE (zyEl zymx B H) 74 37 := xFr_E hfr rfl
      have e74_38 : xE (zyEl zymx B H2) 74 38 = xE (zyEl zymx B H) 74 38 := xFr_E hfr rfl
      have e74_39 : xE (zyEl zymx B H2) 74 39 = xE (zyEl zymx B H) 74 39 := xFr_E hfr rfl
      have e74_40 : xE (zyEl zymx B H2) 74 40 = xE (zyEl zymx B H) 74 40 := xFr_E hfr rfl
      have e74_41 : xE (zyEl zymx B H2) 74 41 = xE (zyEl zymx B H) 74 41 := xFr_E hfr rfl
      have e74_42 : xE (zyEl zymx B H2) 74 42 = xE (zyEl zymx B H) 74 42 := xFr_E hfr rfl
      have q74_42 : xE (zyEl zymx B H) 74 42 = xE (zyEl zymx B s.heap) 74 42 := xFr_E hFr0 rfl
      have e75_0 : xE (zyEl zymx B H2) 75 0 = xE (zyEl zymx B H) 75 0 := xFr_E hfr rfl
      have e75_1 : xE (zyEl zymx B H2) 75 1 = xE (zyEl zymx B H) 75 1 := xFr_E hfr rfl
      have e75_2 : xE (zyEl zymx B H2) 75 2 = xE (zyEl zymx B H) 75 2 := xFr_E hfr rfl
      have e84 : ∀ i, xE (zyEl zymx B H2) 84 i = xE (zyEl zymx B H) 84 i := fun i => xFr_E hfr rfl
      have q84 : ∀ i, xE (zyEl zymx B H) 84 i = xE (zyEl zymx B s.heap) 84 i := fun i => xFr_E hFr0 rfl
      have y74_42 : ((2147483648 : Nat) : Int) ≤ xE (zyEl zymx B s.heap) 74 42 + 2147483648 ∧ xE (zyEl zymx B s.heap) 74 42 + 2147483648 ≤ ((2147484548 : Nat) : Int) := xTyF hT0 74 42 42 rfl rfl rfl rfl rfl rfl
      have hI : (xE (zyEl zymx B H) 74 36 = 0 → (1 ≤ (v 1) ∧ (v 1) ≤ 4) ∧ (1 ≤ (v 3) ∧ (v 3) ≤ 5) ∧ ∃ p, ((p) ≤ (xE (zyEl zymx B s.heap) 74 42) ∧ xRD (xE (zyEl zymx B s.heap) 84) (xE (zyEl zymx B s.heap) 74 42) (p) (zyEl zymx B H)) ∧ pSz (xE (zyEl zymx B s.heap) 84) (xE (zyEl zymx B s.heap) 74 42) = pSem (xE (zyEl zymx B s.heap) 84) (xE (zyEl zymx B s.heap) 74 42) p (pClr (v 1) (v 3))) ∧ (¬ xE (zyEl zymx B H) 74 36 = 0 → xEr (zyEl zymx B H) (pSz (xE (zyEl zymx B s.heap) 84) (xE (zyEl zymx B s.heap) 74 42))) := hInv
      obtain ⟨i1, i2⟩ := hI
      have hEE : (zyEl zymx B H2) = (zyEl zymx B H) := xFr_n hfr
      obtain ⟨hPW, hP1, hP2, hP3⟩ := (show xΦal x0 (zyEl zymx B s.heap) from hΦ)
      refine xCa hRu hIH hAt hB hv hFr (hfis B) (ix := 466) (ax := 5072) rfl rfl rfl hmefis ⟨_, rfl, rfl, by decide⟩ ⟨rfl, rfl, rfl⟩ (by decide) [472] [595] [59] rfl ⟨rfl, rfl⟩ (by decide +kernel) (xcs_c rfl xcs_n) (by decide +kernel) ?_ (fun H3 r hT3 hf3 hFr3 hr3 hΨ3 => ?_)
      · show xΦis (xfv [59]) (zyEl zymx B H2)
        intro hw q1
        obtain ⟨j0, j0b, p, ⟨j1, j2⟩, j3⟩ := i1 (by omega)
        obtain ⟨s1, s1b, s2, s3, s4, s5, s6, s7, s8⟩ := xRD_i j2 j1
        omega
      · have hΨ3 : xΨis (xfv [59]) (zyEl zymx B H2) (zyEl zymx B H3) r := hΨ3
        have d74_36 : xE (zyEl zymx B H3) 74 36 = xE (zyEl zymx B H2) 74 36 := xFr_E hf3 rfl
        have d74_37 : xE (zyEl zymx B H3) 74 37 = xE (zyEl zymx B H2) 74 37 := xFr_E hf3 rfl
        have d74_38 : xE (zyEl zymx B H3) 74 38 = xE (zyEl zymx B H2) 74 38 := xFr_E hf3 rfl
        have d74_39 : xE (zyEl zymx B H3) 74 39 = xE (zyEl zymx B H2) 74 39 := xFr_E hf3 rfl
        have d74_40 : xE (zyEl zymx B H3) 74 40 = xE (zyEl zymx B H2) 74 40 := xFr_E hf3 rfl
        have d74_41 : xE (zyEl zymx B H3) 74 41 = xE (zyEl zymx B H2) 74 41 := xFr_E hf3 rfl
        have d74_42 : xE (zyEl zymx B H3) 74 42 = xE (zyEl zymx B H2) 74 42 := xFr_E hf3 rfl
        have d75_0 : xE (zyEl zymx B H3) 75 0 = xE (zyEl zymx B H2) 75 0 := xFr_E hf3 rfl
        have d75_1 : xE (zyEl zymx B H3) 75 1 = xE (zyEl zymx B H2) 75 1 := xFr_E hf3 rfl
        have d75_2 : xE (zyEl zymx B H3) 75 2 = xE (zyEl zymx B H2) 75 2 := xFr_E hf3 rfl
        have d84 : ∀ i, xE (zyEl zymx B H3) 84 i = xE (zyEl zymx B H2) 84 i := fun i => xFr_E hf3 rfl
        have hE3 : (zyEl zymx B H3) = (zyEl zymx B H2) := xFr_n hf3
        have hb01 := xIs_b hΨ3
        refine ⟨⟨6, by decide⟩, [0, 34359738369, 103079215105], [0, (v2 1), (v2 3), r], rfl, ⟨by decide +kernel, ⟨rfl, by decide +kernel⟩, (xcs_c rfl (xcs_c rfl (xcs_c rfl xcs_n))), (xe_0 (xe_f (by omega) (xe_f (by omega) (xe_c (by omega) (by omega) rfl xe_n)))), xkq_n⟩, (by rw [if_pos rfl]; exact ⟨3, [595], rfl, by decide, rfl, (xst_r rfl xst_n)⟩), ?_, ?_⟩
        · show (xE (zyEl zymx B H3) 74 36 = 0 → (1 ≤ ((v2 1) : Int) ∧ ((v2 1) : Int) ≤ 4) ∧ (1 ≤ ((v2 3) : Int) ∧ ((v2 3) : Int) ≤ 5) ∧ ∃ p, ((p) ≤ (xE (zyEl zymx B s.heap) 74 42) ∧ xRD (xE (zyEl zymx B s.heap) 84) (xE (zyEl zymx B s.heap) 74 42) (p) (zyEl zymx B H3)) ∧ pSz (xE (zyEl zymx B s.heap) 84) (xE (zyEl zymx B s.heap) 74 42) = pSem (xE (zyEl zymx B s.heap) 84) (xE (zyEl zymx B s.heap) 74 42) p (pClr ((v2 1) : Int) ((v2 3) : Int)) ∧ (r : Int) = (if tKd (xE (zyEl zymx B s.heap) 84) (xE (zyEl zymx B s.heap) 74 42) p = 5 then 1 else 0)) ∧ (¬ xE (zyEl zymx B H3) 74 36 = 0 → xEr (zyEl zymx B H3) (pSz (xE (zyEl zymx B s.heap) 84) (xE (zyEl zymx B s.heap) 74 42)))
          refine ⟨fun hz => ?_, fun hz => ?_⟩
          · rw [hE3, hEE] at hz
            obtain ⟨j0, j0b, p, ⟨j1, j2⟩, j3⟩ := i1 hz
            have hr : r = if tKd (xE (zyEl zymx B s.heap) 84) (xE (zyEl zymx B s.heap) 74 42) p = 5 then 1 else 0 := (xIs_g (x := xfv [59]) hΨ3 (by rw [hEE]; exact hz) (by rw [hEE]; exact j2) j1 (fun i => (e84 i).trans (q84 i))).2 rfl
            rw [hE3, hEE]
            rw [show v 1 = v2 1 by omega, show v 3 = v2 3 by omega] at j3
            exact ⟨by omega, by omega, p, ⟨j1, j2⟩, j3, hr⟩
          · rw [hE3, hEE] at hz ⊢
            exact i2 hz
        · show 8994 < 8995
          omega
    · have hx : x ∈ [zxfra_fx0] := hx
      have hag : ∀ k, k < 4 → v2 k = v k := hag
      have hfr : xFr [] _ _ := hfr
      have ex := List.mem_singleton.mp hx
      subst ex
      obtain ⟨hF, hBd, hM⟩ := hXs
      have r1 := hr2 1
      have r2 := hr2 2
      have g1 : v2 1 = v 1 := hag 1 (by decide)
      have g2 : v2 2 = v 2 := hag 2 (by decide)
      have g3 : v2 3 = v 3 := hag 3 (by decide)
      have b0 : ((2147483648 : Nat) : Int) ≤ (v2 3) + 2147483648 ∧ (v2 3) + 2147483648 ≤ ((2147483649 : Nat) : Int) := xXb hBd 0 rfl
      have e74_36 : xE (zyEl zymx B H2) 74 36 = xE (zyEl zymx B H) 74 36 := xFr_E hfr rfl
      have e74_37 : xE (zyEl zymx B H2) 74 37 = xE (zyEl zymx B H) 74 37 := xFr_E hfr rfl
      have e74_38 : xE (zyEl zymx B H2) 74 38 = xE (zyEl zymx B H) 74 38 := xFr_E hfr rfl
      have e74_39 : xE (zyEl zymx B H2) 74 39 = xE (zyEl zymx B H) 74 39 := xFr_E hfr rfl
      have e74_40 : xE (zyEl zymx B H2) 74 40 = xE (zyEl zymx B H) 74 40 := xFr_E hfr rfl
      have e74_41 : xE (zyEl zymx B H2) 74 41 = xE (zyEl zymx B H) 74 41 := xFr_E hfr rfl
      have e74_42 : xE (zyEl zymx B H2) 74 42 = xE (zyEl zymx B H) 74 42 := xFr_E hfr rfl
      have q74_42 : xE (zyEl zymx B H) 74 42 = xE (zyEl zymx B s.heap) 74 42 := xFr_E hFr0 rfl
      have e75_0 : xE (zyEl zymx B H2) 75 0 = xE (zyEl zymx B H) 75 0 := xFr_E hfr rfl
      have e75_1 : xE (zyEl zymx B H2) 75 1 = xE (zyEl zymx B H) 75 1 := xFr_E hfr rfl
      have e75_2 : xE (zyEl zymx B H2) 75 2 = xE (zyEl zymx B H) 75 2 := xFr_E hfr rfl
      have e84 : ∀ i, xE (zyEl zymx B H2) 84 i = xE (zyEl zymx B H) 84 i := fun i => xFr_E hfr rfl
      have q84 : ∀ i, xE (zyEl zymx B H) 84 i = xE (zyEl zymx B s.heap) 84 i := fun i => xFr_E hFr0 rfl
      have y74_42 : ((2147483648 : Nat) : Int) ≤ xE (zyEl zymx B s.heap) 74 42 + 2147483648 ∧ xE (zyEl zymx B s.heap) 74 42 + 2147483648 ≤ ((2147484548 : Nat) : Int) := xTyF hT0 74 42 42 rfl rfl rfl rfl rfl rfl
      have hI : (xE (zyEl zymx B H) 74 36 = 0 → (1 ≤ (v 1) ∧ (v 1) ≤ 4) ∧ (1 ≤ (v 2) ∧ (v 2) ≤ 5) ∧ ∃ p, ((p) ≤ (xE (zyEl zymx B s.heap) 74 42) ∧ xRD (xE (zyEl zymx B s.heap) 84) (xE (zyEl zymx B s.heap) 74 42) (p) (zyEl zymx B H)) ∧ pSz (xE (zyEl zymx B s.heap) 84) (xE (zyEl zymx B s.heap) 74 42) = pSem (xE (zyEl zymx B s.heap) 84) (xE (zyEl zymx B s.heap) 74 42) p (pClr (v 1) (v 2)) ∧ (v 3) = (if tKd (xE (zyEl zymx B s.heap) 84) (xE (zyEl zymx B s.heap) 74 42) p = 5 then 1 else 0)) ∧ (¬ xE (zyEl zymx B H) 74 36 = 0 → xEr (zyEl zymx B H) (pSz (xE (zyEl zymx B s.heap) 84) (xE (zyEl zymx B s.heap) 74 42))) := hInv
      obtain ⟨i1, i2⟩ := hI
      have hEE : (zyEl zymx B H2) = (zyEl zymx B H) := xFr_n hfr
      obtain ⟨hPW, hP1, hP2, hP3⟩ := (show xΦal x0 (zyEl zymx B s.heap) from hΦ)
      refine xCa hRu hIH hAt hB hv hFr (hftk B) (ix := 462) (ax := 5088) rfl rfl rfl hmeftk ⟨_, rfl, rfl, by decide⟩ ⟨rfl, rfl, rfl⟩ (by decide) [103079215105] [] [(v2 3)] rfl ⟨rfl, rfl⟩ (by decide +kernel) (xcs_c rfl xcs_n) (by decide +kernel) ?_ (fun H3 r hT3 hf3 hFr3 hr3 hΨ3 => ?_)
      · show xΦtk (xfv [(v2 3)]) (zyEl zymx B H2)
        intro q1 q2
        obtain ⟨j0, j0b, p, ⟨hp, hs⟩, hU, hr⟩ := i1 (by omega)
        have q2 : ¬ (v2 3) = 0 := q2
        have hk : tKd (xE (zyEl zymx B s.heap) 84) (xE (zyEl zymx B s.heap) 74 42) p = 5 := Classical.byContradiction fun z => by
          rw [if_neg z] at hr
          omega
        obtain ⟨s1, s1b, s2, s3, s4, s5, s6, s7, s8⟩ := xRD_i hs hp
        omega
      · have hΨ3 : xΨtk (xfv [(v2 3)]) (zyEl zymx B H2) (zyEl zymx B H3) r := hΨ3
        have d74_42 : xE (zyEl zymx B H3) 74 42 = xE (zyEl zymx B H2) 74 42 := xFr_E hf3 rfl
        have d75_0 : xE (zyEl zymx B H3) 75 0 = xE (zyEl zymx B H2) 75 0 := xFr_E hf3 rfl
        have d75_1 : xE (zyEl zymx B H3) 75 1 = xE (zyEl zymx B H2) 75 1 := xFr_E hf3 rfl
        have d75_2 : xE (zyEl zymx B H3) 75 2 = xE (zyEl zymx B H2) 75 2 := xFr_E hf3 rfl
        have d84 : ∀ i, xE (zyEl zymx B H3) 84 i = xE (zyEl zymx B H2) 84 i := fun i => xFr_E hf3 rfl
        have z74_36 : ((2147483648 : Nat) : Int) ≤ xE (zyEl zymx B H3) 74 36 + 2147483648 ∧ xE (zyEl zymx B H3) 74 36 + 2147483648 ≤ ((2147483657 : Nat) : Int) := xTyF hT3 74 36 36 rfl rfl rfl rfl rfl rfl
        have hg := fun p hw hs hp => xTk_g (T := (xE (zyEl zymx B s.heap) 84)) (n := (xE (zyEl zymx B s.heap) 74 42)) (p := p) (x := xfv [(v2 3)]) hΨ3 hw hs hp (fun i => (e84 i).trans (q84 i)) (by omega)
        have hge : ¬ xE (zyEl zymx B H2) 74 36 = 0 → xE (zyEl zymx B H3) 74 36 = xE (zyEl zymx B H2) 74 36 ∧ xE (zyEl zymx B H3) 74 37 = xE (zyEl zymx B H2) 74 37 := fun hw => xTk_e (x := xfv [(v2 3)]) hΨ3 hw
        refine ⟨⟨7, by decide⟩, [0, 34359738369, 68719476737], [0, (v2 1), (v2 2), xE (zyEl zymx B H3) 74 36], rfl, ⟨by decide +kernel, ⟨rfl, by decide +kernel⟩, (xcs_c rfl (xcs_c rfl (xcs_c rfl xcs_n))), (xe_0 (xe_f (by omega) (xe_f (by omega) (xe_c (by omega) (by omega) rfl xe_n)))), (xkq_c hT3 74 36 (q := 36) rfl rfl rfl rfl rfl rfl rfl rfl rfl rfl rfl xkq_n)⟩, (by rw [if_neg (by decide)]; exact xst_n), ?_, ?_⟩
        · show (xE (zyEl zymx B H3) 74 36 = 0 → (1 ≤ ((v2 1) : Int) ∧ ((v2 1) : Int) ≤ 4) ∧ (1 ≤ ((v2 2) : Int) ∧ ((v2 2) : Int) ≤ 5) ∧ ∃ p, (0 ≤ p) ∧ ((p) ≤ (xE (zyEl zymx B s.heap) 74 42) ∧ xRD (xE (zyEl zymx B s.heap) 84) (xE (zyEl zymx B s.heap) 74 42) (p) (zyEl zymx B H3)) ∧ pSz (xE (zyEl zymx B s.heap) 84) (xE (zyEl zymx B s.heap) 74 42) = .ok (p, pClr ((v2 1) : Int) ((v2 2) : Int))) ∧ (¬ xE (zyEl zymx B H3) 74 36 = 0 → xEr (zyEl zymx B H3) (pSz (xE (zyEl zymx B s.heap) 84) (xE (zyEl zymx B s.heap) 74 42)))
          by_cases hw : xE (zyEl zymx B H) 74 36 = 0
          · obtain ⟨j0, j0b, p, ⟨hp, hs⟩, hU, hr⟩ := i1 hw
            obtain ⟨g1, g2⟩ := hg p (by omega) (by rw [hEE]; exact hs) hp
            have g1 : ¬ (v2 3) = 0 → _ := g1
            have g2 : (v2 3) = 0 → _ := g2
            unfold pSem at hU
            by_cases ck : tKd (xE (zyEl zymx B s.heap) 84) (xE (zyEl zymx B s.heap) 74 42) p = 5
            · rw [if_pos ck] at hr hU
              obtain ⟨k1, k2, k3, k4⟩ := g1 (by omega) (by omega)
              refine ⟨fun _ => ⟨by omega, by omega, _, ?_, ⟨k3, k2⟩, ?_⟩, fun hz => absurd k1 hz⟩
              · have hz := pSz_p hP2 hU
                omega
              · rw [hU, show v 1 = v2 1 by omega, show v 2 = v2 2 by omega]
            · rw [if_neg ck] at hr hU
              have g2 := g2 (by omega)
              refine ⟨fun hz => (xEr_1 g2 hz).elim, fun hz => ?_⟩
              rw [hU]
              exact g2
          · have hge := hge (by omega)
            exact ⟨fun hz => by omega, fun hz => xEr_k (i2 hw) (by omega) (by omega)⟩
        · show 8993 < 8994
          omega
    · have hx : x ∈ [zxfra_gx0] := hx
      have hag : ∀ k, k < 4 → v2 k = v k := hag
      have hfr : xFr [] _ _ := hfr
      have ex := List.mem_singleton.mp hx
      subst ex
      obtain ⟨hF, hBd, hM⟩ := hXs
      have r1 := hr2 1
      have r2 := hr2 2
      have g1 : v2 1 = v 1 := hag 1 (by decide)
      have g2 : v2 2 = v 2 := hag 2 (by decide)
      have g3 : v2 3 = v 3 := hag 3 (by decide)
      have b0 : ((2147483648 : Nat) : Int) ≤ (v2 3) + 2147483648 ∧ (v2 3) + 2147483648 ≤ ((2147483648 : Nat) : Int) := xXb hBd 0 rfl
      have k0 : xE (zyEl zymx B H) 74 36 = v 3 := xKcf hKc 0 rfl rfl
      have f0 : (v2 3) ≤ 0 := xXf hF 0 rfl
      have e74_36 : xE (zyEl zymx B H2) 74 36 = xE (zyEl zymx B H) 74 36 := xFr_E hfr rfl
      have e74_37 : xE (zyEl zymx B H2) 74 37 = xE (zyEl zymx B H) 74 37 := xFr_E hfr rfl
      have e74_38 : xE (zyEl zymx B H2) 74 38 = xE (zyEl zymx B H) 74 38 := xFr_E hfr rfl
      have e74_39 : xE (zyEl zymx B H2) 74 39 = xE (zyEl zymx B H) 74 39 := xFr_E hfr rfl
      have e74_40 : xE (zyEl zymx B H2) 74 40 = xE (zyEl zymx B H) 74 40 := xFr_E hfr rfl
      have e74_41 : xE (zyEl zymx B H2) 74 41 = xE (zyEl zymx B H) 74 41 := xFr_E hfr rfl
      have e74_42 : xE (zyEl zymx B H2) 74 42 = xE (zyEl zymx B H) 74 42 := xFr_E hfr rfl
      have q74_42 : xE (zyEl zymx B H) 74 42 = xE (zyEl zymx B s.heap) 74 42 := xFr_E hFr0 rfl
      have e75_0 : xE (zyEl zymx B H2) 75 0 = xE (zyEl zymx B H) 75 0 := xFr_E hfr rfl
      have e75_1 : xE (zyEl zymx B H2) 75 1 = xE (zyEl zymx B H) 75 1 := xFr_E hfr rfl
      have e75_2 : xE (zyEl zymx B H2) 75 2 = xE (zyEl zymx B H) 75 2 := xFr_E hfr rfl
      have e84 : ∀ i, xE (zyEl zymx B H2) 84 i = xE (zyEl zymx B H) 84 i := fun i => xFr_E hfr rfl
      have q84 : ∀ i, xE (zyEl zymx B H) 84 i = xE (zyEl zymx B s.heap) 84 i := fun i => xFr_E hFr0 rfl
      have y74_42 : ((2147483648 : Nat) : Int) ≤ xE (zyEl zymx B s.heap) 74 42 + 2147483648 ∧ xE (zyEl zymx B s.heap) 74 42 + 2147483648 ≤ ((2147484548 : Nat) : Int) := xTyF hT0 74 42 42 rfl rfl rfl rfl rfl rfl
      have hI : (xE (zyEl zymx B H) 74 36 = 0 → (1 ≤ (v 1) ∧ (v 1) ≤ 4) ∧ (1 ≤ (v 2) ∧ (v 2) ≤ 5) ∧ ∃ p, (0 ≤ p) ∧ ((p) ≤ (xE (zyEl zymx B s.heap) 74 42) ∧ xRD (xE (zyEl zymx B s.heap) 84) (xE (zyEl zymx B s.heap) 74 42) (p) (zyEl zymx B H)) ∧ pSz (xE (zyEl zymx B s.heap) 84) (xE (zyEl zymx B s.heap) 74 42) = .ok (p, pClr (v 1) (v 2))) ∧ (¬ xE (zyEl zymx B H) 74 36 = 0 → xEr (zyEl zymx B H) (pSz (xE (zyEl zymx B s.heap) 84) (xE (zyEl zymx B s.heap) 74 42))) := hInv
      obtain ⟨i1, i2⟩ := hI
      have hEE : (zyEl zymx B H2) = (zyEl zymx B H) := xFr_n hfr
      obtain ⟨hPW, hP1, hP2, hP3⟩ := (show xΦal x0 (zyEl zymx B s.heap) from hΦ)
      obtain ⟨j0, j0b, p, p0, ⟨hp, hs⟩, hU⟩ := i1 (by omega)
      rw [show v 1 = v2 1 by omega, show v 2 = v2 2 by omega] at hU
      refine xCa hRu hIH hAt hB hv hFr (hfcs B) (ix := 85) (ax := 3088) rfl rfl rfl hmefcs ⟨_, rfl, rfl, by decide⟩ ⟨rfl, rfl, rfl⟩ (by decide) [34359738369, 68719476737] [] [(v2 1), (v2 2)] rfl ⟨rfl, rfl⟩ (by decide +kernel) (xcs_c rfl (xcs_c rfl xcs_n)) (by decide +kernel) ?_ (fun H3 r hT3 hf3 hFr3 hr3 hΨ3 => ?_)
      · show xΦcs (xfv [(v2 1), (v2 2)]) (zyEl zymx B H2)
        exact ⟨by show 1 ≤ (v2 1) ∧ (v2 1) ≤ 4; omega, by show 1 ≤ (v2 2) ∧ (v2 2) ≤ 5; omega⟩
      · have hΨ3 : xΨcs (xfv [(v2 1), (v2 2)]) (zyEl zymx B H2) (zyEl zymx B H3) r := hΨ3
        have d74_36 : xE (zyEl zymx B H3) 74 36 = xE (zyEl zymx B H2) 74 36 := xFr_E hf3 rfl
        have d74_37 : xE (zyEl zymx B H3) 74 37 = xE (zyEl zymx B H2) 74 37 := xFr_E hf3 rfl
        have d74_38 : xE (zyEl zymx B H3) 74 38 = xE (zyEl zymx B H2) 74 38 := xFr_E hf3 rfl
        have d74_39 : xE (zyEl zymx B H3) 74 39 = xE (zyEl zymx B H2) 74 39 := xFr_E hf3 rfl
        have d74_40 : xE (zyEl zymx B H3) 74 40 = xE (zyEl zymx B H2) 74 40 := xFr_E hf3 rfl
        have d74_41 : xE (zyEl zymx B H3) 74 41 = xE (zyEl zymx B H2) 74 41 := xFr_E hf3 rfl
        have d74_42 : xE (zyEl zymx B H3) 74 42 = xE (zyEl zymx B H2) 74 42 := xFr_E hf3 rfl
        have d84 : ∀ i, xE (zyEl zymx B H3) 84 i = xE (zyEl zymx B H2) 84 i := fun i => xFr_E hf3 rfl
        have z74_36 : ((2147483648 : Nat) : Int) ≤ xE (zyEl zymx B H3) 74 36 + 2147483648 ∧ xE (zyEl zymx B H3) 74 36 + 2147483648 ≤ ((2147483657 : Nat) : Int) := xTyF hT3 74 36 36 rfl rfl rfl rfl rfl rfl
        have z74_40 : ((2147483648 : Nat) : Int) ≤ xE (zyEl zymx B H3) 74 40 + 2147483648 ∧ xE (zyEl zymx B H3) 74 40 + 2147483648 ≤ ((2147483652 : Nat) : Int) := xTyF hT3 74 40 40 rfl rfl rfl rfl rfl rfl
        skip
        refine ⟨⟨8, by decide⟩, [0, 0, 0], [0, 0, 0, xE (zyEl zymx B H3) 74 36, xE (zyEl zymx B H3) 74 40], rfl, ⟨by decide +kernel, ⟨rfl, by decide +kernel⟩, (xcs_c rfl (xcs_c rfl (xcs_c rfl xcs_n))), (xe_0 (xe_0 (xe_0 (xe_c (by omega) (by omega) rfl (xe_c (by omega) (by omega) rfl xe_n))))), (xkq_c hT3 74 36 (q := 36) rfl rfl rfl rfl rfl rfl rfl rfl rfl rfl rfl (xkq_c hT3 74 40 (q := 40) rfl rfl rfl rfl rfl rfl rfl rfl rfl rfl rfl xkq_n))⟩, (by rw [if_neg (by decide)]; exact xst_n), ?_, ?_⟩
        · show (xE (zyEl zymx B H3) 74 36 = 0 → ∃ (f : Nat) (p : Int) (U : Int → Int), ((p) ≤ (xE (zyEl zymx B s.heap) 74 42) ∧ xRD (xE (zyEl zymx B s.heap) 84) (xE (zyEl zymx B s.heap) 74 42) (p) (zyEl zymx B H3)) ∧ pAll (xE (zyEl zymx B s.heap) 84) (xE (zyEl zymx B s.heap) 74 42) = pLines (xE (zyEl zymx B s.heap) 84) (xE (zyEl zymx B s.heap) 74 42) f p U ∧ (xE (zyEl zymx B s.heap) 74 42) - p < f ∧ (xE (zyEl zymx B s.heap) 74 42) - p < xE (zyEl zymx B s.heap) 74 42 + 1 ∧ sI U ∧ (∀ k, 0 ≤ k → k < 520 → xE (zyEl zymx B H3) 75 k = U k)) ∧ (¬ xE (zyEl zymx B H3) 74 36 = 0 → xEr (zyEl zymx B H3) (pAll (xE (zyEl zymx B s.heap) 84) (xE (zyEl zymx B s.heap) 74 42)))
          refine ⟨fun hz => ⟨901, p, pClr (v2 1) (v2 2), ⟨hp, xRD_k (by rw [hEE]; exact hs) hf3 rfl rfl rfl rfl rfl⟩, ?_, by omega, by omega, ?_, hΨ3⟩, fun hz => by omega⟩
          · unfold pAll
            rw [hU]
            exact pBind_o
          · refine ⟨by show 1 ≤ (v2 1) ∧ (v2 1) ≤ 4; omega, by show 1 ≤ (v2 2) ∧ (v2 2) ≤ 5; omega, by show (0 : Int) ≤ 0 ∧ (0 : Int) ≤ 8; decide, fun b b0 b1 => ?_⟩
            have b1 : b < 0 := b1
            omega
        · show 2 * (if xE (zyEl zymx B H3) 74 36 = 0 then (2 + xE (zyEl zymx B H3) 74 42 - xE (zyEl zymx B H3) 74 38).toNat else 0) < 8993
          have hs1 := hs.1
          have hb := tFr_b (T := xE (zyEl zymx B s.heap) 84) hp
          split <;> omega
    · have hx : x ∈ [zxfra_hx0] := hx
      have hag : ∀ k, k < 5 → v2 k = v k := hag
      have hfr : xFr [] _ _ := hfr
      have ex := List.mem_singleton.mp hx
      subst ex
      obtain ⟨hF, hBd, hM⟩ := hXs
      have g3 : v2 3 = v 3 := hag 3 (by decide)
      have g4 : v2 4 = v 4 := hag 4 (by decide)
      have b0 : ((2147483648 : Nat) : Int) ≤ (v2 3) + 2147483648 ∧ (v2 3) + 2147483648 ≤ ((2147483648 : Nat) : Int) := xXb hBd 0 rfl
      have b1 : ((2147483649 : Nat) : Int) ≤ (v2 4) + 2147483648 ∧ (v2 4) + 2147483648 ≤ ((2147483652 : Nat) : Int) := xXb hBd 1 rfl
      have k0 : xE (zyEl zymx B H) 74 36 = v 3 := xKcf hKc 0 rfl rfl
      have k1 : xE (zyEl zymx B H) 74 40 = v 4 := xKcf hKc 1 rfl rfl
      have f0 : (v2 3) = 0 := xXf hF 0 rfl
      have f1 : ¬ (v2 4) = 0 := xXf hF 1 rfl
      have e74_36 : xE (zyEl zymx B H2) 74 36 = xE (zyEl zymx B H) 74 36 := xFr_E hfr rfl
      have e74_37 : xE (zyEl zymx B H2) 74 37 = xE (zyEl zymx B H) 74 37 := xFr_E hfr rfl
      have e74_38 : xE (zyEl zymx B H2) 74 38 = xE (zyEl zymx B H) 74 38 := xFr_E hfr rfl
      have e74_39 : xE (zyEl zymx B H2) 74 39 = xE (zyEl zymx B H) 74 39 := xFr_E hfr rfl
      have e74_40 : xE (zyEl zymx B H2) 74 40 = xE (zyEl zymx B H) 74 40 := xFr_E hfr rfl
      have e74_41 : xE (zyEl zymx B H2) 74 41 = xE (zyEl zymx B H) 74 41 := xFr_E hfr rfl
      have e74_42 : xE (zyEl zymx B H2) 74 42 = xE (zyEl zymx B H) 74 42 := xFr_E hfr rfl
      have q74_42 : xE (zyEl zymx B H) 74 42 = xE (zyEl zymx B s.heap) 74 42 := xFr_E hFr0 rfl
      have e75_0 : xE (zyEl zymx B H2) 75 0 = xE (zyEl zymx B H) 75 0 := xFr_E hfr rfl
      have e75_1 : xE (zyEl zymx B H2) 75 1 = xE (zyEl zymx B H) 75 1 := xFr_E hfr rfl
      have e75_2 : xE (zyEl zymx B H2) 75 2 = xE (zyEl zymx B H) 75 2 := xFr_E hfr rfl
      have e84 : ∀ i, xE (zyEl zymx B H2) 84 i = xE (zyEl zymx B H) 84 i := fun i => xFr_E hfr rfl
      have q84 : ∀ i, xE (zyEl zymx B H) 84 i = xE (zyEl zymx B s.heap) 84 i := fun i => xFr_E hFr0 rfl
      have y74_42 : ((2147483648 : Nat) : Int) ≤ xE (zyEl zymx B s.heap) 74 42 + 2147483648 ∧ xE (zyEl zymx B s.heap) 74 42 + 2147483648 ≤ ((2147484548 : Nat) : Int) := xTyF hT0 74 42 42 rfl rfl rfl rfl rfl rfl
      have hI : (xE (zyEl zymx B H) 74 36 = 0 → ∃ (f : Nat) (p : Int) (U : Int → Int), ((p) ≤ (xE (zyEl zymx B s.heap) 74 42) ∧ xRD (xE (zyEl zymx B s.heap) 84) (xE (zyEl zymx B s.heap) 74 42) (p) (zyEl zymx B H)) ∧ pAll (xE (zyEl zymx B s.heap) 84) (xE (zyEl zymx B s.heap) 74 42) = pLines (xE (zyEl zymx B s.heap) 84) (xE (zyEl zymx B s.heap) 74 42) f p U ∧ (xE (zyEl zymx B s.heap) 74 42) - p < f ∧ (xE (zyEl zymx B s.heap) 74 42) - p < xE (zyEl zymx B s.heap) 74 42 + 1 ∧ sI U ∧ (∀ k, 0 ≤ k → k < 520 → xE (zyEl zymx B H) 75 k = U k)) ∧ (¬ xE (zyEl zymx B H) 74 36 = 0 → xEr (zyEl zymx B H) (pAll (xE (zyEl zymx B s.heap) 84) (xE (zyEl zymx B s.heap) 74 42))) := hInv
      obtain ⟨i1, i2⟩ := hI
      have hEE : (zyEl zymx B H2) = (zyEl zymx B H) := xFr_n hfr
      obtain ⟨hPW, hP1, hP2, hP3⟩ := (show xΦal x0 (zyEl zymx B s.heap) from hΦ)
      obtain ⟨f, p, U, ⟨hp, hs⟩, hU, hf, hf2, hSI, hu⟩ := i1 (by omega)
      obtain ⟨s1, s1b, s2, s3, s4, s5, s6, s7, s8⟩ := xRD_i hs hp
      have hk : ¬ tKd (xE (zyEl zymx B s.heap) 84) (xE (zyEl zymx B s.heap) 74 42) p = 0 := by omega
      have s4 := s4 hk
      obtain ⟨f2, rfl⟩ : ∃ f2, f = f2 + 1 := ⟨f - 1, by omega⟩
      rw [pLines_s hk] at hU
      have h0 := hu 0 (by decide) (by decide)
      have h1 := hu 1 (by decide) (by decide)
      have h2 := hu 2 (by decide) (by decide)
      have hSI0 : sI (xE (zyEl zymx B H) 75) := by
        obtain ⟨y1, y2, y3, y4⟩ := hSI
        refine ⟨by omega, by omega, by omega, fun b b0 b1 => ?_⟩
        rw [hu _ (by omega) (by omega)]
        exact y4 b b0 (by omega)
      have hSQ : sQ (xE (zyEl zymx B H) 75) U := hu
      have hT : xE (zyEl zymx B H) 84 = xE (zyEl zymx B s.heap) 84 := funext q84
      have hn : xE (zyEl zymx B H) 74 42 = xE (zyEl zymx B s.heap) 74 42 := by omega
      refine xCa hRu hIH hAt hB hv hFr (hfli B) (ix := 488) (ax := 5232) rfl rfl rfl hmefli ⟨_, rfl, rfl, by decide⟩ ⟨rfl, rfl, rfl⟩ (by decide) [] [] [] rfl ⟨rfl, rfl⟩ (by decide +kernel) xcs_n (by decide +kernel) ?_ (fun H3 r hT3 hf3 hFr3 hr3 hΨ3 => ?_)
      · show xΦln (xfv []) (zyEl zymx B H2)
        rw [hEE]
        unfold xΦln
        rw [hT, hn]
        refine ⟨xWs_k hPW hFr0 (fun _ => rfl), by omega, ⟨by omega, ?_⟩, ?_, hSI0.1, hSI0.2.1, hSI0.2.2.1, hSI0.2.2.2⟩
        · rw [s1]
          exact xRD_f hs
        · rw [s1, tKd_f]
          exact hk
      · have hΨ3 : xΨln (xfv []) (zyEl zymx B H2) (zyEl zymx B H3) r := hΨ3
        have d74_42 : xE (zyEl zymx B H3) 74 42 = xE (zyEl zymx B H2) 74 42 := xFr_E hf3 rfl
        have d75_0 : xE (zyEl zymx B H3) 75 0 = xE (zyEl zymx B H2) 75 0 := xFr_E hf3 rfl
        have d75_1 : xE (zyEl zymx B H3) 75 1 = xE (zyEl zymx B H2) 75 1 := xFr_E hf3 rfl
        have d84 : ∀ i, xE (zyEl zymx B H3) 84 i = xE (zyEl zymx B H2) 84 i := fun i => xFr_E hf3 rfl
        have hR : xRs (xE (zyEl zymx B H2) 84) (xE (zyEl zymx B H2) 74 42) (zyEl zymx B H3) (pLine (xE (zyEl zymx B H2) 84) (xE (zyEl zymx B H2) 74 42) (xE (zyEl zymx B H2) 74 38) (xE (zyEl zymx B H2) 75)) := hΨ3
        rw [hEE, hT, hn, s1, pLine_f] at hR
        have hR := xRs_q (pLine_q hSI0 hSQ) hR
        refine ⟨⟨9, by decide⟩, [0, 0, 0], [0, 0, 0], rfl, ⟨by decide +kernel, ⟨rfl, by decide +kernel⟩, (xcs_c rfl (xcs_c rfl (xcs_c rfl xcs_n))), (xe_0 (xe_0 (xe_0 xe_n))), xkq_n⟩, (by rw [if_neg (by decide)]; exact xst_n), ?_, ?_⟩
        · show (xE (zyEl zymx B H3) 74 36 = 0 → ∃ (f : Nat) (p : Int) (U : Int → Int), ((p) ≤ (xE (zyEl zymx B s.heap) 74 42) ∧ xRD (xE (zyEl zymx B s.heap) 84) (xE (zyEl zymx B s.heap) 74 42) (p) (zyEl zymx B H3)) ∧ pAll (xE (zyEl zymx B s.heap) 84) (xE (zyEl zymx B s.heap) 74 42) = pLines (xE (zyEl zymx B s.heap) 84) (xE (zyEl zymx B s.heap) 74 42) f p U ∧ (xE (zyEl zymx B s.heap) 74 42) - p < f ∧ (xE (zyEl zymx B s.heap) 74 42) - p < xE (zyEl zymx B s.heap) 74 42 + 1 ∧ sI U ∧ (∀ k, 0 ≤ k → k < 520 → xE (zyEl zymx B H3) 75 k = U k)) ∧ (¬ xE (zyEl zymx B H3) 74 36 = 0 → xEr (zyEl zymx B H3) (pAll (xE (zyEl zymx B s.heap) 84) (xE (zyEl zymx B s.heap) 74 42)))
          refine ⟨fun hz => ?_, fun hz => ?_⟩
          · obtain ⟨q, U2, e1, e2, e3, e4⟩ := xRs_o hR hz
            have hq := pLine_p hp hk e1
            rw [e1] at hU
            exact ⟨f2, q, U2, ⟨e2, e3⟩, hU, by omega, by omega, pLine_I hSI e1, e4⟩
          · have hX := xRs_r hR hz
            rw [hX.2] at hU
            rw [hU]
            exact ⟨hX.1, rfl⟩
        · show 2 * (if xE (zyEl zymx B H3) 74 36 = 0 then (2 + xE (zyEl zymx B H3) 74 42 - xE (zyEl zymx B H3) 74 38).toNat else 0) + 1 < 2 * (if xE (zyEl zymx B H) 74 36 = 0 then (2 + xE (zyEl zymx B H) 74 42 - xE (zyEl zymx B H) 74 38).toNat else 0)
          have hwe : xE (zyEl zymx B H) 74 36 = 0 := by omega
          rw [if_pos hwe]
          by_cases hz : xE (zyEl zymx B H3) 74 36 = 0
          · obtain ⟨q, U2, e1, e2, e3, e4⟩ := xRs_o hR hz
            have hq := pLine_p2 hp hk e1
            have s1q := e3.1
            rw [if_pos hz]
            omega
          · rw [if_neg hz]
            omega
    · have hx : x ∈ [zxfra_ix0] := hx
      have hag : ∀ k, k < 3 → v2 k = v k := hag
      have hfr : xFr [] _ _ := hfr
      have ex := List.mem_singleton.mp hx
      subst ex
      obtain ⟨hF, hBd, hM⟩ := hXs
      have e74_36 : xE (zyEl zymx B H2) 74 36 = xE (zyEl zymx B H) 74 36 := xFr_E hfr rfl
      have e74_37 : xE (zyEl zymx B H2) 74 37 = xE (zyEl zymx B H) 74 37 := xFr_E hfr rfl
      have e74_38 : xE (zyEl zymx B H2) 74 38 = xE (zyEl zymx B H) 74 38 := xFr_E hfr rfl
      have e74_39 : xE (zyEl zymx B H2) 74 39 = xE (zyEl zymx B H) 74 39 := xFr_E hfr rfl
      have e74_40 : xE (zyEl zymx B H2) 74 40 = xE (zyEl zymx B H) 74 40 := xFr_E hfr rfl
      have e74_41 : xE (zyEl zymx B H2) 74 41 = xE (zyEl zymx B H) 74 41 := xFr_E hfr rfl
      have e74_42 : xE (zyEl zymx B H2) 74 42 = xE (zyEl zymx B H) 74 42 := xFr_E hfr rfl
      have q74_42 : xE (zyEl zymx B H) 74 42 = xE (zyEl zymx B s.heap) 74 42 := xFr_E hFr0 rfl
      have e75_0 : xE (zyEl zymx B H2) 75 0 = xE (zyEl zymx B H) 75 0 := xFr_E hfr rfl
      have e75_1 : xE (zyEl zymx B H2) 75 1 = xE (zyEl zymx B H) 75 1 := xFr_E hfr rfl
      have e75_2 : xE (zyEl zymx B H2) 75 2 = xE (zyEl zymx B H) 75 2 := xFr_E hfr rfl
      have e84 : ∀ i, xE (zyEl zymx B H2) 84 i = xE (zyEl zymx B H) 84 i := fun i => xFr_E hfr rfl
      have q84 : ∀ i, xE (zyEl zymx B H) 84 i = xE (zyEl zymx B s.heap) 84 i := fun i => xFr_E hFr0 rfl
      have y74_42 : ((2147483648 : Nat) : Int) ≤ xE (zyEl zymx B s.heap) 74 42 + 2147483648 ∧ xE (zyEl zymx B s.heap) 74 42 + 2147483648 ≤ ((2147484548 : Nat) : Int) := xTyF hT0 74 42 42 rfl rfl rfl rfl rfl rfl
      have hI : (xE (zyEl zymx B H) 74 36 = 0 → ∃ (f : Nat) (p : Int) (U : Int → Int), ((p) ≤ (xE (zyEl zymx B s.heap) 74 42) ∧ xRD (xE (zyEl zymx B s.heap) 84) (xE (zyEl zymx B s.heap) 74 42) (p) (zyEl zymx B H)) ∧ pAll (xE (zyEl zymx B s.heap) 84) (xE (zyEl zymx B s.heap) 74 42) = pLines (xE (zyEl zymx B s.heap) 84) (xE (zyEl zymx B s.heap) 74 42) f p U ∧ (xE (zyEl zymx B s.heap) 74 42) - p < f ∧ (xE (zyEl zymx B s.heap) 74 42) - p < xE (zyEl zymx B s.heap) 74 42 + 1 ∧ sI U ∧ (∀ k, 0 ≤ k → k < 520 → xE (zyEl zymx B H) 75 k = U k)) ∧ (¬ xE (zyEl zymx B H) 74 36 = 0 → xEr (zyEl zymx B H) (pAll (xE (zyEl zymx B s.heap) 84) (xE (zyEl zymx B s.heap) 74 42))) := hInv
      have hEE : (zyEl zymx B H2) = (zyEl zymx B H) := xFr_n hfr
      have z74_36 : ((2147483648 : Nat) : Int) ≤ xE (zyEl zymx B H2) 74 36 + 2147483648 ∧ xE (zyEl zymx B H2) 74 36 + 2147483648 ≤ ((2147483657 : Nat) : Int) := xTyF hT2 74 36 36 rfl rfl rfl rfl rfl rfl
      have z74_40 : ((2147483648 : Nat) : Int) ≤ xE (zyEl zymx B H2) 74 40 + 2147483648 ∧ xE (zyEl zymx B H2) 74 40 + 2147483648 ≤ ((2147483652 : Nat) : Int) := xTyF hT2 74 40 40 rfl rfl rfl rfl rfl rfl
      refine xGo hIH hAt hB hv hFr ⟨8, by decide⟩ [0, 0, 0] [0, 0, 0, xE (zyEl zymx B H2) 74 36, xE (zyEl zymx B H2) 74 40] rfl ⟨by decide +kernel, ⟨rfl, by decide +kernel⟩, (xcs_c rfl (xcs_c rfl (xcs_c rfl xcs_n))), (xe_0 (xe_0 (xe_0 (xe_c (by omega) (by omega) rfl (xe_c (by omega) (by omega) rfl xe_n))))), (xkq_c hT2 74 36 (q := 36) rfl rfl rfl rfl rfl rfl rfl rfl rfl rfl rfl (xkq_c hT2 74 40 (q := 40) rfl rfl rfl rfl rfl rfl rfl rfl rfl rfl rfl xkq_n))⟩ xst_n ?_ ?_
      · show (xE (zyEl zymx B H2) 74 36 = 0 → ∃ (f : Nat) (p : Int) (U : Int → Int), ((p) ≤ (xE (zyEl zymx B s.heap) 74 42) ∧ xRD (xE (zyEl zymx B s.heap) 84) (xE (zyEl zymx B s.heap) 74 42) (p) (zyEl zymx B H2)) ∧ pAll (xE (zyEl zymx B s.heap) 84) (xE (zyEl zymx B s.heap) 74 42) = pLines (xE (zyEl zymx B s.heap) 84) (xE (zyEl zymx B s.heap) 74 42) f p U ∧ (xE (zyEl zymx B s.heap) 74 42) - p < f ∧ (xE (zyEl zymx B s.heap) 74 42) - p < xE (zyEl zymx B s.heap) 74 42 + 1 ∧ sI U ∧ (∀ k, 0 ≤ k → k < 520 → xE (zyEl zymx B H2) 75 k = U k)) ∧ (¬ xE (zyEl zymx B H2) 74 36 = 0 → xEr (zyEl zymx B H2) (pAll (xE (zyEl zymx B s.heap) 84) (xE (zyEl zymx B s.heap) 74 42)))
        rw [hEE]
        exact hI
      · show 2 * (if xE (zyEl zymx B H2) 74 36 = 0 then (2 + xE (zyEl zymx B H2) 74 42 - xE (zyEl zymx B H2) 74 38).toNat else 0) < 2 * (if xE (zyEl zymx B H) 74 36 = 0 then (2 + xE (zyEl zymx B H) 74 42 - xE (zyEl zymx B H) 74 38).toNat else 0) + 1
        rw [hEE]
        omega
  · intro x0 E0 E E2 hrx hT0 hΦ i v hT hrv hInv hKc hFr0 x hx v2 hr2 hXs hag hfr hFr hT2
    rcases i with ⟨i, hi⟩
    have hi2 : i = 0 ∨ i = 1 ∨ i = 2 ∨ i = 3 ∨ i = 4 ∨ i = 5 ∨ i = 6 ∨ i = 7 ∨ i = 8 ∨ i = 9 := by omega
    rcases hi2 with rfl | rfl | rfl | rfl | rfl | rfl | rfl | rfl | rfl | rfl
    · cases hx
    · cases hx
    · cases hx
    · cases hx
    · cases hx
    · cases hx
    · cases hx
    · have hx : x ∈ [zxfra_gr0] := hx
      have hag : ∀ k, k < 4 → v2 k = v k := hag
      have hfr : xFr [] _ _ := hfr
      have ex := List.mem_singleton.mp hx
      subst ex
      obtain ⟨hF, hBd, hM⟩ := hXs
      have g1 : v2 1 = v 1 := hag 1 (by decide)
      have g2 : v2 2 = v 2 := hag 2 (by decide)
      have g3 : v2 3 = v 3 := hag 3 (by decide)
      have b0 : ((2147483649 : Nat) : Int) ≤ (v2 3) + 2147483648 ∧ (v2 3) + 2147483648 ≤ ((2147483657 : Nat) : Int) := xXb hBd 0 rfl
      have k0 : xE E 74 36 = v 3 := xKcf hKc 0 rfl rfl
      have f0 : 0 < (v2 3) := xXf hF 0 rfl
      have e74_36 : xE E2 74 36 = xE E 74 36 := xFr_E hfr rfl
      have e74_37 : xE E2 74 37 = xE E 74 37 := xFr_E hfr rfl
      have e74_38 : xE E2 74 38 = xE E 74 38 := xFr_E hfr rfl
      have e74_39 : xE E2 74 39 = xE E 74 39 := xFr_E hfr rfl
      have e74_40 : xE E2 74 40 = xE E 74 40 := xFr_E hfr rfl
      have e74_41 : xE E2 74 41 = xE E 74 41 := xFr_E hfr rfl
      have e74_42 : xE E2 74 42 = xE E 74 42 := xFr_E hfr rfl
      have q74_42 : xE E 74 42 = xE E0 74 42 := xFr_E hFr0 rfl
      have e75_0 : xE E2 75 0 = xE E 75 0 := xFr_E hfr rfl
      have e75_1 : xE E2 75 1 = xE E 75 1 := xFr_E hfr rfl
      have e75_2 : xE E2 75 2 = xE E 75 2 := xFr_E hfr rfl
      have e84 : ∀ i, xE E2 84 i = xE E 84 i := fun i => xFr_E hfr rfl
      have q84 : ∀ i, xE E 84 i = xE E0 84 i := fun i => xFr_E hFr0 rfl
      have y74_42 : ((2147483648 : Nat) : Int) ≤ xE E0 74 42 + 2147483648 ∧ xE E0 74 42 + 2147483648 ≤ ((2147484548 : Nat) : Int) := xTyF hT0 74 42 42 rfl rfl rfl rfl rfl rfl
      have hI : (xE E 74 36 = 0 → (1 ≤ (v 1) ∧ (v 1) ≤ 4) ∧ (1 ≤ (v 2) ∧ (v 2) ≤ 5) ∧ ∃ p, (0 ≤ p) ∧ ((p) ≤ (xE E0 74 42) ∧ xRD (xE E0 84) (xE E0 74 42) (p) E) ∧ pSz (xE E0 84) (xE E0 74 42) = .ok (p, pClr (v 1) (v 2))) ∧ (¬ xE E 74 36 = 0 → xEr E (pSz (xE E0 84) (xE E0 74 42))) := hInv
      show xΨal x0 E0 E2 0
      obtain ⟨i1, i2⟩ := hI
      have hEE : E2 = E := xFr_n hfr
      obtain ⟨hPW, hP1, hP2, hP3⟩ := (show xΦal x0 E0 from hΦ)
      have hX := i2 (by omega)
      unfold xΨal pAll
      have hX2 : xEr E2 (pSz (xE E0 84) (xE E0 74 42)) := xEr_k hX (by omega) (by omega)
      rw [hX2.2]
      exact xRs_e ⟨hX2.1, rfl⟩
    · have hx : x ∈ [zxfra_hr0, zxfra_hr1] := hx
      have hag : ∀ k, k < 5 → v2 k = v k := hag
      have hfr : xFr [] _ _ := hfr
      rcases List.mem_cons.mp hx with ex | hx
      · subst ex
        obtain ⟨hF, hBd, hM⟩ := hXs
        have g3 : v2 3 = v 3 := hag 3 (by decide)
        have g4 : v2 4 = v 4 := hag 4 (by decide)
        have b0 : ((2147483649 : Nat) : Int) ≤ (v2 3) + 2147483648 ∧ (v2 3) + 2147483648 ≤ ((2147483657 : Nat) : Int) := xXb hBd 0 rfl
        have k0 : xE E 74 36 = v 3 := xKcf hKc 0 rfl rfl
        have k1 : xE E 74 40 = v 4 := xKcf hKc 1 rfl rfl
        have f0 : ¬ (v2 3) = 0 := xXf hF 0 rfl
        have e74_36 : xE E2 74 36 = xE E 74 36 := xFr_E hfr rfl
        have e74_37 : xE E2 74 37 = xE E 74 37 := xFr_E hfr rfl
        have e74_38 : xE E2 74 38 = xE E 74 38 := xFr_E hfr rfl
        have e74_39 : xE E2 74 39 = xE E 74 39 := xFr_E hfr rfl
        have e74_40 : xE E2 74 40 = xE E 74 40 := xFr_E hfr rfl
        have e74_41 : xE E2 74 41 = xE E 74 41 := xFr_E hfr rfl
        have e74_42 : xE E2 74 42 = xE E 74 42 := xFr_E hfr rfl
        have q74_42 : xE E 74 42 = xE E0 74 42 := xFr_E hFr0 rfl
        have e75_0 : xE E2 75 0 = xE E 75 0 := xFr_E hfr rfl
        have e75_1 : xE E2 75 1 = xE E 75 1 := xFr_E hfr rfl
        have e75_2 : xE E2 75 2 = xE E 75 2 := xFr_E hfr rfl
        have e84 : ∀ i, xE E2 84 i = xE E 84 i := fun i => xFr_E hfr rfl
        have q84 : ∀ i, xE E 84 i = xE E0 84 i := fun i => xFr_E hFr0 rfl
        have y74_42 : ((2147483648 : Nat) : Int) ≤ xE E0 74 42 + 2147483648 ∧ xE E0 74 42 + 2147483648 ≤ ((2147484548 : Nat) : Int) := xTyF hT0 74 42 42 rfl rfl rfl rfl rfl rfl
        have hI : (xE E 74 36 = 0 → ∃ (f : Nat) (p : Int) (U : Int → Int), ((p) ≤ (xE E0 74 42) ∧ xRD (xE E0 84) (xE E0 74 42) (p) E) ∧ pAll (xE E0 84) (xE E0 74 42) = pLines (xE E0 84) (xE E0 74 42) f p U ∧ (xE E0 74 42) - p < f ∧ (xE E0 74 42) - p < xE E0 74 42 + 1 ∧ sI U ∧ (∀ k, 0 ≤ k → k < 520 → xE E 75 k = U k)) ∧ (¬ xE E 74 36 = 0 → xEr E (pAll (xE E0 84) (xE E0 74 42))) := hInv
        show xΨal x0 E0 E2 0
        obtain ⟨i1, i2⟩ := hI
        have hEE : E2 = E := xFr_n hfr
        obtain ⟨hPW, hP1, hP2, hP3⟩ := (show xΦal x0 E0 from hΦ)
        by_cases hz : xE E 74 36 = 0
        · obtain ⟨f, p, U, ⟨hp, hs⟩, hU, hf, hf2, hSI, hu⟩ := i1 hz
          obtain ⟨s1, s1b, s2, s3, s4, s5, s6, s7, s8⟩ := xRD_i hs hp
          have hk : tKd (xE E0 84) (xE E0 74 42) p = 0 := by omega
          unfold xΨal
          rw [hU, pLines_0 hk, hEE]
          exact ⟨hz, hp, hs, hu⟩
        · exact xRs_e (xEr_k (i2 hz) (by omega) (by omega))
      · skip
        have ex := List.mem_singleton.mp hx
        subst ex
        obtain ⟨hF, hBd, hM⟩ := hXs
        have g3 : v2 3 = v 3 := hag 3 (by decide)
        have g4 : v2 4 = v 4 := hag 4 (by decide)
        have b0 : ((2147483648 : Nat) : Int) ≤ (v2 3) + 2147483648 ∧ (v2 3) + 2147483648 ≤ ((2147483648 : Nat) : Int) := xXb hBd 0 rfl
        have b1 : ((2147483648 : Nat) : Int) ≤ (v2 4) + 2147483648 ∧ (v2 4) + 2147483648 ≤ ((2147483648 : Nat) : Int) := xXb hBd 1 rfl
        have k0 : xE E 74 36 = v 3 := xKcf hKc 0 rfl rfl
        have k1 : xE E 74 40 = v 4 := xKcf hKc 1 rfl rfl
        have f0 : (v2 3) = 0 := xXf hF 0 rfl
        have f1 : (v2 4) = 0 := xXf hF 1 rfl
        have e74_36 : xE E2 74 36 = xE E 74 36 := xFr_E hfr rfl
        have e74_37 : xE E2 74 37 = xE E 74 37 := xFr_E hfr rfl
        have e74_38 : xE E2 74 38 = xE E 74 38 := xFr_E hfr rfl
        have e74_39 : xE E2 74 39 = xE E 74 39 := xFr_E hfr rfl
        have e74_40 : xE E2 74 40 = xE E 74 40 := xFr_E hfr rfl
        have e74_41 : xE E2 74 41 = xE E 74 41 := xFr_E hfr rfl
        have e74_42 : xE E2 74 42 = xE E 74 42 := xFr_E hfr rfl
        have q74_42 : xE E 74 42 = xE E0 74 42 := xFr_E hFr0 rfl
        have e75_0 : xE E2 75 0 = xE E 75 0 := xFr_E hfr rfl
        have e75_1 : xE E2 75 1 = xE E 75 1 := xFr_E hfr rfl
        have e75_2 : xE E2 75 2 = xE E 75 2 := xFr_E hfr rfl
        have e84 : ∀ i, xE E2 84 i = xE E 84 i := fun i => xFr_E hfr rfl
        have q84 : ∀ i, xE E 84 i = xE E0 84 i := fun i => xFr_E hFr0 rfl
        have y74_42 : ((2147483648 : Nat) : Int) ≤ xE E0 74 42 + 2147483648 ∧ xE E0 74 42 + 2147483648 ≤ ((2147484548 : Nat) : Int) := xTyF hT0 74 42 42 rfl rfl rfl rfl rfl rfl
        have hI : (xE E 74 36 = 0 → ∃ (f : Nat) (p : Int) (U : Int → Int), ((p) ≤ (xE E0 74 42) ∧ xRD (xE E0 84) (xE E0 74 42) (p) E) ∧ pAll (xE E0 84) (xE E0 74 42) = pLines (xE E0 84) (xE E0 74 42) f p U ∧ (xE E0 74 42) - p < f ∧ (xE E0 74 42) - p < xE E0 74 42 + 1 ∧ sI U ∧ (∀ k, 0 ≤ k → k < 520 → xE E 75 k = U k)) ∧ (¬ xE E 74 36 = 0 → xEr E (pAll (xE E0 84) (xE E0 74 42))) := hInv
        show xΨal x0 E0 E2 0
        obtain ⟨i1, i2⟩ := hI
        have hEE : E2 = E := xFr_n hfr
        obtain ⟨hPW, hP1, hP2, hP3⟩ := (show xΦal x0 E0 from hΦ)
        by_cases hz : xE E 74 36 = 0
        · obtain ⟨f, p, U, ⟨hp, hs⟩, hU, hf, hf2, hSI, hu⟩ := i1 hz
          obtain ⟨s1, s1b, s2, s3, s4, s5, s6, s7, s8⟩ := xRD_i hs hp
          have hk : tKd (xE E0 84) (xE E0 74 42) p = 0 := by omega
          unfold xΨal
          rw [hU, pLines_0 hk, hEE]
          exact ⟨hz, hp, hs, hu⟩
        · exact xRs_e (xEr_k (i2 hz) (by omega) (by omega))
    · cases hx
