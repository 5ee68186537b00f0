/-! THE CLASS reads: bobbin, word (printed by m9.py) -/
noncomputable def zxfrb17_ax0 : zyXp := (27, [283, 147], [137438953465, 0, 283], [(24, 68719476737, 18, 40), (20, 0, 68719476737, 64), (24, 103079215105, 19, 16)], [(68719476737, 2147483648, 2147483655), (103079215105, 2147483648, 2147483728), (137438953465, 2147483647, 2147483727)], [])
noncomputable def zxfrb17_ar0 : zyXp := (0, [], [0], [(24, 68719476737, 18, 40), (21, 0, 68719476737, 64), (24, 103079215105, 35, 40)], [(68719476737, 2147483656, 2147483656), (103079215105, 2147483648, 2147484548)], [(573442, 48), (573443, 103079215105)])
noncomputable def zpfrb17_a : zyPh := (0, [283, 147], [(0, 4294967295), (0, 4294967295)], [], [])
noncomputable def zxfrb17_bx0 : zyXp := (40, [283, 147], [103079215105, 147], [(23, 0, 68719476737, 0), (24, 103079215105, 35, 64)], [(68719476737, 2147483649, 2147483649)], [])
noncomputable def zxfrb17_br0 : zyXp := (0, [], [0], [(22, 0, 68719476737, 0)], [(68719476737, 2147483648, 2147483648)], [])
noncomputable def zpfrb17_b : zyPh := (30, [283, 147], [(0, 4294967295), (0, 4294967295), (2147483648, 2147483649)], [], [68719476737])
noncomputable def zxfrb17_cx0 : zyXp := (57, [283, 147], [103079215105, 147], [(22, 0, 68719476737, 0), (24, 103079215105, 35, 64)], [(68719476737, 2147483648, 2147483648)], [])
noncomputable def zxfrb17_cr0 : zyXp := (0, [], [0], [(23, 0, 68719476737, 0), (24, 103079215105, 35, 40)], [(68719476737, 2147483649, 2147483649), (103079215105, 2147483648, 2147484548)], [(573442, 32), (573443, 103079215105)])
noncomputable def zpfrb17_c : zyPh := (43, [283, 147], [(0, 4294967295), (0, 4294967295), (2147483648, 2147483649)], [], [68719476737])
noncomputable def zxfrb17_dx0 : zyXp := (61, [283, 147], [283], [], [], [])
noncomputable def zpfrb17_d : zyPh := (60, [283, 147], [(0, 4294967295), (0, 4294967295)], [], [])
noncomputable def zxfrb17_er0 : zyXp := (0, [], [68719476737], [], [(68719476737, 2147483648, 2147483649)], [])
noncomputable def zpfrb17_e : zyPh := (64, [283, 147], [(0, 4294967295), (0, 4294967295), (2147483648, 2147483649)], [], [68719476737])
noncomputable def zpfrb17 (i : Nat) : zyPh := zif (Nat.beq i 0) (zpfrb17_a) (zif (Nat.beq i 1) (zpfrb17_b) (zif (Nat.beq i 2) (zpfrb17_c) (zif (Nat.beq i 3) (zpfrb17_d) (zpfrb17_e))))
noncomputable def zXfrb17 (i : Nat) : List zyXp := zif (Nat.beq i 0) ([zxfrb17_ax0]) (zif (Nat.beq i 1) ([zxfrb17_bx0]) (zif (Nat.beq i 2) ([zxfrb17_cx0]) (zif (Nat.beq i 3) ([zxfrb17_dx0]) ([]))))
noncomputable def zRfrb17 (i : Nat) : List zyXp := zif (Nat.beq i 0) ([zxfrb17_ar0]) (zif (Nat.beq i 1) ([zxfrb17_br0]) (zif (Nat.beq i 2) ([zxfrb17_cr0]) (zif (Nat.beq i 3) ([]) ([zxfrb17_er0]))))
noncomputable def zFfrb17 (i : Nat) : zyR := zif (Nat.beq i 0) ([(35, 2, 3)]) (zif (Nat.beq i 1) ([]) (zif (Nat.beq i 2) ([(35, 2, 3)]) (zif (Nat.beq i 3) ([]) ([]))))
noncomputable def zSfrb17 (i : Nat) : Nat := zif (Nat.beq i 0) (0) (zif (Nat.beq i 1) (0) (zif (Nat.beq i 2) (0) (zif (Nat.beq i 3) (0) (0))))
theorem xAb17_b {E E2 : zyEm} {S : Int → Int} (h : xAb17 E S) (hf : xFr [(35, 2, 3), (35, 5, 8), (18, 5, 5), (31, 0, 7), (32, 0, 7)] E E2) (h18_5 : xE E2 18 5 = xE E 18 5) (h31 : ∀ k, xE E2 31 k = xE E 31 k) (h32 : ∀ k, xE E2 32 k = xE E 32 k) : xAb17 E2 S := by
  obtain ⟨a0, a1, a2, a3, a4, a5, a6⟩ := h
  refine ⟨a0, ?_, ?_, ?_, ?_, ?_, ?_⟩
  · rw [(show xE E2 19 0 = xE E 19 0 from xFr_E hf rfl), (show xE E2 19 1 = xE E 19 1 from xFr_E hf rfl), (show xE E2 19 2 = xE E 19 2 from xFr_E hf rfl), (show xE E2 19 3 = xE E 19 3 from xFr_E hf rfl)]
    exact a1
  · intro s s0 s1
    rw [(show xE E2 21 s = xE E 21 s from xFr_E hf rfl)]
    exact a2 s s0 s1
  · rw [h18_5]
    refine ⟨a3.1, fun k k0 k1 => ?_⟩
    rw [h31 k, h32 k]
    exact a3.2 k k0 k1
  · intro k k0 k1
    rw [(show xE E2 27 k = xE E 27 k from xFr_E hf rfl), (show xE E2 28 k = xE E 28 k from xFr_E hf rfl), (show xE E2 29 k = xE E 29 k from xFr_E hf rfl), (show xE E2 30 k = xE E 30 k from xFr_E hf rfl)]
    exact a4 k k0 k1
  · rw [(show xE E2 18 8 = xE E 18 8 from xFr_E hf rfl), (show xE E2 33 1 = xE E 33 1 from xFr_E hf rfl)]
    exact a5
  · intro k k0 k1
    rw [(show xE E2 34 k = xE E 34 k from xFr_E hf rfl)]
    exact a6 k k0 k1
def xΨfrb17 (_ : Nat → Int) (E E2 : zyEm) (r : Int) : Prop := ∀ S q0, xAb17 E S → tFr (xE E 36) (xE E 35 4) q0 = xE E 35 5 → xOut17 (pBind (pBobbin (xE E 36) (xE E 35 4) q0 (xE E 35 6) S) (pSem (xE E 36) (xE E 35 4))) E2 r
noncomputable def fpfrb17 : zyR := [(35, 2, 3), (35, 5, 8), (18, 5, 5), (31, 0, 7), (32, 0, 7)]
theorem zyfrb17_run : zyrS zymc zxi63 (63, 0, 0, 2, 0) 5 zpfrb17 (fun _ _ => []) zFfrb17 zSfrb17 zXfrb17 zRfrb17 5 = true := by decide +kernel
theorem zyfrb17_ck : zyAll (fun i => xsubR (zFfrb17 i) fpfrb17 && ((zXfrb17 i).all xckX && (zRfrb17 i).all (fun x => xckX x && xrtB true x))) 5 = true := by decide +kernel
def xIfrb17 (i : Nat) (x0 : Nat → Int) (E0 : zyEm) (v : Nat → Int) (E : zyEm) : Prop := if i = 0 then (E = E0) else if i = 1 then ((xE E0 18 5 ≤ 7) ∧ xTN (xE E0 36) (xE E0 35 4) (xE E0 35 6) 0 (xE E0 19 2 - 1) E (v 2) ∧ (xE E 18 5 = xE E0 18 5) ∧ (∀ k, xE E 31 k = xE E0 31 k) ∧ (∀ k, xE E 32 k = xE E0 32 k)) else if i = 2 then ((xE E0 18 5 ≤ 7) ∧ ∃ sl, (0 ≤ sl ∧ sl < xE E0 19 2) ∧ xE E 35 8 = sl ∧ xE E 35 6 ≤ (xE E0 35 4) ∧ xE E 35 5 = tFr (xE E0 36) (xE E0 35 4) (xE E0 35 6) ∧ (∀ S, xAb17 E0 S → ∀ q0, pBobbin (xE E0 36) (xE E0 35 4) q0 (xE E0 35 6) S = if pTak S sl (pF (S 0) (S 1) sl) (S 2).toNat = true then .error (4, tFr (xE E0 36) (xE E0 35 4) (xE E0 35 6)) else .ok (xE E 35 6, pNew S sl)) ∧ (∀ S, xAb17 E0 S → (v 2) = if pTak S sl (pF (S 0) (S 1) sl) (S 2).toNat = true then 1 else 0) ∧ (xE E 18 5 = xE E0 18 5) ∧ (∀ k, xE E 31 k = xE E0 31 k) ∧ (∀ k, xE E 32 k = xE E0 32 k)) else if i = 3 then ((xE E0 18 5 ≤ 7) ∧ ∃ sl, xE E 35 6 ≤ (xE E0 35 4) ∧ (∀ S, xAb17 E0 S → ∀ q0, pBobbin (xE E0 36) (xE E0 35 4) q0 (xE E0 35 6) S = .ok (xE E 35 6, pNew S sl)) ∧ xE E 18 5 = xE E0 18 5 + 1 ∧ xE E 31 (xE E0 18 5) = sl ∧ (∀ k, 0 ≤ k → ¬ k = xE E0 18 5 → xE E 31 k = xE E0 31 k) ∧ xE E 32 (xE E0 18 5) = -1 ∧ (∀ k, 0 ≤ k → ¬ k = xE E0 18 5 → xE E 32 k = xE E0 32 k)) else ((xE E0 18 5 ≤ 7) ∧ ∃ sl p2, (∀ S, xAb17 E0 S → ∀ q0, pBobbin (xE E0 36) (xE E0 35 4) q0 (xE E0 35 6) S = .ok (p2, pNew S sl)) ∧ xTS (xE E0 36) (xE E0 35 4) p2 E (v 2) ∧ xE E 18 5 = xE E0 18 5 + 1 ∧ xE E 31 (xE E0 18 5) = sl ∧ (∀ k, 0 ≤ k → ¬ k = xE E0 18 5 → xE E 31 k = xE E0 31 k) ∧ xE E 32 (xE E0 18 5) = -1 ∧ (∀ k, 0 ≤ k → ¬ k = xE E0 18 5 → xE E 32 k = xE E0 32 k))
def xMfrb17 (i : Nat) (x0 : Nat → Int) (E0 : zyEm) (v : Nat → Int) (E : zyEm) : Nat := if i = 0 then (20) else if i = 1 then (19) else if i = 2 then (18) else if i = 3 then (17) else (16)
theorem xRb17 {l : Launch} {en : zEn} {me : zMe} (hen : zG zxMeta 63 = some en) (hme : zG zMeth 63 = some me) : xFc l zymc en me 5 [35, 18] 0 fpfrb17 true xΦrd17 xΨfrb17 := by
  have een : zG zxMeta 63 = some (zxi63, 2, 2, 5, 63, 0, 0, 2, 0) := rfl
  obtain ⟨me1, hme1, hOK⟩ := zall hen
  rw [hme] at hme1
  cases hme1
  rw [een] at hen
  cases hen
  have hr := zyfrb17_run
  have hck := fun i hi => zyAll_iff zyfrb17_ck i hi
  simp only [Bool.and_eq_true] at hck
  obtain ⟨meftn, hmeftn, -⟩ := zall (show zG zxMeta 69 = some (zxi69, 3, 3, 5, 69, 0, 0, 2, 0) from rfl)
  have hftn := xTn (l := l) (show zG zxMeta 69 = some (zxi69, 3, 3, 5, 69, 0, 0, 2, 0) from rfl) hmeftn
  obtain ⟨mefts, hmefts, -⟩ := zall (show zG zxMeta 68 = some (zxi68, 1, 1, 5, 68, 0, 0, 2, 0) from rfl)
  have hfts := xTs (l := l) (show zG zxMeta 68 = some (zxi68, 1, 1, 5, 68, 0, 0, 2, 0) from rfl) hmefts
  obtain ⟨mefhs17, hmefhs17, -⟩ := zall (show zG zxMeta 34 = some (zxi34, 2, 3, 3, 34, 0, 0, 2, 0) from rfl)
  have hfhs17 := xHs17 (l := l) (show zG zxMeta 34 = some (zxi34, 2, 3, 3, 34, 0, 0, 2, 0) from rfl) hmefhs17
  obtain ⟨mefab17, hmefab17, -⟩ := zall (show zG zxMeta 32 = some (zxi32, 2, 2, 3, 32, 0, 0, 0, 0) from rfl)
  have hfab17 := xAbb17 (l := l) (show zG zxMeta 32 = some (zxi32, 2, 2, 3, 32, 0, 0, 0, 0) from rfl) hmefab17
  intro B
  refine xcut (mi := zymc) (B := B) hOK rfl rfl (ι := Fin 5) (fun i => zpfrb17 i.val) (fun _ _ => []) (fun i => zFfrb17 i.val) (fun i => zSfrb17 i.val) (fun i => zXfrb17 i.val) (fun i => zRfrb17 i.val) (fun i y2 ct en2 me2 h => by cases h) 200000 (fun i => zyAll_iff hr i.val i.isLt) (fun i => (hck i.val i.isLt).1) (fun i => (hck i.val i.isLt).2.1) (fun i => (hck i.val i.isLt).2.2) ⟨0, by decide⟩ ⟨rfl, rfl, rfl, rfl⟩ ⟨by decide, by decide⟩ (fun i x0 E0 v E => xIfrb17 i.val x0 E0 v E) (fun i x0 E0 v E => xMfrb17 i.val x0 E0 v E) ?_ ?_ ?_
  · intro x0 E hx0 hT hΦ
    have hΦ : xΦrd17 x0 E := hΦ
    refine ⟨fun k p hp => ?_, ?_⟩
    · have hk : k < 2 := (List.getElem?_eq_some_iff.mp hp).1
      have hk : k = 0 ∨ k = 1 := by omega
      rcases hk with rfl | rfl
      · have hp : some (0, 4294967295) = some p := hp
        cases hp
        show ((0 : Nat) : Int) ≤ 0 + 2147483648 ∧ 0 + 2147483648 ≤ ((4294967295 : Nat) : Int)
        omega
      · have hp : some (0, 4294967295) = some p := hp
        cases hp
        show ((0 : Nat) : Int) ≤ 0 + 2147483648 ∧ 0 + 2147483648 ≤ ((4294967295 : Nat) : Int)
        omega
    · show E = E
      rfl
  · intro x0 s Wg hRu hrx hT0 hΦ i v H hT hrv hInv hKc hFr0 hIH x hx ρ2 v2 N2 H2 locs lsB stA hAt hB hv hr2 hXs hag hfr hFr hT2
    rcases i with ⟨i, hi⟩
    have hi2 : i = 0 ∨ i = 1 ∨ i = 2 ∨ i = 3 ∨ i = 4 := by omega
    rcases hi2 with rfl | rfl | rfl | rfl | rfl
    · have hx : x ∈ [zxfrb17_ax0] := hx
      have hag : ∀ k, k < 2 → v2 k = v k := hag
      have hfr : xFr [(35, 2, 3)] _ _ := hfr
      have ex := List.mem_singleton.mp hx
      subst ex
      obtain ⟨hF, hBd, hM⟩ := hXs
      have b0 : ((2147483648 : Nat) : Int) ≤ (v2 2) + 2147483648 ∧ (v2 2) + 2147483648 ≤ ((2147483655 : Nat) : Int) := xXb hBd 0 rfl
      have b1 : ((2147483648 : Nat) : Int) ≤ (v2 3) + 2147483648 ∧ (v2 3) + 2147483648 ≤ ((2147483728 : Nat) : Int) := xXb hBd 1 rfl
      have b2 : ((2147483647 : Nat) : Int) ≤ (v2 3 + (-1)) + 2147483648 ∧ (v2 3 + (-1)) + 2147483648 ≤ ((2147483727 : Nat) : Int) := xXb hBd 2 rfl
      have f0 : (0 : Int) ≤ 5 ∧ xE (zyEl zymc B H) 18 5 = (v2 2) := xXf hF 0 rfl
      have f1 : (v2 2) < 8 := xXf hF 1 rfl
      have f2 : (0 : Int) ≤ 2 ∧ xE (zyEl zymc B H) 19 2 = (v2 3) := xXf hF 2 rfl
      have e35_4 : xE (zyEl zymc B H2) 35 4 = xE (zyEl zymc B H) 35 4 := xFr_E hfr rfl
      have q35_4 : xE (zyEl zymc B H) 35 4 = xE (zyEl zymc B s.heap) 35 4 := xFr_E hFr0 rfl
      have e35_5 : xE (zyEl zymc B H2) 35 5 = xE (zyEl zymc B H) 35 5 := xFr_E hfr rfl
      have e35_6 : xE (zyEl zymc B H2) 35 6 = xE (zyEl zymc B H) 35 6 := xFr_E hfr rfl
      have e35_7 : xE (zyEl zymc B H2) 35 7 = xE (zyEl zymc B H) 35 7 := xFr_E hfr rfl
      have e35_8 : xE (zyEl zymc B H2) 35 8 = xE (zyEl zymc B H) 35 8 := xFr_E hfr rfl
      have e19_2 : xE (zyEl zymc B H2) 19 2 = xE (zyEl zymc B H) 19 2 := xFr_E hfr rfl
      have q19_2 : xE (zyEl zymc B H) 19 2 = xE (zyEl zymc B s.heap) 19 2 := xFr_E hFr0 rfl
      have e18_5 : xE (zyEl zymc B H2) 18 5 = xE (zyEl zymc B H) 18 5 := xFr_E hfr rfl
      have e36 : ∀ i, xE (zyEl zymc B H2) 36 i = xE (zyEl zymc B H) 36 i := fun i => xFr_E hfr rfl
      have q36 : ∀ i, xE (zyEl zymc B H) 36 i = xE (zyEl zymc B s.heap) 36 i := fun i => xFr_E hFr0 rfl
      have e31 : ∀ i, xE (zyEl zymc B H2) 31 i = xE (zyEl zymc B H) 31 i := fun i => xFr_E hfr rfl
      have e32 : ∀ i, xE (zyEl zymc B H2) 32 i = xE (zyEl zymc B H) 32 i := fun i => xFr_E hfr rfl
      have y19_2 : ((2147483648 : Nat) : Int) ≤ xE (zyEl zymc B s.heap) 19 2 + 2147483648 ∧ xE (zyEl zymc B s.heap) 19 2 + 2147483648 ≤ ((2147483728 : Nat) : Int) := xTyF hT0 19 2 2 rfl rfl rfl rfl rfl rfl
      have y18_5 : ((2147483648 : Nat) : Int) ≤ xE (zyEl zymc B s.heap) 18 5 + 2147483648 ∧ xE (zyEl zymc B s.heap) 18 5 + 2147483648 ≤ ((2147483656 : Nat) : Int) := xTyF hT0 18 5 5 rfl rfl rfl rfl rfl rfl
      have hI : (zyEl zymc B H) = (zyEl zymc B s.heap) := hInv
      have q35_5 : xE (zyEl zymc B H) 35 5 = xE (zyEl zymc B s.heap) 35 5 := by rw [hI]
      have q35_6 : xE (zyEl zymc B H) 35 6 = xE (zyEl zymc B s.heap) 35 6 := by rw [hI]
      have q35_7 : xE (zyEl zymc B H) 35 7 = xE (zyEl zymc B s.heap) 35 7 := by rw [hI]
      have q35_8 : xE (zyEl zymc B H) 35 8 = xE (zyEl zymc B s.heap) 35 8 := by rw [hI]
      have q35_2 : xE (zyEl zymc B H) 35 2 = xE (zyEl zymc B s.heap) 35 2 := by rw [hI]
      have q35_3 : xE (zyEl zymc B H) 35 3 = xE (zyEl zymc B s.heap) 35 3 := by rw [hI]
      have q18_5 : xE (zyEl zymc B H) 18 5 = xE (zyEl zymc B s.heap) 18 5 := by rw [hI]
      have q31 : ∀ i, xE (zyEl zymc B H) 31 i = xE (zyEl zymc B s.heap) 31 i := fun i => by rw [hI]
      have q32 : ∀ i, xE (zyEl zymc B H) 32 i = xE (zyEl zymc B s.heap) 32 i := fun i => by rw [hI]
      have tt : xE (zyEl zymc B H2) 36 = xE (zyEl zymc B s.heap) 36 := funext fun i => (e36 i).trans (q36 i)
      have tn : xE (zyEl zymc B H2) 35 4 = xE (zyEl zymc B s.heap) 35 4 := by omega
      refine xCa hRu hIH hAt hB hv hFr (hftn B) (ix := 60) (ax := 1104) rfl rfl rfl hmeftn ⟨_, rfl, rfl, by decide⟩ ⟨rfl, rfl, rfl⟩ (by decide) [0, 137438953465] [] [0, (v2 3 + (-1))] rfl ⟨rfl, rfl⟩ (by decide +kernel) (xcs_c rfl (xcs_c rfl xcs_n)) (by decide +kernel) ?_ (fun H3 r hT3 hf3 hFr3 hr3 hΨ3 => ?_)
      · show xΦad (xfv [0, (v2 3 + (-1))]) (zyEl zymc B H2)
        have hP := hΦ.1
        unfold xΦad
        omega
      · have hΨ3 : xΨtn (xfv [0, (v2 3 + (-1))]) (zyEl zymc B H2) (zyEl zymc B H3) r := hΨ3
        have d35_4 : xE (zyEl zymc B H3) 35 4 = xE (zyEl zymc B H2) 35 4 := xFr_E hf3 rfl
        have d19_2 : xE (zyEl zymc B H3) 19 2 = xE (zyEl zymc B H2) 19 2 := xFr_E hf3 rfl
        have d18_5 : xE (zyEl zymc B H3) 18 5 = xE (zyEl zymc B H2) 18 5 := xFr_E hf3 rfl
        have d36 : ∀ i, xE (zyEl zymc B H3) 36 i = xE (zyEl zymc B H2) 36 i := fun i => xFr_E hf3 rfl
        have d31 : ∀ i, xE (zyEl zymc B H3) 31 i = xE (zyEl zymc B H2) 31 i := fun i => xFr_E hf3 rfl
        have d32 : ∀ i, xE (zyEl zymc B H3) 32 i = xE (zyEl zymc B H2) 32 i := fun i => xFr_E hf3 rfl
        unfold xΨtn at hΨ3
        rw [tt, tn, show xE (zyEl zymc B H2) 35 6 = xE (zyEl zymc B s.heap) 35 6 by omega, show xfv [0, (v2 3 + (-1))] 1 = xE (zyEl zymc B s.heap) 19 2 - 1 by show (v2 3 + (-1)) = _; omega] at hΨ3
        have hr01 := xtn_r hΨ3
        refine ⟨⟨1, by decide⟩, [0, 0], [0, 0, r], rfl, ⟨by decide +kernel, ⟨rfl, by decide +kernel⟩, (xcs_c rfl (xcs_c rfl xcs_n)), (xe_0 (xe_0 (xe_c (by omega) (by omega) rfl xe_n))), xkq_n⟩, (by rw [if_pos rfl]; exact ⟨2, [], rfl, by decide, rfl, xst_n⟩), ?_, ?_⟩
        · show (xE (zyEl zymc B s.heap) 18 5 ≤ 7) ∧ xTN (xE (zyEl zymc B s.heap) 36) (xE (zyEl zymc B s.heap) 35 4) (xE (zyEl zymc B s.heap) 35 6) 0 (xE (zyEl zymc B s.heap) 19 2 - 1) (zyEl zymc B H3) (r : Int) ∧ (xE (zyEl zymc B H3) 18 5 = xE (zyEl zymc B s.heap) 18 5) ∧ (∀ k, xE (zyEl zymc B H3) 31 k = xE (zyEl zymc B s.heap) 31 k) ∧ (∀ k, xE (zyEl zymc B H3) 32 k = xE (zyEl zymc B s.heap) 32 k)
          exact ⟨by omega, hΨ3, by omega, ⟨fun k => by rw [d31 k, e31 k, q31 k], fun k => by rw [d32 k, e32 k, q32 k]⟩⟩
        · show 19 < 20
          omega
    · have hx : x ∈ [zxfrb17_bx0] := hx
      have hag : ∀ k, k < 3 → v2 k = v k := hag
      have hfr : xFr [] _ _ := hfr
      have ex := List.mem_singleton.mp hx
      subst ex
      obtain ⟨hF, hBd, hM⟩ := hXs
      have r3 := hr2 3
      have g2 : v2 2 = v 2 := hag 2 (by decide)
      have b0 : ((2147483649 : Nat) : Int) ≤ (v2 2) + 2147483648 ∧ (v2 2) + 2147483648 ≤ ((2147483649 : Nat) : Int) := xXb hBd 0 rfl
      have f0 : ¬ (v2 2) = 0 := xXf hF 0 rfl
      have f1 : (0 : Int) ≤ 8 ∧ xE (zyEl zymc B H) 35 8 = (v2 3) := xXf hF 1 rfl
      have e35_4 : xE (zyEl zymc B H2) 35 4 = xE (zyEl zymc B H) 35 4 := xFr_E hfr rfl
      have q35_4 : xE (zyEl zymc B H) 35 4 = xE (zyEl zymc B s.heap) 35 4 := xFr_E hFr0 rfl
      have e35_5 : xE (zyEl zymc B H2) 35 5 = xE (zyEl zymc B H) 35 5 := xFr_E hfr rfl
      have e35_6 : xE (zyEl zymc B H2) 35 6 = xE (zyEl zymc B H) 35 6 := xFr_E hfr rfl
      have e35_7 : xE (zyEl zymc B H2) 35 7 = xE (zyEl zymc B H) 35 7 := xFr_E hfr rfl
      have e35_8 : xE (zyEl zymc B H2) 35 8 = xE (zyEl zymc B H) 35 8 := xFr_E hfr rfl
      have e35_2 : xE (zyEl zymc B H2) 35 2 = xE (zyEl zymc B H) 35 2 := xFr_E hfr rfl
      have e35_3 : xE (zyEl zymc B H2) 35 3 = xE (zyEl zymc B H) 35 3 := xFr_E hfr rfl
      have e19_2 : xE (zyEl zymc B H2) 19 2 = xE (zyEl zymc B H) 19 2 := xFr_E hfr rfl
      have q19_2 : xE (zyEl zymc B H) 19 2 = xE (zyEl zymc B s.heap) 19 2 := xFr_E hFr0 rfl
      have e18_5 : xE (zyEl zymc B H2) 18 5 = xE (zyEl zymc B H) 18 5 := xFr_E hfr rfl
      have e36 : ∀ i, xE (zyEl zymc B H2) 36 i = xE (zyEl zymc B H) 36 i := fun i => xFr_E hfr rfl
      have q36 : ∀ i, xE (zyEl zymc B H) 36 i = xE (zyEl zymc B s.heap) 36 i := fun i => xFr_E hFr0 rfl
      have e31 : ∀ i, xE (zyEl zymc B H2) 31 i = xE (zyEl zymc B H) 31 i := fun i => xFr_E hfr rfl
      have e32 : ∀ i, xE (zyEl zymc B H2) 32 i = xE (zyEl zymc B H) 32 i := fun i => xFr_E hfr rfl
      have y19_2 : ((2147483648 : Nat) : Int) ≤ xE (zyEl zymc B s.heap) 19 2 + 2147483648 ∧ xE (zyEl zymc B s.heap) 19 2 + 2147483648 ≤ ((2147483728 : Nat) : Int) := xTyF hT0 19 2 2 rfl rfl rfl rfl rfl rfl
      have y18_5 : ((2147483648 : Nat) : Int) ≤ xE (zyEl zymc B s.heap) 18 5 + 2147483648 ∧ xE (zyEl zymc B s.heap) 18 5 + 2147483648 ≤ ((2147483656 : Nat) : Int) := xTyF hT0 18 5 5 rfl rfl rfl rfl rfl rfl
      have hI : (xE (zyEl zymc B s.heap) 18 5 ≤ 7) ∧ xTN (xE (zyEl zymc B s.heap) 36) (xE (zyEl zymc B s.heap) 35 4) (xE (zyEl zymc B s.heap) 35 6) 0 (xE (zyEl zymc B s.heap) 19 2 - 1) (zyEl zymc B H) (v 2) ∧ (xE (zyEl zymc B H) 18 5 = xE (zyEl zymc B s.heap) 18 5) ∧ (∀ k, xE (zyEl zymc B H) 31 k = xE (zyEl zymc B s.heap) 31 k) ∧ (∀ k, xE (zyEl zymc B H) 32 k = xE (zyEl zymc B s.heap) 32 k) := hInv
      obtain ⟨i0, i1, i2, j0, j1⟩ := hI
      rw [show (v 2) = v2 2 by omega] at i1
      have tt : xE (zyEl zymc B H2) 36 = xE (zyEl zymc B s.heap) 36 := funext fun i => (e36 i).trans (q36 i)
      have tn : xE (zyEl zymc B H2) 35 4 = xE (zyEl zymc B s.heap) 35 4 := by omega
      obtain ⟨c1, c2, c3, c4, c5, c6, c7⟩ := xtn_1 i1 (by omega)
      have hPos := hΦ.1
      have hb := tNx_b (T := xE (zyEl zymc B s.heap) 36) (n := xE (zyEl zymc B s.heap) 35 4) (p := xE (zyEl zymc B s.heap) 35 6) hPos
      have hEE2 := xFr_n hfr
      have hab : ∀ S, xAb17 (zyEl zymc B s.heap) S → xAb17 (zyEl zymc B H2) S := fun S hS => by
        rw [hEE2]
        exact xAb17_b hS hFr0 i2 j0 j1
      refine xCa hRu hIH hAt hB hv hFr (hfhs17 B) (ix := 131) (ax := 545) rfl rfl rfl hmefhs17 ⟨_, rfl, rfl, by decide⟩ ⟨rfl, rfl, rfl⟩ (by decide) [103079215105] [] [(v2 3)] rfl ⟨rfl, rfl⟩ (by decide +kernel) (xcs_c rfl xcs_n) (by decide +kernel) ?_ (fun H3 r hT3 hf3 hFr3 hr3 hΨ3 => ?_)
      · show xΦhs17 (xfv [(v2 3)]) (zyEl zymc B H2)
        exact ⟨by show 0 ≤ (v2 3); omega, by show (v2 3) < _; omega⟩
      · have hΨ3 : xΨhs17 (xfv [(v2 3)]) (zyEl zymc B H2) (zyEl zymc B H3) r := hΨ3
        have d35_4 : xE (zyEl zymc B H3) 35 4 = xE (zyEl zymc B H2) 35 4 := xFr_E hf3 rfl
        have d35_5 : xE (zyEl zymc B H3) 35 5 = xE (zyEl zymc B H2) 35 5 := xFr_E hf3 rfl
        have d35_6 : xE (zyEl zymc B H3) 35 6 = xE (zyEl zymc B H2) 35 6 := xFr_E hf3 rfl
        have d35_7 : xE (zyEl zymc B H3) 35 7 = xE (zyEl zymc B H2) 35 7 := xFr_E hf3 rfl
        have d35_8 : xE (zyEl zymc B H3) 35 8 = xE (zyEl zymc B H2) 35 8 := xFr_E hf3 rfl
        have d35_2 : xE (zyEl zymc B H3) 35 2 = xE (zyEl zymc B H2) 35 2 := xFr_E hf3 rfl
        have d35_3 : xE (zyEl zymc B H3) 35 3 = xE (zyEl zymc B H2) 35 3 := xFr_E hf3 rfl
        have d19_2 : xE (zyEl zymc B H3) 19 2 = xE (zyEl zymc B H2) 19 2 := xFr_E hf3 rfl
        have d18_5 : xE (zyEl zymc B H3) 18 5 = xE (zyEl zymc B H2) 18 5 := xFr_E hf3 rfl
        have d36 : ∀ i, xE (zyEl zymc B H3) 36 i = xE (zyEl zymc B H2) 36 i := fun i => xFr_E hf3 rfl
        have d31 : ∀ i, xE (zyEl zymc B H3) 31 i = xE (zyEl zymc B H2) 31 i := fun i => xFr_E hf3 rfl
        have d32 : ∀ i, xE (zyEl zymc B H3) 32 i = xE (zyEl zymc B H2) 32 i := fun i => xFr_E hf3 rfl
        obtain ⟨w1, w2⟩ := hΨ3
        have hEE3 := xFr_n hf3
        have w2 : ∀ S, xAb17 (zyEl zymc B H2) S → r = if pTak S (v2 3) (pF (S 0) (S 1) (v2 3)) (S 2).toNat = true then 1 else 0 := w2
        refine ⟨⟨2, by decide⟩, [0, 0], [0, 0, r], rfl, ⟨by decide +kernel, ⟨rfl, by decide +kernel⟩, (xcs_c rfl (xcs_c rfl xcs_n)), (xe_0 (xe_0 (xe_c (by omega) (by omega) rfl xe_n))), xkq_n⟩, (by rw [if_pos rfl]; exact ⟨2, [], rfl, by decide, rfl, xst_n⟩), ?_, ?_⟩
        · show (xE (zyEl zymc B s.heap) 18 5 ≤ 7) ∧ ∃ sl, (0 ≤ sl ∧ sl < xE (zyEl zymc B s.heap) 19 2) ∧ xE (zyEl zymc B H3) 35 8 = sl ∧ xE (zyEl zymc B H3) 35 6 ≤ (xE (zyEl zymc B s.heap) 35 4) ∧ xE (zyEl zymc B H3) 35 5 = tFr (xE (zyEl zymc B s.heap) 36) (xE (zyEl zymc B s.heap) 35 4) (xE (zyEl zymc B s.heap) 35 6) ∧ (∀ S, xAb17 (zyEl zymc B s.heap) S → ∀ q0, pBobbin (xE (zyEl zymc B s.heap) 36) (xE (zyEl zymc B s.heap) 35 4) q0 (xE (zyEl zymc B s.heap) 35 6) S = if pTak S sl (pF (S 0) (S 1) sl) (S 2).toNat = true then .error (4, tFr (xE (zyEl zymc B s.heap) 36) (xE (zyEl zymc B s.heap) 35 4) (xE (zyEl zymc B s.heap) 35 6)) else .ok (xE (zyEl zymc B H3) 35 6, pNew S sl)) ∧ (∀ S, xAb17 (zyEl zymc B s.heap) S → (r : Int) = if pTak S sl (pF (S 0) (S 1) sl) (S 2).toNat = true then 1 else 0) ∧ (xE (zyEl zymc B H3) 18 5 = xE (zyEl zymc B s.heap) 18 5) ∧ (∀ k, xE (zyEl zymc B H3) 31 k = xE (zyEl zymc B s.heap) 31 k) ∧ (∀ k, xE (zyEl zymc B H3) 32 k = xE (zyEl zymc B s.heap) 32 k)
          rw [hEE3]
          refine ⟨by omega, (v2 3), by omega, by omega, by omega, ?_, fun S hS q0 => ?_, fun S hS => w2 S (hab S hS), by omega, fun k => by rw [e31 k, j0 k], fun k => by rw [e32 k, j1 k]⟩
          · have := i1.1
            omega
          · have h1 := hS.2.2.2.1.1
            unfold pBobbin
            rw [if_neg (by omega), ← hS.2.1.2.2.1, c7, show xE (zyEl zymc B H2) 35 6 = xE (zyEl zymc B H) 35 6 by omega, show xE (zyEl zymc B H) 35 8 = (v2 3) by omega]
        · show 18 < 19
          omega
    · have hx : x ∈ [zxfrb17_cx0] := hx
      have hag : ∀ k, k < 3 → v2 k = v k := hag
      have hfr : xFr [(35, 2, 3)] _ _ := hfr
      have ex := List.mem_singleton.mp hx
      subst ex
      obtain ⟨hF, hBd, hM⟩ := hXs
      have r3 := hr2 3
      have g2 : v2 2 = v 2 := hag 2 (by decide)
      have b0 : ((2147483648 : Nat) : Int) ≤ (v2 2) + 2147483648 ∧ (v2 2) + 2147483648 ≤ ((2147483648 : Nat) : Int) := xXb hBd 0 rfl
      have f0 : (v2 2) = 0 := xXf hF 0 rfl
      have f1 : (0 : Int) ≤ 8 ∧ xE (zyEl zymc B H) 35 8 = (v2 3) := xXf hF 1 rfl
      have e35_4 : xE (zyEl zymc B H2) 35 4 = xE (zyEl zymc B H) 35 4 := xFr_E hfr rfl
      have q35_4 : xE (zyEl zymc B H) 35 4 = xE (zyEl zymc B s.heap) 35 4 := xFr_E hFr0 rfl
      have e35_5 : xE (zyEl zymc B H2) 35 5 = xE (zyEl zymc B H) 35 5 := xFr_E hfr rfl
      have e35_6 : xE (zyEl zymc B H2) 35 6 = xE (zyEl zymc B H) 35 6 := xFr_E hfr rfl
      have e35_7 : xE (zyEl zymc B H2) 35 7 = xE (zyEl zymc B H) 35 7 := xFr_E hfr rfl
      have e35_8 : xE (zyEl zymc B H2) 35 8 = xE (zyEl zymc B H) 35 8 := xFr_E hfr rfl
      have e19_2 : xE (zyEl zymc B H2) 19 2 = xE (zyEl zymc B H) 19 2 := xFr_E hfr rfl
      have q19_2 : xE (zyEl zymc B H) 19 2 = xE (zyEl zymc B s.heap) 19 2 := xFr_E hFr0 rfl
      have e18_5 : xE (zyEl zymc B H2) 18 5 = xE (zyEl zymc B H) 18 5 := xFr_E hfr rfl
      have e36 : ∀ i, xE (zyEl zymc B H2) 36 i = xE (zyEl zymc B H) 36 i := fun i => xFr_E hfr rfl
      have q36 : ∀ i, xE (zyEl zymc B H) 36 i = xE (zyEl zymc B s.heap) 36 i := fun i => xFr_E hFr0 rfl
      have e31 : ∀ i, xE (zyEl zymc B H2) 31 i = xE (zyEl zymc B H) 31 i := fun i => xFr_E hfr rfl
      have e32 : ∀ i, xE (zyEl zymc B H2) 32 i = xE (zyEl zymc B H) 32 i := fun i => xFr_E hfr rfl
      have y19_2 : ((2147483648 : Nat) : Int) ≤ xE (zyEl zymc B s.heap) 19 2 + 2147483648 ∧ xE (zyEl zymc B s.heap) 19 2 + 2147483648 ≤ ((2147483728 : Nat) : Int) := xTyF hT0 19 2 2 rfl rfl rfl rfl rfl rfl
      have y18_5 : ((2147483648 : Nat) : Int) ≤ xE (zyEl zymc B s.heap) 18 5 + 2147483648 ∧ xE (zyEl zymc B s.heap) 18 5 + 2147483648 ≤ ((2147483656 : Nat) : Int) := xTyF hT0 18 5 5 rfl rfl rfl rfl rfl rfl
      have hI : (xE (zyEl zymc B s.heap) 18 5 ≤ 7) ∧ ∃ sl, (0 ≤ sl ∧ sl < xE (zyEl zymc B s.heap) 19 2) ∧ xE (zyEl zymc B H) 35 8 = sl ∧ xE (zyEl zymc B H) 35 6 ≤ (xE (zyEl zymc B s.heap) 35 4) ∧ xE (zyEl zymc B H) 35 5 = tFr (xE (zyEl zymc B s.heap) 36) (xE (zyEl zymc B s.heap) 35 4) (xE (zyEl zymc B s.heap) 35 6) ∧ (∀ S, xAb17 (zyEl zymc B s.heap) S → ∀ q0, pBobbin (xE (zyEl zymc B s.heap) 36) (xE (zyEl zymc B s.heap) 35 4) q0 (xE (zyEl zymc B s.heap) 35 6) S = if pTak S sl (pF (S 0) (S 1) sl) (S 2).toNat = true then .error (4, tFr (xE (zyEl zymc B s.heap) 36) (xE (zyEl zymc B s.heap) 35 4) (xE (zyEl zymc B s.heap) 35 6)) else .ok (xE (zyEl zymc B H) 35 6, pNew S sl)) ∧ (∀ S, xAb17 (zyEl zymc B s.heap) S → (v 2) = if pTak S sl (pF (S 0) (S 1) sl) (S 2).toNat = true then 1 else 0) ∧ (xE (zyEl zymc B H) 18 5 = xE (zyEl zymc B s.heap) 18 5) ∧ (∀ k, xE (zyEl zymc B H) 31 k = xE (zyEl zymc B s.heap) 31 k) ∧ (∀ k, xE (zyEl zymc B H) 32 k = xE (zyEl zymc B s.heap) 32 k) := hInv
      obtain ⟨i0, sl, i1, i2, i3, i4, i5, i6, i7, j0, j1⟩ := hI
      rw [show (v 2) = v2 2 by omega] at i6
      have y79 := (show xE (zyEl zymc B s.heap) 19 2 ≤ 80 by omega)
      refine xCa hRu hIH hAt hB hv hFr (hfab17 B) (ix := 134) (ax := 513) rfl rfl rfl hmefab17 ⟨_, rfl, rfl, by decide⟩ ⟨rfl, rfl, rfl⟩ (by decide) [103079215105] [] [(v2 3)] rfl ⟨rfl, rfl⟩ (by decide +kernel) (xcs_c rfl xcs_n) (by decide +kernel) ?_ (fun H3 r hT3 hf3 hFr3 hr3 hΨ3 => ?_)
      · show xΦab17 (xfv [(v2 3)]) (zyEl zymc B H2)
        exact ⟨by omega, by show 0 ≤ (v2 3); omega, by show (v2 3) ≤ 79; omega⟩
      · have hΨ3 : xΨab17 (xfv [(v2 3)]) (zyEl zymc B H2) (zyEl zymc B H3) r := hΨ3
        have d35_4 : xE (zyEl zymc B H3) 35 4 = xE (zyEl zymc B H2) 35 4 := xFr_E hf3 rfl
        have d35_5 : xE (zyEl zymc B H3) 35 5 = xE (zyEl zymc B H2) 35 5 := xFr_E hf3 rfl
        have d35_6 : xE (zyEl zymc B H3) 35 6 = xE (zyEl zymc B H2) 35 6 := xFr_E hf3 rfl
        have d35_7 : xE (zyEl zymc B H3) 35 7 = xE (zyEl zymc B H2) 35 7 := xFr_E hf3 rfl
        have d35_8 : xE (zyEl zymc B H3) 35 8 = xE (zyEl zymc B H2) 35 8 := xFr_E hf3 rfl
        have d35_2 : xE (zyEl zymc B H3) 35 2 = xE (zyEl zymc B H2) 35 2 := xFr_E hf3 rfl
        have d35_3 : xE (zyEl zymc B H3) 35 3 = xE (zyEl zymc B H2) 35 3 := xFr_E hf3 rfl
        have d19_2 : xE (zyEl zymc B H3) 19 2 = xE (zyEl zymc B H2) 19 2 := xFr_E hf3 rfl
        have d36 : ∀ i, xE (zyEl zymc B H3) 36 i = xE (zyEl zymc B H2) 36 i := fun i => xFr_E hf3 rfl
        obtain ⟨w1, w2, w3, w4, w5⟩ := hΨ3
        have hB2 : xE (zyEl zymc B H2) 18 5 = xE (zyEl zymc B s.heap) 18 5 := by omega
        rw [hB2] at w1 w2 w3 w4 w5
        have w2 : _ = (v2 3) := w2
        refine ⟨⟨3, by decide⟩, [0, 0], [0, 0], rfl, ⟨by decide +kernel, ⟨rfl, by decide +kernel⟩, (xcs_c rfl (xcs_c rfl xcs_n)), (xe_0 (xe_0 xe_n)), xkq_n⟩, (by rw [if_neg (by decide)]; exact xst_n), ?_, ?_⟩
        · show (xE (zyEl zymc B s.heap) 18 5 ≤ 7) ∧ ∃ sl, xE (zyEl zymc B H3) 35 6 ≤ (xE (zyEl zymc B s.heap) 35 4) ∧ (∀ S, xAb17 (zyEl zymc B s.heap) S → ∀ q0, pBobbin (xE (zyEl zymc B s.heap) 36) (xE (zyEl zymc B s.heap) 35 4) q0 (xE (zyEl zymc B s.heap) 35 6) S = .ok (xE (zyEl zymc B H3) 35 6, pNew S sl)) ∧ xE (zyEl zymc B H3) 18 5 = xE (zyEl zymc B s.heap) 18 5 + 1 ∧ xE (zyEl zymc B H3) 31 (xE (zyEl zymc B s.heap) 18 5) = sl ∧ (∀ k, 0 ≤ k → ¬ k = xE (zyEl zymc B s.heap) 18 5 → xE (zyEl zymc B H3) 31 k = xE (zyEl zymc B s.heap) 31 k) ∧ xE (zyEl zymc B H3) 32 (xE (zyEl zymc B s.heap) 18 5) = -1 ∧ (∀ k, 0 ≤ k → ¬ k = xE (zyEl zymc B s.heap) 18 5 → xE (zyEl zymc B H3) 32 k = xE (zyEl zymc B s.heap) 32 k)
          refine ⟨by omega, sl, by omega, fun S hS q0 => ?_, w1, by rw [w2]; omega, fun k k0 k1 => (w3 k k0 k1).trans ((e31 k).trans (j0 k)), w4, fun k k0 k1 => (w5 k k0 k1).trans ((e32 k).trans (j1 k))⟩
          have h6 := i6 S hS
          have ht : ¬ pTak S sl (pF (S 0) (S 1) sl) (S 2).toNat = true := by
            intro h
            rw [if_pos h] at h6
            omega
          rw [i5 S hS q0, if_neg ht, show xE (zyEl zymc B H3) 35 6 = xE (zyEl zymc B H) 35 6 by omega]
        · show 17 < 18
          omega
    · have hx : x ∈ [zxfrb17_dx0] := hx
      have hag : ∀ k, k < 2 → v2 k = v k := hag
      have hfr : xFr [] _ _ := hfr
      have ex := List.mem_singleton.mp hx
      subst ex
      obtain ⟨hF, hBd, hM⟩ := hXs
      have e35_4 : xE (zyEl zymc B H2) 35 4 = xE (zyEl zymc B H) 35 4 := xFr_E hfr rfl
      have q35_4 : xE (zyEl zymc B H) 35 4 = xE (zyEl zymc B s.heap) 35 4 := xFr_E hFr0 rfl
      have e35_5 : xE (zyEl zymc B H2) 35 5 = xE (zyEl zymc B H) 35 5 := xFr_E hfr rfl
      have e35_6 : xE (zyEl zymc B H2) 35 6 = xE (zyEl zymc B H) 35 6 := xFr_E hfr rfl
      have e35_7 : xE (zyEl zymc B H2) 35 7 = xE (zyEl zymc B H) 35 7 := xFr_E hfr rfl
      have e35_8 : xE (zyEl zymc B H2) 35 8 = xE (zyEl zymc B H) 35 8 := xFr_E hfr rfl
      have e35_2 : xE (zyEl zymc B H2) 35 2 = xE (zyEl zymc B H) 35 2 := xFr_E hfr rfl
      have e35_3 : xE (zyEl zymc B H2) 35 3 = xE (zyEl zymc B H) 35 3 := xFr_E hfr rfl
      have e19_2 : xE (zyEl zymc B H2) 19 2 = xE (zyEl zymc B H) 19 2 := xFr_E hfr rfl
      have q19_2 : xE (zyEl zymc B H) 19 2 = xE (zyEl zymc B s.heap) 19 2 := xFr_E hFr0 rfl
      have e18_5 : xE (zyEl zymc B H2) 18 5 = xE (zyEl zymc B H) 18 5 := xFr_E hfr rfl
      have e36 : ∀ i, xE (zyEl zymc B H2) 36 i = xE (zyEl zymc B H) 36 i := fun i => xFr_E hfr rfl
      have q36 : ∀ i, xE (zyEl zymc B H) 36 i = xE (zyEl zymc B s.heap) 36 i := fun i => xFr_E hFr0 rfl
      have e31 : ∀ i, xE (zyEl zymc B H2) 31 i = xE (zyEl zymc B H) 31 i := fun i => xFr_E hfr rfl
      have e32 : ∀ i, xE (zyEl zymc B H2) 32 i = xE (zyEl zymc B H) 32 i := fun i => xFr_E hfr rfl
      have y19_2 : ((2147483648 : Nat) : Int) ≤ xE (zyEl zymc B s.heap) 19 2 + 2147483648 ∧ xE (zyEl zymc B s.heap) 19 2 + 2147483648 ≤ ((2147483728 : Nat) : Int) := xTyF hT0 19 2 2 rfl rfl rfl rfl rfl rfl
      have y18_5 : ((2147483648 : Nat) : Int) ≤ xE (zyEl zymc B s.heap) 18 5 + 2147483648 ∧ xE (zyEl zymc B s.heap) 18 5 + 2147483648 ≤ ((2147483656 : Nat) : Int) := xTyF hT0 18 5 5 rfl rfl rfl rfl rfl rfl
      have hI : (xE (zyEl zymc B s.heap) 18 5 ≤ 7) ∧ ∃ sl, xE (zyEl zymc B H) 35 6 ≤ (xE (zyEl zymc B s.heap) 35 4) ∧ (∀ S, xAb17 (zyEl zymc B s.heap) S → ∀ q0, pBobbin (xE (zyEl zymc B s.heap) 36) (xE (zyEl zymc B s.heap) 35 4) q0 (xE (zyEl zymc B s.heap) 35 6) S = .ok (xE (zyEl zymc B H) 35 6, pNew S sl)) ∧ xE (zyEl zymc B H) 18 5 = xE (zyEl zymc B s.heap) 18 5 + 1 ∧ xE (zyEl zymc B H) 31 (xE (zyEl zymc B s.heap) 18 5) = sl ∧ (∀ k, 0 ≤ k → ¬ k = xE (zyEl zymc B s.heap) 18 5 → xE (zyEl zymc B H) 31 k = xE (zyEl zymc B s.heap) 31 k) ∧ xE (zyEl zymc B H) 32 (xE (zyEl zymc B s.heap) 18 5) = -1 ∧ (∀ k, 0 ≤ k → ¬ k = xE (zyEl zymc B s.heap) 18 5 → xE (zyEl zymc B H) 32 k = xE (zyEl zymc B s.heap) 32 k) := hInv
      have tt : xE (zyEl zymc B H2) 36 = xE (zyEl zymc B s.heap) 36 := funext fun i => (e36 i).trans (q36 i)
      have tn : xE (zyEl zymc B H2) 35 4 = xE (zyEl zymc B s.heap) 35 4 := by omega
      obtain ⟨i0, sl, i1, i2, i3, i4, i5, i6, i7⟩ := hI
      refine xCa hRu hIH hAt hB hv hFr (hfts B) (ix := 73) (ax := 1088) rfl rfl rfl hmefts ⟨_, rfl, rfl, by decide⟩ ⟨rfl, rfl, rfl⟩ (by decide) [] [] [] rfl ⟨rfl, rfl⟩ (by decide +kernel) xcs_n (by decide +kernel) ?_ (fun H3 r hT3 hf3 hFr3 hr3 hΨ3 => ?_)
      · show xΦad (xfv []) (zyEl zymc B H2)
        unfold xΦad
        omega
      · have hΨ3 : xΨts (xfv []) (zyEl zymc B H2) (zyEl zymc B H3) r := hΨ3
        have d35_4 : xE (zyEl zymc B H3) 35 4 = xE (zyEl zymc B H2) 35 4 := xFr_E hf3 rfl
        have d19_2 : xE (zyEl zymc B H3) 19 2 = xE (zyEl zymc B H2) 19 2 := xFr_E hf3 rfl
        have d18_5 : xE (zyEl zymc B H3) 18 5 = xE (zyEl zymc B H2) 18 5 := xFr_E hf3 rfl
        have d36 : ∀ i, xE (zyEl zymc B H3) 36 i = xE (zyEl zymc B H2) 36 i := fun i => xFr_E hf3 rfl
        have d31 : ∀ i, xE (zyEl zymc B H3) 31 i = xE (zyEl zymc B H2) 31 i := fun i => xFr_E hf3 rfl
        have d32 : ∀ i, xE (zyEl zymc B H3) 32 i = xE (zyEl zymc B H2) 32 i := fun i => xFr_E hf3 rfl
        unfold xΨts at hΨ3
        rw [tt, tn] at hΨ3
        have hr01 := xts_r hΨ3
        refine ⟨⟨4, by decide⟩, [0, 0], [0, 0, r], rfl, ⟨by decide +kernel, ⟨rfl, by decide +kernel⟩, (xcs_c rfl (xcs_c rfl xcs_n)), (xe_0 (xe_0 (xe_c (by omega) (by omega) rfl xe_n))), xkq_n⟩, (by rw [if_pos rfl]; exact ⟨2, [], rfl, by decide, rfl, xst_n⟩), ?_, ?_⟩
        · show (xE (zyEl zymc B s.heap) 18 5 ≤ 7) ∧ ∃ sl p2, (∀ S, xAb17 (zyEl zymc B s.heap) S → ∀ q0, pBobbin (xE (zyEl zymc B s.heap) 36) (xE (zyEl zymc B s.heap) 35 4) q0 (xE (zyEl zymc B s.heap) 35 6) S = .ok (p2, pNew S sl)) ∧ xTS (xE (zyEl zymc B s.heap) 36) (xE (zyEl zymc B s.heap) 35 4) p2 (zyEl zymc B H3) (r : Int) ∧ xE (zyEl zymc B H3) 18 5 = xE (zyEl zymc B s.heap) 18 5 + 1 ∧ xE (zyEl zymc B H3) 31 (xE (zyEl zymc B s.heap) 18 5) = sl ∧ (∀ k, 0 ≤ k → ¬ k = xE (zyEl zymc B s.heap) 18 5 → xE (zyEl zymc B H3) 31 k = xE (zyEl zymc B s.heap) 31 k) ∧ xE (zyEl zymc B H3) 32 (xE (zyEl zymc B s.heap) 18 5) = -1 ∧ (∀ k, 0 ≤ k → ¬ k = xE (zyEl zymc B s.heap) 18 5 → xE (zyEl zymc B H3) 32 k = xE (zyEl zymc B s.heap) 32 k)
          exact ⟨by omega, sl, xE (zyEl zymc B H2) 35 6, fun S hS q0 => by rw [i2 S hS q0, show xE (zyEl zymc B H) 35 6 = xE (zyEl zymc B H2) 35 6 by omega], hΨ3, by omega, (d31 _).trans ((e31 _).trans i4), fun k k0 k1 => (d31 k).trans ((e31 k).trans (i5 k k0 k1)), (d32 _).trans ((e32 _).trans i6), fun k k0 k1 => (d32 k).trans ((e32 k).trans (i7 k k0 k1))⟩
        · show 16 < 17
          omega
    · cases hx
  · intro x0 E0 E E2 hrx hT0 hΦ i v hT hrv hInv hKc hFr0 x hx v2 hr2 hXs hag hfr hFr hT2
    rcases i with ⟨i, hi⟩
    have hi2 : i = 0 ∨ i = 1 ∨ i = 2 ∨ i = 3 ∨ i = 4 := by omega
    rcases hi2 with rfl | rfl | rfl | rfl | rfl
    · have hx : x ∈ [zxfrb17_ar0] := hx
      have hag : ∀ k, k < 2 → v2 k = v k := hag
      have hfr : xFr [(35, 2, 3)] _ _ := hfr
      have ex := List.mem_singleton.mp hx
      subst ex
      obtain ⟨hF, hBd, hM⟩ := hXs
      have b0 : ((2147483656 : Nat) : Int) ≤ (v2 2) + 2147483648 ∧ (v2 2) + 2147483648 ≤ ((2147483656 : Nat) : Int) := xXb hBd 0 rfl
      have b1 : ((2147483648 : Nat) : Int) ≤ (v2 3) + 2147483648 ∧ (v2 3) + 2147483648 ≤ ((2147484548 : Nat) : Int) := xXb hBd 1 rfl
      have f0 : (0 : Int) ≤ 5 ∧ xE E 18 5 = (v2 2) := xXf hF 0 rfl
      have f1 : 8 ≤ (v2 2) := xXf hF 1 rfl
      have f2 : (0 : Int) ≤ 5 ∧ xE E 35 5 = (v2 3) := xXf hF 2 rfl
      have m0 : xE E2 35 2 = 6 := xXm hM 0 rfl
      have m1 : xE E2 35 3 = (v2 3) := xXm hM 1 rfl
      have e35_4 : xE E2 35 4 = xE E 35 4 := xFr_E hfr rfl
      have q35_4 : xE E 35 4 = xE E0 35 4 := xFr_E hFr0 rfl
      have e35_5 : xE E2 35 5 = xE E 35 5 := xFr_E hfr rfl
      have e35_6 : xE E2 35 6 = xE E 35 6 := xFr_E hfr rfl
      have e35_7 : xE E2 35 7 = xE E 35 7 := xFr_E hfr rfl
      have e35_8 : xE E2 35 8 = xE E 35 8 := xFr_E hfr rfl
      have e19_2 : xE E2 19 2 = xE E 19 2 := xFr_E hfr rfl
      have q19_2 : xE E 19 2 = xE E0 19 2 := xFr_E hFr0 rfl
      have e18_5 : xE E2 18 5 = xE E 18 5 := xFr_E hfr rfl
      have e36 : ∀ i, xE E2 36 i = xE E 36 i := fun i => xFr_E hfr rfl
      have q36 : ∀ i, xE E 36 i = xE E0 36 i := fun i => xFr_E hFr0 rfl
      have e31 : ∀ i, xE E2 31 i = xE E 31 i := fun i => xFr_E hfr rfl
      have e32 : ∀ i, xE E2 32 i = xE E 32 i := fun i => xFr_E hfr rfl
      have y19_2 : ((2147483648 : Nat) : Int) ≤ xE E0 19 2 + 2147483648 ∧ xE E0 19 2 + 2147483648 ≤ ((2147483728 : Nat) : Int) := xTyF hT0 19 2 2 rfl rfl rfl rfl rfl rfl
      have y18_5 : ((2147483648 : Nat) : Int) ≤ xE E0 18 5 + 2147483648 ∧ xE E0 18 5 + 2147483648 ≤ ((2147483656 : Nat) : Int) := xTyF hT0 18 5 5 rfl rfl rfl rfl rfl rfl
      have hI : E = E0 := hInv
      have q35_5 : xE E 35 5 = xE E0 35 5 := by rw [hI]
      have q35_6 : xE E 35 6 = xE E0 35 6 := by rw [hI]
      have q35_7 : xE E 35 7 = xE E0 35 7 := by rw [hI]
      have q35_8 : xE E 35 8 = xE E0 35 8 := by rw [hI]
      have q35_2 : xE E 35 2 = xE E0 35 2 := by rw [hI]
      have q35_3 : xE E 35 3 = xE E0 35 3 := by rw [hI]
      have q18_5 : xE E 18 5 = xE E0 18 5 := by rw [hI]
      have q31 : ∀ i, xE E 31 i = xE E0 31 i := fun i => by rw [hI]
      have q32 : ∀ i, xE E 32 i = xE E0 32 i := fun i => by rw [hI]
      show xΨfrb17 x0 E0 E2 0
      intro S q0 hS hq
      have h1 := hS.2.2.2.1.1
      show xOut17 (pBind (pBobbin (xE E0 36) (xE E0 35 4) q0 (xE E0 35 6) S) (pSem (xE E0 36) (xE E0 35 4))) E2 0
      unfold pBobbin
      rw [if_pos (by omega)]
      exact xOut17_e rfl (by omega) (by omega)
    · have hx : x ∈ [zxfrb17_br0] := hx
      have hag : ∀ k, k < 3 → v2 k = v k := hag
      have hfr : xFr [] _ _ := hfr
      have ex := List.mem_singleton.mp hx
      subst ex
      obtain ⟨hF, hBd, hM⟩ := hXs
      have g2 : v2 2 = v 2 := hag 2 (by decide)
      have b0 : ((2147483648 : Nat) : Int) ≤ (v2 2) + 2147483648 ∧ (v2 2) + 2147483648 ≤ ((2147483648 : Nat) : Int) := xXb hBd 0 rfl
      have f0 : (v2 2) = 0 := xXf hF 0 rfl
      have e35_4 : xE E2 35 4 = xE E 35 4 := xFr_E hfr rfl
      have q35_4 : xE E 35 4 = xE E0 35 4 := xFr_E hFr0 rfl
      have e35_5 : xE E2 35 5 = xE E 35 5 := xFr_E hfr rfl
      have e35_6 : xE E2 35 6 = xE E 35 6 := xFr_E hfr rfl
      have e35_7 : xE E2 35 7 = xE E 35 7 := xFr_E hfr rfl
      have e35_8 : xE E2 35 8 = xE E 35 8 := xFr_E hfr rfl
      have e35_2 : xE E2 35 2 = xE E 35 2 := xFr_E hfr rfl
      have e35_3 : xE E2 35 3 = xE E 35 3 := xFr_E hfr rfl
      have e19_2 : xE E2 19 2 = xE E 19 2 := xFr_E hfr rfl
      have q19_2 : xE E 19 2 = xE E0 19 2 := xFr_E hFr0 rfl
      have e18_5 : xE E2 18 5 = xE E 18 5 := xFr_E hfr rfl
      have e36 : ∀ i, xE E2 36 i = xE E 36 i := fun i => xFr_E hfr rfl
      have q36 : ∀ i, xE E 36 i = xE E0 36 i := fun i => xFr_E hFr0 rfl
      have e31 : ∀ i, xE E2 31 i = xE E 31 i := fun i => xFr_E hfr rfl
      have e32 : ∀ i, xE E2 32 i = xE E 32 i := fun i => xFr_E hfr rfl
      have y19_2 : ((2147483648 : Nat) : Int) ≤ xE E0 19 2 + 2147483648 ∧ xE E0 19 2 + 2147483648 ≤ ((2147483728 : Nat) : Int) := xTyF hT0 19 2 2 rfl rfl rfl rfl rfl rfl
      have y18_5 : ((2147483648 : Nat) : Int) ≤ xE E0 18 5 + 2147483648 ∧ xE E0 18 5 + 2147483648 ≤ ((2147483656 : Nat) : Int) := xTyF hT0 18 5 5 rfl rfl rfl rfl rfl rfl
      have hI : (xE E0 18 5 ≤ 7) ∧ xTN (xE E0 36) (xE E0 35 4) (xE E0 35 6) 0 (xE E0 19 2 - 1) E (v 2) ∧ (xE E 18 5 = xE E0 18 5) ∧ (∀ k, xE E 31 k = xE E0 31 k) ∧ (∀ k, xE E 32 k = xE E0 32 k) := hInv
      show xΨfrb17 x0 E0 E2 0
      obtain ⟨i0, i1, i2, j0, j1⟩ := hI
      rw [show (v 2) = v2 2 by omega] at i1
      have hz : (v2 2) = 0 := by omega
      intro S q0 hS hq
      have h1 := hS.2.2.2.1.1
      have e : pBobbin (xE E0 36) (xE E0 35 4) q0 (xE E0 35 6) S = Except.error (xE E 35 2, xE E 35 3) := by unfold pBobbin; rw [if_neg (by omega), ← hS.2.1.2.2.1]; exact xtn_0 i1 hz _
      show xOut17 (pBind (pBobbin (xE E0 36) (xE E0 35 4) q0 (xE E0 35 6) S) (pSem (xE E0 36) (xE E0 35 4))) E2 0
      rw [e]
      exact xOut17_e rfl (by omega) (by omega)
    · have hx : x ∈ [zxfrb17_cr0] := hx
      have hag : ∀ k, k < 3 → v2 k = v k := hag
      have hfr : xFr [(35, 2, 3)] _ _ := hfr
      have ex := List.mem_singleton.mp hx
      subst ex
      obtain ⟨hF, hBd, hM⟩ := hXs
      have g2 : v2 2 = v 2 := hag 2 (by decide)
      have b0 : ((2147483649 : Nat) : Int) ≤ (v2 2) + 2147483648 ∧ (v2 2) + 2147483648 ≤ ((2147483649 : Nat) : Int) := xXb hBd 0 rfl
      have b1 : ((2147483648 : Nat) : Int) ≤ (v2 3) + 2147483648 ∧ (v2 3) + 2147483648 ≤ ((2147484548 : Nat) : Int) := xXb hBd 1 rfl
      have f0 : ¬ (v2 2) = 0 := xXf hF 0 rfl
      have f1 : (0 : Int) ≤ 5 ∧ xE E 35 5 = (v2 3) := xXf hF 1 rfl
      have m0 : xE E2 35 2 = 4 := xXm hM 0 rfl
      have m1 : xE E2 35 3 = (v2 3) := xXm hM 1 rfl
      have e35_4 : xE E2 35 4 = xE E 35 4 := xFr_E hfr rfl
      have q35_4 : xE E 35 4 = xE E0 35 4 := xFr_E hFr0 rfl
      have e35_5 : xE E2 35 5 = xE E 35 5 := xFr_E hfr rfl
      have e35_6 : xE E2 35 6 = xE E 35 6 := xFr_E hfr rfl
      have e35_7 : xE E2 35 7 = xE E 35 7 := xFr_E hfr rfl
      have e35_8 : xE E2 35 8 = xE E 35 8 := xFr_E hfr rfl
      have e19_2 : xE E2 19 2 = xE E 19 2 := xFr_E hfr rfl
      have q19_2 : xE E 19 2 = xE E0 19 2 := xFr_E hFr0 rfl
      have e18_5 : xE E2 18 5 = xE E 18 5 := xFr_E hfr rfl
      have e36 : ∀ i, xE E2 36 i = xE E 36 i := fun i => xFr_E hfr rfl
      have q36 : ∀ i, xE E 36 i = xE E0 36 i := fun i => xFr_E hFr0 rfl
      have e31 : ∀ i, xE E2 31 i = xE E 31 i := fun i => xFr_E hfr rfl
      have e32 : ∀ i, xE E2 32 i = xE E 32 i := fun i => xFr_E hfr rfl
      have y19_2 : ((2147483648 : Nat) : Int) ≤ xE E0 19 2 + 2147483648 ∧ xE E0 19 2 + 2147483648 ≤ ((2147483728 : Nat) : Int) := xTyF hT0 19 2 2 rfl rfl rfl rfl rfl rfl
      have y18_5 : ((2147483648 : Nat) : Int) ≤ xE E0 18 5 + 2147483648 ∧ xE E0 18 5 + 2147483648 ≤ ((2147483656 : Nat) : Int) := xTyF hT0 18 5 5 rfl rfl rfl rfl rfl rfl
      have hI : (xE E0 18 5 ≤ 7) ∧ ∃ sl, (0 ≤ sl ∧ sl < xE E0 19 2) ∧ xE E 35 8 = sl ∧ xE E 35 6 ≤ (xE E0 35 4) ∧ xE E 35 5 = tFr (xE E0 36) (xE E0 35 4) (xE E0 35 6) ∧ (∀ S, xAb17 E0 S → ∀ q0, pBobbin (xE E0 36) (xE E0 35 4) q0 (xE E0 35 6) S = if pTak S sl (pF (S 0) (S 1) sl) (S 2).toNat = true then .error (4, tFr (xE E0 36) (xE E0 35 4) (xE E0 35 6)) else .ok (xE E 35 6, pNew S sl)) ∧ (∀ S, xAb17 E0 S → (v 2) = if pTak S sl (pF (S 0) (S 1) sl) (S 2).toNat = true then 1 else 0) ∧ (xE E 18 5 = xE E0 18 5) ∧ (∀ k, xE E 31 k = xE E0 31 k) ∧ (∀ k, xE E 32 k = xE E0 32 k) := hInv
      show xΨfrb17 x0 E0 E2 0
      obtain ⟨i0, sl, i1, i2, i3, i4, i5, i6, i7, j0, j1⟩ := hI
      rw [show (v 2) = v2 2 by omega] at i6
      intro S q0 hS hq
      have h6 := i6 S hS
      have ht : pTak S sl (pF (S 0) (S 1) sl) (S 2).toNat = true := by
        by_cases h : pTak S sl (pF (S 0) (S 1) sl) (S 2).toNat = true
        · exact h
        · rw [if_neg h] at h6
          omega
      show xOut17 (pBind (pBobbin (xE E0 36) (xE E0 35 4) q0 (xE E0 35 6) S) (pSem (xE E0 36) (xE E0 35 4))) E2 0
      rw [i5 S hS q0, if_pos ht]
      exact xOut17_e rfl (by omega) (by omega)
    · cases hx
    · have hx : x ∈ [zxfrb17_er0] := hx
      have hag : ∀ k, k < 3 → v2 k = v k := hag
      have hfr : xFr [] _ _ := hfr
      have ex := List.mem_singleton.mp hx
      subst ex
      obtain ⟨hF, hBd, hM⟩ := hXs
      have g2 : v2 2 = v 2 := hag 2 (by decide)
      have b0 : ((2147483648 : Nat) : Int) ≤ (v2 2) + 2147483648 ∧ (v2 2) + 2147483648 ≤ ((2147483649 : Nat) : Int) := xXb hBd 0 rfl
      have e35_4 : xE E2 35 4 = xE E 35 4 := xFr_E hfr rfl
      have q35_4 : xE E 35 4 = xE E0 35 4 := xFr_E hFr0 rfl
      have e35_5 : xE E2 35 5 = xE E 35 5 := xFr_E hfr rfl
      have e35_6 : xE E2 35 6 = xE E 35 6 := xFr_E hfr rfl
      have e35_7 : xE E2 35 7 = xE E 35 7 := xFr_E hfr rfl
      have e35_8 : xE E2 35 8 = xE E 35 8 := xFr_E hfr rfl
      have e35_2 : xE E2 35 2 = xE E 35 2 := xFr_E hfr rfl
      have e35_3 : xE E2 35 3 = xE E 35 3 := xFr_E hfr rfl
      have e19_2 : xE E2 19 2 = xE E 19 2 := xFr_E hfr rfl
      have q19_2 : xE E 19 2 = xE E0 19 2 := xFr_E hFr0 rfl
      have e18_5 : xE E2 18 5 = xE E 18 5 := xFr_E hfr rfl
      have e36 : ∀ i, xE E2 36 i = xE E 36 i := fun i => xFr_E hfr rfl
      have q36 : ∀ i, xE E 36 i = xE E0 36 i := fun i => xFr_E hFr0 rfl
      have e31 : ∀ i, xE E2 31 i = xE E 31 i := fun i => xFr_E hfr rfl
      have e32 : ∀ i, xE E2 32 i = xE E 32 i := fun i => xFr_E hfr rfl
      have y19_2 : ((2147483648 : Nat) : Int) ≤ xE E0 19 2 + 2147483648 ∧ xE E0 19 2 + 2147483648 ≤ ((2147483728 : Nat) : Int) := xTyF hT0 19 2 2 rfl rfl rfl rfl rfl rfl
      have y18_5 : ((2147483648 : Nat) : Int) ≤ xE E0 18 5 + 2147483648 ∧ xE E0 18 5 + 2147483648 ≤ ((2147483656 : Nat) : Int) := xTyF hT0 18 5 5 rfl rfl rfl rfl rfl rfl
      have hI : (xE E0 18 5 ≤ 7) ∧ ∃ sl p2, (∀ S, xAb17 E0 S → ∀ q0, pBobbin (xE E0 36) (xE E0 35 4) q0 (xE E0 35 6) S = .ok (p2, pNew S sl)) ∧ xTS (xE E0 36) (xE E0 35 4) p2 E (v 2) ∧ xE E 18 5 = xE E0 18 5 + 1 ∧ xE E 31 (xE E0 18 5) = sl ∧ (∀ k, 0 ≤ k → ¬ k = xE E0 18 5 → xE E 31 k = xE E0 31 k) ∧ xE E 32 (xE E0 18 5) = -1 ∧ (∀ k, 0 ≤ k → ¬ k = xE E0 18 5 → xE E 32 k = xE E0 32 k) := hInv
      show xΨfrb17 x0 E0 E2 (v2 2)
      obtain ⟨i0, sl, p2, i2, i1, i3, i4, i5, i6, i7⟩ := hI
      have hE2 := xFr_n hfr
      subst hE2
      rw [show (v 2) = v2 2 by omega] at i1
      intro S q0 hS hq
      show xOut17 (pBind (pBobbin (xE E0 36) (xE E0 35 4) q0 (xE E0 35 6) S) (pSem (xE E0 36) (xE E0 35 4))) E2 (v2 2)
      rw [i2 S hS q0]
      have h1 := hS.2.2.2.1.1
      rw [h1] at i3 i4 i5 i6 i7
      by_cases hz : v2 2 = 0
      · show xOut17 (pSem (xE E0 36) (xE E0 35 4) p2 _) E2 (v2 2)
        rw [xts_0 i1 hz]
        exact xOut17_f hz rfl rfl
      · obtain ⟨c1, c2, c3⟩ := xts_1 i1 hz (pNew S sl)
        show xOut17 (pSem (xE E0 36) (xE E0 35 4) p2 (pNew S sl)) E2 (v2 2)
        rw [c3]
        exact xOut17_k c1 rfl (xAb17_nb ⟨by omega, by omega⟩ i3 i4 i5 i6 i7 hS hFr0)
noncomputable def zxfrw17_ax0 : zyXp := (15, [283, 147, 0, 13], [], [], [], [(294920, 8), (540673, 0)])
noncomputable def zpfrw17_a : zyPh := (0, [283, 147, 13, 13], [(0, 4294967295), (0, 4294967295), (0, 4294967295), (0, 4294967295)], [], [])
noncomputable def zxfrw17_bx0 : zyXp := (22, [283, 147, 68719476737, 13], [283], [(21, 0, 480, 68719476737)], [(68719476737, 2147483648, 2147483708)], [])
noncomputable def zxfrw17_br0 : zyXp := (0, [], [0], [(20, 0, 480, 68719476737), (24, 137438953473, 35, 40)], [(68719476737, 2147483709, 2147483709), (137438953473, 2147483648, 2147484548)], [(573442, 48), (573443, 137438953473)])
noncomputable def zpfrw17_b : zyPh := (15, [283, 147, 68719476737, 13], [(0, 4294967295), (0, 4294967295), (2147483648, 2147483709), (0, 4294967295)], [], [])
noncomputable def zxfrw17_cx0 : zyXp := (61, [283, 147, 68719476737, 8], [], [(24, 137438953473, 35, 56), (23, 0, 137438953473, 40), (23, 0, 137438953473, 32), (23, 0, 137438953473, 32)], [(68719476737, 2147483648, 2147483708), (137438953473, 2147483648, 2147483651)], [])
noncomputable def zxfrw17_cx1 : zyXp := (58, [283, 147, 68719476737, 34359738360], [283], [(24, 137438953473, 35, 56), (23, 0, 137438953473, 40), (22, 0, 137438953473, 32), (22, 0, 137438953473, 32)], [(68719476737, 2147483648, 2147483708), (137438953473, 2147483652, 2147483652)], [])
noncomputable def zxfrw17_cr0 : zyXp := (0, [], [8], [(24, 137438953473, 35, 56), (22, 0, 137438953473, 40)], [(137438953473, 2147483653, 2147483653)], [])
noncomputable def zpfrw17_c : zyPh := (25, [283, 147, 68719476737, 13], [(0, 4294967295), (0, 4294967295), (2147483648, 2147483708), (0, 4294967295)], [], [])
noncomputable def zxfrw17_dx0 : zyXp := (83, [283, 147, 68719476737, 13], [206158430209, 267], [(24, 137438953473, 35, 56), (22, 0, 137438953473, 24), (24, 171798691841, 35, 64), (21, 0, 171798691841, 8), (21, 0, 56, 171798691841), (3, 206158430209, 8, 171798691841)], [(68719476737, 2147483648, 2147483708), (137438953473, 2147483651, 2147483651), (171798691841, 2147483649, 2147483655), (206158430209, 2147483649, 2147483655)], [])
noncomputable def zxfrw17_dr0 : zyXp := (0, [], [0], [(24, 137438953473, 35, 56), (23, 0, 137438953473, 24), (23, 0, 137438953473, 8), (24, 171798691841, 35, 40)], [(137438953473, 2147483652, 2147483653), (171798691841, 2147483648, 2147484548)], [(573442, 16), (573443, 171798691841)])
noncomputable def zxfrw17_dr1 : zyXp := (0, [], [0], [(24, 137438953473, 35, 56), (23, 0, 137438953473, 24), (23, 0, 137438953473, 8), (24, 171798691841, 35, 40)], [(137438953473, 2147483650, 2147483650), (171798691841, 2147483648, 2147484548)], [(573442, 16), (573443, 171798691841)])
noncomputable def zxfrw17_dr2 : zyXp := (0, [], [0], [(24, 137438953473, 35, 56), (23, 0, 137438953473, 24), (23, 0, 137438953473, 8), (24, 171798691841, 35, 40)], [(137438953473, 2147483648, 2147483648), (171798691841, 2147483648, 2147484548)], [(573442, 16), (573443, 171798691841)])
noncomputable def zxfrw17_dr3 : zyXp := (0, [], [0], [(24, 137438953473, 35, 56), (23, 0, 137438953473, 24), (22, 0, 137438953473, 8), (24, 171798691841, 35, 40)], [(137438953473, 2147483649, 2147483649), (171798691841, 2147483648, 2147484548)], [(573442, 8), (573443, 171798691841)])
noncomputable def zxfrw17_dr4 : zyXp := (0, [], [0], [(24, 137438953473, 35, 56), (22, 0, 137438953473, 24), (24, 171798691841, 35, 64), (20, 0, 171798691841, 8), (24, 206158430209, 35, 40)], [(137438953473, 2147483651, 2147483651), (171798691841, 0, 2147483648), (206158430209, 2147483648, 2147484548)], [(573442, 24), (573443, 206158430209)])
noncomputable def zxfrw17_dr5 : zyXp := (0, [], [0], [(24, 137438953473, 35, 56), (22, 0, 137438953473, 24), (24, 171798691841, 35, 64), (21, 0, 171798691841, 8), (20, 0, 56, 171798691841), (24, 206158430209, 35, 40)], [(137438953473, 2147483651, 2147483651), (171798691841, 2147483656, 4294967295), (206158430209, 2147483648, 2147484548)], [(573442, 24), (573443, 206158430209)])
noncomputable def zpfrw17_d : zyPh := (61, [283, 147, 68719476737, 103079215105], [(0, 4294967295), (0, 4294967295), (2147483648, 2147483708), (2147483649, 2147483649)], [], [])
noncomputable def zxfrw17_ex0 : zyXp := (83, [283, 147, 68719476737, 13], [206158430209, 267], [(24, 137438953473, 35, 56), (22, 0, 137438953473, 24), (24, 171798691841, 35, 64), (21, 0, 171798691841, 8), (21, 0, 56, 171798691841), (3, 206158430209, 34359738360, 171798691841)], [(68719476737, 2147483648, 2147483708), (137438953473, 2147483651, 2147483651), (171798691841, 2147483649, 2147483655), (206158430209, 2147483641, 2147483655)], [])
noncomputable def zxfrw17_er0 : zyXp := (0, [], [0], [(24, 137438953473, 35, 56), (23, 0, 137438953473, 24), (23, 0, 137438953473, 8), (24, 171798691841, 35, 40)], [(137438953473, 2147483652, 2147483653), (171798691841, 2147483648, 2147484548)], [(573442, 16), (573443, 171798691841)])
noncomputable def zxfrw17_er1 : zyXp := (0, [], [0], [(24, 137438953473, 35, 56), (23, 0, 137438953473, 24), (23, 0, 137438953473, 8), (24, 171798691841, 35, 40)], [(137438953473, 2147483650, 2147483650), (171798691841, 2147483648, 2147484548)], [(573442, 16), (573443, 171798691841)])
noncomputable def zxfrw17_er2 : zyXp := (0, [], [0], [(24, 137438953473, 35, 56), (23, 0, 137438953473, 24), (23, 0, 137438953473, 8), (24, 171798691841, 35, 40)], [(137438953473, 2147483648, 2147483648), (171798691841, 2147483648, 2147484548)], [(573442, 16), (573443, 171798691841)])
noncomputable def zxfrw17_er3 : zyXp := (0, [], [0], [(24, 137438953473, 35, 56), (23, 0, 137438953473, 24), (22, 0, 137438953473, 8), (24, 171798691841, 35, 40)], [(137438953473, 2147483649, 2147483649), (171798691841, 2147483648, 2147484548)], [(573442, 8), (573443, 171798691841)])
noncomputable def zxfrw17_er4 : zyXp := (0, [], [0], [(24, 137438953473, 35, 56), (22, 0, 137438953473, 24), (24, 171798691841, 35, 64), (20, 0, 171798691841, 8), (24, 206158430209, 35, 40)], [(137438953473, 2147483651, 2147483651), (171798691841, 0, 2147483648), (206158430209, 2147483648, 2147484548)], [(573442, 24), (573443, 206158430209)])
noncomputable def zxfrw17_er5 : zyXp := (0, [], [0], [(24, 137438953473, 35, 56), (22, 0, 137438953473, 24), (24, 171798691841, 35, 64), (21, 0, 171798691841, 8), (20, 0, 56, 171798691841), (24, 206158430209, 35, 40)], [(137438953473, 2147483651, 2147483651), (171798691841, 2147483656, 4294967295), (206158430209, 2147483648, 2147484548)], [(573442, 24), (573443, 206158430209)])
noncomputable def zpfrw17_e : zyPh := (61, [283, 147, 68719476737, 103079215105], [(0, 4294967295), (0, 4294967295), (2147483648, 2147483708), (2147483647, 2147483647)], [], [])
noncomputable def zxfrw17_fx0 : zyXp := (15, [283, 147, 68719476745, 13], [], [], [(68719476737, 2147483648, 2147483708), (68719476745, 2147483649, 2147483709)], [])
noncomputable def zpfrw17_f : zyPh := (86, [283, 147, 68719476737, 13], [(0, 4294967295), (0, 4294967295), (2147483648, 2147483708), (0, 4294967295)], [], [])
noncomputable def zpfrw17 (i : Nat) : zyPh := zif (Nat.beq i 0) (zpfrw17_a) (zif (Nat.beq i 1) (zpfrw17_b) (zif (Nat.beq i 2) (zpfrw17_c) (zif (Nat.beq i 3) (zpfrw17_d) (zif (Nat.beq i 4) (zpfrw17_e) (zpfrw17_f)))))
noncomputable def zXfrw17 (i : Nat) : List zyXp := zif (Nat.beq i 0) ([zxfrw17_ax0]) (zif (Nat.beq i 1) ([zxfrw17_bx0]) (zif (Nat.beq i 2) ([zxfrw17_cx0, zxfrw17_cx1]) (zif (Nat.beq i 3) ([zxfrw17_dx0]) (zif (Nat.beq i 4) ([zxfrw17_ex0]) ([zxfrw17_fx0])))))
noncomputable def zRfrw17 (i : Nat) : List zyXp := zif (Nat.beq i 0) ([]) (zif (Nat.beq i 1) ([zxfrw17_br0]) (zif (Nat.beq i 2) ([zxfrw17_cr0]) (zif (Nat.beq i 3) ([zxfrw17_dr0, zxfrw17_dr1, zxfrw17_dr2, zxfrw17_dr3, zxfrw17_dr4, zxfrw17_dr5]) (zif (Nat.beq i 4) ([zxfrw17_er0, zxfrw17_er1, zxfrw17_er2, zxfrw17_er3, zxfrw17_er4, zxfrw17_er5]) ([])))))
noncomputable def zFfrw17 (i : Nat) : zyR := zif (Nat.beq i 0) ([(18, 8, 8), (33, 1, 1)]) (zif (Nat.beq i 1) ([(35, 2, 3)]) (zif (Nat.beq i 2) ([]) (zif (Nat.beq i 3) ([(35, 2, 3)]) (zif (Nat.beq i 4) ([(35, 2, 3)]) ([])))))
noncomputable def zSfrw17 (i : Nat) : Nat := zif (Nat.beq i 0) (0) (zif (Nat.beq i 1) (0) (zif (Nat.beq i 2) (0) (zif (Nat.beq i 3) (0) (zif (Nat.beq i 4) (0) (0)))))
theorem xAb17_35 {E E2 : zyEm} {S : Int → Int} (h : xAb17 E S) (hf : xFr [(35, 0, 8)] E E2)   : xAb17 E2 S := by
  obtain ⟨a0, a1, a2, a3, a4, a5, a6⟩ := h
  refine ⟨a0, ?_, ?_, ?_, ?_, ?_, ?_⟩
  · rw [(show xE E2 19 0 = xE E 19 0 from xFr_E hf rfl), (show xE E2 19 1 = xE E 19 1 from xFr_E hf rfl), (show xE E2 19 2 = xE E 19 2 from xFr_E hf rfl), (show xE E2 19 3 = xE E 19 3 from xFr_E hf rfl)]
    exact a1
  · intro s s0 s1
    rw [(show xE E2 21 s = xE E 21 s from xFr_E hf rfl)]
    exact a2 s s0 s1
  · rw [(show xE E2 18 5 = xE E 18 5 from xFr_E hf rfl)]
    refine ⟨a3.1, fun k k0 k1 => ?_⟩
    rw [(show xE E2 31 k = xE E 31 k from xFr_E hf rfl), (show xE E2 32 k = xE E 32 k from xFr_E hf rfl)]
    exact a3.2 k k0 k1
  · intro k k0 k1
    rw [(show xE E2 27 k = xE E 27 k from xFr_E hf rfl), (show xE E2 28 k = xE E 28 k from xFr_E hf rfl), (show xE E2 29 k = xE E 29 k from xFr_E hf rfl), (show xE E2 30 k = xE E 30 k from xFr_E hf rfl)]
    exact a4 k k0 k1
  · rw [(show xE E2 18 8 = xE E 18 8 from xFr_E hf rfl), (show xE E2 33 1 = xE E 33 1 from xFr_E hf rfl)]
    exact a5
  · intro k k0 k1
    rw [(show xE E2 34 k = xE E 34 k from xFr_E hf rfl)]
    exact a6 k k0 k1
def xΨfrw17 (_ : Nat → Int) (E E2 : zyEm) (r : Int) : Prop := ∀ S, xAb17 E S → xOut17 (pBind (pWs (xE E 36) (xE E 35 4) 60 (xE E 35 6) (uS S 5 0)) (pSem (xE E 36) (xE E 35 4))) E2 r
noncomputable def fpfrw17 : zyR := [(35, 2, 3), (35, 5, 8), (18, 8, 8), (33, 1, 1), (34, 0, 59)]
theorem zyfrw17_run : zyrS zymc zxi67 (67, 0, 0, 2, 0) 5 zpfrw17 (fun _ _ => []) zFfrw17 zSfrw17 zXfrw17 zRfrw17 6 = true := by decide +kernel
theorem zyfrw17_ck : zyAll (fun i => xsubR (zFfrw17 i) fpfrw17 && ((zXfrw17 i).all xckX && (zRfrw17 i).all (fun x => xckX x && xrtB true x))) 6 = true := by decide +kernel
def xIfrw17 (i : Nat) (x0 : Nat → Int) (E0 : zyEm) (v : Nat → Int) (E : zyEm) : Prop := if i = 0 then (E = E0) else if i = 1 then (xE E 35 6 ≤ (xE E0 35 4) ∧ xE E 18 8 = 1 ∧ ((0 ≤ (v 2) ∧ (v 2) ≤ 60 ∧ xE E 33 1 = (v 2) ∧ ∀ S, xAb17 E0 S → ∃ Si : Int → Int, pBind (pWs (xE E0 36) (xE E0 35 4) 60 (xE E0 35 6) (uS S 5 0)) (pSem (xE E0 36) (xE E0 35 4)) = pBind (pWs (xE E0 36) (xE E0 35 4) (60 - (v 2)).toNat (xE E 35 6) Si) (pSem (xE E0 36) (xE E0 35 4)) ∧ xAb17 E Si ∧ Si 5 = (v 2)) ∨ ((v 2) = 61 ∧ ∀ S, xAb17 E0 S → pBind (pWs (xE E0 36) (xE E0 35 4) 60 (xE E0 35 6) (uS S 5 0)) (pSem (xE E0 36) (xE E0 35 4)) = .error (6, xE E 35 5)))) else if i = 2 then ((0 ≤ (v 2) ∧ (v 2) ≤ 60) ∧ xE E 18 8 = 1 ∧ xE E 33 1 = (v 2) ∧ ∃ p1, p1 ≤ (xE E0 35 4) ∧ xAD (xE E0 36) (xE E0 35 4) p1 E ∧ ∀ S, xAb17 E0 S → ∃ Si : Int → Int, pBind (pWs (xE E0 36) (xE E0 35 4) 60 (xE E0 35 6) (uS S 5 0)) (pSem (xE E0 36) (xE E0 35 4)) = pBind (pWs (xE E0 36) (xE E0 35 4) (60 - (v 2)).toNat p1 Si) (pSem (xE E0 36) (xE E0 35 4)) ∧ xAb17 E Si ∧ Si 5 = (v 2)) else if i = 3 then ((0 ≤ (v 2) ∧ (v 2) ≤ 60) ∧ xE E 18 8 = 1 ∧ xE E 33 1 = (v 2) ∧ ∃ q, q ≤ (xE E0 35 4) ∧ xAD (xE E0 36) (xE E0 35 4) q E ∧ ∀ S, xAb17 E0 S → ∃ Si : Int → Int, pBind (pWs (xE E0 36) (xE E0 35 4) 60 (xE E0 35 6) (uS S 5 0)) (pSem (xE E0 36) (xE E0 35 4)) = pBind (pNum (xE E0 36) (xE E0 35 4) q 1 7 (fun x p2 => if (v 2) < 60 then pWs (xE E0 36) (xE E0 35 4) (60 - ((v 2) + 1)).toNat p2 (uS (uS Si (460 + Si 5) x) 5 (Si 5 + 1)) else .error (6, tFr (xE E0 36) (xE E0 35 4) q))) (pSem (xE E0 36) (xE E0 35 4)) ∧ xAb17 E Si ∧ Si 5 = (v 2)) else if i = 4 then ((0 ≤ (v 2) ∧ (v 2) ≤ 60) ∧ xE E 18 8 = 1 ∧ xE E 33 1 = (v 2) ∧ ∃ q, q ≤ (xE E0 35 4) ∧ xAD (xE E0 36) (xE E0 35 4) q E ∧ ∀ S, xAb17 E0 S → ∃ Si : Int → Int, pBind (pWs (xE E0 36) (xE E0 35 4) 60 (xE E0 35 6) (uS S 5 0)) (pSem (xE E0 36) (xE E0 35 4)) = pBind (pNum (xE E0 36) (xE E0 35 4) q 1 7 (fun x p2 => if (v 2) < 60 then pWs (xE E0 36) (xE E0 35 4) (60 - ((v 2) + 1)).toNat p2 (uS (uS Si (460 + Si 5) (-x)) 5 (Si 5 + 1)) else .error (6, tFr (xE E0 36) (xE E0 35 4) q))) (pSem (xE E0 36) (xE E0 35 4)) ∧ xAb17 E Si ∧ Si 5 = (v 2)) else (xE E 35 6 ≤ (xE E0 35 4) ∧ xE E 18 8 = 1 ∧ (0 ≤ (v 2) ∧ (v 2) ≤ 60) ∧ (((v 2) < 60 ∧ xE E 33 1 = (v 2) + 1 ∧ ∀ S, xAb17 E0 S → ∃ Si : Int → Int, pBind (pWs (xE E0 36) (xE E0 35 4) 60 (xE E0 35 6) (uS S 5 0)) (pSem (xE E0 36) (xE E0 35 4)) = pBind (pWs (xE E0 36) (xE E0 35 4) (60 - ((v 2) + 1)).toNat (xE E 35 6) Si) (pSem (xE E0 36) (xE E0 35 4)) ∧ xAb17 E Si ∧ Si 5 = (v 2) + 1) ∨ ((v 2) = 60 ∧ ∀ S, xAb17 E0 S → pBind (pWs (xE E0 36) (xE E0 35 4) 60 (xE E0 35 6) (uS S 5 0)) (pSem (xE E0 36) (xE E0 35 4)) = .error (6, xE E 35 5))))
def xMfrw17 (i : Nat) (x0 : Nat → Int) (E0 : zyEm) (v : Nat → Int) (E : zyEm) : Nat := if i = 0 then (1000) else if i = 1 then (10 * (70 - (v 2)).toNat + 5) else if i = 2 then (10 * (70 - (v 2)).toNat + 4) else if i = 3 then (10 * (70 - (v 2)).toNat + 3) else if i = 4 then (10 * (70 - (v 2)).toNat + 2) else (10 * (70 - (v 2)).toNat)
theorem xRw17 {l : Launch} {en : zEn} {me : zMe} (hen : zG zxMeta 67 = some en) (hme : zG zMeth 67 = some me) : xFc l zymc en me 5 [35, 18] 0 fpfrw17 true xΦrd17 xΨfrw17 := by
  have een : zG zxMeta 67 = some (zxi67, 2, 4, 5, 67, 0, 0, 2, 0) := rfl
  obtain ⟨me1, hme1, hOK⟩ := zall hen
  rw [hme] at hme1
  cases hme1
  rw [een] at hen
  cases hen
  have hr := zyfrw17_run
  have hck := fun i hi => zyAll_iff zyfrw17_ck i hi
  simp only [Bool.and_eq_true] at hck
  obtain ⟨mefad, hmefad, -⟩ := zall (show zG zxMeta 73 = some (zxi73, 1, 1, 5, 73, 0, 0, 0, 0) from rfl)
  have hfad := xAd (l := l) (show zG zxMeta 73 = some (zxi73, 1, 1, 5, 73, 0, 0, 0, 0) from rfl) hmefad
  obtain ⟨mefwa17, hmefwa17, -⟩ := zall (show zG zxMeta 107 = some (zxi107, 2, 2, 9, 107, 0, 0, 0, 0) from rfl)
  have hfwa17 := xWa17 (l := l) (show zG zxMeta 107 = some (zxi107, 2, 2, 9, 107, 0, 0, 0, 0) from rfl) hmefwa17
  intro B
  refine xcut (mi := zymc) (B := B) hOK rfl rfl (ι := Fin 6) (fun i => zpfrw17 i.val) (fun _ _ => []) (fun i => zFfrw17 i.val) (fun i => zSfrw17 i.val) (fun i => zXfrw17 i.val) (fun i => zRfrw17 i.val) (fun i y2 ct en2 me2 h => by cases h) 200000 (fun i => zyAll_iff hr i.val i.isLt) (fun i => (hck i.val i.isLt).1) (fun i => (hck i.val i.isLt).2.1) (fun i => (hck i.val i.isLt).2.2) ⟨0, by decide⟩ ⟨rfl, rfl, rfl, rfl⟩ ⟨by decide, by decide⟩ (fun i x0 E0 v E => xIfrw17 i.val x0 E0 v E) (fun i x0 E0 v E => xMfrw17 i.val x0 E0 v E) ?_ ?_ ?_
  · intro x0 E hx0 hT hΦ
    have hΦ : xΦrd17 x0 E := hΦ
    refine ⟨fun k p hp => ?_, ?_⟩
    · have hk : k < 4 := (List.getElem?_eq_some_iff.mp hp).1
      have hk : k = 0 ∨ k = 1 ∨ k = 2 ∨ k = 3 := by omega
      rcases hk with rfl | rfl | rfl | rfl
      · have hp : some (0, 4294967295) = some p := hp
        cases hp
        show ((0 : Nat) : Int) ≤ 0 + 2147483648 ∧ 0 + 2147483648 ≤ ((4294967295 : Nat) : Int)
        omega
      · have hp : some (0, 4294967295) = some p := hp
        cases hp
        show ((0 : Nat) : Int) ≤ 0 + 2147483648 ∧ 0 + 2147483648 ≤ ((4294967295 : Nat) : Int)
        omega
      · have hp : some (0, 4294967295) = some p := hp
        cases hp
        show ((0 : Nat) : Int) ≤ x0 0 + 2147483648 ∧ x0 0 + 2147483648 ≤ ((4294967295 : Nat) : Int)
        have hx := hx0 0
        omega
      · have hp : some (0, 4294967295) = some p := hp
        cases hp
        show ((0 : Nat) : Int) ≤ x0 1 + 2147483648 ∧ x0 1 + 2147483648 ≤ ((4294967295 : Nat) : Int)
        have hx := hx0 1
        omega
    · show E = E
      rfl
  · intro x0 s Wg hRu hrx hT0 hΦ i v H hT hrv hInv hKc hFr0 hIH x hx ρ2 v2 N2 H2 locs lsB stA hAt hB hv hr2 hXs hag hfr hFr hT2
    rcases i with ⟨i, hi⟩
    have hi2 : i = 0 ∨ i = 1 ∨ i = 2 ∨ i = 3 ∨ i = 4 ∨ i = 5 := by omega
    rcases hi2 with rfl | rfl | rfl | rfl | rfl | rfl
    · have hx : x ∈ [zxfrw17_ax0] := hx
      have hag : ∀ k, k < 4 → v2 k = v k := hag
      have hfr : xFr [(18, 8, 8), (33, 1, 1)] _ _ := hfr
      have ex := List.mem_singleton.mp hx
      subst ex
      obtain ⟨hF, hBd, hM⟩ := hXs
      have m0 : xE (zyEl zymc B H2) 18 8 = 1 := xXm hM 0 rfl
      have m1 : xE (zyEl zymc B H2) 33 1 = 0 := xXm hM 1 rfl
      have e35_4 : xE (zyEl zymc B H2) 35 4 = xE (zyEl zymc B H) 35 4 := xFr_E hfr rfl
      have q35_4 : xE (zyEl zymc B H) 35 4 = xE (zyEl zymc B s.heap) 35 4 := xFr_E hFr0 rfl
      have e35_5 : xE (zyEl zymc B H2) 35 5 = xE (zyEl zymc B H) 35 5 := xFr_E hfr rfl
      have e35_6 : xE (zyEl zymc B H2) 35 6 = xE (zyEl zymc B H) 35 6 := xFr_E hfr rfl
      have e35_7 : xE (zyEl zymc B H2) 35 7 = xE (zyEl zymc B H) 35 7 := xFr_E hfr rfl
      have e35_8 : xE (zyEl zymc B H2) 35 8 = xE (zyEl zymc B H) 35 8 := xFr_E hfr rfl
      have e35_2 : xE (zyEl zymc B H2) 35 2 = xE (zyEl zymc B H) 35 2 := xFr_E hfr rfl
      have e35_3 : xE (zyEl zymc B H2) 35 3 = xE (zyEl zymc B H) 35 3 := xFr_E hfr rfl
      have e36 : ∀ i, xE (zyEl zymc B H2) 36 i = xE (zyEl zymc B H) 36 i := fun i => xFr_E hfr rfl
      have q36 : ∀ i, xE (zyEl zymc B H) 36 i = xE (zyEl zymc B s.heap) 36 i := fun i => xFr_E hFr0 rfl
      have e34 : ∀ i, xE (zyEl zymc B H2) 34 i = xE (zyEl zymc B H) 34 i := fun i => xFr_E hfr rfl
      have hI : (zyEl zymc B H) = (zyEl zymc B s.heap) := hInv
      have q35_5 : xE (zyEl zymc B H) 35 5 = xE (zyEl zymc B s.heap) 35 5 := by rw [hI]
      have q35_6 : xE (zyEl zymc B H) 35 6 = xE (zyEl zymc B s.heap) 35 6 := by rw [hI]
      have q35_7 : xE (zyEl zymc B H) 35 7 = xE (zyEl zymc B s.heap) 35 7 := by rw [hI]
      have q35_8 : xE (zyEl zymc B H) 35 8 = xE (zyEl zymc B s.heap) 35 8 := by rw [hI]
      have q35_2 : xE (zyEl zymc B H) 35 2 = xE (zyEl zymc B s.heap) 35 2 := by rw [hI]
      have q35_3 : xE (zyEl zymc B H) 35 3 = xE (zyEl zymc B s.heap) 35 3 := by rw [hI]
      have q18_8 : xE (zyEl zymc B H) 18 8 = xE (zyEl zymc B s.heap) 18 8 := by rw [hI]
      have q33_1 : xE (zyEl zymc B H) 33 1 = xE (zyEl zymc B s.heap) 33 1 := by rw [hI]
      have q34 : ∀ i, xE (zyEl zymc B H) 34 i = xE (zyEl zymc B s.heap) 34 i := fun i => by rw [hI]
      have hP := hΦ.1
      refine xGo hIH hAt hB hv hFr ⟨1, by decide⟩ [0, 0, 0, 0] [0, 0, 0, 0] rfl ⟨by decide +kernel, ⟨rfl, by decide +kernel⟩, (xcs_c rfl (xcs_c rfl (xcs_c rfl (xcs_c rfl xcs_n)))), (xe_0 (xe_0 (xe_c (by omega) (by omega) rfl (xe_0 xe_n)))), xkq_n⟩ xst_n ?_ ?_
      · show xE (zyEl zymc B H2) 35 6 ≤ (xE (zyEl zymc B s.heap) 35 4) ∧ xE (zyEl zymc B H2) 18 8 = 1 ∧ ((0 ≤ (0 : Int) ∧ (0 : Int) ≤ 60 ∧ xE (zyEl zymc B H2) 33 1 = (0 : Int) ∧ ∀ S, xAb17 (zyEl zymc B s.heap) S → ∃ Si : Int → Int, pBind (pWs (xE (zyEl zymc B s.heap) 36) (xE (zyEl zymc B s.heap) 35 4) 60 (xE (zyEl zymc B s.heap) 35 6) (uS S 5 0)) (pSem (xE (zyEl zymc B s.heap) 36) (xE (zyEl zymc B s.heap) 35 4)) = pBind (pWs (xE (zyEl zymc B s.heap) 36) (xE (zyEl zymc B s.heap) 35 4) (60 - (0 : Int)).toNat (xE (zyEl zymc B H2) 35 6) Si) (pSem (xE (zyEl zymc B s.heap) 36) (xE (zyEl zymc B s.heap) 35 4)) ∧ xAb17 (zyEl zymc B H2) Si ∧ Si 5 = (0 : Int)) ∨ ((0 : Int) = 61 ∧ ∀ S, xAb17 (zyEl zymc B s.heap) S → pBind (pWs (xE (zyEl zymc B s.heap) 36) (xE (zyEl zymc B s.heap) 35 4) 60 (xE (zyEl zymc B s.heap) 35 6) (uS S 5 0)) (pSem (xE (zyEl zymc B s.heap) 36) (xE (zyEl zymc B s.heap) 35 4)) = .error (6, xE (zyEl zymc B H2) 35 5)))
        refine ⟨by omega, by omega, Or.inl ⟨by omega, by omega, by omega, fun S hS => ⟨uS S 5 0, ?_, ?_, ?_⟩⟩⟩
        · rw [show xE (zyEl zymc B H2) 35 6 = xE (zyEl zymc B s.heap) 35 6 by omega]
          rfl
        · exact xAb17_w0 (by omega) (by omega) hS hFr
        · exact uS_e rfl
      · show 10 * (70 - (0 : Int)).toNat + 5 < 1000
        omega
    · have hx : x ∈ [zxfrw17_bx0] := hx
      have hag : ∀ k, k < 4 → v2 k = v k := hag
      have hfr : xFr [(35, 2, 3)] _ _ := hfr
      have ex := List.mem_singleton.mp hx
      subst ex
      obtain ⟨hF, hBd, hM⟩ := hXs
      have g2 : v2 2 = v 2 := hag 2 (by decide)
      have b0 : ((2147483648 : Nat) : Int) ≤ (v2 2) + 2147483648 ∧ (v2 2) + 2147483648 ≤ ((2147483708 : Nat) : Int) := xXb hBd 0 rfl
      have f0 : (v2 2) ≤ 60 := xXf hF 0 rfl
      have e35_4 : xE (zyEl zymc B H2) 35 4 = xE (zyEl zymc B H) 35 4 := xFr_E hfr rfl
      have q35_4 : xE (zyEl zymc B H) 35 4 = xE (zyEl zymc B s.heap) 35 4 := xFr_E hFr0 rfl
      have e35_5 : xE (zyEl zymc B H2) 35 5 = xE (zyEl zymc B H) 35 5 := xFr_E hfr rfl
      have e35_6 : xE (zyEl zymc B H2) 35 6 = xE (zyEl zymc B H) 35 6 := xFr_E hfr rfl
      have e35_7 : xE (zyEl zymc B H2) 35 7 = xE (zyEl zymc B H) 35 7 := xFr_E hfr rfl
      have e35_8 : xE (zyEl zymc B H2) 35 8 = xE (zyEl zymc B H) 35 8 := xFr_E hfr rfl
      have e18_8 : xE (zyEl zymc B H2) 18 8 = xE (zyEl zymc B H) 18 8 := xFr_E hfr rfl
      have e33_1 : xE (zyEl zymc B H2) 33 1 = xE (zyEl zymc B H) 33 1 := xFr_E hfr rfl
      have e36 : ∀ i, xE (zyEl zymc B H2) 36 i = xE (zyEl zymc B H) 36 i := fun i => xFr_E hfr rfl
      have q36 : ∀ i, xE (zyEl zymc B H) 36 i = xE (zyEl zymc B s.heap) 36 i := fun i => xFr_E hFr0 rfl
      have e34 : ∀ i, xE (zyEl zymc B H2) 34 i = xE (zyEl zymc B H) 34 i := fun i => xFr_E hfr rfl
      have hI : xE (zyEl zymc B H) 35 6 ≤ (xE (zyEl zymc B s.heap) 35 4) ∧ xE (zyEl zymc B H) 18 8 = 1 ∧ ((0 ≤ (v 2) ∧ (v 2) ≤ 60 ∧ xE (zyEl zymc B H) 33 1 = (v 2) ∧ ∀ S, xAb17 (zyEl zymc B s.heap) S → ∃ Si : Int → Int, pBind (pWs (xE (zyEl zymc B s.heap) 36) (xE (zyEl zymc B s.heap) 35 4) 60 (xE (zyEl zymc B s.heap) 35 6) (uS S 5 0)) (pSem (xE (zyEl zymc B s.heap) 36) (xE (zyEl zymc B s.heap) 35 4)) = pBind (pWs (xE (zyEl zymc B s.heap) 36) (xE (zyEl zymc B s.heap) 35 4) (60 - (v 2)).toNat (xE (zyEl zymc B H) 35 6) Si) (pSem (xE (zyEl zymc B s.heap) 36) (xE (zyEl zymc B s.heap) 35 4)) ∧ xAb17 (zyEl zymc B H) Si ∧ Si 5 = (v 2)) ∨ ((v 2) = 61 ∧ ∀ S, xAb17 (zyEl zymc B s.heap) S → pBind (pWs (xE (zyEl zymc B s.heap) 36) (xE (zyEl zymc B s.heap) 35 4) 60 (xE (zyEl zymc B s.heap) 35 6) (uS S 5 0)) (pSem (xE (zyEl zymc B s.heap) 36) (xE (zyEl zymc B s.heap) 35 4)) = .error (6, xE (zyEl zymc B H) 35 5))) := hInv
      have tt : xE (zyEl zymc B H2) 36 = xE (zyEl zymc B s.heap) 36 := funext fun i => (e36 i).trans (q36 i)
      have tn : xE (zyEl zymc B H2) 35 4 = xE (zyEl zymc B s.heap) 35 4 := by omega
      obtain ⟨i1, i2, i3⟩ := hI
      rcases i3 with ⟨w1, w2, w3, i3⟩ | ⟨w, -⟩
      · rw [show (v 2) = v2 2 by omega] at i3
        refine xCa hRu hIH hAt hB hv hFr (hfad B) (ix := 35) (ax := 1168) rfl rfl rfl hmefad ⟨_, rfl, rfl, by decide⟩ ⟨rfl, rfl, rfl⟩ (by decide) [] [] [] rfl ⟨rfl, rfl⟩ (by decide +kernel) xcs_n (by decide +kernel) ?_ (fun H3 r hT3 hf3 hFr3 hr3 hΨ3 => ?_)
        · show xΦad (xfv []) (zyEl zymc B H2)
          unfold xΦad
          omega
        · have hΨ3 : xΨad (xfv []) (zyEl zymc B H2) (zyEl zymc B H3) r := hΨ3
          have d35_4 : xE (zyEl zymc B H3) 35 4 = xE (zyEl zymc B H2) 35 4 := xFr_E hf3 rfl
          have d35_2 : xE (zyEl zymc B H3) 35 2 = xE (zyEl zymc B H2) 35 2 := xFr_E hf3 rfl
          have d35_3 : xE (zyEl zymc B H3) 35 3 = xE (zyEl zymc B H2) 35 3 := xFr_E hf3 rfl
          have d18_8 : xE (zyEl zymc B H3) 18 8 = xE (zyEl zymc B H2) 18 8 := xFr_E hf3 rfl
          have d33_1 : xE (zyEl zymc B H3) 33 1 = xE (zyEl zymc B H2) 33 1 := xFr_E hf3 rfl
          have d36 : ∀ i, xE (zyEl zymc B H3) 36 i = xE (zyEl zymc B H2) 36 i := fun i => xFr_E hf3 rfl
          have d34 : ∀ i, xE (zyEl zymc B H3) 34 i = xE (zyEl zymc B H2) 34 i := fun i => xFr_E hf3 rfl
          unfold xΨad at hΨ3
          rw [tt, tn] at hΨ3
          refine ⟨⟨2, by decide⟩, [0, 0, 68719476737, 0], [0, 0, (v2 2), 0], rfl, ⟨by decide +kernel, ⟨rfl, by decide +kernel⟩, (xcs_c rfl (xcs_c rfl (xcs_c rfl (xcs_c rfl xcs_n)))), (xe_0 (xe_0 (xe_c (by omega) (by omega) rfl (xe_0 xe_n)))), xkq_n⟩, (by rw [if_neg (by decide)]; exact xst_n), ?_, ?_⟩
          · show (0 ≤ ((v2 2) : Int) ∧ ((v2 2) : Int) ≤ 60) ∧ xE (zyEl zymc B H3) 18 8 = 1 ∧ xE (zyEl zymc B H3) 33 1 = ((v2 2) : Int) ∧ ∃ p1, p1 ≤ (xE (zyEl zymc B s.heap) 35 4) ∧ xAD (xE (zyEl zymc B s.heap) 36) (xE (zyEl zymc B s.heap) 35 4) p1 (zyEl zymc B H3) ∧ ∀ S, xAb17 (zyEl zymc B s.heap) S → ∃ Si : Int → Int, pBind (pWs (xE (zyEl zymc B s.heap) 36) (xE (zyEl zymc B s.heap) 35 4) 60 (xE (zyEl zymc B s.heap) 35 6) (uS S 5 0)) (pSem (xE (zyEl zymc B s.heap) 36) (xE (zyEl zymc B s.heap) 35 4)) = pBind (pWs (xE (zyEl zymc B s.heap) 36) (xE (zyEl zymc B s.heap) 35 4) (60 - ((v2 2) : Int)).toNat p1 Si) (pSem (xE (zyEl zymc B s.heap) 36) (xE (zyEl zymc B s.heap) 35 4)) ∧ xAb17 (zyEl zymc B H3) Si ∧ Si 5 = ((v2 2) : Int)
            refine ⟨by omega, by omega, by omega, xE (zyEl zymc B H2) 35 6, by omega, hΨ3, fun S hS => ?_⟩
            obtain ⟨Si, u1, u2, u3⟩ := i3 S hS
            refine ⟨Si, ?_, xAb17_35 u2 (xFr_trans (xFr_mono (by decide) hfr) (xFr_mono (by decide) hf3)), u3⟩
            rw [u1, show xE (zyEl zymc B H2) 35 6 = xE (zyEl zymc B H) 35 6 by omega]
          · show 10 * (70 - ((v2 2) : Int)).toNat + 4 < 10 * (70 - (v 2)).toNat + 5
            omega
      · omega
    · have hx : x ∈ [zxfrw17_cx0, zxfrw17_cx1] := hx
      have hag : ∀ k, k < 4 → v2 k = v k := hag
      have hfr : xFr [] _ _ := hfr
      rcases List.mem_cons.mp hx with ex | hx
      · subst ex
        obtain ⟨hF, hBd, hM⟩ := hXs
        have g2 : v2 2 = v 2 := hag 2 (by decide)
        have b0 : ((2147483648 : Nat) : Int) ≤ (v2 2) + 2147483648 ∧ (v2 2) + 2147483648 ≤ ((2147483708 : Nat) : Int) := xXb hBd 0 rfl
        have b1 : ((2147483648 : Nat) : Int) ≤ (v2 4) + 2147483648 ∧ (v2 4) + 2147483648 ≤ ((2147483651 : Nat) : Int) := xXb hBd 1 rfl
        have f0 : (0 : Int) ≤ 7 ∧ xE (zyEl zymc B H) 35 7 = (v2 4) := xXf hF 0 rfl
        have f1 : ¬ (v2 4) = 5 := xXf hF 1 rfl
        have f2 : ¬ (v2 4) = 4 := xXf hF 2 rfl
        have f3 : ¬ (v2 4) = 4 := xXf hF 3 rfl
        have e35_4 : xE (zyEl zymc B H2) 35 4 = xE (zyEl zymc B H) 35 4 := xFr_E hfr rfl
        have q35_4 : xE (zyEl zymc B H) 35 4 = xE (zyEl zymc B s.heap) 35 4 := xFr_E hFr0 rfl
        have e35_5 : xE (zyEl zymc B H2) 35 5 = xE (zyEl zymc B H) 35 5 := xFr_E hfr rfl
        have e35_6 : xE (zyEl zymc B H2) 35 6 = xE (zyEl zymc B H) 35 6 := xFr_E hfr rfl
        have e35_7 : xE (zyEl zymc B H2) 35 7 = xE (zyEl zymc B H) 35 7 := xFr_E hfr rfl
        have e35_8 : xE (zyEl zymc B H2) 35 8 = xE (zyEl zymc B H) 35 8 := xFr_E hfr rfl
        have e35_2 : xE (zyEl zymc B H2) 35 2 = xE (zyEl zymc B H) 35 2 := xFr_E hfr rfl
        have e35_3 : xE (zyEl zymc B H2) 35 3 = xE (zyEl zymc B H) 35 3 := xFr_E hfr rfl
        have e18_8 : xE (zyEl zymc B H2) 18 8 = xE (zyEl zymc B H) 18 8 := xFr_E hfr rfl
        have e33_1 : xE (zyEl zymc B H2) 33 1 = xE (zyEl zymc B H) 33 1 := xFr_E hfr rfl
        have e36 : ∀ i, xE (zyEl zymc B H2) 36 i = xE (zyEl zymc B H) 36 i := fun i => xFr_E hfr rfl
        have q36 : ∀ i, xE (zyEl zymc B H) 36 i = xE (zyEl zymc B s.heap) 36 i := fun i => xFr_E hFr0 rfl
        have e34 : ∀ i, xE (zyEl zymc B H2) 34 i = xE (zyEl zymc B H) 34 i := fun i => xFr_E hfr rfl
        have hI : (0 ≤ (v 2) ∧ (v 2) ≤ 60) ∧ xE (zyEl zymc B H) 18 8 = 1 ∧ xE (zyEl zymc B H) 33 1 = (v 2) ∧ ∃ p1, p1 ≤ (xE (zyEl zymc B s.heap) 35 4) ∧ xAD (xE (zyEl zymc B s.heap) 36) (xE (zyEl zymc B s.heap) 35 4) p1 (zyEl zymc B H) ∧ ∀ S, xAb17 (zyEl zymc B s.heap) S → ∃ Si : Int → Int, pBind (pWs (xE (zyEl zymc B s.heap) 36) (xE (zyEl zymc B s.heap) 35 4) 60 (xE (zyEl zymc B s.heap) 35 6) (uS S 5 0)) (pSem (xE (zyEl zymc B s.heap) 36) (xE (zyEl zymc B s.heap) 35 4)) = pBind (pWs (xE (zyEl zymc B s.heap) 36) (xE (zyEl zymc B s.heap) 35 4) (60 - (v 2)).toNat p1 Si) (pSem (xE (zyEl zymc B s.heap) 36) (xE (zyEl zymc B s.heap) 35 4)) ∧ xAb17 (zyEl zymc B H) Si ∧ Si 5 = (v 2) := hInv
        obtain ⟨i1, i2, i3, p1, i4, ⟨a1, a2, a3, a4⟩, i5⟩ := hI
        rw [show (v 2) = v2 2 by omega] at i5
        have hb := tNx_b (T := xE (zyEl zymc B s.heap) 36) (n := xE (zyEl zymc B s.heap) 35 4) (p := p1) i4
        refine xGo hIH hAt hB hv hFr ⟨3, by decide⟩ [0, 0, 68719476737, 8] [0, 0, (v2 2), 1] rfl ⟨by decide +kernel, ⟨rfl, by decide +kernel⟩, (xcs_c rfl (xcs_c rfl (xcs_c rfl (xcs_c rfl xcs_n)))), (xe_0 (xe_0 (xe_c (by omega) (by omega) rfl (xe_c (by omega) (by omega) rfl xe_n)))), xkq_n⟩ xst_n ?_ ?_
        · show (0 ≤ ((v2 2) : Int) ∧ ((v2 2) : Int) ≤ 60) ∧ xE (zyEl zymc B H2) 18 8 = 1 ∧ xE (zyEl zymc B H2) 33 1 = ((v2 2) : Int) ∧ ∃ q, q ≤ (xE (zyEl zymc B s.heap) 35 4) ∧ xAD (xE (zyEl zymc B s.heap) 36) (xE (zyEl zymc B s.heap) 35 4) q (zyEl zymc B H2) ∧ ∀ S, xAb17 (zyEl zymc B s.heap) S → ∃ Si : Int → Int, pBind (pWs (xE (zyEl zymc B s.heap) 36) (xE (zyEl zymc B s.heap) 35 4) 60 (xE (zyEl zymc B s.heap) 35 6) (uS S 5 0)) (pSem (xE (zyEl zymc B s.heap) 36) (xE (zyEl zymc B s.heap) 35 4)) = pBind (pNum (xE (zyEl zymc B s.heap) 36) (xE (zyEl zymc B s.heap) 35 4) q 1 7 (fun x p2 => if ((v2 2) : Int) < 60 then pWs (xE (zyEl zymc B s.heap) 36) (xE (zyEl zymc B s.heap) 35 4) (60 - (((v2 2) : Int) + 1)).toNat p2 (uS (uS Si (460 + Si 5) x) 5 (Si 5 + 1)) else .error (6, tFr (xE (zyEl zymc B s.heap) 36) (xE (zyEl zymc B s.heap) 35 4) q))) (pSem (xE (zyEl zymc B s.heap) 36) (xE (zyEl zymc B s.heap) 35 4)) ∧ xAb17 (zyEl zymc B H2) Si ∧ Si 5 = ((v2 2) : Int)
          refine ⟨by omega, by omega, by omega, p1, i4, ⟨by omega, by omega, by omega, fun h => by have := a4 h; omega⟩, fun S hS => ?_⟩
          obtain ⟨Si, u1, u2, u3⟩ := i5 S hS
          refine ⟨Si, ?_, xAb17_35 u2 (xFr_mono (by decide) hfr), u3⟩
          rw [u1]
          by_cases h3 : tKd (xE (zyEl zymc B s.heap) 36) (xE (zyEl zymc B s.heap) 35 4) p1 = 3
          · rw [pWs_3 (by omega) h3]
          · rw [pWs_e h3 (by omega)]
            show pSem (xE (zyEl zymc B s.heap) 36) (xE (zyEl zymc B s.heap) 35 4) p1 Si = _
            unfold pNum pSem
            rw [if_neg h3, if_neg (by omega)]
            rfl
        · show 10 * (70 - ((v2 2) : Int)).toNat + 3 < 10 * (70 - (v 2)).toNat + 4
          omega
      · skip
        have ex := List.mem_singleton.mp hx
        subst ex
        obtain ⟨hF, hBd, hM⟩ := hXs
        have g2 : v2 2 = v 2 := hag 2 (by decide)
        have b0 : ((2147483648 : Nat) : Int) ≤ (v2 2) + 2147483648 ∧ (v2 2) + 2147483648 ≤ ((2147483708 : Nat) : Int) := xXb hBd 0 rfl
        have b1 : ((2147483652 : Nat) : Int) ≤ (v2 4) + 2147483648 ∧ (v2 4) + 2147483648 ≤ ((2147483652 : Nat) : Int) := xXb hBd 1 rfl
        have f0 : (0 : Int) ≤ 7 ∧ xE (zyEl zymc B H) 35 7 = (v2 4) := xXf hF 0 rfl
        have f1 : ¬ (v2 4) = 5 := xXf hF 1 rfl
        have f2 : (v2 4) = 4 := xXf hF 2 rfl
        have f3 : (v2 4) = 4 := xXf hF 3 rfl
        have e35_4 : xE (zyEl zymc B H2) 35 4 = xE (zyEl zymc B H) 35 4 := xFr_E hfr rfl
        have q35_4 : xE (zyEl zymc B H) 35 4 = xE (zyEl zymc B s.heap) 35 4 := xFr_E hFr0 rfl
        have e35_5 : xE (zyEl zymc B H2) 35 5 = xE (zyEl zymc B H) 35 5 := xFr_E hfr rfl
        have e35_6 : xE (zyEl zymc B H2) 35 6 = xE (zyEl zymc B H) 35 6 := xFr_E hfr rfl
        have e35_7 : xE (zyEl zymc B H2) 35 7 = xE (zyEl zymc B H) 35 7 := xFr_E hfr rfl
        have e35_8 : xE (zyEl zymc B H2) 35 8 = xE (zyEl zymc B H) 35 8 := xFr_E hfr rfl
        have e35_2 : xE (zyEl zymc B H2) 35 2 = xE (zyEl zymc B H) 35 2 := xFr_E hfr rfl
        have e35_3 : xE (zyEl zymc B H2) 35 3 = xE (zyEl zymc B H) 35 3 := xFr_E hfr rfl
        have e18_8 : xE (zyEl zymc B H2) 18 8 = xE (zyEl zymc B H) 18 8 := xFr_E hfr rfl
        have e33_1 : xE (zyEl zymc B H2) 33 1 = xE (zyEl zymc B H) 33 1 := xFr_E hfr rfl
        have e36 : ∀ i, xE (zyEl zymc B H2) 36 i = xE (zyEl zymc B H) 36 i := fun i => xFr_E hfr rfl
        have q36 : ∀ i, xE (zyEl zymc B H) 36 i = xE (zyEl zymc B s.heap) 36 i := fun i => xFr_E hFr0 rfl
        have e34 : ∀ i, xE (zyEl zymc B H2) 34 i = xE (zyEl zymc B H) 34 i := fun i => xFr_E hfr rfl
        have hI : (0 ≤ (v 2) ∧ (v 2) ≤ 60) ∧ xE (zyEl zymc B H) 18 8 = 1 ∧ xE (zyEl zymc B H) 33 1 = (v 2) ∧ ∃ p1, p1 ≤ (xE (zyEl zymc B s.heap) 35 4) ∧ xAD (xE (zyEl zymc B s.heap) 36) (xE (zyEl zymc B s.heap) 35 4) p1 (zyEl zymc B H) ∧ ∀ S, xAb17 (zyEl zymc B s.heap) S → ∃ Si : Int → Int, pBind (pWs (xE (zyEl zymc B s.heap) 36) (xE (zyEl zymc B s.heap) 35 4) 60 (xE (zyEl zymc B s.heap) 35 6) (uS S 5 0)) (pSem (xE (zyEl zymc B s.heap) 36) (xE (zyEl zymc B s.heap) 35 4)) = pBind (pWs (xE (zyEl zymc B s.heap) 36) (xE (zyEl zymc B s.heap) 35 4) (60 - (v 2)).toNat p1 Si) (pSem (xE (zyEl zymc B s.heap) 36) (xE (zyEl zymc B s.heap) 35 4)) ∧ xAb17 (zyEl zymc B H) Si ∧ Si 5 = (v 2) := hInv
        have tt : xE (zyEl zymc B H2) 36 = xE (zyEl zymc B s.heap) 36 := funext fun i => (e36 i).trans (q36 i)
        have tn : xE (zyEl zymc B H2) 35 4 = xE (zyEl zymc B s.heap) 35 4 := by omega
        obtain ⟨i1, i2, i3, p1, i4, ⟨a1, a2, a3, a4⟩, i5⟩ := hI
        rw [show (v 2) = v2 2 by omega] at i5
        have hb := tNx_b (T := xE (zyEl zymc B s.heap) 36) (n := xE (zyEl zymc B s.heap) 35 4) (p := p1) i4
        refine xCa hRu hIH hAt hB hv hFr (hfad B) (ix := 35) (ax := 1168) rfl rfl rfl hmefad ⟨_, rfl, rfl, by decide⟩ ⟨rfl, rfl, rfl⟩ (by decide) [] [] [] rfl ⟨rfl, rfl⟩ (by decide +kernel) xcs_n (by decide +kernel) ?_ (fun H3 r hT3 hf3 hFr3 hr3 hΨ3 => ?_)
        · show xΦad (xfv []) (zyEl zymc B H2)
          unfold xΦad
          omega
        · have hΨ3 : xΨad (xfv []) (zyEl zymc B H2) (zyEl zymc B H3) r := hΨ3
          have d35_4 : xE (zyEl zymc B H3) 35 4 = xE (zyEl zymc B H2) 35 4 := xFr_E hf3 rfl
          have d35_2 : xE (zyEl zymc B H3) 35 2 = xE (zyEl zymc B H2) 35 2 := xFr_E hf3 rfl
          have d35_3 : xE (zyEl zymc B H3) 35 3 = xE (zyEl zymc B H2) 35 3 := xFr_E hf3 rfl
          have d18_8 : xE (zyEl zymc B H3) 18 8 = xE (zyEl zymc B H2) 18 8 := xFr_E hf3 rfl
          have d33_1 : xE (zyEl zymc B H3) 33 1 = xE (zyEl zymc B H2) 33 1 := xFr_E hf3 rfl
          have d36 : ∀ i, xE (zyEl zymc B H3) 36 i = xE (zyEl zymc B H2) 36 i := fun i => xFr_E hf3 rfl
          have d34 : ∀ i, xE (zyEl zymc B H3) 34 i = xE (zyEl zymc B H2) 34 i := fun i => xFr_E hf3 rfl
          unfold xΨad at hΨ3
          rw [tt, tn, show xE (zyEl zymc B H2) 35 6 = tNx (xE (zyEl zymc B s.heap) 36) (xE (zyEl zymc B s.heap) 35 4) p1 by omega] at hΨ3
          refine ⟨⟨4, by decide⟩, [0, 0, 68719476737, 34359738360], [0, 0, (v2 2), (-1)], rfl, ⟨by decide +kernel, ⟨rfl, by decide +kernel⟩, (xcs_c rfl (xcs_c rfl (xcs_c rfl (xcs_c rfl xcs_n)))), (xe_0 (xe_0 (xe_c (by omega) (by omega) rfl (xe_c (by omega) (by omega) rfl xe_n)))), xkq_n⟩, (by rw [if_neg (by decide)]; exact xst_n), ?_, ?_⟩
          · show (0 ≤ ((v2 2) : Int) ∧ ((v2 2) : Int) ≤ 60) ∧ xE (zyEl zymc B H3) 18 8 = 1 ∧ xE (zyEl zymc B H3) 33 1 = ((v2 2) : Int) ∧ ∃ q, q ≤ (xE (zyEl zymc B s.heap) 35 4) ∧ xAD (xE (zyEl zymc B s.heap) 36) (xE (zyEl zymc B s.heap) 35 4) q (zyEl zymc B H3) ∧ ∀ S, xAb17 (zyEl zymc B s.heap) S → ∃ Si : Int → Int, pBind (pWs (xE (zyEl zymc B s.heap) 36) (xE (zyEl zymc B s.heap) 35 4) 60 (xE (zyEl zymc B s.heap) 35 6) (uS S 5 0)) (pSem (xE (zyEl zymc B s.heap) 36) (xE (zyEl zymc B s.heap) 35 4)) = pBind (pNum (xE (zyEl zymc B s.heap) 36) (xE (zyEl zymc B s.heap) 35 4) q 1 7 (fun x p2 => if ((v2 2) : Int) < 60 then pWs (xE (zyEl zymc B s.heap) 36) (xE (zyEl zymc B s.heap) 35 4) (60 - (((v2 2) : Int) + 1)).toNat p2 (uS (uS Si (460 + Si 5) (-x)) 5 (Si 5 + 1)) else .error (6, tFr (xE (zyEl zymc B s.heap) 36) (xE (zyEl zymc B s.heap) 35 4) q))) (pSem (xE (zyEl zymc B s.heap) 36) (xE (zyEl zymc B s.heap) 35 4)) ∧ xAb17 (zyEl zymc B H3) Si ∧ Si 5 = ((v2 2) : Int)
            refine ⟨by omega, by omega, by omega, tNx (xE (zyEl zymc B s.heap) 36) (xE (zyEl zymc B s.heap) 35 4) p1, by omega, hΨ3, fun S hS => ?_⟩
            obtain ⟨Si, u1, u2, u3⟩ := i5 S hS
            refine ⟨Si, ?_, xAb17_35 u2 (xFr_trans (xFr_mono (by decide) hfr) (xFr_mono (by decide) hf3)), u3⟩
            rw [u1, pWs_4 (by omega) (by omega)]
          · show 10 * (70 - ((v2 2) : Int)).toNat + 2 < 10 * (70 - (v 2)).toNat + 4
            omega
    · have hx : x ∈ [zxfrw17_dx0] := hx
      have hag : ∀ k, k < 4 → v2 k = v k := hag
      have hfr : xFr [(35, 2, 3)] _ _ := hfr
      have ex := List.mem_singleton.mp hx
      subst ex
      obtain ⟨hF, hBd, hM⟩ := hXs
      have g2 : v2 2 = v 2 := hag 2 (by decide)
      have g3 : v2 3 = v 3 := hag 3 (by decide)
      have b0 : ((2147483648 : Nat) : Int) ≤ (v2 2) + 2147483648 ∧ (v2 2) + 2147483648 ≤ ((2147483708 : Nat) : Int) := xXb hBd 0 rfl
      have b1 : ((2147483651 : Nat) : Int) ≤ (v2 4) + 2147483648 ∧ (v2 4) + 2147483648 ≤ ((2147483651 : Nat) : Int) := xXb hBd 1 rfl
      have b2 : ((2147483649 : Nat) : Int) ≤ (v2 5) + 2147483648 ∧ (v2 5) + 2147483648 ≤ ((2147483655 : Nat) : Int) := xXb hBd 2 rfl
      have b3 : ((2147483649 : Nat) : Int) ≤ (v2 6) + 2147483648 ∧ (v2 6) + 2147483648 ≤ ((2147483655 : Nat) : Int) := xXb hBd 3 rfl
      have f0 : (0 : Int) ≤ 7 ∧ xE (zyEl zymc B H) 35 7 = (v2 4) := xXf hF 0 rfl
      have f1 : (v2 4) = 3 := xXf hF 1 rfl
      have f2 : (0 : Int) ≤ 8 ∧ xE (zyEl zymc B H) 35 8 = (v2 5) := xXf hF 2 rfl
      have f3 : 1 ≤ (v2 5) := xXf hF 3 rfl
      have f4 : (v2 5) ≤ 7 := xXf hF 4 rfl
      have f5 : -2147483648 ≤ 1 * (v2 5) → 1 * (v2 5) < 2147483648 → (v2 6) = 1 * (v2 5) := xXf hF 5 rfl
      have f5 := f5 (by omega) (by omega)
      have e35_4 : xE (zyEl zymc B H2) 35 4 = xE (zyEl zymc B H) 35 4 := xFr_E hfr rfl
      have q35_4 : xE (zyEl zymc B H) 35 4 = xE (zyEl zymc B s.heap) 35 4 := xFr_E hFr0 rfl
      have e35_5 : xE (zyEl zymc B H2) 35 5 = xE (zyEl zymc B H) 35 5 := xFr_E hfr rfl
      have e35_6 : xE (zyEl zymc B H2) 35 6 = xE (zyEl zymc B H) 35 6 := xFr_E hfr rfl
      have e35_7 : xE (zyEl zymc B H2) 35 7 = xE (zyEl zymc B H) 35 7 := xFr_E hfr rfl
      have e35_8 : xE (zyEl zymc B H2) 35 8 = xE (zyEl zymc B H) 35 8 := xFr_E hfr rfl
      have e18_8 : xE (zyEl zymc B H2) 18 8 = xE (zyEl zymc B H) 18 8 := xFr_E hfr rfl
      have e33_1 : xE (zyEl zymc B H2) 33 1 = xE (zyEl zymc B H) 33 1 := xFr_E hfr rfl
      have e36 : ∀ i, xE (zyEl zymc B H2) 36 i = xE (zyEl zymc B H) 36 i := fun i => xFr_E hfr rfl
      have q36 : ∀ i, xE (zyEl zymc B H) 36 i = xE (zyEl zymc B s.heap) 36 i := fun i => xFr_E hFr0 rfl
      have e34 : ∀ i, xE (zyEl zymc B H2) 34 i = xE (zyEl zymc B H) 34 i := fun i => xFr_E hfr rfl
      have hI : (0 ≤ (v 2) ∧ (v 2) ≤ 60) ∧ xE (zyEl zymc B H) 18 8 = 1 ∧ xE (zyEl zymc B H) 33 1 = (v 2) ∧ ∃ q, q ≤ (xE (zyEl zymc B s.heap) 35 4) ∧ xAD (xE (zyEl zymc B s.heap) 36) (xE (zyEl zymc B s.heap) 35 4) q (zyEl zymc B H) ∧ ∀ S, xAb17 (zyEl zymc B s.heap) S → ∃ Si : Int → Int, pBind (pWs (xE (zyEl zymc B s.heap) 36) (xE (zyEl zymc B s.heap) 35 4) 60 (xE (zyEl zymc B s.heap) 35 6) (uS S 5 0)) (pSem (xE (zyEl zymc B s.heap) 36) (xE (zyEl zymc B s.heap) 35 4)) = pBind (pNum (xE (zyEl zymc B s.heap) 36) (xE (zyEl zymc B s.heap) 35 4) q 1 7 (fun x p2 => if (v 2) < 60 then pWs (xE (zyEl zymc B s.heap) 36) (xE (zyEl zymc B s.heap) 35 4) (60 - ((v 2) + 1)).toNat p2 (uS (uS Si (460 + Si 5) x) 5 (Si 5 + 1)) else .error (6, tFr (xE (zyEl zymc B s.heap) 36) (xE (zyEl zymc B s.heap) 35 4) q))) (pSem (xE (zyEl zymc B s.heap) 36) (xE (zyEl zymc B s.heap) 35 4)) ∧ xAb17 (zyEl zymc B H) Si ∧ Si 5 = (v 2) := hInv
      obtain ⟨i1, i2, i3, q, i4, ⟨a1, a2, a3, a4⟩, i5⟩ := hI
      rw [show (v 2) = v2 2 by omega] at i5
      have hb := tNx_b (T := xE (zyEl zymc B s.heap) 36) (n := xE (zyEl zymc B s.heap) 35 4) (p := q) i4
      have hk : tKd (xE (zyEl zymc B s.heap) 36) (xE (zyEl zymc B s.heap) 35 4) q = 3 := by omega
      have hval := a4 hk
      refine xCa hRu hIH hAt hB hv hFr (hfwa17 B) (ix := 165) (ax := 1713) rfl rfl rfl hmefwa17 ⟨_, rfl, rfl, by decide⟩ ⟨rfl, rfl, rfl⟩ (by decide) [206158430209] [] [(v2 6)] rfl ⟨rfl, rfl⟩ (by decide +kernel) (xcs_c rfl xcs_n) (by decide +kernel) ?_ (fun H3 r hT3 hf3 hFr3 hr3 hΨ3 => ?_)
      · show xΦwa17 (xfv [(v2 6)]) (zyEl zymc B H2)
        exact ⟨by omega, by show -7 ≤ (v2 6); omega, by show (v2 6) ≤ 7; omega⟩
      · have hΨ3 : xΨwa17 (xfv [(v2 6)]) (zyEl zymc B H2) (zyEl zymc B H3) r := hΨ3
        have d35_4 : xE (zyEl zymc B H3) 35 4 = xE (zyEl zymc B H2) 35 4 := xFr_E hf3 rfl
        have d35_5 : xE (zyEl zymc B H3) 35 5 = xE (zyEl zymc B H2) 35 5 := xFr_E hf3 rfl
        have d35_6 : xE (zyEl zymc B H3) 35 6 = xE (zyEl zymc B H2) 35 6 := xFr_E hf3 rfl
        have d35_7 : xE (zyEl zymc B H3) 35 7 = xE (zyEl zymc B H2) 35 7 := xFr_E hf3 rfl
        have d35_8 : xE (zyEl zymc B H3) 35 8 = xE (zyEl zymc B H2) 35 8 := xFr_E hf3 rfl
        have d35_2 : xE (zyEl zymc B H3) 35 2 = xE (zyEl zymc B H2) 35 2 := xFr_E hf3 rfl
        have d35_3 : xE (zyEl zymc B H3) 35 3 = xE (zyEl zymc B H2) 35 3 := xFr_E hf3 rfl
        have d18_8 : xE (zyEl zymc B H3) 18 8 = xE (zyEl zymc B H2) 18 8 := xFr_E hf3 rfl
        have d36 : ∀ i, xE (zyEl zymc B H3) 36 i = xE (zyEl zymc B H2) 36 i := fun i => xFr_E hf3 rfl
        obtain ⟨w1, w2, w3⟩ := hΨ3
        have w2 : xE (zyEl zymc B H2) 33 1 < 60 → xE (zyEl zymc B H3) 34 (xE (zyEl zymc B H2) 33 1) = (v2 6) := w2
        have hs2 : xE (zyEl zymc B H2) 33 1 = v2 2 := by omega
        rw [hs2] at w1 w2 w3
        refine ⟨⟨5, by decide⟩, [0, 0, 68719476737, 0], [0, 0, (v2 2), 0], rfl, ⟨by decide +kernel, ⟨rfl, by decide +kernel⟩, (xcs_c rfl (xcs_c rfl (xcs_c rfl (xcs_c rfl xcs_n)))), (xe_0 (xe_0 (xe_c (by omega) (by omega) rfl (xe_0 xe_n)))), xkq_n⟩, (by rw [if_neg (by decide)]; exact xst_n), ?_, ?_⟩
        · show xE (zyEl zymc B H3) 35 6 ≤ (xE (zyEl zymc B s.heap) 35 4) ∧ xE (zyEl zymc B H3) 18 8 = 1 ∧ (0 ≤ ((v2 2) : Int) ∧ ((v2 2) : Int) ≤ 60) ∧ ((((v2 2) : Int) < 60 ∧ xE (zyEl zymc B H3) 33 1 = ((v2 2) : Int) + 1 ∧ ∀ S, xAb17 (zyEl zymc B s.heap) S → ∃ Si : Int → Int, pBind (pWs (xE (zyEl zymc B s.heap) 36) (xE (zyEl zymc B s.heap) 35 4) 60 (xE (zyEl zymc B s.heap) 35 6) (uS S 5 0)) (pSem (xE (zyEl zymc B s.heap) 36) (xE (zyEl zymc B s.heap) 35 4)) = pBind (pWs (xE (zyEl zymc B s.heap) 36) (xE (zyEl zymc B s.heap) 35 4) (60 - (((v2 2) : Int) + 1)).toNat (xE (zyEl zymc B H3) 35 6) Si) (pSem (xE (zyEl zymc B s.heap) 36) (xE (zyEl zymc B s.heap) 35 4)) ∧ xAb17 (zyEl zymc B H3) Si ∧ Si 5 = ((v2 2) : Int) + 1) ∨ (((v2 2) : Int) = 60 ∧ ∀ S, xAb17 (zyEl zymc B s.heap) S → pBind (pWs (xE (zyEl zymc B s.heap) 36) (xE (zyEl zymc B s.heap) 35 4) 60 (xE (zyEl zymc B s.heap) 35 6) (uS S 5 0)) (pSem (xE (zyEl zymc B s.heap) 36) (xE (zyEl zymc B s.heap) 35 4)) = .error (6, xE (zyEl zymc B H3) 35 5)))
          refine ⟨by omega, by omega, by omega, ?_⟩
          have hnum : ∀ K, pNum (xE (zyEl zymc B s.heap) 36) (xE (zyEl zymc B s.heap) 35 4) q 1 7 K = K (tNm (xE (zyEl zymc B s.heap) 36) (xE (zyEl zymc B s.heap) 35 4) q) (tNx (xE (zyEl zymc B s.heap) 36) (xE (zyEl zymc B s.heap) 35 4) q) := by
            intro K
            unfold pNum
            rw [if_pos hk, if_pos (by omega)]
          by_cases h60 : v2 2 < 60
          · refine Or.inl ⟨h60, by omega, fun S hS => ?_⟩
            obtain ⟨Si, u1, u2, u3⟩ := i5 S hS
            refine ⟨uS (uS Si (460 + Si 5) (tNm (xE (zyEl zymc B s.heap) 36) (xE (zyEl zymc B s.heap) 35 4) q)) 5 (Si 5 + 1), ?_, ?_, ?_⟩
            · rw [u1, hnum, if_pos h60, show xE (zyEl zymc B H3) 35 6 = tNx (xE (zyEl zymc B s.heap) 36) (xE (zyEl zymc B s.heap) 35 4) q by omega]
            · refine xAb17_wd (by omega) (by omega) ?_ ?_ (by omega) (xAb17_35 u2 (xFr_mono (by decide) hfr)) (xFr_mono (by decide) hf3)
              · rw [u3, w2 h60]
                omega
              · intro k k0 k1
                rw [u3] at k1
                exact w3 k k0 k1
            · rw [uS_e rfl, u3]
          · refine Or.inr ⟨by omega, fun S hS => ?_⟩
            obtain ⟨Si, u1, u2, u3⟩ := i5 S hS
            rw [u1, hnum, if_neg h60, show xE (zyEl zymc B H3) 35 5 = tFr (xE (zyEl zymc B s.heap) 36) (xE (zyEl zymc B s.heap) 35 4) q by omega]
            rfl
        · show 10 * (70 - ((v2 2) : Int)).toNat < 10 * (70 - (v 2)).toNat + 3
          omega
    · have hx : x ∈ [zxfrw17_ex0] := hx
      have hag : ∀ k, k < 4 → v2 k = v k := hag
      have hfr : xFr [(35, 2, 3)] _ _ := hfr
      have ex := List.mem_singleton.mp hx
      subst ex
      obtain ⟨hF, hBd, hM⟩ := hXs
      have g2 : v2 2 = v 2 := hag 2 (by decide)
      have g3 : v2 3 = v 3 := hag 3 (by decide)
      have b0 : ((2147483648 : Nat) : Int) ≤ (v2 2) + 2147483648 ∧ (v2 2) + 2147483648 ≤ ((2147483708 : Nat) : Int) := xXb hBd 0 rfl
      have b1 : ((2147483651 : Nat) : Int) ≤ (v2 4) + 2147483648 ∧ (v2 4) + 2147483648 ≤ ((2147483651 : Nat) : Int) := xXb hBd 1 rfl
      have b2 : ((2147483649 : Nat) : Int) ≤ (v2 5) + 2147483648 ∧ (v2 5) + 2147483648 ≤ ((2147483655 : Nat) : Int) := xXb hBd 2 rfl
      have b3 : ((2147483641 : Nat) : Int) ≤ (v2 6) + 2147483648 ∧ (v2 6) + 2147483648 ≤ ((2147483655 : Nat) : Int) := xXb hBd 3 rfl
      have f0 : (0 : Int) ≤ 7 ∧ xE (zyEl zymc B H) 35 7 = (v2 4) := xXf hF 0 rfl
      have f1 : (v2 4) = 3 := xXf hF 1 rfl
      have f2 : (0 : Int) ≤ 8 ∧ xE (zyEl zymc B H) 35 8 = (v2 5) := xXf hF 2 rfl
      have f3 : 1 ≤ (v2 5) := xXf hF 3 rfl
      have f4 : (v2 5) ≤ 7 := xXf hF 4 rfl
      have f5 : -2147483648 ≤ (-1) * (v2 5) → (-1) * (v2 5) < 2147483648 → (v2 6) = (-1) * (v2 5) := xXf hF 5 rfl
      have f5 := f5 (by omega) (by omega)
      have e35_4 : xE (zyEl zymc B H2) 35 4 = xE (zyEl zymc B H) 35 4 := xFr_E hfr rfl
      have q35_4 : xE (zyEl zymc B H) 35 4 = xE (zyEl zymc B s.heap) 35 4 := xFr_E hFr0 rfl
      have e35_5 : xE (zyEl zymc B H2) 35 5 = xE (zyEl zymc B H) 35 5 := xFr_E hfr rfl
      have e35_6 : xE (zyEl zymc B H2) 35 6 = xE (zyEl zymc B H) 35 6 := xFr_E hfr rfl
      have e35_7 : xE (zyEl zymc B H2) 35 7 = xE (zyEl zymc B H) 35 7 := xFr_E hfr rfl
      have e35_8 : xE (zyEl zymc B H2) 35 8 = xE (zyEl zymc B H) 35 8 := xFr_E hfr rfl
      have e18_8 : xE (zyEl zymc B H2) 18 8 = xE (zyEl zymc B H) 18 8 := xFr_E hfr rfl
      have e33_1 : xE (zyEl zymc B H2) 33 1 = xE (zyEl zymc B H) 33 1 := xFr_E hfr rfl
      have e36 : ∀ i, xE (zyEl zymc B H2) 36 i = xE (zyEl zymc B H) 36 i := fun i => xFr_E hfr rfl
      have q36 : ∀ i, xE (zyEl zymc B H) 36 i = xE (zyEl zymc B s.heap) 36 i := fun i => xFr_E hFr0 rfl
      have e34 : ∀ i, xE (zyEl zymc B H2) 34 i = xE (zyEl zymc B H) 34 i := fun i => xFr_E hfr rfl
      have hI : (0 ≤ (v 2) ∧ (v 2) ≤ 60) ∧ xE (zyEl zymc B H) 18 8 = 1 ∧ xE (zyEl zymc B H) 33 1 = (v 2) ∧ ∃ q, q ≤ (xE (zyEl zymc B s.heap) 35 4) ∧ xAD (xE (zyEl zymc B s.heap) 36) (xE (zyEl zymc B s.heap) 35 4) q (zyEl zymc B H) ∧ ∀ S, xAb17 (zyEl zymc B s.heap) S → ∃ Si : Int → Int, pBind (pWs (xE (zyEl zymc B s.heap) 36) (xE (zyEl zymc B s.heap) 35 4) 60 (xE (zyEl zymc B s.heap) 35 6) (uS S 5 0)) (pSem (xE (zyEl zymc B s.heap) 36) (xE (zyEl zymc B s.heap) 35 4)) = pBind (pNum (xE (zyEl zymc B s.heap) 36) (xE (zyEl zymc B s.heap) 35 4) q 1 7 (fun x p2 => if (v 2) < 60 then pWs (xE (zyEl zymc B s.heap) 36) (xE (zyEl zymc B s.heap) 35 4) (60 - ((v 2) + 1)).toNat p2 (uS (uS Si (460 + Si 5) (-x)) 5 (Si 5 + 1)) else .error (6, tFr (xE (zyEl zymc B s.heap) 36) (xE (zyEl zymc B s.heap) 35 4) q))) (pSem (xE (zyEl zymc B s.heap) 36) (xE (zyEl zymc B s.heap) 35 4)) ∧ xAb17 (zyEl zymc B H) Si ∧ Si 5 = (v 2) := hInv
      obtain ⟨i1, i2, i3, q, i4, ⟨a1, a2, a3, a4⟩, i5⟩ := hI
      rw [show (v 2) = v2 2 by omega] at i5
      have hb := tNx_b (T := xE (zyEl zymc B s.heap) 36) (n := xE (zyEl zymc B s.heap) 35 4) (p := q) i4
      have hk : tKd (xE (zyEl zymc B s.heap) 36) (xE (zyEl zymc B s.heap) 35 4) q = 3 := by omega
      have hval := a4 hk
      refine xCa hRu hIH hAt hB hv hFr (hfwa17 B) (ix := 165) (ax := 1713) rfl rfl rfl hmefwa17 ⟨_, rfl, rfl, by decide⟩ ⟨rfl, rfl, rfl⟩ (by decide) [206158430209] [] [(v2 6)] rfl ⟨rfl, rfl⟩ (by decide +kernel) (xcs_c rfl xcs_n) (by decide +kernel) ?_ (fun H3 r hT3 hf3 hFr3 hr3 hΨ3 => ?_)
      · show xΦwa17 (xfv [(v2 6)]) (zyEl zymc B H2)
        exact ⟨by omega, by show -7 ≤ (v2 6); omega, by show (v2 6) ≤ 7; omega⟩
      · have hΨ3 : xΨwa17 (xfv [(v2 6)]) (zyEl zymc B H2) (zyEl zymc B H3) r := hΨ3
        have d35_4 : xE (zyEl zymc B H3) 35 4 = xE (zyEl zymc B H2) 35 4 := xFr_E hf3 rfl
        have d35_5 : xE (zyEl zymc B H3) 35 5 = xE (zyEl zymc B H2) 35 5 := xFr_E hf3 rfl
        have d35_6 : xE (zyEl zymc B H3) 35 6 = xE (zyEl zymc B H2) 35 6 := xFr_E hf3 rfl
        have d35_7 : xE (zyEl zymc B H3) 35 7 = xE (zyEl zymc B H2) 35 7 := xFr_E hf3 rfl
        have d35_8 : xE (zyEl zymc B H3) 35 8 = xE (zyEl zymc B H2) 35 8 := xFr_E hf3 rfl
        have d35_2 : xE (zyEl zymc B H3) 35 2 = xE (zyEl zymc B H2) 35 2 := xFr_E hf3 rfl
        have d35_3 : xE (zyEl zymc B H3) 35 3 = xE (zyEl zymc B H2) 35 3 := xFr_E hf3 rfl
        have d18_8 : xE (zyEl zymc B H3) 18 8 = xE (zyEl zymc B H2) 18 8 := xFr_E hf3 rfl
        have d36 : ∀ i, xE (zyEl zymc B H3) 36 i = xE (zyEl zymc B H2) 36 i := fun i => xFr_E hf3 rfl
        obtain ⟨w1, w2, w3⟩ := hΨ3
        have w2 : xE (zyEl zymc B H2) 33 1 < 60 → xE (zyEl zymc B H3) 34 (xE (zyEl zymc B H2) 33 1) = (v2 6) := w2
        have hs2 : xE (zyEl zymc B H2) 33 1 = v2 2 := by omega
        rw [hs2] at w1 w2 w3
        refine ⟨⟨5, by decide⟩, [0, 0, 68719476737, 0], [0, 0, (v2 2), 0], rfl, ⟨by decide +kernel, ⟨rfl, by decide +kernel⟩, (xcs_c rfl (xcs_c rfl (xcs_c rfl (xcs_c rfl xcs_n)))), (xe_0 (xe_0 (xe_c (by omega) (by omega) rfl (xe_0 xe_n)))), xkq_n⟩, (by rw [if_neg (by decide)]; exact xst_n), ?_, ?_⟩
        · show xE (zyEl zymc B H3) 35 6 ≤ (xE (zyEl zymc B s.heap) 35 4) ∧ xE (zyEl zymc B H3) 18 8 = 1 ∧ (0 ≤ ((v2 2) : Int) ∧ ((v2 2) : Int) ≤ 60) ∧ ((((v2 2) : Int) < 60 ∧ xE (zyEl zymc B H3) 33 1 = ((v2 2) : Int) + 1 ∧ ∀ S, xAb17 (zyEl zymc B s.heap) S → ∃ Si : Int → Int, pBind (pWs (xE (zyEl zymc B s.heap) 36) (xE (zyEl zymc B s.heap) 35 4) 60 (xE (zyEl zymc B s.heap) 35 6) (uS S 5 0)) (pSem (xE (zyEl zymc B s.heap) 36) (xE (zyEl zymc B s.heap) 35 4)) = pBind (pWs (xE (zyEl zymc B s.heap) 36) (xE (zyEl zymc B s.heap) 35 4) (60 - (((v2 2) : Int) + 1)).toNat (xE (zyEl zymc B H3) 35 6) Si) (pSem (xE (zyEl zymc B s.heap) 36) (xE (zyEl zymc B s.heap) 35 4)) ∧ xAb17 (zyEl zymc B H3) Si ∧ Si 5 = ((v2 2) : Int) + 1) ∨ (((v2 2) : Int) = 60 ∧ ∀ S, xAb17 (zyEl zymc B s.heap) S → pBind (pWs (xE (zyEl zymc B s.heap) 36) (xE (zyEl zymc B s.heap) 35 4) 60 (xE (zyEl zymc B s.heap) 35 6) (uS S 5 0)) (pSem (xE (zyEl zymc B s.heap) 36) (xE (zyEl zymc B s.heap) 35 4)) = .error (6, xE (zyEl zymc B H3) 35 5)))
          refine ⟨by omega, by omega, by omega, ?_⟩
          have hnum : ∀ K, pNum (xE (zyEl zymc B s.heap) 36) (xE (zyEl zymc B s.heap) 35 4) q 1 7 K = K (tNm (xE (zyEl zymc B s.heap) 36) (xE (zyEl zymc B s.heap) 35 4) q) (tNx (xE (zyEl zymc B s.heap) 36) (xE (zyEl zymc B s.heap) 35 4) q) := by
            intro K
            unfold pNum
            rw [if_pos hk, if_pos (by omega)]
          by_cases h60 : v2 2 < 60
          · refine Or.inl ⟨h60, by omega, fun S hS => ?_⟩
            obtain ⟨Si, u1, u2, u3⟩ := i5 S hS
            refine ⟨uS (uS Si (460 + Si 5) (-(tNm (xE (zyEl zymc B s.heap) 36) (xE (zyEl zymc B s.heap) 35 4) q))) 5 (Si 5 + 1), ?_, ?_, ?_⟩
            · rw [u1, hnum, if_pos h60, show xE (zyEl zymc B H3) 35 6 = tNx (xE (zyEl zymc B s.heap) 36) (xE (zyEl zymc B s.heap) 35 4) q by omega]
            · refine xAb17_wd (by omega) (by omega) ?_ ?_ (by omega) (xAb17_35 u2 (xFr_mono (by decide) hfr)) (xFr_mono (by decide) hf3)
              · rw [u3, w2 h60]
                omega
              · intro k k0 k1
                rw [u3] at k1
                exact w3 k k0 k1
            · rw [uS_e rfl, u3]
          · refine Or.inr ⟨by omega, fun S hS => ?_⟩
            obtain ⟨Si, u1, u2, u3⟩ := i5 S hS
            rw [u1, hnum, if_neg h60, show xE (zyEl zymc B H3) 35 5 = tFr (xE (zyEl zymc B s.heap) 36) (xE (zyEl zymc B s.heap) 35 4) q by omega]
            rfl
        · show 10 * (70 - ((v2 2) : Int)).toNat < 10 * (70 - (v 2)).toNat + 2
          omega
    · have hx : x ∈ [zxfrw17_fx0] := hx
      have hag : ∀ k, k < 4 → v2 k = v k := hag
      have hfr : xFr [] _ _ := hfr
      have ex := List.mem_singleton.mp hx
      subst ex
      obtain ⟨hF, hBd, hM⟩ := hXs
      have g2 : v2 2 = v 2 := hag 2 (by decide)
      have b0 : ((2147483648 : Nat) : Int) ≤ (v2 2) + 2147483648 ∧ (v2 2) + 2147483648 ≤ ((2147483708 : Nat) : Int) := xXb hBd 0 rfl
      have b1 : ((2147483649 : Nat) : Int) ≤ (v2 2 + 1) + 2147483648 ∧ (v2 2 + 1) + 2147483648 ≤ ((2147483709 : Nat) : Int) := xXb hBd 1 rfl
      have e35_4 : xE (zyEl zymc B H2) 35 4 = xE (zyEl zymc B H) 35 4 := xFr_E hfr rfl
      have q35_4 : xE (zyEl zymc B H) 35 4 = xE (zyEl zymc B s.heap) 35 4 := xFr_E hFr0 rfl
      have e35_5 : xE (zyEl zymc B H2) 35 5 = xE (zyEl zymc B H) 35 5 := xFr_E hfr rfl
      have e35_6 : xE (zyEl zymc B H2) 35 6 = xE (zyEl zymc B H) 35 6 := xFr_E hfr rfl
      have e35_7 : xE (zyEl zymc B H2) 35 7 = xE (zyEl zymc B H) 35 7 := xFr_E hfr rfl
      have e35_8 : xE (zyEl zymc B H2) 35 8 = xE (zyEl zymc B H) 35 8 := xFr_E hfr rfl
      have e35_2 : xE (zyEl zymc B H2) 35 2 = xE (zyEl zymc B H) 35 2 := xFr_E hfr rfl
      have e35_3 : xE (zyEl zymc B H2) 35 3 = xE (zyEl zymc B H) 35 3 := xFr_E hfr rfl
      have e18_8 : xE (zyEl zymc B H2) 18 8 = xE (zyEl zymc B H) 18 8 := xFr_E hfr rfl
      have e33_1 : xE (zyEl zymc B H2) 33 1 = xE (zyEl zymc B H) 33 1 := xFr_E hfr rfl
      have e36 : ∀ i, xE (zyEl zymc B H2) 36 i = xE (zyEl zymc B H) 36 i := fun i => xFr_E hfr rfl
      have q36 : ∀ i, xE (zyEl zymc B H) 36 i = xE (zyEl zymc B s.heap) 36 i := fun i => xFr_E hFr0 rfl
      have e34 : ∀ i, xE (zyEl zymc B H2) 34 i = xE (zyEl zymc B H) 34 i := fun i => xFr_E hfr rfl
      have hI : xE (zyEl zymc B H) 35 6 ≤ (xE (zyEl zymc B s.heap) 35 4) ∧ xE (zyEl zymc B H) 18 8 = 1 ∧ (0 ≤ (v 2) ∧ (v 2) ≤ 60) ∧ (((v 2) < 60 ∧ xE (zyEl zymc B H) 33 1 = (v 2) + 1 ∧ ∀ S, xAb17 (zyEl zymc B s.heap) S → ∃ Si : Int → Int, pBind (pWs (xE (zyEl zymc B s.heap) 36) (xE (zyEl zymc B s.heap) 35 4) 60 (xE (zyEl zymc B s.heap) 35 6) (uS S 5 0)) (pSem (xE (zyEl zymc B s.heap) 36) (xE (zyEl zymc B s.heap) 35 4)) = pBind (pWs (xE (zyEl zymc B s.heap) 36) (xE (zyEl zymc B s.heap) 35 4) (60 - ((v 2) + 1)).toNat (xE (zyEl zymc B H) 35 6) Si) (pSem (xE (zyEl zymc B s.heap) 36) (xE (zyEl zymc B s.heap) 35 4)) ∧ xAb17 (zyEl zymc B H) Si ∧ Si 5 = (v 2) + 1) ∨ ((v 2) = 60 ∧ ∀ S, xAb17 (zyEl zymc B s.heap) S → pBind (pWs (xE (zyEl zymc B s.heap) 36) (xE (zyEl zymc B s.heap) 35 4) 60 (xE (zyEl zymc B s.heap) 35 6) (uS S 5 0)) (pSem (xE (zyEl zymc B s.heap) 36) (xE (zyEl zymc B s.heap) 35 4)) = .error (6, xE (zyEl zymc B H) 35 5))) := hInv
      obtain ⟨i1, i2, i3, i4⟩ := hI
      rw [show (v 2) = v2 2 by omega] at i4
      refine xGo hIH hAt hB hv hFr ⟨1, by decide⟩ [0, 0, 68719476745, 0] [0, 0, (v2 2 + 1), 0] rfl ⟨by decide +kernel, ⟨rfl, by decide +kernel⟩, (xcs_c rfl (xcs_c rfl (xcs_c rfl (xcs_c rfl xcs_n)))), (xe_0 (xe_0 (xe_c (by omega) (by omega) rfl (xe_0 xe_n)))), xkq_n⟩ xst_n ?_ ?_
      · show xE (zyEl zymc B H2) 35 6 ≤ (xE (zyEl zymc B s.heap) 35 4) ∧ xE (zyEl zymc B H2) 18 8 = 1 ∧ ((0 ≤ ((v2 2 + 1) : Int) ∧ ((v2 2 + 1) : Int) ≤ 60 ∧ xE (zyEl zymc B H2) 33 1 = ((v2 2 + 1) : Int) ∧ ∀ S, xAb17 (zyEl zymc B s.heap) S → ∃ Si : Int → Int, pBind (pWs (xE (zyEl zymc B s.heap) 36) (xE (zyEl zymc B s.heap) 35 4) 60 (xE (zyEl zymc B s.heap) 35 6) (uS S 5 0)) (pSem (xE (zyEl zymc B s.heap) 36) (xE (zyEl zymc B s.heap) 35 4)) = pBind (pWs (xE (zyEl zymc B s.heap) 36) (xE (zyEl zymc B s.heap) 35 4) (60 - ((v2 2 + 1) : Int)).toNat (xE (zyEl zymc B H2) 35 6) Si) (pSem (xE (zyEl zymc B s.heap) 36) (xE (zyEl zymc B s.heap) 35 4)) ∧ xAb17 (zyEl zymc B H2) Si ∧ Si 5 = ((v2 2 + 1) : Int)) ∨ (((v2 2 + 1) : Int) = 61 ∧ ∀ S, xAb17 (zyEl zymc B s.heap) S → pBind (pWs (xE (zyEl zymc B s.heap) 36) (xE (zyEl zymc B s.heap) 35 4) 60 (xE (zyEl zymc B s.heap) 35 6) (uS S 5 0)) (pSem (xE (zyEl zymc B s.heap) 36) (xE (zyEl zymc B s.heap) 35 4)) = .error (6, xE (zyEl zymc B H2) 35 5)))
        refine ⟨by omega, by omega, ?_⟩
        rcases i4 with ⟨w1, w2, i4⟩ | ⟨w1, i4⟩
        · refine Or.inl ⟨by omega, by omega, by omega, fun S hS => ?_⟩
          obtain ⟨Si, u1, u2, u3⟩ := i4 S hS
          refine ⟨Si, ?_, xAb17_35 u2 (xFr_mono (by decide) hfr), by omega⟩
          rw [u1, show xE (zyEl zymc B H2) 35 6 = xE (zyEl zymc B H) 35 6 by omega]
        · refine Or.inr ⟨by omega, fun S hS => ?_⟩
          rw [i4 S hS, show xE (zyEl zymc B H2) 35 5 = xE (zyEl zymc B H) 35 5 by omega]
      · show 10 * (70 - ((v2 2 + 1) : Int)).toNat + 5 < 10 * (70 - (v 2)).toNat
        omega
  · intro x0 E0 E E2 hrx hT0 hΦ i v hT hrv hInv hKc hFr0 x hx v2 hr2 hXs hag hfr hFr hT2
    rcases i with ⟨i, hi⟩
    have hi2 : i = 0 ∨ i = 1 ∨ i = 2 ∨ i = 3 ∨ i = 4 ∨ i = 5 := by omega
    rcases hi2 with rfl | rfl | rfl | rfl | rfl | rfl
    · cases hx
    · have hx : x ∈ [zxfrw17_br0] := hx
      have hag : ∀ k, k < 4 → v2 k = v k := hag
      have hfr : xFr [(35, 2, 3)] _ _ := hfr
      have ex := List.mem_singleton.mp hx
      subst ex
      obtain ⟨hF, hBd, hM⟩ := hXs
      have g2 : v2 2 = v 2 := hag 2 (by decide)
      have b0 : ((2147483709 : Nat) : Int) ≤ (v2 2) + 2147483648 ∧ (v2 2) + 2147483648 ≤ ((2147483709 : Nat) : Int) := xXb hBd 0 rfl
      have b1 : ((2147483648 : Nat) : Int) ≤ (v2 4) + 2147483648 ∧ (v2 4) + 2147483648 ≤ ((2147484548 : Nat) : Int) := xXb hBd 1 rfl
      have f0 : 60 < (v2 2) := xXf hF 0 rfl
      have f1 : (0 : Int) ≤ 5 ∧ xE E 35 5 = (v2 4) := xXf hF 1 rfl
      have m0 : xE E2 35 2 = 6 := xXm hM 0 rfl
      have m1 : xE E2 35 3 = (v2 4) := xXm hM 1 rfl
      have e35_4 : xE E2 35 4 = xE E 35 4 := xFr_E hfr rfl
      have q35_4 : xE E 35 4 = xE E0 35 4 := xFr_E hFr0 rfl
      have e35_5 : xE E2 35 5 = xE E 35 5 := xFr_E hfr rfl
      have e35_6 : xE E2 35 6 = xE E 35 6 := xFr_E hfr rfl
      have e35_7 : xE E2 35 7 = xE E 35 7 := xFr_E hfr rfl
      have e35_8 : xE E2 35 8 = xE E 35 8 := xFr_E hfr rfl
      have e18_8 : xE E2 18 8 = xE E 18 8 := xFr_E hfr rfl
      have e33_1 : xE E2 33 1 = xE E 33 1 := xFr_E hfr rfl
      have e36 : ∀ i, xE E2 36 i = xE E 36 i := fun i => xFr_E hfr rfl
      have q36 : ∀ i, xE E 36 i = xE E0 36 i := fun i => xFr_E hFr0 rfl
      have e34 : ∀ i, xE E2 34 i = xE E 34 i := fun i => xFr_E hfr rfl
      have hI : xE E 35 6 ≤ (xE E0 35 4) ∧ xE E 18 8 = 1 ∧ ((0 ≤ (v 2) ∧ (v 2) ≤ 60 ∧ xE E 33 1 = (v 2) ∧ ∀ S, xAb17 E0 S → ∃ Si : Int → Int, pBind (pWs (xE E0 36) (xE E0 35 4) 60 (xE E0 35 6) (uS S 5 0)) (pSem (xE E0 36) (xE E0 35 4)) = pBind (pWs (xE E0 36) (xE E0 35 4) (60 - (v 2)).toNat (xE E 35 6) Si) (pSem (xE E0 36) (xE E0 35 4)) ∧ xAb17 E Si ∧ Si 5 = (v 2)) ∨ ((v 2) = 61 ∧ ∀ S, xAb17 E0 S → pBind (pWs (xE E0 36) (xE E0 35 4) 60 (xE E0 35 6) (uS S 5 0)) (pSem (xE E0 36) (xE E0 35 4)) = .error (6, xE E 35 5))) := hInv
      show xΨfrw17 x0 E0 E2 0
      obtain ⟨i1, i2, i3⟩ := hI
      rcases i3 with ⟨w, w2, -⟩ | ⟨-, i3⟩
      · omega
      intro S hS
      show xOut17 (pBind (pWs (xE E0 36) (xE E0 35 4) 60 (xE E0 35 6) (uS S 5 0)) (pSem (xE E0 36) (xE E0 35 4))) E2 0
      rw [i3 S hS]
      exact xOut17_f rfl (by omega) (by omega)
    · have hx : x ∈ [zxfrw17_cr0] := hx
      have hag : ∀ k, k < 4 → v2 k = v k := hag
      have hfr : xFr [] _ _ := hfr
      have ex := List.mem_singleton.mp hx
      subst ex
      obtain ⟨hF, hBd, hM⟩ := hXs
      have g2 : v2 2 = v 2 := hag 2 (by decide)
      have b0 : ((2147483653 : Nat) : Int) ≤ (v2 4) + 2147483648 ∧ (v2 4) + 2147483648 ≤ ((2147483653 : Nat) : Int) := xXb hBd 0 rfl
      have f0 : (0 : Int) ≤ 7 ∧ xE E 35 7 = (v2 4) := xXf hF 0 rfl
      have f1 : (v2 4) = 5 := xXf hF 1 rfl
      have e35_4 : xE E2 35 4 = xE E 35 4 := xFr_E hfr rfl
      have q35_4 : xE E 35 4 = xE E0 35 4 := xFr_E hFr0 rfl
      have e35_5 : xE E2 35 5 = xE E 35 5 := xFr_E hfr rfl
      have e35_6 : xE E2 35 6 = xE E 35 6 := xFr_E hfr rfl
      have e35_7 : xE E2 35 7 = xE E 35 7 := xFr_E hfr rfl
      have e35_8 : xE E2 35 8 = xE E 35 8 := xFr_E hfr rfl
      have e35_2 : xE E2 35 2 = xE E 35 2 := xFr_E hfr rfl
      have e35_3 : xE E2 35 3 = xE E 35 3 := xFr_E hfr rfl
      have e18_8 : xE E2 18 8 = xE E 18 8 := xFr_E hfr rfl
      have e33_1 : xE E2 33 1 = xE E 33 1 := xFr_E hfr rfl
      have e36 : ∀ i, xE E2 36 i = xE E 36 i := fun i => xFr_E hfr rfl
      have q36 : ∀ i, xE E 36 i = xE E0 36 i := fun i => xFr_E hFr0 rfl
      have e34 : ∀ i, xE E2 34 i = xE E 34 i := fun i => xFr_E hfr rfl
      have hI : (0 ≤ (v 2) ∧ (v 2) ≤ 60) ∧ xE E 18 8 = 1 ∧ xE E 33 1 = (v 2) ∧ ∃ p1, p1 ≤ (xE E0 35 4) ∧ xAD (xE E0 36) (xE E0 35 4) p1 E ∧ ∀ S, xAb17 E0 S → ∃ Si : Int → Int, pBind (pWs (xE E0 36) (xE E0 35 4) 60 (xE E0 35 6) (uS S 5 0)) (pSem (xE E0 36) (xE E0 35 4)) = pBind (pWs (xE E0 36) (xE E0 35 4) (60 - (v 2)).toNat p1 Si) (pSem (xE E0 36) (xE E0 35 4)) ∧ xAb17 E Si ∧ Si 5 = (v 2) := hInv
      show xΨfrw17 x0 E0 E2 1
      obtain ⟨i1, i2, i3, p1, i4, ⟨a1, a2, a3, a4⟩, i5⟩ := hI
      have hE2 := xFr_n hfr
      subst hE2
      intro S hS
      obtain ⟨Si, u1, u2, u3⟩ := i5 S hS
      show xOut17 (pBind (pWs (xE E0 36) (xE E0 35 4) 60 (xE E0 35 6) (uS S 5 0)) (pSem (xE E0 36) (xE E0 35 4))) E2 1
      rw [u1, pWs_e (by omega) (by omega)]
      show xOut17 (pSem (xE E0 36) (xE E0 35 4) p1 Si) E2 1
      unfold pSem
      rw [if_pos (by omega)]
      exact xOut17_k rfl (by omega) u2
    · have hx : x ∈ [zxfrw17_dr0, zxfrw17_dr1, zxfrw17_dr2, zxfrw17_dr3, zxfrw17_dr4, zxfrw17_dr5] := hx
      have hag : ∀ k, k < 4 → v2 k = v k := hag
      have hfr : xFr [(35, 2, 3)] _ _ := hfr
      rcases List.mem_cons.mp hx with ex | hx
      · subst ex
        obtain ⟨hF, hBd, hM⟩ := hXs
        have g2 : v2 2 = v 2 := hag 2 (by decide)
        have g3 : v2 3 = v 3 := hag 3 (by decide)
        have b0 : ((2147483652 : Nat) : Int) ≤ (v2 4) + 2147483648 ∧ (v2 4) + 2147483648 ≤ ((2147483653 : Nat) : Int) := xXb hBd 0 rfl
        have b1 : ((2147483648 : Nat) : Int) ≤ (v2 5) + 2147483648 ∧ (v2 5) + 2147483648 ≤ ((2147484548 : Nat) : Int) := xXb hBd 1 rfl
        have f0 : (0 : Int) ≤ 7 ∧ xE E 35 7 = (v2 4) := xXf hF 0 rfl
        have f1 : ¬ (v2 4) = 3 := xXf hF 1 rfl
        have f2 : ¬ (v2 4) = 1 := xXf hF 2 rfl
        have f3 : (0 : Int) ≤ 5 ∧ xE E 35 5 = (v2 5) := xXf hF 3 rfl
        have m0 : xE E2 35 2 = 2 := xXm hM 0 rfl
        have m1 : xE E2 35 3 = (v2 5) := xXm hM 1 rfl
        have e35_4 : xE E2 35 4 = xE E 35 4 := xFr_E hfr rfl
        have q35_4 : xE E 35 4 = xE E0 35 4 := xFr_E hFr0 rfl
        have e35_5 : xE E2 35 5 = xE E 35 5 := xFr_E hfr rfl
        have e35_6 : xE E2 35 6 = xE E 35 6 := xFr_E hfr rfl
        have e35_7 : xE E2 35 7 = xE E 35 7 := xFr_E hfr rfl
        have e35_8 : xE E2 35 8 = xE E 35 8 := xFr_E hfr rfl
        have e18_8 : xE E2 18 8 = xE E 18 8 := xFr_E hfr rfl
        have e33_1 : xE E2 33 1 = xE E 33 1 := xFr_E hfr rfl
        have e36 : ∀ i, xE E2 36 i = xE E 36 i := fun i => xFr_E hfr rfl
        have q36 : ∀ i, xE E 36 i = xE E0 36 i := fun i => xFr_E hFr0 rfl
        have e34 : ∀ i, xE E2 34 i = xE E 34 i := fun i => xFr_E hfr rfl
        have hI : (0 ≤ (v 2) ∧ (v 2) ≤ 60) ∧ xE E 18 8 = 1 ∧ xE E 33 1 = (v 2) ∧ ∃ q, q ≤ (xE E0 35 4) ∧ xAD (xE E0 36) (xE E0 35 4) q E ∧ ∀ S, xAb17 E0 S → ∃ Si : Int → Int, pBind (pWs (xE E0 36) (xE E0 35 4) 60 (xE E0 35 6) (uS S 5 0)) (pSem (xE E0 36) (xE E0 35 4)) = pBind (pNum (xE E0 36) (xE E0 35 4) q 1 7 (fun x p2 => if (v 2) < 60 then pWs (xE E0 36) (xE E0 35 4) (60 - ((v 2) + 1)).toNat p2 (uS (uS Si (460 + Si 5) x) 5 (Si 5 + 1)) else .error (6, tFr (xE E0 36) (xE E0 35 4) q))) (pSem (xE E0 36) (xE E0 35 4)) ∧ xAb17 E Si ∧ Si 5 = (v 2) := hInv
        show xΨfrw17 x0 E0 E2 0
        obtain ⟨i1, i2, i3, q, i4, ⟨a1, a2, a3, a4⟩, i5⟩ := hI
        have hm : pMis (xE E0 36) (xE E0 35 4) q = 2 := by unfold pMis; rw [if_neg (by omega)]
        intro S hS
        obtain ⟨Si, u1, u2, u3⟩ := i5 S hS
        show xOut17 (pBind (pWs (xE E0 36) (xE E0 35 4) 60 (xE E0 35 6) (uS S 5 0)) (pSem (xE E0 36) (xE E0 35 4))) E2 0
        rw [u1]
        unfold pNum
        rw [if_neg (by omega), hm]
        exact xOut17_e rfl (by omega) (by omega)
      · skip
        rcases List.mem_cons.mp hx with ex | hx
        · subst ex
          obtain ⟨hF, hBd, hM⟩ := hXs
          have g2 : v2 2 = v 2 := hag 2 (by decide)
          have g3 : v2 3 = v 3 := hag 3 (by decide)
          have b0 : ((2147483650 : Nat) : Int) ≤ (v2 4) + 2147483648 ∧ (v2 4) + 2147483648 ≤ ((2147483650 : Nat) : Int) := xXb hBd 0 rfl
          have b1 : ((2147483648 : Nat) : Int) ≤ (v2 5) + 2147483648 ∧ (v2 5) + 2147483648 ≤ ((2147484548 : Nat) : Int) := xXb hBd 1 rfl
          have f0 : (0 : Int) ≤ 7 ∧ xE E 35 7 = (v2 4) := xXf hF 0 rfl
          have f1 : ¬ (v2 4) = 3 := xXf hF 1 rfl
          have f2 : ¬ (v2 4) = 1 := xXf hF 2 rfl
          have f3 : (0 : Int) ≤ 5 ∧ xE E 35 5 = (v2 5) := xXf hF 3 rfl
          have m0 : xE E2 35 2 = 2 := xXm hM 0 rfl
          have m1 : xE E2 35 3 = (v2 5) := xXm hM 1 rfl
          have e35_4 : xE E2 35 4 = xE E 35 4 := xFr_E hfr rfl
          have q35_4 : xE E 35 4 = xE E0 35 4 := xFr_E hFr0 rfl
          have e35_5 : xE E2 35 5 = xE E 35 5 := xFr_E hfr rfl
          have e35_6 : xE E2 35 6 = xE E 35 6 := xFr_E hfr rfl
          have e35_7 : xE E2 35 7 = xE E 35 7 := xFr_E hfr rfl
          have e35_8 : xE E2 35 8 = xE E 35 8 := xFr_E hfr rfl
          have e18_8 : xE E2 18 8 = xE E 18 8 := xFr_E hfr rfl
          have e33_1 : xE E2 33 1 = xE E 33 1 := xFr_E hfr rfl
          have e36 : ∀ i, xE E2 36 i = xE E 36 i := fun i => xFr_E hfr rfl
          have q36 : ∀ i, xE E 36 i = xE E0 36 i := fun i => xFr_E hFr0 rfl
          have e34 : ∀ i, xE E2 34 i = xE E 34 i := fun i => xFr_E hfr rfl
          have hI : (0 ≤ (v 2) ∧ (v 2) ≤ 60) ∧ xE E 18 8 = 1 ∧ xE E 33 1 = (v 2) ∧ ∃ q, q ≤ (xE E0 35 4) ∧ xAD (xE E0 36) (xE E0 35 4) q E ∧ ∀ S, xAb17 E0 S → ∃ Si : Int → Int, pBind (pWs (xE E0 36) (xE E0 35 4) 60 (xE E0 35 6) (uS S 5 0)) (pSem (xE E0 36) (xE E0 35 4)) = pBind (pNum (xE E0 36) (xE E0 35 4) q 1 7 (fun x p2 => if (v 2) < 60 then pWs (xE E0 36) (xE E0 35 4) (60 - ((v 2) + 1)).toNat p2 (uS (uS Si (460 + Si 5) x) 5 (Si 5 + 1)) else .error (6, tFr (xE E0 36) (xE E0 35 4) q))) (pSem (xE E0 36) (xE E0 35 4)) ∧ xAb17 E Si ∧ Si 5 = (v 2) := hInv
          show xΨfrw17 x0 E0 E2 0
          obtain ⟨i1, i2, i3, q, i4, ⟨a1, a2, a3, a4⟩, i5⟩ := hI
          have hm : pMis (xE E0 36) (xE E0 35 4) q = 2 := by unfold pMis; rw [if_neg (by omega)]
          intro S hS
          obtain ⟨Si, u1, u2, u3⟩ := i5 S hS
          show xOut17 (pBind (pWs (xE E0 36) (xE E0 35 4) 60 (xE E0 35 6) (uS S 5 0)) (pSem (xE E0 36) (xE E0 35 4))) E2 0
          rw [u1]
          unfold pNum
          rw [if_neg (by omega), hm]
          exact xOut17_e rfl (by omega) (by omega)
        · skip
          rcases List.mem_cons.mp hx with ex | hx
          · subst ex
            obtain ⟨hF, hBd, hM⟩ := hXs
            have g2 : v2 2 = v 2 := hag 2 (by decide)
            have g3 : v2 3 = v 3 := hag 3 (by decide)
            have b0 : ((2147483648 : Nat) : Int) ≤ (v2 4) + 2147483648 ∧ (v2 4) + 2147483648 ≤ ((2147483648 : Nat) : Int) := xXb hBd 0 rfl
            have b1 : ((2147483648 : Nat) : Int) ≤ (v2 5) + 2147483648 ∧ (v2 5) + 2147483648 ≤ ((2147484548 : Nat) : Int) := xXb hBd 1 rfl
            have f0 : (0 : Int) ≤ 7 ∧ xE E 35 7 = (v2 4) := xXf hF 0 rfl
            have f1 : ¬ (v2 4) = 3 := xXf hF 1 rfl
            have f2 : ¬ (v2 4) = 1 := xXf hF 2 rfl
            have f3 : (0 : Int) ≤ 5 ∧ xE E 35 5 = (v2 5) := xXf hF 3 rfl
            have m0 : xE E2 35 2 = 2 := xXm hM 0 rfl
            have m1 : xE E2 35 3 = (v2 5) := xXm hM 1 rfl
            have e35_4 : xE E2 35 4 = xE E 35 4 := xFr_E hfr rfl
            have q35_4 : xE E 35 4 = xE E0 35 4 := xFr_E hFr0 rfl
            have e35_5 : xE E2 35 5 = xE E 35 5 := xFr_E hfr rfl
            have e35_6 : xE E2 35 6 = xE E 35 6 := xFr_E hfr rfl
            have e35_7 : xE E2 35 7 = xE E 35 7 := xFr_E hfr rfl
            have e35_8 : xE E2 35 8 = xE E 35 8 := xFr_E hfr rfl
            have e18_8 : xE E2 18 8 = xE E 18 8 := xFr_E hfr rfl
            have e33_1 : xE E2 33 1 = xE E 33 1 := xFr_E hfr rfl
            have e36 : ∀ i, xE E2 36 i = xE E 36 i := fun i => xFr_E hfr rfl
            have q36 : ∀ i, xE E 36 i = xE E0 36 i := fun i => xFr_E hFr0 rfl
            have e34 : ∀ i, xE E2 34 i = xE E 34 i := fun i => xFr_E hfr rfl
            have hI : (0 ≤ (v 2) ∧ (v 2) ≤ 60) ∧ xE E 18 8 = 1 ∧ xE E 33 1 = (v 2) ∧ ∃ q, q ≤ (xE E0 35 4) ∧ xAD (xE E0 36) (xE E0 35 4) q E ∧ ∀ S, xAb17 E0 S → ∃ Si : Int → Int, pBind (pWs (xE E0 36) (xE E0 35 4) 60 (xE E0 35 6) (uS S 5 0)) (pSem (xE E0 36) (xE E0 35 4)) = pBind (pNum (xE E0 36) (xE E0 35 4) q 1 7 (fun x p2 => if (v 2) < 60 then pWs (xE E0 36) (xE E0 35 4) (60 - ((v 2) + 1)).toNat p2 (uS (uS Si (460 + Si 5) x) 5 (Si 5 + 1)) else .error (6, tFr (xE E0 36) (xE E0 35 4) q))) (pSem (xE E0 36) (xE E0 35 4)) ∧ xAb17 E Si ∧ Si 5 = (v 2) := hInv
            show xΨfrw17 x0 E0 E2 0
            obtain ⟨i1, i2, i3, q, i4, ⟨a1, a2, a3, a4⟩, i5⟩ := hI
            have hm : pMis (xE E0 36) (xE E0 35 4) q = 2 := by unfold pMis; rw [if_neg (by omega)]
            intro S hS
            obtain ⟨Si, u1, u2, u3⟩ := i5 S hS
            show xOut17 (pBind (pWs (xE E0 36) (xE E0 35 4) 60 (xE E0 35 6) (uS S 5 0)) (pSem (xE E0 36) (xE E0 35 4))) E2 0
            rw [u1]
            unfold pNum
            rw [if_neg (by omega), hm]
            exact xOut17_e rfl (by omega) (by omega)
          · skip
            rcases List.mem_cons.mp hx with ex | hx
            · subst ex
              obtain ⟨hF, hBd, hM⟩ := hXs
              have g2 : v2 2 = v 2 := hag 2 (by decide)
              have g3 : v2 3 = v 3 := hag 3 (by decide)
              have b0 : ((2147483649 : Nat) : Int) ≤ (v2 4) + 2147483648 ∧ (v2 4) + 2147483648 ≤ ((2147483649 : Nat) : Int) := xXb hBd 0 rfl
              have b1 : ((2147483648 : Nat) : Int) ≤ (v2 5) + 2147483648 ∧ (v2 5) + 2147483648 ≤ ((2147484548 : Nat) : Int) := xXb hBd 1 rfl
              have f0 : (0 : Int) ≤ 7 ∧ xE E 35 7 = (v2 4) := xXf hF 0 rfl
              have f1 : ¬ (v2 4) = 3 := xXf hF 1 rfl
              have f2 : (v2 4) = 1 := xXf hF 2 rfl
              have f3 : (0 : Int) ≤ 5 ∧ xE E 35 5 = (v2 5) := xXf hF 3 rfl
              have m0 : xE E2 35 2 = 1 := xXm hM 0 rfl
              have m1 : xE E2 35 3 = (v2 5) := xXm hM 1 rfl
              have e35_4 : xE E2 35 4 = xE E 35 4 := xFr_E hfr rfl
              have q35_4 : xE E 35 4 = xE E0 35 4 := xFr_E hFr0 rfl
              have e35_5 : xE E2 35 5 = xE E 35 5 := xFr_E hfr rfl
              have e35_6 : xE E2 35 6 = xE E 35 6 := xFr_E hfr rfl
              have e35_7 : xE E2 35 7 = xE E 35 7 := xFr_E hfr rfl
              have e35_8 : xE E2 35 8 = xE E 35 8 := xFr_E hfr rfl
              have e18_8 : xE E2 18 8 = xE E 18 8 := xFr_E hfr rfl
              have e33_1 : xE E2 33 1 = xE E 33 1 := xFr_E hfr rfl
              have e36 : ∀ i, xE E2 36 i = xE E 36 i := fun i => xFr_E hfr rfl
              have q36 : ∀ i, xE E 36 i = xE E0 36 i := fun i => xFr_E hFr0 rfl
              have e34 : ∀ i, xE E2 34 i = xE E 34 i := fun i => xFr_E hfr rfl
              have hI : (0 ≤ (v 2) ∧ (v 2) ≤ 60) ∧ xE E 18 8 = 1 ∧ xE E 33 1 = (v 2) ∧ ∃ q, q ≤ (xE E0 35 4) ∧ xAD (xE E0 36) (xE E0 35 4) q E ∧ ∀ S, xAb17 E0 S → ∃ Si : Int → Int, pBind (pWs (xE E0 36) (xE E0 35 4) 60 (xE E0 35 6) (uS S 5 0)) (pSem (xE E0 36) (xE E0 35 4)) = pBind (pNum (xE E0 36) (xE E0 35 4) q 1 7 (fun x p2 => if (v 2) < 60 then pWs (xE E0 36) (xE E0 35 4) (60 - ((v 2) + 1)).toNat p2 (uS (uS Si (460 + Si 5) x) 5 (Si 5 + 1)) else .error (6, tFr (xE E0 36) (xE E0 35 4) q))) (pSem (xE E0 36) (xE E0 35 4)) ∧ xAb17 E Si ∧ Si 5 = (v 2) := hInv
              show xΨfrw17 x0 E0 E2 0
              obtain ⟨i1, i2, i3, q, i4, ⟨a1, a2, a3, a4⟩, i5⟩ := hI
              have hm : pMis (xE E0 36) (xE E0 35 4) q = 1 := by unfold pMis; rw [if_pos (by omega)]
              intro S hS
              obtain ⟨Si, u1, u2, u3⟩ := i5 S hS
              show xOut17 (pBind (pWs (xE E0 36) (xE E0 35 4) 60 (xE E0 35 6) (uS S 5 0)) (pSem (xE E0 36) (xE E0 35 4))) E2 0
              rw [u1]
              unfold pNum
              rw [if_neg (by omega), hm]
              exact xOut17_e rfl (by omega) (by omega)
            · skip
              rcases List.mem_cons.mp hx with ex | hx
              · subst ex
                obtain ⟨hF, hBd, hM⟩ := hXs
                have g2 : v2 2 = v 2 := hag 2 (by decide)
                have g3 : v2 3 = v 3 := hag 3 (by decide)
                have b0 : ((2147483651 : Nat) : Int) ≤ (v2 4) + 2147483648 ∧ (v2 4) + 2147483648 ≤ ((2147483651 : Nat) : Int) := xXb hBd 0 rfl
                have b1 : ((0 : Nat) : Int) ≤ (v2 5) + 2147483648 ∧ (v2 5) + 2147483648 ≤ ((2147483648 : Nat) : Int) := xXb hBd 1 rfl
                have b2 : ((2147483648 : Nat) : Int) ≤ (v2 6) + 2147483648 ∧ (v2 6) + 2147483648 ≤ ((2147484548 : Nat) : Int) := xXb hBd 2 rfl
                have f0 : (0 : Int) ≤ 7 ∧ xE E 35 7 = (v2 4) := xXf hF 0 rfl
                have f1 : (v2 4) = 3 := xXf hF 1 rfl
                have f2 : (0 : Int) ≤ 8 ∧ xE E 35 8 = (v2 5) := xXf hF 2 rfl
                have f3 : (v2 5) < 1 := xXf hF 3 rfl
                have f4 : (0 : Int) ≤ 5 ∧ xE E 35 5 = (v2 6) := xXf hF 4 rfl
                have m0 : xE E2 35 2 = 3 := xXm hM 0 rfl
                have m1 : xE E2 35 3 = (v2 6) := xXm hM 1 rfl
                have e35_4 : xE E2 35 4 = xE E 35 4 := xFr_E hfr rfl
                have q35_4 : xE E 35 4 = xE E0 35 4 := xFr_E hFr0 rfl
                have e35_5 : xE E2 35 5 = xE E 35 5 := xFr_E hfr rfl
                have e35_6 : xE E2 35 6 = xE E 35 6 := xFr_E hfr rfl
                have e35_7 : xE E2 35 7 = xE E 35 7 := xFr_E hfr rfl
                have e35_8 : xE E2 35 8 = xE E 35 8 := xFr_E hfr rfl
                have e18_8 : xE E2 18 8 = xE E 18 8 := xFr_E hfr rfl
                have e33_1 : xE E2 33 1 = xE E 33 1 := xFr_E hfr rfl
                have e36 : ∀ i, xE E2 36 i = xE E 36 i := fun i => xFr_E hfr rfl
                have q36 : ∀ i, xE E 36 i = xE E0 36 i := fun i => xFr_E hFr0 rfl
                have e34 : ∀ i, xE E2 34 i = xE E 34 i := fun i => xFr_E hfr rfl
                have hI : (0 ≤ (v 2) ∧ (v 2) ≤ 60) ∧ xE E 18 8 = 1 ∧ xE E 33 1 = (v 2) ∧ ∃ q, q ≤ (xE E0 35 4) ∧ xAD (xE E0 36) (xE E0 35 4) q E ∧ ∀ S, xAb17 E0 S → ∃ Si : Int → Int, pBind (pWs (xE E0 36) (xE E0 35 4) 60 (xE E0 35 6) (uS S 5 0)) (pSem (xE E0 36) (xE E0 35 4)) = pBind (pNum (xE E0 36) (xE E0 35 4) q 1 7 (fun x p2 => if (v 2) < 60 then pWs (xE E0 36) (xE E0 35 4) (60 - ((v 2) + 1)).toNat p2 (uS (uS Si (460 + Si 5) x) 5 (Si 5 + 1)) else .error (6, tFr (xE E0 36) (xE E0 35 4) q))) (pSem (xE E0 36) (xE E0 35 4)) ∧ xAb17 E Si ∧ Si 5 = (v 2) := hInv
                show xΨfrw17 x0 E0 E2 0
                obtain ⟨i1, i2, i3, q, i4, ⟨a1, a2, a3, a4⟩, i5⟩ := hI
                have hk : tKd (xE E0 36) (xE E0 35 4) q = 3 := by omega
                have hval := a4 hk
                intro S hS
                obtain ⟨Si, u1, u2, u3⟩ := i5 S hS
                show xOut17 (pBind (pWs (xE E0 36) (xE E0 35 4) 60 (xE E0 35 6) (uS S 5 0)) (pSem (xE E0 36) (xE E0 35 4))) E2 0
                rw [u1]
                unfold pNum
                rw [if_pos hk, if_neg (by omega)]
                exact xOut17_e rfl (by omega) (by omega)
              · skip
                have ex := List.mem_singleton.mp hx
                subst ex
                obtain ⟨hF, hBd, hM⟩ := hXs
                have g2 : v2 2 = v 2 := hag 2 (by decide)
                have g3 : v2 3 = v 3 := hag 3 (by decide)
                have b0 : ((2147483651 : Nat) : Int) ≤ (v2 4) + 2147483648 ∧ (v2 4) + 2147483648 ≤ ((2147483651 : Nat) : Int) := xXb hBd 0 rfl
                have b1 : ((2147483656 : Nat) : Int) ≤ (v2 5) + 2147483648 ∧ (v2 5) + 2147483648 ≤ ((4294967295 : Nat) : Int) := xXb hBd 1 rfl
                have b2 : ((2147483648 : Nat) : Int) ≤ (v2 6) + 2147483648 ∧ (v2 6) + 2147483648 ≤ ((2147484548 : Nat) : Int) := xXb hBd 2 rfl
                have f0 : (0 : Int) ≤ 7 ∧ xE E 35 7 = (v2 4) := xXf hF 0 rfl
                have f1 : (v2 4) = 3 := xXf hF 1 rfl
                have f2 : (0 : Int) ≤ 8 ∧ xE E 35 8 = (v2 5) := xXf hF 2 rfl
                have f3 : 1 ≤ (v2 5) := xXf hF 3 rfl
                have f4 : 7 < (v2 5) := xXf hF 4 rfl
                have f5 : (0 : Int) ≤ 5 ∧ xE E 35 5 = (v2 6) := xXf hF 5 rfl
                have m0 : xE E2 35 2 = 3 := xXm hM 0 rfl
                have m1 : xE E2 35 3 = (v2 6) := xXm hM 1 rfl
                have e35_4 : xE E2 35 4 = xE E 35 4 := xFr_E hfr rfl
                have q35_4 : xE E 35 4 = xE E0 35 4 := xFr_E hFr0 rfl
                have e35_5 : xE E2 35 5 = xE E 35 5 := xFr_E hfr rfl
                have e35_6 : xE E2 35 6 = xE E 35 6 := xFr_E hfr rfl
                have e35_7 : xE E2 35 7 = xE E 35 7 := xFr_E hfr rfl
                have e35_8 : xE E2 35 8 = xE E 35 8 := xFr_E hfr rfl
                have e18_8 : xE E2 18 8 = xE E 18 8 := xFr_E hfr rfl
                have e33_1 : xE E2 33 1 = xE E 33 1 := xFr_E hfr rfl
                have e36 : ∀ i, xE E2 36 i = xE E 36 i := fun i => xFr_E hfr rfl
                have q36 : ∀ i, xE E 36 i = xE E0 36 i := fun i => xFr_E hFr0 rfl
                have e34 : ∀ i, xE E2 34 i = xE E 34 i := fun i => xFr_E hfr rfl
                have hI : (0 ≤ (v 2) ∧ (v 2) ≤ 60) ∧ xE E 18 8 = 1 ∧ xE E 33 1 = (v 2) ∧ ∃ q, q ≤ (xE E0 35 4) ∧ xAD (xE E0 36) (xE E0 35 4) q E ∧ ∀ S, xAb17 E0 S → ∃ Si : Int → Int, pBind (pWs (xE E0 36) (xE E0 35 4) 60 (xE E0 35 6) (uS S 5 0)) (pSem (xE E0 36) (xE E0 35 4)) = pBind (pNum (xE E0 36) (xE E0 35 4) q 1 7 (fun x p2 => if (v 2) < 60 then pWs (xE E0 36) (xE E0 35 4) (60 - ((v 2) + 1)).toNat p2 (uS (uS Si (460 + Si 5) x) 5 (Si 5 + 1)) else .error (6, tFr (xE E0 36) (xE E0 35 4) q))) (pSem (xE E0 36) (xE E0 35 4)) ∧ xAb17 E Si ∧ Si 5 = (v 2) := hInv
                show xΨfrw17 x0 E0 E2 0
                obtain ⟨i1, i2, i3, q, i4, ⟨a1, a2, a3, a4⟩, i5⟩ := hI
                have hk : tKd (xE E0 36) (xE E0 35 4) q = 3 := by omega
                have hval := a4 hk
                intro S hS
                obtain ⟨Si, u1, u2, u3⟩ := i5 S hS
                show xOut17 (pBind (pWs (xE E0 36) (xE E0 35 4) 60 (xE E0 35 6) (uS S 5 0)) (pSem (xE E0 36) (xE E0 35 4))) E2 0
                rw [u1]
                unfold pNum
                rw [if_pos hk, if_neg (by omega)]
                exact xOut17_e rfl (by omega) (by omega)
    · have hx : x ∈ [zxfrw17_er0, zxfrw17_er1, zxfrw17_er2, zxfrw17_er3, zxfrw17_er4, zxfrw17_er5] := hx
      have hag : ∀ k, k < 4 → v2 k = v k := hag
      have hfr : xFr [(35, 2, 3)] _ _ := hfr
      rcases List.mem_cons.mp hx with ex | hx
      · subst ex
        obtain ⟨hF, hBd, hM⟩ := hXs
        have g2 : v2 2 = v 2 := hag 2 (by decide)
        have g3 : v2 3 = v 3 := hag 3 (by decide)
        have b0 : ((2147483652 : Nat) : Int) ≤ (v2 4) + 2147483648 ∧ (v2 4) + 2147483648 ≤ ((2147483653 : Nat) : Int) := xXb hBd 0 rfl
        have b1 : ((2147483648 : Nat) : Int) ≤ (v2 5) + 2147483648 ∧ (v2 5) + 2147483648 ≤ ((2147484548 : Nat) : Int) := xXb hBd 1 rfl
        have f0 : (0 : Int) ≤ 7 ∧ xE E 35 7 = (v2 4) := xXf hF 0 rfl
        have f1 : ¬ (v2 4) = 3 := xXf hF 1 rfl
        have f2 : ¬ (v2 4) = 1 := xXf hF 2 rfl
        have f3 : (0 : Int) ≤ 5 ∧ xE E 35 5 = (v2 5) := xXf hF 3 rfl
        have m0 : xE E2 35 2 = 2 := xXm hM 0 rfl
        have m1 : xE E2 35 3 = (v2 5) := xXm hM 1 rfl
        have e35_4 : xE E2 35 4 = xE E 35 4 := xFr_E hfr rfl
        have q35_4 : xE E 35 4 = xE E0 35 4 := xFr_E hFr0 rfl
        have e35_5 : xE E2 35 5 = xE E 35 5 := xFr_E hfr rfl
        have e35_6 : xE E2 35 6 = xE E 35 6 := xFr_E hfr rfl
        have e35_7 : xE E2 35 7 = xE E 35 7 := xFr_E hfr rfl
        have e35_8 : xE E2 35 8 = xE E 35 8 := xFr_E hfr rfl
        have e18_8 : xE E2 18 8 = xE E 18 8 := xFr_E hfr rfl
        have e33_1 : xE E2 33 1 = xE E 33 1 := xFr_E hfr rfl
        have e36 : ∀ i, xE E2 36 i = xE E 36 i := fun i => xFr_E hfr rfl
        have q36 : ∀ i, xE E 36 i = xE E0 36 i := fun i => xFr_E hFr0 rfl
        have e34 : ∀ i, xE E2 34 i = xE E 34 i := fun i => xFr_E hfr rfl
        have hI : (0 ≤ (v 2) ∧ (v 2) ≤ 60) ∧ xE E 18 8 = 1 ∧ xE E 33 1 = (v 2) ∧ ∃ q, q ≤ (xE E0 35 4) ∧ xAD (xE E0 36) (xE E0 35 4) q E ∧ ∀ S, xAb17 E0 S → ∃ Si : Int → Int, pBind (pWs (xE E0 36) (xE E0 35 4) 60 (xE E0 35 6) (uS S 5 0)) (pSem (xE E0 36) (xE E0 35 4)) = pBind (pNum (xE E0 36) (xE E0 35 4) q 1 7 (fun x p2 => if (v 2) < 60 then pWs (xE E0 36) (xE E0 35 4) (60 - ((v 2) + 1)).toNat p2 (uS (uS Si (460 + Si 5) (-x)) 5 (Si 5 + 1)) else .error (6, tFr (xE E0 36) (xE E0 35 4) q))) (pSem (xE E0 36) (xE E0 35 4)) ∧ xAb17 E Si ∧ Si 5 = (v 2) := hInv
        show xΨfrw17 x0 E0 E2 0
        obtain ⟨i1, i2, i3, q, i4, ⟨a1, a2, a3, a4⟩, i5⟩ := hI
        have hm : pMis (xE E0 36) (xE E0 35 4) q = 2 := by unfold pMis; rw [if_neg (by omega)]
        intro S hS
        obtain ⟨Si, u1, u2, u3⟩ := i5 S hS
        show xOut17 (pBind (pWs (xE E0 36) (xE E0 35 4) 60 (xE E0 35 6) (uS S 5 0)) (pSem (xE E0 36) (xE E0 35 4))) E2 0
        rw [u1]
        unfold pNum
        rw [if_neg (by omega), hm]
        exact xOut17_e rfl (by omega) (by omega)
      · skip
        rcases List.mem_cons.mp hx with ex | hx
        · subst ex
          obtain ⟨hF, hBd, hM⟩ := hXs
          have g2 : v2 2 = v 2 := hag 2 (by decide)
          have g3 : v2 3 = v 3 := hag 3 (by decide)
          have b0 : ((2147483650 : Nat) : Int) ≤ (v2 4) + 2147483648 ∧ (v2 4) + 2147483648 ≤ ((2147483650 : Nat) : Int) := xXb hBd 0 rfl
          have b1 : ((2147483648 : Nat) : Int) ≤ (v2 5) + 2147483648 ∧ (v2 5) + 2147483648 ≤ ((2147484548 : Nat) : Int) := xXb hBd 1 rfl
          have f0 : (0 : Int) ≤ 7 ∧ xE E 35 7 = (v2 4) := xXf hF 0 rfl
          have f1 : ¬ (v2 4) = 3 := xXf hF 1 rfl
          have f2 : ¬ (v2 4) = 1 := xXf hF 2 rfl
          have f3 : (0 : Int) ≤ 5 ∧ xE E 35 5 = (v2 5) := xXf hF 3 rfl
          have m0 : xE E2 35 2 = 2 := xXm hM 0 rfl
          have m1 : xE E2 35 3 = (v2 5) := xXm hM 1 rfl
          have e35_4 : xE E2 35 4 = xE E 35 4 := xFr_E hfr rfl
          have q35_4 : xE E 35 4 = xE E0 35 4 := xFr_E hFr0 rfl
          have e35_5 : xE E2 35 5 = xE E 35 5 := xFr_E hfr rfl
          have e35_6 : xE E2 35 6 = xE E 35 6 := xFr_E hfr rfl
          have e35_7 : xE E2 35 7 = xE E 35 7 := xFr_E hfr rfl
          have e35_8 : xE E2 35 8 = xE E 35 8 := xFr_E hfr rfl
          have e18_8 : xE E2 18 8 = xE E 18 8 := xFr_E hfr rfl
          have e33_1 : xE E2 33 1 = xE E 33 1 := xFr_E hfr rfl
          have e36 : ∀ i, xE E2 36 i = xE E 36 i := fun i => xFr_E hfr rfl
          have q36 : ∀ i, xE E 36 i = xE E0 36 i := fun i => xFr_E hFr0 rfl
          have e34 : ∀ i, xE E2 34 i = xE E 34 i := fun i => xFr_E hfr rfl
          have hI : (0 ≤ (v 2) ∧ (v 2) ≤ 60) ∧ xE E 18 8 = 1 ∧ xE E 33 1 = (v 2) ∧ ∃ q, q ≤ (xE E0 35 4) ∧ xAD (xE E0 36) (xE E0 35 4) q E ∧ ∀ S, xAb17 E0 S → ∃ Si : Int → Int, pBind (pWs (xE E0 36) (xE E0 35 4) 60 (xE E0 35 6) (uS S 5 0)) (pSem (xE E0 36) (xE E0 35 4)) = pBind (pNum (xE E0 36) (xE E0 35 4) q 1 7 (fun x p2 => if (v 2) < 60 then pWs (xE E0 36) (xE E0 35 4) (60 - ((v 2) + 1)).toNat p2 (uS (uS Si (460 + Si 5) (-x)) 5 (Si 5 + 1)) else .error (6, tFr (xE E0 36) (xE E0 35 4) q))) (pSem (xE E0 36) (xE E0 35 4)) ∧ xAb17 E Si ∧ Si 5 = (v 2) := hInv
          show xΨfrw17 x0 E0 E2 0
          obtain ⟨i1, i2, i3, q, i4, ⟨a1, a2, a3, a4⟩, i5⟩ := hI
          have hm : pMis (xE E0 36) (xE E0 35 4) q = 2 := by unfold pMis; rw [if_neg (by omega)]
          intro S hS
          obtain ⟨Si, u1, u2, u3⟩ := i5 S hS
          show xOut17 (pBind (pWs (xE E0 36) (xE E0 35 4) 60 (xE E0 35 6) (uS S 5 0)) (pSem (xE E0 36) (xE E0 35 4))) E2 0
          rw [u1]
          unfold pNum
          rw [if_neg (by omega), hm]
          exact xOut17_e rfl (by omega) (by omega)
        · skip
          rcases List.mem_cons.mp hx with ex | hx
          · subst ex
            obtain ⟨hF, hBd, hM⟩ := hXs
            have g2 : v2 2 = v 2 := hag 2 (by decide)
            have g3 : v2 3 = v 3 := hag 3 (by decide)
            have b0 : ((2147483648 : Nat) : Int) ≤ (v2 4) + 2147483648 ∧ (v2 4) + 2147483648 ≤ ((2147483648 : Nat) : Int) := xXb hBd 0 rfl
            have b1 : ((2147483648 : Nat) : Int) ≤ (v2 5) + 2147483648 ∧ (v2 5) + 2147483648 ≤ ((2147484548 : Nat) : Int) := xXb hBd 1 rfl
            have f0 : (0 : Int) ≤ 7 ∧ xE E 35 7 = (v2 4) := xXf hF 0 rfl
            have f1 : ¬ (v2 4) = 3 := xXf hF 1 rfl
            have f2 : ¬ (v2 4) = 1 := xXf hF 2 rfl
            have f3 : (0 : Int) ≤ 5 ∧ xE E 35 5 = (v2 5) := xXf hF 3 rfl
            have m0 : xE E2 35 2 = 2 := xXm hM 0 rfl
            have m1 : xE E2 35 3 = (v2 5) := xXm hM 1 rfl
            have e35_4 : xE E2 35 4 = xE E 35 4 := xFr_E hfr rfl
            have q35_4 : xE E 35 4 = xE E0 35 4 := xFr_E hFr0 rfl
            have e35_5 : xE E2 35 5 = xE E 35 5 := xFr_E hfr rfl
            have e35_6 : xE E2 35 6 = xE E 35 6 := xFr_E hfr rfl
            have e35_7 : xE E2 35 7 = xE E 35 7 := xFr_E hfr rfl
            have e35_8 : xE E2 35 8 = xE E 35 8 := xFr_E hfr rfl
            have e18_8 : xE E2 18 8 = xE E 18 8 := xFr_E hfr rfl
            have e33_1 : xE E2 33 1 = xE E 33 1 := xFr_E hfr rfl
            have e36 : ∀ i, xE E2 36 i = xE E 36 i := fun i => xFr_E hfr rfl
            have q36 : ∀ i, xE E 36 i = xE E0 36 i := fun i => xFr_E hFr0 rfl
            have e34 : ∀ i, xE E2 34 i = xE E 34 i := fun i => xFr_E hfr rfl
            have hI : (0 ≤ (v 2) ∧ (v 2) ≤ 60) ∧ xE E 18 8 = 1 ∧ xE E 33 1 = (v 2) ∧ ∃ q, q ≤ (xE E0 35 4) ∧ xAD (xE E0 36) (xE E0 35 4) q E ∧ ∀ S, xAb17 E0 S → ∃ Si : Int → Int, pBind (pWs (xE E0 36) (xE E0 35 4) 60 (xE E0 35 6) (uS S 5 0)) (pSem (xE E0 36) (xE E0 35 4)) = pBind (pNum (xE E0 36) (xE E0 35 4) q 1 7 (fun x p2 => if (v 2) < 60 then pWs (xE E0 36) (xE E0 35 4) (60 - ((v 2) + 1)).toNat p2 (uS (uS Si (460 + Si 5) (-x)) 5 (Si 5 + 1)) else .error (6, tFr (xE E0 36) (xE E0 35 4) q))) (pSem (xE E0 36) (xE E0 35 4)) ∧ xAb17 E Si ∧ Si 5 = (v 2) := hInv
            show xΨfrw17 x0 E0 E2 0
            obtain ⟨i1, i2, i3, q, i4, ⟨a1, a2, a3, a4⟩, i5⟩ := hI
            have hm : pMis (xE E0 36) (xE E0 35 4) q = 2 := by unfold pMis; rw [if_neg (by omega)]
            intro S hS
            obtain ⟨Si, u1, u2, u3⟩ := i5 S hS
            show xOut17 (pBind (pWs (xE E0 36) (xE E0 35 4) 60 (xE E0 35 6) (uS S 5 0)) (pSem (xE E0 36) (xE E0 35 4))) E2 0
            rw [u1]
            unfold pNum
            rw [if_neg (by omega), hm]
            exact xOut17_e rfl (by omega) (by omega)
          · skip
            rcases List.mem_cons.mp hx with ex | hx
            · subst ex
              obtain ⟨hF, hBd, hM⟩ := hXs
              have g2 : v2 2 = v 2 := hag 2 (by decide)
              have g3 : v2 3 = v 3 := hag 3 (by decide)
              have b0 : ((2147483649 : Nat) : Int) ≤ (v2 4) + 2147483648 ∧ (v2 4) + 2147483648 ≤ ((2147483649 : Nat) : Int) := xXb hBd 0 rfl
              have b1 : ((2147483648 : Nat) : Int) ≤ (v2 5) + 2147483648 ∧ (v2 5) + 2147483648 ≤ ((2147484548 : Nat) : Int) := xXb hBd 1 rfl
              have f0 : (0 : Int) ≤ 7 ∧ xE E 35 7 = (v2 4) := xXf hF 0 rfl
              have f1 : ¬ (v2 4) = 3 := xXf hF 1 rfl
              have f2 : (v2 4) = 1 := xXf hF 2 rfl
              have f3 : (0 : Int) ≤ 5 ∧ xE E 35 5 = (v2 5) := xXf hF 3 rfl
              have m0 : xE E2 35 2 = 1 := xXm hM 0 rfl
              have m1 : xE E2 35 3 = (v2 5) := xXm hM 1 rfl
              have e35_4 : xE E2 35 4 = xE E 35 4 := xFr_E hfr rfl
              have q35_4 : xE E 35 4 = xE E0 35 4 := xFr_E hFr0 rfl
              have e35_5 : xE E2 35 5 = xE E 35 5 := xFr_E hfr rfl
              have e35_6 : xE E2 35 6 = xE E 35 6 := xFr_E hfr rfl
              have e35_7 : xE E2 35 7 = xE E 35 7 := xFr_E hfr rfl
              have e35_8 : xE E2 35 8 = xE E 35 8 := xFr_E hfr rfl
              have e18_8 : xE E2 18 8 = xE E 18 8 := xFr_E hfr rfl
              have e33_1 : xE E2 33 1 = xE E 33 1 := xFr_E hfr rfl
              have e36 : ∀ i, xE E2 36 i = xE E 36 i := fun i => xFr_E hfr rfl
              have q36 : ∀ i, xE E 36 i = xE E0 36 i := fun i => xFr_E hFr0 rfl
              have e34 : ∀ i, xE E2 34 i = xE E 34 i := fun i => xFr_E hfr rfl
              have hI : (0 ≤ (v 2) ∧ (v 2) ≤ 60) ∧ xE E 18 8 = 1 ∧ xE E 33 1 = (v 2) ∧ ∃ q, q ≤ (xE E0 35 4) ∧ xAD (xE E0 36) (xE E0 35 4) q E ∧ ∀ S, xAb17 E0 S → ∃ Si : Int → Int, pBind (pWs (xE E0 36) (xE E0 35 4) 60 (xE E0 35 6) (uS S 5 0)) (pSem (xE E0 36) (xE E0 35 4)) = pBind (pNum (xE E0 36) (xE E0 35 4) q 1 7 (fun x p2 => if (v 2) < 60 then pWs (xE E0 36) (xE E0 35 4) (60 - ((v 2) + 1)).toNat p2 (uS (uS Si (460 + Si 5) (-x)) 5 (Si 5 + 1)) else .error (6, tFr (xE E0 36) (xE E0 35 4) q))) (pSem (xE E0 36) (xE E0 35 4)) ∧ xAb17 E Si ∧ Si 5 = (v 2) := hInv
              show xΨfrw17 x0 E0 E2 0
              obtain ⟨i1, i2, i3, q, i4, ⟨a1, a2, a3, a4⟩, i5⟩ := hI
              have hm : pMis (xE E0 36) (xE E0 35 4) q = 1 := by unfold pMis; rw [if_pos (by omega)]
              intro S hS
              obtain ⟨Si, u1, u2, u3⟩ := i5 S hS
              show xOut17 (pBind (pWs (xE E0 36) (xE E0 35 4) 60 (xE E0 35 6) (uS S 5 0)) (pSem (xE E0 36) (xE E0 35 4))) E2 0
              rw [u1]
              unfold pNum
              rw [if_neg (by omega), hm]
              exact xOut17_e rfl (by omega) (by omega)
            · skip
              rcases List.mem_cons.mp hx with ex | hx
              · subst ex
                obtain ⟨hF, hBd, hM⟩ := hXs
                have g2 : v2 2 = v 2 := hag 2 (by decide)
                have g3 : v2 3 = v 3 := hag 3 (by decide)
                have b0 : ((2147483651 : Nat) : Int) ≤ (v2 4) + 2147483648 ∧ (v2 4) + 2147483648 ≤ ((2147483651 : Nat) : Int) := xXb hBd 0 rfl
                have b1 : ((0 : Nat) : Int) ≤ (v2 5) + 2147483648 ∧ (v2 5) + 2147483648 ≤ ((2147483648 : Nat) : Int) := xXb hBd 1 rfl
                have b2 : ((2147483648 : Nat) : Int) ≤ (v2 6) + 2147483648 ∧ (v2 6) + 2147483648 ≤ ((2147484548 : Nat) : Int) := xXb hBd 2 rfl
                have f0 : (0 : Int) ≤ 7 ∧ xE E 35 7 = (v2 4) := xXf hF 0 rfl
                have f1 : (v2 4) = 3 := xXf hF 1 rfl
                have f2 : (0 : Int) ≤ 8 ∧ xE E 35 8 = (v2 5) := xXf hF 2 rfl
                have f3 : (v2 5) < 1 := xXf hF 3 rfl
                have f4 : (0 : Int) ≤ 5 ∧ xE E 35 5 = (v2 6) := xXf hF 4 rfl
                have m0 : xE E2 35 2 = 3 := xXm hM 0 rfl
                have m1 : xE E2 35 3 = (v2 6) := xXm hM 1 rfl
                have e35_4 : xE E2 35 4 = xE E 35 4 := xFr_E hfr rfl
                have q35_4 : xE E 35 4 = xE E0 35 4 := xFr_E hFr0 rfl
                have e35_5 : xE E2 35 5 = xE E 35 5 := xFr_E hfr rfl
                have e35_6 : xE E2 35 6 = xE E 35 6 := xFr_E hfr rfl
                have e35_7 : xE E2 35 7 = xE E 35 7 := xFr_E hfr rfl
                have e35_8 : xE E2 35 8 = xE E 35 8 := xFr_E hfr rfl
                have e18_8 : xE E2 18 8 = xE E 18 8 := xFr_E hfr rfl
                have e33_1 : xE E2 33 1 = xE E 33 1 := xFr_E hfr rfl
                have e36 : ∀ i, xE E2 36 i = xE E 36 i := fun i => xFr_E hfr rfl
                have q36 : ∀ i, xE E 36 i = xE E0 36 i := fun i => xFr_E hFr0 rfl
                have e34 : ∀ i, xE E2 34 i = xE E 34 i := fun i => xFr_E hfr rfl
                have hI : (0 ≤ (v 2) ∧ (v 2) ≤ 60) ∧ xE E 18 8 = 1 ∧ xE E 33 1 = (v 2) ∧ ∃ q, q ≤ (xE E0 35 4) ∧ xAD (xE E0 36) (xE E0 35 4) q E ∧ ∀ S, xAb17 E0 S → ∃ Si : Int → Int, pBind (pWs (xE E0 36) (xE E0 35 4) 60 (xE E0 35 6) (uS S 5 0)) (pSem (xE E0 36) (xE E0 35 4)) = pBind (pNum (xE E0 36) (xE E0 35 4) q 1 7 (fun x p2 => if (v 2) < 60 then pWs (xE E0 36) (xE E0 35 4) (60 - ((v 2) + 1)).toNat p2 (uS (uS Si (460 + Si 5) (-x)) 5 (Si 5 + 1)) else .error (6, tFr (xE E0 36) (xE E0 35 4) q))) (pSem (xE E0 36) (xE E0 35 4)) ∧ xAb17 E Si ∧ Si 5 = (v 2) := hInv
                show xΨfrw17 x0 E0 E2 0
                obtain ⟨i1, i2, i3, q, i4, ⟨a1, a2, a3, a4⟩, i5⟩ := hI
                have hk : tKd (xE E0 36) (xE E0 35 4) q = 3 := by omega
                have hval := a4 hk
                intro S hS
                obtain ⟨Si, u1, u2, u3⟩ := i5 S hS
                show xOut17 (pBind (pWs (xE E0 36) (xE E0 35 4) 60 (xE E0 35 6) (uS S 5 0)) (pSem (xE E0 36) (xE E0 35 4))) E2 0
                rw [u1]
                unfold pNum
                rw [if_pos hk, if_neg (by omega)]
                exact xOut17_e rfl (by omega) (by omega)
              · skip
                have ex := List.mem_singleton.mp hx
                subst ex
                obtain ⟨hF, hBd, hM⟩ := hXs
                have g2 : v2 2 = v 2 := hag 2 (by decide)
                have g3 : v2 3 = v 3 := hag 3 (by decide)
                have b0 : ((2147483651 : Nat) : Int) ≤ (v2 4) + 2147483648 ∧ (v2 4) + 2147483648 ≤ ((2147483651 : Nat) : Int) := xXb hBd 0 rfl
                have b1 : ((2147483656 : Nat) : Int) ≤ (v2 5) + 2147483648 ∧ (v2 5) + 2147483648 ≤ ((4294967295 : Nat) : Int) := xXb hBd 1 rfl
                have b2 : ((2147483648 : Nat) : Int) ≤ (v2 6) + 2147483648 ∧ (v2 6) + 2147483648 ≤ ((2147484548 : Nat) : Int) := xXb hBd 2 rfl
                have f0 : (0 : Int) ≤ 7 ∧ xE E 35 7 = (v2 4) := xXf hF 0 rfl
                have f1 : (v2 4) = 3 := xXf hF 1 rfl
                have f2 : (0 : Int) ≤ 8 ∧ xE E 35 8 = (v2 5) := xXf hF 2 rfl
                have f3 : 1 ≤ (v2 5) := xXf hF 3 rfl
                have f4 : 7 < (v2 5) := xXf hF 4 rfl
                have f5 : (0 : Int) ≤ 5 ∧ xE E 35 5 = (v2 6) := xXf hF 5 rfl
                have m0 : xE E2 35 2 = 3 := xXm hM 0 rfl
                have m1 : xE E2 35 3 = (v2 6) := xXm hM 1 rfl
                have e35_4 : xE E2 35 4 = xE E 35 4 := xFr_E hfr rfl
                have q35_4 : xE E 35 4 = xE E0 35 4 := xFr_E hFr0 rfl
                have e35_5 : xE E2 35 5 = xE E 35 5 := xFr_E hfr rfl
                have e35_6 : xE E2 35 6 = xE E 35 6 := xFr_E hfr rfl
                have e35_7 : xE E2 35 7 = xE E 35 7 := xFr_E hfr rfl
                have e35_8 : xE E2 35 8 = xE E 35 8 := xFr_E hfr rfl
                have e18_8 : xE E2 18 8 = xE E 18 8 := xFr_E hfr rfl
                have e33_1 : xE E2 33 1 = xE E 33 1 := xFr_E hfr rfl
                have e36 : ∀ i, xE E2 36 i = xE E 36 i := fun i => xFr_E hfr rfl
                have q36 : ∀ i, xE E 36 i = xE E0 36 i := fun i => xFr_E hFr0 rfl
                have e34 : ∀ i, xE E2 34 i = xE E 34 i := fun i => xFr_E hfr rfl
                have hI : (0 ≤ (v 2) ∧ (v 2) ≤ 60) ∧ xE E 18 8 = 1 ∧ xE E 33 1 = (v 2) ∧ ∃ q, q ≤ (xE E0 35 4) ∧ xAD (xE E0 36) (xE E0 35 4) q E ∧ ∀ S, xAb17 E0 S → ∃ Si : Int → Int, pBind (pWs (xE E0 36) (xE E0 35 4) 60 (xE E0 35 6) (uS S 5 0)) (pSem (xE E0 36) (xE E0 35 4)) = pBind (pNum (xE E0 36) (xE E0 35 4) q 1 7 (fun x p2 => if (v 2) < 60 then pWs (xE E0 36) (xE E0 35 4) (60 - ((v 2) + 1)).toNat p2 (uS (uS Si (460 + Si 5) (-x)) 5 (Si 5 + 1)) else .error (6, tFr (xE E0 36) (xE E0 35 4) q))) (pSem (xE E0 36) (xE E0 35 4)) ∧ xAb17 E Si ∧ Si 5 = (v 2) := hInv
                show xΨfrw17 x0 E0 E2 0
                obtain ⟨i1, i2, i3, q, i4, ⟨a1, a2, a3, a4⟩, i5⟩ := hI
                have hk : tKd (xE E0 36) (xE E0 35 4) q = 3 := by omega
                have hval := a4 hk
                intro S hS
                obtain ⟨Si, u1, u2, u3⟩ := i5 S hS
                show xOut17 (pBind (pWs (xE E0 36) (xE E0 35 4) 60 (xE E0 35 6) (uS S 5 0)) (pSem (xE E0 36) (xE E0 35 4))) E2 0
                rw [u1]
                unfold pNum
                rw [if_pos hk, if_neg (by omega)]
                exact xOut17_e rfl (by omega) (by omega)
    · cases hx
