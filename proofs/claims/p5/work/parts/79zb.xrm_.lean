section
/-! THE REFERENCE: puts and feed (printed by m16.py) -/
noncomputable def zxfpu_ax0 : zyXp := (3, [595, 34359738369, 192], [], [], [], [])
noncomputable def zpfpu_a : zyPh := (0, [595, 34359738369, 13], [(0, 4294967295), (0, 4294967295), (0, 4294967295)], [], [])
noncomputable def zxfpu_bx0 : zyXp := (18, [595, 34359738369, 68719476737], [137438953473, 103079215105, 675], [(21, 0, 68719476737, 0), (24, 103079215105, 74, 264), (9, 137438953473, 34359738369, 68719476737)], [(68719476737, 2147483648, 2147483672), (103079215105, 2147483648, 2147484548)], [])
noncomputable def zxfpu_br0 : zyXp := (0, [], [], [(20, 0, 68719476737, 0)], [(68719476737, 2147483640, 2147483647)], [])
noncomputable def zpfpu_b : zyPh := (3, [595, 34359738369, 68719476737], [(0, 4294967295), (0, 4294967295), (2147483640, 2147483672)], [], [])
noncomputable def zxfpu_cx0 : zyXp := (3, [595, 34359738369, 103079215041], [], [], [(68719476737, 2147483648, 2147483672), (103079215105, 2147483648, 2147484547), (103079215041, 2147483640, 2147483664)], [(1212449, 103079215113)])
noncomputable def zpfpu_c : zyPh := (20, [595, 34359738369, 68719476737], [(0, 4294967295), (0, 4294967295), (2147483648, 2147483672), (2147483648, 2147484547)], [(1212449, 103079215105)], [])
noncomputable def zpfpu (i : Nat) : zyPh := zif (Nat.beq i 0) (zpfpu_a) (zif (Nat.beq i 1) (zpfpu_b) (zpfpu_c))
noncomputable def zXfpu (i : Nat) : List zyXp := zif (Nat.beq i 0) ([zxfpu_ax0]) (zif (Nat.beq i 1) ([zxfpu_bx0]) ([zxfpu_cx0]))
noncomputable def zRfpu (i : Nat) : List zyXp := zif (Nat.beq i 0) ([]) (zif (Nat.beq i 1) ([zxfpu_br0]) ([]))
noncomputable def zFfpu (i : Nat) : zyR := zif (Nat.beq i 0) ([]) (zif (Nat.beq i 1) ([]) ([(74, 33, 33)]))
noncomputable def zSfpu (i : Nat) : Nat := zif (Nat.beq i 0) (0) (zif (Nat.beq i 1) (0) (0))
def xΦfpu (_ : Nat → Int) (E : zyEm) : Prop := xE E 74 33 ≤ 896
def xΨfpu (x : Nat → Int) (E E2 : zyEm) (_ : Int) : Prop := xE E2 74 33 = xE E 74 33 + 4 ∧ (∀ k, 0 ≤ k → k < 4 → xE E2 84 (xE E 74 33 + k) = fby (x 0) k) ∧ (∀ k, 0 ≤ k → k < xE E 74 33 → xE E2 84 k = xE E 84 k)
noncomputable def fpfpu : zyR := [(74, 33, 33), (84, 0, 899)]
theorem zyfpu_run : zyrS zymx zxi311 (311, 0, 0, 0, 0) 1 zpfpu (fun _ _ => []) zFfpu zSfpu zXfpu zRfpu 3 = true := by decide +kernel
theorem zyfpu_ck : zyAll (fun i => xsubR (zFfpu i) fpfpu && ((zXfpu i).all xckX && (zRfpu i).all (fun x => xckX x && xrtB false x))) 3 = true := by decide +kernel
def xIfpu (i : Nat) (x0 : Nat → Int) (E0 : zyEm) (v : Nat → Int) (E : zyEm) : Prop := if i = 0 then (E = E0 ∧ (v 1) = x0 0) else if i = 1 then ((v 1) = x0 0 ∧ (xE E0 74 33 ≤ 896) ∧ ∃ j : Int, (v 2) = 24 - 8 * j ∧ xE E 74 33 = xE E0 74 33 + j ∧ (0 ≤ j ∧ j ≤ 4) ∧ (∀ k, 0 ≤ k → k < j → xE E 84 (xE E0 74 33 + k) = fby (x0 0) k) ∧ (∀ k, 0 ≤ k → k < xE E0 74 33 → xE E 84 k = xE E0 84 k)) else ((v 1) = x0 0 ∧ (xE E0 74 33 ≤ 896) ∧ ∃ j : Int, (v 2) = 24 - 8 * j ∧ j ≤ 3 ∧ xE E 74 33 = xE E0 74 33 + j ∧ (0 ≤ j) ∧ (∀ k, 0 ≤ k → k < j + 1 → xE E 84 (xE E0 74 33 + k) = fby (x0 0) k) ∧ (∀ k, 0 ≤ k → k < xE E0 74 33 → xE E 84 k = xE E0 84 k))
def xMfpu (i : Nat) (x0 : Nat → Int) (E0 : zyEm) (v : Nat → Int) (E : zyEm) : Nat := if i = 0 then (1000) else if i = 1 then (2 * (100 + (v 2)).toNat + 1) else (2 * (100 + (v 2)).toNat)
theorem xPu {l : Launch} {en : zEn} {me : zMe} (hen : zG zxMeta 311 = some en) (hme : zG zMeth 311 = some me) : xFc l zymx en me 1 [74] 1 fpfpu false xΦfpu xΨfpu := by
  have een : zG zxMeta 311 = some (zxi311, 2, 3, 11, 311, 0, 0, 0, 0) := rfl
  obtain ⟨me1, hme1, hOK⟩ := zall hen
  rw [hme] at hme1
  cases hme1
  rw [een] at hen
  cases hen
  have hr := zyfpu_run
  have hck := fun i hi => zyAll_iff zyfpu_ck i hi
  simp only [Bool.and_eq_true] at hck
  intro B
  refine xcut (mi := zymx) (B := B) hOK rfl rfl (ι := Fin 3) (fun i => zpfpu i.val) (fun _ _ => []) (fun i => zFfpu i.val) (fun i => zSfpu i.val) (fun i => zXfpu i.val) (fun i => zRfpu i.val) (fun i y2 ct en2 me2 h => by cases h) 200000 (fun i => zyAll_iff hr i.val i.isLt) (fun i => (hck i.val i.isLt).1) (fun i => (hck i.val i.isLt).2.1) (fun i => (hck i.val i.isLt).2.2) ⟨0, by decide⟩ ⟨rfl, rfl, rfl, rfl⟩ ⟨by decide, by decide⟩ (fun i x0 E0 v E => xIfpu i.val x0 E0 v E) (fun i x0 E0 v E => xMfpu i.val x0 E0 v E) ?_ ?_ ?_
  · intro x0 E hx0 hT hΦ
    have hΦ : xΦfpu x0 E := hΦ
    refine ⟨fun k p hp => ?_, ?_⟩
    · have hk : k < 3 := (List.getElem?_eq_some_iff.mp hp).1
      have hk : k = 0 ∨ k = 1 ∨ k = 2 := by omega
      rcases hk with rfl | rfl | rfl
      · have hp : some (0, 4294967295) = some p := hp
        cases hp
        show ((0 : Nat) : Int) ≤ 0 + 2147483648 ∧ 0 + 2147483648 ≤ ((4294967295 : Nat) : Int)
        omega
      · have hp : some (0, 4294967295) = some p := hp
        cases hp
        show ((0 : Nat) : Int) ≤ x0 0 + 2147483648 ∧ x0 0 + 2147483648 ≤ ((4294967295 : Nat) : Int)
        have hx := hx0 0
        omega
      · have hp : some (0, 4294967295) = some p := hp
        cases hp
        show ((0 : Nat) : Int) ≤ x0 1 + 2147483648 ∧ x0 1 + 2147483648 ≤ ((4294967295 : Nat) : Int)
        have hx := hx0 1
        omega
    · show E = E ∧ (x0 0) = x0 0
      exact ⟨rfl, rfl⟩
  · intro x0 s Wg hRu hrx hT0 hΦ i v H hT hrv hInv hKc hFr0 hIH x hx ρ2 v2 N2 H2 locs lsB stA hAt hB hv hr2 hXs hag hfr hFr hT2
    rcases i with ⟨i, hi⟩
    have hi2 : i = 0 ∨ i = 1 ∨ i = 2 := by omega
    rcases hi2 with rfl | rfl | rfl
    · have hx : x ∈ [zxfpu_ax0] := hx
      have hag : ∀ k, k < 3 → v2 k = v k := hag
      have hfr : xFr [] _ _ := hfr
      have ex := List.mem_singleton.mp hx
      subst ex
      obtain ⟨hF, hBd, hM⟩ := hXs
      have r1 := hr2 1
      have g1 : v2 1 = v 1 := hag 1 (by decide)
      have e74_33 : xE (zyEl zymx B H2) 74 33 = xE (zyEl zymx B H) 74 33 := xFr_E hfr rfl
      have e84 : ∀ i, xE (zyEl zymx B H2) 84 i = xE (zyEl zymx B H) 84 i := fun i => xFr_E hfr rfl
      have y74_33 : ((2147483648 : Nat) : Int) ≤ xE (zyEl zymx B s.heap) 74 33 + 2147483648 ∧ xE (zyEl zymx B s.heap) 74 33 + 2147483648 ≤ ((2147484548 : Nat) : Int) := xTyF hT0 74 33 33 rfl rfl rfl rfl rfl rfl
      have hI : (zyEl zymx B H) = (zyEl zymx B s.heap) ∧ (v 1) = x0 0 := hInv
      have q74_33 : xE (zyEl zymx B H) 74 33 = xE (zyEl zymx B s.heap) 74 33 := by rw [hI.1]
      have q84 : ∀ i, xE (zyEl zymx B H) 84 i = xE (zyEl zymx B s.heap) 84 i := fun i => by rw [hI.1]
      have hP : xE (zyEl zymx B s.heap) 74 33 ≤ 896 := hΦ
      refine xGo hIH hAt hB hv hFr ⟨1, by decide⟩ [0, 34359738369, 192] [0, (v2 1), 24] rfl ⟨by decide +kernel, ⟨rfl, by decide +kernel⟩, (xcs_c rfl (xcs_c rfl (xcs_c rfl xcs_n))), (xe_0 (xe_f (by omega) (xe_c (by omega) (by omega) rfl xe_n))), xkq_n⟩ xst_n ?_ ?_
      · show ((v2 1) : Int) = x0 0 ∧ (xE (zyEl zymx B s.heap) 74 33 ≤ 896) ∧ ∃ j : Int, (24 : Int) = 24 - 8 * j ∧ xE (zyEl zymx B H2) 74 33 = xE (zyEl zymx B s.heap) 74 33 + j ∧ (0 ≤ j ∧ j ≤ 4) ∧ (∀ k, 0 ≤ k → k < j → xE (zyEl zymx B H2) 84 (xE (zyEl zymx B s.heap) 74 33 + k) = fby (x0 0) k) ∧ (∀ k, 0 ≤ k → k < xE (zyEl zymx B s.heap) 74 33 → xE (zyEl zymx B H2) 84 k = xE (zyEl zymx B s.heap) 84 k)
        exact ⟨by omega, by omega, 0, by omega, by omega, by omega, fun k k0 k1 => by omega, fun k k0 k1 => (e84 k).trans (q84 k)⟩
      · show 2 * (100 + (24 : Int)).toNat + 1 < 1000
        omega
    · have hx : x ∈ [zxfpu_bx0] := hx
      have hag : ∀ k, k < 3 → v2 k = v k := hag
      have hfr : xFr [] _ _ := hfr
      have ex := List.mem_singleton.mp hx
      subst ex
      obtain ⟨hF, hBd, hM⟩ := hXs
      have r1 := hr2 1
      have r4 := hr2 4
      have g1 : v2 1 = v 1 := hag 1 (by decide)
      have g2 : v2 2 = v 2 := hag 2 (by decide)
      have b0 : ((2147483648 : Nat) : Int) ≤ (v2 2) + 2147483648 ∧ (v2 2) + 2147483648 ≤ ((2147483672 : Nat) : Int) := xXb hBd 0 rfl
      have b1 : ((2147483648 : Nat) : Int) ≤ (v2 3) + 2147483648 ∧ (v2 3) + 2147483648 ≤ ((2147484548 : Nat) : Int) := xXb hBd 1 rfl
      have f0 : 0 ≤ (v2 2) := xXf hF 0 rfl
      have f1 : (0 : Int) ≤ 33 ∧ xE (zyEl zymx B H) 74 33 = (v2 3) := xXf hF 1 rfl
      have f2 : (v2 4) = xop 9 (v2 1) (v2 2) := xXf hF 2 rfl
      have e74_33 : xE (zyEl zymx B H2) 74 33 = xE (zyEl zymx B H) 74 33 := xFr_E hfr rfl
      have e84 : ∀ i, xE (zyEl zymx B H2) 84 i = xE (zyEl zymx B H) 84 i := fun i => xFr_E hfr rfl
      have y74_33 : ((2147483648 : Nat) : Int) ≤ xE (zyEl zymx B s.heap) 74 33 + 2147483648 ∧ xE (zyEl zymx B s.heap) 74 33 + 2147483648 ≤ ((2147484548 : Nat) : Int) := xTyF hT0 74 33 33 rfl rfl rfl rfl rfl rfl
      have hI : (v 1) = x0 0 ∧ (xE (zyEl zymx B s.heap) 74 33 ≤ 896) ∧ ∃ j : Int, (v 2) = 24 - 8 * j ∧ xE (zyEl zymx B H) 74 33 = xE (zyEl zymx B s.heap) 74 33 + j ∧ (0 ≤ j ∧ j ≤ 4) ∧ (∀ k, 0 ≤ k → k < j → xE (zyEl zymx B H) 84 (xE (zyEl zymx B s.heap) 74 33 + k) = fby (x0 0) k) ∧ (∀ k, 0 ≤ k → k < xE (zyEl zymx B s.heap) 74 33 → xE (zyEl zymx B H) 84 k = xE (zyEl zymx B s.heap) 84 k) := hInv
      obtain ⟨i0, i1, j, i2, i3, i4, i5, i6⟩ := hI
      refine xSb hRu hIH hAt hB hv hFr 84 (ax := 0) (ax2 := 0) 137438953473 103079215105 (v2 4) (v2 3) rfl rfl rfl rfl rfl (by decide +kernel) rfl rfl (by omega) (by show (v2 3) < ((900 : Nat) : Int); omega) (fun r hr q1 q2 => by rw [List.mem_singleton.mp hr]; exact ⟨rfl, by show ((2147483520 : Nat) : Int) ≤ -128 + 2147483648; omega, by show (127 : Int) + 2147483648 ≤ ((2147483775 : Nat) : Int); omega⟩) (zyin_iff.mpr ⟨(84, 0, 899), by decide, rfl, Nat.zero_le _, by show Int.toNat (v2 3) ≤ 899; omega⟩) (fun H3 hT3 hst3 hne3 hfn3 hFr3 => ?_)
      have hfe3 : ∀ (a2 : Nat) (k2 : Int), ¬ a2 = 84 → xE (zyEl zymx B H3) a2 k2 = xE (zyEl zymx B H2) a2 k2 := fun a2 k2 hne => by unfold xE; rw [hfn3 a2 k2.toNat (fun z => hne z.1)]
      have d74_33 : xE (zyEl zymx B H3) 74 33 = xE (zyEl zymx B H2) 74 33 := hfe3 74 33 (fun z => absurd z (by decide))
      have z74_33 : ((2147483648 : Nat) : Int) ≤ xE (zyEl zymx B H3) 74 33 + 2147483648 ∧ xE (zyEl zymx B H3) 74 33 + 2147483648 ≤ ((2147484548 : Nat) : Int) := xTyF hT3 74 33 33 rfl rfl rfl rfl rfl rfl
      refine ⟨⟨2, by decide⟩, [0, 34359738369, 68719476737], [0, (v2 1), (v2 2), xE (zyEl zymx B H3) 74 33], rfl, ⟨by decide +kernel, ⟨rfl, by decide +kernel⟩, (xcs_c rfl (xcs_c rfl (xcs_c rfl xcs_n))), (xe_0 (xe_f (by omega) (xe_c (by omega) (by omega) rfl (xe_c (by omega) (by omega) rfl xe_n)))), (xkq_c hT3 74 33 (q := 33) rfl rfl rfl rfl rfl rfl rfl rfl rfl rfl rfl xkq_n)⟩, rfl, ?_, ?_⟩
      · show ((v2 1) : Int) = x0 0 ∧ (xE (zyEl zymx B s.heap) 74 33 ≤ 896) ∧ ∃ j : Int, ((v2 2) : Int) = 24 - 8 * j ∧ j ≤ 3 ∧ xE (zyEl zymx B H3) 74 33 = xE (zyEl zymx B s.heap) 74 33 + j ∧ (0 ≤ j) ∧ (∀ k, 0 ≤ k → k < j + 1 → xE (zyEl zymx B H3) 84 (xE (zyEl zymx B s.heap) 74 33 + k) = fby (x0 0) k) ∧ (∀ k, 0 ≤ k → k < xE (zyEl zymx B s.heap) 74 33 → xE (zyEl zymx B H3) 84 k = xE (zyEl zymx B s.heap) 84 k)
        refine ⟨by omega, by omega, j, by omega, by omega, by omega, by omega, fun k k0 k1 => ?_, fun k k0 k1 => ?_⟩
        · by_cases e : k = j
          · rw [e, show xE (zyEl zymx B s.heap) 74 33 + j = (v2 3) by omega, hst3]
            unfold fby
            rw [f2]
            congr 2 <;> omega
          · rw [hne3 84 _ (by omega) (fun z => e (by have := z.2; omega)), e84 _]
            exact i5 k k0 (by omega)
        · rw [hne3 84 _ k0 (fun z => by have := z.2; omega), e84 _]
          exact i6 k k0 k1
      · show 2 * (100 + ((v2 2) : Int)).toNat < 2 * (100 + (v 2)).toNat + 1
        omega
    · have hx : x ∈ [zxfpu_cx0] := hx
      have hag : ∀ k, k < 4 → v2 k = v k := hag
      have hfr : xFr [(74, 33, 33)] _ _ := hfr
      have ex := List.mem_singleton.mp hx
      subst ex
      obtain ⟨hF, hBd, hM⟩ := hXs
      have r1 := hr2 1
      have g1 : v2 1 = v 1 := hag 1 (by decide)
      have g2 : v2 2 = v 2 := hag 2 (by decide)
      have g3 : v2 3 = v 3 := hag 3 (by decide)
      have b0 : ((2147483648 : Nat) : Int) ≤ (v2 2) + 2147483648 ∧ (v2 2) + 2147483648 ≤ ((2147483672 : Nat) : Int) := xXb hBd 0 rfl
      have b1 : ((2147483648 : Nat) : Int) ≤ (v2 3) + 2147483648 ∧ (v2 3) + 2147483648 ≤ ((2147484547 : Nat) : Int) := xXb hBd 1 rfl
      have b2 : ((2147483640 : Nat) : Int) ≤ (v2 2 + (-8)) + 2147483648 ∧ (v2 2 + (-8)) + 2147483648 ≤ ((2147483664 : Nat) : Int) := xXb hBd 2 rfl
      have k0 : xE (zyEl zymx B H) 74 33 = v 3 := xKcf hKc 0 rfl rfl
      have m0 : xE (zyEl zymx B H2) 74 33 = (v2 3 + 1) := xXm hM 0 rfl
      have e84 : ∀ i, xE (zyEl zymx B H2) 84 i = xE (zyEl zymx B H) 84 i := fun i => xFr_E hfr rfl
      have y74_33 : ((2147483648 : Nat) : Int) ≤ xE (zyEl zymx B s.heap) 74 33 + 2147483648 ∧ xE (zyEl zymx B s.heap) 74 33 + 2147483648 ≤ ((2147484548 : Nat) : Int) := xTyF hT0 74 33 33 rfl rfl rfl rfl rfl rfl
      have hI : (v 1) = x0 0 ∧ (xE (zyEl zymx B s.heap) 74 33 ≤ 896) ∧ ∃ j : Int, (v 2) = 24 - 8 * j ∧ j ≤ 3 ∧ xE (zyEl zymx B H) 74 33 = xE (zyEl zymx B s.heap) 74 33 + j ∧ (0 ≤ j) ∧ (∀ k, 0 ≤ k → k < j + 1 → xE (zyEl zymx B H) 84 (xE (zyEl zymx B s.heap) 74 33 + k) = fby (x0 0) k) ∧ (∀ k, 0 ≤ k → k < xE (zyEl zymx B s.heap) 74 33 → xE (zyEl zymx B H) 84 k = xE (zyEl zymx B s.heap) 84 k) := hInv
      obtain ⟨i0, i1, j, i2, i3, i4, i5, i6, i7⟩ := hI
      refine xGo hIH hAt hB hv hFr ⟨1, by decide⟩ [0, 34359738369, 103079215041] [0, (v2 1), (v2 2 + (-8))] rfl ⟨by decide +kernel, ⟨rfl, by decide +kernel⟩, (xcs_c rfl (xcs_c rfl (xcs_c rfl xcs_n))), (xe_0 (xe_f (by omega) (xe_c (by omega) (by omega) rfl xe_n))), xkq_n⟩ xst_n ?_ ?_
      · show ((v2 1) : Int) = x0 0 ∧ (xE (zyEl zymx B s.heap) 74 33 ≤ 896) ∧ ∃ j : Int, ((v2 2 + (-8)) : Int) = 24 - 8 * j ∧ xE (zyEl zymx B H2) 74 33 = xE (zyEl zymx B s.heap) 74 33 + j ∧ (0 ≤ j ∧ j ≤ 4) ∧ (∀ k, 0 ≤ k → k < j → xE (zyEl zymx B H2) 84 (xE (zyEl zymx B s.heap) 74 33 + k) = fby (x0 0) k) ∧ (∀ k, 0 ≤ k → k < xE (zyEl zymx B s.heap) 74 33 → xE (zyEl zymx B H2) 84 k = xE (zyEl zymx B s.heap) 84 k)
        exact ⟨by omega, by omega, j + 1, by omega, by omega, by omega, fun k k0 k1 => (e84 _).trans (i6 k k0 k1), fun k k0 k1 => (e84 k).trans (i7 k k0 k1)⟩
      · show 2 * (100 + ((v2 2 + (-8)) : Int)).toNat + 1 < 2 * (100 + (v 2)).toNat
        omega
  · intro x0 E0 E E2 hrx hT0 hΦ i v hT hrv hInv hKc hFr0 x hx v2 hr2 hXs hag hfr hFr hT2
    rcases i with ⟨i, hi⟩
    have hi2 : i = 0 ∨ i = 1 ∨ i = 2 := by omega
    rcases hi2 with rfl | rfl | rfl
    · cases hx
    · have hx : x ∈ [zxfpu_br0] := hx
      have hag : ∀ k, k < 3 → v2 k = v k := hag
      have hfr : xFr [] _ _ := hfr
      have ex := List.mem_singleton.mp hx
      subst ex
      obtain ⟨hF, hBd, hM⟩ := hXs
      have g1 : v2 1 = v 1 := hag 1 (by decide)
      have g2 : v2 2 = v 2 := hag 2 (by decide)
      have b0 : ((2147483640 : Nat) : Int) ≤ (v2 2) + 2147483648 ∧ (v2 2) + 2147483648 ≤ ((2147483647 : Nat) : Int) := xXb hBd 0 rfl
      have f0 : (v2 2) < 0 := xXf hF 0 rfl
      have e74_33 : xE E2 74 33 = xE E 74 33 := xFr_E hfr rfl
      have e84 : ∀ i, xE E2 84 i = xE E 84 i := fun i => xFr_E hfr rfl
      have y74_33 : ((2147483648 : Nat) : Int) ≤ xE E0 74 33 + 2147483648 ∧ xE E0 74 33 + 2147483648 ≤ ((2147484548 : Nat) : Int) := xTyF hT0 74 33 33 rfl rfl rfl rfl rfl rfl
      have hI : (v 1) = x0 0 ∧ (xE E0 74 33 ≤ 896) ∧ ∃ j : Int, (v 2) = 24 - 8 * j ∧ xE E 74 33 = xE E0 74 33 + j ∧ (0 ≤ j ∧ j ≤ 4) ∧ (∀ k, 0 ≤ k → k < j → xE E 84 (xE E0 74 33 + k) = fby (x0 0) k) ∧ (∀ k, 0 ≤ k → k < xE E0 74 33 → xE E 84 k = xE E0 84 k) := hInv
      show xΨfpu x0 E0 E2 0
      obtain ⟨i0, i1, j, i2, i3, i4, i5, i6⟩ := hI
      have hj : j = 4 := by omega
      subst hj
      exact ⟨by omega, fun k k0 k1 => (e84 _).trans (i5 k k0 k1), fun k k0 k1 => (e84 k).trans (i6 k k0 k1)⟩
    · cases hx
noncomputable def zxffx_zx0 : zyXp := (0, [595, 34359738369, 68719476737, 103079215105, 137438953473, 171798691841], [], [], [], [])
noncomputable def zpffx_z : zyPh := (0, [595, 34359738369, 68719476737, 103079215105, 137438953473, 171798691841], [(0, 4294967295), (0, 4294967295), (0, 4294967295), (0, 4294967295), (0, 4294967295), (0, 4294967295)], [], [])
noncomputable def zxffx_ax0 : zyXp := (22, [595, 34359738369, 68719476737, 103079215105, 137438953473, 171798691841], [34359738369, 595], [(21, 0, 7200, 206158430369)], [(206158430209, 2147483648, 2147484528)], [(1212419, 0), (1212449, 206158430209)])
noncomputable def zxffx_ar0 : zyXp := (0, [], [34359738360], [(20, 0, 7200, 206158430369)], [(206158430209, 2147484529, 2147484548)], [(1212419, 0), (1212449, 206158430209)])
noncomputable def zpffx_a : zyPh := (0, [595, 34359738369, 68719476737, 103079215105, 137438953473, 171798691841], [(0, 4294967295), (0, 4294967295), (0, 4294967295), (0, 4294967295), (0, 4294967295), (0, 4294967295), (2147483648, 2147484548)], [(1212449, 206158430209)], [])
noncomputable def zxffx_b1x0 : zyXp := (27, [595, 34359738369, 68719476737, 103079215105, 137438953473, 171798691841], [68719476737, 595], [], [], [])
noncomputable def zpffx_b1 : zyPh := (25, [595, 34359738369, 68719476737, 103079215105, 137438953473, 171798691841], [(0, 4294967295), (0, 4294967295), (0, 4294967295), (0, 4294967295), (0, 4294967295), (0, 4294967295)], [], [])
noncomputable def zxffx_b2x0 : zyXp := (32, [595, 34359738369, 68719476737, 103079215105, 137438953473, 171798691841], [103079215105, 595], [], [], [])
noncomputable def zpffx_b2 : zyPh := (30, [595, 34359738369, 68719476737, 103079215105, 137438953473, 171798691841], [(0, 4294967295), (0, 4294967295), (0, 4294967295), (0, 4294967295), (0, 4294967295), (0, 4294967295)], [], [])
noncomputable def zxffx_b3x0 : zyXp := (38, [595, 34359738369, 68719476737, 103079215105, 137438953473, 171798691841], [137438953473, 595], [], [], [])
noncomputable def zpffx_b3 : zyPh := (35, [595, 34359738369, 68719476737, 103079215105, 137438953473, 171798691841], [(0, 4294967295), (0, 4294967295), (0, 4294967295), (0, 4294967295), (0, 4294967295), (0, 4294967295)], [], [])
noncomputable def zxffx_b4x0 : zyXp := (44, [595, 34359738369, 68719476737, 103079215105, 137438953473, 171798691841], [171798691841, 595], [], [], [])
noncomputable def zpffx_b4 : zyPh := (41, [595, 34359738369, 68719476737, 103079215105, 137438953473, 171798691841], [(0, 4294967295), (0, 4294967295), (0, 4294967295), (0, 4294967295), (0, 4294967295), (0, 4294967295)], [], [])
noncomputable def zxffx_b5r0 : zyXp := (0, [], [206158430209], [], [(206158430209, 2147483648, 2147484548)], [])
noncomputable def zpffx_b5 : zyPh := (47, [595, 34359738369, 68719476737, 103079215105, 137438953473, 171798691841], [(0, 4294967295), (0, 4294967295), (0, 4294967295), (0, 4294967295), (0, 4294967295), (0, 4294967295), (2147483648, 2147484548)], [(1212449, 206158430209)], [])
noncomputable def zpffx (i : Nat) : zyPh := zif (Nat.beq i 0) (zpffx_z) (zif (Nat.beq i 1) (zpffx_a) (zif (Nat.beq i 2) (zpffx_b1) (zif (Nat.beq i 3) (zpffx_b2) (zif (Nat.beq i 4) (zpffx_b3) (zif (Nat.beq i 5) (zpffx_b4) (zpffx_b5))))))
noncomputable def zXffx (i : Nat) : List zyXp := zif (Nat.beq i 0) ([zxffx_zx0]) (zif (Nat.beq i 1) ([zxffx_ax0]) (zif (Nat.beq i 2) ([zxffx_b1x0]) (zif (Nat.beq i 3) ([zxffx_b2x0]) (zif (Nat.beq i 4) ([zxffx_b3x0]) (zif (Nat.beq i 5) ([zxffx_b4x0]) ([]))))))
noncomputable def zRffx (i : Nat) : List zyXp := zif (Nat.beq i 0) ([]) (zif (Nat.beq i 1) ([zxffx_ar0]) (zif (Nat.beq i 2) ([]) (zif (Nat.beq i 3) ([]) (zif (Nat.beq i 4) ([]) (zif (Nat.beq i 5) ([]) ([zxffx_b5r0]))))))
noncomputable def zFffx (i : Nat) : zyR := zif (Nat.beq i 0) ([]) (zif (Nat.beq i 1) ([(74, 3, 3)]) (zif (Nat.beq i 2) ([]) (zif (Nat.beq i 3) ([]) (zif (Nat.beq i 4) ([]) (zif (Nat.beq i 5) ([]) ([]))))))
noncomputable def zSffx (i : Nat) : Nat := zif (Nat.beq i 0) (0) (zif (Nat.beq i 1) (0) (zif (Nat.beq i 2) (0) (zif (Nat.beq i 3) (0) (zif (Nat.beq i 4) (0) (zif (Nat.beq i 5) (0) (0))))))
def xΦffx (_ : Nat → Int) (_ : zyEm) : Prop := True
def xΨffx (x : Nat → Int) (E E2 : zyEm) (r : Int) : Prop := if 880 < xE E 74 33 then r = -1 ∧ xE E2 74 33 = xE E 74 33 ∧ (∀ i, xE E2 84 i = xE E 84 i)
  else r = xE E 74 33 + 20 ∧ xE E2 74 33 = xE E 74 33 + 20 ∧ (∀ i, 0 ≤ i → i < 20 → xE E2 84 (xE E 74 33 + i) = fbs x i) ∧ (∀ i, 0 ≤ i → i < xE E 74 33 → xE E2 84 i = xE E 84 i)
noncomputable def fpffx : zyR := [(74, 3, 3), (74, 33, 33), (84, 0, 899)]
theorem zyffx_run : zyrS zymx zxi312 (312, 0, 0, 1, 0) 2 zpffx (fun _ _ => []) zFffx zSffx zXffx zRffx 7 = true := by decide +kernel
theorem zyffx_ck : zyAll (fun i => xsubR (zFffx i) fpffx && ((zXffx i).all xckX && (zRffx i).all (fun x => xckX x && xrtB true x))) 7 = true := by decide +kernel
def xIffx (i : Nat) (x0 : Nat → Int) (E0 : zyEm) (v : Nat → Int) (E : zyEm) : Prop := if i = 0 then (E = E0 ∧ (v 1) = x0 0 ∧ (v 2) = x0 1 ∧ (v 3) = x0 2 ∧ (v 4) = x0 3 ∧ (v 5) = x0 4) else if i = 1 then (E = E0 ∧ (v 1) = x0 0 ∧ (v 2) = x0 1 ∧ (v 3) = x0 2 ∧ (v 4) = x0 3 ∧ (v 5) = x0 4) else if i = 2 then ((v 1) = x0 0 ∧ (v 2) = x0 1 ∧ (v 3) = x0 2 ∧ (v 4) = x0 3 ∧ (v 5) = x0 4 ∧ (xE E0 74 33 ≤ 880) ∧ (xE E 74 33 = xE E0 74 33 + 4) ∧ (∀ i, 0 ≤ i → i < 4 → xE E 84 (xE E0 74 33 + i) = fbs x0 i) ∧ (∀ i, 0 ≤ i → i < xE E0 74 33 → xE E 84 i = xE E0 84 i)) else if i = 3 then ((v 1) = x0 0 ∧ (v 2) = x0 1 ∧ (v 3) = x0 2 ∧ (v 4) = x0 3 ∧ (v 5) = x0 4 ∧ (xE E0 74 33 ≤ 880) ∧ (xE E 74 33 = xE E0 74 33 + 8) ∧ (∀ i, 0 ≤ i → i < 8 → xE E 84 (xE E0 74 33 + i) = fbs x0 i) ∧ (∀ i, 0 ≤ i → i < xE E0 74 33 → xE E 84 i = xE E0 84 i)) else if i = 4 then ((v 1) = x0 0 ∧ (v 2) = x0 1 ∧ (v 3) = x0 2 ∧ (v 4) = x0 3 ∧ (v 5) = x0 4 ∧ (xE E0 74 33 ≤ 880) ∧ (xE E 74 33 = xE E0 74 33 + 12) ∧ (∀ i, 0 ≤ i → i < 12 → xE E 84 (xE E0 74 33 + i) = fbs x0 i) ∧ (∀ i, 0 ≤ i → i < xE E0 74 33 → xE E 84 i = xE E0 84 i)) else if i = 5 then ((v 1) = x0 0 ∧ (v 2) = x0 1 ∧ (v 3) = x0 2 ∧ (v 4) = x0 3 ∧ (v 5) = x0 4 ∧ (xE E0 74 33 ≤ 880) ∧ (xE E 74 33 = xE E0 74 33 + 16) ∧ (∀ i, 0 ≤ i → i < 16 → xE E 84 (xE E0 74 33 + i) = fbs x0 i) ∧ (∀ i, 0 ≤ i → i < xE E0 74 33 → xE E 84 i = xE E0 84 i)) else ((v 1) = x0 0 ∧ (v 2) = x0 1 ∧ (v 3) = x0 2 ∧ (v 4) = x0 3 ∧ (v 5) = x0 4 ∧ (xE E0 74 33 ≤ 880) ∧ (xE E 74 33 = xE E0 74 33 + 20) ∧ (∀ i, 0 ≤ i → i < 20 → xE E 84 (xE E0 74 33 + i) = fbs x0 i) ∧ (∀ i, 0 ≤ i → i < xE E0 74 33 → xE E 84 i = xE E0 84 i))
def xMffx (i : Nat) (x0 : Nat → Int) (E0 : zyEm) (v : Nat → Int) (E : zyEm) : Nat := if i = 0 then (11) else if i = 1 then (10) else if i = 2 then (8) else if i = 3 then (7) else if i = 4 then (6) else if i = 5 then (5) else (4)
theorem xFx {l : Launch} {en : zEn} {me : zMe} (hen : zG zxMeta 312 = some en) (hme : zG zMeth 312 = some me) : xFc l zymx en me 2 [74] 5 fpffx true xΦffx xΨffx := by
  have een : zG zxMeta 312 = some (zxi312, 6, 6, 11, 312, 0, 0, 1, 0) := rfl
  obtain ⟨me1, hme1, hOK⟩ := zall hen
  rw [hme] at hme1
  cases hme1
  rw [een] at hen
  cases hen
  have hr := zyffx_run
  have hck := fun i hi => zyAll_iff zyffx_ck i hi
  simp only [Bool.and_eq_true] at hck
  obtain ⟨mefpu, hmefpu, -⟩ := zall (show zG zxMeta 311 = some (zxi311, 2, 3, 11, 311, 0, 0, 0, 0) from rfl)
  have hfpu := xPu (l := l) (show zG zxMeta 311 = some (zxi311, 2, 3, 11, 311, 0, 0, 0, 0) from rfl) hmefpu
  intro B
  refine xcut (mi := zymx) (B := B) hOK rfl rfl (ι := Fin 7) (fun i => zpffx i.val) (fun _ _ => []) (fun i => zFffx i.val) (fun i => zSffx i.val) (fun i => zXffx i.val) (fun i => zRffx i.val) (fun i y2 ct en2 me2 h => by cases h) 200000 (fun i => zyAll_iff hr i.val i.isLt) (fun i => (hck i.val i.isLt).1) (fun i => (hck i.val i.isLt).2.1) (fun i => (hck i.val i.isLt).2.2) ⟨0, by decide⟩ ⟨rfl, rfl, rfl, rfl⟩ ⟨by decide, by decide⟩ (fun i x0 E0 v E => xIffx i.val x0 E0 v E) (fun i x0 E0 v E => xMffx i.val x0 E0 v E) ?_ ?_ ?_
  · intro x0 E hx0 hT hΦ
    have hΦ : xΦffx x0 E := hΦ
    refine ⟨fun k p hp => ?_, ?_⟩
    · have hk : k < 6 := (List.getElem?_eq_some_iff.mp hp).1
      have hk : k = 0 ∨ k = 1 ∨ k = 2 ∨ k = 3 ∨ k = 4 ∨ k = 5 := by omega
      rcases hk with rfl | rfl | rfl | rfl | rfl | rfl
      · have hp : some (0, 4294967295) = some p := hp
        cases hp
        show ((0 : Nat) : Int) ≤ 0 + 2147483648 ∧ 0 + 2147483648 ≤ ((4294967295 : Nat) : Int)
        omega
      · have hp : some (0, 4294967295) = some p := hp
        cases hp
        show ((0 : Nat) : Int) ≤ x0 0 + 2147483648 ∧ x0 0 + 2147483648 ≤ ((4294967295 : Nat) : Int)
        have hx := hx0 0
        omega
      · have hp : some (0, 4294967295) = some p := hp
        cases hp
        show ((0 : Nat) : Int) ≤ x0 1 + 2147483648 ∧ x0 1 + 2147483648 ≤ ((4294967295 : Nat) : Int)
        have hx := hx0 1
        omega
      · have hp : some (0, 4294967295) = some p := hp
        cases hp
        show ((0 : Nat) : Int) ≤ x0 2 + 2147483648 ∧ x0 2 + 2147483648 ≤ ((4294967295 : Nat) : Int)
        have hx := hx0 2
        omega
      · have hp : some (0, 4294967295) = some p := hp
        cases hp
        show ((0 : Nat) : Int) ≤ x0 3 + 2147483648 ∧ x0 3 + 2147483648 ≤ ((4294967295 : Nat) : Int)
        have hx := hx0 3
        omega
      · have hp : some (0, 4294967295) = some p := hp
        cases hp
        show ((0 : Nat) : Int) ≤ x0 4 + 2147483648 ∧ x0 4 + 2147483648 ≤ ((4294967295 : Nat) : Int)
        have hx := hx0 4
        omega
    · show E = E ∧ (x0 0) = x0 0 ∧ (x0 1) = x0 1 ∧ (x0 2) = x0 2 ∧ (x0 3) = x0 3 ∧ (x0 4) = x0 4
      exact ⟨rfl, rfl, rfl, rfl, rfl, rfl⟩
  · intro x0 s Wg hRu hrx hT0 hΦ i v H hT hrv hInv hKc hFr0 hIH x hx ρ2 v2 N2 H2 locs lsB stA hAt hB hv hr2 hXs hag hfr hFr hT2
    rcases i with ⟨i, hi⟩
    have hi2 : i = 0 ∨ i = 1 ∨ i = 2 ∨ i = 3 ∨ i = 4 ∨ i = 5 ∨ i = 6 := by omega
    rcases hi2 with rfl | rfl | rfl | rfl | rfl | rfl | rfl
    · have hx : x ∈ [zxffx_zx0] := hx
      have hag : ∀ k, k < 6 → v2 k = v k := hag
      have hfr : xFr [] _ _ := hfr
      have ex := List.mem_singleton.mp hx
      subst ex
      obtain ⟨hF, hBd, hM⟩ := hXs
      have r1 := hr2 1
      have r2 := hr2 2
      have r3 := hr2 3
      have r4 := hr2 4
      have r5 := hr2 5
      have g1 : v2 1 = v 1 := hag 1 (by decide)
      have g2 : v2 2 = v 2 := hag 2 (by decide)
      have g3 : v2 3 = v 3 := hag 3 (by decide)
      have g4 : v2 4 = v 4 := hag 4 (by decide)
      have g5 : v2 5 = v 5 := hag 5 (by decide)
      have e74_33 : xE (zyEl zymx B H2) 74 33 = xE (zyEl zymx B H) 74 33 := xFr_E hfr rfl
      have e84 : ∀ i, xE (zyEl zymx B H2) 84 i = xE (zyEl zymx B H) 84 i := fun i => xFr_E hfr rfl
      have y74_33 : ((2147483648 : Nat) : Int) ≤ xE (zyEl zymx B s.heap) 74 33 + 2147483648 ∧ xE (zyEl zymx B s.heap) 74 33 + 2147483648 ≤ ((2147484548 : Nat) : Int) := xTyF hT0 74 33 33 rfl rfl rfl rfl rfl rfl
      have hI : (zyEl zymx B H) = (zyEl zymx B s.heap) ∧ (v 1) = x0 0 ∧ (v 2) = x0 1 ∧ (v 3) = x0 2 ∧ (v 4) = x0 3 ∧ (v 5) = x0 4 := hInv
      have q74_33 : xE (zyEl zymx B H) 74 33 = xE (zyEl zymx B s.heap) 74 33 := by rw [hI.1]
      have q84 : ∀ i, xE (zyEl zymx B H) 84 i = xE (zyEl zymx B s.heap) 84 i := fun i => by rw [hI.1]
      obtain ⟨hE, i1, i2, i3, i4, i5⟩ := hI
      have z74_33 : ((2147483648 : Nat) : Int) ≤ xE (zyEl zymx B H2) 74 33 + 2147483648 ∧ xE (zyEl zymx B H2) 74 33 + 2147483648 ≤ ((2147484548 : Nat) : Int) := xTyF hT2 74 33 33 rfl rfl rfl rfl rfl rfl
      refine xGo hIH hAt hB hv hFr ⟨1, by decide⟩ [0, 34359738369, 68719476737, 103079215105, 137438953473, 171798691841] [0, (v2 1), (v2 2), (v2 3), (v2 4), (v2 5), xE (zyEl zymx B H2) 74 33] rfl ⟨by decide +kernel, ⟨rfl, by decide +kernel⟩, (xcs_c rfl (xcs_c rfl (xcs_c rfl (xcs_c rfl (xcs_c rfl (xcs_c rfl xcs_n)))))), (xe_0 (xe_f (by omega) (xe_f (by omega) (xe_f (by omega) (xe_f (by omega) (xe_f (by omega) (xe_c (by omega) (by omega) rfl xe_n))))))), (xkq_c hT2 74 33 (q := 33) rfl rfl rfl rfl rfl rfl rfl rfl rfl rfl rfl xkq_n)⟩ xst_n ?_ ?_
      · show (zyEl zymx B H2) = (zyEl zymx B s.heap) ∧ ((v2 1) : Int) = x0 0 ∧ ((v2 2) : Int) = x0 1 ∧ ((v2 3) : Int) = x0 2 ∧ ((v2 4) : Int) = x0 3 ∧ ((v2 5) : Int) = x0 4
        exact ⟨(xFr_n hfr).trans hE, by omega, by omega, by omega, by omega, by omega⟩
      · show 10 < 11
        omega
    · have hx : x ∈ [zxffx_ax0] := hx
      have hag : ∀ k, k < 7 → v2 k = v k := hag
      have hfr : xFr [(74, 3, 3)] _ _ := hfr
      have ex := List.mem_singleton.mp hx
      subst ex
      obtain ⟨hF, hBd, hM⟩ := hXs
      have r1 := hr2 1
      have r2 := hr2 2
      have r3 := hr2 3
      have r4 := hr2 4
      have r5 := hr2 5
      have g1 : v2 1 = v 1 := hag 1 (by decide)
      have g2 : v2 2 = v 2 := hag 2 (by decide)
      have g3 : v2 3 = v 3 := hag 3 (by decide)
      have g4 : v2 4 = v 4 := hag 4 (by decide)
      have g5 : v2 5 = v 5 := hag 5 (by decide)
      have g6 : v2 6 = v 6 := hag 6 (by decide)
      have b0 : ((2147483648 : Nat) : Int) ≤ (v2 6) + 2147483648 ∧ (v2 6) + 2147483648 ≤ ((2147484528 : Nat) : Int) := xXb hBd 0 rfl
      have k0 : xE (zyEl zymx B H) 74 33 = v 6 := xKcf hKc 0 rfl rfl
      have f0 : (v2 6 + 20) ≤ 900 := xXf hF 0 rfl
      have m0 : xE (zyEl zymx B H2) 74 3 = 0 := xXm hM 0 rfl
      have m1 : xE (zyEl zymx B H2) 74 33 = (v2 6) := xXm hM 1 rfl
      have e74_33 : xE (zyEl zymx B H2) 74 33 = xE (zyEl zymx B H) 74 33 := xFr_E hfr rfl
      have e84 : ∀ i, xE (zyEl zymx B H2) 84 i = xE (zyEl zymx B H) 84 i := fun i => xFr_E hfr rfl
      have y74_33 : ((2147483648 : Nat) : Int) ≤ xE (zyEl zymx B s.heap) 74 33 + 2147483648 ∧ xE (zyEl zymx B s.heap) 74 33 + 2147483648 ≤ ((2147484548 : Nat) : Int) := xTyF hT0 74 33 33 rfl rfl rfl rfl rfl rfl
      have hI : (zyEl zymx B H) = (zyEl zymx B s.heap) ∧ (v 1) = x0 0 ∧ (v 2) = x0 1 ∧ (v 3) = x0 2 ∧ (v 4) = x0 3 ∧ (v 5) = x0 4 := hInv
      have q74_33 : xE (zyEl zymx B H) 74 33 = xE (zyEl zymx B s.heap) 74 33 := by rw [hI.1]
      have q84 : ∀ i, xE (zyEl zymx B H) 84 i = xE (zyEl zymx B s.heap) 84 i := fun i => by rw [hI.1]
      obtain ⟨hE, i1, i2, i3, i4, i5⟩ := hI
      refine xCa hRu hIH hAt hB hv hFr (hfpu B) (ix := 409) (ax := 4976) rfl rfl rfl hmefpu ⟨_, rfl, rfl, by decide⟩ ⟨rfl, rfl, rfl⟩ (by decide) [34359738369] [] [(v2 1)] rfl ⟨rfl, rfl⟩ (by decide +kernel) (xcs_c rfl xcs_n) (by decide +kernel) ?_ (fun H3 r hT3 hf3 hFr3 hr3 hΨ3 => ?_)
      · show xΦfpu (xfv [(v2 1)]) (zyEl zymx B H2)
        unfold xΦfpu
        omega
      · have hΨ3 : xΨfpu (xfv [(v2 1)]) (zyEl zymx B H2) (zyEl zymx B H3) r := hΨ3
        skip
        obtain ⟨p1, p2, p3⟩ := hΨ3
        have hx : xfv [(v2 1)] 0 = x0 0 := by show (v2 1) = _; omega
        refine ⟨⟨2, by decide⟩, [0, 34359738369, 68719476737, 103079215105, 137438953473, 171798691841], [0, (v2 1), (v2 2), (v2 3), (v2 4), (v2 5)], rfl, ⟨by decide +kernel, ⟨rfl, by decide +kernel⟩, (xcs_c rfl (xcs_c rfl (xcs_c rfl (xcs_c rfl (xcs_c rfl (xcs_c rfl xcs_n)))))), (xe_0 (xe_f (by omega) (xe_f (by omega) (xe_f (by omega) (xe_f (by omega) (xe_f (by omega) xe_n)))))), xkq_n⟩, (by rw [if_neg (by decide)]; exact xst_n), ?_, ?_⟩
        · show ((v2 1) : Int) = x0 0 ∧ ((v2 2) : Int) = x0 1 ∧ ((v2 3) : Int) = x0 2 ∧ ((v2 4) : Int) = x0 3 ∧ ((v2 5) : Int) = x0 4 ∧ (xE (zyEl zymx B s.heap) 74 33 ≤ 880) ∧ (xE (zyEl zymx B H3) 74 33 = xE (zyEl zymx B s.heap) 74 33 + 4) ∧ (∀ i, 0 ≤ i → i < 4 → xE (zyEl zymx B H3) 84 (xE (zyEl zymx B s.heap) 74 33 + i) = fbs x0 i) ∧ (∀ i, 0 ≤ i → i < xE (zyEl zymx B s.heap) 74 33 → xE (zyEl zymx B H3) 84 i = xE (zyEl zymx B s.heap) 84 i)
          refine ⟨by omega, by omega, by omega, by omega, by omega, by omega, by omega, fun i k0 k1 => ?_, fun i k0 k1 => ?_⟩
          · by_cases hq : i < 0
            · omega
            · have w := p2 (i - 0) (by omega) (by omega)
              rw [show xE (zyEl zymx B H2) 74 33 + (i - 0) = xE (zyEl zymx B s.heap) 74 33 + i by omega, hx] at w
              rw [w]
              unfold fbs
              rw [show i / 4 = 0 by omega, show i % 4 = i - 0 by omega]
              rfl
          · rw [p3 _ (by omega) (by omega)]
            rw [e84, q84]
        · show 8 < 10
          omega
    · have hx : x ∈ [zxffx_b1x0] := hx
      have hag : ∀ k, k < 6 → v2 k = v k := hag
      have hfr : xFr [] _ _ := hfr
      have ex := List.mem_singleton.mp hx
      subst ex
      obtain ⟨hF, hBd, hM⟩ := hXs
      have r1 := hr2 1
      have r2 := hr2 2
      have r3 := hr2 3
      have r4 := hr2 4
      have r5 := hr2 5
      have g1 : v2 1 = v 1 := hag 1 (by decide)
      have g2 : v2 2 = v 2 := hag 2 (by decide)
      have g3 : v2 3 = v 3 := hag 3 (by decide)
      have g4 : v2 4 = v 4 := hag 4 (by decide)
      have g5 : v2 5 = v 5 := hag 5 (by decide)
      have e74_33 : xE (zyEl zymx B H2) 74 33 = xE (zyEl zymx B H) 74 33 := xFr_E hfr rfl
      have e84 : ∀ i, xE (zyEl zymx B H2) 84 i = xE (zyEl zymx B H) 84 i := fun i => xFr_E hfr rfl
      have y74_33 : ((2147483648 : Nat) : Int) ≤ xE (zyEl zymx B s.heap) 74 33 + 2147483648 ∧ xE (zyEl zymx B s.heap) 74 33 + 2147483648 ≤ ((2147484548 : Nat) : Int) := xTyF hT0 74 33 33 rfl rfl rfl rfl rfl rfl
      have hI : (v 1) = x0 0 ∧ (v 2) = x0 1 ∧ (v 3) = x0 2 ∧ (v 4) = x0 3 ∧ (v 5) = x0 4 ∧ (xE (zyEl zymx B s.heap) 74 33 ≤ 880) ∧ (xE (zyEl zymx B H) 74 33 = xE (zyEl zymx B s.heap) 74 33 + 4) ∧ (∀ i, 0 ≤ i → i < 4 → xE (zyEl zymx B H) 84 (xE (zyEl zymx B s.heap) 74 33 + i) = fbs x0 i) ∧ (∀ i, 0 ≤ i → i < xE (zyEl zymx B s.heap) 74 33 → xE (zyEl zymx B H) 84 i = xE (zyEl zymx B s.heap) 84 i) := hInv
      obtain ⟨i1, i2, i3, i4, i5, i6, i7, j1, j2⟩ := hI
      refine xCa hRu hIH hAt hB hv hFr (hfpu B) (ix := 409) (ax := 4976) rfl rfl rfl hmefpu ⟨_, rfl, rfl, by decide⟩ ⟨rfl, rfl, rfl⟩ (by decide) [68719476737] [] [(v2 2)] rfl ⟨rfl, rfl⟩ (by decide +kernel) (xcs_c rfl xcs_n) (by decide +kernel) ?_ (fun H3 r hT3 hf3 hFr3 hr3 hΨ3 => ?_)
      · show xΦfpu (xfv [(v2 2)]) (zyEl zymx B H2)
        unfold xΦfpu
        omega
      · have hΨ3 : xΨfpu (xfv [(v2 2)]) (zyEl zymx B H2) (zyEl zymx B H3) r := hΨ3
        skip
        obtain ⟨p1, p2, p3⟩ := hΨ3
        have hx : xfv [(v2 2)] 0 = x0 1 := by show (v2 2) = _; omega
        refine ⟨⟨3, by decide⟩, [0, 34359738369, 68719476737, 103079215105, 137438953473, 171798691841], [0, (v2 1), (v2 2), (v2 3), (v2 4), (v2 5)], rfl, ⟨by decide +kernel, ⟨rfl, by decide +kernel⟩, (xcs_c rfl (xcs_c rfl (xcs_c rfl (xcs_c rfl (xcs_c rfl (xcs_c rfl xcs_n)))))), (xe_0 (xe_f (by omega) (xe_f (by omega) (xe_f (by omega) (xe_f (by omega) (xe_f (by omega) xe_n)))))), xkq_n⟩, (by rw [if_neg (by decide)]; exact xst_n), ?_, ?_⟩
        · show ((v2 1) : Int) = x0 0 ∧ ((v2 2) : Int) = x0 1 ∧ ((v2 3) : Int) = x0 2 ∧ ((v2 4) : Int) = x0 3 ∧ ((v2 5) : Int) = x0 4 ∧ (xE (zyEl zymx B s.heap) 74 33 ≤ 880) ∧ (xE (zyEl zymx B H3) 74 33 = xE (zyEl zymx B s.heap) 74 33 + 8) ∧ (∀ i, 0 ≤ i → i < 8 → xE (zyEl zymx B H3) 84 (xE (zyEl zymx B s.heap) 74 33 + i) = fbs x0 i) ∧ (∀ i, 0 ≤ i → i < xE (zyEl zymx B s.heap) 74 33 → xE (zyEl zymx B H3) 84 i = xE (zyEl zymx B s.heap) 84 i)
          refine ⟨by omega, by omega, by omega, by omega, by omega, by omega, by omega, fun i k0 k1 => ?_, fun i k0 k1 => ?_⟩
          · by_cases hq : i < 4
            · rw [p3 _ (by omega) (by omega)]
              rw [e84]
              exact j1 i k0 hq
            · have w := p2 (i - 4) (by omega) (by omega)
              rw [show xE (zyEl zymx B H2) 74 33 + (i - 4) = xE (zyEl zymx B s.heap) 74 33 + i by omega, hx] at w
              rw [w]
              unfold fbs
              rw [show i / 4 = 1 by omega, show i % 4 = i - 4 by omega]
              rfl
          · rw [p3 _ (by omega) (by omega)]
            rw [e84]
            exact j2 i k0 k1
        · show 7 < 8
          omega
    · have hx : x ∈ [zxffx_b2x0] := hx
      have hag : ∀ k, k < 6 → v2 k = v k := hag
      have hfr : xFr [] _ _ := hfr
      have ex := List.mem_singleton.mp hx
      subst ex
      obtain ⟨hF, hBd, hM⟩ := hXs
      have r1 := hr2 1
      have r2 := hr2 2
      have r3 := hr2 3
      have r4 := hr2 4
      have r5 := hr2 5
      have g1 : v2 1 = v 1 := hag 1 (by decide)
      have g2 : v2 2 = v 2 := hag 2 (by decide)
      have g3 : v2 3 = v 3 := hag 3 (by decide)
      have g4 : v2 4 = v 4 := hag 4 (by decide)
      have g5 : v2 5 = v 5 := hag 5 (by decide)
      have e74_33 : xE (zyEl zymx B H2) 74 33 = xE (zyEl zymx B H) 74 33 := xFr_E hfr rfl
      have e84 : ∀ i, xE (zyEl zymx B H2) 84 i = xE (zyEl zymx B H) 84 i := fun i => xFr_E hfr rfl
      have y74_33 : ((2147483648 : Nat) : Int) ≤ xE (zyEl zymx B s.heap) 74 33 + 2147483648 ∧ xE (zyEl zymx B s.heap) 74 33 + 2147483648 ≤ ((2147484548 : Nat) : Int) := xTyF hT0 74 33 33 rfl rfl rfl rfl rfl rfl
      have hI : (v 1) = x0 0 ∧ (v 2) = x0 1 ∧ (v 3) = x0 2 ∧ (v 4) = x0 3 ∧ (v 5) = x0 4 ∧ (xE (zyEl zymx B s.heap) 74 33 ≤ 880) ∧ (xE (zyEl zymx B H) 74 33 = xE (zyEl zymx B s.heap) 74 33 + 8) ∧ (∀ i, 0 ≤ i → i < 8 → xE (zyEl zymx B H) 84 (xE (zyEl zymx B s.heap) 74 33 + i) = fbs x0 i) ∧ (∀ i, 0 ≤ i → i < xE (zyEl zymx B s.heap) 74 33 → xE (zyEl zymx B H) 84 i = xE (zyEl zymx B s.heap) 84 i) := hInv
      obtain ⟨i1, i2, i3, i4, i5, i6, i7, j1, j2⟩ := hI
      refine xCa hRu hIH hAt hB hv hFr (hfpu B) (ix := 409) (ax := 4976) rfl rfl rfl hmefpu ⟨_, rfl, rfl, by decide⟩ ⟨rfl, rfl, rfl⟩ (by decide) [103079215105] [] [(v2 3)] rfl ⟨rfl, rfl⟩ (by decide +kernel) (xcs_c rfl xcs_n) (by decide +kernel) ?_ (fun H3 r hT3 hf3 hFr3 hr3 hΨ3 => ?_)
      · show xΦfpu (xfv [(v2 3)]) (zyEl zymx B H2)
        unfold xΦfpu
        omega
      · have hΨ3 : xΨfpu (xfv [(v2 3)]) (zyEl zymx B H2) (zyEl zymx B H3) r := hΨ3
        skip
        obtain ⟨p1, p2, p3⟩ := hΨ3
        have hx : xfv [(v2 3)] 0 = x0 2 := by show (v2 3) = _; omega
        refine ⟨⟨4, by decide⟩, [0, 34359738369, 68719476737, 103079215105, 137438953473, 171798691841], [0, (v2 1), (v2 2), (v2 3), (v2 4), (v2 5)], rfl, ⟨by decide +kernel, ⟨rfl, by decide +kernel⟩, (xcs_c rfl (xcs_c rfl (xcs_c rfl (xcs_c rfl (xcs_c rfl (xcs_c rfl xcs_n)))))), (xe_0 (xe_f (by omega) (xe_f (by omega) (xe_f (by omega) (xe_f (by omega) (xe_f (by omega) xe_n)))))), xkq_n⟩, (by rw [if_neg (by decide)]; exact xst_n), ?_, ?_⟩
        · show ((v2 1) : Int) = x0 0 ∧ ((v2 2) : Int) = x0 1 ∧ ((v2 3) : Int) = x0 2 ∧ ((v2 4) : Int) = x0 3 ∧ ((v2 5) : Int) = x0 4 ∧ (xE (zyEl zymx B s.heap) 74 33 ≤ 880) ∧ (xE (zyEl zymx B H3) 74 33 = xE (zyEl zymx B s.heap) 74 33 + 12) ∧ (∀ i, 0 ≤ i → i < 12 → xE (zyEl zymx B H3) 84 (xE (zyEl zymx B s.heap) 74 33 + i) = fbs x0 i) ∧ (∀ i, 0 ≤ i → i < xE (zyEl zymx B s.heap) 74 33 → xE (zyEl zymx B H3) 84 i = xE (zyEl zymx B s.heap) 84 i)
          refine ⟨by omega, by omega, by omega, by omega, by omega, by omega, by omega, fun i k0 k1 => ?_, fun i k0 k1 => ?_⟩
          · by_cases hq : i < 8
            · rw [p3 _ (by omega) (by omega)]
              rw [e84]
              exact j1 i k0 hq
            · have w := p2 (i - 8) (by omega) (by omega)
              rw [show xE (zyEl zymx B H2) 74 33 + (i - 8) = xE (zyEl zymx B s.heap) 74 33 + i by omega, hx] at w
              rw [w]
              unfold fbs
              rw [show i / 4 = 2 by omega, show i % 4 = i - 8 by omega]
              rfl
          · rw [p3 _ (by omega) (by omega)]
            rw [e84]
            exact j2 i k0 k1
        · show 6 < 7
          omega
    · have hx : x ∈ [zxffx_b3x0] := hx
      have hag : ∀ k, k < 6 → v2 k = v k := hag
      have hfr : xFr [] _ _ := hfr
      have ex := List.mem_singleton.mp hx
      subst ex
      obtain ⟨hF, hBd, hM⟩ := hXs
      have r1 := hr2 1
      have r2 := hr2 2
      have r3 := hr2 3
      have r4 := hr2 4
      have r5 := hr2 5
      have g1 : v2 1 = v 1 := hag 1 (by decide)
      have g2 : v2 2 = v 2 := hag 2 (by decide)
      have g3 : v2 3 = v 3 := hag 3 (by decide)
      have g4 : v2 4 = v 4 := hag 4 (by decide)
      have g5 : v2 5 = v 5 := hag 5 (by decide)
      have e74_33 : xE (zyEl zymx B H2) 74 33 = xE (zyEl zymx B H) 74 33 := xFr_E hfr rfl
      have e84 : ∀ i, xE (zyEl zymx B H2) 84 i = xE (zyEl zymx B H) 84 i := fun i => xFr_E hfr rfl
      have y74_33 : ((2147483648 : Nat) : Int) ≤ xE (zyEl zymx B s.heap) 74 33 + 2147483648 ∧ xE (zyEl zymx B s.heap) 74 33 + 2147483648 ≤ ((2147484548 : Nat) : Int) := xTyF hT0 74 33 33 rfl rfl rfl rfl rfl rfl
      have hI : (v 1) = x0 0 ∧ (v 2) = x0 1 ∧ (v 3) = x0 2 ∧ (v 4) = x0 3 ∧ (v 5) = x0 4 ∧ (xE (zyEl zymx B s.heap) 74 33 ≤ 880) ∧ (xE (zyEl zymx B H) 74 33 = xE (zyEl zymx B s.heap) 74 33 + 12) ∧ (∀ i, 0 ≤ i → i < 12 → xE (zyEl zymx B H) 84 (xE (zyEl zymx B s.heap) 74 33 + i) = fbs x0 i) ∧ (∀ i, 0 ≤ i → i < xE (zyEl zymx B s.heap) 74 33 → xE (zyEl zymx B H) 84 i = xE (zyEl zymx B s.heap) 84 i) := hInv
      obtain ⟨i1, i2, i3, i4, i5, i6, i7, j1, j2⟩ := hI
      refine xCa hRu hIH hAt hB hv hFr (hfpu B) (ix := 409) (ax := 4976) rfl rfl rfl hmefpu ⟨_, rfl, rfl, by decide⟩ ⟨rfl, rfl, rfl⟩ (by decide) [137438953473] [] [(v2 4)] rfl ⟨rfl, rfl⟩ (by decide +kernel) (xcs_c rfl xcs_n) (by decide +kernel) ?_ (fun H3 r hT3 hf3 hFr3 hr3 hΨ3 => ?_)
      · show xΦfpu (xfv [(v2 4)]) (zyEl zymx B H2)
        unfold xΦfpu
        omega
      · have hΨ3 : xΨfpu (xfv [(v2 4)]) (zyEl zymx B H2) (zyEl zymx B H3) r := hΨ3
        skip
        obtain ⟨p1, p2, p3⟩ := hΨ3
        have hx : xfv [(v2 4)] 0 = x0 3 := by show (v2 4) = _; omega
        refine ⟨⟨5, by decide⟩, [0, 34359738369, 68719476737, 103079215105, 137438953473, 171798691841], [0, (v2 1), (v2 2), (v2 3), (v2 4), (v2 5)], rfl, ⟨by decide +kernel, ⟨rfl, by decide +kernel⟩, (xcs_c rfl (xcs_c rfl (xcs_c rfl (xcs_c rfl (xcs_c rfl (xcs_c rfl xcs_n)))))), (xe_0 (xe_f (by omega) (xe_f (by omega) (xe_f (by omega) (xe_f (by omega) (xe_f (by omega) xe_n)))))), xkq_n⟩, (by rw [if_neg (by decide)]; exact xst_n), ?_, ?_⟩
        · show ((v2 1) : Int) = x0 0 ∧ ((v2 2) : Int) = x0 1 ∧ ((v2 3) : Int) = x0 2 ∧ ((v2 4) : Int) = x0 3 ∧ ((v2 5) : Int) = x0 4 ∧ (xE (zyEl zymx B s.heap) 74 33 ≤ 880) ∧ (xE (zyEl zymx B H3) 74 33 = xE (zyEl zymx B s.heap) 74 33 + 16) ∧ (∀ i, 0 ≤ i → i < 16 → xE (zyEl zymx B H3) 84 (xE (zyEl zymx B s.heap) 74 33 + i) = fbs x0 i) ∧ (∀ i, 0 ≤ i → i < xE (zyEl zymx B s.heap) 74 33 → xE (zyEl zymx B H3) 84 i = xE (zyEl zymx B s.heap) 84 i)
          refine ⟨by omega, by omega, by omega, by omega, by omega, by omega, by omega, fun i k0 k1 => ?_, fun i k0 k1 => ?_⟩
          · by_cases hq : i < 12
            · rw [p3 _ (by omega) (by omega)]
              rw [e84]
              exact j1 i k0 hq
            · have w := p2 (i - 12) (by omega) (by omega)
              rw [show xE (zyEl zymx B H2) 74 33 + (i - 12) = xE (zyEl zymx B s.heap) 74 33 + i by omega, hx] at w
              rw [w]
              unfold fbs
              rw [show i / 4 = 3 by omega, show i % 4 = i - 12 by omega]
              rfl
          · rw [p3 _ (by omega) (by omega)]
            rw [e84]
            exact j2 i k0 k1
        · show 5 < 6
          omega
    · have hx : x ∈ [zxffx_b4x0] := hx
      have hag : ∀ k, k < 6 → v2 k = v k := hag
      have hfr : xFr [] _ _ := hfr
      have ex := List.mem_singleton.mp hx
      subst ex
      obtain ⟨hF, hBd, hM⟩ := hXs
      have r1 := hr2 1
      have r2 := hr2 2
      have r3 := hr2 3
      have r4 := hr2 4
      have r5 := hr2 5
      have g1 : v2 1 = v 1 := hag 1 (by decide)
      have g2 : v2 2 = v 2 := hag 2 (by decide)
      have g3 : v2 3 = v 3 := hag 3 (by decide)
      have g4 : v2 4 = v 4 := hag 4 (by decide)
      have g5 : v2 5 = v 5 := hag 5 (by decide)
      have e74_33 : xE (zyEl zymx B H2) 74 33 = xE (zyEl zymx B H) 74 33 := xFr_E hfr rfl
      have e84 : ∀ i, xE (zyEl zymx B H2) 84 i = xE (zyEl zymx B H) 84 i := fun i => xFr_E hfr rfl
      have y74_33 : ((2147483648 : Nat) : Int) ≤ xE (zyEl zymx B s.heap) 74 33 + 2147483648 ∧ xE (zyEl zymx B s.heap) 74 33 + 2147483648 ≤ ((2147484548 : Nat) : Int) := xTyF hT0 74 33 33 rfl rfl rfl rfl rfl rfl
      have hI : (v 1) = x0 0 ∧ (v 2) = x0 1 ∧ (v 3) = x0 2 ∧ (v 4) = x0 3 ∧ (v 5) = x0 4 ∧ (xE (zyEl zymx B s.heap) 74 33 ≤ 880) ∧ (xE (zyEl zymx B H) 74 33 = xE (zyEl zymx B s.heap) 74 33 + 16) ∧ (∀ i, 0 ≤ i → i < 16 → xE (zyEl zymx B H) 84 (xE (zyEl zymx B s.heap) 74 33 + i) = fbs x0 i) ∧ (∀ i, 0 ≤ i → i < xE (zyEl zymx B s.heap) 74 33 → xE (zyEl zymx B H) 84 i = xE (zyEl zymx B s.heap) 84 i) := hInv
      obtain ⟨i1, i2, i3, i4, i5, i6, i7, j1, j2⟩ := hI
      refine xCa hRu hIH hAt hB hv hFr (hfpu B) (ix := 409) (ax := 4976) rfl rfl rfl hmefpu ⟨_, rfl, rfl, by decide⟩ ⟨rfl, rfl, rfl⟩ (by decide) [171798691841] [] [(v2 5)] rfl ⟨rfl, rfl⟩ (by decide +kernel) (xcs_c rfl xcs_n) (by decide +kernel) ?_ (fun H3 r hT3 hf3 hFr3 hr3 hΨ3 => ?_)
      · show xΦfpu (xfv [(v2 5)]) (zyEl zymx B H2)
        unfold xΦfpu
        omega
      · have hΨ3 : xΨfpu (xfv [(v2 5)]) (zyEl zymx B H2) (zyEl zymx B H3) r := hΨ3
        have z74_33 : ((2147483648 : Nat) : Int) ≤ xE (zyEl zymx B H3) 74 33 + 2147483648 ∧ xE (zyEl zymx B H3) 74 33 + 2147483648 ≤ ((2147484548 : Nat) : Int) := xTyF hT3 74 33 33 rfl rfl rfl rfl rfl rfl
        obtain ⟨p1, p2, p3⟩ := hΨ3
        have hx : xfv [(v2 5)] 0 = x0 4 := by show (v2 5) = _; omega
        refine ⟨⟨6, by decide⟩, [0, 34359738369, 68719476737, 103079215105, 137438953473, 171798691841], [0, (v2 1), (v2 2), (v2 3), (v2 4), (v2 5), xE (zyEl zymx B H3) 74 33], rfl, ⟨by decide +kernel, ⟨rfl, by decide +kernel⟩, (xcs_c rfl (xcs_c rfl (xcs_c rfl (xcs_c rfl (xcs_c rfl (xcs_c rfl xcs_n)))))), (xe_0 (xe_f (by omega) (xe_f (by omega) (xe_f (by omega) (xe_f (by omega) (xe_f (by omega) (xe_c (by omega) (by omega) rfl xe_n))))))), (xkq_c hT3 74 33 (q := 33) rfl rfl rfl rfl rfl rfl rfl rfl rfl rfl rfl xkq_n)⟩, (by rw [if_neg (by decide)]; exact xst_n), ?_, ?_⟩
        · show ((v2 1) : Int) = x0 0 ∧ ((v2 2) : Int) = x0 1 ∧ ((v2 3) : Int) = x0 2 ∧ ((v2 4) : Int) = x0 3 ∧ ((v2 5) : Int) = x0 4 ∧ (xE (zyEl zymx B s.heap) 74 33 ≤ 880) ∧ (xE (zyEl zymx B H3) 74 33 = xE (zyEl zymx B s.heap) 74 33 + 20) ∧ (∀ i, 0 ≤ i → i < 20 → xE (zyEl zymx B H3) 84 (xE (zyEl zymx B s.heap) 74 33 + i) = fbs x0 i) ∧ (∀ i, 0 ≤ i → i < xE (zyEl zymx B s.heap) 74 33 → xE (zyEl zymx B H3) 84 i = xE (zyEl zymx B s.heap) 84 i)
          refine ⟨by omega, by omega, by omega, by omega, by omega, by omega, by omega, fun i k0 k1 => ?_, fun i k0 k1 => ?_⟩
          · by_cases hq : i < 16
            · rw [p3 _ (by omega) (by omega)]
              rw [e84]
              exact j1 i k0 hq
            · have w := p2 (i - 16) (by omega) (by omega)
              rw [show xE (zyEl zymx B H2) 74 33 + (i - 16) = xE (zyEl zymx B s.heap) 74 33 + i by omega, hx] at w
              rw [w]
              unfold fbs
              rw [show i / 4 = 4 by omega, show i % 4 = i - 16 by omega]
              rfl
          · rw [p3 _ (by omega) (by omega)]
            rw [e84]
            exact j2 i k0 k1
        · show 4 < 5
          omega
    · cases hx
  · intro x0 E0 E E2 hrx hT0 hΦ i v hT hrv hInv hKc hFr0 x hx v2 hr2 hXs hag hfr hFr hT2
    rcases i with ⟨i, hi⟩
    have hi2 : i = 0 ∨ i = 1 ∨ i = 2 ∨ i = 3 ∨ i = 4 ∨ i = 5 ∨ i = 6 := by omega
    rcases hi2 with rfl | rfl | rfl | rfl | rfl | rfl | rfl
    · cases hx
    · have hx : x ∈ [zxffx_ar0] := hx
      have hag : ∀ k, k < 7 → v2 k = v k := hag
      have hfr : xFr [(74, 3, 3)] _ _ := hfr
      have ex := List.mem_singleton.mp hx
      subst ex
      obtain ⟨hF, hBd, hM⟩ := hXs
      have g1 : v2 1 = v 1 := hag 1 (by decide)
      have g2 : v2 2 = v 2 := hag 2 (by decide)
      have g3 : v2 3 = v 3 := hag 3 (by decide)
      have g4 : v2 4 = v 4 := hag 4 (by decide)
      have g5 : v2 5 = v 5 := hag 5 (by decide)
      have g6 : v2 6 = v 6 := hag 6 (by decide)
      have b0 : ((2147484529 : Nat) : Int) ≤ (v2 6) + 2147483648 ∧ (v2 6) + 2147483648 ≤ ((2147484548 : Nat) : Int) := xXb hBd 0 rfl
      have k0 : xE E 74 33 = v 6 := xKcf hKc 0 rfl rfl
      have f0 : 900 < (v2 6 + 20) := xXf hF 0 rfl
      have m0 : xE E2 74 3 = 0 := xXm hM 0 rfl
      have m1 : xE E2 74 33 = (v2 6) := xXm hM 1 rfl
      have e74_33 : xE E2 74 33 = xE E 74 33 := xFr_E hfr rfl
      have e84 : ∀ i, xE E2 84 i = xE E 84 i := fun i => xFr_E hfr rfl
      have y74_33 : ((2147483648 : Nat) : Int) ≤ xE E0 74 33 + 2147483648 ∧ xE E0 74 33 + 2147483648 ≤ ((2147484548 : Nat) : Int) := xTyF hT0 74 33 33 rfl rfl rfl rfl rfl rfl
      have hI : E = E0 ∧ (v 1) = x0 0 ∧ (v 2) = x0 1 ∧ (v 3) = x0 2 ∧ (v 4) = x0 3 ∧ (v 5) = x0 4 := hInv
      have q74_33 : xE E 74 33 = xE E0 74 33 := by rw [hI.1]
      have q84 : ∀ i, xE E 84 i = xE E0 84 i := fun i => by rw [hI.1]
      show xΨffx x0 E0 E2 (-1)
      obtain ⟨hE, i1, i2, i3, i4, i5⟩ := hI
      unfold xΨffx
      rw [if_pos (by omega)]
      exact ⟨by omega, by omega, fun i => by rw [e84 i, q84 i]⟩
    · cases hx
    · cases hx
    · cases hx
    · cases hx
    · have hx : x ∈ [zxffx_b5r0] := hx
      have hag : ∀ k, k < 7 → v2 k = v k := hag
      have hfr : xFr [] _ _ := hfr
      have ex := List.mem_singleton.mp hx
      subst ex
      obtain ⟨hF, hBd, hM⟩ := hXs
      have g1 : v2 1 = v 1 := hag 1 (by decide)
      have g2 : v2 2 = v 2 := hag 2 (by decide)
      have g3 : v2 3 = v 3 := hag 3 (by decide)
      have g4 : v2 4 = v 4 := hag 4 (by decide)
      have g5 : v2 5 = v 5 := hag 5 (by decide)
      have g6 : v2 6 = v 6 := hag 6 (by decide)
      have b0 : ((2147483648 : Nat) : Int) ≤ (v2 6) + 2147483648 ∧ (v2 6) + 2147483648 ≤ ((2147484548 : Nat) : Int) := xXb hBd 0 rfl
      have k0 : xE E 74 33 = v 6 := xKcf hKc 0 rfl rfl
      have e74_33 : xE E2 74 33 = xE E 74 33 := xFr_E hfr rfl
      have e84 : ∀ i, xE E2 84 i = xE E 84 i := fun i => xFr_E hfr rfl
      have y74_33 : ((2147483648 : Nat) : Int) ≤ xE E0 74 33 + 2147483648 ∧ xE E0 74 33 + 2147483648 ≤ ((2147484548 : Nat) : Int) := xTyF hT0 74 33 33 rfl rfl rfl rfl rfl rfl
      have hI : (v 1) = x0 0 ∧ (v 2) = x0 1 ∧ (v 3) = x0 2 ∧ (v 4) = x0 3 ∧ (v 5) = x0 4 ∧ (xE E0 74 33 ≤ 880) ∧ (xE E 74 33 = xE E0 74 33 + 20) ∧ (∀ i, 0 ≤ i → i < 20 → xE E 84 (xE E0 74 33 + i) = fbs x0 i) ∧ (∀ i, 0 ≤ i → i < xE E0 74 33 → xE E 84 i = xE E0 84 i) := hInv
      show xΨffx x0 E0 E2 (v2 6)
      obtain ⟨i1, i2, i3, i4, i5, i6, i7, j1, j2⟩ := hI
      unfold xΨffx
      rw [if_neg (by omega)]
      exact ⟨by omega, by omega, fun i k0 k1 => (e84 _).trans (j1 i k0 k1), fun i k0 k1 => (e84 _).trans (j2 i k0 k1)⟩
end
section
/-! LONGS, by hand: fields, elements, arithmetic -/
def xRl (mi : zyB) (en : zEn) (B : zCx) (s : State) (Wg : zyWt) : Prop :=
  (∀ (pc ix ax p0 : Nat) (c : zyCl) (v : Value) (rs : List Value) (H : Heap) (locs : List Loc) (lsB : Array Slot), en.1 pc = (.getfield ix, pc + 3, ax) → zG mi p0 = some c → c.1 = ax / 64 → c.1 < 12 → zyMI mi B zyJ0 s H → zyEl mi B H p0 (ax % 64) = some v → Wg H locs (pc + 3) lsB (v :: rs) → Wg H locs pc lsB (.ref (zad B p0) :: rs)) ∧
  (∀ (pc ix ax p0 : Nat) (c : zyCl) (x : Int64) (rs : List Value) (H : Heap) (locs : List Loc) (lsB : Array Slot), en.1 pc = (.putfield ix, pc + 3, ax) → zG mi p0 = some c → c.1 = ax / 64 → c.1 < 12 → Nat.mod (zxK ax) 8 = 2 → zxK ax ≤ 7 → (∀ r ∈ c.2.2, r.1 ≤ ax % 64 → ax % 64 ≤ r.2.1 → r.2.2 = 147573952589676412932) → zyMI mi B zyJ0 s H → (∀ x ∈ locs, zbs B ≤ x.base) →
    (∀ (H3 : Heap) (locs3 : List Loc), zyMI mi B zyJ0 s H3 → zyOut mi B H H3 → (∀ x ∈ locs3, zbs B ≤ x.base) → zyEl mi B H3 p0 (ax % 64) = some (.long x) → (∀ a2 k2, ¬ (a2 = p0 ∧ k2 = ax % 64) → zyEl mi B H3 a2 k2 = zyEl mi B H a2 k2) → Wg H3 locs3 (pc + 3) lsB rs) → Wg H locs pc lsB (.long x :: .ref (zad B p0) :: rs)) ∧
  (∀ (pc ax a n : Nat) (c : zyCl) (v : Value) (rs : List Value) (H : Heap) (locs : List Loc) (lsB : Array Slot), (c.1 = 22 ∧ en.1 pc = (.baload, pc + 1, ax) ∨ c.1 = 21 ∧ en.1 pc = (.laload, pc + 1, ax)) → zG mi a = some c → n < c.2.1 → zyMI mi B zyJ0 s H → zyEl mi B H a n = some v → Wg H locs (pc + 1) lsB (v :: rs) → Wg H locs pc lsB (.int (Int32.ofNat n) :: .ref (zad B a) :: rs)) ∧
  (∀ (pc ix ax : Nat) (rs : List Value) (H : Heap) (locs : List Loc) (lsB : Array Slot), en.1 pc = (.ldc2_w ix, pc + 3, ax) → Wg H locs (pc + 3) lsB (.long (Int64.ofNat ax) :: rs) → Wg H locs pc lsB rs) ∧
  (∀ (pc ax : Nat) (x y : Int64) (rs : List Value) (H : Heap) (locs : List Loc) (lsB : Array Slot), (en.1 pc = (.lmul, pc + 1, ax) → Wg H locs (pc + 1) lsB (.long (x * y) :: rs) → Wg H locs pc lsB (.long y :: .long x :: rs)) ∧ (en.1 pc = (.ladd, pc + 1, ax) → Wg H locs (pc + 1) lsB (.long (x + y) :: rs) → Wg H locs pc lsB (.long y :: .long x :: rs)) ∧ (en.1 pc = (.lsub, pc + 1, ax) → Wg H locs (pc + 1) lsB (.long (x - y) :: rs) → Wg H locs pc lsB (.long y :: .long x :: rs)) ∧ (en.1 pc = (.lcmp, pc + 1, ax) → Wg H locs (pc + 1) lsB (.int (lg_cmp x y) :: rs) → Wg H locs pc lsB (.long y :: .long x :: rs))) ∧
  (∀ (pc ax : Nat) (x : Int32) (rs : List Value) (H : Heap) (locs : List Loc) (lsB : Array Slot), en.1 pc = (.i2l, pc + 1, ax) → Wg H locs (pc + 1) lsB (.long x.toInt64 :: rs) → Wg H locs pc lsB (.int x :: rs)) ∧
  (∀ (pc ax : Nat) (k : Fin 4) (q : Nat) (rs : List Value) (H : Heap) (locs : List Loc) (lsB : Array Slot), en.1 pc = (.aload_n k, pc + 1, ax) → lsB[(k : Nat)]? = some (.val (.ref q)) → Wg H locs (pc + 1) lsB (.ref q :: rs) → Wg H locs pc lsB rs) ∧
  (∀ (pc ax : Nat) (o : Int) (rs : List Value) (H : Heap) (locs : List Loc) (lsB : Array Slot), en.1 pc = (.goto o, pc + 3, ax) → Wg H locs ax lsB rs → Wg H locs pc lsB rs) ∧
  (∀ (pc ax : Nat) (k : Fin 2) (rs : List Value) (H : Heap) (locs : List Loc) (lsB : Array Slot), en.1 pc = (.lconst k, pc + 1, ax) → Wg H locs (pc + 1) lsB (.long (Int64.ofNat (k : Nat)) :: rs) → Wg H locs pc lsB rs) ∧
  (∀ (pc ax : Nat) (k : Fin 4) (x : Int32) (rs : List Value) (H : Heap) (locs : List Loc) (lsB : Array Slot), en.1 pc = (.iload_n k, pc + 1, ax) → lsB[(k : Nat)]? = some (.val (.int x)) → Wg H locs (pc + 1) lsB (.int x :: rs) → Wg H locs pc lsB rs)
theorem xRl_ok {l : Launch} {mi : zyB} {y0 dep : Nat} {en : zEn} {me : zMe} {p : Program} {e : Env} {s : State} {mt : MethodId} {args : Array Value} {below : List Frame} {meth : Method} {c : Code} {Q : State → Prop} {B : zCx} (hOK : zOK y0 en me) (hexec : p.tables.exec = Jvm.exec) (hb : c.code = me.2.1) (hown : s.vm.findClass me.2.2.2 = some mt.cls) (hK : zKn B s) :
    xRl mi en B s (fun H locs pc lsB stA => W p l e { frames := dep, cells := en.2.2.2.2.2.1, slots := en.2.2.2.2.2.2.1, locals := 64 * dep } s mt args below meth c H locs 0 0 Q (F0 mt pc lsB stA)) := by
  refine ⟨?_, ?_, ?_, ?_, ?_, ?_, ?_, ?_, ?_, ?_⟩
  · intro pc ix ax p0 c2 v rs H locs lsB hrow hg hc1 hc12 hI hel kk
    have hr := hOK.1 pc
    rw [hrow] at hr
    rcases hr with hn | ⟨hlen, hdec, pp, hlk⟩
    · cases hn
    obtain ⟨-, hd⟩ := zdec (k := 3) rfl (by decide) hlen hdec
    have hlk : zlf me.2.2.2 ix ax pp = true := hlk
    have hcx : ax / 64 < 12 := by omega
    unfold zlf at hlk
    rw [if_neg (by omega), if_neg (by omega)] at hlk
    simp only [Bool.and_eq_true, Bool.or_eq_true, decide_eq_true_eq] at hlk
    obtain ⟨⟨-, hkN⟩, hlk⟩ := hlk
    have hlen2 : zyLen c2 = zxCn (ax / 64) := by
      rw [← hc1]
      exact if_pos hc12
    obtain ⟨-, hsh⟩ := hI.1 _ _ hg
    rcases hsh with ⟨q1, cell, q2, q3, q4⟩ | ⟨ty, cA, f, q1, -⟩
    rotate_left
    · exfalso
      have := zty_kd q1
      omega
    have hsl : cell.slots[zdI B (ax / 64) (ax % 64)]? = some v := by
      rw [zyEl_some hg (by rw [hlen2]; exact hkN), q2, Option.bind_some] at hel
      rw [if_pos hc12, hc1] at hel
      exact hel
    obtain ⟨hSl, hfc, kC, hkC, hkind⟩ := hK.2.1 (ax / 64) _ (zvw _ hcx)
    obtain ⟨cf0, kf, fi, f, hi, hse⟩ := hSl (ax % 64) hkN
    have hstat := (u_facts (args := args) hfc hkC (u_lays (zTs_ok hK) (zTs_in hcx) hkN) hi).1
    rcases hlk with hlk | hlk
    · exact W.getf hexec hb hown (zword (args := args) hK (zwd_mem hlk) rfl) hi hstat q2 (by rw [q4]; exact fun z => by cases z) (v := v) (by rw [hse]; exact hsl) rfl rfl hd kk
    · exact va_Wgetf hexec hb hown (zword (args := args) hK (zwd_mem hlk) rfl) hi hstat q2 (by rw [q4]; exact fun z => by cases z) (v := v) (by rw [hse]; exact hsl) rfl rfl hd kk
  · intro pc ix ax p0 c2 x rs H locs lsB hrow hg hc1 hc12 hk2 hk7 hrows hI hlo kk
    have hr := hOK.1 pc
    rw [hrow] at hr
    rcases hr with hn | ⟨hlen, hdec, pp, hlk⟩
    · cases hn
    obtain ⟨-, hd⟩ := zdec (k := 3) rfl (by decide) hlen hdec
    have hlk : (decide (ax < 768) && zlf me.2.2.2 ix ax pp) = true := hlk
    rw [Bool.and_eq_true] at hlk
    have hlk := hlk.2
    have hcx : ax / 64 < 12 := by omega
    unfold zlf at hlk
    rw [if_neg (by omega), if_neg (by omega)] at hlk
    simp only [Bool.and_eq_true, Bool.or_eq_true, decide_eq_true_eq] at hlk
    obtain ⟨⟨-, hkN⟩, hlk⟩ := hlk
    have hlen2 : zyLen c2 = zxCn (ax / 64) := by
      rw [← hc1]
      exact if_pos hc12
    obtain ⟨hlt90, hsh⟩ := hI.1 _ _ hg
    rcases hsh with ⟨q1, cell, q2, q3, q4⟩ | ⟨ty, cA, f, q1, -⟩
    rotate_left
    · exfalso
      have := zty_kd q1
      omega
    obtain ⟨z1, z2, z3, -⟩ := zkks (ax / 64) hcx (ax % 64) hkN
    have e64 : 64 * (ax / 64) + ax % 64 = ax := by omega
    rw [e64] at z1 z2
    have hM0 : zyMem (mi, fun _ => [], [(p0, ax % 64, ax % 64)], [], 0) (B, fun _ => 0, 0, fun _ => 0, 0, (zyEl mi B H, fun q => H[q]?), zyJ0) s [] H := zyMem_new hI (fun p hp => by cases hp)
    have hvl : zyV (B, fun _ => 0, 0, fun _ => 0, 0, (zyEl mi B H, fun q => H[q]?), zyJ0) 147573952589676412932 (.long x) := zyv_anyL x
    obtain ⟨hnar, hfit⟩ := zyfit_iff (w := (0, [])) (g := Nat.mod (zxK ax) 8) (by rw [hk2]; rfl) (fun k p hp => by simp at hp) hvl z1
    obtain ⟨x0, hel0, -⟩ := hM0.2.1 _ _ (ax % 64) hg (by rw [hlen2]; exact hkN)
    have hsl : cell.slots[zdI B (ax / 64) (ax % 64)]? = some x0 := by
      rw [zyEl_some hg (by rw [hlen2]; exact hkN), q2, Option.bind_some] at hel0
      rw [if_pos hc12, hc1] at hel0
      exact hel0
    obtain ⟨hSl, hfc, kC, hkC, hkind⟩ := hK.2.1 (ax / 64) _ (zvw _ hcx)
    obtain ⟨cf0, kf, fi, f, hi, hse⟩ := hSl (ax % 64) hkN
    have hul := u_lays (zTs_ok (args := args) hK) (zTs_in hcx) hkN
    have hstat := (u_facts (args := args) hfc hkC hul hi).1
    have hft := u_fits hfc hkC hkind hul hi (ztys (ax / 64) hcx (ax % 64) hkN) hnar hfit
    have hlay := zTs_ok (args := args) hK _ (zTs_in hcx _ (u_in_lay hkN))
    have hfin2 : hasFlag f.accessFlags Acc.final = false ∨ (mt.cls = cf0 ∧ meth.name = "<init>") := by
      cases hfl : (zTX (ax / 64) (ax % 64)).2.2.2 with
      | false =>
        unfold u_lay at hlay
        rw [if_neg (by rw [hfl]; decide)] at hlay
        exact Or.inl (u_store hfc hkC hkind hlay hi (ztys (ax / 64) hcx (ax % 64) hkN) hnar hfit).1
      | true =>
        exfalso
        rw [hfl] at z2
        have z2 := zbleT z2.symm
        omega
    have hal : zad B p0 < H.size := (Array.getElem?_eq_some_iff.mp q2).1
    have hslt : f.slot < cell.slots.size := by rw [hse]; exact k2_hasslot hsl
    have go : W p l e { frames := dep, cells := en.2.2.2.2.2.1, slots := en.2.2.2.2.2.2.1, locals := 64 * dep } s mt args below meth c (H.setIfInBounds (zad B p0) (cell.setSlot f.slot (.long x))) (locs ++ [⟨zad B p0, f.slot⟩]) 0 0 Q (F0 mt (pc + 3) lsB rs) := by
      have hH1 : (H.setIfInBounds (zad B p0) (cell.setSlot f.slot (.long x)))[zad B p0]? = some (cell.setSlot f.slot (.long x)) := by simp [Array.getElem?_setIfInBounds, hal]
      have hel : zyEl mi B (H.setIfInBounds (zad B p0) (cell.setSlot f.slot (.long x))) p0 (ax % 64) = some (.long x) := by
        rw [zyEl_some hg (by rw [hlen2]; exact hkN), hH1, Option.bind_some]
        rw [if_pos hc12, hc1, hse]
        rw [hse] at hslt
        simp [Cell.setSlot, hslt]
      have hMem : zyMem (mi, fun _ => [], [(p0, ax % 64, ax % 64)], [], 0) (B, fun _ => 0, 0, fun _ => 0, 0, (zyEl mi B H, fun q => H[q]?), zyJ0) s [] (H.setIfInBounds (zad B p0) (cell.setSlot f.slot (.long x))) := by
        refine zyMem.upd (s := s) (x := .long x) ⟨hK, zyJ0_p (fun p hp => by cases hp)⟩ hM0 hg (by rw [hlen2]; exact hkN) (fun b hb => by simp [Array.getElem?_setIfInBounds, Ne.symm hb]) (Or.inl ⟨q1, cell.setSlot f.slot (.long x), hH1, q3, q4⟩) hel (fun k1 hk1 hne => ?_) (zyin_iff.mpr ⟨(p0, ax % 64, ax % 64), List.mem_cons_self, rfl, Nat.le_refl _, Nat.le_refl _⟩) rfl ?_ (fun a1 c1 k1 w1 _ _ _ h => h)
        · rw [zyEl_some hg hk1, zyEl_some hg hk1, hH1, q2, Option.bind_some, Option.bind_some]
          rw [if_pos hc12]
          rw [hlen2] at hk1
          have hne2 := zapart hK hcx k1 (ax % 64) hk1 hkN hne
          rw [hse, hc1]
          simp only [Cell.setSlot]
          rw [Array.getElem?_setIfInBounds_ne (fun q => hne2 q.symm)]
        · intro r hr r1 r2
          rw [hrows r hr r1 r2]
          exact ⟨by omega, zyv_anyL x⟩
      refine kk _ _ (hMem.base (w := (0, [])) (fun k p hp => by simp at hp) rfl) (fun q hq => hMem.2.2.2.2.2 q hq) (fun z hz => ?_) hel (fun a2 k2 hne => hMem.2.2.1 a2 k2 ?_)
      · rcases List.mem_append.mp hz with h7 | h7
        · exact hlo z h7
        · rw [List.mem_singleton] at h7
          rw [h7]
          exact zyad_ge hlt90
      · cases hq : zyin [(p0, ax % 64, ax % 64)] a2 k2 with
        | false => rfl
        | true =>
          obtain ⟨p1, g1, g2, g3, g4⟩ := zyin_iff.mp hq
          rw [List.mem_singleton.mp g1] at g2 g3 g4
          exact absurd ⟨g2.symm, by dsimp only at g3 g4; omega⟩ hne
    rcases hlk with hlk | hlk
    · exact W.putf hexec hb hown (zword (args := args) hK (zwd_mem hlk) rfl) hi hstat hfin2 q2 (by rw [q4]; exact fun z => by cases z) hslt hft.1 (by rw [q3, q4, hc1]; exact hft.2) rfl rfl hd go
    · exact va_Wputf hexec hb hown (zword (args := args) hK (zwd_mem hlk) rfl) hi hstat hfin2 q2 (by rw [q4]; exact fun z => by cases z) hslt hft.1 (by rw [q3, q4, hc1]; exact hft.2) rfl rfl hd go
  · intro pc ax a n c2 v rs H locs lsB hrow hg hn hI hel kk
    obtain ⟨hlt90, hsh⟩ := hI.1 _ _ hg
    have hc20 : 20 ≤ c2.1 := by rcases hrow with ⟨q, -⟩ | ⟨q, -⟩ <;> omega
    have hlenc : zyLen c2 = c2.2.1 := if_neg (by omega)
    rcases hsh with ⟨q1, -⟩ | ⟨ty, cA, f, q1, q2, q3, q4⟩
    · omega
    obtain ⟨p1, p2⟩ := zsmall (u := n) (by omega)
    have hx : (arrV cA c2.2.1 f).slots[(Int32.ofNat n).toNatClampNeg]? = some v := by
      rw [p2, arrV_read _ _ hn]
      rw [zyEl_some hg (by rw [hlenc]; exact hn), q2, Option.bind_some, if_neg (by omega), arrV_read _ _ hn] at hel
      exact hel
    rcases hrow with ⟨hg1, hrow⟩ | ⟨hg1, hrow⟩
    · have hr := hOK.1 pc
      rw [hrow] at hr
      rcases hr with hn' | ⟨hlen, hdec, pp, hlk⟩
      · cases hn'
      obtain ⟨-, hd⟩ := zdec (k := 1) rfl (by decide) hlen hdec
      have q5 := q1
      rw [hg1] at q5
      have q5 : some FieldType.byte = some ty := q5
      cases q5
      exact W.bald hexec hb q2 (q3 _ _) (fun z => by cases z) (by rw [arrV_size, p2]; exact fun z => z.elim p1 (by omega)) hx rfl rfl hd kk
    · have hr := hOK.1 pc
      rw [hrow] at hr
      rcases hr with hn' | ⟨hlen, hdec, pp, hlk⟩
      · cases hn'
      obtain ⟨-, hd⟩ := zdec (k := 1) rfl (by decide) hlen hdec
      have q5 := q1
      rw [hg1] at q5
      have q5 : some FieldType.long = some ty := q5
      cases q5
      exact W.lald hexec hb q2 (q3 _ _) (fun z => by cases z) (by rw [arrV_size, p2]; exact fun z => z.elim p1 (by omega)) hx rfl rfl hd kk
  · intro pc ix ax rs H locs lsB hrow kk
    have hr := hOK.1 pc
    rw [hrow] at hr
    rcases hr with hn' | ⟨hlen, hdec, pp, hlk⟩
    · cases hn'
    obtain ⟨-, hd⟩ := zdec (k := 3) rfl (by decide) hlen hdec
    exact lv_ldc2 hexec hb hown (zword (args := args) hK (zwd_mem (of_decide_eq_true hlk)) rfl) hd kk
  · intro pc ax x y rs H locs lsB
    refine ⟨?_, ?_, ?_, ?_⟩
    all_goals
      intro hrow kk
      have hr := hOK.1 pc
      rw [hrow] at hr
      rcases hr with hn' | ⟨hlen, hdec, pp, hlk⟩
      · cases hn'
      obtain ⟨-, hd⟩ := zdec (k := 1) rfl (by decide) hlen hdec
      first | exact lv_lmul hexec hb hd kk | exact lv_ladd hexec hb hd kk | exact lv_lsub hexec hb hd kk | exact W.lcmp hexec hb hd kk
  · intro pc ax x rs H locs lsB hrow kk
    have hr := hOK.1 pc
    rw [hrow] at hr
    rcases hr with hn' | ⟨hlen, hdec, pp, hlk⟩
    · cases hn'
    obtain ⟨-, hd⟩ := zdec (k := 1) rfl (by decide) hlen hdec
    exact lv_i2l hexec hb hd rfl kk
  · intro pc ax k q rs H locs lsB hrow hq kk
    have hr := hOK.1 pc
    rw [hrow] at hr
    rcases hr with hn' | ⟨hlen, hdec, pp, hlk⟩
    · cases hn'
    obtain ⟨-, hd⟩ := zdec (k := 1) rfl (by decide) hlen hdec
    exact lv_aload_n hexec hb hd rfl hq kk
  · intro pc ax o rs H locs lsB hrow kk
    have hr := hOK.1 pc
    rw [hrow] at hr
    rcases hr with hn' | ⟨hlen, hdec, pp, hlk⟩
    · cases hn'
    obtain ⟨-, hd⟩ := zdec (k := 3) rfl (by decide) hlen hdec
    exact lv_goto hexec hb hd (of_decide_eq_true hlk) kk
  · intro pc ax k rs H locs lsB hrow kk
    have hr := hOK.1 pc
    rw [hrow] at hr
    rcases hr with hn' | ⟨hlen, hdec, pp, hlk⟩
    · cases hn'
    obtain ⟨-, hd⟩ := zdec (k := 1) rfl (by decide) hlen hdec
    exact lv_lconst hexec hb hd rfl kk
  · intro pc ax k x rs H locs lsB hrow hx kk
    have hr := hOK.1 pc
    rw [hrow] at hr
    rcases hr with hn' | ⟨hlen, hdec, pp, hlk⟩
    · cases hn'
    obtain ⟨-, hd⟩ := zdec (k := 1) rfl (by decide) hlen hdec
    exact lv_iload_n hexec hb hd rfl hx kk
end
section
/-! THE CUT with the rules for longs (printed by mk6.py) -/
theorem xcutLM {l : Launch} {mi : zyB} {B : zCx} {y0 : Nat} {en : zEn} {me : zMe} (hOK : zOK y0 en me) (hc0 : en.2.2.2.2.2.1 = 0) (hs0 : en.2.2.2.2.2.2.1 = 0) {dep : Nat} {As : List Value} {x0 v0 : Nat → Int} (hx0 : xRg x0) (hrv0 : xRg v0) {fpm : zyR} {rt : Bool} {Φ : (Nat → Int) → zyEm → Prop} {Ψ : (Nat → Int) → zyEm → zyEm → Int → Prop} {ι : Type} (φ : ι → zyPh) (tb : ι → Nat → List zyCt) (fp : ι → zyR) (sp : ι → Nat) (xs rs : ι → List zyXp) (hCon : ∀ i, zyCons l (mi, tb i, fp i, [], sp i) zyJ0) (n : Nat)
    (hrun : ∀ i, zyok (zybtx mi (rs i)) (mi, tb i, fp i, [], sp i) (zystx mi (xs i)) n (zyln (φ i).2.2.1, (φ i).2.2.1) en.1 en.2.2.2.2 (φ i).1 (φ i).2.1 (φ i).2.2.2.2 (dep, 0, 0) [] ((φ i).2.2.2.1, []) = true)
    (hfp : ∀ i, xsubR (fp i) fpm = true) (hckX : ∀ i, (xs i).all xckX = true) (hckR : ∀ i, (rs i).all (fun x => xckX x && xrtB rt x) = true)
    (i0 : ι) (hi0 : (φ i0).1 = 0 ∧ (φ i0).2.1.length = en.2.2.1 ∧ (φ i0).2.2.2.1 = [] ∧ (φ i0).2.2.2.2 = []) (hAl : (lg_sl As).length ≤ en.2.2.1) (hA : ∀ (i c : Nat), (φ i0).2.1[i]? = some c → ¬ c = 13 → ∃ w, (i, w) ∈ lv_args 0 As ∧ zyv (fun k => Int32.ofInt (v0 k)) (φ i0).2.2.1.length (zad B) c w)
    (Inv : ι → (Nat → Int) → zyEm → (Nat → Int) → zyEm → Prop) (Mu : ι → (Nat → Int) → zyEm → (Nat → Int) → zyEm → Nat)
    (h0 : ∀ (E : zyEm), zyTy mi E → Φ x0 E → xEnv v0 (φ i0).2.2.1 ∧ Inv i0 x0 E v0 E)
    (hstop : ∀ (x0 : Nat → Int) (s : State) (Wg : zyWt), xRu l mi en dep B s Wg → xRl mi en B s Wg → xRg x0 → zyTy mi (zyEl mi B s.heap) → Φ x0 (zyEl mi B s.heap) → ∀ (i : ι) (v : Nat → Int) (H : Heap), zyTy mi (zyEl mi B H) → xRg v → Inv i x0 (zyEl mi B s.heap) v (zyEl mi B H) → xKc (φ i).2.2.2.1 v (zyEl mi B H) → xFr fpm (zyEl mi B s.heap) (zyEl mi B H) → xIH mi en.2.2.1 B s fpm φ (fun i => Inv i x0 (zyEl mi B s.heap)) (fun i => Mu i x0 (zyEl mi B s.heap)) (Mu i x0 (zyEl mi B s.heap) v (zyEl mi B H)) Wg →
      ∀ x ∈ xs i, ∀ (ρ2 : Nat → Int32) (v2 : Nat → Int) (N2 : Nat) (H2 : Heap) (locs : List Loc) (lsB : Array Slot) (stA : List Value), zyAt mi B s en.2.2.1 x ρ2 N2 H2 locs lsB stA → xBd ρ2 x.2.2.2.2.1 → (∀ k, xI (ρ2 k) = v2 k) → xRg v2 → xXs x v2 (zyEl mi B H) (zyEl mi B H2) → (∀ k, k < (φ i).2.2.1.length → v2 k = v k) → xFr (fp i) (zyEl mi B H) (zyEl mi B H2) → xFr fpm (zyEl mi B s.heap) (zyEl mi B H2) → zyTy mi (zyEl mi B H2) → Wg H2 locs x.1 lsB stA)
    (hret : ∀ (x0 : Nat → Int) (E0 E E2 : zyEm), xRg x0 → zyTy mi E0 → Φ x0 E0 → ∀ (i : ι) (v : Nat → Int), zyTy mi E → xRg v → Inv i x0 E0 v E → xKc (φ i).2.2.2.1 v E → xFr fpm E0 E → ∀ x ∈ rs i, ∀ (v2 : Nat → Int), xRg v2 → xXs x v2 E E2 → (∀ k, k < (φ i).2.2.1.length → v2 k = v k) → xFr (fp i) E E2 → xFr fpm E0 E2 → zyTy mi E2 → Ψ x0 E0 E2 (xrv x.2.2.1 v2)) : xMt l mi B en me dep As (Φ x0) (fun E E2 vo => xFr fpm E E2 ∧ ∃ z : Int32, vo = (if rt = true then some (.int z) else none) ∧ Ψ x0 E E2 (xI z)) := by
  unfold xMt
  have hOK' := hOK
  obtain ⟨hrow, hnum, hrk, hcn, hcls, hml40, hpl, g, hin, hg1, hgw⟩ := hOK
  refine zMet_ofW hpl ?_
  intro p e s mt args below meth c s₁ Bd hml hv
  obtain ⟨rfl, hK, hI, hΦ⟩ := hv
  have hown : s.vm.findClass me.2.2.2 = some mt.cls := by rw [← hcls]; exact findClass_of_methodNamed Bd.named
  have hent := lv_entry As (n := en.2.2.1) hAl
  rw [lg_entry_eq]
  generalize (lg_sl (As) ++ List.replicate (en.2.2.1 - (lg_sl (As)).length) Slot.unset).toArray = lsA at hent ⊢
  have hlocks := Bd.notSynchronized
  have hT0 := zyTy_of hI
  have hRu : xRu l mi en dep B s (fun H locs pc lsB stA => W p l e { frames := dep, cells := en.2.2.2.2.2.1, slots := en.2.2.2.2.2.2.1, locals := 64 * dep } s mt (As).toArray below meth c H locs 0 0 (MQ below (zyHq mi B (fun E E2 vo => xFr fpm E E2 ∧ ∃ z : Int32, vo = (if rt = true then some (.int z) else none) ∧ Ψ x0 E E2 (xI z))) (As).toArray s en.2.2.2.2.2.1 en.2.2.2.2.2.2.1 (fun q => zbs B ≤ q)) (F0 mt pc lsB stA)) := xRu_ok hOK' hc0 hs0 Bd.exec Bd.bytes hml hown hK
  have hRl : xRl mi en B s (fun H locs pc lsB stA => W p l e { frames := dep, cells := en.2.2.2.2.2.1, slots := en.2.2.2.2.2.2.1, locals := 64 * dep } s mt (As).toArray below meth c H locs 0 0 (MQ below (zyHq mi B (fun E E2 vo => xFr fpm E E2 ∧ ∃ z : Int32, vo = (if rt = true then some (.int z) else none) ∧ Ψ x0 E E2 (xI z))) (As).toArray s en.2.2.2.2.2.1 en.2.2.2.2.2.2.1 (fun q => zbs B ≤ q)) (F0 mt pc lsB stA)) := xRl_ok hOK' Bd.exec Bd.bytes hown hK
  have hJp : zyJp [] zyJ0 := zyJ0_p (fun p hp => by cases hp)
  have claim : ∀ (M : Nat), ∀ (i : ι) (v : Nat → Int) (H : Heap) (locs : List Loc) (lsB : Array Slot) (stB : List Value), zyMI mi B zyJ0 s H → zyOut mi B s.heap H → xFr fpm (zyEl mi B s.heap) (zyEl mi B H) → xRg v → Inv i (x0) (zyEl mi B s.heap) v (zyEl mi B H) → zySs mi B en.2.2.1 (φ i) (fun k => Int32.ofInt (v k)) H locs lsB stB → Mu i (x0) (zyEl mi B s.heap) v (zyEl mi B H) = M →
      W p l e { frames := dep, cells := en.2.2.2.2.2.1, slots := en.2.2.2.2.2.2.1, locals := 64 * dep } s mt (As).toArray below meth c H locs 0 0 (MQ below (zyHq mi B (fun E E2 vo => xFr fpm E E2 ∧ ∃ z : Int32, vo = (if rt = true then some (.int z) else none) ∧ Ψ x0 E E2 (xI z))) (As).toArray s en.2.2.2.2.2.1 en.2.2.2.2.2.2.1 (fun q => zbs B ≤ q)) (F0 mt (φ i).1 lsB stB) := by
    intro M
    induction M using Nat.strongRecOn with
    | ind M IH =>
      intro i vv H locs lsB stB hIH hout hFr0 hrv hInv hSs hM
      have hKc : xKc (φ i).2.2.2.1 vv (zyEl mi B H) := xKc_of (ρ := fun k => Int32.ofInt (vv k)) (fun k => xI_ofInt (hrv k)) hSs.2.2.2.2.2
      obtain ⟨ρ, hρ⟩ : ∃ ρ : Nat → Int32, ρ = fun k => Int32.ofInt (vv k) := ⟨_, rfl⟩
      have hρv : ∀ k, xI (ρ k) = vv k := fun k => by rw [hρ]; exact xI_ofInt (hrv k)
      rw [← hρ] at hSs
      have hr := hrun i
      rw [zyln_eq] at hr
      refine zymain (l := l) (bt := zybtx mi (rs i)) (stop := zystx mi (xs i)) (fun _ _ _ _ _ _ _ _ _ _ => rfl) n (B, ρ, (φ i).2.2.1.length, ρ, (φ i).2.2.1.length, (zyEl mi B H, fun q => H[q]?), zyJ0) y0 en me (hCon i) hOK' ((φ i).2.2.1.length, (φ i).2.2.1) (φ i).1 (φ i).2.1 (φ i).2.2.2.2 (dep, 0, 0) [] ((φ i).2.2.2.1, []) hr p e { frames := dep, cells := en.2.2.2.2.2.1, slots := en.2.2.2.2.2.2.1, locals := 64 * dep } s mt (As).toArray below meth c _ H locs lsB stB ⟨Bd.exec, Bd.bytes, hml, hown, ⟨hK, hJp⟩, Nat.le_refl _, Nat.le_refl _, Nat.le_refl _, Nat.le_refl _⟩ (zyRl_new hIH hSs) ?_ ?_
      · intro n' ρ2 w2 v m2 H2 locs2 lsC pc vo cells slots hn' hbk hX hM2 hlo hc hs hvo hri
        have hbk : zybtx mi (rs i) w2 v m2 = true := hbk
        obtain ⟨x, hx, hxb⟩ := zyanyB_iff hbk
        obtain ⟨-, -, e2, hXs, hI2⟩ := zyxp_iff (X := zyre (B, ρ, (φ i).2.2.1.length, ρ, (φ i).2.2.1.length, (zyEl mi B H, fun q => H[q]?), zyJ0) ρ2 w2.1) (P := (mi, tb i, fp i, [], sp i)) rfl hX.1 hX.2.2 hM2 hxb
        have hout2 : zyOut mi B s.heap H2 := fun q hq => (hM2.2.2.2.2.2 q hq).trans (hout q hq)
        have hvo2 : zyvo (zyXn B ρ2 w2.1) x.2.2.1 vo := by
          rw [← e2]
          exact hvo
        have hck := List.all_eq_true.mp (hckR i) x hx
        rw [Bool.and_eq_true] at hck
        have hXi := xXs_of (v := fun k => xI (ρ2 k)) (fun k => rfl) hXs hck.1
        have hFr2 : xFr (fp i) (zyEl mi B H) (zyEl mi B H2) := fun a k hf => hM2.2.2.1 a k hf
        have hFr3 : xFr fpm (zyEl mi B s.heap) (zyEl mi B H2) := xFr_trans hFr0 (xFr_mono (hfp i) hFr2)
        have hag : ∀ k, k < (φ i).2.2.1.length → xI (ρ2 k) = vv k := fun k hk => by rw [← hρv]; exact congrArg xI (hX.2.1.2 k hk)
        have hΨ0 := hret (x0) (zyEl mi B s.heap) (zyEl mi B H) (zyEl mi B H2) hx0 hT0 hΦ i vv (zyTy_of hIH) hrv hInv hKc hFr0 x hx (fun k => xI (ρ2 k)) (fun k => xI_r _) hXi hag hFr2 hFr3 (zyTy_of hI2)
        have hΨ : xFr fpm (zyEl mi B s.heap) (zyEl mi B H2) ∧ ∃ z : Int32, vo = (if rt = true then some (.int z) else none) ∧ Ψ (x0) (zyEl mi B s.heap) (zyEl mi B H2) (xI z) := by
          refine ⟨hFr3, ?_⟩
          have hck2 := hck.2
          have hck1 := hck.1
          unfold xrtB at hck2
          cases hrt : rt with
          | true =>
            rw [hrt] at hck2
            cases hst : x.2.2.1 with
            | nil => rw [hst] at hck2; cases hck2
            | cons c0 t0 =>
              rw [hst] at hck2
              cases t0 with
              | cons c1 t1 => cases hck2
              | nil =>
                have hck2 := of_decide_eq_true hck2
                rw [hst] at hvo2 hΨ0
                refine ⟨_, zyvo_1 hck2 hvo2, ?_⟩
                have hof : xofB x.2.2.2.2.1 c0 = true := by
                  unfold xckX at hck1
                  simp only [Bool.and_eq_true, List.all_eq_true] at hck1
                  have := hck1.2.2.2 c0 (by rw [hst]; exact List.mem_singleton.mpr rfl)
                  rw [Bool.or_eq_true, decide_eq_true_eq] at this
                  rcases this with z | z
                  · omega
                  · exact z
                rw [xofB_iff (v := fun k => xI (ρ2 k)) (fun k => rfl) hXs.2.1 hof]
                exact hΨ0
          | false =>
            rw [hrt] at hck2
            cases hst : x.2.2.1 with
            | cons c0 t0 => rw [hst] at hck2; cases hck2
            | nil =>
              rw [hst] at hvo2 hΨ0
              exact ⟨0, zyvo_0 hvo2, hΨ0⟩
        have hq : ∀ t : State, t.heap = H2 → s.WarmedH t.vm → zyHq mi B (fun E E2 vo => xFr fpm E E2 ∧ ∃ z : Int32, vo = (if rt = true then some (.int z) else none) ∧ Ψ x0 E E2 (xI z)) (As).toArray s (.returned vo) t := fun t ht hW => by
          subst ht
          exact ⟨vo, rfl, hK.warm hW, hI2.moved hW.alike, hΨ, hout2⟩
        refine W.widen hc hs ?_
        rcases hri with ⟨hd, x, ty, rfl, hty, hnar⟩ | ⟨hd, x, rfl, hty⟩ | ⟨hd, rfl, hty⟩
        · exact W.zret Bd.exec Bd.bytes (by rw [Bd.returns]; exact hty) hnar hq hlo hd hlocks
        · exact W.lret Bd.exec Bd.bytes (by rw [Bd.returns]; exact hty) hq hlo hd hlocks
        · exact W.vret Bd.exec Bd.bytes (by rw [Bd.returns]; exact hty) hq hlo hd hlocks
      · intro ρ2 N2 w2 pc ls st q m2 H2 locs2 lsC stA hs hR2
        have hs : zyanyB (fun x => zyxpB mi x w2 pc ls st m2) (xs i) = true := hs
        obtain ⟨x, hx, hxb⟩ := zyanyB_iff hs
        obtain ⟨e1, e3, e2, hXs, hI2⟩ := zyxp_iff (X := zyre (B, ρ, (φ i).2.2.1.length, ρ, (φ i).2.2.1.length, (zyEl mi B H, fun q => H[q]?), zyJ0) ρ2 N2) (P := (mi, tb i, fp i, [], sp i)) rfl hR2.1.1 hR2.1.2.2.2 hR2.2.1 hxb
        have hout2 : zyOut mi B s.heap H2 := fun q hq => (hR2.2.1.2.2.2.2.2 q hq).trans (hout q hq)
        have hq1 : q.1 = dep := hR2.2.2.2.2.2.1
        have hq2 : q.2.1 ≤ en.2.2.2.2.2.1 := hR2.2.2.2.2.2.2.1
        have hq3 : q.2.2 ≤ en.2.2.2.2.2.2.1 := hR2.2.2.2.2.2.2.2
        have eq2 : q.2.1 = 0 := by omega
        have eq3 : q.2.2 = 0 := by omega
        rw [eq2, eq3, e1]
        have hck := List.all_eq_true.mp (hckX i) x hx
        have hXi := xXs_of (v := fun k => xI (ρ2 k)) (fun k => rfl) hXs hck
        have hFr2 : xFr (fp i) (zyEl mi B H) (zyEl mi B H2) := fun a k hf => hR2.2.1.2.2.1 a k hf
        have hag : ∀ k, k < (φ i).2.2.1.length → xI (ρ2 k) = vv k := fun k hk => by rw [← hρv]; exact congrArg xI (hR2.1.2.2.1.2 k hk)
        refine hstop (x0) s _ hRu hRl hx0 hT0 hΦ i vv H (zyTy_of hIH) hrv hInv hKc hFr0 ?_ x hx ρ2 (fun k => xI (ρ2 k)) N2 H2 locs2 lsC stA ⟨hI2, hout2, hR2.2.2.1, ⟨hR2.2.2.2.1.2.1, hR2.2.2.2.1.2.2.1⟩, fun i c hc hn => hR2.2.2.2.1.2.2.2 i c (e3.2 i c hc hn) hn, ?_⟩ hXs.2.1 (fun k => rfl) (fun k => xI_r _) hXi hag hFr2 (xFr_trans hFr0 (xFr_mono (hfp i) hFr2)) (zyTy_of hI2)
        · intro i2 v' H3 locs3 lsD stB3 hI3 hout3 hFr3 hrv3 hInv3 hSs3 hmu
          exact IH _ (by rw [← hM]; exact hmu) i2 v' H3 locs3 lsD stB3 hI3 hout3 hFr3 hrv3 hInv3 hSs3 rfl
        · rw [← e2]
          exact zySt_map (X := zyre (B, ρ, (φ i).2.2.1.length, ρ, (φ i).2.2.1.length, (zyEl mi B H, fun q => H[q]?), zyJ0) ρ2 N2) (X2 := zyXn B ρ2 N2) (fun v w h => h) hR2.2.2.2.2.1
  obtain ⟨b0, b1⟩ := h0 (zyEl mi B s.heap) hT0 hΦ
  obtain ⟨p0, p1, p2, p3⟩ := hi0
  have hSs : zySs mi B en.2.2.1 (φ i0) (fun k => Int32.ofInt (v0 k)) s.heap [] lsA [] → W p l e { frames := dep, cells := en.2.2.2.2.2.1, slots := en.2.2.2.2.2.2.1, locals := 64 * dep } s mt (As).toArray below meth c s.heap [] 0 0 (MQ below (zyHq mi B (fun E E2 vo => xFr fpm E E2 ∧ ∃ z : Int32, vo = (if rt = true then some (.int z) else none) ∧ Ψ x0 E E2 (xI z))) (As).toArray s en.2.2.2.2.2.1 en.2.2.2.2.2.2.1 (fun q => zbs B ≤ q)) (F0 mt 0 lsA []) := fun h => by
    have hfin := claim _ i0 _ s.heap [] lsA [] hI (fun q _ => rfl) xFr_refl hrv0 b1 h rfl
    rw [p0] at hfin
    exact hfin
  refine hSs ⟨fun x hx => (by cases hx), ⟨hent.1, hent.2.1⟩, ⟨p1, fun i c hc hn => ?_⟩, xEnv_z hrv0 b0, ?_, ?_⟩
  · obtain ⟨w, q1, q2⟩ := hA i c hc hn
    exact ⟨w, hent.2.2 (i, w) q1, q2⟩
  · rw [p3]
    trivial
  · rw [p2]
    exact fun p hp => by cases hp
theorem xcutL {l : Launch} {mi : zyB} {B : zCx} {y0 : Nat} {en : zEn} {me : zMe} (hOK : zOK y0 en me) (hc0 : en.2.2.2.2.2.1 = 0) (hs0 : en.2.2.2.2.2.2.1 = 0) {dep na : Nat} {ps : List Nat} {fpm : zyR} {rt : Bool} {Φ : (Nat → Int) → zyEm → Prop} {Ψ : (Nat → Int) → zyEm → zyEm → Int → Prop} {ι : Type} (φ : ι → zyPh) (tb : ι → Nat → List zyCt) (fp : ι → zyR) (sp : ι → Nat) (xs rs : ι → List zyXp) (hCon : ∀ i, zyCons l (mi, tb i, fp i, [], sp i) zyJ0) (n : Nat)
    (hrun : ∀ i, zyok (zybtx mi (rs i)) (mi, tb i, fp i, [], sp i) (zystx mi (xs i)) n (zyln (φ i).2.2.1, (φ i).2.2.1) en.1 en.2.2.2.2 (φ i).1 (φ i).2.1 (φ i).2.2.2.2 (dep, 0, 0) [] ((φ i).2.2.2.1, []) = true)
    (hfp : ∀ i, xsubR (fp i) fpm = true) (hckX : ∀ i, (xs i).all xckX = true) (hckR : ∀ i, (rs i).all (fun x => xckX x && xrtB rt x) = true)
    (i0 : ι) (hi0 : (φ i0).1 = 0 ∧ (φ i0).2.1 = xL0 ps na en.2.2.1 ∧ (φ i0).2.2.2.1 = [] ∧ (φ i0).2.2.2.2 = []) (hna : ps.length + na ≤ en.2.2.1 ∧ ps.length + na ≤ (φ i0).2.2.1.length)
    (Inv : ι → (Nat → Int) → zyEm → (Nat → Int) → zyEm → Prop) (Mu : ι → (Nat → Int) → zyEm → (Nat → Int) → zyEm → Nat)
    (h0 : ∀ (x : Nat → Int) (E : zyEm), xRg x → zyTy mi E → Φ x E → xEnv (xv0 ps.length x) (φ i0).2.2.1 ∧ Inv i0 x E (xv0 ps.length x) E)
    (hstop : ∀ (x0 : Nat → Int) (s : State) (Wg : zyWt), xRu l mi en dep B s Wg → xRl mi en B s Wg → xRg x0 → zyTy mi (zyEl mi B s.heap) → Φ x0 (zyEl mi B s.heap) → ∀ (i : ι) (v : Nat → Int) (H : Heap), zyTy mi (zyEl mi B H) → xRg v → Inv i x0 (zyEl mi B s.heap) v (zyEl mi B H) → xKc (φ i).2.2.2.1 v (zyEl mi B H) → xFr fpm (zyEl mi B s.heap) (zyEl mi B H) → xIH mi en.2.2.1 B s fpm φ (fun i => Inv i x0 (zyEl mi B s.heap)) (fun i => Mu i x0 (zyEl mi B s.heap)) (Mu i x0 (zyEl mi B s.heap) v (zyEl mi B H)) Wg →
      ∀ x ∈ xs i, ∀ (ρ2 : Nat → Int32) (v2 : Nat → Int) (N2 : Nat) (H2 : Heap) (locs : List Loc) (lsB : Array Slot) (stA : List Value), zyAt mi B s en.2.2.1 x ρ2 N2 H2 locs lsB stA → xBd ρ2 x.2.2.2.2.1 → (∀ k, xI (ρ2 k) = v2 k) → xRg v2 → xXs x v2 (zyEl mi B H) (zyEl mi B H2) → (∀ k, k < (φ i).2.2.1.length → v2 k = v k) → xFr (fp i) (zyEl mi B H) (zyEl mi B H2) → xFr fpm (zyEl mi B s.heap) (zyEl mi B H2) → zyTy mi (zyEl mi B H2) → Wg H2 locs x.1 lsB stA)
    (hret : ∀ (x0 : Nat → Int) (E0 E E2 : zyEm), xRg x0 → zyTy mi E0 → Φ x0 E0 → ∀ (i : ι) (v : Nat → Int), zyTy mi E → xRg v → Inv i x0 E0 v E → xKc (φ i).2.2.2.1 v E → xFr fpm E0 E → ∀ x ∈ rs i, ∀ (v2 : Nat → Int), xRg v2 → xXs x v2 E E2 → (∀ k, k < (φ i).2.2.1.length → v2 k = v k) → xFr (fp i) E E2 → xFr fpm E0 E2 → zyTy mi E2 → Ψ x0 E0 E2 (xrv x.2.2.1 v2)) : xFcB l mi B en me dep ps na fpm rt Φ Ψ := by
  intro as has
  have hx0 : xRg (xfv (as.map xI)) := fun k => by rw [xfv_map]; exact xI_r _
  have hll : (lg_sl (xAg B ps as)).length = ps.length + na := by
    unfold xAg
    rw [xrefs_len, zylg_len, has]
  refine xcutLM (As := xAg B ps as) (x0 := xfv (as.map xI)) (v0 := xv0 ps.length (xfv (as.map xI))) hOK hc0 hs0 hx0 (xv0_r hx0 _) φ tb fp sp xs rs hCon n hrun hfp hckX hckR i0 ⟨hi0.1, ?_, hi0.2.2⟩ (by rw [hll]; exact hna.1) (fun i c hc hn => ?_) Inv Mu (fun E => h0 _ E hx0) hstop hret
  · rw [hi0.2.1]
    unfold xL0
    rw [List.length_append, List.length_map, zyL0a_len]
    omega
  · rw [hi0.2.1] at hc
    unfold xL0 at hc
    by_cases hi : i < ps.length
    · rw [List.getElem?_append_left (by rw [List.length_map]; exact hi), List.getElem?_map] at hc
      obtain ⟨p, hp⟩ : ∃ p, ps[i]? = some p := ⟨ps[i], List.getElem?_eq_getElem hi⟩
      rw [hp] at hc
      have hc : some (8 * p + 3) = some c := hc
      cases hc
      have hm := xrefs_mem (B := B) (r := as.map Value.int) (o := 0) hp
      rw [Nat.zero_add] at hm
      exact ⟨.ref (zad B p), hm, Or.inl ⟨Or.inr (Or.inr (Or.inr (Or.inl ⟨by omega, by rw [show (8 * p + 3) / 8 = p by omega]⟩))), fun q => by omega, fun q => by omega⟩⟩
    · rw [List.getElem?_append_right (by rw [List.length_map]; omega), List.length_map] at hc
      obtain ⟨q1, q2⟩ := zyL0a_get hc hn
      obtain ⟨x, hx⟩ : ∃ x, as[i - ps.length]? = some x := ⟨as[i - ps.length]'(by omega), List.getElem?_eq_getElem (by omega)⟩
      refine ⟨.int x, ?_, ?_⟩
      · have hm := zyargs_mem (o := ps.length) hx
        rw [show ps.length + (i - ps.length) = i by omega] at hm
        exact xrefs_mem2 (o := 0) (by rw [Nat.zero_add]; exact hm)
      · rw [q2, show ps.length + (i - ps.length) = i by omega]
        refine zyv_sym (by omega) ?_
        have e1 : xv0 ps.length (xfv (as.map xI)) i = xI x := by
          have := xv0_ge (x := xfv (as.map xI)) (m := ps.length) (k := i - ps.length)
          rw [show ps.length + (i - ps.length) = i by omega, xfv_map, hx] at this
          exact this
        show Int32.ofInt (xv0 ps.length (xfv (as.map xI)) i) = x
        rw [e1]
        exact xofI x
end
section
/-! LETTERS of the reference, walked by hand -/
def xLt (x : Int64) (t : Int32) : Int64 := Int64.ofNat 27 * x + t.toInt64 - Int64.ofNat 96
theorem xLw {mi : zyB} {B : zCx} {s : State} {Wg : zyWt} {en : zEn} (hRl : xRl mi en B s Wg) (hen : en.1 = zxi314) {c74 c84 : zyCl} (h74 : zG mi 74 = some c74) (hc74 : c74.1 = 11) (h84 : zG mi 84 = some c84) (hc84 : c84.1 = 22) (hn84 : c84.2.1 = 900) (hr74 : ∀ r ∈ c74.2.2, r.1 ≤ 43 → 43 ≤ r.2.1 → r.2.2 = 147573952589676412932)
    {H : Heap} {locs : List Loc} {lsB : Array Slot} (hI : zyMI mi B zyJ0 s H) (hlo : ∀ x ∈ locs, zbs B ≤ x.base) (hls : lsB[0]? = some (.val (.ref (zad B 74)))) {L : Int64} {q : Nat} {t : Int32} (hq : q < 900) (h1 : zyEl mi B H 74 43 = some (.long L)) (h2 : zyEl mi B H 74 39 = some (.int (Int32.ofNat q))) (h3 : zyEl mi B H 84 q = some (.int t)) (h4 : zyEl mi B H 74 32 = some (.ref (zad B 84)))
    (kk : ∀ (H3 : Heap) (locs3 : List Loc), zyMI mi B zyJ0 s H3 → zyOut mi B H H3 → (∀ x ∈ locs3, zbs B ≤ x.base) → zyEl mi B H3 74 43 = some (.long (xLt L t)) → (∀ a2 k2, ¬ (a2 = 74 ∧ k2 = 43) → zyEl mi B H3 a2 k2 = zyEl mi B H a2 k2) → Wg H3 locs3 217 lsB []) : Wg H locs 185 lsB [.ref (zad B 74)] := by
  obtain ⟨gf, pf, al, lc, la, il, ao, go, lk, ld⟩ := hRl
  refine lc 185 431 27 _ H locs lsB (by rw [hen]; rfl) ?_
  refine ao 188 0 0 _ _ H locs lsB (by rw [hen]; rfl) hls ?_
  refine gf 189 427 747 74 c74 (.long L) _ H locs lsB (by rw [hen]; rfl) h74 hc74 (by omega) hI h1 ?_
  refine (la 192 0 _ _ _ H locs lsB).1 (by rw [hen]; rfl) ?_
  refine ao 193 0 0 _ _ H locs lsB (by rw [hen]; rfl) hls ?_
  refine gf 194 47 736 74 c74 (.ref (zad B 84)) _ H locs lsB (by rw [hen]; rfl) h74 hc74 (by omega) hI h4 ?_
  refine ao 197 0 0 _ _ H locs lsB (by rw [hen]; rfl) hls ?_
  refine gf 198 415 743 74 c74 (.int (Int32.ofNat q)) _ H locs lsB (by rw [hen]; rfl) h74 hc74 (by omega) hI h2 ?_
  refine al 201 0 84 q c84 (.int t) _ H locs lsB (Or.inl ⟨hc84, by rw [hen]; rfl⟩) h84 (by omega) hI h3 ?_
  refine il 202 0 _ _ H locs lsB (by rw [hen]; rfl) ?_
  refine (la 203 0 _ _ _ H locs lsB).2.1 (by rw [hen]; rfl) ?_
  refine lc 204 433 96 _ H locs lsB (by rw [hen]; rfl) ?_
  refine (la 207 0 _ _ _ H locs lsB).2.2.1 (by rw [hen]; rfl) ?_
  refine go 208 214 6 _ H locs lsB (by rw [hen]; rfl) ?_
  exact pf 214 427 747 74 c74 _ _ H locs lsB (by rw [hen]; rfl) h74 hc74 (by omega) rfl (by decide) hr74 hI hlo kk
theorem xLw1 {mi : zyB} {B : zCx} {s : State} {Wg : zyWt} {en : zEn} (hRl : xRl mi en B s Wg) (hen : en.1 = zxi314) {c74 : zyCl} (h74 : zG mi 74 = some c74) (hc74 : c74.1 = 11) (hr74 : ∀ r ∈ c74.2.2, r.1 ≤ 43 → 43 ≤ r.2.1 → r.2.2 = 147573952589676412932)
    {H : Heap} {locs : List Loc} {lsB : Array Slot} (hI : zyMI mi B zyJ0 s H) (hlo : ∀ x ∈ locs, zbs B ≤ x.base)
    (kk : ∀ (H3 : Heap) (locs3 : List Loc), zyMI mi B zyJ0 s H3 → zyOut mi B H H3 → (∀ x ∈ locs3, zbs B ≤ x.base) → zyEl mi B H3 74 43 = some (.long (Int64.ofNat 18446744073709551615)) → (∀ a2 k2, ¬ (a2 = 74 ∧ k2 = 43) → zyEl mi B H3 a2 k2 = zyEl mi B H a2 k2) → Wg H3 locs3 217 lsB []) : Wg H locs 211 lsB [.ref (zad B 74)] := by
  obtain ⟨gf, pf, al, lc, la, il, ao, go, lk, ld⟩ := hRl
  refine lc 211 435 18446744073709551615 _ H locs lsB (by rw [hen]; rfl) ?_
  exact pf 214 427 747 74 c74 _ _ H locs lsB (by rw [hen]; rfl) h74 hc74 (by omega) rfl (by decide) hr74 hI hlo kk
/-- is it the word w? from pc 15: the comparison of longs, then pc 26 -/
theorem xLi {mi : zyB} {B : zCx} {s : State} {Wg : zyWt} {en : zEn} (hRl : xRl mi en B s Wg) (hen : en.1 = zxi316) {c74 c85 : zyCl} (h74 : zG mi 74 = some c74) (hc74 : c74.1 = 11) (h85 : zG mi 85 = some c85) (hc85 : c85.1 = 21)
    {H : Heap} {locs : List Loc} {lsB : Array Slot} (hI : zyMI mi B zyJ0 s H) (hls : lsB[0]? = some (.val (.ref (zad B 74)))) {q : Nat} (hl1 : lsB[1]? = some (.val (.int (Int32.ofNat q)))) (hq : q < c85.2.1) {L L2 : Int64} (h1 : zyEl mi B H 74 43 = some (.long L)) (h4 : zyEl mi B H 74 44 = some (.ref (zad B 85))) (h2 : zyEl mi B H 85 q = some (.long L2))
    (kk : Wg H locs 26 lsB [.int (lg_cmp L L2)]) : Wg H locs 15 lsB [] := by
  obtain ⟨gf, pf, al, lc, la, il, ao, go, lk, ld⟩ := hRl
  refine ao 15 0 0 _ _ H locs lsB (by rw [hen]; rfl) hls ?_
  refine gf 16 427 747 74 c74 (.long L) _ H locs lsB (by rw [hen]; rfl) h74 hc74 (by omega) hI h1 ?_
  refine ao 19 0 0 _ _ H locs lsB (by rw [hen]; rfl) hls ?_
  refine gf 20 75 748 74 c74 (.ref (zad B 85)) _ H locs lsB (by rw [hen]; rfl) h74 hc74 (by omega) hI h4 ?_
  refine ld 23 0 1 _ _ H locs lsB (by rw [hen]; rfl) hl1 ?_
  refine al 24 0 85 q c85 (.long L2) _ H locs lsB (Or.inr ⟨hc85, by rw [hen]; rfl⟩) h85 hq hI h2 ?_
  exact (la 25 0 _ _ _ H locs lsB).2.2.2 (by rw [hen]; rfl) kk
theorem xLw0 {mi : zyB} {B : zCx} {s : State} {Wg : zyWt} {en : zEn} (hRl : xRl mi en B s Wg) (hen : en.1 = zxi314) {c74 : zyCl} (h74 : zG mi 74 = some c74) (hc74 : c74.1 = 11) (hr74 : ∀ r ∈ c74.2.2, r.1 ≤ 43 → 43 ≤ r.2.1 → r.2.2 = 147573952589676412932)
    {H : Heap} {locs : List Loc} {lsB : Array Slot} (hI : zyMI mi B zyJ0 s H) (hlo : ∀ x ∈ locs, zbs B ≤ x.base) (hls : lsB[0]? = some (.val (.ref (zad B 74))))
    (kk : ∀ (H3 : Heap) (locs3 : List Loc), zyMI mi B zyJ0 s H3 → zyOut mi B H H3 → (∀ x ∈ locs3, zbs B ≤ x.base) → zyEl mi B H3 74 43 = some (.long (Int64.ofNat 0)) → (∀ a2 k2, ¬ (a2 = 74 ∧ k2 = 43) → zyEl mi B H3 a2 k2 = zyEl mi B H a2 k2) → Wg H3 locs3 147 lsB []) : Wg H locs 142 lsB [] := by
  obtain ⟨gf, pf, al, lc, la, il, ao, go, lk, ld⟩ := hRl
  refine ao 142 0 0 _ _ H locs lsB (by rw [hen]; rfl) hls ?_
  refine lk 143 0 0 _ H locs lsB (by rw [hen]; rfl) ?_
  exact pf 144 427 747 74 c74 _ _ H locs lsB (by rw [hen]; rfl) h74 hc74 (by omega) rfl (by decide) hr74 hI hlo kk
end
section
/-! LETTERS: to a phase behind the store of a long -/
theorem zyMI_code {mi : zyB} {B : zCx} {s : State} {H : Heap} (hI : zyMI mi B zyJ0 s H) {a k q : Nat} {c : zyCl} {r : Nat × Nat × Nat} (hg : zG mi a = some c) (hk : k < zyLen c) (hr : c.2.2[q]? = some r) (h1 : r.1 ≤ k) (h2 : k ≤ r.2.1) : ∃ w ρ N, zyEl mi B H a k = some w ∧ zyv ρ N (zad B) r.2.2 w := by
  obtain ⟨w, g1, g2⟩ := hI.2.1 a c k hg hk
  have g3 := g2 r (List.mem_of_getElem? hr) h1 h2
  exact ⟨w, _, _, g1, g3.2⟩
theorem zyMI_ref {mi : zyB} {B : zCx} {s : State} {H : Heap} (hI : zyMI mi B zyJ0 s H) {a k q p : Nat} {c : zyCl} {r : Nat × Nat × Nat} (hg : zG mi a = some c) (hk : k < zyLen c) (hr : c.2.2[q]? = some r) (h1 : r.1 ≤ k) (h2 : k ≤ r.2.1) (h3 : r.2.2 = 8 * p + 3) : zyEl mi B H a k = some (.ref (zad B p)) := by
  obtain ⟨w, ρ, N, g1, g2⟩ := zyMI_code hI hg hk hr h1 h2
  rw [h3] at g2
  have e := zyv_3 g2 (by omega)
  rw [show (8 * p + 3) / 8 = p by omega] at e
  rw [g1, e]
theorem zyMI_long {mi : zyB} {B : zCx} {s : State} {H : Heap} (hI : zyMI mi B zyJ0 s H) {a k q : Nat} {c : zyCl} {r : Nat × Nat × Nat} (hg : zG mi a = some c) (hk : k < zyLen c) (hr : c.2.2[q]? = some r) (h1 : r.1 ≤ k) (h2 : k ≤ r.2.1) (h3 : r.2.2 = 147573952589676412932) : ∃ x : Int64, zyEl mi B H a k = some (.long x) := by
  obtain ⟨w, ρ, N, g1, g2⟩ := zyMI_code hI hg hk hr h1 h2
  rw [h3] at g2
  obtain ⟨z, hx, -⟩ := zyv_4 g2 (by decide)
  exact ⟨z, by rw [g1, hx]⟩
theorem xE_some {mi : zyB} {E : zyEm} (hT : zyTy mi E) {a k q : Nat} {c : zyCl} {r : Nat × Nat × Nat} (hg : zG mi a = some c) (hk : k < zyLen c) (hr : c.2.2[q]? = some r) (h1 : r.1 ≤ k) (h2 : k ≤ r.2.1) (h3 : r.2.2 % 8 = 2) : E a k = some (.int (Int32.ofInt (xE E a (k : Int)))) := by
  obtain ⟨x, e, -, -⟩ := xTy hT hg hk hr h1 h2 h3
  rw [xE_s e (Int.toNat_natCast _), xofI]
  exact e
section XLG
variable {l : Launch} {en : zEn} {B : zCx} {s : State} {fpm : zyR} {ι : Type} {φ : ι → zyPh} {Inv : ι → (Nat → Int) → zyEm → Prop} {Mu : ι → (Nat → Int) → zyEm → Nat} {M : Nat} {Wg : zyWt} {x : zyXp} {ρ2 : Nat → Int32} {v2 : Nat → Int} {N : Nat} {H : Heap} {locs : List Loc} {lsB : Array Slot} {stA : List Value}
theorem xLgo (hRl : xRl zymx en B s Wg) (hIH : xIH zymx en.2.2.1 B s fpm φ Inv Mu M Wg) (hAt : zyAt zymx B s en.2.2.1 x ρ2 N H locs lsB stA) (hB : xBd ρ2 x.2.2.2.2.1) (hv : ∀ k, xI (ρ2 k) = v2 k) (hFr : xFr fpm (zyEl zymx B s.heap) (zyEl zymx B H)) (hen : en.1 = zxi314) (hl0 : x.2.1[0]? = some 595) (hst : x.2.2.1 = [595]) (hin : zyin fpm 74 43 = true) (y : Int64)
    (hy : (x.1 = 185 ∧ ∃ L : Int64, zyEl zymx B H 74 43 = some (.long L) ∧ 0 ≤ xE (zyEl zymx B H) 74 39 ∧ xE (zyEl zymx B H) 74 39 < 900 ∧ y = xLt L (Int32.ofInt (xE (zyEl zymx B H) 84 (xE (zyEl zymx B H) 74 39)))) ∨ (x.1 = 211 ∧ y = Int64.ofNat 18446744073709551615))
    (kk : ∀ (H3 : Heap), zyTy zymx (zyEl zymx B H3) → zyEl zymx B H3 74 43 = some (.long y) → (∀ a2 k2, ¬ (a2 = 74 ∧ k2 = 43) → zyEl zymx B H3 a2 k2 = zyEl zymx B H a2 k2) → xFr fpm (zyEl zymx B s.heap) (zyEl zymx B H3) → ∃ (i2 : ι) (cs : List Nat) (L : List Int), (φ i2).1 = 217 ∧ xJ zymx B en.2.2.1 x v2 (φ i2) (zyEl zymx B H3) cs L ∧ (φ i2).2.2.2.2 = [] ∧ Inv i2 (xfv L) (zyEl zymx B H3) ∧ Mu i2 (xfv L) (zyEl zymx B H3) < M) : Wg H locs x.1 lsB stA := by
  have hs := hAt.2.2.2.2.2
  rw [hst] at hs
  obtain ⟨w0, t0, rfl, a0, hs⟩ := zySt_c hs
  have e3 := zySt_n hs
  subst e3
  have e2 := zyv_3 a0 (by decide)
  have e2 : w0 = .ref (zad B 74) := e2
  subst e2
  obtain ⟨w1, g1, g2⟩ := hAt.2.2.2.2.1 0 595 hl0 (by decide)
  have e4 := zyv_3 g2 (by decide)
  have e4 : w1 = .ref (zad B 74) := e4
  subst e4
  have fin : ∀ (H3 : Heap) (locs3 : List Loc), zyMI zymx B zyJ0 s H3 → zyOut zymx B H H3 → (∀ x ∈ locs3, zbs B ≤ x.base) → zyEl zymx B H3 74 43 = some (.long y) → (∀ a2 k2, ¬ (a2 = 74 ∧ k2 = 43) → zyEl zymx B H3 a2 k2 = zyEl zymx B H a2 k2) → Wg H3 locs3 217 lsB [] := by
    intro H3 locs3 hI3 hO3 hlo3 h1 h2
    have hFr3 : xFr fpm (zyEl zymx B s.heap) (zyEl zymx B H3) := by
      intro a2 k2 hk
      rw [h2 a2 k2 (fun z => by rw [z.1, z.2] at hk; rw [hk] at hin; cases hin)]
      exact hFr a2 k2 hk
    obtain ⟨i2, cs, L, p1, p2, p3, p4, p5⟩ := kk H3 (zyTy_of hI3) h1 h2 hFr3
    have g := (xe_env p2.2.2.2.1).2
    rw [← p1]
    refine hIH i2 (xfv L) H3 locs3 lsB [] hI3 (fun q hq => (hO3 q hq).trans (hAt.2.1 q hq)) hFr3 g p4 (xJ_s hAt hB hv p2 hlo3 ?_) p5
    rw [p3]
    trivial
  have r43 : ∀ r ∈ zymr74.2.2, r.1 ≤ 43 → 43 ≤ r.2.1 → r.2.2 = 147573952589676412932 := by decide
  rcases hy with ⟨hpc, L, h1, h2, h3, h4⟩ | ⟨hpc, h4⟩
  · rw [hpc]
    have hT := zyTy_of hAt.1
    have i39 := xE_some hT (a := 74) (k := 39) (q := 39) (c := zymr74) rfl (by decide) rfl (by decide) (by decide) (by decide)
    have i84 := xE_some hT (a := 84) (k := (xE (zyEl zymx B H) 74 39).toNat) (q := 0) rfl (show _ < 900 by omega) rfl (Nat.zero_le _) (show _ ≤ 899 by omega) (by decide)
    have e9 : ((39 : Nat) : Int) = 39 := rfl
    rw [e9] at i39
    have e8 : (((xE (zyEl zymx B H) 74 39).toNat : Nat) : Int) = xE (zyEl zymx B H) 74 39 := by omega
    rw [e8] at i84
    have e7 : Int32.ofInt (xE (zyEl zymx B H) 74 39) = Int32.ofNat (xE (zyEl zymx B H) 74 39).toNat := by
      apply xI_inj
      rw [xI_ofInt (by omega), xI_nat (by omega)]
      have : xsg (xE (zyEl zymx B H) 74 39).toNat = (((xE (zyEl zymx B H) 74 39).toNat : Nat) : Int) := if_pos (by omega)
      omega
    rw [e7] at i39
    refine xLw hRl hen (c74 := zymr74) rfl rfl (c84 := _) rfl rfl rfl r43 hAt.1 hAt.2.2.1 g1 (q := (xE (zyEl zymx B H) 74 39).toNat) (by omega) h1 i39 i84 (zyMI_ref hAt.1 (q := 32) (p := 84) (c := zymr74) rfl (by decide) rfl (by decide) (by decide) rfl) (fun H3 locs3 hI3 hO3 hlo3 k1 k2 => ?_)
    rw [← h4] at k1
    exact fin H3 locs3 hI3 hO3 hlo3 k1 k2
  · rw [hpc]
    refine xLw1 hRl hen (c74 := zymr74) rfl rfl r43 hAt.1 hAt.2.2.1 (fun H3 locs3 hI3 hO3 hlo3 k1 k2 => ?_)
    rw [← h4] at k1
    exact fin H3 locs3 hI3 hO3 hlo3 k1 k2
theorem xLgo0 (hRl : xRl zymx en B s Wg) (hIH : xIH zymx en.2.2.1 B s fpm φ Inv Mu M Wg) (hAt : zyAt zymx B s en.2.2.1 x ρ2 N H locs lsB stA) (hB : xBd ρ2 x.2.2.2.2.1) (hv : ∀ k, xI (ρ2 k) = v2 k) (hFr : xFr fpm (zyEl zymx B s.heap) (zyEl zymx B H)) (hen : en.1 = zxi314) (hl0 : x.2.1[0]? = some 595) (hst : x.2.2.1 = []) (hin : zyin fpm 74 43 = true) (hpc : x.1 = 142)
    (kk : ∀ (H3 : Heap), zyTy zymx (zyEl zymx B H3) → zyEl zymx B H3 74 43 = some (.long (Int64.ofNat 0)) → (∀ a2 k2, ¬ (a2 = 74 ∧ k2 = 43) → zyEl zymx B H3 a2 k2 = zyEl zymx B H a2 k2) → xFr fpm (zyEl zymx B s.heap) (zyEl zymx B H3) → ∃ (i2 : ι) (cs : List Nat) (L : List Int), (φ i2).1 = 147 ∧ xJ zymx B en.2.2.1 x v2 (φ i2) (zyEl zymx B H3) cs L ∧ (φ i2).2.2.2.2 = [] ∧ Inv i2 (xfv L) (zyEl zymx B H3) ∧ Mu i2 (xfv L) (zyEl zymx B H3) < M) : Wg H locs x.1 lsB stA := by
  have hs := hAt.2.2.2.2.2
  rw [hst] at hs
  have e3 := zySt_n hs
  subst e3
  obtain ⟨w1, g1, g2⟩ := hAt.2.2.2.2.1 0 595 hl0 (by decide)
  have e4 := zyv_3 g2 (by decide)
  have e4 : w1 = .ref (zad B 74) := e4
  subst e4
  have fin : ∀ (H3 : Heap) (locs3 : List Loc), zyMI zymx B zyJ0 s H3 → zyOut zymx B H H3 → (∀ x ∈ locs3, zbs B ≤ x.base) → zyEl zymx B H3 74 43 = some (.long (Int64.ofNat 0)) → (∀ a2 k2, ¬ (a2 = 74 ∧ k2 = 43) → zyEl zymx B H3 a2 k2 = zyEl zymx B H a2 k2) → Wg H3 locs3 147 lsB [] := by
    intro H3 locs3 hI3 hO3 hlo3 h1 h2
    have hFr3 : xFr fpm (zyEl zymx B s.heap) (zyEl zymx B H3) := by
      intro a2 k2 hk
      rw [h2 a2 k2 (fun z => by rw [z.1, z.2] at hk; rw [hk] at hin; cases hin)]
      exact hFr a2 k2 hk
    obtain ⟨i2, cs, L, p1, p2, p3, p4, p5⟩ := kk H3 (zyTy_of hI3) h1 h2 hFr3
    have g := (xe_env p2.2.2.2.1).2
    rw [← p1]
    refine hIH i2 (xfv L) H3 locs3 lsB [] hI3 (fun q hq => (hO3 q hq).trans (hAt.2.1 q hq)) hFr3 g p4 (xJ_s hAt hB hv p2 hlo3 ?_) p5
    rw [p3]
    trivial
  have r43 : ∀ r ∈ zymr74.2.2, r.1 ≤ 43 → 43 ≤ r.2.1 → r.2.2 = 147573952589676412932 := by decide
  rw [hpc]
  exact xLw0 hRl hen (c74 := zymr74) rfl rfl r43 hAt.1 hAt.2.2.1 g1 fin
end XLG
end
section
/-! THE REFERENCE's tokens against the spec: kinds, letters -/
/-- the reference's kind of a sign that is no letter and no digit -/
def rK0 (T : Int → Int) (n f : Int) : Int := if f < n then (if T f = 59 ∨ T f = 45 then 3 else 4) else 0
theorem rK0_0 {T : Int → Int} {n f : Int} (h : n ≤ f) : rK0 T n f = 0 := if_neg (by omega)
theorem rK0_3 {T : Int → Int} {n f : Int} (h : f < n) (h2 : T f = 59 ∨ T f = 45) : rK0 T n f = 3 := by
  unfold rK0
  rw [if_pos h, if_pos h2]
theorem rK0_4 {T : Int → Int} {n f : Int} (h : f < n) (h2 : ¬ (T f = 59 ∨ T f = 45)) : rK0 T n f = 4 := by
  unfold rK0
  rw [if_pos h, if_neg h2]
/-- the reference's kind for the spec's kind -/
def rKd (k : Int) : Int := if k = 0 then 0 else if k = 2 then 1 else if k = 3 then 2 else if k = 4 ∨ k = 5 then 3 else 4
def lgo (T : Int → Int) : Nat → Int → Int → Int
  | 0, _, v => v
  | f + 1, q, v => lgo T f (q + 1) (27 * v + T q - 96)
/-- letters from p up to e, base 27 -/
def lVl (T : Int → Int) (p e : Int) : Int := lgo T (e - p).toNat p 0
theorem lgo_s (T : Int → Int) : ∀ (f : Nat) (q v : Int), lgo T (f + 1) q v = 27 * lgo T f q v + T (q + f) - 96 := by
  intro f
  induction f with
  | zero =>
    intro q v
    show 27 * v + T q - 96 = 27 * v + T (q + ((0 : Nat) : Int)) - 96
    rw [show q + ((0 : Nat) : Int) = q by omega]
  | succ f ih =>
    intro q v
    show lgo T (f + 1) (q + 1) (27 * v + T q - 96) = 27 * lgo T f (q + 1) (27 * v + T q - 96) + _ - 96
    rw [ih, show q + 1 + (f : Int) = q + ((f + 1 : Nat) : Int) by omega]
theorem lVl_s {T : Int → Int} {p e : Int} (h : p ≤ e) : lVl T p (e + 1) = 27 * lVl T p e + T e - 96 := by
  unfold lVl
  rw [show (e + 1 - p).toNat = (e - p).toNat + 1 by omega, lgo_s, show p + (((e - p).toNat : Nat) : Int) = e by omega]
theorem lVl_0 {T : Int → Int} {p : Int} : lVl T p p = 0 := by
  unfold lVl
  rw [show (p - p).toNat = 0 by omega]
  rfl
/-- the long that the reference keeps for the letters from p up to e -/
def lLt (T : Int → Int) (p e : Int) : Int64 := if e - p ≤ 8 then Int64.ofInt (lVl T p e) else Int64.ofNat 18446744073709551615
theorem lLt_0 {T : Int → Int} {p : Int} : lLt T p p = Int64.ofNat 0 := by
  unfold lLt
  rw [if_pos (by omega), lVl_0]
  rfl
theorem toInt64_i (t : Int32) : t.toInt64 = Int64.ofInt (xI t) := by
  apply Int64.toInt_inj.mp
  have h1 := Int32.le_toInt t
  have h2 := Int32.toInt_lt t
  rw [Int32.toInt_toInt64, Int64.toInt_ofInt_of_le (by show -9223372036854775808 ≤ t.toInt; omega) (by show t.toInt < 9223372036854775808; omega)]
  rfl
theorem xLt_i (a : Int) (t : Int32) : xLt (Int64.ofInt a) t = Int64.ofInt (27 * a + xI t - 96) := by
  unfold xLt
  rw [toInt64_i, Int64.ofInt_sub, Int64.ofInt_add, Int64.ofInt_mul]
  rfl
theorem lLt_s {T : Int → Int} {p e : Int} (h : p ≤ e) (h8 : e - p < 8) {t : Int32} (ht : xI t = T e) : xLt (lLt T p e) t = lLt T p (e + 1) := by
  unfold lLt
  rw [if_pos (by omega), if_pos (by omega), xLt_i, ht, lVl_s h]
theorem lLt_8 {T : Int → Int} {p e : Int} (h8 : 8 ≤ e - p) : Int64.ofNat 18446744073709551615 = lLt T p (e + 1) := by
  unfold lLt
  rw [if_neg (by omega)]
end
section
/-! THE REFERENCE reads tokens: phases (printed by m17.py) -/
noncomputable def zxfrd_zx0 : zyXp := (0, [595], [], [], [], [])
noncomputable def zpfrd_z : zyPh := (0, [595], [(0, 4294967295)], [], [])
noncomputable def zxfrd_ax0 : zyXp := (8, [595], [], [], [(34359738369, 2147483648, 2147484548)], [(1212454, 34359738369), (1212455, 34359738369)])
noncomputable def zpfrd_a : zyPh := (0, [595], [(0, 4294967295), (2147483648, 2147484548)], [(1212455, 34359738369)], [])
noncomputable def zxfrd_bx0 : zyXp := (60, [595], [], [(24, 68719476737, 74, 336), (20, 0, 34359738369, 68719476737), (24, 103079215105, 84, 34359738369), (23, 0, 103079215105, 80), (24, 137438953473, 84, 34359738369), (23, 0, 137438953473, 256)], [(34359738369, 2147483648, 2147484547), (68719476737, 2147483649, 2147484548), (103079215105, 2147483659, 2147483775), (137438953473, 2147483681, 2147483775)], [(1212454, 34359738369)])
noncomputable def zxfrd_bx1 : zyXp := (60, [595], [], [(24, 68719476737, 74, 336), (20, 0, 34359738369, 68719476737), (24, 103079215105, 84, 34359738369), (23, 0, 103079215105, 80), (24, 137438953473, 84, 34359738369), (23, 0, 137438953473, 256)], [(34359738369, 2147483648, 2147484547), (68719476737, 2147483649, 2147484548), (103079215105, 2147483659, 2147483775), (137438953473, 2147483520, 2147483679)], [(1212454, 34359738369)])
noncomputable def zxfrd_bx2 : zyXp := (8, [595], [], [(24, 68719476737, 74, 336), (20, 0, 34359738369, 68719476737), (24, 103079215105, 84, 34359738369), (23, 0, 103079215105, 80), (24, 137438953473, 84, 34359738369), (22, 0, 137438953473, 256)], [(34359738369, 2147483648, 2147484547), (68719476737, 2147483649, 2147484548), (103079215105, 2147483659, 2147483775), (137438953473, 2147483680, 2147483680)], [(1212454, 34359738377)])
noncomputable def zxfrd_bx3 : zyXp := (60, [595], [], [(24, 68719476737, 74, 336), (20, 0, 34359738369, 68719476737), (24, 103079215105, 84, 34359738369), (23, 0, 103079215105, 80), (24, 137438953473, 84, 34359738369), (23, 0, 137438953473, 256)], [(34359738369, 2147483648, 2147484547), (68719476737, 2147483649, 2147484548), (103079215105, 2147483520, 2147483657), (137438953473, 2147483681, 2147483775)], [(1212454, 34359738369)])
noncomputable def zxfrd_bx4 : zyXp := (60, [595], [], [(24, 68719476737, 74, 336), (20, 0, 34359738369, 68719476737), (24, 103079215105, 84, 34359738369), (23, 0, 103079215105, 80), (24, 137438953473, 84, 34359738369), (23, 0, 137438953473, 256)], [(34359738369, 2147483648, 2147484547), (68719476737, 2147483649, 2147484548), (103079215105, 2147483520, 2147483657), (137438953473, 2147483520, 2147483679)], [(1212454, 34359738369)])
noncomputable def zxfrd_bx5 : zyXp := (8, [595], [], [(24, 68719476737, 74, 336), (20, 0, 34359738369, 68719476737), (24, 103079215105, 84, 34359738369), (23, 0, 103079215105, 80), (24, 137438953473, 84, 34359738369), (22, 0, 137438953473, 256)], [(34359738369, 2147483648, 2147484547), (68719476737, 2147483649, 2147484548), (103079215105, 2147483520, 2147483657), (137438953473, 2147483680, 2147483680)], [(1212454, 34359738377)])
noncomputable def zxfrd_bx6 : zyXp := (8, [595], [], [(24, 68719476737, 74, 336), (20, 0, 34359738369, 68719476737), (24, 103079215105, 84, 34359738369), (22, 0, 103079215105, 80)], [(34359738369, 2147483648, 2147484547), (68719476737, 2147483649, 2147484548), (103079215105, 2147483658, 2147483658)], [(1212454, 34359738377)])
noncomputable def zxfrd_bx7 : zyXp := (60, [595], [], [(24, 68719476737, 74, 336), (21, 0, 34359738369, 68719476737)], [(34359738369, 2147483648, 2147484548), (68719476737, 2147483648, 2147484548)], [(1212454, 34359738369)])
noncomputable def zpfrd_b : zyPh := (8, [595], [(0, 4294967295), (2147483648, 2147484548)], [(1212454, 34359738369)], [])
noncomputable def zxfrd_cx0 : zyXp := (122, [595], [], [(24, 68719476737, 74, 336), (20, 0, 34359738369, 68719476737), (24, 103079215105, 84, 34359738369), (23, 0, 103079215105, 472), (24, 137438953473, 84, 34359738369), (23, 0, 137438953473, 360)], [(34359738369, 2147483648, 2147484547), (68719476737, 2147483649, 2147484548), (103079215105, 2147483708, 2147483775), (137438953473, 2147483694, 2147483775)], [(1212454, 34359738369), (1212455, 34359738377), (1212456, 32)])
noncomputable def zxfrd_cx1 : zyXp := (122, [595], [], [(24, 68719476737, 74, 336), (20, 0, 34359738369, 68719476737), (24, 103079215105, 84, 34359738369), (23, 0, 103079215105, 472), (24, 137438953473, 84, 34359738369), (23, 0, 137438953473, 360)], [(34359738369, 2147483648, 2147484547), (68719476737, 2147483649, 2147484548), (103079215105, 2147483708, 2147483775), (137438953473, 2147483520, 2147483692)], [(1212454, 34359738369), (1212455, 34359738377), (1212456, 32)])
noncomputable def zxfrd_cx2 : zyXp := (122, [595], [], [(24, 68719476737, 74, 336), (20, 0, 34359738369, 68719476737), (24, 103079215105, 84, 34359738369), (23, 0, 103079215105, 472), (24, 137438953473, 84, 34359738369), (22, 0, 137438953473, 360)], [(34359738369, 2147483648, 2147484547), (68719476737, 2147483649, 2147484548), (103079215105, 2147483708, 2147483775), (137438953473, 2147483693, 2147483693)], [(1212454, 34359738369), (1212455, 34359738377), (1212456, 24)])
noncomputable def zxfrd_cx3 : zyXp := (122, [595], [], [(24, 68719476737, 74, 336), (20, 0, 34359738369, 68719476737), (24, 103079215105, 84, 34359738369), (23, 0, 103079215105, 472), (24, 137438953473, 84, 34359738369), (23, 0, 137438953473, 360)], [(34359738369, 2147483648, 2147484547), (68719476737, 2147483649, 2147484548), (103079215105, 2147483520, 2147483706), (137438953473, 2147483694, 2147483775)], [(1212454, 34359738369), (1212455, 34359738377), (1212456, 32)])
noncomputable def zxfrd_cx4 : zyXp := (122, [595], [], [(24, 68719476737, 74, 336), (20, 0, 34359738369, 68719476737), (24, 103079215105, 84, 34359738369), (23, 0, 103079215105, 472), (24, 137438953473, 84, 34359738369), (23, 0, 137438953473, 360)], [(34359738369, 2147483648, 2147484547), (68719476737, 2147483649, 2147484548), (103079215105, 2147483520, 2147483706), (137438953473, 2147483520, 2147483692)], [(1212454, 34359738369), (1212455, 34359738377), (1212456, 32)])
noncomputable def zxfrd_cx5 : zyXp := (122, [595], [], [(24, 68719476737, 74, 336), (20, 0, 34359738369, 68719476737), (24, 103079215105, 84, 34359738369), (23, 0, 103079215105, 472), (24, 137438953473, 84, 34359738369), (22, 0, 137438953473, 360)], [(34359738369, 2147483648, 2147484547), (68719476737, 2147483649, 2147484548), (103079215105, 2147483520, 2147483706), (137438953473, 2147483693, 2147483693)], [(1212454, 34359738369), (1212455, 34359738377), (1212456, 24)])
noncomputable def zxfrd_cx6 : zyXp := (122, [595], [], [(24, 68719476737, 74, 336), (20, 0, 34359738369, 68719476737), (24, 103079215105, 84, 34359738369), (22, 0, 103079215105, 472)], [(34359738369, 2147483648, 2147484547), (68719476737, 2147483649, 2147484548), (103079215105, 2147483707, 2147483707)], [(1212454, 34359738369), (1212455, 34359738377), (1212456, 24)])
noncomputable def zxfrd_cx7 : zyXp := (122, [595], [], [(24, 68719476737, 74, 336), (21, 0, 34359738369, 68719476737)], [(34359738369, 2147483648, 2147484548), (68719476737, 2147483648, 2147484548)], [(1212454, 34359738369), (1212455, 34359738377), (1212456, 0)])
noncomputable def zpfrd_c : zyPh := (60, [595], [(0, 4294967295), (2147483648, 2147484548)], [(1212454, 34359738369)], [])
noncomputable def zxfrd_gx0 : zyXp := (258, [595], [], [(24, 137438953473, 74, 336), (20, 0, 34359738369, 137438953473), (24, 171798691841, 84, 34359738369), (20, 0, 171798691841, 776), (20, 0, 34359738369, 137438953473), (24, 206158430209, 84, 34359738369), (21, 0, 206158430209, 384), (21, 0, 456, 206158430209)], [(34359738369, 2147483648, 2147484547), (103079215105, 2147483648, 2147483652), (137438953473, 2147483649, 2147484548), (171798691841, 2147483520, 2147483744), (206158430209, 2147483696, 2147483705)], [(1212454, 34359738369), (1212455, 34359738369), (1212456, 103079215105), (1212457, 0)])
noncomputable def zxfrd_gx1 : zyXp := (258, [595], [], [(24, 137438953473, 74, 336), (20, 0, 34359738369, 137438953473), (24, 171798691841, 84, 34359738369), (21, 0, 171798691841, 776), (20, 0, 976, 171798691841), (20, 0, 34359738369, 137438953473), (24, 206158430209, 84, 34359738369), (21, 0, 206158430209, 384), (21, 0, 456, 206158430209)], [(34359738369, 2147483648, 2147484547), (103079215105, 2147483648, 2147483652), (137438953473, 2147483649, 2147484548), (171798691841, 2147483771, 2147483775), (206158430209, 2147483696, 2147483705)], [(1212454, 34359738369), (1212455, 34359738369), (1212456, 103079215105), (1212457, 0)])
noncomputable def zxfrd_gx2 : zyXp := (142, [595], [], [(24, 137438953473, 74, 336), (20, 0, 34359738369, 137438953473), (24, 171798691841, 84, 34359738369), (21, 0, 171798691841, 776), (21, 0, 976, 171798691841)], [(34359738369, 2147483648, 2147484547), (68719476737, 2147483648, 2147484549), (137438953473, 2147483649, 2147484548), (171798691841, 2147483745, 2147483770)], [(1212454, 34359738369), (1212455, 68719476737), (1212456, 8)])
noncomputable def zxfrd_gx3 : zyXp := (258, [595], [], [(24, 137438953473, 74, 336), (21, 0, 34359738369, 137438953473), (20, 0, 34359738369, 137438953473), (24, 171798691841, 84, 34359738369), (21, 0, 171798691841, 384), (21, 0, 456, 171798691841)], [(34359738369, 2147483648, 2147484547), (103079215105, 2147483648, 2147483652), (137438953473, 2147483649, 2147484548), (171798691841, 2147483696, 2147483705)], [(1212454, 34359738369), (1212455, 34359738369), (1212456, 103079215105), (1212457, 0)])
noncomputable def zxfrd_gr0 : zyXp := (0, [], [], [(24, 137438953473, 74, 336), (20, 0, 34359738369, 137438953473), (24, 171798691841, 84, 34359738369), (20, 0, 171798691841, 776), (20, 0, 34359738369, 137438953473), (24, 206158430209, 84, 34359738369), (20, 0, 206158430209, 384)], [(34359738369, 2147483648, 2147484547), (68719476737, 2147483648, 2147484549), (103079215105, 2147483648, 2147483652), (137438953473, 2147483649, 2147484548), (171798691841, 2147483520, 2147483744), (206158430209, 2147483520, 2147483695)], [(1212454, 34359738369), (1212455, 68719476737), (1212456, 103079215105)])
noncomputable def zxfrd_gr1 : zyXp := (0, [], [], [(24, 137438953473, 74, 336), (20, 0, 34359738369, 137438953473), (24, 171798691841, 84, 34359738369), (20, 0, 171798691841, 776), (20, 0, 34359738369, 137438953473), (24, 206158430209, 84, 34359738369), (21, 0, 206158430209, 384), (20, 0, 456, 206158430209)], [(34359738369, 2147483648, 2147484547), (68719476737, 2147483648, 2147484549), (103079215105, 2147483648, 2147483652), (137438953473, 2147483649, 2147484548), (171798691841, 2147483520, 2147483744), (206158430209, 2147483706, 2147483775)], [(1212454, 34359738369), (1212455, 68719476737), (1212456, 103079215105)])
noncomputable def zxfrd_gr2 : zyXp := (0, [], [], [(24, 137438953473, 74, 336), (20, 0, 34359738369, 137438953473), (24, 171798691841, 84, 34359738369), (20, 0, 171798691841, 776), (21, 0, 34359738369, 137438953473)], [(34359738369, 2147483649, 2147484547), (68719476737, 2147483648, 2147484549), (103079215105, 2147483648, 2147483652), (137438953473, 2147483649, 2147484547), (171798691841, 2147483520, 2147483744)], [(1212454, 34359738369), (1212455, 68719476737), (1212456, 103079215105)])
noncomputable def zxfrd_gr3 : zyXp := (0, [], [], [(24, 137438953473, 74, 336), (20, 0, 34359738369, 137438953473), (24, 171798691841, 84, 34359738369), (21, 0, 171798691841, 776), (20, 0, 976, 171798691841), (20, 0, 34359738369, 137438953473), (24, 206158430209, 84, 34359738369), (20, 0, 206158430209, 384)], [(34359738369, 2147483648, 2147484547), (68719476737, 2147483648, 2147484549), (103079215105, 2147483648, 2147483652), (137438953473, 2147483649, 2147484548), (171798691841, 2147483771, 2147483775), (206158430209, 2147483520, 2147483695)], [(1212454, 34359738369), (1212455, 68719476737), (1212456, 103079215105)])
noncomputable def zxfrd_gr4 : zyXp := (0, [], [], [(24, 137438953473, 74, 336), (20, 0, 34359738369, 137438953473), (24, 171798691841, 84, 34359738369), (21, 0, 171798691841, 776), (20, 0, 976, 171798691841), (20, 0, 34359738369, 137438953473), (24, 206158430209, 84, 34359738369), (21, 0, 206158430209, 384), (20, 0, 456, 206158430209)], [(34359738369, 2147483648, 2147484547), (68719476737, 2147483648, 2147484549), (103079215105, 2147483648, 2147483652), (137438953473, 2147483649, 2147484548), (171798691841, 2147483771, 2147483775), (206158430209, 2147483706, 2147483775)], [(1212454, 34359738369), (1212455, 68719476737), (1212456, 103079215105)])
noncomputable def zxfrd_gr5 : zyXp := (0, [], [], [(24, 137438953473, 74, 336), (20, 0, 34359738369, 137438953473), (24, 171798691841, 84, 34359738369), (21, 0, 171798691841, 776), (20, 0, 976, 171798691841), (21, 0, 34359738369, 137438953473)], [(34359738369, 2147483649, 2147484547), (68719476737, 2147483648, 2147484549), (103079215105, 2147483648, 2147483652), (137438953473, 2147483649, 2147484547), (171798691841, 2147483771, 2147483775)], [(1212454, 34359738369), (1212455, 68719476737), (1212456, 103079215105)])
noncomputable def zxfrd_gr6 : zyXp := (0, [], [], [(24, 137438953473, 74, 336), (21, 0, 34359738369, 137438953473), (20, 0, 34359738369, 137438953473), (24, 171798691841, 84, 34359738369), (20, 0, 171798691841, 384)], [(34359738369, 2147483648, 2147484547), (68719476737, 2147483648, 2147484549), (103079215105, 2147483648, 2147483652), (137438953473, 2147483649, 2147484548), (171798691841, 2147483520, 2147483695)], [(1212454, 34359738369), (1212455, 68719476737), (1212456, 103079215105)])
noncomputable def zxfrd_gr7 : zyXp := (0, [], [], [(24, 137438953473, 74, 336), (21, 0, 34359738369, 137438953473), (20, 0, 34359738369, 137438953473), (24, 171798691841, 84, 34359738369), (21, 0, 171798691841, 384), (20, 0, 456, 171798691841)], [(34359738369, 2147483648, 2147484547), (68719476737, 2147483648, 2147484549), (103079215105, 2147483648, 2147483652), (137438953473, 2147483649, 2147484548), (171798691841, 2147483706, 2147483775)], [(1212454, 34359738369), (1212455, 68719476737), (1212456, 103079215105)])
noncomputable def zxfrd_gr8 : zyXp := (0, [], [], [(24, 137438953473, 74, 336), (21, 0, 34359738369, 137438953473), (21, 0, 34359738369, 137438953473)], [(34359738369, 2147483648, 2147484548), (68719476737, 2147483648, 2147484549), (103079215105, 2147483648, 2147483652), (137438953473, 2147483648, 2147484548)], [(1212454, 34359738369), (1212455, 68719476737), (1212456, 103079215105)])
noncomputable def zpfrd_g : zyPh := (122, [595], [(0, 4294967295), (2147483648, 2147484548), (2147483648, 2147484549), (2147483648, 2147483652)], [(1212454, 34359738369), (1212455, 68719476737), (1212456, 103079215105)], [])
noncomputable def zxfrd_kx0 : zyXp := (155, [595], [], [], [(34359738369, 2147483648, 2147484548)], [(1212454, 34359738369), (1212455, 34359738369)])
noncomputable def zpfrd_k : zyPh := (147, [595], [(0, 4294967295), (2147483648, 2147484548)], [(1212454, 34359738369)], [])
noncomputable def zxfrd_dx0 : zyXp := (185, [595], [595], [(24, 103079215105, 74, 336), (20, 0, 34359738369, 103079215105), (24, 137438953473, 84, 34359738369), (21, 0, 137438953473, 776), (21, 0, 976, 137438953473), (2, 171798691841, 34359738369, 68719476737), (20, 0, 171798691841, 64)], [(34359738369, 2147483648, 2147484547), (68719476737, 2147483648, 2147484548), (103079215105, 2147483649, 2147484548), (137438953473, 2147483745, 2147483770), (171798691841, 2147482748, 2147483655)], [(1212455, 34359738369), (1212454, 68719476737)])
noncomputable def zxfrd_dx1 : zyXp := (211, [595], [595], [(24, 103079215105, 74, 336), (20, 0, 34359738369, 103079215105), (24, 137438953473, 84, 34359738369), (21, 0, 137438953473, 776), (21, 0, 976, 137438953473), (2, 171798691841, 34359738369, 68719476737), (21, 0, 171798691841, 64)], [(34359738369, 2147483648, 2147484547), (68719476737, 2147483648, 2147484548), (103079215105, 2147483649, 2147484548), (137438953473, 2147483745, 2147483770), (171798691841, 2147483656, 2147484547)], [(1212455, 34359738369), (1212454, 68719476737)])
noncomputable def zxfrd_dr0 : zyXp := (0, [], [], [(24, 103079215105, 74, 336), (20, 0, 34359738369, 103079215105), (24, 137438953473, 84, 34359738369), (20, 0, 137438953473, 776)], [(34359738369, 2147483648, 2147484547), (68719476737, 2147483648, 2147484548), (103079215105, 2147483649, 2147484548), (137438953473, 2147483520, 2147483744)], [(1212455, 34359738369), (1212454, 68719476737)])
noncomputable def zxfrd_dr1 : zyXp := (0, [], [], [(24, 103079215105, 74, 336), (20, 0, 34359738369, 103079215105), (24, 137438953473, 84, 34359738369), (21, 0, 137438953473, 776), (20, 0, 976, 137438953473)], [(34359738369, 2147483648, 2147484547), (68719476737, 2147483648, 2147484548), (103079215105, 2147483649, 2147484548), (137438953473, 2147483771, 2147483775)], [(1212455, 34359738369), (1212454, 68719476737)])
noncomputable def zxfrd_dr2 : zyXp := (0, [], [], [(24, 103079215105, 74, 336), (21, 0, 34359738369, 103079215105)], [(34359738369, 2147483648, 2147484548), (68719476737, 2147483648, 2147484548), (103079215105, 2147483648, 2147484548)], [(1212455, 34359738369), (1212454, 68719476737)])
noncomputable def zpfrd_d : zyPh := (155, [595], [(0, 4294967295), (2147483648, 2147484548), (2147483648, 2147484548)], [(1212455, 34359738369), (1212454, 68719476737)], [])
noncomputable def zxfrd_hx0 : zyXp := (155, [595], [], [], [(34359738369, 2147483648, 2147484547)], [(1212455, 34359738377)])
noncomputable def zpfrd_h : zyPh := (217, [595], [(0, 4294967295), (2147483648, 2147484547)], [(1212455, 34359738369)], [])
noncomputable def zxfrd_ex0 : zyXp := (314, [595], [343597383297, 595], [(24, 137438953473, 74, 336), (20, 0, 34359738369, 137438953473), (24, 171798691841, 84, 34359738369), (21, 0, 171798691841, 384), (21, 0, 456, 171798691841), (2, 206158430209, 34359738369, 68719476737), (20, 0, 206158430209, 24), (3, 240518168577, 80, 103079215105), (24, 274877906945, 84, 34359738369), (1, 309237645313, 240518168577, 274877906945)], [(34359738369, 2147483648, 2147484547), (68719476737, 2147483648, 2147484548), (103079215105, 2147483648, 2147484647), (137438953473, 2147483649, 2147484548), (171798691841, 2147483696, 2147483705), (206158430209, 2147482748, 2147483650), (240518168577, 2147483648, 2147493638), (274877906945, 2147483520, 2147483775), (309237645313, 2147483520, 2147493765), (343597383297, 2147483472, 2147493717)], [(1212455, 34359738369), (1212454, 68719476737), (1212457, 103079215105)])
noncomputable def zxfrd_ex1 : zyXp := (314, [595], [103079215105, 595], [(24, 137438953473, 74, 336), (20, 0, 34359738369, 137438953473), (24, 171798691841, 84, 34359738369), (21, 0, 171798691841, 384), (21, 0, 456, 171798691841), (2, 206158430209, 34359738369, 68719476737), (21, 0, 206158430209, 24)], [(34359738369, 2147483648, 2147484547), (68719476737, 2147483648, 2147484548), (103079215105, 2147483648, 2147484647), (137438953473, 2147483649, 2147484548), (171798691841, 2147483696, 2147483705), (206158430209, 2147483651, 2147484547)], [(1212455, 34359738369), (1212454, 68719476737), (1212457, 103079215105)])
noncomputable def zxfrd_er0 : zyXp := (0, [], [], [(24, 137438953473, 74, 336), (20, 0, 34359738369, 137438953473), (24, 171798691841, 84, 34359738369), (20, 0, 171798691841, 384), (2, 206158430209, 34359738369, 68719476737), (20, 0, 24, 206158430209)], [(34359738369, 2147483648, 2147484547), (68719476737, 2147483648, 2147484548), (103079215105, 2147483648, 2147484647), (137438953473, 2147483649, 2147484548), (171798691841, 2147483520, 2147483695), (206158430209, 2147483652, 2147484547)], [(1212455, 34359738369), (1212454, 68719476737), (1212456, 32), (1212457, 103079215105)])
noncomputable def zxfrd_er1 : zyXp := (0, [], [], [(24, 137438953473, 74, 336), (20, 0, 34359738369, 137438953473), (24, 171798691841, 84, 34359738369), (20, 0, 171798691841, 384), (2, 206158430209, 34359738369, 68719476737), (21, 0, 24, 206158430209)], [(34359738369, 2147483648, 2147484547), (68719476737, 2147483648, 2147484548), (103079215105, 2147483648, 2147484647), (137438953473, 2147483649, 2147484548), (171798691841, 2147483520, 2147483695), (206158430209, 2147482748, 2147483651)], [(1212455, 34359738369), (1212454, 68719476737), (1212456, 16), (1212457, 103079215105)])
noncomputable def zxfrd_er2 : zyXp := (0, [], [], [(24, 137438953473, 74, 336), (20, 0, 34359738369, 137438953473), (24, 171798691841, 84, 34359738369), (21, 0, 171798691841, 384), (20, 0, 456, 171798691841), (2, 206158430209, 34359738369, 68719476737), (20, 0, 24, 206158430209)], [(34359738369, 2147483648, 2147484547), (68719476737, 2147483648, 2147484548), (103079215105, 2147483648, 2147484647), (137438953473, 2147483649, 2147484548), (171798691841, 2147483706, 2147483775), (206158430209, 2147483652, 2147484547)], [(1212455, 34359738369), (1212454, 68719476737), (1212456, 32), (1212457, 103079215105)])
noncomputable def zxfrd_er3 : zyXp := (0, [], [], [(24, 137438953473, 74, 336), (20, 0, 34359738369, 137438953473), (24, 171798691841, 84, 34359738369), (21, 0, 171798691841, 384), (20, 0, 456, 171798691841), (2, 206158430209, 34359738369, 68719476737), (21, 0, 24, 206158430209)], [(34359738369, 2147483648, 2147484547), (68719476737, 2147483648, 2147484548), (103079215105, 2147483648, 2147484647), (137438953473, 2147483649, 2147484548), (171798691841, 2147483706, 2147483775), (206158430209, 2147482748, 2147483651)], [(1212455, 34359738369), (1212454, 68719476737), (1212456, 16), (1212457, 103079215105)])
noncomputable def zxfrd_er4 : zyXp := (0, [], [], [(24, 137438953473, 74, 336), (21, 0, 34359738369, 137438953473), (2, 171798691841, 34359738369, 68719476737), (20, 0, 24, 171798691841)], [(34359738369, 2147483648, 2147484548), (68719476737, 2147483648, 2147484548), (103079215105, 2147483648, 2147484647), (137438953473, 2147483648, 2147484548), (171798691841, 2147483652, 2147484548)], [(1212455, 34359738369), (1212454, 68719476737), (1212456, 32), (1212457, 103079215105)])
noncomputable def zxfrd_er5 : zyXp := (0, [], [], [(24, 137438953473, 74, 336), (21, 0, 34359738369, 137438953473), (2, 171798691841, 34359738369, 68719476737), (21, 0, 24, 171798691841)], [(34359738369, 2147483648, 2147484548), (68719476737, 2147483648, 2147484548), (103079215105, 2147483648, 2147484647), (137438953473, 2147483648, 2147484548), (171798691841, 2147482748, 2147483651)], [(1212455, 34359738369), (1212454, 68719476737), (1212456, 16), (1212457, 103079215105)])
noncomputable def zpfrd_e : zyPh := (258, [595], [(0, 4294967295), (2147483648, 2147484548), (2147483648, 2147484548), (2147483648, 2147484647)], [(1212455, 34359738369), (1212454, 68719476737), (1212457, 103079215105)], [])
noncomputable def zxfrd_fx0 : zyXp := (258, [595], [], [], [(34359738369, 2147483648, 2147484547), (68719476737, 2147483648, 2147484647)], [(1212455, 34359738377), (1212457, 68719476737)])
noncomputable def zpfrd_f : zyPh := (314, [595], [(0, 4294967295), (2147483648, 2147484547), (2147483648, 2147484647)], [(1212455, 34359738369)], [68719476737, 595])
noncomputable def zpfrd (i : Nat) : zyPh := zif (Nat.beq i 0) (zpfrd_z) (zif (Nat.beq i 1) (zpfrd_a) (zif (Nat.beq i 2) (zpfrd_b) (zif (Nat.beq i 3) (zpfrd_c) (zif (Nat.beq i 4) (zpfrd_g) (zif (Nat.beq i 5) (zpfrd_k) (zif (Nat.beq i 6) (zpfrd_d) (zif (Nat.beq i 7) (zpfrd_h) (zif (Nat.beq i 8) (zpfrd_e) (zpfrd_f)))))))))
noncomputable def zXfrd (i : Nat) : List zyXp := zif (Nat.beq i 0) ([zxfrd_zx0]) (zif (Nat.beq i 1) ([zxfrd_ax0]) (zif (Nat.beq i 2) ([zxfrd_bx0, zxfrd_bx1, zxfrd_bx2, zxfrd_bx3, zxfrd_bx4, zxfrd_bx5, zxfrd_bx6, zxfrd_bx7]) (zif (Nat.beq i 3) ([zxfrd_cx0, zxfrd_cx1, zxfrd_cx2, zxfrd_cx3, zxfrd_cx4, zxfrd_cx5, zxfrd_cx6, zxfrd_cx7]) (zif (Nat.beq i 4) ([zxfrd_gx0, zxfrd_gx1, zxfrd_gx2, zxfrd_gx3]) (zif (Nat.beq i 5) ([zxfrd_kx0]) (zif (Nat.beq i 6) ([zxfrd_dx0, zxfrd_dx1]) (zif (Nat.beq i 7) ([zxfrd_hx0]) (zif (Nat.beq i 8) ([zxfrd_ex0, zxfrd_ex1]) ([zxfrd_fx0])))))))))
noncomputable def zRfrd (i : Nat) : List zyXp := zif (Nat.beq i 0) ([]) (zif (Nat.beq i 1) ([]) (zif (Nat.beq i 2) ([]) (zif (Nat.beq i 3) ([]) (zif (Nat.beq i 4) ([zxfrd_gr0, zxfrd_gr1, zxfrd_gr2, zxfrd_gr3, zxfrd_gr4, zxfrd_gr5, zxfrd_gr6, zxfrd_gr7, zxfrd_gr8]) (zif (Nat.beq i 5) ([]) (zif (Nat.beq i 6) ([zxfrd_dr0, zxfrd_dr1, zxfrd_dr2]) (zif (Nat.beq i 7) ([]) (zif (Nat.beq i 8) ([zxfrd_er0, zxfrd_er1, zxfrd_er2, zxfrd_er3, zxfrd_er4, zxfrd_er5]) ([])))))))))
noncomputable def zFfrd (i : Nat) : zyR := zif (Nat.beq i 0) ([]) (zif (Nat.beq i 1) ([(74, 38, 38)]) (zif (Nat.beq i 2) ([(74, 38, 38)]) (zif (Nat.beq i 3) ([(74, 39, 40)]) (zif (Nat.beq i 4) ([(74, 39, 41)]) (zif (Nat.beq i 5) ([(74, 39, 39)]) (zif (Nat.beq i 6) ([]) (zif (Nat.beq i 7) ([(74, 39, 39)]) (zif (Nat.beq i 8) ([(74, 40, 40)]) ([(74, 39, 39), (74, 41, 41)])))))))))
noncomputable def zSfrd (i : Nat) : Nat := zif (Nat.beq i 0) (0) (zif (Nat.beq i 1) (0) (zif (Nat.beq i 2) (0) (zif (Nat.beq i 3) (0) (zif (Nat.beq i 4) (0) (zif (Nat.beq i 5) (0) (zif (Nat.beq i 6) (0) (zif (Nat.beq i 7) (0) (zif (Nat.beq i 8) (0) (0)))))))))
end
