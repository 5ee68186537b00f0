/-! THE REFERENCE: puts and feed (printed by m16.py) -/
noncomputable def zxfpu_ax0 : zyXp := (3, [595, 34359738369, 192], [], [], [], [])
noncomputable def zpfpu_a : zyPh := (0, [595, 34359738369, 13], [(0, 4294967295), (0, 4294967295), (0, 4294967295)], [], [])
noncomputable def zxfpu_bx0 : zyXp := (18, [595, 34359738369, 68719476737], [137438953473, 103079215105, 675], [(21, 0, 68719476737, 0), (24, 103079215105, 74, 264), (9, 137438953473, 34359738369, 68719476737)], [(68719476737, 2147483648, 2147483672), (103079215105, 2147483648, 2147484548)], [])
noncomputable def zxfpu_br0 : zyXp := (0, [], [], [(20, 0, 68719476737, 0)], [(68719476737, 2147483640, 2147483647)], [])
noncomputable def zpfpu_b : zyPh := (3, [595, 34359738369, 68719476737], [(0, 4294967295), (0, 4294967295), (2147483640, 2147483672)], [], [])
noncomputable def zxfpu_cx0 : zyXp := (3, [595, 34359738369, 103079215041], [], [], [(68719476737, 2147483648, 2147483672), (103079215105, 2147483648, 2147484547), (103079215041, 2147483640, 2147483664)], [(1212449, 103079215113)])
noncomputable def zpfpu_c : zyPh := (20, [595, 34359738369, 68719476737], [(0, 4294967295), (0, 4294967295), (2147483648, 2147483672), (2147483648, 2147484547)], [(1212449, 103079215105)], [])
noncomputable def zpfpu (i : Nat) : zyPh := zif (Nat.beq i 0) (zpfpu_a) (zif (Nat.beq i 1) (zpfpu_b) (zpfpu_c))
noncomputable def zXfpu (i : Nat) : List zyXp := zif (Nat.beq i 0) ([zxfpu_ax0]) (zif (Nat.beq i 1) ([zxfpu_bx0]) ([zxfpu_cx0]))
noncomputable def zRfpu (i : Nat) : List zyXp := zif (Nat.beq i 0) ([]) (zif (Nat.beq i 1) ([zxfpu_br0]) ([]))
noncomputable def zFfpu (i : Nat) : zyR := zif (Nat.beq i 0) ([]) (zif (Nat.beq i 1) ([]) ([(74, 33, 33)]))
noncomputable def zSfpu (i : Nat) : Nat := zif (Nat.beq i 0) (0) (zif (Nat.beq i 1) (0) (0))
def xΦfpu (_ : Nat → Int) (E : zyEm) : Prop := xE E 74 33 ≤ 896
def xΨfpu (x : Nat → Int) (E E2 : zyEm) (_ : Int) : Prop := xE E2 74 33 = xE E 74 33 + 4 ∧ (∀ k, 0 ≤ k → k < 4 → xE E2 84 (xE E 74 33 + k) = fby (x 0) k) ∧ (∀ k, 0 ≤ k → k < xE E 74 33 → xE E2 84 k = xE E 84 k)
noncomputable def fpfpu : zyR := [(74, 33, 33), (84, 0, 899)]
theorem zyfpu_run : zyrS zymx zxi311 (311, 0, 0, 0, 0) 1 zpfpu (fun _ _ => []) zFfpu zSfpu zXfpu zRfpu 3 = true := by decide +kernel
theorem zyfpu_ck : zyAll (fun i => xsubR (zFfpu i) fpfpu && ((zXfpu i).all xckX && (zRfpu i).all (fun x => xckX x && xrtB false x))) 3 = true := by decide +kernel
def xIfpu (i : Nat) (x0 : Nat → Int) (E0 : zyEm) (v : Nat → Int) (E : zyEm) : Prop := if i = 0 then (E = E0 ∧ (v 1) = x0 0) else if i = 1 then ((v 1) = x0 0 ∧ (xE E0 74 33 ≤ 896) ∧ ∃ j : Int, (v 2) = 24 - 8 * j ∧ xE E 74 33 = xE E0 74 33 + j ∧ (0 ≤ j ∧ j ≤ 4) ∧ (∀ k, 0 ≤ k → k < j → xE E 84 (xE E0 74 33 + k) = fby (x0 0) k) ∧ (∀ k, 0 ≤ k → k < xE E0 74 33 → xE E 84 k = xE E0 84 k)) else ((v 1) = x0 0 ∧ (xE E0 74 33 ≤ 896) ∧ ∃ j : Int, (v 2) = 24 - 8 * j ∧ j ≤ 3 ∧ xE E 74 33 = xE E0 74 33 + j ∧ (0 ≤ j) ∧ (∀ k, 0 ≤ k → k < j + 1 → xE E 84 (xE E0 74 33 + k) = fby (x0 0) k) ∧ (∀ k, 0 ≤ k → k < xE E0 74 33 → xE E 84 k = xE E0 84 k))
def xMfpu (i : Nat) (x0 : Nat → Int) (E0 : zyEm) (v : Nat → Int) (E : zyEm) : Nat := if i = 0 then (1000) else if i = 1 then (2 * (100 + (v 2)).toNat + 1) else (2 * (100 + (v 2)).toNat)
theorem xPu {l : Launch} {en : zEn} {me : zMe} (hen : zG zxMeta 311 = some en) (hme : zG zMeth 311 = some me) : xFc l zymx en me 1 [74] 1 fpfpu false xΦfpu xΨfpu := by
  have een : zG zxMeta 311 = some (zxi311, 2, 3, 11, 311, 0, 0, 0, 0) := rfl
  obtain ⟨me1, hme1, hOK⟩ := zall hen
  rw [hme] at hme1
  cases hme1
  rw [een] at hen
  cases hen
  have hr := zyfpu_run
  have hck := fun i hi => zyAll_iff zyfpu_ck i hi
  simp only [Bool.and_eq_true] at hck
  intro B
  refine xcut (mi := zymx) (B := B) hOK rfl rfl (ι := Fin 3) (fun i => zpfpu i.val) (fun _ _ => []) (fun i => zFfpu i.val) (fun i => zSfpu i.val) (fun i => zXfpu i.val) (fun i => zRfpu i.val) (fun i y2 ct en2 me2 h => by cases h) 200000 (fun i => zyAll_iff hr i.val i.isLt) (fun i => (hck i.val i.isLt).1) (fun i => (hck i.val i.isLt).2.1) (fun i => (hck i.val i.isLt).2.2) ⟨0, by decide⟩ ⟨rfl, rfl, rfl, rfl⟩ ⟨by decide, by decide⟩ (fun i x0 E0 v E => xIfpu i.val x0 E0 v E) (fun i x0 E0 v E => xMfpu i.val x0 E0 v E) ?_ ?_ ?_
  · intro x0 E hx0 hT hΦ
    have hΦ : xΦfpu x0 E := hΦ
    refine ⟨fun k p hp => ?_, ?_⟩
    · have hk : k < 3 := (List.getElem?_eq_some_iff.mp hp).1
      have hk : k = 0 ∨ k = 1 ∨ k = 2 := by omega
      rcases hk with rfl | rfl | rfl
      · have hp : some (0, 4294967295) = some p := hp
        cases hp
        show ((0 : Nat) : Int) ≤ 0 + 2147483648 ∧ 0 + 2147483648 ≤ ((4294967295 : Nat) : Int)
        omega
      · have hp : some (0, 4294967295) = some p := hp
        cases hp
        show ((0 : Nat) : Int) ≤ x0 0 + 2147483648 ∧ x0 0 + 2147483648 ≤ ((4294967295 : Nat) : Int)
        have hx := hx0 0
        omega
      · have hp : some (0, 4294967295) = some p := hp
        cases hp
        show ((0 : Nat) : Int) ≤ x0 1 + 2147483648 ∧ x0 1 + 2147483648 ≤ ((4294967295 : Nat) : Int)
        have hx := hx0 1
        omega
    · show E = E ∧ (x0 0) = x0 0
      exact ⟨rfl, rfl⟩
  · intro x0 s Wg hRu hrx hT0 hΦ i v H hT hrv hInv hKc hFr0 hIH x hx ρ2 v2 N2 H2 locs lsB stA hAt hB hv hr2 hXs hag hfr hFr hT2
    rcases i with ⟨i, hi⟩
    have hi2 : i = 0 ∨ i = 1 ∨ i = 2 := by omega
    rcases hi2 with rfl | rfl | rfl
    · have hx : x ∈ [zxfpu_ax0] := hx
      have hag : ∀ k, k < 3 → v2 k = v k := hag
      have hfr : xFr [] _ _ := hfr
      have ex := List.mem_singleton.mp hx
      subst ex
      obtain ⟨hF, hBd, hM⟩ := hXs
      have r1 := hr2 1
      have g1 : v2 1 = v 1 := hag 1 (by decide)
      have e74_33 : xE (zyEl zymx B H2) 74 33 = xE (zyEl zymx B H) 74 33 := xFr_E hfr rfl
      have e84 : ∀ i, xE (zyEl zymx B H2) 84 i = xE (zyEl zymx B H) 84 i := fun i => xFr_E hfr rfl
      have y74_33 : ((2147483648 : Nat) : Int) ≤ xE (zyEl zymx B s.heap) 74 33 + 2147483648 ∧ xE (zyEl zymx B s.heap) 74 33 + 2147483648 ≤ ((2147484548 : Nat) : Int) := xTyF hT0 74 33 33 rfl rfl rfl rfl rfl rfl
      have hI : (zyEl zymx B H) = (zyEl zymx B s.heap) ∧ (v 1) = x0 0 := hInv
      have q74_33 : xE (zyEl zymx B H) 74 33 = xE (zyEl zymx B s.heap) 74 33 := by rw [hI.1]
      have q84 : ∀ i, xE (zyEl zymx B H) 84 i = xE (zyEl zymx B s.heap) 84 i := fun i => by rw [hI.1]
      have hP : xE (zyEl zymx B s.heap) 74 33 ≤ 896 := hΦ
      refine xGo hIH hAt hB hv hFr ⟨1, by decide⟩ [0, 34359738369, 192] [0, (v2 1), 24] rfl ⟨by decide +kernel, ⟨rfl, by decide +kernel⟩, (xcs_c rfl (xcs_c rfl (xcs_c rfl xcs_n))), (xe_0 (xe_f (by omega) (xe_c (by omega) (by omega) rfl xe_n))), xkq_n⟩ xst_n ?_ ?_
      · show ((v2 1) : Int) = x0 0 ∧ (xE (zyEl zymx B s.heap) 74 33 ≤ 896) ∧ ∃ j : Int, (24 : Int) = 24 - 8 * j ∧ xE (zyEl zymx B H2) 74 33 = xE (zyEl zymx B s.heap) 74 33 + j ∧ (0 ≤ j ∧ j ≤ 4) ∧ (∀ k, 0 ≤ k → k < j → xE (zyEl zymx B H2) 84 (xE (zyEl zymx B s.heap) 74 33 + k) = fby (x0 0) k) ∧ (∀ k, 0 ≤ k → k < xE (zyEl zymx B s.heap) 74 33 → xE (zyEl zymx B H2) 84 k = xE (zyEl zymx B s.heap) 84 k)
        exact ⟨by omega, by omega, 0, by omega, by omega, by omega, fun k k0 k1 => by omega, fun k k0 k1 => (e84 k).trans (q84 k)⟩
      · show 2 * (100 + (24 : Int)).toNat + 1 < 1000
        omega
    · have hx : x ∈ [zxfpu_bx0] := hx
      have hag : ∀ k, k < 3 → v2 k = v k := hag
      have hfr : xFr [] _ _ := hfr
      have ex := List.mem_singleton.mp hx
      subst ex
      obtain ⟨hF, hBd, hM⟩ := hXs
      have r1 := hr2 1
      have r4 := hr2 4
      have g1 : v2 1 = v 1 := hag 1 (by decide)
      have g2 : v2 2 = v 2 := hag 2 (by decide)
      have b0 : ((2147483648 : Nat) : Int) ≤ (v2 2) + 2147483648 ∧ (v2 2) + 2147483648 ≤ ((2147483672 : Nat) : Int) := xXb hBd 0 rfl
      have b1 : ((2147483648 : Nat) : Int) ≤ (v2 3) + 2147483648 ∧ (v2 3) + 2147483648 ≤ ((2147484548 : Nat) : Int) := xXb hBd 1 rfl
      have f0 : 0 ≤ (v2 2) := xXf hF 0 rfl
      have f1 : (0 : Int) ≤ 33 ∧ xE (zyEl zymx B H) 74 33 = (v2 3) := xXf hF 1 rfl
      have f2 : (v2 4) = xop 9 (v2 1) (v2 2) := xXf hF 2 rfl
      have e74_33 : xE (zyEl zymx B H2) 74 33 = xE (zyEl zymx B H) 74 33 := xFr_E hfr rfl
      have e84 : ∀ i, xE (zyEl zymx B H2) 84 i = xE (zyEl zymx B H) 84 i := fun i => xFr_E hfr rfl
      have y74_33 : ((2147483648 : Nat) : Int) ≤ xE (zyEl zymx B s.heap) 74 33 + 2147483648 ∧ xE (zyEl zymx B s.heap) 74 33 + 2147483648 ≤ ((2147484548 : Nat) : Int) := xTyF hT0 74 33 33 rfl rfl rfl rfl rfl rfl
      have hI : (v 1) = x0 0 ∧ (xE (zyEl zymx B s.heap) 74 33 ≤ 896) ∧ ∃ j : Int, (v 2) = 24 - 8 * j ∧ xE (zyEl zymx B H) 74 33 = xE (zyEl zymx B s.heap) 74 33 + j ∧ (0 ≤ j ∧ j ≤ 4) ∧ (∀ k, 0 ≤ k → k < j → xE (zyEl zymx B H) 84 (xE (zyEl zymx B s.heap) 74 33 + k) = fby (x0 0) k) ∧ (∀ k, 0 ≤ k → k < xE (zyEl zymx B s.heap) 74 33 → xE (zyEl zymx B H) 84 k = xE (zyEl zymx B s.heap) 84 k) := hInv
      obtain ⟨i0, i1, j, i2, i3, i4, i5, i6⟩ := hI
      refine xSb hRu hIH hAt hB hv hFr 84 (ax := 0) (ax2 := 0) 137438953473 103079215105 (v2 4) (v2 3) rfl rfl rfl rfl rfl (by decide +kernel) rfl rfl (by omega) (by show (v2 3) < ((900 : Nat) : Int); omega) (fun r hr q1 q2 => by rw [List.mem_singleton.mp hr]; exact ⟨rfl, by show ((2147483520 : Nat) : Int) ≤ -128 + 2147483648; omega, by show (127 : Int) + 2147483648 ≤ ((2147483775 : Nat) : Int); omega⟩) (zyin_iff.mpr ⟨(84, 0, 899), by decide, rfl, Nat.zero_le _, by show Int.toNat (v2 3) ≤ 899; omega⟩) (fun H3 hT3 hst3 hne3 hfn3 hFr3 => ?_)
      have hfe3 : ∀ (a2 : Nat) (k2 : Int), ¬ a2 = 84 → xE (zyEl zymx B H3) a2 k2 = xE (zyEl zymx B H2) a2 k2 := fun a2 k2 hne => by unfold xE; rw [hfn3 a2 k2.toNat (fun z => hne z.1)]
      have d74_33 : xE (zyEl zymx B H3) 74 33 = xE (zyEl zymx B H2) 74 33 := hfe3 74 33 (fun z => absurd z (by decide))
      have z74_33 : ((2147483648 : Nat) : Int) ≤ xE (zyEl zymx B H3) 74 33 + 2147483648 ∧ xE (zyEl zymx B H3) 74 33 + 2147483648 ≤ ((2147484548 : Nat) : Int) := xTyF hT3 74 33 33 rfl rfl rfl rfl rfl rfl
      refine ⟨⟨2, by decide⟩, [0, 34359738369, 68719476737], [0, (v2 1), (v2 2), xE (zyEl zymx B H3) 74 33], rfl, ⟨by decide +kernel, ⟨rfl, by decide +kernel⟩, (xcs_c rfl (xcs_c rfl (xcs_c rfl xcs_n))), (xe_0 (xe_f (by omega) (xe_c (by omega) (by omega) rfl (xe_c (by omega) (by omega) rfl xe_n)))), (xkq_c hT3 74 33 (q := 33) rfl rfl rfl rfl rfl rfl rfl rfl rfl rfl rfl xkq_n)⟩, rfl, ?_, ?_⟩
      · show ((v2 1) : Int) = x0 0 ∧ (xE (zyEl zymx B s.heap) 74 33 ≤ 896) ∧ ∃ j : Int, ((v2 2) : Int) = 24 - 8 * j ∧ j ≤ 3 ∧ xE (zyEl zymx B H3) 74 33 = xE (zyEl zymx B s.heap) 74 33 + j ∧ (0 ≤ j) ∧ (∀ k, 0 ≤ k → k < j + 1 → xE (zyEl zymx B H3) 84 (xE (zyEl zymx B s.heap) 74 33 + k) = fby (x0 0) k) ∧ (∀ k, 0 ≤ k → k < xE (zyEl zymx B s.heap) 74 33 → xE (zyEl zymx B H3) 84 k = xE (zyEl zymx B s.heap) 84 k)
        refine ⟨by omega, by omega, j, by omega, by omega, by omega, by omega, fun k k0 k1 => ?_, fun k k0 k1 => ?_⟩
        · by_cases e : k = j
          · rw [e, show xE (zyEl zymx B s.heap) 74 33 + j = (v2 3) by omega, hst3]
            unfold fby
            rw [f2]
            congr 2 <;> omega
          · rw [hne3 84 _ (by omega) (fun z => e (by have := z.2; omega)), e84 _]
            exact i5 k k0 (by omega)
        · rw [hne3 84 _ k0 (fun z => by have := z.2; omega), e84 _]
          exact i6 k k0 k1
      · show 2 * (100 + ((v2 2) : Int)).toNat < 2 * (100 + (v 2)).toNat + 1
        omega
    · have hx : x ∈ [zxfpu_cx0] := hx
      have hag : ∀ k, k < 4 → v2 k = v k := hag
      have hfr : xFr [(74, 33, 33)] _ _ := hfr
      have ex := List.mem_singleton.mp hx
      subst ex
      obtain ⟨hF, hBd, hM⟩ := hXs
      have r1 := hr2 1
      have g1 : v2 1 = v 1 := hag 1 (by decide)
      have g2 : v2 2 = v 2 := hag 2 (by decide)
      have g3 : v2 3 = v 3 := hag 3 (by decide)
      have b0 : ((2147483648 : Nat) : Int) ≤ (v2 2) + 2147483648 ∧ (v2 2) + 2147483648 ≤ ((2147483672 : Nat) : Int) := xXb hBd 0 rfl
      have b1 : ((2147483648 : Nat) : Int) ≤ (v2 3) + 2147483648 ∧ (v2 3) + 2147483648 ≤ ((2147484547 : Nat) : Int) := xXb hBd 1 rfl
      have b2 : ((2147483640 : Nat) : Int) ≤ (v2 2 + (-8)) + 2147483648 ∧ (v2 2 + (-8)) + 2147483648 ≤ ((2147483664 : Nat) : Int) := xXb hBd 2 rfl
      have k0 : xE (zyEl zymx B H) 74 33 = v 3 := xKcf hKc 0 rfl rfl
      have m0 : xE (zyEl zymx B H2) 74 33 = (v2 3 + 1) := xXm hM 0 rfl
      have e84 : ∀ i, xE (zyEl zymx B H2) 84 i = xE (zyEl zymx B H) 84 i := fun i => xFr_E hfr rfl
      have y74_33 : ((2147483648 : Nat) : Int) ≤ xE (zyEl zymx B s.heap) 74 33 + 2147483648 ∧ xE (zyEl zymx B s.heap) 74 33 + 2147483648 ≤ ((2147484548 : Nat) : Int) := xTyF hT0 74 33 33 rfl rfl rfl rfl rfl rfl
      have hI : (v 1) = x0 0 ∧ (xE (zyEl zymx B s.heap) 74 33 ≤ 896) ∧ ∃ j : Int, (v 2) = 24 - 8 * j ∧ j ≤ 3 ∧ xE (zyEl zymx B H) 74 33 = xE (zyEl zymx B s.heap) 74 33 + j ∧ (0 ≤ j) ∧ (∀ k, 0 ≤ k → k < j + 1 → xE (zyEl zymx B H) 84 (xE (zyEl zymx B s.heap) 74 33 + k) = fby (x0 0) k) ∧ (∀ k, 0 ≤ k → k < xE (zyEl zymx B s.heap) 74 33 → xE (zyEl zymx B H) 84 k = xE (zyEl zymx B s.heap) 84 k) := hInv
      obtain ⟨i0, i1, j, i2, i3, i4, i5, i6, i7⟩ := hI
      refine xGo hIH hAt hB hv hFr ⟨1, by decide⟩ [0, 34359738369, 103079215041] [0, (v2 1), (v2 2 + (-8))] rfl ⟨by decide +kernel, ⟨rfl, by decide +kernel⟩, (xcs_c rfl (xcs_c rfl (xcs_c rfl xcs_n))), (xe_0 (xe_f (by omega) (xe_c (by omega) (by omega) rfl xe_n))), xkq_n⟩ xst_n ?_ ?_
      · show ((v2 1) : Int) = x0 0 ∧ (xE (zyEl zymx B s.heap) 74 33 ≤ 896) ∧ ∃ j : Int, ((v2 2 + (-8)) : Int) = 24 - 8 * j ∧ xE (zyEl zymx B H2) 74 33 = xE (zyEl zymx B s.heap) 74 33 + j ∧ (0 ≤ j ∧ j ≤ 4) ∧ (∀ k, 0 ≤ k → k < j → xE (zyEl zymx B H2) 84 (xE (zyEl zymx B s.heap) 74 33 + k) = fby (x0 0) k) ∧ (∀ k, 0 ≤ k → k < xE (zyEl zymx B s.heap) 74 33 → xE (zyEl zymx B H2) 84 k = xE (zyEl zymx B s.heap) 84 k)
        exact ⟨by omega, by omega, j + 1, by omega, by omega, by omega, fun k k0 k1 => (e84 _).trans (i6 k k0 k1), fun k k0 k1 => (e84 k).trans (i7 k k0 k1)⟩
      · show 2 * (100 + ((v2 2 + (-8)) : Int)).toNat + 1 < 2 * (100 + (v 2)).toNat
        omega
  · intro x0 E0 E E2 hrx hT0 hΦ i v hT hrv hInv hKc hFr0 x hx v2 hr2 hXs hag hfr hFr hT2
    rcases i with ⟨i, hi⟩
    have hi2 : i = 0 ∨ i = 1 ∨ i = 2 := by omega
    rcases hi2 with rfl | rfl | rfl
    · cases hx
    · have hx : x ∈ [zxfpu_br0] := hx
      have hag : ∀ k, k < 3 → v2 k = v k := hag
      have hfr : xFr [] _ _ := hfr
      have ex := List.mem_singleton.mp hx
      subst ex
      obtain ⟨hF, hBd, hM⟩ := hXs
      have g1 : v2 1 = v 1 := hag 1 (by decide)
      have g2 : v2 2 = v 2 := hag 2 (by decide)
      have b0 : ((2147483640 : Nat) : Int) ≤ (v2 2) + 2147483648 ∧ (v2 2) + 2147483648 ≤ ((2147483647 : Nat) : Int) := xXb hBd 0 rfl
      have f0 : (v2 2) < 0 := xXf hF 0 rfl
      have e74_33 : xE E2 74 33 = xE E 74 33 := xFr_E hfr rfl
      have e84 : ∀ i, xE E2 84 i = xE E 84 i := fun i => xFr_E hfr rfl
      have y74_33 : ((2147483648 : Nat) : Int) ≤ xE E0 74 33 + 2147483648 ∧ xE E0 74 33 + 2147483648 ≤ ((2147484548 : Nat) : Int) := xTyF hT0 74 33 33 rfl rfl rfl rfl rfl rfl
      have hI : (v 1) = x0 0 ∧ (xE E0 74 33 ≤ 896) ∧ ∃ j : Int, (v 2) = 24 - 8 * j ∧ xE E 74 33 = xE E0 74 33 + j ∧ (0 ≤ j ∧ j ≤ 4) ∧ (∀ k, 0 ≤ k → k < j → xE E 84 (xE E0 74 33 + k) = fby (x0 0) k) ∧ (∀ k, 0 ≤ k → k < xE E0 74 33 → xE E 84 k = xE E0 84 k) := hInv
      show xΨfpu x0 E0 E2 0
      obtain ⟨i0, i1, j, i2, i3, i4, i5, i6⟩ := hI
      have hj : j = 4 := by omega
      subst hj
      exact ⟨by omega, fun k k0 k1 => (e84 _).trans (i5 k k0 k1), fun k k0 k1 => (e84 k).trans (i6 k k0 k1)⟩
    · cases hx
noncomputable def zxffx_zx0 : zyXp := (0, [595, 34359738369, 68719476737, 103079215105, 137438953473, 171798691841], [], [], [], [])
noncomputable def zpffx_z : zyPh := (0, [595, 34359738369, 68719476737, 103079215105, 137438953473, 171798691841], [(0, 4294967295), (0, 4294967295), (0, 4294967295), (0, 4294967295), (0, 4294967295), (0, 4294967295)], [], [])
noncomputable def zxffx_ax0 : zyXp := (22, [595, 34359738369, 68719476737, 103079215105, 137438953473, 171798691841], [34359738369, 595], [(21, 0, 7200, 206158430369)], [(206158430209, 2147483648, 2147484528)], [(1212419, 0), (1212449, 206158430209)])
noncomputable def zxffx_ar0 : zyXp := (0, [], [34359738360], [(20, 0, 7200, 206158430369)], [(206158430209, 2147484529, 2147484548)], [(1212419, 0), (1212449, 206158430209)])
noncomputable def zpffx_a : zyPh := (0, [595, 34359738369, 68719476737, 103079215105, 137438953473, 171798691841], [(0, 4294967295), (0, 4294967295), (0, 4294967295), (0, 4294967295), (0, 4294967295), (0, 4294967295), (2147483648, 2147484548)], [(1212449, 206158430209)], [])
noncomputable def zxffx_b1x0 : zyXp := (27, [595, 34359738369, 68719476737, 103079215105, 137438953473, 171798691841], [68719476737, 595], [], [], [])
noncomputable def zpffx_b1 : zyPh := (25, [595, 34359738369, 68719476737, 103079215105, 137438953473, 171798691841], [(0, 4294967295), (0, 4294967295), (0, 4294967295), (0, 4294967295), (0, 4294967295), (0, 4294967295)], [], [])
noncomputable def zxffx_b2x0 : zyXp := (32, [595, 34359738369, 68719476737, 103079215105, 137438953473, 171798691841], [103079215105, 595], [], [], [])
noncomputable def zpffx_b2 : zyPh := (30, [595, 34359738369, 68719476737, 103079215105, 137438953473, 171798691841], [(0, 4294967295), (0, 4294967295), (0, 4294967295), (0, 4294967295), (0, 4294967295), (0, 4294967295)], [], [])
noncomputable def zxffx_b3x0 : zyXp := (38, [595, 34359738369, 68719476737, 103079215105, 137438953473, 171798691841], [137438953473, 595], [], [], [])
noncomputable def zpffx_b3 : zyPh := (35, [595, 34359738369, 68719476737, 103079215105, 137438953473, 171798691841], [(0, 4294967295), (0, 4294967295), (0, 4294967295), (0, 4294967295), (0, 4294967295), (0, 4294967295)], [], [])
noncomputable def zxffx_b4x0 : zyXp := (44, [595, 34359738369, 68719476737, 103079215105, 137438953473, 171798691841], [171798691841, 595], [], [], [])
noncomputable def zpffx_b4 : zyPh := (41, [595, 34359738369, 68719476737, 103079215105, 137438953473, 171798691841], [(0, 4294967295), (0, 4294967295), (0, 4294967295), (0, 4294967295), (0, 4294967295), (0, 4294967295)], [], [])
noncomputable def zxffx_b5r0 : zyXp := (0, [], [206158430209], [], [(206158430209, 2147483648, 2147484548)], [])
noncomputable def zpffx_b5 : zyPh := (47, [595, 34359738369, 68719476737, 103079215105, 137438953473, 171798691841], [(0, 4294967295), (0, 4294967295), (0, 4294967295), (0, 4294967295), (0, 4294967295), (0, 4294967295), (2147483648, 2147484548)], [(1212449, 206158430209)], [])
noncomputable def zpffx (i : Nat) : zyPh := zif (Nat.beq i 0) (zpffx_z) (zif (Nat.beq i 1) (zpffx_a) (zif (Nat.beq i 2) (zpffx_b1) (zif (Nat.beq i 3) (zpffx_b2) (zif (Nat.beq i 4) (zpffx_b3) (zif (Nat.beq i 5) (zpffx_b4) (zpffx_b5))))))
noncomputable def zXffx (i : Nat) : List zyXp := zif (Nat.beq i 0) ([zxffx_zx0]) (zif (Nat.beq i 1) ([zxffx_ax0]) (zif (Nat.beq i 2) ([zxffx_b1x0]) (zif (Nat.beq i 3) ([zxffx_b2x0]) (zif (Nat.beq i 4) ([zxffx_b3x0]) (zif (Nat.beq i 5) ([zxffx_b4x0]) ([]))))))
noncomputable def zRffx (i : Nat) : List zyXp := zif (Nat.beq i 0) ([]) (zif (Nat.beq i 1) ([zxffx_ar0]) (zif (Nat.beq i 2) ([]) (zif (Nat.beq i 3) ([]) (zif (Nat.beq i 4) ([]) (zif (Nat.beq i 5) ([]) ([zxffx_b5r0]))))))
noncomputable def zFffx (i : Nat) : zyR := zif (Nat.beq i 0) ([]) (zif (Nat.beq i 1) ([(74, 3, 3)]) (zif (Nat.beq i 2) ([]) (zif (Nat.beq i 3) ([]) (zif (Nat.beq i 4) ([]) (zif (Nat.beq i 5) ([]) ([]))))))
noncomputable def zSffx (i : Nat) : Nat := zif (Nat.beq i 0) (0) (zif (Nat.beq i 1) (0) (zif (Nat.beq i 2) (0) (zif (Nat.beq i 3) (0) (zif (Nat.beq i 4) (0) (zif (Nat.beq i 5) (0) (0))))))
def xΦffx (_ : Nat → Int) (_ : zyEm) : Prop := True
def xΨffx (x : Nat → Int) (E E2 : zyEm) (r : Int) : Prop := if 880 < xE E 74 33 then r = -1 ∧ xE E2 74 33 = xE E 74 33 ∧ (∀ i, xE E2 84 i = xE E 84 i)
  else r = xE E 74 33 + 20 ∧ xE E2 74 33 = xE E 74 33 + 20 ∧ (∀ i, 0 ≤ i → i < 20 → xE E2 84 (xE E 74 33 + i) = fbs x i) ∧ (∀ i, 0 ≤ i → i < xE E 74 33 → xE E2 84 i = xE E 84 i)
noncomputable def fpffx : zyR := [(74, 3, 3), (74, 33, 33), (84, 0, 899)]
theorem zyffx_run : zyrS zymx zxi312 (312, 0, 0, 1, 0) 2 zpffx (fun _ _ => []) zFffx zSffx zXffx zRffx 7 = true := by decide +kernel
theorem zyffx_ck : zyAll (fun i => xsubR (zFffx i) fpffx && ((zXffx i).all xckX && (zRffx i).all (fun x => xckX x && xrtB true x))) 7 = true := by decide +kernel
def xIffx (i : Nat) (x0 : Nat → Int) (E0 : zyEm) (v : Nat → Int) (E : zyEm) : Prop := if i = 0 then (E = E0 ∧ (v 1) = x0 0 ∧ (v 2) = x0 1 ∧ (v 3) = x0 2 ∧ (v 4) = x0 3 ∧ (v 5) = x0 4) else if i = 1 then (E = E0 ∧ (v 1) = x0 0 ∧ (v 2) = x0 1 ∧ (v 3) = x0 2 ∧ (v 4) = x0 3 ∧ (v 5) = x0 4) else if i = 2 then ((v 1) = x0 0 ∧ (v 2) = x0 1 ∧ (v 3) = x0 2 ∧ (v 4) = x0 3 ∧ (v 5) = x0 4 ∧ (xE E0 74 33 ≤ 880) ∧ (xE E 74 33 = xE E0 74 33 + 4) ∧ (∀ i, 0 ≤ i → i < 4 → xE E 84 (xE E0 74 33 + i) = fbs x0 i) ∧ (∀ i, 0 ≤ i → i < xE E0 74 33 → xE E 84 i = xE E0 84 i)) else if i = 3 then ((v 1) = x0 0 ∧ (v 2) = x0 1 ∧ (v 3) = x0 2 ∧ (v 4) = x0 3 ∧ (v 5) = x0 4 ∧ (xE E0 74 33 ≤ 880) ∧ (xE E 74 33 = xE E0 74 33 + 8) ∧ (∀ i, 0 ≤ i → i < 8 → xE E 84 (xE E0 74 33 + i) = fbs x0 i) ∧ (∀ i, 0 ≤ i → i < xE E0 74 33 → xE E 84 i = xE E0 84 i)) else if i = 4 then ((v 1) = x0 0 ∧ (v 2) = x0 1 ∧ (v 3) = x0 2 ∧ (v 4) = x0 3 ∧ (v 5) = x0 4 ∧ (xE E0 74 33 ≤ 880) ∧ (xE E 74 33 = xE E0 74 33 + 12) ∧ (∀ i, 0 ≤ i → i < 12 → xE E 84 (xE E0 74 33 + i) = fbs x0 i) ∧ (∀ i, 0 ≤ i → i < xE E0 74 33 → xE E 84 i = xE E0 84 i)) else if i = 5 then ((v 1) = x0 0 ∧ (v 2) = x0 1 ∧ (v 3) = x0 2 ∧ (v 4) = x0 3 ∧ (v 5) = x0 4 ∧ (xE E0 74 33 ≤ 880) ∧ (xE E 74 33 = xE E0 74 33 + 16) ∧ (∀ i, 0 ≤ i → i < 16 → xE E 84 (xE E0 74 33 + i) = fbs x0 i) ∧ (∀ i, 0 ≤ i → i < xE E0 74 33 → xE E 84 i = xE E0 84 i)) else ((v 1) = x0 0 ∧ (v 2) = x0 1 ∧ (v 3) = x0 2 ∧ (v 4) = x0 3 ∧ (v 5) = x0 4 ∧ (xE E0 74 33 ≤ 880) ∧ (xE E 74 33 = xE E0 74 33 + 20) ∧ (∀ i, 0 ≤ i → i < 20 → xE E 84 (xE E0 74 33 + i) = fbs x0 i) ∧ (∀ i, 0 ≤ i → i < xE E0 74 33 → xE E 84 i = xE E0 84 i))
def xMffx (i : Nat) (x0 : Nat → Int) (E0 : zyEm) (v : Nat → Int) (E : zyEm) : Nat := if i = 0 then (11) else if i = 1 then (10) else if i = 2 then (8) else if i = 3 then (7) else if i = 4 then (6) else if i = 5 then (5) else (4)
theorem xFx {l : Launch} {en : zEn} {me : zMe} (hen : zG zxMeta 312 = some en) (hme : zG zMeth 312 = some me) : xFc l zymx en me 2 [74] 5 fpffx true xΦffx xΨffx := by
  have een : zG zxMeta 312 = some (zxi312, 6, 6, 11, 312, 0, 0, 1, 0) := rfl
  obtain ⟨me1, hme1, hOK⟩ := zall hen
  rw [hme] at hme1
  cases hme1
  rw [een] at hen
  cases hen
  have hr := zyffx_run
  have hck := fun i hi => zyAll_iff zyffx_ck i hi
  simp only [Bool.and_eq_true] at hck
  obtain ⟨mefpu, hmefpu, -⟩ := zall (show zG zxMeta 311 = some (zxi311, 2, 3, 11, 311, 0, 0, 0, 0) from rfl)
  have hfpu := xPu (l := l) (show zG zxMeta 311 = some (zxi311, 2, 3, 11, 311, 0, 0, 0, 0) from rfl) hmefpu
  intro B
  refine xcut (mi := zymx) (B := B) hOK rfl rfl (ι := Fin 7) (fun i => zpffx i.val) (fun _ _ => []) (fun i => zFffx i.val) (fun i => zSffx i.val) (fun i => zXffx i.val) (fun i => zRffx i.val) (fun i y2 ct en2 me2 h => by cases h) 200000 (fun i => zyAll_iff hr i.val i.isLt) (fun i => (hck i.val i.isLt).1) (fun i => (hck i.val i.isLt).2.1) (fun i => (hck i.val i.isLt).2.2) ⟨0, by decide⟩ ⟨rfl, rfl, rfl, rfl⟩ ⟨by decide, by decide⟩ (fun i x0 E0 v E => xIffx i.val x0 E0 v E) (fun i x0 E0 v E => xMffx i.val x0 E0 v E) ?_ ?_ ?_
  · intro x0 E hx0 hT hΦ
    have hΦ : xΦffx x0 E := hΦ
    refine ⟨fun k p hp => ?_, ?_⟩
    · have hk : k < 6 := (List.getElem?_eq_some_iff.mp hp).1
      have hk : k = 0 ∨ k = 1 ∨ k = 2 ∨ k = 3 ∨ k = 4 ∨ k = 5 := by omega
      rcases hk with rfl | rfl | rfl | rfl | rfl | rfl
      · have hp : some (0, 4294967295) = some p := hp
        cases hp
        show ((0 : Nat) : Int) ≤ 0 + 2147483648 ∧ 0 + 2147483648 ≤ ((4294967295 : Nat) : Int)
        omega
      · have hp : some (0, 4294967295) = some p := hp
        cases hp
        show ((0 : Nat) : Int) ≤ x0 0 + 2147483648 ∧ x0 0 + 2147483648 ≤ ((4294967295 : Nat) : Int)
        have hx := hx0 0
        omega
      · have hp : some (0, 4294967295) = some p := hp
        cases hp
        show ((0 : Nat) : Int) ≤ x0 1 + 2147483648 ∧ x0 1 + 2147483648 ≤ ((4294967295 : Nat) : Int)
        have hx := hx0 1
        omega
      · have hp : some (0, 4294967295) = some p := hp
        cases hp
        show ((0 : Nat) : Int) ≤ x0 2 + 2147483648 ∧ x0 2 + 2147483648 ≤ ((4294967295 : Nat) : Int)
        have hx := hx0 2
        omega
      · have hp : some (0, 4294967295) = some p := hp
        cases hp
        show ((0 : Nat) : Int) ≤ x0 3 + 2147483648 ∧ x0 3 + 2147483648 ≤ ((4294967295 : Nat) : Int)
        have hx := hx0 3
        omega
      · have hp : some (0, 4294967295) = some p := hp
        cases hp
        show ((0 : Nat) : Int) ≤ x0 4 + 2147483648 ∧ x0 4 + 2147483648 ≤ ((4294967295 : Nat) : Int)
        have hx := hx0 4
        omega
    · show E = E ∧ (x0 0) = x0 0 ∧ (x0 1) = x0 1 ∧ (x0 2) = x0 2 ∧ (x0 3) = x0 3 ∧ (x0 4) = x0 4
      exact ⟨rfl, rfl, rfl, rfl, rfl, rfl⟩
  · intro x0 s Wg hRu hrx hT0 hΦ i v H hT hrv hInv hKc hFr0 hIH x hx ρ2 v2 N2 H2 locs lsB stA hAt hB hv hr2 hXs hag hfr hFr hT2
    rcases i with ⟨i, hi⟩
    have hi2 : i = 0 ∨ i = 1 ∨ i = 2 ∨ i = 3 ∨ i = 4 ∨ i = 5 ∨ i = 6 := by omega
    rcases hi2 with rfl | rfl | rfl | rfl | rfl | rfl | rfl
    · have hx : x ∈ [zxffx_zx0] := hx
      have hag : ∀ k, k < 6 → v2 k = v k := hag
      have hfr : xFr [] _ _ := hfr
      have ex := List.mem_singleton.mp hx
      subst ex
      obtain ⟨hF, hBd, hM⟩ := hXs
      have r1 := hr2 1
      have r2 := hr2 2
      have r3 := hr2 3
      have r4 := hr2 4
      have r5 := hr2 5
      have g1 : v2 1 = v 1 := hag 1 (by decide)
      have g2 : v2 2 = v 2 := hag 2 (by decide)
      have g3 : v2 3 = v 3 := hag 3 (by decide)
      have g4 : v2 4 = v 4 := hag 4 (by decide)
      have g5 : v2 5 = v 5 := hag 5 (by decide)
      have e74_33 : xE (zyEl zymx B H2) 74 33 = xE (zyEl zymx B H) 74 33 := xFr_E hfr rfl
      have e84 : ∀ i, xE (zyEl zymx B H2) 84 i = xE (zyEl zymx B H) 84 i := fun i => xFr_E hfr rfl
      have y74_33 : ((2147483648 : Nat) : Int) ≤ xE (zyEl zymx B s.heap) 74 33 + 2147483648 ∧ xE (zyEl zymx B s.heap) 74 33 + 2147483648 ≤ ((2147484548 : Nat) : Int) := xTyF hT0 74 33 33 rfl rfl rfl rfl rfl rfl
      have hI : (zyEl zymx B H) = (zyEl zymx B s.heap) ∧ (v 1) = x0 0 ∧ (v 2) = x0 1 ∧ (v 3) = x0 2 ∧ (v 4) = x0 3 ∧ (v 5) = x0 4 := hInv
      have q74_33 : xE (zyEl zymx B H) 74 33 = xE (zyEl zymx B s.heap) 74 33 := by rw [hI.1]
      have q84 : ∀ i, xE (zyEl zymx B H) 84 i = xE (zyEl zymx B s.heap) 84 i := fun i => by rw [hI.1]
      obtain ⟨hE, i1, i2, i3, i4, i5⟩ := hI
      have z74_33 : ((2147483648 : Nat) : Int) ≤ xE (zyEl zymx B H2) 74 33 + 2147483648 ∧ xE (zyEl zymx B H2) 74 33 + 2147483648 ≤ ((2147484548 : Nat) : Int) := xTyF hT2 74 33 33 rfl rfl rfl rfl rfl rfl
      refine xGo hIH hAt hB hv hFr ⟨1, by decide⟩ [0, 34359738369, 68719476737, 103079215105, 137438953473, 171798691841] [0, (v2 1), (v2 2), (v2 3), (v2 4), (v2 5), xE (zyEl zymx B H2) 74 33] rfl ⟨by decide +kernel, ⟨rfl, by decide +kernel⟩, (xcs_c rfl (xcs_c rfl (xcs_c rfl (xcs_c rfl (xcs_c rfl (xcs_c rfl xcs_n)))))), (xe_0 (xe_f (by omega) (xe_f (by omega) (xe_f (by omega) (xe_f (by omega) (xe_f (by omega) (xe_c (by omega) (by omega) rfl xe_n))))))), (xkq_c hT2 74 33 (q := 33) rfl rfl rfl rfl rfl rfl rfl rfl rfl rfl rfl xkq_n)⟩ xst_n ?_ ?_
      · show (zyEl zymx B H2) = (zyEl zymx B s.heap) ∧ ((v2 1) : Int) = x0 0 ∧ ((v2 2) : Int) = x0 1 ∧ ((v2 3) : Int) = x0 2 ∧ ((v2 4) : Int) = x0 3 ∧ ((v2 5) : Int) = x0 4
        exact ⟨(xFr_n hfr).trans hE, by omega, by omega, by omega, by omega, by omega⟩
      · show 10 < 11
        omega
    · have hx : x ∈ [zxffx_ax0] := hx
      have hag : ∀ k, k < 7 → v2 k = v k := hag
      have hfr : xFr [(74, 3, 3)] _ _ := hfr
      have ex := List.mem_singleton.mp hx
      subst ex
      obtain ⟨hF, hBd, hM⟩ := hXs
      have r1 := hr2 1
      have r2 := hr2 2
      have r3 := hr2 3
      have r4 := hr2 4
      have r5 := hr2 5
      have g1 : v2 1 = v 1 := hag 1 (by decide)
      have g2 : v2 2 = v 2 := hag 2 (by decide)
      have g3 : v2 3 = v 3 := hag 3 (by decide)
      have g4 : v2 4 = v 4 := hag 4 (by decide)
      have g5 : v2 5 = v 5 := hag 5 (by decide)
      have g6 : v2 6 = v 6 := hag 6 (by decide)
      have b0 : ((2147483648 : Nat) : Int) ≤ (v2 6) + 2147483648 ∧ (v2 6) + 2147483648 ≤ ((2147484528 : Nat) : Int) := xXb hBd 0 rfl
      have k0 : xE (zyEl zymx B H) 74 33 = v 6 := xKcf hKc 0 rfl rfl
      have f0 : (v2 6 + 20) ≤ 900 := xXf hF 0 rfl
      have m0 : xE (zyEl zymx B H2) 74 3 = 0 := xXm hM 0 rfl
      have m1 : xE (zyEl zymx B H2) 74 33 = (v2 6) := xXm hM 1 rfl
      have e74_33 : xE (zyEl zymx B H2) 74 33 = xE (zyEl zymx B H) 74 33 := xFr_E hfr rfl
      have e84 : ∀ i, xE (zyEl zymx B H2) 84 i = xE (zyEl zymx B H) 84 i := fun i => xFr_E hfr rfl
      have y74_33 : ((2147483648 : Nat) : Int) ≤ xE (zyEl zymx B s.heap) 74 33 + 2147483648 ∧ xE (zyEl zymx B s.heap) 74 33 + 2147483648 ≤ ((2147484548 : Nat) : Int) := xTyF hT0 74 33 33 rfl rfl rfl rfl rfl rfl
      have hI : (zyEl zymx B H) = (zyEl zymx B s.heap) ∧ (v 1) = x0 0 ∧ (v 2) = x0 1 ∧ (v 3) = x0 2 ∧ (v 4) = x0 3 ∧ (v 5) = x0 4 := hInv
      have q74_33 : xE (zyEl zymx B H) 74 33 = xE (zyEl zymx B s.heap) 74 33 := by rw [hI.1]
      have q84 : ∀ i, xE (zyEl zymx B H) 84 i = xE (zyEl zymx B s.heap) 84 i := fun i => by rw [hI.1]
      obtain ⟨hE, i1, i2, i3, i4, i5⟩ := hI
      refine xCa hRu hIH hAt hB hv hFr (hfpu B) (ix := 409) (ax := 4976) rfl rfl rfl hmefpu ⟨_, rfl, rfl, by decide⟩ ⟨rfl, rfl, rfl⟩ (by decide) [34359738369] [] [(v2 1)] rfl ⟨rfl, rfl⟩ (by decide +kernel) (xcs_c rfl xcs_n) (by decide +kernel) ?_ (fun H3 r hT3 hf3 hFr3 hr3 hΨ3 => ?_)
      · show xΦfpu (xfv [(v2 1)]) (zyEl zymx B H2)
        unfold xΦfpu
        omega
      · have hΨ3 : xΨfpu (xfv [(v2 1)]) (zyEl zymx B H2) (zyEl zymx B H3) r := hΨ3
        skip
        obtain ⟨p1, p2, p3⟩ := hΨ3
        have hx : xfv [(v2 1)] 0 = x0 0 := by show (v2 1) = _; omega
        refine ⟨⟨2, by decide⟩, [0, 34359738369, 68719476737, 103079215105, 137438953473, 171798691841], [0, (v2 1), (v2 2), (v2 3), (v2 4), (v2 5)], rfl, ⟨by decide +kernel, ⟨rfl, by decide +kernel⟩, (xcs_c rfl (xcs_c rfl (xcs_c rfl (xcs_c rfl (xcs_c rfl (xcs_c rfl xcs_n)))))), (xe_0 (xe_f (by omega) (xe_f (by omega) (xe_f (by omega) (xe_f (by omega) (xe_f (by omega) xe_n)))))), xkq_n⟩, (by rw [if_neg (by decide)]; exact xst_n), ?_, ?_⟩
        · show ((v2 1) : Int) = x0 0 ∧ ((v2 2) : Int) = x0 1 ∧ ((v2 3) : Int) = x0 2 ∧ ((v2 4) : Int) = x0 3 ∧ ((v2 5) : Int) = x0 4 ∧ (xE (zyEl zymx B s.heap) 74 33 ≤ 880) ∧ (xE (zyEl zymx B H3) 74 33 = xE (zyEl zymx B s.heap) 74 33 + 4) ∧ (∀ i, 0 ≤ i → i < 4 → xE (zyEl zymx B H3) 84 (xE (zyEl zymx B s.heap) 74 33 + i) = fbs x0 i) ∧ (∀ i, 0 ≤ i → i < xE (zyEl zymx B s.heap) 74 33 → xE (zyEl zymx B H3) 84 i = xE (zyEl zymx B s.heap) 84 i)
          refine ⟨by omega, by omega, by omega, by omega, by omega, by omega, by omega, fun i k0 k1 => ?_, fun i k0 k1 => ?_⟩
          · by_cases hq : i < 0
            · omega
            · have w := p2 (i - 0) (by omega) (by omega)
              rw [show xE (zyEl zymx B H2) 74 33 + (i - 0) = xE (zyEl zymx B s.heap) 74 33 + i by omega, hx] at w
              rw [w]
              unfold fbs
              rw [show i / 4 = 0 by omega, show i % 4 = i - 0 by omega]
              rfl
          · rw [p3 _ (by omega) (by omega)]
            rw [e84, q84]
        · show 8 < 10
          omega
    · have hx : x ∈ [zxffx_b1x0] := hx
      have hag : ∀ k, k < 6 → v2 k = v k := hag
      have hfr : xFr [] _ _ := hfr
      have ex := List.mem_singleton.mp hx
      subst ex
      obtain ⟨hF, hBd, hM⟩ := hXs
      have r1 := hr2 1
      have r2 := hr2 2
      have r3 := hr2 3
      have r4 := hr2 4
      have r5 := hr2 5
      have g1 : v2 1 = v 1 := hag 1 (by decide)
      have g2 : v2 2 = v 2 := hag 2 (by decide)
      have g3 : v2 3 = v 3 := hag 3 (by decide)
      have g4 : v2 4 = v 4 := hag 4 (by decide)
      have g5 : v2 5 = v 5 := hag 5 (by decide)
      have e74_33 : xE (zyEl zymx B H2) 74 33 = xE (zyEl zymx B H) 74 33 := xFr_E hfr rfl
      have e84 : ∀ i, xE (zyEl zymx B H2) 84 i = xE (zyEl zymx B H) 84 i := fun i => xFr_E hfr rfl
      have y74_33 : ((2147483648 : Nat) : Int) ≤ xE (zyEl zymx B s.heap) 74 33 + 2147483648 ∧ xE (zyEl zymx B s.heap) 74 33 + 2147483648 ≤ ((2147484548 : Nat) : Int) := xTyF hT0 74 33 33 rfl rfl rfl rfl rfl rfl
      have hI : (v 1) = x0 0 ∧ (v 2) = x0 1 ∧ (v 3) = x0 2 ∧ (v 4) = x0 3 ∧ (v 5) = x0 4 ∧ (xE (zyEl zymx B s.heap) 74 33 ≤ 880) ∧ (xE (zyEl zymx B H) 74 33 = xE (zyEl zymx B s.heap) 74 33 + 4) ∧ (∀ i, 0 ≤ i → i < 4 → xE (zyEl zymx B H) 84 (xE (zyEl zymx B s.heap) 74 33 + i) = fbs x0 i) ∧ (∀ i, 0 ≤ i → i < xE (zyEl zymx B s.heap) 74 33 → xE (zyEl zymx B H) 84 i = xE (zyEl zymx B s.heap) 84 i) := hInv
      obtain ⟨i1, i2, i3, i4, i5, i6, i7, j1, j2⟩ := hI
      refine xCa hRu hIH hAt hB hv hFr (hfpu B) (ix := 409) (ax := 4976) rfl rfl rfl hmefpu ⟨_, rfl, rfl, by decide⟩ ⟨rfl, rfl, rfl⟩ (by decide) [68719476737] [] [(v2 2)] rfl ⟨rfl, rfl⟩ (by decide +kernel) (xcs_c rfl xcs_n) (by decide +kernel) ?_ (fun H3 r hT3 hf3 hFr3 hr3 hΨ3 => ?_)
      · show xΦfpu (xfv [(v2 2)]) (zyEl zymx B H2)
        unfold xΦfpu
        omega
      · have hΨ3 : xΨfpu (xfv [(v2 2)]) (zyEl zymx B H2) (zyEl zymx B H3) r := hΨ3
        skip
        obtain ⟨p1, p2, p3⟩ := hΨ3
        have hx : xfv [(v2 2)] 0 = x0 1 := by show (v2 2) = _; omega
        refine ⟨⟨3, by decide⟩, [0, 34359738369, 68719476737, 103079215105, 137438953473, 171798691841], [0, (v2 1), (v2 2), (v2 3), (v2 4), (v2 5)], rfl, ⟨by decide +kernel, ⟨rfl, by decide +kernel⟩, (xcs_c rfl (xcs_c rfl (xcs_c rfl (xcs_c rfl (xcs_c rfl (xcs_c rfl xcs_n)))))), (xe_0 (xe_f (by omega) (xe_f (by omega) (xe_f (by omega) (xe_f (by omega) (xe_f (by omega) xe_n)))))), xkq_n⟩, (by rw [if_neg (by decide)]; exact xst_n), ?_, ?_⟩
        · show ((v2 1) : Int) = x0 0 ∧ ((v2 2) : Int) = x0 1 ∧ ((v2 3) : Int) = x0 2 ∧ ((v2 4) : Int) = x0 3 ∧ ((v2 5) : Int) = x0 4 ∧ (xE (zyEl zymx B s.heap) 74 33 ≤ 880) ∧ (xE (zyEl zymx B H3) 74 33 = xE (zyEl zymx B s.heap) 74 33 + 8) ∧ (∀ i, 0 ≤ i → i < 8 → xE (zyEl zymx B H3) 84 (xE (zyEl zymx B s.heap) 74 33 + i) = fbs x0 i) ∧ (∀ i, 0 ≤ i → i < xE (zyEl zymx B s.heap) 74 33 → xE (zyEl zymx B H3) 84 i = xE (zyEl zymx B s.heap) 84 i)
          refine ⟨by omega, by omega, by omega, by omega, by omega, by omega, by omega, fun i k0 k1 => ?_, fun i k0 k1 => ?_⟩
          · by_cases hq : i < 4
            · rw [p3 _ (by omega) (by omega)]
              rw [e84]
              exact j1 i k0 hq
            · have w := p2 (i - 4) (by omega) (by omega)
              rw [show xE (zyEl zymx B H2) 74 33 + (i - 4) = xE (zyEl zymx B s.heap) 74 33 + i by omega, hx] at w
              rw [w]
              unfold fbs
              rw [show i / 4 = 1 by omega, show i % 4 = i - 4 by omega]
              rfl
          · rw [p3 _ (by omega) (by omega)]
            rw [e84]
            exact j2 i k0 k1
        · show 7 < 8
          omega
    · have hx : x ∈ [zxffx_b2x0] := hx
      have hag : ∀ k, k < 6 → v2 k = v k := hag
      have hfr : xFr [] _ _ := hfr
      have ex := List.mem_singleton.mp hx
      subst ex
      obtain ⟨hF, hBd, hM⟩ := hXs
      have r1 := hr2 1
      have r2 := hr2 2
      have r3 := hr2 3
      have r4 := hr2 4
      have r5 := hr2 5
      have g1 : v2 1 = v 1 := hag 1 (by decide)
      have g2 : v2 2 = v 2 := hag 2 (by decide)
      have g3 : v2 3 = v 3 := hag 3 (by decide)
      have g4 : v2 4 = v 4 := hag 4 (by decide)
      have g5 : v2 5 = v 5 := hag 5 (by decide)
      have e74_33 : xE (zyEl zymx B H2) 74 33 = xE (zyEl zymx B H) 74 33 := xFr_E hfr rfl
      have e84 : ∀ i, xE (zyEl zymx B H2) 84 i = xE (zyEl zymx B H) 84 i := fun i => xFr_E hfr rfl
      have y74_33 : ((2147483648 : Nat) : Int) ≤ xE (zyEl zymx B s.heap) 74 33 + 2147483648 ∧ xE (zyEl zymx B s.heap) 74 33 + 2147483648 ≤ ((2147484548 : Nat) : Int) := xTyF hT0 74 33 33 rfl rfl rfl rfl rfl rfl
      have hI : (v 1) = x0 0 ∧ (v 2) = x0 1 ∧ (v 3) = x0 2 ∧ (v 4) = x0 3 ∧ (v 5) = x0 4 ∧ (xE (zyEl zymx B s.heap) 74 33 ≤ 880) ∧ (xE (zyEl zymx B H) 74 33 = xE (zyEl zymx B s.heap) 74 33 + 8) ∧ (∀ i, 0 ≤ i → i < 8 → xE (zyEl zymx B H) 84 (xE (zyEl zymx B s.heap) 74 33 + i) = fbs x0 i) ∧ (∀ i, 0 ≤ i → i < xE (zyEl zymx B s.heap) 74 33 → xE (zyEl zymx B H) 84 i = xE (zyEl zymx B s.heap) 84 i) := hInv
      obtain ⟨i1, i2, i3, i4, i5, i6, i7, j1, j2⟩ := hI
      refine xCa hRu hIH hAt hB hv hFr (hfpu B) (ix := 409) (ax := 4976) rfl rfl rfl hmefpu ⟨_, rfl, rfl, by decide⟩ ⟨rfl, rfl, rfl⟩ (by decide) [103079215105] [] [(v2 3)] rfl ⟨rfl, rfl⟩ (by decide +kernel) (xcs_c rfl xcs_n) (by decide +kernel) ?_ (fun H3 r hT3 hf3 hFr3 hr3 hΨ3 => ?_)
      · show xΦfpu (xfv [(v2 3)]) (zyEl zymx B H2)
        unfold xΦfpu
        omega
      · have hΨ3 : xΨfpu (xfv [(v2 3)]) (zyEl zymx B H2) (zyEl zymx B H3) r := hΨ3
        skip
        obtain ⟨p1, p2, p3⟩ := hΨ3
        have hx : xfv [(v2 3)] 0 = x0 2 := by show (v2 3) = _; omega
        refine ⟨⟨4, by decide⟩, [0, 34359738369, 68719476737, 103079215105, 137438953473, 171798691841], [0, (v2 1), (v2 2), (v2 3), (v2 4), (v2 5)], rfl, ⟨by decide +kernel, ⟨rfl, by decide +kernel⟩, (xcs_c rfl (xcs_c rfl (xcs_c rfl (xcs_c rfl (xcs_c rfl (xcs_c rfl xcs_n)))))), (xe_0 (xe_f (by omega) (xe_f (by omega) (xe_f (by omega) (xe_f (by omega) (xe_f (by omega) xe_n)))))), xkq_n⟩, (by rw [if_neg (by decide)]; exact xst_n), ?_, ?_⟩
        · show ((v2 1) : Int) = x0 0 ∧ ((v2 2) : Int) = x0 1 ∧ ((v2 3) : Int) = x0 2 ∧ ((v2 4) : Int) = x0 3 ∧ ((v2 5) : Int) = x0 4 ∧ (xE (zyEl zymx B s.heap) 74 33 ≤ 880) ∧ (xE (zyEl zymx B H3) 74 33 = xE (zyEl zymx B s.heap) 74 33 + 12) ∧ (∀ i, 0 ≤ i → i < 12 → xE (zyEl zymx B H3) 84 (xE (zyEl zymx B s.heap) 74 33 + i) = fbs x0 i) ∧ (∀ i, 0 ≤ i → i < xE (zyEl zymx B s.heap) 74 33 → xE (zyEl zymx B H3) 84 i = xE (zyEl zymx B s.heap) 84 i)
          refine ⟨by omega, by omega, by omega, by omega, by omega, by omega, by omega, fun i k0 k1 => ?_, fun i k0 k1 => ?_⟩
          · by_cases hq : i < 8
            · rw [p3 _ (by omega) (by omega)]
              rw [e84]
              exact j1 i k0 hq
            · have w := p2 (i - 8) (by omega) (by omega)
              rw [show xE (zyEl zymx B H2) 74 33 + (i - 8) = xE (zyEl zymx B s.heap) 74 33 + i by omega, hx] at w
              rw [w]
              unfold fbs
              rw [show i / 4 = 2 by omega, show i % 4 = i - 8 by omega]
              rfl
          · rw [p3 _ (by omega) (by omega)]
            rw [e84]
            exact j2 i k0 k1
        · show 6 < 7
          omega
    · have hx : x ∈ [zxffx_b3x0] := hx
      have hag : ∀ k, k < 6 → v2 k = v k := hag
      have hfr : xFr [] _ _ := hfr
      have ex := List.mem_singleton.mp hx
      subst ex
      obtain ⟨hF, hBd, hM⟩ := hXs
      have r1 := hr2 1
      have r2 := hr2 2
      have r3 := hr2 3
      have r4 := hr2 4
      have r5 := hr2 5
      have g1 : v2 1 = v 1 := hag 1 (by decide)
      have g2 : v2 2 = v 2 := hag 2 (by decide)
      have g3 : v2 3 = v 3 := hag 3 (by decide)
      have g4 : v2 4 = v 4 := hag 4 (by decide)
      have g5 : v2 5 = v 5 := hag 5 (by decide)
      have e74_33 : xE (zyEl zymx B H2) 74 33 = xE (zyEl zymx B H) 74 33 := xFr_E hfr rfl
      have e84 : ∀ i, xE (zyEl zymx B H2) 84 i = xE (zyEl zymx B H) 84 i := fun i => xFr_E hfr rfl
      have y74_33 : ((2147483648 : Nat) : Int) ≤ xE (zyEl zymx B s.heap) 74 33 + 2147483648 ∧ xE (zyEl zymx B s.heap) 74 33 + 2147483648 ≤ ((2147484548 : Nat) : Int) := xTyF hT0 74 33 33 rfl rfl rfl rfl rfl rfl
      have hI : (v 1) = x0 0 ∧ (v 2) = x0 1 ∧ (v 3) = x0 2 ∧ (v 4) = x0 3 ∧ (v 5) = x0 4 ∧ (xE (zyEl zymx B s.heap) 74 33 ≤ 880) ∧ (xE (zyEl zymx B H) 74 33 = xE (zyEl zymx B s.heap) 74 33 + 12) ∧ (∀ i, 0 ≤ i → i < 12 → xE (zyEl zymx B H) 84 (xE (zyEl zymx B s.heap) 74 33 + i) = fbs x0 i) ∧ (∀ i, 0 ≤ i → i < xE (zyEl zymx B s.heap) 74 33 → xE (zyEl zymx B H) 84 i = xE (zyEl zymx B s.heap) 84 i) := hInv
      obtain ⟨i1, i2, i3, i4, i5, i6, i7, j1, j2⟩ := hI
      refine xCa hRu hIH hAt hB hv hFr (hfpu B) (ix := 409) (ax := 4976) rfl rfl rfl hmefpu ⟨_, rfl, rfl, by decide⟩ ⟨rfl, rfl, rfl⟩ (by decide) [137438953473] [] [(v2 4)] rfl ⟨rfl, rfl⟩ (by decide +kernel) (xcs_c rfl xcs_n) (by decide +kernel) ?_ (fun H3 r hT3 hf3 hFr3 hr3 hΨ3 => ?_)
      · show xΦfpu (xfv [(v2 4)]) (zyEl zymx B H2)
        unfold xΦfpu
        omega
      · have hΨ3 : xΨfpu (xfv [(v2 4)]) (zyEl zymx B H2) (zyEl zymx B H3) r := hΨ3
        skip
        obtain ⟨p1, p2, p3⟩ := hΨ3
        have hx : xfv [(v2 4)] 0 = x0 3 := by show (v2 4) = _; omega
        refine ⟨⟨5, by decide⟩, [0, 34359738369, 68719476737, 103079215105, 137438953473, 171798691841], [0, (v2 1), (v2 2), (v2 3), (v2 4), (v2 5)], rfl, ⟨by decide +kernel, ⟨rfl, by decide +kernel⟩, (xcs_c rfl (xcs_c rfl (xcs_c rfl (xcs_c rfl (xcs_c rfl (xcs_c rfl xcs_n)))))), (xe_0 (xe_f (by omega) (xe_f (by omega) (xe_f (by omega) (xe_f (by omega) (xe_f (by omega) xe_n)))))), xkq_n⟩, (by rw [if_neg (by decide)]; exact xst_n), ?_, ?_⟩
        · show ((v2 1) : Int) = x0 0 ∧ ((v2 2) : Int) = x0 1 ∧ ((v2 3) : Int) = x0 2 ∧ ((v2 4) : Int) = x0 3 ∧ ((v2 5) : Int) = x0 4 ∧ (xE (zyEl zymx B s.heap) 74 33 ≤ 880) ∧ (xE (zyEl zymx B H3) 74 33 = xE (zyEl zymx B s.heap) 74 33 + 16) ∧ (∀ i, 0 ≤ i → i < 16 → xE (zyEl zymx B H3) 84 (xE (zyEl zymx B s.heap) 74 33 + i) = fbs x0 i) ∧ (∀ i, 0 ≤ i → i < xE (zyEl zymx B s.heap) 74 33 → xE (zyEl zymx B H3) 84 i = xE (zyEl zymx B s.heap) 84 i)
          refine ⟨by omega, by omega, by omega, by omega, by omega, by omega, by omega, fun i k0 k1 => ?_, fun i k0 k1 => ?_⟩
          · by_cases hq : i < 12
            · rw [p3 _ (by omega) (by omega)]
              rw [e84]
              exact j1 i k0 hq
            · have w := p2 (i - 12) (by omega) (by omega)
              rw [show xE (zyEl zymx B H2) 74 33 + (i - 12) = xE (zyEl zymx B s.heap) 74 33 + i by omega, hx] at w
              rw [w]
              unfold fbs
              rw [show i / 4 = 3 by omega, show i % 4 = i - 12 by omega]
              rfl
          · rw [p3 _ (by omega) (by omega)]
            rw [e84]
            exact j2 i k0 k1
        · show 5 < 6
          omega
    · have hx : x ∈ [zxffx_b4x0] := hx
      have hag : ∀ k, k < 6 → v2 k = v k := hag
      have hfr : xFr [] _ _ := hfr
      have ex := List.mem_singleton.mp hx
      subst ex
      obtain ⟨hF, hBd, hM⟩ := hXs
      have r1 := hr2 1
      have r2 := hr2 2
      have r3 := hr2 3
      have r4 := hr2 4
      have r5 := hr2 5
      have g1 : v2 1 = v 1 := hag 1 (by decide)
      have g2 : v2 2 = v 2 := hag 2 (by decide)
      have g3 : v2 3 = v 3 := hag 3 (by decide)
      have g4 : v2 4 = v 4 := hag 4 (by decide)
      have g5 : v2 5 = v 5 := hag 5 (by decide)
      have e74_33 : xE (zyEl zymx B H2) 74 33 = xE (zyEl zymx B H) 74 33 := xFr_E hfr rfl
      have e84 : ∀ i, xE (zyEl zymx B H2) 84 i = xE (zyEl zymx B H) 84 i := fun i => xFr_E hfr rfl
      have y74_33 : ((2147483648 : Nat) : Int) ≤ xE (zyEl zymx B s.heap) 74 33 + 2147483648 ∧ xE (zyEl zymx B s.heap) 74 33 + 2147483648 ≤ ((2147484548 : Nat) : Int) := xTyF hT0 74 33 33 rfl rfl rfl rfl rfl rfl
      have hI : (v 1) = x0 0 ∧ (v 2) = x0 1 ∧ (v 3) = x0 2 ∧ (v 4) = x0 3 ∧ (v 5) = x0 4 ∧ (xE (zyEl zymx B s.heap) 74 33 ≤ 880) ∧ (xE (zyEl zymx B H) 74 33 = xE (zyEl zymx B s.heap) 74 33 + 16) ∧ (∀ i, 0 ≤ i → i < 16 → xE (zyEl zymx B H) 84 (xE (zyEl zymx B s.heap) 74 33 + i) = fbs x0 i) ∧ (∀ i, 0 ≤ i → i < xE (zyEl zymx B s.heap) 74 33 → xE (zyEl zymx B H) 84 i = xE (zyEl zymx B s.heap) 84 i) := hInv
      obtain ⟨i1, i2, i3, i4, i5, i6, i7, j1, j2⟩ := hI
      refine xCa hRu hIH hAt hB hv hFr (hfpu B) (ix := 409) (ax := 4976) rfl rfl rfl hmefpu ⟨_, rfl, rfl, by decide⟩ ⟨rfl, rfl, rfl⟩ (by decide) [171798691841] [] [(v2 5)] rfl ⟨rfl, rfl⟩ (by decide +kernel) (xcs_c rfl xcs_n) (by decide +kernel) ?_ (fun H3 r hT3 hf3 hFr3 hr3 hΨ3 => ?_)
      · show xΦfpu (xfv [(v2 5)]) (zyEl zymx B H2)
        unfold xΦfpu
        omega
      · have hΨ3 : xΨfpu (xfv [(v2 5)]) (zyEl zymx B H2) (zyEl zymx B H3) r := hΨ3
        have z74_33 : ((2147483648 : Nat) : Int) ≤ xE (zyEl zymx B H3) 74 33 + 2147483648 ∧ xE (zyEl zymx B H3) 74 33 + 2147483648 ≤ ((2147484548 : Nat) : Int) := xTyF hT3 74 33 33 rfl rfl rfl rfl rfl rfl
        obtain ⟨p1, p2, p3⟩ := hΨ3
        have hx : xfv [(v2 5)] 0 = x0 4 := by show (v2 5) = _; omega
        refine ⟨⟨6, by decide⟩, [0, 34359738369, 68719476737, 103079215105, 137438953473, 171798691841], [0, (v2 1), (v2 2), (v2 3), (v2 4), (v2 5), xE (zyEl zymx B H3) 74 33], rfl, ⟨by decide +kernel, ⟨rfl, by decide +kernel⟩, (xcs_c rfl (xcs_c rfl (xcs_c rfl (xcs_c rfl (xcs_c rfl (xcs_c rfl xcs_n)))))), (xe_0 (xe_f (by omega) (xe_f (by omega) (xe_f (by omega) (xe_f (by omega) (xe_f (by omega) (xe_c (by omega) (by omega) rfl xe_n))))))), (xkq_c hT3 74 33 (q := 33) rfl rfl rfl rfl rfl rfl rfl rfl rfl rfl rfl xkq_n)⟩, (by rw [if_neg (by decide)]; exact xst_n), ?_, ?_⟩
        · show ((v2 1) : Int) = x0 0 ∧ ((v2 2) : Int) = x0 1 ∧ ((v2 3) : Int) = x0 2 ∧ ((v2 4) : Int) = x0 3 ∧ ((v2 5) : Int) = x0 4 ∧ (xE (zyEl zymx B s.heap) 74 33 ≤ 880) ∧ (xE (zyEl zymx B H3) 74 33 = xE (zyEl zymx B s.heap) 74 33 + 20) ∧ (∀ i, 0 ≤ i → i < 20 → xE (zyEl zymx B H3) 84 (xE (zyEl zymx B s.heap) 74 33 + i) = fbs x0 i) ∧ (∀ i, 0 ≤ i → i < xE (zyEl zymx B s.heap) 74 33 → xE (zyEl zymx B H3) 84 i = xE (zyEl zymx B s.heap) 84 i)
          refine ⟨by omega, by omega, by omega, by omega, by omega, by omega, by omega, fun i k0 k1 => ?_, fun i k0 k1 => ?_⟩
          · by_cases hq : i < 16
            · rw [p3 _ (by omega) (by omega)]
              rw [e84]
              exact j1 i k0 hq
            · have w := p2 (i - 16) (by omega) (by omega)
              rw [show xE (zyEl zymx B H2) 74 33 + (i - 16) = xE (zyEl zymx B s.heap) 74 33 + i by omega, hx] at w
              rw [w]
              unfold fbs
              rw [show i / 4 = 4 by omega, show i % 4 = i - 16 by omega]
              rfl
          · rw [p3 _ (by omega) (by omega)]
            rw [e84]
            exact j2 i k0 k1
        · show 4 < 5
          omega
    · cases hx
  · intro x0 E0 E E2 hrx hT0 hΦ i v hT hrv hInv hKc hFr0 x hx v2 hr2 hXs hag hfr hFr hT2
    rcases i with ⟨i, hi⟩
    have hi2 : i = 0 ∨ i = 1 ∨ i = 2 ∨ i = 3 ∨ i = 4 ∨ i = 5 ∨ i = 6 := by omega
    rcases hi2 with rfl | rfl | rfl | rfl | rfl | rfl | rfl
    · cases hx
    · have hx : x ∈ [zxffx_ar0] := hx
      have hag : ∀ k, k < 7 → v2 k = v k := hag
      have hfr : xFr [(74, 3, 3)] _ _ := hfr
      have ex := List.mem_singleton.mp hx
      subst ex
      obtain ⟨hF, hBd, hM⟩ := hXs
      have g1 : v2 1 = v 1 := hag 1 (by decide)
      have g2 : v2 2 = v 2 := hag 2 (by decide)
      have g3 : v2 3 = v 3 := hag 3 (by decide)
      have g4 : v2 4 = v 4 := hag 4 (by decide)
      have g5 : v2 5 = v 5 := hag 5 (by decide)
      have g6 : v2 6 = v 6 := hag 6 (by decide)
      have b0 : ((2147484529 : Nat) : Int) ≤ (v2 6) + 2147483648 ∧ (v2 6) + 2147483648 ≤ ((2147484548 : Nat) : Int) := xXb hBd 0 rfl
      have k0 : xE E 74 33 = v 6 := xKcf hKc 0 rfl rfl
      have f0 : 900 < (v2 6 + 20) := xXf hF 0 rfl
      have m0 : xE E2 74 3 = 0 := xXm hM 0 rfl
      have m1 : xE E2 74 33 = (v2 6) := xXm hM 1 rfl
      have e74_33 : xE E2 74 33 = xE E 74 33 := xFr_E hfr rfl
      have e84 : ∀ i, xE E2 84 i = xE E 84 i := fun i => xFr_E hfr rfl
      have y74_33 : ((2147483648 : Nat) : Int) ≤ xE E0 74 33 + 2147483648 ∧ xE E0 74 33 + 2147483648 ≤ ((2147484548 : Nat) : Int) := xTyF hT0 74 33 33 rfl rfl rfl rfl rfl rfl
      have hI : E = E0 ∧ (v 1) = x0 0 ∧ (v 2) = x0 1 ∧ (v 3) = x0 2 ∧ (v 4) = x0 3 ∧ (v 5) = x0 4 := hInv
      have q74_33 : xE E 74 33 = xE E0 74 33 := by rw [hI.1]
      have q84 : ∀ i, xE E 84 i = xE E0 84 i := fun i => by rw [hI.1]
      show xΨffx x0 E0 E2 (-1)
      obtain ⟨hE, i1, i2, i3, i4, i5⟩ := hI
      unfold xΨffx
      rw [if_pos (by omega)]
      exact ⟨by omega, by omega, fun i => by rw [e84 i, q84 i]⟩
    · cases hx
    · cases hx
    · cases hx
    · cases hx
    · have hx : x ∈ [zxffx_b5r0] := hx
      have hag : ∀ k, k < 7 → v2 k = v k := hag
      have hfr : xFr [] _ _ := hfr
      have ex := List.mem_singleton.mp hx
      subst ex
      obtain ⟨hF, hBd, hM⟩ := hXs
      have g1 : v2 1 = v 1 := hag 1 (by decide)
      have g2 : v2 2 = v 2 := hag 2 (by decide)
      have g3 : v2 3 = v 3 := hag 3 (by decide)
      have g4 : v2 4 = v 4 := hag 4 (by decide)
      have g5 : v2 5 = v 5 := hag 5 (by decide)
      have g6 : v2 6 = v 6 := hag 6 (by decide)
      have b0 : ((2147483648 : Nat) : Int) ≤ (v2 6) + 2147483648 ∧ (v2 6) + 2147483648 ≤ ((2147484548 : Nat) : Int) := xXb hBd 0 rfl
      have k0 : xE E 74 33 = v 6 := xKcf hKc 0 rfl rfl
      have e74_33 : xE E2 74 33 = xE E 74 33 := xFr_E hfr rfl
      have e84 : ∀ i, xE E2 84 i = xE E 84 i := fun i => xFr_E hfr rfl
      have y74_33 : ((2147483648 : Nat) : Int) ≤ xE E0 74 33 + 2147483648 ∧ xE E0 74 33 + 2147483648 ≤ ((2147484548 : Nat) : Int) := xTyF hT0 74 33 33 rfl rfl rfl rfl rfl rfl
      have hI : (v 1) = x0 0 ∧ (v 2) = x0 1 ∧ (v 3) = x0 2 ∧ (v 4) = x0 3 ∧ (v 5) = x0 4 ∧ (xE E0 74 33 ≤ 880) ∧ (xE E 74 33 = xE E0 74 33 + 20) ∧ (∀ i, 0 ≤ i → i < 20 → xE E 84 (xE E0 74 33 + i) = fbs x0 i) ∧ (∀ i, 0 ≤ i → i < xE E0 74 33 → xE E 84 i = xE E0 84 i) := hInv
      show xΨffx x0 E0 E2 (v2 6)
      obtain ⟨i1, i2, i3, i4, i5, i6, i7, j1, j2⟩ := hI
      unfold xΨffx
      rw [if_neg (by omega)]
      exact ⟨by omega, by omega, fun i k0 k1 => (e84 _).trans (j1 i k0 k1), fun i k0 k1 => (e84 _).trans (j2 i k0 k1)⟩
