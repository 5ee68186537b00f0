section
/-! THE REFERENCE takes a token (printed by m18.py) -/
noncomputable def zxftk_zx0 : zyXp := (0, [595, 34359738369], [], [], [], [])
noncomputable def zpftk_z : zyPh := (0, [595, 34359738369], [(0, 4294967295), (0, 4294967295)], [], [])
noncomputable def zxftk_ax0 : zyXp := (14, [595, 34359738369], [595], [(23, 0, 34359738369, 0), (22, 0, 68719476737, 0)], [(34359738369, 2147483649, 4294967295), (68719476737, 2147483648, 2147483648)], [(1212452, 68719476737), (1212453, 103079215105)])
noncomputable def zxftk_ax1 : zyXp := (14, [595, 34359738369], [595], [(23, 0, 34359738369, 0), (22, 0, 68719476737, 0)], [(34359738369, 0, 2147483647), (68719476737, 2147483648, 2147483648)], [(1212452, 68719476737), (1212453, 103079215105)])
noncomputable def zxftk_ar0 : zyXp := (0, [], [], [(23, 0, 34359738369, 0), (23, 0, 68719476737, 0)], [(34359738369, 2147483649, 4294967295), (68719476737, 2147483649, 2147483657)], [(1212452, 68719476737), (1212453, 103079215105)])
noncomputable def zxftk_ar1 : zyXp := (0, [], [], [(23, 0, 34359738369, 0), (23, 0, 68719476737, 0)], [(34359738369, 0, 2147483647), (68719476737, 2147483649, 2147483657)], [(1212452, 68719476737), (1212453, 103079215105)])
noncomputable def zxftk_ar2 : zyXp := (0, [], [], [(22, 0, 34359738369, 0), (20, 0, 0, 68719476737), (23, 0, 68719476737, 0)], [(34359738369, 2147483648, 2147483648), (68719476737, 2147483649, 2147483657)], [(1212452, 68719476737), (1212453, 103079215105)])
noncomputable def zxftk_ar3 : zyXp := (0, [], [], [(22, 0, 34359738369, 0), (21, 0, 0, 68719476737), (23, 0, 137438953473, 32)], [(34359738369, 2147483648, 2147483648), (68719476737, 2147483648, 2147483648), (137438953473, 2147483648, 2147483651), (171798691841, 2147483648, 2147484548)], [(1212452, 16), (1212453, 171798691841)])
noncomputable def zxftk_ar4 : zyXp := (0, [], [], [(22, 0, 34359738369, 0), (21, 0, 0, 68719476737), (22, 0, 137438953473, 32)], [(34359738369, 2147483648, 2147483648), (68719476737, 2147483648, 2147483648), (137438953473, 2147483652, 2147483652), (171798691841, 2147483648, 2147484548)], [(1212452, 8), (1212453, 171798691841)])
noncomputable def zpftk_a : zyPh := (0, [595, 34359738369], [(0, 4294967295), (0, 4294967295), (2147483648, 2147483657), (0, 4294967295), (2147483648, 2147483652), (2147483648, 2147484548)], [(1212452, 68719476737), (1212453, 103079215105), (1212456, 137438953473), (1212454, 171798691841)], [])
noncomputable def zxftk_br0 : zyXp := (0, [], [], [], [], [])
noncomputable def zpftk_b : zyPh := (17, [595, 34359738369], [(0, 4294967295), (0, 4294967295)], [], [])
noncomputable def zpftk (i : Nat) : zyPh := zif (Nat.beq i 0) (zpftk_z) (zif (Nat.beq i 1) (zpftk_a) (zpftk_b))
noncomputable def zXftk (i : Nat) : List zyXp := zif (Nat.beq i 0) ([zxftk_zx0]) (zif (Nat.beq i 1) ([zxftk_ax0, zxftk_ax1]) ([]))
noncomputable def zRftk (i : Nat) : List zyXp := zif (Nat.beq i 0) ([]) (zif (Nat.beq i 1) ([zxftk_ar0, zxftk_ar1, zxftk_ar2, zxftk_ar3, zxftk_ar4]) ([zxftk_br0]))
noncomputable def zFftk (i : Nat) : zyR := zif (Nat.beq i 0) ([]) (zif (Nat.beq i 1) ([(74, 36, 37)]) ([]))
noncomputable def zSftk (i : Nat) : Nat := zif (Nat.beq i 0) (0) (zif (Nat.beq i 1) (0) (0))
/-- a token is taken, or it is a fault -/
def xΦtk (x : Nat → Int) (E : zyEm) : Prop := xE E 74 36 = 0 → ¬ x 0 = 0 → xE E 74 39 ≤ xE E 74 42
def xΨtk (x : Nat → Int) (E E2 : zyEm) (_ : Int) : Prop := if xE E 74 36 = 0 then (if x 0 = 0 then xE E2 74 36 = (if xE E 74 40 = 4 then 1 else 2) ∧ xE E2 74 37 = xE E 74 38 else xE E2 74 36 = 0 ∧ xRD (xE E 84) (xE E 74 42) (xE E 74 39) E2) else xE E2 74 36 = xE E 74 36 ∧ xE E2 74 37 = xE E 74 37
noncomputable def fpftk : zyR := [(74, 36, 41), (74, 43, 43)]
theorem zyftk_run : zyrS zymx zxi318 (318, 0, 0, 0, 0) 4 zpftk (fun _ _ => []) zFftk zSftk zXftk zRftk 3 = true := by decide +kernel
theorem zyftk_ck : zyAll (fun i => xsubR (zFftk i) fpftk && ((zXftk i).all xckX && (zRftk i).all (fun x => xckX x && xrtB false x))) 3 = true := by decide +kernel
def xIftk (i : Nat) (x0 : Nat → Int) (E0 : zyEm) (v : Nat → Int) (E : zyEm) : Prop := if i = 0 then (E = E0 ∧ (v 1) = x0 0) else if i = 1 then (E = E0 ∧ (v 1) = x0 0) else (xE E0 74 36 = 0 ∧ ¬ x0 0 = 0 ∧ xE E 74 36 = 0 ∧ xRD (xE E0 84) (xE E0 74 42) (xE E0 74 39) E)
def xMftk (i : Nat) (x0 : Nat → Int) (E0 : zyEm) (v : Nat → Int) (E : zyEm) : Nat := if i = 0 then (3) else if i = 1 then (2) else (1)
theorem xTk {l : Launch} {en : zEn} {me : zMe} (hen : zG zxMeta 318 = some en) (hme : zG zMeth 318 = some me) : xFc l zymx en me 4 [74] 1 fpftk false xΦtk xΨtk := by
  have een : zG zxMeta 318 = some (zxi318, 2, 2, 11, 318, 0, 0, 0, 0) := rfl
  obtain ⟨me1, hme1, hOK⟩ := zall hen
  rw [hme] at hme1
  cases hme1
  rw [een] at hen
  cases hen
  have hr := zyftk_run
  have hck := fun i hi => zyAll_iff zyftk_ck i hi
  simp only [Bool.and_eq_true] at hck
  obtain ⟨mefrd, hmefrd, -⟩ := zall (show zG zxMeta 314 = some (zxi314, 1, 1, 11, 314, 0, 0, 0, 0) from rfl)
  have hfrd := xRd (l := l) (show zG zxMeta 314 = some (zxi314, 1, 1, 11, 314, 0, 0, 0, 0) from rfl) hmefrd
  intro B
  refine xcut (mi := zymx) (B := B) hOK rfl rfl (ι := Fin 3) (fun i => zpftk i.val) (fun _ _ => []) (fun i => zFftk i.val) (fun i => zSftk i.val) (fun i => zXftk i.val) (fun i => zRftk i.val) (fun i y2 ct en2 me2 h => by cases h) 200000 (fun i => zyAll_iff hr i.val i.isLt) (fun i => (hck i.val i.isLt).1) (fun i => (hck i.val i.isLt).2.1) (fun i => (hck i.val i.isLt).2.2) ⟨0, by decide⟩ ⟨rfl, rfl, rfl, rfl⟩ ⟨by decide, by decide⟩ (fun i x0 E0 v E => xIftk i.val x0 E0 v E) (fun i x0 E0 v E => xMftk i.val x0 E0 v E) ?_ ?_ ?_
  · intro x0 E hx0 hT hΦ
    have hΦ : xΦtk x0 E := hΦ
    refine ⟨fun k p hp => ?_, ?_⟩
    · have hk : k < 2 := (List.getElem?_eq_some_iff.mp hp).1
      have hk : k = 0 ∨ k = 1 := by omega
      rcases hk with rfl | rfl
      · have hp : some (0, 4294967295) = some p := hp
        cases hp
        show ((0 : Nat) : Int) ≤ 0 + 2147483648 ∧ 0 + 2147483648 ≤ ((4294967295 : Nat) : Int)
        omega
      · have hp : some (0, 4294967295) = some p := hp
        cases hp
        show ((0 : Nat) : Int) ≤ x0 0 + 2147483648 ∧ x0 0 + 2147483648 ≤ ((4294967295 : Nat) : Int)
        have hx := hx0 0
        omega
    · show E = E ∧ (x0 0) = x0 0
      exact ⟨rfl, rfl⟩
  · intro x0 s Wg hRu hrx hT0 hΦ i v H hT hrv hInv hKc hFr0 hIH x hx ρ2 v2 N2 H2 locs lsB stA hAt hB hv hr2 hXs hag hfr hFr hT2
    rcases i with ⟨i, hi⟩
    have hi2 : i = 0 ∨ i = 1 ∨ i = 2 := by omega
    rcases hi2 with rfl | rfl | rfl
    · have hx : x ∈ [zxftk_zx0] := hx
      have hag : ∀ k, k < 2 → v2 k = v k := hag
      have hfr : xFr [] _ _ := hfr
      have ex := List.mem_singleton.mp hx
      subst ex
      obtain ⟨hF, hBd, hM⟩ := hXs
      have r1 := hr2 1
      have g1 : v2 1 = v 1 := hag 1 (by decide)
      have e74_36 : xE (zyEl zymx B H2) 74 36 = xE (zyEl zymx B H) 74 36 := xFr_E hfr rfl
      have e74_37 : xE (zyEl zymx B H2) 74 37 = xE (zyEl zymx B H) 74 37 := xFr_E hfr rfl
      have e74_38 : xE (zyEl zymx B H2) 74 38 = xE (zyEl zymx B H) 74 38 := xFr_E hfr rfl
      have e74_39 : xE (zyEl zymx B H2) 74 39 = xE (zyEl zymx B H) 74 39 := xFr_E hfr rfl
      have e74_40 : xE (zyEl zymx B H2) 74 40 = xE (zyEl zymx B H) 74 40 := xFr_E hfr rfl
      have e74_41 : xE (zyEl zymx B H2) 74 41 = xE (zyEl zymx B H) 74 41 := xFr_E hfr rfl
      have e74_42 : xE (zyEl zymx B H2) 74 42 = xE (zyEl zymx B H) 74 42 := xFr_E hfr rfl
      have q74_42 : xE (zyEl zymx B H) 74 42 = xE (zyEl zymx B s.heap) 74 42 := xFr_E hFr0 rfl
      have e84 : ∀ i, xE (zyEl zymx B H2) 84 i = xE (zyEl zymx B H) 84 i := fun i => xFr_E hfr rfl
      have q84 : ∀ i, xE (zyEl zymx B H) 84 i = xE (zyEl zymx B s.heap) 84 i := fun i => xFr_E hFr0 rfl
      have hI : (zyEl zymx B H) = (zyEl zymx B s.heap) ∧ (v 1) = x0 0 := hInv
      have q74_36 : xE (zyEl zymx B H) 74 36 = xE (zyEl zymx B s.heap) 74 36 := by rw [hI.1]
      have q74_37 : xE (zyEl zymx B H) 74 37 = xE (zyEl zymx B s.heap) 74 37 := by rw [hI.1]
      have q74_38 : xE (zyEl zymx B H) 74 38 = xE (zyEl zymx B s.heap) 74 38 := by rw [hI.1]
      have q74_39 : xE (zyEl zymx B H) 74 39 = xE (zyEl zymx B s.heap) 74 39 := by rw [hI.1]
      have q74_40 : xE (zyEl zymx B H) 74 40 = xE (zyEl zymx B s.heap) 74 40 := by rw [hI.1]
      have q74_41 : xE (zyEl zymx B H) 74 41 = xE (zyEl zymx B s.heap) 74 41 := by rw [hI.1]
      obtain ⟨hE, i1⟩ := hI
      have z74_36 : ((2147483648 : Nat) : Int) ≤ xE (zyEl zymx B H2) 74 36 + 2147483648 ∧ xE (zyEl zymx B H2) 74 36 + 2147483648 ≤ ((2147483657 : Nat) : Int) := xTyF hT2 74 36 36 rfl rfl rfl rfl rfl rfl
      have z74_37 : ((0 : Nat) : Int) ≤ xE (zyEl zymx B H2) 74 37 + 2147483648 ∧ xE (zyEl zymx B H2) 74 37 + 2147483648 ≤ ((4294967295 : Nat) : Int) := xTyF hT2 74 37 37 rfl rfl rfl rfl rfl rfl
      have z74_40 : ((2147483648 : Nat) : Int) ≤ xE (zyEl zymx B H2) 74 40 + 2147483648 ∧ xE (zyEl zymx B H2) 74 40 + 2147483648 ≤ ((2147483652 : Nat) : Int) := xTyF hT2 74 40 40 rfl rfl rfl rfl rfl rfl
      have z74_38 : ((2147483648 : Nat) : Int) ≤ xE (zyEl zymx B H2) 74 38 + 2147483648 ∧ xE (zyEl zymx B H2) 74 38 + 2147483648 ≤ ((2147484548 : Nat) : Int) := xTyF hT2 74 38 38 rfl rfl rfl rfl rfl rfl
      refine xGo hIH hAt hB hv hFr ⟨1, by decide⟩ [0, 34359738369] [0, (v2 1), xE (zyEl zymx B H2) 74 36, xE (zyEl zymx B H2) 74 37, xE (zyEl zymx B H2) 74 40, xE (zyEl zymx B H2) 74 38] rfl ⟨by decide +kernel, ⟨rfl, by decide +kernel⟩, (xcs_c rfl (xcs_c rfl xcs_n)), (xe_0 (xe_f (by omega) (xe_c (by omega) (by omega) rfl (xe_f (xE_r _ _ _) (xe_c (by omega) (by omega) rfl (xe_c (by omega) (by omega) rfl xe_n)))))), (xkq_c hT2 74 36 (q := 36) rfl rfl rfl rfl rfl rfl rfl rfl rfl rfl rfl (xkq_c hT2 74 37 (q := 37) rfl rfl rfl rfl rfl rfl rfl rfl rfl rfl rfl (xkq_c hT2 74 40 (q := 40) rfl rfl rfl rfl rfl rfl rfl rfl rfl rfl rfl (xkq_c hT2 74 38 (q := 38) rfl rfl rfl rfl rfl rfl rfl rfl rfl rfl rfl xkq_n))))⟩ xst_n ?_ ?_
      · show (zyEl zymx B H2) = (zyEl zymx B s.heap) ∧ ((v2 1) : Int) = x0 0
        exact ⟨(xFr_n hfr).trans hE, by omega⟩
      · show 2 < 3
        omega
    · have hx : x ∈ [zxftk_ax0, zxftk_ax1] := hx
      have hag : ∀ k, k < 6 → v2 k = v k := hag
      have hfr : xFr [(74, 36, 37)] _ _ := hfr
      rcases List.mem_cons.mp hx with ex | hx
      · subst ex
        obtain ⟨hF, hBd, hM⟩ := hXs
        have r3 := hr2 3
        have g1 : v2 1 = v 1 := hag 1 (by decide)
        have g2 : v2 2 = v 2 := hag 2 (by decide)
        have g3 : v2 3 = v 3 := hag 3 (by decide)
        have g4 : v2 4 = v 4 := hag 4 (by decide)
        have g5 : v2 5 = v 5 := hag 5 (by decide)
        have b0 : ((2147483649 : Nat) : Int) ≤ (v2 1) + 2147483648 ∧ (v2 1) + 2147483648 ≤ ((4294967295 : Nat) : Int) := xXb hBd 0 rfl
        have b1 : ((2147483648 : Nat) : Int) ≤ (v2 2) + 2147483648 ∧ (v2 2) + 2147483648 ≤ ((2147483648 : Nat) : Int) := xXb hBd 1 rfl
        have k0 : xE (zyEl zymx B H) 74 36 = v 2 := xKcf hKc 0 rfl rfl
        have k1 : xE (zyEl zymx B H) 74 37 = v 3 := xKcf hKc 1 rfl rfl
        have k2 : xE (zyEl zymx B H) 74 40 = v 4 := xKcf hKc 2 rfl rfl
        have k3 : xE (zyEl zymx B H) 74 38 = v 5 := xKcf hKc 3 rfl rfl
        have f0 : ¬ (v2 1) = 0 := xXf hF 0 rfl
        have f1 : (v2 2) = 0 := xXf hF 1 rfl
        have m0 : xE (zyEl zymx B H2) 74 36 = (v2 2) := xXm hM 0 rfl
        have m1 : xE (zyEl zymx B H2) 74 37 = (v2 3) := xXm hM 1 rfl
        have e74_38 : xE (zyEl zymx B H2) 74 38 = xE (zyEl zymx B H) 74 38 := xFr_E hfr rfl
        have e74_39 : xE (zyEl zymx B H2) 74 39 = xE (zyEl zymx B H) 74 39 := xFr_E hfr rfl
        have e74_40 : xE (zyEl zymx B H2) 74 40 = xE (zyEl zymx B H) 74 40 := xFr_E hfr rfl
        have e74_41 : xE (zyEl zymx B H2) 74 41 = xE (zyEl zymx B H) 74 41 := xFr_E hfr rfl
        have e74_42 : xE (zyEl zymx B H2) 74 42 = xE (zyEl zymx B H) 74 42 := xFr_E hfr rfl
        have q74_42 : xE (zyEl zymx B H) 74 42 = xE (zyEl zymx B s.heap) 74 42 := xFr_E hFr0 rfl
        have e84 : ∀ i, xE (zyEl zymx B H2) 84 i = xE (zyEl zymx B H) 84 i := fun i => xFr_E hfr rfl
        have q84 : ∀ i, xE (zyEl zymx B H) 84 i = xE (zyEl zymx B s.heap) 84 i := fun i => xFr_E hFr0 rfl
        have hI : (zyEl zymx B H) = (zyEl zymx B s.heap) ∧ (v 1) = x0 0 := hInv
        have q74_36 : xE (zyEl zymx B H) 74 36 = xE (zyEl zymx B s.heap) 74 36 := by rw [hI.1]
        have q74_37 : xE (zyEl zymx B H) 74 37 = xE (zyEl zymx B s.heap) 74 37 := by rw [hI.1]
        have q74_38 : xE (zyEl zymx B H) 74 38 = xE (zyEl zymx B s.heap) 74 38 := by rw [hI.1]
        have q74_39 : xE (zyEl zymx B H) 74 39 = xE (zyEl zymx B s.heap) 74 39 := by rw [hI.1]
        have q74_40 : xE (zyEl zymx B H) 74 40 = xE (zyEl zymx B s.heap) 74 40 := by rw [hI.1]
        have q74_41 : xE (zyEl zymx B H) 74 41 = xE (zyEl zymx B s.heap) 74 41 := by rw [hI.1]
        obtain ⟨hE, i1⟩ := hI
        refine xCa hRu hIH hAt hB hv hFr (hfrd B) (ix := 450) (ax := 5024) rfl rfl rfl hmefrd ⟨_, rfl, rfl, by decide⟩ ⟨rfl, rfl, rfl⟩ (by decide) [] [] [] rfl ⟨rfl, rfl⟩ (by decide +kernel) xcs_n (by decide +kernel) ?_ (fun H3 r hT3 hf3 hFr3 hr3 hΨ3 => ?_)
        · show xΦrd (xfv []) (zyEl zymx B H2)
          have hP : xE (zyEl zymx B s.heap) 74 36 = 0 → ¬ x0 0 = 0 → xE (zyEl zymx B s.heap) 74 39 ≤ xE (zyEl zymx B s.heap) 74 42 := hΦ
          have hP := hP (by omega) (by omega)
          unfold xΦrd
          omega
        · have hΨ3 : xΨrd (xfv []) (zyEl zymx B H2) (zyEl zymx B H3) r := hΨ3
          have d74_36 : xE (zyEl zymx B H3) 74 36 = xE (zyEl zymx B H2) 74 36 := xFr_E hf3 rfl
          have d74_37 : xE (zyEl zymx B H3) 74 37 = xE (zyEl zymx B H2) 74 37 := xFr_E hf3 rfl
          have d74_42 : xE (zyEl zymx B H3) 74 42 = xE (zyEl zymx B H2) 74 42 := xFr_E hf3 rfl
          have d84 : ∀ i, xE (zyEl zymx B H3) 84 i = xE (zyEl zymx B H2) 84 i := fun i => xFr_E hf3 rfl
          unfold xΨrd at hΨ3
          rw [show xE (zyEl zymx B H2) 84 = xE (zyEl zymx B s.heap) 84 from funext fun i => (e84 i).trans (q84 i), show xE (zyEl zymx B H2) 74 42 = xE (zyEl zymx B s.heap) 74 42 by omega, show xE (zyEl zymx B H2) 74 39 = xE (zyEl zymx B s.heap) 74 39 by omega] at hΨ3
          refine ⟨⟨2, by decide⟩, [0, 34359738369], [0, (v2 1)], rfl, ⟨by decide +kernel, ⟨rfl, by decide +kernel⟩, (xcs_c rfl (xcs_c rfl xcs_n)), (xe_0 (xe_f (by omega) xe_n)), xkq_n⟩, (by rw [if_neg (by decide)]; exact xst_n), ?_, ?_⟩
          · show xE (zyEl zymx B s.heap) 74 36 = 0 ∧ ¬ x0 0 = 0 ∧ xE (zyEl zymx B H3) 74 36 = 0 ∧ xRD (xE (zyEl zymx B s.heap) 84) (xE (zyEl zymx B s.heap) 74 42) (xE (zyEl zymx B s.heap) 74 39) (zyEl zymx B H3)
            exact ⟨by omega, by omega, by omega, hΨ3⟩
          · show 1 < 2
            omega
      · skip
        have ex := List.mem_singleton.mp hx
        subst ex
        obtain ⟨hF, hBd, hM⟩ := hXs
        have r3 := hr2 3
        have g1 : v2 1 = v 1 := hag 1 (by decide)
        have g2 : v2 2 = v 2 := hag 2 (by decide)
        have g3 : v2 3 = v 3 := hag 3 (by decide)
        have g4 : v2 4 = v 4 := hag 4 (by decide)
        have g5 : v2 5 = v 5 := hag 5 (by decide)
        have b0 : ((0 : Nat) : Int) ≤ (v2 1) + 2147483648 ∧ (v2 1) + 2147483648 ≤ ((2147483647 : Nat) : Int) := xXb hBd 0 rfl
        have b1 : ((2147483648 : Nat) : Int) ≤ (v2 2) + 2147483648 ∧ (v2 2) + 2147483648 ≤ ((2147483648 : Nat) : Int) := xXb hBd 1 rfl
        have k0 : xE (zyEl zymx B H) 74 36 = v 2 := xKcf hKc 0 rfl rfl
        have k1 : xE (zyEl zymx B H) 74 37 = v 3 := xKcf hKc 1 rfl rfl
        have k2 : xE (zyEl zymx B H) 74 40 = v 4 := xKcf hKc 2 rfl rfl
        have k3 : xE (zyEl zymx B H) 74 38 = v 5 := xKcf hKc 3 rfl rfl
        have f0 : ¬ (v2 1) = 0 := xXf hF 0 rfl
        have f1 : (v2 2) = 0 := xXf hF 1 rfl
        have m0 : xE (zyEl zymx B H2) 74 36 = (v2 2) := xXm hM 0 rfl
        have m1 : xE (zyEl zymx B H2) 74 37 = (v2 3) := xXm hM 1 rfl
        have e74_38 : xE (zyEl zymx B H2) 74 38 = xE (zyEl zymx B H) 74 38 := xFr_E hfr rfl
        have e74_39 : xE (zyEl zymx B H2) 74 39 = xE (zyEl zymx B H) 74 39 := xFr_E hfr rfl
        have e74_40 : xE (zyEl zymx B H2) 74 40 = xE (zyEl zymx B H) 74 40 := xFr_E hfr rfl
        have e74_41 : xE (zyEl zymx B H2) 74 41 = xE (zyEl zymx B H) 74 41 := xFr_E hfr rfl
        have e74_42 : xE (zyEl zymx B H2) 74 42 = xE (zyEl zymx B H) 74 42 := xFr_E hfr rfl
        have q74_42 : xE (zyEl zymx B H) 74 42 = xE (zyEl zymx B s.heap) 74 42 := xFr_E hFr0 rfl
        have e84 : ∀ i, xE (zyEl zymx B H2) 84 i = xE (zyEl zymx B H) 84 i := fun i => xFr_E hfr rfl
        have q84 : ∀ i, xE (zyEl zymx B H) 84 i = xE (zyEl zymx B s.heap) 84 i := fun i => xFr_E hFr0 rfl
        have hI : (zyEl zymx B H) = (zyEl zymx B s.heap) ∧ (v 1) = x0 0 := hInv
        have q74_36 : xE (zyEl zymx B H) 74 36 = xE (zyEl zymx B s.heap) 74 36 := by rw [hI.1]
        have q74_37 : xE (zyEl zymx B H) 74 37 = xE (zyEl zymx B s.heap) 74 37 := by rw [hI.1]
        have q74_38 : xE (zyEl zymx B H) 74 38 = xE (zyEl zymx B s.heap) 74 38 := by rw [hI.1]
        have q74_39 : xE (zyEl zymx B H) 74 39 = xE (zyEl zymx B s.heap) 74 39 := by rw [hI.1]
        have q74_40 : xE (zyEl zymx B H) 74 40 = xE (zyEl zymx B s.heap) 74 40 := by rw [hI.1]
        have q74_41 : xE (zyEl zymx B H) 74 41 = xE (zyEl zymx B s.heap) 74 41 := by rw [hI.1]
        obtain ⟨hE, i1⟩ := hI
        refine xCa hRu hIH hAt hB hv hFr (hfrd B) (ix := 450) (ax := 5024) rfl rfl rfl hmefrd ⟨_, rfl, rfl, by decide⟩ ⟨rfl, rfl, rfl⟩ (by decide) [] [] [] rfl ⟨rfl, rfl⟩ (by decide +kernel) xcs_n (by decide +kernel) ?_ (fun H3 r hT3 hf3 hFr3 hr3 hΨ3 => ?_)
        · show xΦrd (xfv []) (zyEl zymx B H2)
          have hP : xE (zyEl zymx B s.heap) 74 36 = 0 → ¬ x0 0 = 0 → xE (zyEl zymx B s.heap) 74 39 ≤ xE (zyEl zymx B s.heap) 74 42 := hΦ
          have hP := hP (by omega) (by omega)
          unfold xΦrd
          omega
        · have hΨ3 : xΨrd (xfv []) (zyEl zymx B H2) (zyEl zymx B H3) r := hΨ3
          have d74_36 : xE (zyEl zymx B H3) 74 36 = xE (zyEl zymx B H2) 74 36 := xFr_E hf3 rfl
          have d74_37 : xE (zyEl zymx B H3) 74 37 = xE (zyEl zymx B H2) 74 37 := xFr_E hf3 rfl
          have d74_42 : xE (zyEl zymx B H3) 74 42 = xE (zyEl zymx B H2) 74 42 := xFr_E hf3 rfl
          have d84 : ∀ i, xE (zyEl zymx B H3) 84 i = xE (zyEl zymx B H2) 84 i := fun i => xFr_E hf3 rfl
          unfold xΨrd at hΨ3
          rw [show xE (zyEl zymx B H2) 84 = xE (zyEl zymx B s.heap) 84 from funext fun i => (e84 i).trans (q84 i), show xE (zyEl zymx B H2) 74 42 = xE (zyEl zymx B s.heap) 74 42 by omega, show xE (zyEl zymx B H2) 74 39 = xE (zyEl zymx B s.heap) 74 39 by omega] at hΨ3
          refine ⟨⟨2, by decide⟩, [0, 34359738369], [0, (v2 1)], rfl, ⟨by decide +kernel, ⟨rfl, by decide +kernel⟩, (xcs_c rfl (xcs_c rfl xcs_n)), (xe_0 (xe_f (by omega) xe_n)), xkq_n⟩, (by rw [if_neg (by decide)]; exact xst_n), ?_, ?_⟩
          · show xE (zyEl zymx B s.heap) 74 36 = 0 ∧ ¬ x0 0 = 0 ∧ xE (zyEl zymx B H3) 74 36 = 0 ∧ xRD (xE (zyEl zymx B s.heap) 84) (xE (zyEl zymx B s.heap) 74 42) (xE (zyEl zymx B s.heap) 74 39) (zyEl zymx B H3)
            exact ⟨by omega, by omega, by omega, hΨ3⟩
          · show 1 < 2
            omega
    · cases hx
  · intro x0 E0 E E2 hrx hT0 hΦ i v hT hrv hInv hKc hFr0 x hx v2 hr2 hXs hag hfr hFr hT2
    rcases i with ⟨i, hi⟩
    have hi2 : i = 0 ∨ i = 1 ∨ i = 2 := by omega
    rcases hi2 with rfl | rfl | rfl
    · cases hx
    · have hx : x ∈ [zxftk_ar0, zxftk_ar1, zxftk_ar2, zxftk_ar3, zxftk_ar4] := hx
      have hag : ∀ k, k < 6 → v2 k = v k := hag
      have hfr : xFr [(74, 36, 37)] _ _ := hfr
      rcases List.mem_cons.mp hx with ex | hx
      · subst ex
        obtain ⟨hF, hBd, hM⟩ := hXs
        have r3 := hr2 3
        have g1 : v2 1 = v 1 := hag 1 (by decide)
        have g2 : v2 2 = v 2 := hag 2 (by decide)
        have g3 : v2 3 = v 3 := hag 3 (by decide)
        have g4 : v2 4 = v 4 := hag 4 (by decide)
        have g5 : v2 5 = v 5 := hag 5 (by decide)
        have b0 : ((2147483649 : Nat) : Int) ≤ (v2 1) + 2147483648 ∧ (v2 1) + 2147483648 ≤ ((4294967295 : Nat) : Int) := xXb hBd 0 rfl
        have b1 : ((2147483649 : Nat) : Int) ≤ (v2 2) + 2147483648 ∧ (v2 2) + 2147483648 ≤ ((2147483657 : Nat) : Int) := xXb hBd 1 rfl
        have k0 : xE E 74 36 = v 2 := xKcf hKc 0 rfl rfl
        have k1 : xE E 74 37 = v 3 := xKcf hKc 1 rfl rfl
        have k2 : xE E 74 40 = v 4 := xKcf hKc 2 rfl rfl
        have k3 : xE E 74 38 = v 5 := xKcf hKc 3 rfl rfl
        have f0 : ¬ (v2 1) = 0 := xXf hF 0 rfl
        have f1 : ¬ (v2 2) = 0 := xXf hF 1 rfl
        have m0 : xE E2 74 36 = (v2 2) := xXm hM 0 rfl
        have m1 : xE E2 74 37 = (v2 3) := xXm hM 1 rfl
        have e74_38 : xE E2 74 38 = xE E 74 38 := xFr_E hfr rfl
        have e74_39 : xE E2 74 39 = xE E 74 39 := xFr_E hfr rfl
        have e74_40 : xE E2 74 40 = xE E 74 40 := xFr_E hfr rfl
        have e74_41 : xE E2 74 41 = xE E 74 41 := xFr_E hfr rfl
        have e74_42 : xE E2 74 42 = xE E 74 42 := xFr_E hfr rfl
        have q74_42 : xE E 74 42 = xE E0 74 42 := xFr_E hFr0 rfl
        have e84 : ∀ i, xE E2 84 i = xE E 84 i := fun i => xFr_E hfr rfl
        have q84 : ∀ i, xE E 84 i = xE E0 84 i := fun i => xFr_E hFr0 rfl
        have hI : E = E0 ∧ (v 1) = x0 0 := hInv
        have q74_36 : xE E 74 36 = xE E0 74 36 := by rw [hI.1]
        have q74_37 : xE E 74 37 = xE E0 74 37 := by rw [hI.1]
        have q74_38 : xE E 74 38 = xE E0 74 38 := by rw [hI.1]
        have q74_39 : xE E 74 39 = xE E0 74 39 := by rw [hI.1]
        have q74_40 : xE E 74 40 = xE E0 74 40 := by rw [hI.1]
        have q74_41 : xE E 74 41 = xE E0 74 41 := by rw [hI.1]
        show xΨtk x0 E0 E2 0
        obtain ⟨hE, i1⟩ := hI
        unfold xΨtk
        by_cases c1 : xE E0 74 36 = 0
        · rw [if_pos c1]
          by_cases c2 : x0 0 = 0
          · rw [if_pos c2]
            by_cases c3 : xE E0 74 40 = 4
            · rw [if_pos c3]
              first | exact ⟨by omega, by omega⟩ | (exfalso; omega)
            · rw [if_neg c3]
              first | exact ⟨by omega, by omega⟩ | (exfalso; omega)
          · exfalso
            omega
        · rw [if_neg c1]
          first | exact ⟨by omega, by omega⟩ | (exfalso; omega)
      · skip
        rcases List.mem_cons.mp hx with ex | hx
        · subst ex
          obtain ⟨hF, hBd, hM⟩ := hXs
          have r3 := hr2 3
          have g1 : v2 1 = v 1 := hag 1 (by decide)
          have g2 : v2 2 = v 2 := hag 2 (by decide)
          have g3 : v2 3 = v 3 := hag 3 (by decide)
          have g4 : v2 4 = v 4 := hag 4 (by decide)
          have g5 : v2 5 = v 5 := hag 5 (by decide)
          have b0 : ((0 : Nat) : Int) ≤ (v2 1) + 2147483648 ∧ (v2 1) + 2147483648 ≤ ((2147483647 : Nat) : Int) := xXb hBd 0 rfl
          have b1 : ((2147483649 : Nat) : Int) ≤ (v2 2) + 2147483648 ∧ (v2 2) + 2147483648 ≤ ((2147483657 : Nat) : Int) := xXb hBd 1 rfl
          have k0 : xE E 74 36 = v 2 := xKcf hKc 0 rfl rfl
          have k1 : xE E 74 37 = v 3 := xKcf hKc 1 rfl rfl
          have k2 : xE E 74 40 = v 4 := xKcf hKc 2 rfl rfl
          have k3 : xE E 74 38 = v 5 := xKcf hKc 3 rfl rfl
          have f0 : ¬ (v2 1) = 0 := xXf hF 0 rfl
          have f1 : ¬ (v2 2) = 0 := xXf hF 1 rfl
          have m0 : xE E2 74 36 = (v2 2) := xXm hM 0 rfl
          have m1 : xE E2 74 37 = (v2 3) := xXm hM 1 rfl
          have e74_38 : xE E2 74 38 = xE E 74 38 := xFr_E hfr rfl
          have e74_39 : xE E2 74 39 = xE E 74 39 := xFr_E hfr rfl
          have e74_40 : xE E2 74 40 = xE E 74 40 := xFr_E hfr rfl
          have e74_41 : xE E2 74 41 = xE E 74 41 := xFr_E hfr rfl
          have e74_42 : xE E2 74 42 = xE E 74 42 := xFr_E hfr rfl
          have q74_42 : xE E 74 42 = xE E0 74 42 := xFr_E hFr0 rfl
          have e84 : ∀ i, xE E2 84 i = xE E 84 i := fun i => xFr_E hfr rfl
          have q84 : ∀ i, xE E 84 i = xE E0 84 i := fun i => xFr_E hFr0 rfl
          have hI : E = E0 ∧ (v 1) = x0 0 := hInv
          have q74_36 : xE E 74 36 = xE E0 74 36 := by rw [hI.1]
          have q74_37 : xE E 74 37 = xE E0 74 37 := by rw [hI.1]
          have q74_38 : xE E 74 38 = xE E0 74 38 := by rw [hI.1]
          have q74_39 : xE E 74 39 = xE E0 74 39 := by rw [hI.1]
          have q74_40 : xE E 74 40 = xE E0 74 40 := by rw [hI.1]
          have q74_41 : xE E 74 41 = xE E0 74 41 := by rw [hI.1]
          show xΨtk x0 E0 E2 0
          obtain ⟨hE, i1⟩ := hI
          unfold xΨtk
          by_cases c1 : xE E0 74 36 = 0
          · rw [if_pos c1]
            by_cases c2 : x0 0 = 0
            · rw [if_pos c2]
              by_cases c3 : xE E0 74 40 = 4
              · rw [if_pos c3]
                first | exact ⟨by omega, by omega⟩ | (exfalso; omega)
              · rw [if_neg c3]
                first | exact ⟨by omega, by omega⟩ | (exfalso; omega)
            · exfalso
              omega
          · rw [if_neg c1]
            first | exact ⟨by omega, by omega⟩ | (exfalso; omega)
        · skip
          rcases List.mem_cons.mp hx with ex | hx
          · subst ex
            obtain ⟨hF, hBd, hM⟩ := hXs
            have r3 := hr2 3
            have g1 : v2 1 = v 1 := hag 1 (by decide)
            have g2 : v2 2 = v 2 := hag 2 (by decide)
            have g3 : v2 3 = v 3 := hag 3 (by decide)
            have g4 : v2 4 = v 4 := hag 4 (by decide)
            have g5 : v2 5 = v 5 := hag 5 (by decide)
            have b0 : ((2147483648 : Nat) : Int) ≤ (v2 1) + 2147483648 ∧ (v2 1) + 2147483648 ≤ ((2147483648 : Nat) : Int) := xXb hBd 0 rfl
            have b1 : ((2147483649 : Nat) : Int) ≤ (v2 2) + 2147483648 ∧ (v2 2) + 2147483648 ≤ ((2147483657 : Nat) : Int) := xXb hBd 1 rfl
            have k0 : xE E 74 36 = v 2 := xKcf hKc 0 rfl rfl
            have k1 : xE E 74 37 = v 3 := xKcf hKc 1 rfl rfl
            have k2 : xE E 74 40 = v 4 := xKcf hKc 2 rfl rfl
            have k3 : xE E 74 38 = v 5 := xKcf hKc 3 rfl rfl
            have f0 : (v2 1) = 0 := xXf hF 0 rfl
            have f1 : 0 < (v2 2) := xXf hF 1 rfl
            have f2 : ¬ (v2 2) = 0 := xXf hF 2 rfl
            have m0 : xE E2 74 36 = (v2 2) := xXm hM 0 rfl
            have m1 : xE E2 74 37 = (v2 3) := xXm hM 1 rfl
            have e74_38 : xE E2 74 38 = xE E 74 38 := xFr_E hfr rfl
            have e74_39 : xE E2 74 39 = xE E 74 39 := xFr_E hfr rfl
            have e74_40 : xE E2 74 40 = xE E 74 40 := xFr_E hfr rfl
            have e74_41 : xE E2 74 41 = xE E 74 41 := xFr_E hfr rfl
            have e74_42 : xE E2 74 42 = xE E 74 42 := xFr_E hfr rfl
            have q74_42 : xE E 74 42 = xE E0 74 42 := xFr_E hFr0 rfl
            have e84 : ∀ i, xE E2 84 i = xE E 84 i := fun i => xFr_E hfr rfl
            have q84 : ∀ i, xE E 84 i = xE E0 84 i := fun i => xFr_E hFr0 rfl
            have hI : E = E0 ∧ (v 1) = x0 0 := hInv
            have q74_36 : xE E 74 36 = xE E0 74 36 := by rw [hI.1]
            have q74_37 : xE E 74 37 = xE E0 74 37 := by rw [hI.1]
            have q74_38 : xE E 74 38 = xE E0 74 38 := by rw [hI.1]
            have q74_39 : xE E 74 39 = xE E0 74 39 := by rw [hI.1]
            have q74_40 : xE E 74 40 = xE E0 74 40 := by rw [hI.1]
            have q74_41 : xE E 74 41 = xE E0 74 41 := by rw [hI.1]
            show xΨtk x0 E0 E2 0
            obtain ⟨hE, i1⟩ := hI
            unfold xΨtk
            by_cases c1 : xE E0 74 36 = 0
            · rw [if_pos c1]
              by_cases c2 : x0 0 = 0
              · rw [if_pos c2]
                by_cases c3 : xE E0 74 40 = 4
                · rw [if_pos c3]
                  first | exact ⟨by omega, by omega⟩ | (exfalso; omega)
                · rw [if_neg c3]
                  first | exact ⟨by omega, by omega⟩ | (exfalso; omega)
              · exfalso
                omega
            · rw [if_neg c1]
              first | exact ⟨by omega, by omega⟩ | (exfalso; omega)
          · skip
            rcases List.mem_cons.mp hx with ex | hx
            · subst ex
              obtain ⟨hF, hBd, hM⟩ := hXs
              have g1 : v2 1 = v 1 := hag 1 (by decide)
              have g2 : v2 2 = v 2 := hag 2 (by decide)
              have g3 : v2 3 = v 3 := hag 3 (by decide)
              have g4 : v2 4 = v 4 := hag 4 (by decide)
              have g5 : v2 5 = v 5 := hag 5 (by decide)
              have b0 : ((2147483648 : Nat) : Int) ≤ (v2 1) + 2147483648 ∧ (v2 1) + 2147483648 ≤ ((2147483648 : Nat) : Int) := xXb hBd 0 rfl
              have b1 : ((2147483648 : Nat) : Int) ≤ (v2 2) + 2147483648 ∧ (v2 2) + 2147483648 ≤ ((2147483648 : Nat) : Int) := xXb hBd 1 rfl
              have b2 : ((2147483648 : Nat) : Int) ≤ (v2 4) + 2147483648 ∧ (v2 4) + 2147483648 ≤ ((2147483651 : Nat) : Int) := xXb hBd 2 rfl
              have b3 : ((2147483648 : Nat) : Int) ≤ (v2 5) + 2147483648 ∧ (v2 5) + 2147483648 ≤ ((2147484548 : Nat) : Int) := xXb hBd 3 rfl
              have k0 : xE E 74 36 = v 2 := xKcf hKc 0 rfl rfl
              have k1 : xE E 74 37 = v 3 := xKcf hKc 1 rfl rfl
              have k2 : xE E 74 40 = v 4 := xKcf hKc 2 rfl rfl
              have k3 : xE E 74 38 = v 5 := xKcf hKc 3 rfl rfl
              have f0 : (v2 1) = 0 := xXf hF 0 rfl
              have f1 : (v2 2) ≤ 0 := xXf hF 1 rfl
              have f2 : ¬ (v2 4) = 4 := xXf hF 2 rfl
              have m0 : xE E2 74 36 = 2 := xXm hM 0 rfl
              have m1 : xE E2 74 37 = (v2 5) := xXm hM 1 rfl
              have e74_38 : xE E2 74 38 = xE E 74 38 := xFr_E hfr rfl
              have e74_39 : xE E2 74 39 = xE E 74 39 := xFr_E hfr rfl
              have e74_40 : xE E2 74 40 = xE E 74 40 := xFr_E hfr rfl
              have e74_41 : xE E2 74 41 = xE E 74 41 := xFr_E hfr rfl
              have e74_42 : xE E2 74 42 = xE E 74 42 := xFr_E hfr rfl
              have q74_42 : xE E 74 42 = xE E0 74 42 := xFr_E hFr0 rfl
              have e84 : ∀ i, xE E2 84 i = xE E 84 i := fun i => xFr_E hfr rfl
              have q84 : ∀ i, xE E 84 i = xE E0 84 i := fun i => xFr_E hFr0 rfl
              have hI : E = E0 ∧ (v 1) = x0 0 := hInv
              have q74_36 : xE E 74 36 = xE E0 74 36 := by rw [hI.1]
              have q74_37 : xE E 74 37 = xE E0 74 37 := by rw [hI.1]
              have q74_38 : xE E 74 38 = xE E0 74 38 := by rw [hI.1]
              have q74_39 : xE E 74 39 = xE E0 74 39 := by rw [hI.1]
              have q74_40 : xE E 74 40 = xE E0 74 40 := by rw [hI.1]
              have q74_41 : xE E 74 41 = xE E0 74 41 := by rw [hI.1]
              show xΨtk x0 E0 E2 0
              obtain ⟨hE, i1⟩ := hI
              unfold xΨtk
              by_cases c1 : xE E0 74 36 = 0
              · rw [if_pos c1]
                by_cases c2 : x0 0 = 0
                · rw [if_pos c2]
                  by_cases c3 : xE E0 74 40 = 4
                  · rw [if_pos c3]
                    first | exact ⟨by omega, by omega⟩ | (exfalso; omega)
                  · rw [if_neg c3]
                    first | exact ⟨by omega, by omega⟩ | (exfalso; omega)
                · exfalso
                  omega
              · rw [if_neg c1]
                first | exact ⟨by omega, by omega⟩ | (exfalso; omega)
            · skip
              have ex := List.mem_singleton.mp hx
              subst ex
              obtain ⟨hF, hBd, hM⟩ := hXs
              have g1 : v2 1 = v 1 := hag 1 (by decide)
              have g2 : v2 2 = v 2 := hag 2 (by decide)
              have g3 : v2 3 = v 3 := hag 3 (by decide)
              have g4 : v2 4 = v 4 := hag 4 (by decide)
              have g5 : v2 5 = v 5 := hag 5 (by decide)
              have b0 : ((2147483648 : Nat) : Int) ≤ (v2 1) + 2147483648 ∧ (v2 1) + 2147483648 ≤ ((2147483648 : Nat) : Int) := xXb hBd 0 rfl
              have b1 : ((2147483648 : Nat) : Int) ≤ (v2 2) + 2147483648 ∧ (v2 2) + 2147483648 ≤ ((2147483648 : Nat) : Int) := xXb hBd 1 rfl
              have b2 : ((2147483652 : Nat) : Int) ≤ (v2 4) + 2147483648 ∧ (v2 4) + 2147483648 ≤ ((2147483652 : Nat) : Int) := xXb hBd 2 rfl
              have b3 : ((2147483648 : Nat) : Int) ≤ (v2 5) + 2147483648 ∧ (v2 5) + 2147483648 ≤ ((2147484548 : Nat) : Int) := xXb hBd 3 rfl
              have k0 : xE E 74 36 = v 2 := xKcf hKc 0 rfl rfl
              have k1 : xE E 74 37 = v 3 := xKcf hKc 1 rfl rfl
              have k2 : xE E 74 40 = v 4 := xKcf hKc 2 rfl rfl
              have k3 : xE E 74 38 = v 5 := xKcf hKc 3 rfl rfl
              have f0 : (v2 1) = 0 := xXf hF 0 rfl
              have f1 : (v2 2) ≤ 0 := xXf hF 1 rfl
              have f2 : (v2 4) = 4 := xXf hF 2 rfl
              have m0 : xE E2 74 36 = 1 := xXm hM 0 rfl
              have m1 : xE E2 74 37 = (v2 5) := xXm hM 1 rfl
              have e74_38 : xE E2 74 38 = xE E 74 38 := xFr_E hfr rfl
              have e74_39 : xE E2 74 39 = xE E 74 39 := xFr_E hfr rfl
              have e74_40 : xE E2 74 40 = xE E 74 40 := xFr_E hfr rfl
              have e74_41 : xE E2 74 41 = xE E 74 41 := xFr_E hfr rfl
              have e74_42 : xE E2 74 42 = xE E 74 42 := xFr_E hfr rfl
              have q74_42 : xE E 74 42 = xE E0 74 42 := xFr_E hFr0 rfl
              have e84 : ∀ i, xE E2 84 i = xE E 84 i := fun i => xFr_E hfr rfl
              have q84 : ∀ i, xE E 84 i = xE E0 84 i := fun i => xFr_E hFr0 rfl
              have hI : E = E0 ∧ (v 1) = x0 0 := hInv
              have q74_36 : xE E 74 36 = xE E0 74 36 := by rw [hI.1]
              have q74_37 : xE E 74 37 = xE E0 74 37 := by rw [hI.1]
              have q74_38 : xE E 74 38 = xE E0 74 38 := by rw [hI.1]
              have q74_39 : xE E 74 39 = xE E0 74 39 := by rw [hI.1]
              have q74_40 : xE E 74 40 = xE E0 74 40 := by rw [hI.1]
              have q74_41 : xE E 74 41 = xE E0 74 41 := by rw [hI.1]
              show xΨtk x0 E0 E2 0
              obtain ⟨hE, i1⟩ := hI
              unfold xΨtk
              by_cases c1 : xE E0 74 36 = 0
              · rw [if_pos c1]
                by_cases c2 : x0 0 = 0
                · rw [if_pos c2]
                  by_cases c3 : xE E0 74 40 = 4
                  · rw [if_pos c3]
                    first | exact ⟨by omega, by omega⟩ | (exfalso; omega)
                  · rw [if_neg c3]
                    first | exact ⟨by omega, by omega⟩ | (exfalso; omega)
                · exfalso
                  omega
              · rw [if_neg c1]
                first | exact ⟨by omega, by omega⟩ | (exfalso; omega)
    · have hx : x ∈ [zxftk_br0] := hx
      have hag : ∀ k, k < 2 → v2 k = v k := hag
      have hfr : xFr [] _ _ := hfr
      have ex := List.mem_singleton.mp hx
      subst ex
      obtain ⟨hF, hBd, hM⟩ := hXs
      have g1 : v2 1 = v 1 := hag 1 (by decide)
      have e74_36 : xE E2 74 36 = xE E 74 36 := xFr_E hfr rfl
      have e74_37 : xE E2 74 37 = xE E 74 37 := xFr_E hfr rfl
      have e74_38 : xE E2 74 38 = xE E 74 38 := xFr_E hfr rfl
      have e74_39 : xE E2 74 39 = xE E 74 39 := xFr_E hfr rfl
      have e74_40 : xE E2 74 40 = xE E 74 40 := xFr_E hfr rfl
      have e74_41 : xE E2 74 41 = xE E 74 41 := xFr_E hfr rfl
      have e74_42 : xE E2 74 42 = xE E 74 42 := xFr_E hfr rfl
      have q74_42 : xE E 74 42 = xE E0 74 42 := xFr_E hFr0 rfl
      have e84 : ∀ i, xE E2 84 i = xE E 84 i := fun i => xFr_E hfr rfl
      have q84 : ∀ i, xE E 84 i = xE E0 84 i := fun i => xFr_E hFr0 rfl
      have hI : xE E0 74 36 = 0 ∧ ¬ x0 0 = 0 ∧ xE E 74 36 = 0 ∧ xRD (xE E0 84) (xE E0 74 42) (xE E0 74 39) E := hInv
      show xΨtk x0 E0 E2 0
      obtain ⟨i1, i2, i3, i4⟩ := hI
      unfold xΨtk
      rw [if_pos i1, if_neg i2]
      refine ⟨by omega, ?_⟩
      have hE : E2 = E := xFr_n hfr
      rw [hE]
      exact i4
end
section
/-! THE REFERENCE takes a number (printed by m18.py) -/
noncomputable def zxftm_zx0 : zyXp := (0, [595, 34359738369, 68719476737, 13], [], [], [], [])
noncomputable def zpftm_z : zyPh := (0, [595, 34359738369, 68719476737, 13], [(0, 4294967295), (0, 4294967295), (0, 4294967295), (0, 4294967295)], [], [])
noncomputable def zxftm_ax0 : zyXp := (19, [595, 34359738369, 68719476737, 274877906945], [595], [(22, 0, 206158430209, 16), (21, 0, 274877906945, 34359738369), (21, 0, 68719476737, 274877906945), (22, 0, 137438953473, 0)], [(34359738369, 0, 2147484647), (68719476737, 2147483648, 4294967295), (137438953473, 2147483648, 2147483648), (206158430209, 2147483650, 2147483650), (274877906945, 2147483648, 2147484647)], [(1212452, 137438953473), (1212453, 171798691841)])
noncomputable def zxftm_ar0 : zyXp := (0, [], [274877906945], [(23, 0, 206158430209, 16), (20, 0, 0, 137438953473), (20, 0, 274877906945, 34359738369), (20, 0, 0, 137438953473), (23, 0, 137438953473, 0)], [(34359738369, 2147483649, 4294967295), (137438953473, 2147483649, 2147483657), (206158430209, 2147483651, 2147483652), (274877906945, 2147483648, 2147484647)], [(1212452, 137438953473), (1212453, 171798691841)])
noncomputable def zxftm_ar1 : zyXp := (0, [], [274877906945], [(23, 0, 206158430209, 16), (20, 0, 0, 137438953473), (21, 0, 274877906945, 34359738369), (20, 0, 68719476737, 274877906945), (20, 0, 0, 137438953473), (23, 0, 137438953473, 0)], [(34359738369, 0, 2147484647), (68719476737, 0, 2147484646), (137438953473, 2147483649, 2147483657), (206158430209, 2147483651, 2147483652), (274877906945, 2147483648, 2147484647)], [(1212452, 137438953473), (1212453, 171798691841)])
noncomputable def zxftm_ar2 : zyXp := (0, [], [274877906945], [(23, 0, 206158430209, 16), (20, 0, 0, 137438953473), (21, 0, 274877906945, 34359738369), (21, 0, 68719476737, 274877906945), (23, 0, 137438953473, 0)], [(34359738369, 0, 2147484647), (68719476737, 2147483648, 4294967295), (137438953473, 2147483649, 2147483657), (206158430209, 2147483651, 2147483652), (274877906945, 2147483648, 2147484647)], [(1212452, 137438953473), (1212453, 171798691841)])
noncomputable def zxftm_ar3 : zyXp := (0, [], [274877906945], [(23, 0, 206158430209, 16), (21, 0, 0, 137438953473), (23, 0, 206158430209, 32), (20, 0, 274877906945, 34359738369)], [(34359738369, 2147483649, 4294967295), (137438953473, 2147483648, 2147483648), (206158430209, 2147483651, 2147483651), (240518168577, 2147483648, 2147484548), (274877906945, 2147483648, 2147484647)], [(1212452, 16), (1212453, 240518168577)])
noncomputable def zxftm_ar4 : zyXp := (0, [], [274877906945], [(23, 0, 206158430209, 16), (21, 0, 0, 137438953473), (23, 0, 206158430209, 32), (21, 0, 274877906945, 34359738369), (20, 0, 68719476737, 274877906945)], [(34359738369, 0, 2147484647), (68719476737, 0, 2147484646), (137438953473, 2147483648, 2147483648), (206158430209, 2147483651, 2147483651), (240518168577, 2147483648, 2147484548), (274877906945, 2147483648, 2147484647)], [(1212452, 16), (1212453, 240518168577)])
noncomputable def zxftm_ar5 : zyXp := (0, [], [274877906945], [(23, 0, 206158430209, 16), (21, 0, 0, 137438953473), (23, 0, 206158430209, 32), (21, 0, 274877906945, 34359738369), (21, 0, 68719476737, 274877906945)], [(34359738369, 0, 2147484647), (68719476737, 2147483648, 4294967295), (137438953473, 2147483648, 2147483648), (206158430209, 2147483651, 2147483651), (240518168577, 2147483648, 2147484548), (274877906945, 2147483648, 2147484647)], [(1212452, 16), (1212453, 240518168577)])
noncomputable def zxftm_ar6 : zyXp := (0, [], [274877906945], [(23, 0, 206158430209, 16), (21, 0, 0, 137438953473), (22, 0, 206158430209, 32), (20, 0, 274877906945, 34359738369)], [(34359738369, 2147483649, 4294967295), (137438953473, 2147483648, 2147483648), (206158430209, 2147483652, 2147483652), (240518168577, 2147483648, 2147484548), (274877906945, 2147483648, 2147484647)], [(1212452, 8), (1212453, 240518168577)])
noncomputable def zxftm_ar7 : zyXp := (0, [], [274877906945], [(23, 0, 206158430209, 16), (21, 0, 0, 137438953473), (22, 0, 206158430209, 32), (21, 0, 274877906945, 34359738369), (20, 0, 68719476737, 274877906945)], [(34359738369, 0, 2147484647), (68719476737, 0, 2147484646), (137438953473, 2147483648, 2147483648), (206158430209, 2147483652, 2147483652), (240518168577, 2147483648, 2147484548), (274877906945, 2147483648, 2147484647)], [(1212452, 8), (1212453, 240518168577)])
noncomputable def zxftm_ar8 : zyXp := (0, [], [274877906945], [(23, 0, 206158430209, 16), (21, 0, 0, 137438953473), (22, 0, 206158430209, 32), (21, 0, 274877906945, 34359738369), (21, 0, 68719476737, 274877906945)], [(34359738369, 0, 2147484647), (68719476737, 2147483648, 4294967295), (137438953473, 2147483648, 2147483648), (206158430209, 2147483652, 2147483652), (240518168577, 2147483648, 2147484548), (274877906945, 2147483648, 2147484647)], [(1212452, 8), (1212453, 240518168577)])
noncomputable def zxftm_ar9 : zyXp := (0, [], [274877906945], [(23, 0, 206158430209, 16), (20, 0, 0, 137438953473), (20, 0, 274877906945, 34359738369), (20, 0, 0, 137438953473), (23, 0, 137438953473, 0)], [(34359738369, 2147483649, 4294967295), (137438953473, 2147483649, 2147483657), (206158430209, 2147483648, 2147483649), (274877906945, 2147483648, 2147484647)], [(1212452, 137438953473), (1212453, 171798691841)])
noncomputable def zxftm_ar10 : zyXp := (0, [], [274877906945], [(23, 0, 206158430209, 16), (20, 0, 0, 137438953473), (21, 0, 274877906945, 34359738369), (20, 0, 68719476737, 274877906945), (20, 0, 0, 137438953473), (23, 0, 137438953473, 0)], [(34359738369, 0, 2147484647), (68719476737, 0, 2147484646), (137438953473, 2147483649, 2147483657), (206158430209, 2147483648, 2147483649), (274877906945, 2147483648, 2147484647)], [(1212452, 137438953473), (1212453, 171798691841)])
noncomputable def zxftm_ar11 : zyXp := (0, [], [274877906945], [(23, 0, 206158430209, 16), (20, 0, 0, 137438953473), (21, 0, 274877906945, 34359738369), (21, 0, 68719476737, 274877906945), (23, 0, 137438953473, 0)], [(34359738369, 0, 2147484647), (68719476737, 2147483648, 4294967295), (137438953473, 2147483649, 2147483657), (206158430209, 2147483648, 2147483649), (274877906945, 2147483648, 2147484647)], [(1212452, 137438953473), (1212453, 171798691841)])
noncomputable def zxftm_ar12 : zyXp := (0, [], [274877906945], [(23, 0, 206158430209, 16), (21, 0, 0, 137438953473), (23, 0, 206158430209, 32), (20, 0, 274877906945, 34359738369)], [(34359738369, 2147483649, 4294967295), (137438953473, 2147483648, 2147483648), (206158430209, 2147483648, 2147483649), (240518168577, 2147483648, 2147484548), (274877906945, 2147483648, 2147484647)], [(1212452, 16), (1212453, 240518168577)])
noncomputable def zxftm_ar13 : zyXp := (0, [], [274877906945], [(23, 0, 206158430209, 16), (21, 0, 0, 137438953473), (23, 0, 206158430209, 32), (21, 0, 274877906945, 34359738369), (20, 0, 68719476737, 274877906945)], [(34359738369, 0, 2147484647), (68719476737, 0, 2147484646), (137438953473, 2147483648, 2147483648), (206158430209, 2147483648, 2147483649), (240518168577, 2147483648, 2147484548), (274877906945, 2147483648, 2147484647)], [(1212452, 16), (1212453, 240518168577)])
noncomputable def zxftm_ar14 : zyXp := (0, [], [274877906945], [(23, 0, 206158430209, 16), (21, 0, 0, 137438953473), (23, 0, 206158430209, 32), (21, 0, 274877906945, 34359738369), (21, 0, 68719476737, 274877906945)], [(34359738369, 0, 2147484647), (68719476737, 2147483648, 4294967295), (137438953473, 2147483648, 2147483648), (206158430209, 2147483648, 2147483649), (240518168577, 2147483648, 2147484548), (274877906945, 2147483648, 2147484647)], [(1212452, 16), (1212453, 240518168577)])
noncomputable def zxftm_ar15 : zyXp := (0, [], [274877906945], [(22, 0, 206158430209, 16), (20, 0, 274877906945, 34359738369), (20, 0, 0, 137438953473), (23, 0, 137438953473, 0)], [(34359738369, 2147483649, 4294967295), (137438953473, 2147483649, 2147483657), (206158430209, 2147483650, 2147483650), (274877906945, 2147483648, 2147484647)], [(1212452, 137438953473), (1212453, 171798691841)])
noncomputable def zxftm_ar16 : zyXp := (0, [], [274877906945], [(22, 0, 206158430209, 16), (20, 0, 274877906945, 34359738369), (21, 0, 0, 137438953473)], [(34359738369, 2147483649, 4294967295), (137438953473, 2147483648, 2147483648), (206158430209, 2147483650, 2147483650), (240518168577, 2147483648, 2147484548), (274877906945, 2147483648, 2147484647)], [(1212452, 24), (1212453, 240518168577)])
noncomputable def zxftm_ar17 : zyXp := (0, [], [274877906945], [(22, 0, 206158430209, 16), (21, 0, 274877906945, 34359738369), (20, 0, 68719476737, 274877906945), (20, 0, 0, 137438953473), (23, 0, 137438953473, 0)], [(34359738369, 0, 2147484647), (68719476737, 0, 2147484646), (137438953473, 2147483649, 2147483657), (206158430209, 2147483650, 2147483650), (274877906945, 2147483648, 2147484647)], [(1212452, 137438953473), (1212453, 171798691841)])
noncomputable def zxftm_ar18 : zyXp := (0, [], [274877906945], [(22, 0, 206158430209, 16), (21, 0, 274877906945, 34359738369), (20, 0, 68719476737, 274877906945), (21, 0, 0, 137438953473)], [(34359738369, 0, 2147484647), (68719476737, 0, 2147484646), (137438953473, 2147483648, 2147483648), (206158430209, 2147483650, 2147483650), (240518168577, 2147483648, 2147484548), (274877906945, 2147483648, 2147484647)], [(1212452, 24), (1212453, 240518168577)])
noncomputable def zxftm_ar19 : zyXp := (0, [], [274877906945], [(22, 0, 206158430209, 16), (21, 0, 274877906945, 34359738369), (21, 0, 68719476737, 274877906945), (23, 0, 137438953473, 0)], [(34359738369, 0, 2147484647), (68719476737, 2147483648, 4294967295), (137438953473, 2147483649, 2147483657), (206158430209, 2147483650, 2147483650), (274877906945, 2147483648, 2147484647)], [(1212452, 137438953473), (1212453, 171798691841)])
noncomputable def zpftm_a : zyPh := (0, [595, 34359738369, 68719476737, 13], [(0, 4294967295), (0, 4294967295), (0, 4294967295), (0, 4294967295), (2147483648, 2147483657), (0, 4294967295), (2147483648, 2147483652), (2147483648, 2147484548), (2147483648, 2147484647)], [(1212452, 137438953473), (1212453, 171798691841), (1212456, 206158430209), (1212454, 240518168577), (1212457, 274877906945)], [])
noncomputable def zxftm_br0 : zyXp := (0, [], [103079215105], [], [(103079215105, 2147483648, 2147484647)], [])
noncomputable def zpftm_b : zyPh := (22, [595, 34359738369, 68719476737, 103079215105], [(0, 4294967295), (0, 4294967295), (0, 4294967295), (2147483648, 2147484647)], [], [])
noncomputable def zpftm (i : Nat) : zyPh := zif (Nat.beq i 0) (zpftm_z) (zif (Nat.beq i 1) (zpftm_a) (zpftm_b))
noncomputable def zXftm (i : Nat) : List zyXp := zif (Nat.beq i 0) ([zxftm_zx0]) (zif (Nat.beq i 1) ([zxftm_ax0]) ([]))
noncomputable def zRftm (i : Nat) : List zyXp := zif (Nat.beq i 0) ([]) (zif (Nat.beq i 1) ([zxftm_ar0, zxftm_ar1, zxftm_ar2, zxftm_ar3, zxftm_ar4, zxftm_ar5, zxftm_ar6, zxftm_ar7, zxftm_ar8, zxftm_ar9, zxftm_ar10, zxftm_ar11, zxftm_ar12, zxftm_ar13, zxftm_ar14, zxftm_ar15, zxftm_ar16, zxftm_ar17, zxftm_ar18, zxftm_ar19]) ([zxftm_br0]))
noncomputable def zFftm (i : Nat) : zyR := zif (Nat.beq i 0) ([]) (zif (Nat.beq i 1) ([(74, 36, 37)]) ([]))
noncomputable def zSftm (i : Nat) : Nat := zif (Nat.beq i 0) (0) (zif (Nat.beq i 1) (0) (0))
/-- a number is taken, or it is a fault -/
def xΦtm (_ : Nat → Int) (E : zyEm) : Prop := xE E 74 36 = 0 → xE E 74 40 = 2 → xE E 74 39 ≤ xE E 74 42
def xΨtm (x : Nat → Int) (E E2 : zyEm) (r : Int) : Prop := if xE E 74 36 = 0 then (if xE E 74 40 = 2 then (if x 0 ≤ xE E 74 41 ∧ xE E 74 41 ≤ x 1 then xE E2 74 36 = 0 ∧ r = xE E 74 41 ∧ xRD (xE E 84) (xE E 74 42) (xE E 74 39) E2 else xE E2 74 36 = 3 ∧ xE E2 74 37 = xE E 74 38) else xE E2 74 36 = (if xE E 74 40 = 4 then 1 else 2) ∧ xE E2 74 37 = xE E 74 38) else xE E2 74 36 = xE E 74 36 ∧ xE E2 74 37 = xE E 74 37
noncomputable def fpftm : zyR := [(74, 36, 41), (74, 43, 43)]
theorem zyftm_run : zyrS zymx zxi320 (320, 0, 0, 1, 0) 4 zpftm (fun _ _ => []) zFftm zSftm zXftm zRftm 3 = true := by decide +kernel
theorem zyftm_ck : zyAll (fun i => xsubR (zFftm i) fpftm && ((zXftm i).all xckX && (zRftm i).all (fun x => xckX x && xrtB true x))) 3 = true := by decide +kernel
def xIftm (i : Nat) (x0 : Nat → Int) (E0 : zyEm) (v : Nat → Int) (E : zyEm) : Prop := if i = 0 then (E = E0 ∧ (v 1) = x0 0 ∧ (v 2) = x0 1) else if i = 1 then (E = E0 ∧ (v 1) = x0 0 ∧ (v 2) = x0 1) else (xE E0 74 36 = 0 ∧ xE E0 74 40 = 2 ∧ (x0 0 ≤ xE E0 74 41 ∧ xE E0 74 41 ≤ x0 1) ∧ xE E 74 36 = 0 ∧ (v 3) = xE E0 74 41 ∧ xRD (xE E0 84) (xE E0 74 42) (xE E0 74 39) E)
def xMftm (i : Nat) (x0 : Nat → Int) (E0 : zyEm) (v : Nat → Int) (E : zyEm) : Nat := if i = 0 then (3) else if i = 1 then (2) else (1)
theorem xTm {l : Launch} {en : zEn} {me : zMe} (hen : zG zxMeta 320 = some en) (hme : zG zMeth 320 = some me) : xFc l zymx en me 4 [74] 2 fpftm true xΦtm xΨtm := by
  have een : zG zxMeta 320 = some (zxi320, 3, 4, 11, 320, 0, 0, 1, 0) := rfl
  obtain ⟨me1, hme1, hOK⟩ := zall hen
  rw [hme] at hme1
  cases hme1
  rw [een] at hen
  cases hen
  have hr := zyftm_run
  have hck := fun i hi => zyAll_iff zyftm_ck i hi
  simp only [Bool.and_eq_true] at hck
  obtain ⟨mefrd, hmefrd, -⟩ := zall (show zG zxMeta 314 = some (zxi314, 1, 1, 11, 314, 0, 0, 0, 0) from rfl)
  have hfrd := xRd (l := l) (show zG zxMeta 314 = some (zxi314, 1, 1, 11, 314, 0, 0, 0, 0) from rfl) hmefrd
  intro B
  refine xcut (mi := zymx) (B := B) hOK rfl rfl (ι := Fin 3) (fun i => zpftm i.val) (fun _ _ => []) (fun i => zFftm i.val) (fun i => zSftm i.val) (fun i => zXftm i.val) (fun i => zRftm i.val) (fun i y2 ct en2 me2 h => by cases h) 200000 (fun i => zyAll_iff hr i.val i.isLt) (fun i => (hck i.val i.isLt).1) (fun i => (hck i.val i.isLt).2.1) (fun i => (hck i.val i.isLt).2.2) ⟨0, by decide⟩ ⟨rfl, rfl, rfl, rfl⟩ ⟨by decide, by decide⟩ (fun i x0 E0 v E => xIftm i.val x0 E0 v E) (fun i x0 E0 v E => xMftm i.val x0 E0 v E) ?_ ?_ ?_
  · intro x0 E hx0 hT hΦ
    have hΦ : xΦtm x0 E := hΦ
    refine ⟨fun k p hp => ?_, ?_⟩
    · have hk : k < 4 := (List.getElem?_eq_some_iff.mp hp).1
      have hk : k = 0 ∨ k = 1 ∨ k = 2 ∨ k = 3 := by omega
      rcases hk with rfl | rfl | rfl | rfl
      · have hp : some (0, 4294967295) = some p := hp
        cases hp
        show ((0 : Nat) : Int) ≤ 0 + 2147483648 ∧ 0 + 2147483648 ≤ ((4294967295 : Nat) : Int)
        omega
      · have hp : some (0, 4294967295) = some p := hp
        cases hp
        show ((0 : Nat) : Int) ≤ x0 0 + 2147483648 ∧ x0 0 + 2147483648 ≤ ((4294967295 : Nat) : Int)
        have hx := hx0 0
        omega
      · have hp : some (0, 4294967295) = some p := hp
        cases hp
        show ((0 : Nat) : Int) ≤ x0 1 + 2147483648 ∧ x0 1 + 2147483648 ≤ ((4294967295 : Nat) : Int)
        have hx := hx0 1
        omega
      · have hp : some (0, 4294967295) = some p := hp
        cases hp
        show ((0 : Nat) : Int) ≤ x0 2 + 2147483648 ∧ x0 2 + 2147483648 ≤ ((4294967295 : Nat) : Int)
        have hx := hx0 2
        omega
    · show E = E ∧ (x0 0) = x0 0 ∧ (x0 1) = x0 1
      exact ⟨rfl, rfl, rfl⟩
  · intro x0 s Wg hRu hrx hT0 hΦ i v H hT hrv hInv hKc hFr0 hIH x hx ρ2 v2 N2 H2 locs lsB stA hAt hB hv hr2 hXs hag hfr hFr hT2
    rcases i with ⟨i, hi⟩
    have hi2 : i = 0 ∨ i = 1 ∨ i = 2 := by omega
    rcases hi2 with rfl | rfl | rfl
    · have hx : x ∈ [zxftm_zx0] := hx
      have hag : ∀ k, k < 4 → v2 k = v k := hag
      have hfr : xFr [] _ _ := hfr
      have ex := List.mem_singleton.mp hx
      subst ex
      obtain ⟨hF, hBd, hM⟩ := hXs
      have r1 := hr2 1
      have r2 := hr2 2
      have g1 : v2 1 = v 1 := hag 1 (by decide)
      have g2 : v2 2 = v 2 := hag 2 (by decide)
      have e74_36 : xE (zyEl zymx B H2) 74 36 = xE (zyEl zymx B H) 74 36 := xFr_E hfr rfl
      have e74_37 : xE (zyEl zymx B H2) 74 37 = xE (zyEl zymx B H) 74 37 := xFr_E hfr rfl
      have e74_38 : xE (zyEl zymx B H2) 74 38 = xE (zyEl zymx B H) 74 38 := xFr_E hfr rfl
      have e74_39 : xE (zyEl zymx B H2) 74 39 = xE (zyEl zymx B H) 74 39 := xFr_E hfr rfl
      have e74_40 : xE (zyEl zymx B H2) 74 40 = xE (zyEl zymx B H) 74 40 := xFr_E hfr rfl
      have e74_41 : xE (zyEl zymx B H2) 74 41 = xE (zyEl zymx B H) 74 41 := xFr_E hfr rfl
      have e74_42 : xE (zyEl zymx B H2) 74 42 = xE (zyEl zymx B H) 74 42 := xFr_E hfr rfl
      have q74_42 : xE (zyEl zymx B H) 74 42 = xE (zyEl zymx B s.heap) 74 42 := xFr_E hFr0 rfl
      have e84 : ∀ i, xE (zyEl zymx B H2) 84 i = xE (zyEl zymx B H) 84 i := fun i => xFr_E hfr rfl
      have q84 : ∀ i, xE (zyEl zymx B H) 84 i = xE (zyEl zymx B s.heap) 84 i := fun i => xFr_E hFr0 rfl
      have hI : (zyEl zymx B H) = (zyEl zymx B s.heap) ∧ (v 1) = x0 0 ∧ (v 2) = x0 1 := hInv
      have q74_36 : xE (zyEl zymx B H) 74 36 = xE (zyEl zymx B s.heap) 74 36 := by rw [hI.1]
      have q74_37 : xE (zyEl zymx B H) 74 37 = xE (zyEl zymx B s.heap) 74 37 := by rw [hI.1]
      have q74_38 : xE (zyEl zymx B H) 74 38 = xE (zyEl zymx B s.heap) 74 38 := by rw [hI.1]
      have q74_39 : xE (zyEl zymx B H) 74 39 = xE (zyEl zymx B s.heap) 74 39 := by rw [hI.1]
      have q74_40 : xE (zyEl zymx B H) 74 40 = xE (zyEl zymx B s.heap) 74 40 := by rw [hI.1]
      have q74_41 : xE (zyEl zymx B H) 74 41 = xE (zyEl zymx B s.heap) 74 41 := by rw [hI.1]
      obtain ⟨hE, i1, i2⟩ := hI
      have z74_36 : ((2147483648 : Nat) : Int) ≤ xE (zyEl zymx B H2) 74 36 + 2147483648 ∧ xE (zyEl zymx B H2) 74 36 + 2147483648 ≤ ((2147483657 : Nat) : Int) := xTyF hT2 74 36 36 rfl rfl rfl rfl rfl rfl
      have z74_37 : ((0 : Nat) : Int) ≤ xE (zyEl zymx B H2) 74 37 + 2147483648 ∧ xE (zyEl zymx B H2) 74 37 + 2147483648 ≤ ((4294967295 : Nat) : Int) := xTyF hT2 74 37 37 rfl rfl rfl rfl rfl rfl
      have z74_40 : ((2147483648 : Nat) : Int) ≤ xE (zyEl zymx B H2) 74 40 + 2147483648 ∧ xE (zyEl zymx B H2) 74 40 + 2147483648 ≤ ((2147483652 : Nat) : Int) := xTyF hT2 74 40 40 rfl rfl rfl rfl rfl rfl
      have z74_38 : ((2147483648 : Nat) : Int) ≤ xE (zyEl zymx B H2) 74 38 + 2147483648 ∧ xE (zyEl zymx B H2) 74 38 + 2147483648 ≤ ((2147484548 : Nat) : Int) := xTyF hT2 74 38 38 rfl rfl rfl rfl rfl rfl
      have z74_41 : ((2147483648 : Nat) : Int) ≤ xE (zyEl zymx B H2) 74 41 + 2147483648 ∧ xE (zyEl zymx B H2) 74 41 + 2147483648 ≤ ((2147484647 : Nat) : Int) := xTyF hT2 74 41 41 rfl rfl rfl rfl rfl rfl
      refine xGo hIH hAt hB hv hFr ⟨1, by decide⟩ [0, 34359738369, 68719476737, 0] [0, (v2 1), (v2 2), 0, xE (zyEl zymx B H2) 74 36, xE (zyEl zymx B H2) 74 37, xE (zyEl zymx B H2) 74 40, xE (zyEl zymx B H2) 74 38, xE (zyEl zymx B H2) 74 41] rfl ⟨by decide +kernel, ⟨rfl, by decide +kernel⟩, (xcs_c rfl (xcs_c rfl (xcs_c rfl (xcs_c rfl xcs_n)))), (xe_0 (xe_f (by omega) (xe_f (by omega) (xe_0 (xe_c (by omega) (by omega) rfl (xe_f (xE_r _ _ _) (xe_c (by omega) (by omega) rfl (xe_c (by omega) (by omega) rfl (xe_c (by omega) (by omega) rfl xe_n))))))))), (xkq_c hT2 74 36 (q := 36) rfl rfl rfl rfl rfl rfl rfl rfl rfl rfl rfl (xkq_c hT2 74 37 (q := 37) rfl rfl rfl rfl rfl rfl rfl rfl rfl rfl rfl (xkq_c hT2 74 40 (q := 40) rfl rfl rfl rfl rfl rfl rfl rfl rfl rfl rfl (xkq_c hT2 74 38 (q := 38) rfl rfl rfl rfl rfl rfl rfl rfl rfl rfl rfl (xkq_c hT2 74 41 (q := 41) rfl rfl rfl rfl rfl rfl rfl rfl rfl rfl rfl xkq_n)))))⟩ xst_n ?_ ?_
      · show (zyEl zymx B H2) = (zyEl zymx B s.heap) ∧ ((v2 1) : Int) = x0 0 ∧ ((v2 2) : Int) = x0 1
        exact ⟨(xFr_n hfr).trans hE, by omega, by omega⟩
      · show 2 < 3
        omega
    · have hx : x ∈ [zxftm_ax0] := hx
      have hag : ∀ k, k < 9 → v2 k = v k := hag
      have hfr : xFr [(74, 36, 37)] _ _ := hfr
      have ex := List.mem_singleton.mp hx
      subst ex
      obtain ⟨hF, hBd, hM⟩ := hXs
      have r5 := hr2 5
      have g1 : v2 1 = v 1 := hag 1 (by decide)
      have g2 : v2 2 = v 2 := hag 2 (by decide)
      have g4 : v2 4 = v 4 := hag 4 (by decide)
      have g5 : v2 5 = v 5 := hag 5 (by decide)
      have g6 : v2 6 = v 6 := hag 6 (by decide)
      have g7 : v2 7 = v 7 := hag 7 (by decide)
      have g8 : v2 8 = v 8 := hag 8 (by decide)
      have b0 : ((0 : Nat) : Int) ≤ (v2 1) + 2147483648 ∧ (v2 1) + 2147483648 ≤ ((2147484647 : Nat) : Int) := xXb hBd 0 rfl
      have b1 : ((2147483648 : Nat) : Int) ≤ (v2 2) + 2147483648 ∧ (v2 2) + 2147483648 ≤ ((4294967295 : Nat) : Int) := xXb hBd 1 rfl
      have b2 : ((2147483648 : Nat) : Int) ≤ (v2 4) + 2147483648 ∧ (v2 4) + 2147483648 ≤ ((2147483648 : Nat) : Int) := xXb hBd 2 rfl
      have b3 : ((2147483650 : Nat) : Int) ≤ (v2 6) + 2147483648 ∧ (v2 6) + 2147483648 ≤ ((2147483650 : Nat) : Int) := xXb hBd 3 rfl
      have b4 : ((2147483648 : Nat) : Int) ≤ (v2 8) + 2147483648 ∧ (v2 8) + 2147483648 ≤ ((2147484647 : Nat) : Int) := xXb hBd 4 rfl
      have k0 : xE (zyEl zymx B H) 74 36 = v 4 := xKcf hKc 0 rfl rfl
      have k1 : xE (zyEl zymx B H) 74 37 = v 5 := xKcf hKc 1 rfl rfl
      have k2 : xE (zyEl zymx B H) 74 40 = v 6 := xKcf hKc 2 rfl rfl
      have k3 : xE (zyEl zymx B H) 74 38 = v 7 := xKcf hKc 3 rfl rfl
      have k4 : xE (zyEl zymx B H) 74 41 = v 8 := xKcf hKc 4 rfl rfl
      have f0 : (v2 6) = 2 := xXf hF 0 rfl
      have f1 : (v2 1) ≤ (v2 8) := xXf hF 1 rfl
      have f2 : (v2 8) ≤ (v2 2) := xXf hF 2 rfl
      have f3 : (v2 4) = 0 := xXf hF 3 rfl
      have m0 : xE (zyEl zymx B H2) 74 36 = (v2 4) := xXm hM 0 rfl
      have m1 : xE (zyEl zymx B H2) 74 37 = (v2 5) := xXm hM 1 rfl
      have e74_38 : xE (zyEl zymx B H2) 74 38 = xE (zyEl zymx B H) 74 38 := xFr_E hfr rfl
      have e74_39 : xE (zyEl zymx B H2) 74 39 = xE (zyEl zymx B H) 74 39 := xFr_E hfr rfl
      have e74_40 : xE (zyEl zymx B H2) 74 40 = xE (zyEl zymx B H) 74 40 := xFr_E hfr rfl
      have e74_41 : xE (zyEl zymx B H2) 74 41 = xE (zyEl zymx B H) 74 41 := xFr_E hfr rfl
      have e74_42 : xE (zyEl zymx B H2) 74 42 = xE (zyEl zymx B H) 74 42 := xFr_E hfr rfl
      have q74_42 : xE (zyEl zymx B H) 74 42 = xE (zyEl zymx B s.heap) 74 42 := xFr_E hFr0 rfl
      have e84 : ∀ i, xE (zyEl zymx B H2) 84 i = xE (zyEl zymx B H) 84 i := fun i => xFr_E hfr rfl
      have q84 : ∀ i, xE (zyEl zymx B H) 84 i = xE (zyEl zymx B s.heap) 84 i := fun i => xFr_E hFr0 rfl
      have hI : (zyEl zymx B H) = (zyEl zymx B s.heap) ∧ (v 1) = x0 0 ∧ (v 2) = x0 1 := hInv
      have q74_36 : xE (zyEl zymx B H) 74 36 = xE (zyEl zymx B s.heap) 74 36 := by rw [hI.1]
      have q74_37 : xE (zyEl zymx B H) 74 37 = xE (zyEl zymx B s.heap) 74 37 := by rw [hI.1]
      have q74_38 : xE (zyEl zymx B H) 74 38 = xE (zyEl zymx B s.heap) 74 38 := by rw [hI.1]
      have q74_39 : xE (zyEl zymx B H) 74 39 = xE (zyEl zymx B s.heap) 74 39 := by rw [hI.1]
      have q74_40 : xE (zyEl zymx B H) 74 40 = xE (zyEl zymx B s.heap) 74 40 := by rw [hI.1]
      have q74_41 : xE (zyEl zymx B H) 74 41 = xE (zyEl zymx B s.heap) 74 41 := by rw [hI.1]
      obtain ⟨hE, i1, i2⟩ := hI
      refine xCa hRu hIH hAt hB hv hFr (hfrd B) (ix := 450) (ax := 5024) rfl rfl rfl hmefrd ⟨_, rfl, rfl, by decide⟩ ⟨rfl, rfl, rfl⟩ (by decide) [] [] [] rfl ⟨rfl, rfl⟩ (by decide +kernel) xcs_n (by decide +kernel) ?_ (fun H3 r hT3 hf3 hFr3 hr3 hΨ3 => ?_)
      · show xΦrd (xfv []) (zyEl zymx B H2)
        have hP : xE (zyEl zymx B s.heap) 74 36 = 0 → xE (zyEl zymx B s.heap) 74 40 = 2 → xE (zyEl zymx B s.heap) 74 39 ≤ xE (zyEl zymx B s.heap) 74 42 := hΦ
        have hP := hP (by omega) (by omega)
        unfold xΦrd
        omega
      · have hΨ3 : xΨrd (xfv []) (zyEl zymx B H2) (zyEl zymx B H3) r := hΨ3
        have d74_36 : xE (zyEl zymx B H3) 74 36 = xE (zyEl zymx B H2) 74 36 := xFr_E hf3 rfl
        have d74_37 : xE (zyEl zymx B H3) 74 37 = xE (zyEl zymx B H2) 74 37 := xFr_E hf3 rfl
        have d74_42 : xE (zyEl zymx B H3) 74 42 = xE (zyEl zymx B H2) 74 42 := xFr_E hf3 rfl
        have d84 : ∀ i, xE (zyEl zymx B H3) 84 i = xE (zyEl zymx B H2) 84 i := fun i => xFr_E hf3 rfl
        unfold xΨrd at hΨ3
        rw [show xE (zyEl zymx B H2) 84 = xE (zyEl zymx B s.heap) 84 from funext fun i => (e84 i).trans (q84 i), show xE (zyEl zymx B H2) 74 42 = xE (zyEl zymx B s.heap) 74 42 by omega, show xE (zyEl zymx B H2) 74 39 = xE (zyEl zymx B s.heap) 74 39 by omega] at hΨ3
        refine ⟨⟨2, by decide⟩, [0, 34359738369, 68719476737, 274877906945], [0, (v2 1), (v2 2), (v2 8)], rfl, ⟨by decide +kernel, ⟨rfl, by decide +kernel⟩, (xcs_c rfl (xcs_c rfl (xcs_c rfl (xcs_c rfl xcs_n)))), (xe_0 (xe_f (by omega) (xe_f (by omega) (xe_c (by omega) (by omega) rfl xe_n)))), xkq_n⟩, (by rw [if_neg (by decide)]; exact xst_n), ?_, ?_⟩
        · show xE (zyEl zymx B s.heap) 74 36 = 0 ∧ xE (zyEl zymx B s.heap) 74 40 = 2 ∧ (x0 0 ≤ xE (zyEl zymx B s.heap) 74 41 ∧ xE (zyEl zymx B s.heap) 74 41 ≤ x0 1) ∧ xE (zyEl zymx B H3) 74 36 = 0 ∧ ((v2 8) : Int) = xE (zyEl zymx B s.heap) 74 41 ∧ xRD (xE (zyEl zymx B s.heap) 84) (xE (zyEl zymx B s.heap) 74 42) (xE (zyEl zymx B s.heap) 74 39) (zyEl zymx B H3)
          exact ⟨by omega, by omega, by omega, by omega, by omega, hΨ3⟩
        · show 1 < 2
          omega
    · cases hx
  · intro x0 E0 E E2 hrx hT0 hΦ i v hT hrv hInv hKc hFr0 x hx v2 hr2 hXs hag hfr hFr hT2
    rcases i with ⟨i, hi⟩
    have hi2 : i = 0 ∨ i = 1 ∨ i = 2 := by omega
    rcases hi2 with rfl | rfl | rfl
    · cases hx
    · have hx : x ∈ [zxftm_ar0, zxftm_ar1, zxftm_ar2, zxftm_ar3, zxftm_ar4, zxftm_ar5, zxftm_ar6, zxftm_ar7, zxftm_ar8, zxftm_ar9, zxftm_ar10, zxftm_ar11, zxftm_ar12, zxftm_ar13, zxftm_ar14, zxftm_ar15, zxftm_ar16, zxftm_ar17, zxftm_ar18, zxftm_ar19] := hx
      have hag : ∀ k, k < 9 → v2 k = v k := hag
      have hfr : xFr [(74, 36, 37)] _ _ := hfr
      rcases List.mem_cons.mp hx with ex | hx
      · subst ex
        obtain ⟨hF, hBd, hM⟩ := hXs
        have r5 := hr2 5
        have g1 : v2 1 = v 1 := hag 1 (by decide)
        have g2 : v2 2 = v 2 := hag 2 (by decide)
        have g4 : v2 4 = v 4 := hag 4 (by decide)
        have g5 : v2 5 = v 5 := hag 5 (by decide)
        have g6 : v2 6 = v 6 := hag 6 (by decide)
        have g7 : v2 7 = v 7 := hag 7 (by decide)
        have g8 : v2 8 = v 8 := hag 8 (by decide)
        have b0 : ((2147483649 : Nat) : Int) ≤ (v2 1) + 2147483648 ∧ (v2 1) + 2147483648 ≤ ((4294967295 : Nat) : Int) := xXb hBd 0 rfl
        have b1 : ((2147483649 : Nat) : Int) ≤ (v2 4) + 2147483648 ∧ (v2 4) + 2147483648 ≤ ((2147483657 : Nat) : Int) := xXb hBd 1 rfl
        have b2 : ((2147483651 : Nat) : Int) ≤ (v2 6) + 2147483648 ∧ (v2 6) + 2147483648 ≤ ((2147483652 : Nat) : Int) := xXb hBd 2 rfl
        have b3 : ((2147483648 : Nat) : Int) ≤ (v2 8) + 2147483648 ∧ (v2 8) + 2147483648 ≤ ((2147484647 : Nat) : Int) := xXb hBd 3 rfl
        have k0 : xE E 74 36 = v 4 := xKcf hKc 0 rfl rfl
        have k1 : xE E 74 37 = v 5 := xKcf hKc 1 rfl rfl
        have k2 : xE E 74 40 = v 6 := xKcf hKc 2 rfl rfl
        have k3 : xE E 74 38 = v 7 := xKcf hKc 3 rfl rfl
        have k4 : xE E 74 41 = v 8 := xKcf hKc 4 rfl rfl
        have f0 : ¬ (v2 6) = 2 := xXf hF 0 rfl
        have f1 : 0 < (v2 4) := xXf hF 1 rfl
        have f2 : (v2 8) < (v2 1) := xXf hF 2 rfl
        have f3 : 0 < (v2 4) := xXf hF 3 rfl
        have f4 : ¬ (v2 4) = 0 := xXf hF 4 rfl
        have m0 : xE E2 74 36 = (v2 4) := xXm hM 0 rfl
        have m1 : xE E2 74 37 = (v2 5) := xXm hM 1 rfl
        have e74_38 : xE E2 74 38 = xE E 74 38 := xFr_E hfr rfl
        have e74_39 : xE E2 74 39 = xE E 74 39 := xFr_E hfr rfl
        have e74_40 : xE E2 74 40 = xE E 74 40 := xFr_E hfr rfl
        have e74_41 : xE E2 74 41 = xE E 74 41 := xFr_E hfr rfl
        have e74_42 : xE E2 74 42 = xE E 74 42 := xFr_E hfr rfl
        have q74_42 : xE E 74 42 = xE E0 74 42 := xFr_E hFr0 rfl
        have e84 : ∀ i, xE E2 84 i = xE E 84 i := fun i => xFr_E hfr rfl
        have q84 : ∀ i, xE E 84 i = xE E0 84 i := fun i => xFr_E hFr0 rfl
        have hI : E = E0 ∧ (v 1) = x0 0 ∧ (v 2) = x0 1 := hInv
        have q74_36 : xE E 74 36 = xE E0 74 36 := by rw [hI.1]
        have q74_37 : xE E 74 37 = xE E0 74 37 := by rw [hI.1]
        have q74_38 : xE E 74 38 = xE E0 74 38 := by rw [hI.1]
        have q74_39 : xE E 74 39 = xE E0 74 39 := by rw [hI.1]
        have q74_40 : xE E 74 40 = xE E0 74 40 := by rw [hI.1]
        have q74_41 : xE E 74 41 = xE E0 74 41 := by rw [hI.1]
        show xΨtm x0 E0 E2 (v2 8)
        obtain ⟨hE, i1, i2⟩ := hI
        unfold xΨtm
        by_cases c1 : xE E0 74 36 = 0
        · rw [if_pos c1]
          by_cases c2 : xE E0 74 40 = 2
          · rw [if_pos c2]
            by_cases c3 : x0 0 ≤ xE E0 74 41 ∧ xE E0 74 41 ≤ x0 1
            · exfalso
              omega
            · rw [if_neg c3]
              first | exact ⟨by omega, by omega⟩ | (exfalso; omega)
          · rw [if_neg c2]
            by_cases c3 : xE E0 74 40 = 4
            · rw [if_pos c3]
              first | exact ⟨by omega, by omega⟩ | (exfalso; omega)
            · rw [if_neg c3]
              first | exact ⟨by omega, by omega⟩ | (exfalso; omega)
        · rw [if_neg c1]
          first | exact ⟨by omega, by omega⟩ | (exfalso; omega)
      · skip
        rcases List.mem_cons.mp hx with ex | hx
        · subst ex
          obtain ⟨hF, hBd, hM⟩ := hXs
          have r5 := hr2 5
          have g1 : v2 1 = v 1 := hag 1 (by decide)
          have g2 : v2 2 = v 2 := hag 2 (by decide)
          have g4 : v2 4 = v 4 := hag 4 (by decide)
          have g5 : v2 5 = v 5 := hag 5 (by decide)
          have g6 : v2 6 = v 6 := hag 6 (by decide)
          have g7 : v2 7 = v 7 := hag 7 (by decide)
          have g8 : v2 8 = v 8 := hag 8 (by decide)
          have b0 : ((0 : Nat) : Int) ≤ (v2 1) + 2147483648 ∧ (v2 1) + 2147483648 ≤ ((2147484647 : Nat) : Int) := xXb hBd 0 rfl
          have b1 : ((0 : Nat) : Int) ≤ (v2 2) + 2147483648 ∧ (v2 2) + 2147483648 ≤ ((2147484646 : Nat) : Int) := xXb hBd 1 rfl
          have b2 : ((2147483649 : Nat) : Int) ≤ (v2 4) + 2147483648 ∧ (v2 4) + 2147483648 ≤ ((2147483657 : Nat) : Int) := xXb hBd 2 rfl
          have b3 : ((2147483651 : Nat) : Int) ≤ (v2 6) + 2147483648 ∧ (v2 6) + 2147483648 ≤ ((2147483652 : Nat) : Int) := xXb hBd 3 rfl
          have b4 : ((2147483648 : Nat) : Int) ≤ (v2 8) + 2147483648 ∧ (v2 8) + 2147483648 ≤ ((2147484647 : Nat) : Int) := xXb hBd 4 rfl
          have k0 : xE E 74 36 = v 4 := xKcf hKc 0 rfl rfl
          have k1 : xE E 74 37 = v 5 := xKcf hKc 1 rfl rfl
          have k2 : xE E 74 40 = v 6 := xKcf hKc 2 rfl rfl
          have k3 : xE E 74 38 = v 7 := xKcf hKc 3 rfl rfl
          have k4 : xE E 74 41 = v 8 := xKcf hKc 4 rfl rfl
          have f0 : ¬ (v2 6) = 2 := xXf hF 0 rfl
          have f1 : 0 < (v2 4) := xXf hF 1 rfl
          have f2 : (v2 1) ≤ (v2 8) := xXf hF 2 rfl
          have f3 : (v2 2) < (v2 8) := xXf hF 3 rfl
          have f4 : 0 < (v2 4) := xXf hF 4 rfl
          have f5 : ¬ (v2 4) = 0 := xXf hF 5 rfl
          have m0 : xE E2 74 36 = (v2 4) := xXm hM 0 rfl
          have m1 : xE E2 74 37 = (v2 5) := xXm hM 1 rfl
          have e74_38 : xE E2 74 38 = xE E 74 38 := xFr_E hfr rfl
          have e74_39 : xE E2 74 39 = xE E 74 39 := xFr_E hfr rfl
          have e74_40 : xE E2 74 40 = xE E 74 40 := xFr_E hfr rfl
          have e74_41 : xE E2 74 41 = xE E 74 41 := xFr_E hfr rfl
          have e74_42 : xE E2 74 42 = xE E 74 42 := xFr_E hfr rfl
          have q74_42 : xE E 74 42 = xE E0 74 42 := xFr_E hFr0 rfl
          have e84 : ∀ i, xE E2 84 i = xE E 84 i := fun i => xFr_E hfr rfl
          have q84 : ∀ i, xE E 84 i = xE E0 84 i := fun i => xFr_E hFr0 rfl
          have hI : E = E0 ∧ (v 1) = x0 0 ∧ (v 2) = x0 1 := hInv
          have q74_36 : xE E 74 36 = xE E0 74 36 := by rw [hI.1]
          have q74_37 : xE E 74 37 = xE E0 74 37 := by rw [hI.1]
          have q74_38 : xE E 74 38 = xE E0 74 38 := by rw [hI.1]
          have q74_39 : xE E 74 39 = xE E0 74 39 := by rw [hI.1]
          have q74_40 : xE E 74 40 = xE E0 74 40 := by rw [hI.1]
          have q74_41 : xE E 74 41 = xE E0 74 41 := by rw [hI.1]
          show xΨtm x0 E0 E2 (v2 8)
          obtain ⟨hE, i1, i2⟩ := hI
          unfold xΨtm
          by_cases c1 : xE E0 74 36 = 0
          · rw [if_pos c1]
            by_cases c2 : xE E0 74 40 = 2
            · rw [if_pos c2]
              by_cases c3 : x0 0 ≤ xE E0 74 41 ∧ xE E0 74 41 ≤ x0 1
              · exfalso
                omega
              · rw [if_neg c3]
                first | exact ⟨by omega, by omega⟩ | (exfalso; omega)
            · rw [if_neg c2]
              by_cases c3 : xE E0 74 40 = 4
              · rw [if_pos c3]
                first | exact ⟨by omega, by omega⟩ | (exfalso; omega)
              · rw [if_neg c3]
                first | exact ⟨by omega, by omega⟩ | (exfalso; omega)
          · rw [if_neg c1]
            first | exact ⟨by omega, by omega⟩ | (exfalso; omega)
        · skip
          rcases List.mem_cons.mp hx with ex | hx
          · subst ex
            obtain ⟨hF, hBd, hM⟩ := hXs
            have r5 := hr2 5
            have g1 : v2 1 = v 1 := hag 1 (by decide)
            have g2 : v2 2 = v 2 := hag 2 (by decide)
            have g4 : v2 4 = v 4 := hag 4 (by decide)
            have g5 : v2 5 = v 5 := hag 5 (by decide)
            have g6 : v2 6 = v 6 := hag 6 (by decide)
            have g7 : v2 7 = v 7 := hag 7 (by decide)
            have g8 : v2 8 = v 8 := hag 8 (by decide)
            have b0 : ((0 : Nat) : Int) ≤ (v2 1) + 2147483648 ∧ (v2 1) + 2147483648 ≤ ((2147484647 : Nat) : Int) := xXb hBd 0 rfl
            have b1 : ((2147483648 : Nat) : Int) ≤ (v2 2) + 2147483648 ∧ (v2 2) + 2147483648 ≤ ((4294967295 : Nat) : Int) := xXb hBd 1 rfl
            have b2 : ((2147483649 : Nat) : Int) ≤ (v2 4) + 2147483648 ∧ (v2 4) + 2147483648 ≤ ((2147483657 : Nat) : Int) := xXb hBd 2 rfl
            have b3 : ((2147483651 : Nat) : Int) ≤ (v2 6) + 2147483648 ∧ (v2 6) + 2147483648 ≤ ((2147483652 : Nat) : Int) := xXb hBd 3 rfl
            have b4 : ((2147483648 : Nat) : Int) ≤ (v2 8) + 2147483648 ∧ (v2 8) + 2147483648 ≤ ((2147484647 : Nat) : Int) := xXb hBd 4 rfl
            have k0 : xE E 74 36 = v 4 := xKcf hKc 0 rfl rfl
            have k1 : xE E 74 37 = v 5 := xKcf hKc 1 rfl rfl
            have k2 : xE E 74 40 = v 6 := xKcf hKc 2 rfl rfl
            have k3 : xE E 74 38 = v 7 := xKcf hKc 3 rfl rfl
            have k4 : xE E 74 41 = v 8 := xKcf hKc 4 rfl rfl
            have f0 : ¬ (v2 6) = 2 := xXf hF 0 rfl
            have f1 : 0 < (v2 4) := xXf hF 1 rfl
            have f2 : (v2 1) ≤ (v2 8) := xXf hF 2 rfl
            have f3 : (v2 8) ≤ (v2 2) := xXf hF 3 rfl
            have f4 : ¬ (v2 4) = 0 := xXf hF 4 rfl
            have m0 : xE E2 74 36 = (v2 4) := xXm hM 0 rfl
            have m1 : xE E2 74 37 = (v2 5) := xXm hM 1 rfl
            have e74_38 : xE E2 74 38 = xE E 74 38 := xFr_E hfr rfl
            have e74_39 : xE E2 74 39 = xE E 74 39 := xFr_E hfr rfl
            have e74_40 : xE E2 74 40 = xE E 74 40 := xFr_E hfr rfl
            have e74_41 : xE E2 74 41 = xE E 74 41 := xFr_E hfr rfl
            have e74_42 : xE E2 74 42 = xE E 74 42 := xFr_E hfr rfl
            have q74_42 : xE E 74 42 = xE E0 74 42 := xFr_E hFr0 rfl
            have e84 : ∀ i, xE E2 84 i = xE E 84 i := fun i => xFr_E hfr rfl
            have q84 : ∀ i, xE E 84 i = xE E0 84 i := fun i => xFr_E hFr0 rfl
            have hI : E = E0 ∧ (v 1) = x0 0 ∧ (v 2) = x0 1 := hInv
            have q74_36 : xE E 74 36 = xE E0 74 36 := by rw [hI.1]
            have q74_37 : xE E 74 37 = xE E0 74 37 := by rw [hI.1]
            have q74_38 : xE E 74 38 = xE E0 74 38 := by rw [hI.1]
            have q74_39 : xE E 74 39 = xE E0 74 39 := by rw [hI.1]
            have q74_40 : xE E 74 40 = xE E0 74 40 := by rw [hI.1]
            have q74_41 : xE E 74 41 = xE E0 74 41 := by rw [hI.1]
            show xΨtm x0 E0 E2 (v2 8)
            obtain ⟨hE, i1, i2⟩ := hI
            unfold xΨtm
            by_cases c1 : xE E0 74 36 = 0
            · rw [if_pos c1]
              by_cases c2 : xE E0 74 40 = 2
              · rw [if_pos c2]
                by_cases c3 : x0 0 ≤ xE E0 74 41 ∧ xE E0 74 41 ≤ x0 1
                · exfalso
                  omega
                · rw [if_neg c3]
                  first | exact ⟨by omega, by omega⟩ | (exfalso; omega)
              · rw [if_neg c2]
                by_cases c3 : xE E0 74 40 = 4
                · rw [if_pos c3]
                  first | exact ⟨by omega, by omega⟩ | (exfalso; omega)
                · rw [if_neg c3]
                  first | exact ⟨by omega, by omega⟩ | (exfalso; omega)
            · rw [if_neg c1]
              first | exact ⟨by omega, by omega⟩ | (exfalso; omega)
          · skip
            rcases List.mem_cons.mp hx with ex | hx
            · subst ex
              obtain ⟨hF, hBd, hM⟩ := hXs
              have g1 : v2 1 = v 1 := hag 1 (by decide)
              have g2 : v2 2 = v 2 := hag 2 (by decide)
              have g4 : v2 4 = v 4 := hag 4 (by decide)
              have g5 : v2 5 = v 5 := hag 5 (by decide)
              have g6 : v2 6 = v 6 := hag 6 (by decide)
              have g7 : v2 7 = v 7 := hag 7 (by decide)
              have g8 : v2 8 = v 8 := hag 8 (by decide)
              have b0 : ((2147483649 : Nat) : Int) ≤ (v2 1) + 2147483648 ∧ (v2 1) + 2147483648 ≤ ((4294967295 : Nat) : Int) := xXb hBd 0 rfl
              have b1 : ((2147483648 : Nat) : Int) ≤ (v2 4) + 2147483648 ∧ (v2 4) + 2147483648 ≤ ((2147483648 : Nat) : Int) := xXb hBd 1 rfl
              have b2 : ((2147483651 : Nat) : Int) ≤ (v2 6) + 2147483648 ∧ (v2 6) + 2147483648 ≤ ((2147483651 : Nat) : Int) := xXb hBd 2 rfl
              have b3 : ((2147483648 : Nat) : Int) ≤ (v2 7) + 2147483648 ∧ (v2 7) + 2147483648 ≤ ((2147484548 : Nat) : Int) := xXb hBd 3 rfl
              have b4 : ((2147483648 : Nat) : Int) ≤ (v2 8) + 2147483648 ∧ (v2 8) + 2147483648 ≤ ((2147484647 : Nat) : Int) := xXb hBd 4 rfl
              have k0 : xE E 74 36 = v 4 := xKcf hKc 0 rfl rfl
              have k1 : xE E 74 37 = v 5 := xKcf hKc 1 rfl rfl
              have k2 : xE E 74 40 = v 6 := xKcf hKc 2 rfl rfl
              have k3 : xE E 74 38 = v 7 := xKcf hKc 3 rfl rfl
              have k4 : xE E 74 41 = v 8 := xKcf hKc 4 rfl rfl
              have f0 : ¬ (v2 6) = 2 := xXf hF 0 rfl
              have f1 : (v2 4) ≤ 0 := xXf hF 1 rfl
              have f2 : ¬ (v2 6) = 4 := xXf hF 2 rfl
              have f3 : (v2 8) < (v2 1) := xXf hF 3 rfl
              have m0 : xE E2 74 36 = 2 := xXm hM 0 rfl
              have m1 : xE E2 74 37 = (v2 7) := xXm hM 1 rfl
              have e74_38 : xE E2 74 38 = xE E 74 38 := xFr_E hfr rfl
              have e74_39 : xE E2 74 39 = xE E 74 39 := xFr_E hfr rfl
              have e74_40 : xE E2 74 40 = xE E 74 40 := xFr_E hfr rfl
              have e74_41 : xE E2 74 41 = xE E 74 41 := xFr_E hfr rfl
              have e74_42 : xE E2 74 42 = xE E 74 42 := xFr_E hfr rfl
              have q74_42 : xE E 74 42 = xE E0 74 42 := xFr_E hFr0 rfl
              have e84 : ∀ i, xE E2 84 i = xE E 84 i := fun i => xFr_E hfr rfl
              have q84 : ∀ i, xE E 84 i = xE E0 84 i := fun i => xFr_E hFr0 rfl
              have hI : E = E0 ∧ (v 1) = x0 0 ∧ (v 2) = x0 1 := hInv
              have q74_36 : xE E 74 36 = xE E0 74 36 := by rw [hI.1]
              have q74_37 : xE E 74 37 = xE E0 74 37 := by rw [hI.1]
              have q74_38 : xE E 74 38 = xE E0 74 38 := by rw [hI.1]
              have q74_39 : xE E 74 39 = xE E0 74 39 := by rw [hI.1]
              have q74_40 : xE E 74 40 = xE E0 74 40 := by rw [hI.1]
              have q74_41 : xE E 74 41 = xE E0 74 41 := by rw [hI.1]
              show xΨtm x0 E0 E2 (v2 8)
              obtain ⟨hE, i1, i2⟩ := hI
              unfold xΨtm
              by_cases c1 : xE E0 74 36 = 0
              · rw [if_pos c1]
                by_cases c2 : xE E0 74 40 = 2
                · rw [if_pos c2]
                  by_cases c3 : x0 0 ≤ xE E0 74 41 ∧ xE E0 74 41 ≤ x0 1
                  · exfalso
                    omega
                  · rw [if_neg c3]
                    first | exact ⟨by omega, by omega⟩ | (exfalso; omega)
                · rw [if_neg c2]
                  by_cases c3 : xE E0 74 40 = 4
                  · rw [if_pos c3]
                    first | exact ⟨by omega, by omega⟩ | (exfalso; omega)
                  · rw [if_neg c3]
                    first | exact ⟨by omega, by omega⟩ | (exfalso; omega)
              · rw [if_neg c1]
                first | exact ⟨by omega, by omega⟩ | (exfalso; omega)
            · skip
              rcases List.mem_cons.mp hx with ex | hx
              · subst ex
                obtain ⟨hF, hBd, hM⟩ := hXs
                have g1 : v2 1 = v 1 := hag 1 (by decide)
                have g2 : v2 2 = v 2 := hag 2 (by decide)
                have g4 : v2 4 = v 4 := hag 4 (by decide)
                have g5 : v2 5 = v 5 := hag 5 (by decide)
                have g6 : v2 6 = v 6 := hag 6 (by decide)
                have g7 : v2 7 = v 7 := hag 7 (by decide)
                have g8 : v2 8 = v 8 := hag 8 (by decide)
                have b0 : ((0 : Nat) : Int) ≤ (v2 1) + 2147483648 ∧ (v2 1) + 2147483648 ≤ ((2147484647 : Nat) : Int) := xXb hBd 0 rfl
                have b1 : ((0 : Nat) : Int) ≤ (v2 2) + 2147483648 ∧ (v2 2) + 2147483648 ≤ ((2147484646 : Nat) : Int) := xXb hBd 1 rfl
                have b2 : ((2147483648 : Nat) : Int) ≤ (v2 4) + 2147483648 ∧ (v2 4) + 2147483648 ≤ ((2147483648 : Nat) : Int) := xXb hBd 2 rfl
                have b3 : ((2147483651 : Nat) : Int) ≤ (v2 6) + 2147483648 ∧ (v2 6) + 2147483648 ≤ ((2147483651 : Nat) : Int) := xXb hBd 3 rfl
                have b4 : ((2147483648 : Nat) : Int) ≤ (v2 7) + 2147483648 ∧ (v2 7) + 2147483648 ≤ ((2147484548 : Nat) : Int) := xXb hBd 4 rfl
                have b5 : ((2147483648 : Nat) : Int) ≤ (v2 8) + 2147483648 ∧ (v2 8) + 2147483648 ≤ ((2147484647 : Nat) : Int) := xXb hBd 5 rfl
                have k0 : xE E 74 36 = v 4 := xKcf hKc 0 rfl rfl
                have k1 : xE E 74 37 = v 5 := xKcf hKc 1 rfl rfl
                have k2 : xE E 74 40 = v 6 := xKcf hKc 2 rfl rfl
                have k3 : xE E 74 38 = v 7 := xKcf hKc 3 rfl rfl
                have k4 : xE E 74 41 = v 8 := xKcf hKc 4 rfl rfl
                have f0 : ¬ (v2 6) = 2 := xXf hF 0 rfl
                have f1 : (v2 4) ≤ 0 := xXf hF 1 rfl
                have f2 : ¬ (v2 6) = 4 := xXf hF 2 rfl
                have f3 : (v2 1) ≤ (v2 8) := xXf hF 3 rfl
                have f4 : (v2 2) < (v2 8) := xXf hF 4 rfl
                have m0 : xE E2 74 36 = 2 := xXm hM 0 rfl
                have m1 : xE E2 74 37 = (v2 7) := xXm hM 1 rfl
                have e74_38 : xE E2 74 38 = xE E 74 38 := xFr_E hfr rfl
                have e74_39 : xE E2 74 39 = xE E 74 39 := xFr_E hfr rfl
                have e74_40 : xE E2 74 40 = xE E 74 40 := xFr_E hfr rfl
                have e74_41 : xE E2 74 41 = xE E 74 41 := xFr_E hfr rfl
                have e74_42 : xE E2 74 42 = xE E 74 42 := xFr_E hfr rfl
                have q74_42 : xE E 74 42 = xE E0 74 42 := xFr_E hFr0 rfl
                have e84 : ∀ i, xE E2 84 i = xE E 84 i := fun i => xFr_E hfr rfl
                have q84 : ∀ i, xE E 84 i = xE E0 84 i := fun i => xFr_E hFr0 rfl
                have hI : E = E0 ∧ (v 1) = x0 0 ∧ (v 2) = x0 1 := hInv
                have q74_36 : xE E 74 36 = xE E0 74 36 := by rw [hI.1]
                have q74_37 : xE E 74 37 = xE E0 74 37 := by rw [hI.1]
                have q74_38 : xE E 74 38 = xE E0 74 38 := by rw [hI.1]
                have q74_39 : xE E 74 39 = xE E0 74 39 := by rw [hI.1]
                have q74_40 : xE E 74 40 = xE E0 74 40 := by rw [hI.1]
                have q74_41 : xE E 74 41 = xE E0 74 41 := by rw [hI.1]
                show xΨtm x0 E0 E2 (v2 8)
                obtain ⟨hE, i1, i2⟩ := hI
                unfold xΨtm
                by_cases c1 : xE E0 74 36 = 0
                · rw [if_pos c1]
                  by_cases c2 : xE E0 74 40 = 2
                  · rw [if_pos c2]
                    by_cases c3 : x0 0 ≤ xE E0 74 41 ∧ xE E0 74 41 ≤ x0 1
                    · exfalso
                      omega
                    · rw [if_neg c3]
                      first | exact ⟨by omega, by omega⟩ | (exfalso; omega)
                  · rw [if_neg c2]
                    by_cases c3 : xE E0 74 40 = 4
                    · rw [if_pos c3]
                      first | exact ⟨by omega, by omega⟩ | (exfalso; omega)
                    · rw [if_neg c3]
                      first | exact ⟨by omega, by omega⟩ | (exfalso; omega)
                · rw [if_neg c1]
                  first | exact ⟨by omega, by omega⟩ | (exfalso; omega)
              · skip
                rcases List.mem_cons.mp hx with ex | hx
                · subst ex
                  obtain ⟨hF, hBd, hM⟩ := hXs
                  have g1 : v2 1 = v 1 := hag 1 (by decide)
                  have g2 : v2 2 = v 2 := hag 2 (by decide)
                  have g4 : v2 4 = v 4 := hag 4 (by decide)
                  have g5 : v2 5 = v 5 := hag 5 (by decide)
                  have g6 : v2 6 = v 6 := hag 6 (by decide)
                  have g7 : v2 7 = v 7 := hag 7 (by decide)
                  have g8 : v2 8 = v 8 := hag 8 (by decide)
                  have b0 : ((0 : Nat) : Int) ≤ (v2 1) + 2147483648 ∧ (v2 1) + 2147483648 ≤ ((2147484647 : Nat) : Int) := xXb hBd 0 rfl
                  have b1 : ((2147483648 : Nat) : Int) ≤ (v2 2) + 2147483648 ∧ (v2 2) + 2147483648 ≤ ((4294967295 : Nat) : Int) := xXb hBd 1 rfl
                  have b2 : ((2147483648 : Nat) : Int) ≤ (v2 4) + 2147483648 ∧ (v2 4) + 2147483648 ≤ ((2147483648 : Nat) : Int) := xXb hBd 2 rfl
                  have b3 : ((2147483651 : Nat) : Int) ≤ (v2 6) + 2147483648 ∧ (v2 6) + 2147483648 ≤ ((2147483651 : Nat) : Int) := xXb hBd 3 rfl
                  have b4 : ((2147483648 : Nat) : Int) ≤ (v2 7) + 2147483648 ∧ (v2 7) + 2147483648 ≤ ((2147484548 : Nat) : Int) := xXb hBd 4 rfl
                  have b5 : ((2147483648 : Nat) : Int) ≤ (v2 8) + 2147483648 ∧ (v2 8) + 2147483648 ≤ ((2147484647 : Nat) : Int) := xXb hBd 5 rfl
                  have k0 : xE E 74 36 = v 4 := xKcf hKc 0 rfl rfl
                  have k1 : xE E 74 37 = v 5 := xKcf hKc 1 rfl rfl
                  have k2 : xE E 74 40 = v 6 := xKcf hKc 2 rfl rfl
                  have k3 : xE E 74 38 = v 7 := xKcf hKc 3 rfl rfl
                  have k4 : xE E 74 41 = v 8 := xKcf hKc 4 rfl rfl
                  have f0 : ¬ (v2 6) = 2 := xXf hF 0 rfl
                  have f1 : (v2 4) ≤ 0 := xXf hF 1 rfl
                  have f2 : ¬ (v2 6) = 4 := xXf hF 2 rfl
                  have f3 : (v2 1) ≤ (v2 8) := xXf hF 3 rfl
                  have f4 : (v2 8) ≤ (v2 2) := xXf hF 4 rfl
                  have m0 : xE E2 74 36 = 2 := xXm hM 0 rfl
                  have m1 : xE E2 74 37 = (v2 7) := xXm hM 1 rfl
                  have e74_38 : xE E2 74 38 = xE E 74 38 := xFr_E hfr rfl
                  have e74_39 : xE E2 74 39 = xE E 74 39 := xFr_E hfr rfl
                  have e74_40 : xE E2 74 40 = xE E 74 40 := xFr_E hfr rfl
                  have e74_41 : xE E2 74 41 = xE E 74 41 := xFr_E hfr rfl
                  have e74_42 : xE E2 74 42 = xE E 74 42 := xFr_E hfr rfl
                  have q74_42 : xE E 74 42 = xE E0 74 42 := xFr_E hFr0 rfl
                  have e84 : ∀ i, xE E2 84 i = xE E 84 i := fun i => xFr_E hfr rfl
                  have q84 : ∀ i, xE E 84 i = xE E0 84 i := fun i => xFr_E hFr0 rfl
                  have hI : E = E0 ∧ (v 1) = x0 0 ∧ (v 2) = x0 1 := hInv
                  have q74_36 : xE E 74 36 = xE E0 74 36 := by rw [hI.1]
                  have q74_37 : xE E 74 37 = xE E0 74 37 := by rw [hI.1]
                  have q74_38 : xE E 74 38 = xE E0 74 38 := by rw [hI.1]
                  have q74_39 : xE E 74 39 = xE E0 74 39 := by rw [hI.1]
                  have q74_40 : xE E 74 40 = xE E0 74 40 := by rw [hI.1]
                  have q74_41 : xE E 74 41 = xE E0 74 41 := by rw [hI.1]
                  show xΨtm x0 E0 E2 (v2 8)
                  obtain ⟨hE, i1, i2⟩ := hI
                  unfold xΨtm
                  by_cases c1 : xE E0 74 36 = 0
                  · rw [if_pos c1]
                    by_cases c2 : xE E0 74 40 = 2
                    · rw [if_pos c2]
                      by_cases c3 : x0 0 ≤ xE E0 74 41 ∧ xE E0 74 41 ≤ x0 1
                      · exfalso
                        omega
                      · rw [if_neg c3]
                        first | exact ⟨by omega, by omega⟩ | (exfalso; omega)
                    · rw [if_neg c2]
                      by_cases c3 : xE E0 74 40 = 4
                      · rw [if_pos c3]
                        first | exact ⟨by omega, by omega⟩ | (exfalso; omega)
                      · rw [if_neg c3]
                        first | exact ⟨by omega, by omega⟩ | (exfalso; omega)
                  · rw [if_neg c1]
                    first | exact ⟨by omega, by omega⟩ | (exfalso; omega)
                · skip
                  rcases List.mem_cons.mp hx with ex | hx
                  · subst ex
                    obtain ⟨hF, hBd, hM⟩ := hXs
                    have g1 : v2 1 = v 1 := hag 1 (by decide)
                    have g2 : v2 2 = v 2 := hag 2 (by decide)
                    have g4 : v2 4 = v 4 := hag 4 (by decide)
                    have g5 : v2 5 = v 5 := hag 5 (by decide)
                    have g6 : v2 6 = v 6 := hag 6 (by decide)
                    have g7 : v2 7 = v 7 := hag 7 (by decide)
                    have g8 : v2 8 = v 8 := hag 8 (by decide)
                    have b0 : ((2147483649 : Nat) : Int) ≤ (v2 1) + 2147483648 ∧ (v2 1) + 2147483648 ≤ ((4294967295 : Nat) : Int) := xXb hBd 0 rfl
                    have b1 : ((2147483648 : Nat) : Int) ≤ (v2 4) + 2147483648 ∧ (v2 4) + 2147483648 ≤ ((2147483648 : Nat) : Int) := xXb hBd 1 rfl
                    have b2 : ((2147483652 : Nat) : Int) ≤ (v2 6) + 2147483648 ∧ (v2 6) + 2147483648 ≤ ((2147483652 : Nat) : Int) := xXb hBd 2 rfl
                    have b3 : ((2147483648 : Nat) : Int) ≤ (v2 7) + 2147483648 ∧ (v2 7) + 2147483648 ≤ ((2147484548 : Nat) : Int) := xXb hBd 3 rfl
                    have b4 : ((2147483648 : Nat) : Int) ≤ (v2 8) + 2147483648 ∧ (v2 8) + 2147483648 ≤ ((2147484647 : Nat) : Int) := xXb hBd 4 rfl
                    have k0 : xE E 74 36 = v 4 := xKcf hKc 0 rfl rfl
                    have k1 : xE E 74 37 = v 5 := xKcf hKc 1 rfl rfl
                    have k2 : xE E 74 40 = v 6 := xKcf hKc 2 rfl rfl
                    have k3 : xE E 74 38 = v 7 := xKcf hKc 3 rfl rfl
                    have k4 : xE E 74 41 = v 8 := xKcf hKc 4 rfl rfl
                    have f0 : ¬ (v2 6) = 2 := xXf hF 0 rfl
                    have f1 : (v2 4) ≤ 0 := xXf hF 1 rfl
                    have f2 : (v2 6) = 4 := xXf hF 2 rfl
                    have f3 : (v2 8) < (v2 1) := xXf hF 3 rfl
                    have m0 : xE E2 74 36 = 1 := xXm hM 0 rfl
                    have m1 : xE E2 74 37 = (v2 7) := xXm hM 1 rfl
                    have e74_38 : xE E2 74 38 = xE E 74 38 := xFr_E hfr rfl
                    have e74_39 : xE E2 74 39 = xE E 74 39 := xFr_E hfr rfl
                    have e74_40 : xE E2 74 40 = xE E 74 40 := xFr_E hfr rfl
                    have e74_41 : xE E2 74 41 = xE E 74 41 := xFr_E hfr rfl
                    have e74_42 : xE E2 74 42 = xE E 74 42 := xFr_E hfr rfl
                    have q74_42 : xE E 74 42 = xE E0 74 42 := xFr_E hFr0 rfl
                    have e84 : ∀ i, xE E2 84 i = xE E 84 i := fun i => xFr_E hfr rfl
                    have q84 : ∀ i, xE E 84 i = xE E0 84 i := fun i => xFr_E hFr0 rfl
                    have hI : E = E0 ∧ (v 1) = x0 0 ∧ (v 2) = x0 1 := hInv
                    have q74_36 : xE E 74 36 = xE E0 74 36 := by rw [hI.1]
                    have q74_37 : xE E 74 37 = xE E0 74 37 := by rw [hI.1]
                    have q74_38 : xE E 74 38 = xE E0 74 38 := by rw [hI.1]
                    have q74_39 : xE E 74 39 = xE E0 74 39 := by rw [hI.1]
                    have q74_40 : xE E 74 40 = xE E0 74 40 := by rw [hI.1]
                    have q74_41 : xE E 74 41 = xE E0 74 41 := by rw [hI.1]
                    show xΨtm x0 E0 E2 (v2 8)
                    obtain ⟨hE, i1, i2⟩ := hI
                    unfold xΨtm
                    by_cases c1 : xE E0 74 36 = 0
                    · rw [if_pos c1]
                      by_cases c2 : xE E0 74 40 = 2
                      · rw [if_pos c2]
                        by_cases c3 : x0 0 ≤ xE E0 74 41 ∧ xE E0 74 41 ≤ x0 1
                        · exfalso
                          omega
                        · rw [if_neg c3]
                          first | exact ⟨by omega, by omega⟩ | (exfalso; omega)
                      · rw [if_neg c2]
                        by_cases c3 : xE E0 74 40 = 4
                        · rw [if_pos c3]
                          first | exact ⟨by omega, by omega⟩ | (exfalso; omega)
                        · rw [if_neg c3]
                          first | exact ⟨by omega, by omega⟩ | (exfalso; omega)
                    · rw [if_neg c1]
                      first | exact ⟨by omega, by omega⟩ | (exfalso; omega)
                  · skip
                    rcases List.mem_cons.mp hx with ex | hx
                    · subst ex
                      obtain ⟨hF, hBd, hM⟩ := hXs
                      have g1 : v2 1 = v 1 := hag 1 (by decide)
                      have g2 : v2 2 = v 2 := hag 2 (by decide)
                      have g4 : v2 4 = v 4 := hag 4 (by decide)
                      have g5 : v2 5 = v 5 := hag 5 (by decide)
                      have g6 : v2 6 = v 6 := hag 6 (by decide)
                      have g7 : v2 7 = v 7 := hag 7 (by decide)
                      have g8 : v2 8 = v 8 := hag 8 (by decide)
                      have b0 : ((0 : Nat) : Int) ≤ (v2 1) + 2147483648 ∧ (v2 1) + 2147483648 ≤ ((2147484647 : Nat) : Int) := xXb hBd 0 rfl
                      have b1 : ((0 : Nat) : Int) ≤ (v2 2) + 2147483648 ∧ (v2 2) + 2147483648 ≤ ((2147484646 : Nat) : Int) := xXb hBd 1 rfl
                      have b2 : ((2147483648 : Nat) : Int) ≤ (v2 4) + 2147483648 ∧ (v2 4) + 2147483648 ≤ ((2147483648 : Nat) : Int) := xXb hBd 2 rfl
                      have b3 : ((2147483652 : Nat) : Int) ≤ (v2 6) + 2147483648 ∧ (v2 6) + 2147483648 ≤ ((2147483652 : Nat) : Int) := xXb hBd 3 rfl
                      have b4 : ((2147483648 : Nat) : Int) ≤ (v2 7) + 2147483648 ∧ (v2 7) + 2147483648 ≤ ((2147484548 : Nat) : Int) := xXb hBd 4 rfl
                      have b5 : ((2147483648 : Nat) : Int) ≤ (v2 8) + 2147483648 ∧ (v2 8) + 2147483648 ≤ ((2147484647 : Nat) : Int) := xXb hBd 5 rfl
                      have k0 : xE E 74 36 = v 4 := xKcf hKc 0 rfl rfl
                      have k1 : xE E 74 37 = v 5 := xKcf hKc 1 rfl rfl
                      have k2 : xE E 74 40 = v 6 := xKcf hKc 2 rfl rfl
                      have k3 : xE E 74 38 = v 7 := xKcf hKc 3 rfl rfl
                      have k4 : xE E 74 41 = v 8 := xKcf hKc 4 rfl rfl
                      have f0 : ¬ (v2 6) = 2 := xXf hF 0 rfl
                      have f1 : (v2 4) ≤ 0 := xXf hF 1 rfl
                      have f2 : (v2 6) = 4 := xXf hF 2 rfl
                      have f3 : (v2 1) ≤ (v2 8) := xXf hF 3 rfl
                      have f4 : (v2 2) < (v2 8) := xXf hF 4 rfl
                      have m0 : xE E2 74 36 = 1 := xXm hM 0 rfl
                      have m1 : xE E2 74 37 = (v2 7) := xXm hM 1 rfl
                      have e74_38 : xE E2 74 38 = xE E 74 38 := xFr_E hfr rfl
                      have e74_39 : xE E2 74 39 = xE E 74 39 := xFr_E hfr rfl
                      have e74_40 : xE E2 74 40 = xE E 74 40 := xFr_E hfr rfl
                      have e74_41 : xE E2 74 41 = xE E 74 41 := xFr_E hfr rfl
                      have e74_42 : xE E2 74 42 = xE E 74 42 := xFr_E hfr rfl
                      have q74_42 : xE E 74 42 = xE E0 74 42 := xFr_E hFr0 rfl
                      have e84 : ∀ i, xE E2 84 i = xE E 84 i := fun i => xFr_E hfr rfl
                      have q84 : ∀ i, xE E 84 i = xE E0 84 i := fun i => xFr_E hFr0 rfl
                      have hI : E = E0 ∧ (v 1) = x0 0 ∧ (v 2) = x0 1 := hInv
                      have q74_36 : xE E 74 36 = xE E0 74 36 := by rw [hI.1]
                      have q74_37 : xE E 74 37 = xE E0 74 37 := by rw [hI.1]
                      have q74_38 : xE E 74 38 = xE E0 74 38 := by rw [hI.1]
                      have q74_39 : xE E 74 39 = xE E0 74 39 := by rw [hI.1]
                      have q74_40 : xE E 74 40 = xE E0 74 40 := by rw [hI.1]
                      have q74_41 : xE E 74 41 = xE E0 74 41 := by rw [hI.1]
                      show xΨtm x0 E0 E2 (v2 8)
                      obtain ⟨hE, i1, i2⟩ := hI
                      unfold xΨtm
                      by_cases c1 : xE E0 74 36 = 0
                      · rw [if_pos c1]
                        by_cases c2 : xE E0 74 40 = 2
                        · rw [if_pos c2]
                          by_cases c3 : x0 0 ≤ xE E0 74 41 ∧ xE E0 74 41 ≤ x0 1
                          · exfalso
                            omega
                          · rw [if_neg c3]
                            first | exact ⟨by omega, by omega⟩ | (exfalso; omega)
                        · rw [if_neg c2]
                          by_cases c3 : xE E0 74 40 = 4
                          · rw [if_pos c3]
                            first | exact ⟨by omega, by omega⟩ | (exfalso; omega)
                          · rw [if_neg c3]
                            first | exact ⟨by omega, by omega⟩ | (exfalso; omega)
                      · rw [if_neg c1]
                        first | exact ⟨by omega, by omega⟩ | (exfalso; omega)
                    · skip
                      rcases List.mem_cons.mp hx with ex | hx
                      · subst ex
                        obtain ⟨hF, hBd, hM⟩ := hXs
                        have g1 : v2 1 = v 1 := hag 1 (by decide)
                        have g2 : v2 2 = v 2 := hag 2 (by decide)
                        have g4 : v2 4 = v 4 := hag 4 (by decide)
                        have g5 : v2 5 = v 5 := hag 5 (by decide)
                        have g6 : v2 6 = v 6 := hag 6 (by decide)
                        have g7 : v2 7 = v 7 := hag 7 (by decide)
                        have g8 : v2 8 = v 8 := hag 8 (by decide)
                        have b0 : ((0 : Nat) : Int) ≤ (v2 1) + 2147483648 ∧ (v2 1) + 2147483648 ≤ ((2147484647 : Nat) : Int) := xXb hBd 0 rfl
                        have b1 : ((2147483648 : Nat) : Int) ≤ (v2 2) + 2147483648 ∧ (v2 2) + 2147483648 ≤ ((4294967295 : Nat) : Int) := xXb hBd 1 rfl
                        have b2 : ((2147483648 : Nat) : Int) ≤ (v2 4) + 2147483648 ∧ (v2 4) + 2147483648 ≤ ((2147483648 : Nat) : Int) := xXb hBd 2 rfl
                        have b3 : ((2147483652 : Nat) : Int) ≤ (v2 6) + 2147483648 ∧ (v2 6) + 2147483648 ≤ ((2147483652 : Nat) : Int) := xXb hBd 3 rfl
                        have b4 : ((2147483648 : Nat) : Int) ≤ (v2 7) + 2147483648 ∧ (v2 7) + 2147483648 ≤ ((2147484548 : Nat) : Int) := xXb hBd 4 rfl
                        have b5 : ((2147483648 : Nat) : Int) ≤ (v2 8) + 2147483648 ∧ (v2 8) + 2147483648 ≤ ((2147484647 : Nat) : Int) := xXb hBd 5 rfl
                        have k0 : xE E 74 36 = v 4 := xKcf hKc 0 rfl rfl
                        have k1 : xE E 74 37 = v 5 := xKcf hKc 1 rfl rfl
                        have k2 : xE E 74 40 = v 6 := xKcf hKc 2 rfl rfl
                        have k3 : xE E 74 38 = v 7 := xKcf hKc 3 rfl rfl
                        have k4 : xE E 74 41 = v 8 := xKcf hKc 4 rfl rfl
                        have f0 : ¬ (v2 6) = 2 := xXf hF 0 rfl
                        have f1 : (v2 4) ≤ 0 := xXf hF 1 rfl
                        have f2 : (v2 6) = 4 := xXf hF 2 rfl
                        have f3 : (v2 1) ≤ (v2 8) := xXf hF 3 rfl
                        have f4 : (v2 8) ≤ (v2 2) := xXf hF 4 rfl
                        have m0 : xE E2 74 36 = 1 := xXm hM 0 rfl
                        have m1 : xE E2 74 37 = (v2 7) := xXm hM 1 rfl
                        have e74_38 : xE E2 74 38 = xE E 74 38 := xFr_E hfr rfl
                        have e74_39 : xE E2 74 39 = xE E 74 39 := xFr_E hfr rfl
                        have e74_40 : xE E2 74 40 = xE E 74 40 := xFr_E hfr rfl
                        have e74_41 : xE E2 74 41 = xE E 74 41 := xFr_E hfr rfl
                        have e74_42 : xE E2 74 42 = xE E 74 42 := xFr_E hfr rfl
                        have q74_42 : xE E 74 42 = xE E0 74 42 := xFr_E hFr0 rfl
                        have e84 : ∀ i, xE E2 84 i = xE E 84 i := fun i => xFr_E hfr rfl
                        have q84 : ∀ i, xE E 84 i = xE E0 84 i := fun i => xFr_E hFr0 rfl
                        have hI : E = E0 ∧ (v 1) = x0 0 ∧ (v 2) = x0 1 := hInv
                        have q74_36 : xE E 74 36 = xE E0 74 36 := by rw [hI.1]
                        have q74_37 : xE E 74 37 = xE E0 74 37 := by rw [hI.1]
                        have q74_38 : xE E 74 38 = xE E0 74 38 := by rw [hI.1]
                        have q74_39 : xE E 74 39 = xE E0 74 39 := by rw [hI.1]
                        have q74_40 : xE E 74 40 = xE E0 74 40 := by rw [hI.1]
                        have q74_41 : xE E 74 41 = xE E0 74 41 := by rw [hI.1]
                        show xΨtm x0 E0 E2 (v2 8)
                        obtain ⟨hE, i1, i2⟩ := hI
                        unfold xΨtm
                        by_cases c1 : xE E0 74 36 = 0
                        · rw [if_pos c1]
                          by_cases c2 : xE E0 74 40 = 2
                          · rw [if_pos c2]
                            by_cases c3 : x0 0 ≤ xE E0 74 41 ∧ xE E0 74 41 ≤ x0 1
                            · exfalso
                              omega
                            · rw [if_neg c3]
                              first | exact ⟨by omega, by omega⟩ | (exfalso; omega)
                          · rw [if_neg c2]
                            by_cases c3 : xE E0 74 40 = 4
                            · rw [if_pos c3]
                              first | exact ⟨by omega, by omega⟩ | (exfalso; omega)
                            · rw [if_neg c3]
                              first | exact ⟨by omega, by omega⟩ | (exfalso; omega)
                        · rw [if_neg c1]
                          first | exact ⟨by omega, by omega⟩ | (exfalso; omega)
                      · skip
                        rcases List.mem_cons.mp hx with ex | hx
                        · subst ex
                          obtain ⟨hF, hBd, hM⟩ := hXs
                          have r5 := hr2 5
                          have g1 : v2 1 = v 1 := hag 1 (by decide)
                          have g2 : v2 2 = v 2 := hag 2 (by decide)
                          have g4 : v2 4 = v 4 := hag 4 (by decide)
                          have g5 : v2 5 = v 5 := hag 5 (by decide)
                          have g6 : v2 6 = v 6 := hag 6 (by decide)
                          have g7 : v2 7 = v 7 := hag 7 (by decide)
                          have g8 : v2 8 = v 8 := hag 8 (by decide)
                          have b0 : ((2147483649 : Nat) : Int) ≤ (v2 1) + 2147483648 ∧ (v2 1) + 2147483648 ≤ ((4294967295 : Nat) : Int) := xXb hBd 0 rfl
                          have b1 : ((2147483649 : Nat) : Int) ≤ (v2 4) + 2147483648 ∧ (v2 4) + 2147483648 ≤ ((2147483657 : Nat) : Int) := xXb hBd 1 rfl
                          have b2 : ((2147483648 : Nat) : Int) ≤ (v2 6) + 2147483648 ∧ (v2 6) + 2147483648 ≤ ((2147483649 : Nat) : Int) := xXb hBd 2 rfl
                          have b3 : ((2147483648 : Nat) : Int) ≤ (v2 8) + 2147483648 ∧ (v2 8) + 2147483648 ≤ ((2147484647 : Nat) : Int) := xXb hBd 3 rfl
                          have k0 : xE E 74 36 = v 4 := xKcf hKc 0 rfl rfl
                          have k1 : xE E 74 37 = v 5 := xKcf hKc 1 rfl rfl
                          have k2 : xE E 74 40 = v 6 := xKcf hKc 2 rfl rfl
                          have k3 : xE E 74 38 = v 7 := xKcf hKc 3 rfl rfl
                          have k4 : xE E 74 41 = v 8 := xKcf hKc 4 rfl rfl
                          have f0 : ¬ (v2 6) = 2 := xXf hF 0 rfl
                          have f1 : 0 < (v2 4) := xXf hF 1 rfl
                          have f2 : (v2 8) < (v2 1) := xXf hF 2 rfl
                          have f3 : 0 < (v2 4) := xXf hF 3 rfl
                          have f4 : ¬ (v2 4) = 0 := xXf hF 4 rfl
                          have m0 : xE E2 74 36 = (v2 4) := xXm hM 0 rfl
                          have m1 : xE E2 74 37 = (v2 5) := xXm hM 1 rfl
                          have e74_38 : xE E2 74 38 = xE E 74 38 := xFr_E hfr rfl
                          have e74_39 : xE E2 74 39 = xE E 74 39 := xFr_E hfr rfl
                          have e74_40 : xE E2 74 40 = xE E 74 40 := xFr_E hfr rfl
                          have e74_41 : xE E2 74 41 = xE E 74 41 := xFr_E hfr rfl
                          have e74_42 : xE E2 74 42 = xE E 74 42 := xFr_E hfr rfl
                          have q74_42 : xE E 74 42 = xE E0 74 42 := xFr_E hFr0 rfl
                          have e84 : ∀ i, xE E2 84 i = xE E 84 i := fun i => xFr_E hfr rfl
                          have q84 : ∀ i, xE E 84 i = xE E0 84 i := fun i => xFr_E hFr0 rfl
                          have hI : E = E0 ∧ (v 1) = x0 0 ∧ (v 2) = x0 1 := hInv
                          have q74_36 : xE E 74 36 = xE E0 74 36 := by rw [hI.1]
                          have q74_37 : xE E 74 37 = xE E0 74 37 := by rw [hI.1]
                          have q74_38 : xE E 74 38 = xE E0 74 38 := by rw [hI.1]
                          have q74_39 : xE E 74 39 = xE E0 74 39 := by rw [hI.1]
                          have q74_40 : xE E 74 40 = xE E0 74 40 := by rw [hI.1]
                          have q74_41 : xE E 74 41 = xE E0 74 41 := by rw [hI.1]
                          show xΨtm x0 E0 E2 (v2 8)
                          obtain ⟨hE, i1, i2⟩ := hI
                          unfold xΨtm
                          by_cases c1 : xE E0 74 36 = 0
                          · rw [if_pos c1]
                            by_cases c2 : xE E0 74 40 = 2
                            · rw [if_pos c2]
                              by_cases c3 : x0 0 ≤ xE E0 74 41 ∧ xE E0 74 41 ≤ x0 1
                              · exfalso
                                omega
                              · rw [if_neg c3]
                                first | exact ⟨by omega, by omega⟩ | (exfalso; omega)
                            · rw [if_neg c2]
                              by_cases c3 : xE E0 74 40 = 4
                              · rw [if_pos c3]
                                first | exact ⟨by omega, by omega⟩ | (exfalso; omega)
                              · rw [if_neg c3]
                                first | exact ⟨by omega, by omega⟩ | (exfalso; omega)
                          · rw [if_neg c1]
                            first | exact ⟨by omega, by omega⟩ | (exfalso; omega)
                        · skip
                          rcases List.mem_cons.mp hx with ex | hx
                          · subst ex
                            obtain ⟨hF, hBd, hM⟩ := hXs
                            have r5 := hr2 5
                            have g1 : v2 1 = v 1 := hag 1 (by decide)
                            have g2 : v2 2 = v 2 := hag 2 (by decide)
                            have g4 : v2 4 = v 4 := hag 4 (by decide)
                            have g5 : v2 5 = v 5 := hag 5 (by decide)
                            have g6 : v2 6 = v 6 := hag 6 (by decide)
                            have g7 : v2 7 = v 7 := hag 7 (by decide)
                            have g8 : v2 8 = v 8 := hag 8 (by decide)
                            have b0 : ((0 : Nat) : Int) ≤ (v2 1) + 2147483648 ∧ (v2 1) + 2147483648 ≤ ((2147484647 : Nat) : Int) := xXb hBd 0 rfl
                            have b1 : ((0 : Nat) : Int) ≤ (v2 2) + 2147483648 ∧ (v2 2) + 2147483648 ≤ ((2147484646 : Nat) : Int) := xXb hBd 1 rfl
                            have b2 : ((2147483649 : Nat) : Int) ≤ (v2 4) + 2147483648 ∧ (v2 4) + 2147483648 ≤ ((2147483657 : Nat) : Int) := xXb hBd 2 rfl
                            have b3 : ((2147483648 : Nat) : Int) ≤ (v2 6) + 2147483648 ∧ (v2 6) + 2147483648 ≤ ((2147483649 : Nat) : Int) := xXb hBd 3 rfl
                            have b4 : ((2147483648 : Nat) : Int) ≤ (v2 8) + 2147483648 ∧ (v2 8) + 2147483648 ≤ ((2147484647 : Nat) : Int) := xXb hBd 4 rfl
                            have k0 : xE E 74 36 = v 4 := xKcf hKc 0 rfl rfl
                            have k1 : xE E 74 37 = v 5 := xKcf hKc 1 rfl rfl
                            have k2 : xE E 74 40 = v 6 := xKcf hKc 2 rfl rfl
                            have k3 : xE E 74 38 = v 7 := xKcf hKc 3 rfl rfl
                            have k4 : xE E 74 41 = v 8 := xKcf hKc 4 rfl rfl
                            have f0 : ¬ (v2 6) = 2 := xXf hF 0 rfl
                            have f1 : 0 < (v2 4) := xXf hF 1 rfl
                            have f2 : (v2 1) ≤ (v2 8) := xXf hF 2 rfl
                            have f3 : (v2 2) < (v2 8) := xXf hF 3 rfl
                            have f4 : 0 < (v2 4) := xXf hF 4 rfl
                            have f5 : ¬ (v2 4) = 0 := xXf hF 5 rfl
                            have m0 : xE E2 74 36 = (v2 4) := xXm hM 0 rfl
                            have m1 : xE E2 74 37 = (v2 5) := xXm hM 1 rfl
                            have e74_38 : xE E2 74 38 = xE E 74 38 := xFr_E hfr rfl
                            have e74_39 : xE E2 74 39 = xE E 74 39 := xFr_E hfr rfl
                            have e74_40 : xE E2 74 40 = xE E 74 40 := xFr_E hfr rfl
                            have e74_41 : xE E2 74 41 = xE E 74 41 := xFr_E hfr rfl
                            have e74_42 : xE E2 74 42 = xE E 74 42 := xFr_E hfr rfl
                            have q74_42 : xE E 74 42 = xE E0 74 42 := xFr_E hFr0 rfl
                            have e84 : ∀ i, xE E2 84 i = xE E 84 i := fun i => xFr_E hfr rfl
                            have q84 : ∀ i, xE E 84 i = xE E0 84 i := fun i => xFr_E hFr0 rfl
                            have hI : E = E0 ∧ (v 1) = x0 0 ∧ (v 2) = x0 1 := hInv
                            have q74_36 : xE E 74 36 = xE E0 74 36 := by rw [hI.1]
                            have q74_37 : xE E 74 37 = xE E0 74 37 := by rw [hI.1]
                            have q74_38 : xE E 74 38 = xE E0 74 38 := by rw [hI.1]
                            have q74_39 : xE E 74 39 = xE E0 74 39 := by rw [hI.1]
                            have q74_40 : xE E 74 40 = xE E0 74 40 := by rw [hI.1]
                            have q74_41 : xE E 74 41 = xE E0 74 41 := by rw [hI.1]
                            show xΨtm x0 E0 E2 (v2 8)
                            obtain ⟨hE, i1, i2⟩ := hI
                            unfold xΨtm
                            by_cases c1 : xE E0 74 36 = 0
                            · rw [if_pos c1]
                              by_cases c2 : xE E0 74 40 = 2
                              · rw [if_pos c2]
                                by_cases c3 : x0 0 ≤ xE E0 74 41 ∧ xE E0 74 41 ≤ x0 1
                                · exfalso
                                  omega
                                · rw [if_neg c3]
                                  first | exact ⟨by omega, by omega⟩ | (exfalso; omega)
                              · rw [if_neg c2]
                                by_cases c3 : xE E0 74 40 = 4
                                · rw [if_pos c3]
                                  first | exact ⟨by omega, by omega⟩ | (exfalso; omega)
                                · rw [if_neg c3]
                                  first | exact ⟨by omega, by omega⟩ | (exfalso; omega)
                            · rw [if_neg c1]
                              first | exact ⟨by omega, by omega⟩ | (exfalso; omega)
                          · skip
                            rcases List.mem_cons.mp hx with ex | hx
                            · subst ex
                              obtain ⟨hF, hBd, hM⟩ := hXs
                              have r5 := hr2 5
                              have g1 : v2 1 = v 1 := hag 1 (by decide)
                              have g2 : v2 2 = v 2 := hag 2 (by decide)
                              have g4 : v2 4 = v 4 := hag 4 (by decide)
                              have g5 : v2 5 = v 5 := hag 5 (by decide)
                              have g6 : v2 6 = v 6 := hag 6 (by decide)
                              have g7 : v2 7 = v 7 := hag 7 (by decide)
                              have g8 : v2 8 = v 8 := hag 8 (by decide)
                              have b0 : ((0 : Nat) : Int) ≤ (v2 1) + 2147483648 ∧ (v2 1) + 2147483648 ≤ ((2147484647 : Nat) : Int) := xXb hBd 0 rfl
                              have b1 : ((2147483648 : Nat) : Int) ≤ (v2 2) + 2147483648 ∧ (v2 2) + 2147483648 ≤ ((4294967295 : Nat) : Int) := xXb hBd 1 rfl
                              have b2 : ((2147483649 : Nat) : Int) ≤ (v2 4) + 2147483648 ∧ (v2 4) + 2147483648 ≤ ((2147483657 : Nat) : Int) := xXb hBd 2 rfl
                              have b3 : ((2147483648 : Nat) : Int) ≤ (v2 6) + 2147483648 ∧ (v2 6) + 2147483648 ≤ ((2147483649 : Nat) : Int) := xXb hBd 3 rfl
                              have b4 : ((2147483648 : Nat) : Int) ≤ (v2 8) + 2147483648 ∧ (v2 8) + 2147483648 ≤ ((2147484647 : Nat) : Int) := xXb hBd 4 rfl
                              have k0 : xE E 74 36 = v 4 := xKcf hKc 0 rfl rfl
                              have k1 : xE E 74 37 = v 5 := xKcf hKc 1 rfl rfl
                              have k2 : xE E 74 40 = v 6 := xKcf hKc 2 rfl rfl
                              have k3 : xE E 74 38 = v 7 := xKcf hKc 3 rfl rfl
                              have k4 : xE E 74 41 = v 8 := xKcf hKc 4 rfl rfl
                              have f0 : ¬ (v2 6) = 2 := xXf hF 0 rfl
                              have f1 : 0 < (v2 4) := xXf hF 1 rfl
                              have f2 : (v2 1) ≤ (v2 8) := xXf hF 2 rfl
                              have f3 : (v2 8) ≤ (v2 2) := xXf hF 3 rfl
                              have f4 : ¬ (v2 4) = 0 := xXf hF 4 rfl
                              have m0 : xE E2 74 36 = (v2 4) := xXm hM 0 rfl
                              have m1 : xE E2 74 37 = (v2 5) := xXm hM 1 rfl
                              have e74_38 : xE E2 74 38 = xE E 74 38 := xFr_E hfr rfl
                              have e74_39 : xE E2 74 39 = xE E 74 39 := xFr_E hfr rfl
                              have e74_40 : xE E2 74 40 = xE E 74 40 := xFr_E hfr rfl
                              have e74_41 : xE E2 74 41 = xE E 74 41 := xFr_E hfr rfl
                              have e74_42 : xE E2 74 42 = xE E 74 42 := xFr_E hfr rfl
                              have q74_42 : xE E 74 42 = xE E0 74 42 := xFr_E hFr0 rfl
                              have e84 : ∀ i, xE E2 84 i = xE E 84 i := fun i => xFr_E hfr rfl
                              have q84 : ∀ i, xE E 84 i = xE E0 84 i := fun i => xFr_E hFr0 rfl
                              have hI : E = E0 ∧ (v 1) = x0 0 ∧ (v 2) = x0 1 := hInv
                              have q74_36 : xE E 74 36 = xE E0 74 36 := by rw [hI.1]
                              have q74_37 : xE E 74 37 = xE E0 74 37 := by rw [hI.1]
                              have q74_38 : xE E 74 38 = xE E0 74 38 := by rw [hI.1]
                              have q74_39 : xE E 74 39 = xE E0 74 39 := by rw [hI.1]
                              have q74_40 : xE E 74 40 = xE E0 74 40 := by rw [hI.1]
                              have q74_41 : xE E 74 41 = xE E0 74 41 := by rw [hI.1]
                              show xΨtm x0 E0 E2 (v2 8)
                              obtain ⟨hE, i1, i2⟩ := hI
                              unfold xΨtm
                              by_cases c1 : xE E0 74 36 = 0
                              · rw [if_pos c1]
                                by_cases c2 : xE E0 74 40 = 2
                                · rw [if_pos c2]
                                  by_cases c3 : x0 0 ≤ xE E0 74 41 ∧ xE E0 74 41 ≤ x0 1
                                  · exfalso
                                    omega
                                  · rw [if_neg c3]
                                    first | exact ⟨by omega, by omega⟩ | (exfalso; omega)
                                · rw [if_neg c2]
                                  by_cases c3 : xE E0 74 40 = 4
                                  · rw [if_pos c3]
                                    first | exact ⟨by omega, by omega⟩ | (exfalso; omega)
                                  · rw [if_neg c3]
                                    first | exact ⟨by omega, by omega⟩ | (exfalso; omega)
                              · rw [if_neg c1]
                                first | exact ⟨by omega, by omega⟩ | (exfalso; omega)
                            · skip
                              rcases List.mem_cons.mp hx with ex | hx
                              · subst ex
                                obtain ⟨hF, hBd, hM⟩ := hXs
                                have g1 : v2 1 = v 1 := hag 1 (by decide)
                                have g2 : v2 2 = v 2 := hag 2 (by decide)
                                have g4 : v2 4 = v 4 := hag 4 (by decide)
                                have g5 : v2 5 = v 5 := hag 5 (by decide)
                                have g6 : v2 6 = v 6 := hag 6 (by decide)
                                have g7 : v2 7 = v 7 := hag 7 (by decide)
                                have g8 : v2 8 = v 8 := hag 8 (by decide)
                                have b0 : ((2147483649 : Nat) : Int) ≤ (v2 1) + 2147483648 ∧ (v2 1) + 2147483648 ≤ ((4294967295 : Nat) : Int) := xXb hBd 0 rfl
                                have b1 : ((2147483648 : Nat) : Int) ≤ (v2 4) + 2147483648 ∧ (v2 4) + 2147483648 ≤ ((2147483648 : Nat) : Int) := xXb hBd 1 rfl
                                have b2 : ((2147483648 : Nat) : Int) ≤ (v2 6) + 2147483648 ∧ (v2 6) + 2147483648 ≤ ((2147483649 : Nat) : Int) := xXb hBd 2 rfl
                                have b3 : ((2147483648 : Nat) : Int) ≤ (v2 7) + 2147483648 ∧ (v2 7) + 2147483648 ≤ ((2147484548 : Nat) : Int) := xXb hBd 3 rfl
                                have b4 : ((2147483648 : Nat) : Int) ≤ (v2 8) + 2147483648 ∧ (v2 8) + 2147483648 ≤ ((2147484647 : Nat) : Int) := xXb hBd 4 rfl
                                have k0 : xE E 74 36 = v 4 := xKcf hKc 0 rfl rfl
                                have k1 : xE E 74 37 = v 5 := xKcf hKc 1 rfl rfl
                                have k2 : xE E 74 40 = v 6 := xKcf hKc 2 rfl rfl
                                have k3 : xE E 74 38 = v 7 := xKcf hKc 3 rfl rfl
                                have k4 : xE E 74 41 = v 8 := xKcf hKc 4 rfl rfl
                                have f0 : ¬ (v2 6) = 2 := xXf hF 0 rfl
                                have f1 : (v2 4) ≤ 0 := xXf hF 1 rfl
                                have f2 : ¬ (v2 6) = 4 := xXf hF 2 rfl
                                have f3 : (v2 8) < (v2 1) := xXf hF 3 rfl
                                have m0 : xE E2 74 36 = 2 := xXm hM 0 rfl
                                have m1 : xE E2 74 37 = (v2 7) := xXm hM 1 rfl
                                have e74_38 : xE E2 74 38 = xE E 74 38 := xFr_E hfr rfl
                                have e74_39 : xE E2 74 39 = xE E 74 39 := xFr_E hfr rfl
                                have e74_40 : xE E2 74 40 = xE E 74 40 := xFr_E hfr rfl
                                have e74_41 : xE E2 74 41 = xE E 74 41 := xFr_E hfr rfl
                                have e74_42 : xE E2 74 42 = xE E 74 42 := xFr_E hfr rfl
                                have q74_42 : xE E 74 42 = xE E0 74 42 := xFr_E hFr0 rfl
                                have e84 : ∀ i, xE E2 84 i = xE E 84 i := fun i => xFr_E hfr rfl
                                have q84 : ∀ i, xE E 84 i = xE E0 84 i := fun i => xFr_E hFr0 rfl
                                have hI : E = E0 ∧ (v 1) = x0 0 ∧ (v 2) = x0 1 := hInv
                                have q74_36 : xE E 74 36 = xE E0 74 36 := by rw [hI.1]
                                have q74_37 : xE E 74 37 = xE E0 74 37 := by rw [hI.1]
                                have q74_38 : xE E 74 38 = xE E0 74 38 := by rw [hI.1]
                                have q74_39 : xE E 74 39 = xE E0 74 39 := by rw [hI.1]
                                have q74_40 : xE E 74 40 = xE E0 74 40 := by rw [hI.1]
                                have q74_41 : xE E 74 41 = xE E0 74 41 := by rw [hI.1]
                                show xΨtm x0 E0 E2 (v2 8)
                                obtain ⟨hE, i1, i2⟩ := hI
                                unfold xΨtm
                                by_cases c1 : xE E0 74 36 = 0
                                · rw [if_pos c1]
                                  by_cases c2 : xE E0 74 40 = 2
                                  · rw [if_pos c2]
                                    by_cases c3 : x0 0 ≤ xE E0 74 41 ∧ xE E0 74 41 ≤ x0 1
                                    · exfalso
                                      omega
                                    · rw [if_neg c3]
                                      first | exact ⟨by omega, by omega⟩ | (exfalso; omega)
                                  · rw [if_neg c2]
                                    by_cases c3 : xE E0 74 40 = 4
                                    · rw [if_pos c3]
                                      first | exact ⟨by omega, by omega⟩ | (exfalso; omega)
                                    · rw [if_neg c3]
                                      first | exact ⟨by omega, by omega⟩ | (exfalso; omega)
                                · rw [if_neg c1]
                                  first | exact ⟨by omega, by omega⟩ | (exfalso; omega)
                              · skip
                                rcases List.mem_cons.mp hx with ex | hx
                                · subst ex
                                  obtain ⟨hF, hBd, hM⟩ := hXs
                                  have g1 : v2 1 = v 1 := hag 1 (by decide)
                                  have g2 : v2 2 = v 2 := hag 2 (by decide)
                                  have g4 : v2 4 = v 4 := hag 4 (by decide)
                                  have g5 : v2 5 = v 5 := hag 5 (by decide)
                                  have g6 : v2 6 = v 6 := hag 6 (by decide)
                                  have g7 : v2 7 = v 7 := hag 7 (by decide)
                                  have g8 : v2 8 = v 8 := hag 8 (by decide)
                                  have b0 : ((0 : Nat) : Int) ≤ (v2 1) + 2147483648 ∧ (v2 1) + 2147483648 ≤ ((2147484647 : Nat) : Int) := xXb hBd 0 rfl
                                  have b1 : ((0 : Nat) : Int) ≤ (v2 2) + 2147483648 ∧ (v2 2) + 2147483648 ≤ ((2147484646 : Nat) : Int) := xXb hBd 1 rfl
                                  have b2 : ((2147483648 : Nat) : Int) ≤ (v2 4) + 2147483648 ∧ (v2 4) + 2147483648 ≤ ((2147483648 : Nat) : Int) := xXb hBd 2 rfl
                                  have b3 : ((2147483648 : Nat) : Int) ≤ (v2 6) + 2147483648 ∧ (v2 6) + 2147483648 ≤ ((2147483649 : Nat) : Int) := xXb hBd 3 rfl
                                  have b4 : ((2147483648 : Nat) : Int) ≤ (v2 7) + 2147483648 ∧ (v2 7) + 2147483648 ≤ ((2147484548 : Nat) : Int) := xXb hBd 4 rfl
                                  have b5 : ((2147483648 : Nat) : Int) ≤ (v2 8) + 2147483648 ∧ (v2 8) + 2147483648 ≤ ((2147484647 : Nat) : Int) := xXb hBd 5 rfl
                                  have k0 : xE E 74 36 = v 4 := xKcf hKc 0 rfl rfl
                                  have k1 : xE E 74 37 = v 5 := xKcf hKc 1 rfl rfl
                                  have k2 : xE E 74 40 = v 6 := xKcf hKc 2 rfl rfl
                                  have k3 : xE E 74 38 = v 7 := xKcf hKc 3 rfl rfl
                                  have k4 : xE E 74 41 = v 8 := xKcf hKc 4 rfl rfl
                                  have f0 : ¬ (v2 6) = 2 := xXf hF 0 rfl
                                  have f1 : (v2 4) ≤ 0 := xXf hF 1 rfl
                                  have f2 : ¬ (v2 6) = 4 := xXf hF 2 rfl
                                  have f3 : (v2 1) ≤ (v2 8) := xXf hF 3 rfl
                                  have f4 : (v2 2) < (v2 8) := xXf hF 4 rfl
                                  have m0 : xE E2 74 36 = 2 := xXm hM 0 rfl
                                  have m1 : xE E2 74 37 = (v2 7) := xXm hM 1 rfl
                                  have e74_38 : xE E2 74 38 = xE E 74 38 := xFr_E hfr rfl
                                  have e74_39 : xE E2 74 39 = xE E 74 39 := xFr_E hfr rfl
                                  have e74_40 : xE E2 74 40 = xE E 74 40 := xFr_E hfr rfl
                                  have e74_41 : xE E2 74 41 = xE E 74 41 := xFr_E hfr rfl
                                  have e74_42 : xE E2 74 42 = xE E 74 42 := xFr_E hfr rfl
                                  have q74_42 : xE E 74 42 = xE E0 74 42 := xFr_E hFr0 rfl
                                  have e84 : ∀ i, xE E2 84 i = xE E 84 i := fun i => xFr_E hfr rfl
                                  have q84 : ∀ i, xE E 84 i = xE E0 84 i := fun i => xFr_E hFr0 rfl
                                  have hI : E = E0 ∧ (v 1) = x0 0 ∧ (v 2) = x0 1 := hInv
                                  have q74_36 : xE E 74 36 = xE E0 74 36 := by rw [hI.1]
                                  have q74_37 : xE E 74 37 = xE E0 74 37 := by rw [hI.1]
                                  have q74_38 : xE E 74 38 = xE E0 74 38 := by rw [hI.1]
                                  have q74_39 : xE E 74 39 = xE E0 74 39 := by rw [hI.1]
                                  have q74_40 : xE E 74 40 = xE E0 74 40 := by rw [hI.1]
                                  have q74_41 : xE E 74 41 = xE E0 74 41 := by rw [hI.1]
                                  show xΨtm x0 E0 E2 (v2 8)
                                  obtain ⟨hE, i1, i2⟩ := hI
                                  unfold xΨtm
                                  by_cases c1 : xE E0 74 36 = 0
                                  · rw [if_pos c1]
                                    by_cases c2 : xE E0 74 40 = 2
                                    · rw [if_pos c2]
                                      by_cases c3 : x0 0 ≤ xE E0 74 41 ∧ xE E0 74 41 ≤ x0 1
                                      · exfalso
                                        omega
                                      · rw [if_neg c3]
                                        first | exact ⟨by omega, by omega⟩ | (exfalso; omega)
                                    · rw [if_neg c2]
                                      by_cases c3 : xE E0 74 40 = 4
                                      · rw [if_pos c3]
                                        first | exact ⟨by omega, by omega⟩ | (exfalso; omega)
                                      · rw [if_neg c3]
                                        first | exact ⟨by omega, by omega⟩ | (exfalso; omega)
                                  · rw [if_neg c1]
                                    first | exact ⟨by omega, by omega⟩ | (exfalso; omega)
                                · skip
                                  rcases List.mem_cons.mp hx with ex | hx
                                  · subst ex
                                    obtain ⟨hF, hBd, hM⟩ := hXs
                                    have g1 : v2 1 = v 1 := hag 1 (by decide)
                                    have g2 : v2 2 = v 2 := hag 2 (by decide)
                                    have g4 : v2 4 = v 4 := hag 4 (by decide)
                                    have g5 : v2 5 = v 5 := hag 5 (by decide)
                                    have g6 : v2 6 = v 6 := hag 6 (by decide)
                                    have g7 : v2 7 = v 7 := hag 7 (by decide)
                                    have g8 : v2 8 = v 8 := hag 8 (by decide)
                                    have b0 : ((0 : Nat) : Int) ≤ (v2 1) + 2147483648 ∧ (v2 1) + 2147483648 ≤ ((2147484647 : Nat) : Int) := xXb hBd 0 rfl
                                    have b1 : ((2147483648 : Nat) : Int) ≤ (v2 2) + 2147483648 ∧ (v2 2) + 2147483648 ≤ ((4294967295 : Nat) : Int) := xXb hBd 1 rfl
                                    have b2 : ((2147483648 : Nat) : Int) ≤ (v2 4) + 2147483648 ∧ (v2 4) + 2147483648 ≤ ((2147483648 : Nat) : Int) := xXb hBd 2 rfl
                                    have b3 : ((2147483648 : Nat) : Int) ≤ (v2 6) + 2147483648 ∧ (v2 6) + 2147483648 ≤ ((2147483649 : Nat) : Int) := xXb hBd 3 rfl
                                    have b4 : ((2147483648 : Nat) : Int) ≤ (v2 7) + 2147483648 ∧ (v2 7) + 2147483648 ≤ ((2147484548 : Nat) : Int) := xXb hBd 4 rfl
                                    have b5 : ((2147483648 : Nat) : Int) ≤ (v2 8) + 2147483648 ∧ (v2 8) + 2147483648 ≤ ((2147484647 : Nat) : Int) := xXb hBd 5 rfl
                                    have k0 : xE E 74 36 = v 4 := xKcf hKc 0 rfl rfl
                                    have k1 : xE E 74 37 = v 5 := xKcf hKc 1 rfl rfl
                                    have k2 : xE E 74 40 = v 6 := xKcf hKc 2 rfl rfl
                                    have k3 : xE E 74 38 = v 7 := xKcf hKc 3 rfl rfl
                                    have k4 : xE E 74 41 = v 8 := xKcf hKc 4 rfl rfl
                                    have f0 : ¬ (v2 6) = 2 := xXf hF 0 rfl
                                    have f1 : (v2 4) ≤ 0 := xXf hF 1 rfl
                                    have f2 : ¬ (v2 6) = 4 := xXf hF 2 rfl
                                    have f3 : (v2 1) ≤ (v2 8) := xXf hF 3 rfl
                                    have f4 : (v2 8) ≤ (v2 2) := xXf hF 4 rfl
                                    have m0 : xE E2 74 36 = 2 := xXm hM 0 rfl
                                    have m1 : xE E2 74 37 = (v2 7) := xXm hM 1 rfl
                                    have e74_38 : xE E2 74 38 = xE E 74 38 := xFr_E hfr rfl
                                    have e74_39 : xE E2 74 39 = xE E 74 39 := xFr_E hfr rfl
                                    have e74_40 : xE E2 74 40 = xE E 74 40 := xFr_E hfr rfl
                                    have e74_41 : xE E2 74 41 = xE E 74 41 := xFr_E hfr rfl
                                    have e74_42 : xE E2 74 42 = xE E 74 42 := xFr_E hfr rfl
                                    have q74_42 : xE E 74 42 = xE E0 74 42 := xFr_E hFr0 rfl
                                    have e84 : ∀ i, xE E2 84 i = xE E 84 i := fun i => xFr_E hfr rfl
                                    have q84 : ∀ i, xE E 84 i = xE E0 84 i := fun i => xFr_E hFr0 rfl
                                    have hI : E = E0 ∧ (v 1) = x0 0 ∧ (v 2) = x0 1 := hInv
                                    have q74_36 : xE E 74 36 = xE E0 74 36 := by rw [hI.1]
                                    have q74_37 : xE E 74 37 = xE E0 74 37 := by rw [hI.1]
                                    have q74_38 : xE E 74 38 = xE E0 74 38 := by rw [hI.1]
                                    have q74_39 : xE E 74 39 = xE E0 74 39 := by rw [hI.1]
                                    have q74_40 : xE E 74 40 = xE E0 74 40 := by rw [hI.1]
                                    have q74_41 : xE E 74 41 = xE E0 74 41 := by rw [hI.1]
                                    show xΨtm x0 E0 E2 (v2 8)
                                    obtain ⟨hE, i1, i2⟩ := hI
                                    unfold xΨtm
                                    by_cases c1 : xE E0 74 36 = 0
                                    · rw [if_pos c1]
                                      by_cases c2 : xE E0 74 40 = 2
                                      · rw [if_pos c2]
                                        by_cases c3 : x0 0 ≤ xE E0 74 41 ∧ xE E0 74 41 ≤ x0 1
                                        · exfalso
                                          omega
                                        · rw [if_neg c3]
                                          first | exact ⟨by omega, by omega⟩ | (exfalso; omega)
                                      · rw [if_neg c2]
                                        by_cases c3 : xE E0 74 40 = 4
                                        · rw [if_pos c3]
                                          first | exact ⟨by omega, by omega⟩ | (exfalso; omega)
                                        · rw [if_neg c3]
                                          first | exact ⟨by omega, by omega⟩ | (exfalso; omega)
                                    · rw [if_neg c1]
                                      first | exact ⟨by omega, by omega⟩ | (exfalso; omega)
                                  · skip
                                    rcases List.mem_cons.mp hx with ex | hx
                                    · subst ex
                                      obtain ⟨hF, hBd, hM⟩ := hXs
                                      have r5 := hr2 5
                                      have g1 : v2 1 = v 1 := hag 1 (by decide)
                                      have g2 : v2 2 = v 2 := hag 2 (by decide)
                                      have g4 : v2 4 = v 4 := hag 4 (by decide)
                                      have g5 : v2 5 = v 5 := hag 5 (by decide)
                                      have g6 : v2 6 = v 6 := hag 6 (by decide)
                                      have g7 : v2 7 = v 7 := hag 7 (by decide)
                                      have g8 : v2 8 = v 8 := hag 8 (by decide)
                                      have b0 : ((2147483649 : Nat) : Int) ≤ (v2 1) + 2147483648 ∧ (v2 1) + 2147483648 ≤ ((4294967295 : Nat) : Int) := xXb hBd 0 rfl
                                      have b1 : ((2147483649 : Nat) : Int) ≤ (v2 4) + 2147483648 ∧ (v2 4) + 2147483648 ≤ ((2147483657 : Nat) : Int) := xXb hBd 1 rfl
                                      have b2 : ((2147483650 : Nat) : Int) ≤ (v2 6) + 2147483648 ∧ (v2 6) + 2147483648 ≤ ((2147483650 : Nat) : Int) := xXb hBd 2 rfl
                                      have b3 : ((2147483648 : Nat) : Int) ≤ (v2 8) + 2147483648 ∧ (v2 8) + 2147483648 ≤ ((2147484647 : Nat) : Int) := xXb hBd 3 rfl
                                      have k0 : xE E 74 36 = v 4 := xKcf hKc 0 rfl rfl
                                      have k1 : xE E 74 37 = v 5 := xKcf hKc 1 rfl rfl
                                      have k2 : xE E 74 40 = v 6 := xKcf hKc 2 rfl rfl
                                      have k3 : xE E 74 38 = v 7 := xKcf hKc 3 rfl rfl
                                      have k4 : xE E 74 41 = v 8 := xKcf hKc 4 rfl rfl
                                      have f0 : (v2 6) = 2 := xXf hF 0 rfl
                                      have f1 : (v2 8) < (v2 1) := xXf hF 1 rfl
                                      have f2 : 0 < (v2 4) := xXf hF 2 rfl
                                      have f3 : ¬ (v2 4) = 0 := xXf hF 3 rfl
                                      have m0 : xE E2 74 36 = (v2 4) := xXm hM 0 rfl
                                      have m1 : xE E2 74 37 = (v2 5) := xXm hM 1 rfl
                                      have e74_38 : xE E2 74 38 = xE E 74 38 := xFr_E hfr rfl
                                      have e74_39 : xE E2 74 39 = xE E 74 39 := xFr_E hfr rfl
                                      have e74_40 : xE E2 74 40 = xE E 74 40 := xFr_E hfr rfl
                                      have e74_41 : xE E2 74 41 = xE E 74 41 := xFr_E hfr rfl
                                      have e74_42 : xE E2 74 42 = xE E 74 42 := xFr_E hfr rfl
                                      have q74_42 : xE E 74 42 = xE E0 74 42 := xFr_E hFr0 rfl
                                      have e84 : ∀ i, xE E2 84 i = xE E 84 i := fun i => xFr_E hfr rfl
                                      have q84 : ∀ i, xE E 84 i = xE E0 84 i := fun i => xFr_E hFr0 rfl
                                      have hI : E = E0 ∧ (v 1) = x0 0 ∧ (v 2) = x0 1 := hInv
                                      have q74_36 : xE E 74 36 = xE E0 74 36 := by rw [hI.1]
                                      have q74_37 : xE E 74 37 = xE E0 74 37 := by rw [hI.1]
                                      have q74_38 : xE E 74 38 = xE E0 74 38 := by rw [hI.1]
                                      have q74_39 : xE E 74 39 = xE E0 74 39 := by rw [hI.1]
                                      have q74_40 : xE E 74 40 = xE E0 74 40 := by rw [hI.1]
                                      have q74_41 : xE E 74 41 = xE E0 74 41 := by rw [hI.1]
                                      show xΨtm x0 E0 E2 (v2 8)
                                      obtain ⟨hE, i1, i2⟩ := hI
                                      unfold xΨtm
                                      by_cases c1 : xE E0 74 36 = 0
                                      · rw [if_pos c1]
                                        by_cases c2 : xE E0 74 40 = 2
                                        · rw [if_pos c2]
                                          by_cases c3 : x0 0 ≤ xE E0 74 41 ∧ xE E0 74 41 ≤ x0 1
                                          · exfalso
                                            omega
                                          · rw [if_neg c3]
                                            first | exact ⟨by omega, by omega⟩ | (exfalso; omega)
                                        · rw [if_neg c2]
                                          by_cases c3 : xE E0 74 40 = 4
                                          · rw [if_pos c3]
                                            first | exact ⟨by omega, by omega⟩ | (exfalso; omega)
                                          · rw [if_neg c3]
                                            first | exact ⟨by omega, by omega⟩ | (exfalso; omega)
                                      · rw [if_neg c1]
                                        first | exact ⟨by omega, by omega⟩ | (exfalso; omega)
                                    · skip
                                      rcases List.mem_cons.mp hx with ex | hx
                                      · subst ex
                                        obtain ⟨hF, hBd, hM⟩ := hXs
                                        have g1 : v2 1 = v 1 := hag 1 (by decide)
                                        have g2 : v2 2 = v 2 := hag 2 (by decide)
                                        have g4 : v2 4 = v 4 := hag 4 (by decide)
                                        have g5 : v2 5 = v 5 := hag 5 (by decide)
                                        have g6 : v2 6 = v 6 := hag 6 (by decide)
                                        have g7 : v2 7 = v 7 := hag 7 (by decide)
                                        have g8 : v2 8 = v 8 := hag 8 (by decide)
                                        have b0 : ((2147483649 : Nat) : Int) ≤ (v2 1) + 2147483648 ∧ (v2 1) + 2147483648 ≤ ((4294967295 : Nat) : Int) := xXb hBd 0 rfl
                                        have b1 : ((2147483648 : Nat) : Int) ≤ (v2 4) + 2147483648 ∧ (v2 4) + 2147483648 ≤ ((2147483648 : Nat) : Int) := xXb hBd 1 rfl
                                        have b2 : ((2147483650 : Nat) : Int) ≤ (v2 6) + 2147483648 ∧ (v2 6) + 2147483648 ≤ ((2147483650 : Nat) : Int) := xXb hBd 2 rfl
                                        have b3 : ((2147483648 : Nat) : Int) ≤ (v2 7) + 2147483648 ∧ (v2 7) + 2147483648 ≤ ((2147484548 : Nat) : Int) := xXb hBd 3 rfl
                                        have b4 : ((2147483648 : Nat) : Int) ≤ (v2 8) + 2147483648 ∧ (v2 8) + 2147483648 ≤ ((2147484647 : Nat) : Int) := xXb hBd 4 rfl
                                        have k0 : xE E 74 36 = v 4 := xKcf hKc 0 rfl rfl
                                        have k1 : xE E 74 37 = v 5 := xKcf hKc 1 rfl rfl
                                        have k2 : xE E 74 40 = v 6 := xKcf hKc 2 rfl rfl
                                        have k3 : xE E 74 38 = v 7 := xKcf hKc 3 rfl rfl
                                        have k4 : xE E 74 41 = v 8 := xKcf hKc 4 rfl rfl
                                        have f0 : (v2 6) = 2 := xXf hF 0 rfl
                                        have f1 : (v2 8) < (v2 1) := xXf hF 1 rfl
                                        have f2 : (v2 4) ≤ 0 := xXf hF 2 rfl
                                        have m0 : xE E2 74 36 = 3 := xXm hM 0 rfl
                                        have m1 : xE E2 74 37 = (v2 7) := xXm hM 1 rfl
                                        have e74_38 : xE E2 74 38 = xE E 74 38 := xFr_E hfr rfl
                                        have e74_39 : xE E2 74 39 = xE E 74 39 := xFr_E hfr rfl
                                        have e74_40 : xE E2 74 40 = xE E 74 40 := xFr_E hfr rfl
                                        have e74_41 : xE E2 74 41 = xE E 74 41 := xFr_E hfr rfl
                                        have e74_42 : xE E2 74 42 = xE E 74 42 := xFr_E hfr rfl
                                        have q74_42 : xE E 74 42 = xE E0 74 42 := xFr_E hFr0 rfl
                                        have e84 : ∀ i, xE E2 84 i = xE E 84 i := fun i => xFr_E hfr rfl
                                        have q84 : ∀ i, xE E 84 i = xE E0 84 i := fun i => xFr_E hFr0 rfl
                                        have hI : E = E0 ∧ (v 1) = x0 0 ∧ (v 2) = x0 1 := hInv
                                        have q74_36 : xE E 74 36 = xE E0 74 36 := by rw [hI.1]
                                        have q74_37 : xE E 74 37 = xE E0 74 37 := by rw [hI.1]
                                        have q74_38 : xE E 74 38 = xE E0 74 38 := by rw [hI.1]
                                        have q74_39 : xE E 74 39 = xE E0 74 39 := by rw [hI.1]
                                        have q74_40 : xE E 74 40 = xE E0 74 40 := by rw [hI.1]
                                        have q74_41 : xE E 74 41 = xE E0 74 41 := by rw [hI.1]
                                        show xΨtm x0 E0 E2 (v2 8)
                                        obtain ⟨hE, i1, i2⟩ := hI
                                        unfold xΨtm
                                        by_cases c1 : xE E0 74 36 = 0
                                        · rw [if_pos c1]
                                          by_cases c2 : xE E0 74 40 = 2
                                          · rw [if_pos c2]
                                            by_cases c3 : x0 0 ≤ xE E0 74 41 ∧ xE E0 74 41 ≤ x0 1
                                            · exfalso
                                              omega
                                            · rw [if_neg c3]
                                              first | exact ⟨by omega, by omega⟩ | (exfalso; omega)
                                          · rw [if_neg c2]
                                            by_cases c3 : xE E0 74 40 = 4
                                            · rw [if_pos c3]
                                              first | exact ⟨by omega, by omega⟩ | (exfalso; omega)
                                            · rw [if_neg c3]
                                              first | exact ⟨by omega, by omega⟩ | (exfalso; omega)
                                        · rw [if_neg c1]
                                          first | exact ⟨by omega, by omega⟩ | (exfalso; omega)
                                      · skip
                                        rcases List.mem_cons.mp hx with ex | hx
                                        · subst ex
                                          obtain ⟨hF, hBd, hM⟩ := hXs
                                          have r5 := hr2 5
                                          have g1 : v2 1 = v 1 := hag 1 (by decide)
                                          have g2 : v2 2 = v 2 := hag 2 (by decide)
                                          have g4 : v2 4 = v 4 := hag 4 (by decide)
                                          have g5 : v2 5 = v 5 := hag 5 (by decide)
                                          have g6 : v2 6 = v 6 := hag 6 (by decide)
                                          have g7 : v2 7 = v 7 := hag 7 (by decide)
                                          have g8 : v2 8 = v 8 := hag 8 (by decide)
                                          have b0 : ((0 : Nat) : Int) ≤ (v2 1) + 2147483648 ∧ (v2 1) + 2147483648 ≤ ((2147484647 : Nat) : Int) := xXb hBd 0 rfl
                                          have b1 : ((0 : Nat) : Int) ≤ (v2 2) + 2147483648 ∧ (v2 2) + 2147483648 ≤ ((2147484646 : Nat) : Int) := xXb hBd 1 rfl
                                          have b2 : ((2147483649 : Nat) : Int) ≤ (v2 4) + 2147483648 ∧ (v2 4) + 2147483648 ≤ ((2147483657 : Nat) : Int) := xXb hBd 2 rfl
                                          have b3 : ((2147483650 : Nat) : Int) ≤ (v2 6) + 2147483648 ∧ (v2 6) + 2147483648 ≤ ((2147483650 : Nat) : Int) := xXb hBd 3 rfl
                                          have b4 : ((2147483648 : Nat) : Int) ≤ (v2 8) + 2147483648 ∧ (v2 8) + 2147483648 ≤ ((2147484647 : Nat) : Int) := xXb hBd 4 rfl
                                          have k0 : xE E 74 36 = v 4 := xKcf hKc 0 rfl rfl
                                          have k1 : xE E 74 37 = v 5 := xKcf hKc 1 rfl rfl
                                          have k2 : xE E 74 40 = v 6 := xKcf hKc 2 rfl rfl
                                          have k3 : xE E 74 38 = v 7 := xKcf hKc 3 rfl rfl
                                          have k4 : xE E 74 41 = v 8 := xKcf hKc 4 rfl rfl
                                          have f0 : (v2 6) = 2 := xXf hF 0 rfl
                                          have f1 : (v2 1) ≤ (v2 8) := xXf hF 1 rfl
                                          have f2 : (v2 2) < (v2 8) := xXf hF 2 rfl
                                          have f3 : 0 < (v2 4) := xXf hF 3 rfl
                                          have f4 : ¬ (v2 4) = 0 := xXf hF 4 rfl
                                          have m0 : xE E2 74 36 = (v2 4) := xXm hM 0 rfl
                                          have m1 : xE E2 74 37 = (v2 5) := xXm hM 1 rfl
                                          have e74_38 : xE E2 74 38 = xE E 74 38 := xFr_E hfr rfl
                                          have e74_39 : xE E2 74 39 = xE E 74 39 := xFr_E hfr rfl
                                          have e74_40 : xE E2 74 40 = xE E 74 40 := xFr_E hfr rfl
                                          have e74_41 : xE E2 74 41 = xE E 74 41 := xFr_E hfr rfl
                                          have e74_42 : xE E2 74 42 = xE E 74 42 := xFr_E hfr rfl
                                          have q74_42 : xE E 74 42 = xE E0 74 42 := xFr_E hFr0 rfl
                                          have e84 : ∀ i, xE E2 84 i = xE E 84 i := fun i => xFr_E hfr rfl
                                          have q84 : ∀ i, xE E 84 i = xE E0 84 i := fun i => xFr_E hFr0 rfl
                                          have hI : E = E0 ∧ (v 1) = x0 0 ∧ (v 2) = x0 1 := hInv
                                          have q74_36 : xE E 74 36 = xE E0 74 36 := by rw [hI.1]
                                          have q74_37 : xE E 74 37 = xE E0 74 37 := by rw [hI.1]
                                          have q74_38 : xE E 74 38 = xE E0 74 38 := by rw [hI.1]
                                          have q74_39 : xE E 74 39 = xE E0 74 39 := by rw [hI.1]
                                          have q74_40 : xE E 74 40 = xE E0 74 40 := by rw [hI.1]
                                          have q74_41 : xE E 74 41 = xE E0 74 41 := by rw [hI.1]
                                          show xΨtm x0 E0 E2 (v2 8)
                                          obtain ⟨hE, i1, i2⟩ := hI
                                          unfold xΨtm
                                          by_cases c1 : xE E0 74 36 = 0
                                          · rw [if_pos c1]
                                            by_cases c2 : xE E0 74 40 = 2
                                            · rw [if_pos c2]
                                              by_cases c3 : x0 0 ≤ xE E0 74 41 ∧ xE E0 74 41 ≤ x0 1
                                              · exfalso
                                                omega
                                              · rw [if_neg c3]
                                                first | exact ⟨by omega, by omega⟩ | (exfalso; omega)
                                            · rw [if_neg c2]
                                              by_cases c3 : xE E0 74 40 = 4
                                              · rw [if_pos c3]
                                                first | exact ⟨by omega, by omega⟩ | (exfalso; omega)
                                              · rw [if_neg c3]
                                                first | exact ⟨by omega, by omega⟩ | (exfalso; omega)
                                          · rw [if_neg c1]
                                            first | exact ⟨by omega, by omega⟩ | (exfalso; omega)
                                        · skip
                                          rcases List.mem_cons.mp hx with ex | hx
                                          · subst ex
                                            obtain ⟨hF, hBd, hM⟩ := hXs
                                            have g1 : v2 1 = v 1 := hag 1 (by decide)
                                            have g2 : v2 2 = v 2 := hag 2 (by decide)
                                            have g4 : v2 4 = v 4 := hag 4 (by decide)
                                            have g5 : v2 5 = v 5 := hag 5 (by decide)
                                            have g6 : v2 6 = v 6 := hag 6 (by decide)
                                            have g7 : v2 7 = v 7 := hag 7 (by decide)
                                            have g8 : v2 8 = v 8 := hag 8 (by decide)
                                            have b0 : ((0 : Nat) : Int) ≤ (v2 1) + 2147483648 ∧ (v2 1) + 2147483648 ≤ ((2147484647 : Nat) : Int) := xXb hBd 0 rfl
                                            have b1 : ((0 : Nat) : Int) ≤ (v2 2) + 2147483648 ∧ (v2 2) + 2147483648 ≤ ((2147484646 : Nat) : Int) := xXb hBd 1 rfl
                                            have b2 : ((2147483648 : Nat) : Int) ≤ (v2 4) + 2147483648 ∧ (v2 4) + 2147483648 ≤ ((2147483648 : Nat) : Int) := xXb hBd 2 rfl
                                            have b3 : ((2147483650 : Nat) : Int) ≤ (v2 6) + 2147483648 ∧ (v2 6) + 2147483648 ≤ ((2147483650 : Nat) : Int) := xXb hBd 3 rfl
                                            have b4 : ((2147483648 : Nat) : Int) ≤ (v2 7) + 2147483648 ∧ (v2 7) + 2147483648 ≤ ((2147484548 : Nat) : Int) := xXb hBd 4 rfl
                                            have b5 : ((2147483648 : Nat) : Int) ≤ (v2 8) + 2147483648 ∧ (v2 8) + 2147483648 ≤ ((2147484647 : Nat) : Int) := xXb hBd 5 rfl
                                            have k0 : xE E 74 36 = v 4 := xKcf hKc 0 rfl rfl
                                            have k1 : xE E 74 37 = v 5 := xKcf hKc 1 rfl rfl
                                            have k2 : xE E 74 40 = v 6 := xKcf hKc 2 rfl rfl
                                            have k3 : xE E 74 38 = v 7 := xKcf hKc 3 rfl rfl
                                            have k4 : xE E 74 41 = v 8 := xKcf hKc 4 rfl rfl
                                            have f0 : (v2 6) = 2 := xXf hF 0 rfl
                                            have f1 : (v2 1) ≤ (v2 8) := xXf hF 1 rfl
                                            have f2 : (v2 2) < (v2 8) := xXf hF 2 rfl
                                            have f3 : (v2 4) ≤ 0 := xXf hF 3 rfl
                                            have m0 : xE E2 74 36 = 3 := xXm hM 0 rfl
                                            have m1 : xE E2 74 37 = (v2 7) := xXm hM 1 rfl
                                            have e74_38 : xE E2 74 38 = xE E 74 38 := xFr_E hfr rfl
                                            have e74_39 : xE E2 74 39 = xE E 74 39 := xFr_E hfr rfl
                                            have e74_40 : xE E2 74 40 = xE E 74 40 := xFr_E hfr rfl
                                            have e74_41 : xE E2 74 41 = xE E 74 41 := xFr_E hfr rfl
                                            have e74_42 : xE E2 74 42 = xE E 74 42 := xFr_E hfr rfl
                                            have q74_42 : xE E 74 42 = xE E0 74 42 := xFr_E hFr0 rfl
                                            have e84 : ∀ i, xE E2 84 i = xE E 84 i := fun i => xFr_E hfr rfl
                                            have q84 : ∀ i, xE E 84 i = xE E0 84 i := fun i => xFr_E hFr0 rfl
                                            have hI : E = E0 ∧ (v 1) = x0 0 ∧ (v 2) = x0 1 := hInv
                                            have q74_36 : xE E 74 36 = xE E0 74 36 := by rw [hI.1]
                                            have q74_37 : xE E 74 37 = xE E0 74 37 := by rw [hI.1]
                                            have q74_38 : xE E 74 38 = xE E0 74 38 := by rw [hI.1]
                                            have q74_39 : xE E 74 39 = xE E0 74 39 := by rw [hI.1]
                                            have q74_40 : xE E 74 40 = xE E0 74 40 := by rw [hI.1]
                                            have q74_41 : xE E 74 41 = xE E0 74 41 := by rw [hI.1]
                                            show xΨtm x0 E0 E2 (v2 8)
                                            obtain ⟨hE, i1, i2⟩ := hI
                                            unfold xΨtm
                                            by_cases c1 : xE E0 74 36 = 0
                                            · rw [if_pos c1]
                                              by_cases c2 : xE E0 74 40 = 2
                                              · rw [if_pos c2]
                                                by_cases c3 : x0 0 ≤ xE E0 74 41 ∧ xE E0 74 41 ≤ x0 1
                                                · exfalso
                                                  omega
                                                · rw [if_neg c3]
                                                  first | exact ⟨by omega, by omega⟩ | (exfalso; omega)
                                              · rw [if_neg c2]
                                                by_cases c3 : xE E0 74 40 = 4
                                                · rw [if_pos c3]
                                                  first | exact ⟨by omega, by omega⟩ | (exfalso; omega)
                                                · rw [if_neg c3]
                                                  first | exact ⟨by omega, by omega⟩ | (exfalso; omega)
                                            · rw [if_neg c1]
                                              first | exact ⟨by omega, by omega⟩ | (exfalso; omega)
                                          · skip
                                            have ex := List.mem_singleton.mp hx
                                            subst ex
                                            obtain ⟨hF, hBd, hM⟩ := hXs
                                            have r5 := hr2 5
                                            have g1 : v2 1 = v 1 := hag 1 (by decide)
                                            have g2 : v2 2 = v 2 := hag 2 (by decide)
                                            have g4 : v2 4 = v 4 := hag 4 (by decide)
                                            have g5 : v2 5 = v 5 := hag 5 (by decide)
                                            have g6 : v2 6 = v 6 := hag 6 (by decide)
                                            have g7 : v2 7 = v 7 := hag 7 (by decide)
                                            have g8 : v2 8 = v 8 := hag 8 (by decide)
                                            have b0 : ((0 : Nat) : Int) ≤ (v2 1) + 2147483648 ∧ (v2 1) + 2147483648 ≤ ((2147484647 : Nat) : Int) := xXb hBd 0 rfl
                                            have b1 : ((2147483648 : Nat) : Int) ≤ (v2 2) + 2147483648 ∧ (v2 2) + 2147483648 ≤ ((4294967295 : Nat) : Int) := xXb hBd 1 rfl
                                            have b2 : ((2147483649 : Nat) : Int) ≤ (v2 4) + 2147483648 ∧ (v2 4) + 2147483648 ≤ ((2147483657 : Nat) : Int) := xXb hBd 2 rfl
                                            have b3 : ((2147483650 : Nat) : Int) ≤ (v2 6) + 2147483648 ∧ (v2 6) + 2147483648 ≤ ((2147483650 : Nat) : Int) := xXb hBd 3 rfl
                                            have b4 : ((2147483648 : Nat) : Int) ≤ (v2 8) + 2147483648 ∧ (v2 8) + 2147483648 ≤ ((2147484647 : Nat) : Int) := xXb hBd 4 rfl
                                            have k0 : xE E 74 36 = v 4 := xKcf hKc 0 rfl rfl
                                            have k1 : xE E 74 37 = v 5 := xKcf hKc 1 rfl rfl
                                            have k2 : xE E 74 40 = v 6 := xKcf hKc 2 rfl rfl
                                            have k3 : xE E 74 38 = v 7 := xKcf hKc 3 rfl rfl
                                            have k4 : xE E 74 41 = v 8 := xKcf hKc 4 rfl rfl
                                            have f0 : (v2 6) = 2 := xXf hF 0 rfl
                                            have f1 : (v2 1) ≤ (v2 8) := xXf hF 1 rfl
                                            have f2 : (v2 8) ≤ (v2 2) := xXf hF 2 rfl
                                            have f3 : ¬ (v2 4) = 0 := xXf hF 3 rfl
                                            have m0 : xE E2 74 36 = (v2 4) := xXm hM 0 rfl
                                            have m1 : xE E2 74 37 = (v2 5) := xXm hM 1 rfl
                                            have e74_38 : xE E2 74 38 = xE E 74 38 := xFr_E hfr rfl
                                            have e74_39 : xE E2 74 39 = xE E 74 39 := xFr_E hfr rfl
                                            have e74_40 : xE E2 74 40 = xE E 74 40 := xFr_E hfr rfl
                                            have e74_41 : xE E2 74 41 = xE E 74 41 := xFr_E hfr rfl
                                            have e74_42 : xE E2 74 42 = xE E 74 42 := xFr_E hfr rfl
                                            have q74_42 : xE E 74 42 = xE E0 74 42 := xFr_E hFr0 rfl
                                            have e84 : ∀ i, xE E2 84 i = xE E 84 i := fun i => xFr_E hfr rfl
                                            have q84 : ∀ i, xE E 84 i = xE E0 84 i := fun i => xFr_E hFr0 rfl
                                            have hI : E = E0 ∧ (v 1) = x0 0 ∧ (v 2) = x0 1 := hInv
                                            have q74_36 : xE E 74 36 = xE E0 74 36 := by rw [hI.1]
                                            have q74_37 : xE E 74 37 = xE E0 74 37 := by rw [hI.1]
                                            have q74_38 : xE E 74 38 = xE E0 74 38 := by rw [hI.1]
                                            have q74_39 : xE E 74 39 = xE E0 74 39 := by rw [hI.1]
                                            have q74_40 : xE E 74 40 = xE E0 74 40 := by rw [hI.1]
                                            have q74_41 : xE E 74 41 = xE E0 74 41 := by rw [hI.1]
                                            show xΨtm x0 E0 E2 (v2 8)
                                            obtain ⟨hE, i1, i2⟩ := hI
                                            unfold xΨtm
                                            by_cases c1 : xE E0 74 36 = 0
                                            · rw [if_pos c1]
                                              by_cases c2 : xE E0 74 40 = 2
                                              · rw [if_pos c2]
                                                by_cases c3 : x0 0 ≤ xE E0 74 41 ∧ xE E0 74 41 ≤ x0 1
                                                · exfalso
                                                  omega
                                                · rw [if_neg c3]
                                                  first | exact ⟨by omega, by omega⟩ | (exfalso; omega)
                                              · rw [if_neg c2]
                                                by_cases c3 : xE E0 74 40 = 4
                                                · rw [if_pos c3]
                                                  first | exact ⟨by omega, by omega⟩ | (exfalso; omega)
                                                · rw [if_neg c3]
                                                  first | exact ⟨by omega, by omega⟩ | (exfalso; omega)
                                            · rw [if_neg c1]
                                              first | exact ⟨by omega, by omega⟩ | (exfalso; omega)
    · have hx : x ∈ [zxftm_br0] := hx
      have hag : ∀ k, k < 4 → v2 k = v k := hag
      have hfr : xFr [] _ _ := hfr
      have ex := List.mem_singleton.mp hx
      subst ex
      obtain ⟨hF, hBd, hM⟩ := hXs
      have g1 : v2 1 = v 1 := hag 1 (by decide)
      have g2 : v2 2 = v 2 := hag 2 (by decide)
      have g3 : v2 3 = v 3 := hag 3 (by decide)
      have b0 : ((2147483648 : Nat) : Int) ≤ (v2 3) + 2147483648 ∧ (v2 3) + 2147483648 ≤ ((2147484647 : Nat) : Int) := xXb hBd 0 rfl
      have e74_36 : xE E2 74 36 = xE E 74 36 := xFr_E hfr rfl
      have e74_37 : xE E2 74 37 = xE E 74 37 := xFr_E hfr rfl
      have e74_38 : xE E2 74 38 = xE E 74 38 := xFr_E hfr rfl
      have e74_39 : xE E2 74 39 = xE E 74 39 := xFr_E hfr rfl
      have e74_40 : xE E2 74 40 = xE E 74 40 := xFr_E hfr rfl
      have e74_41 : xE E2 74 41 = xE E 74 41 := xFr_E hfr rfl
      have e74_42 : xE E2 74 42 = xE E 74 42 := xFr_E hfr rfl
      have q74_42 : xE E 74 42 = xE E0 74 42 := xFr_E hFr0 rfl
      have e84 : ∀ i, xE E2 84 i = xE E 84 i := fun i => xFr_E hfr rfl
      have q84 : ∀ i, xE E 84 i = xE E0 84 i := fun i => xFr_E hFr0 rfl
      have hI : xE E0 74 36 = 0 ∧ xE E0 74 40 = 2 ∧ (x0 0 ≤ xE E0 74 41 ∧ xE E0 74 41 ≤ x0 1) ∧ xE E 74 36 = 0 ∧ (v 3) = xE E0 74 41 ∧ xRD (xE E0 84) (xE E0 74 42) (xE E0 74 39) E := hInv
      show xΨtm x0 E0 E2 (v2 3)
      obtain ⟨i1, i2, i3, i4, i5, i6⟩ := hI
      unfold xΨtm
      rw [if_pos i1, if_pos i2, if_pos i3]
      refine ⟨by omega, by omega, ?_⟩
      have hE : E2 = E := xFr_n hfr
      rw [hE]
      exact i6
end
section
/-! THE REFERENCE: is it this sign? (printed by m19.py) -/
noncomputable def zxfis_zx0 : zyXp := (0, [595, 34359738369], [], [], [], [])
noncomputable def zpfis_z : zyPh := (0, [595, 34359738369], [(0, 4294967295), (0, 4294967295)], [], [])
noncomputable def zxfis_ax0 : zyXp := (15, [595, 34359738369], [], [(22, 0, 68719476737, 0), (22, 0, 103079215105, 24)], [(68719476737, 2147483648, 2147483648), (103079215105, 2147483651, 2147483651)], [])
noncomputable def zxfis_ar0 : zyXp := (0, [], [0], [(23, 0, 68719476737, 0)], [(68719476737, 2147483649, 2147483657)], [])
noncomputable def zxfis_ar1 : zyXp := (0, [], [0], [(22, 0, 68719476737, 0), (23, 0, 103079215105, 24)], [(68719476737, 2147483648, 2147483648), (103079215105, 2147483652, 2147483652)], [])
noncomputable def zxfis_ar2 : zyXp := (0, [], [0], [(22, 0, 68719476737, 0), (23, 0, 103079215105, 24)], [(68719476737, 2147483648, 2147483648), (103079215105, 2147483648, 2147483650)], [])
noncomputable def zpfis_a : zyPh := (0, [595, 34359738369], [(0, 4294967295), (0, 4294967295), (2147483648, 2147483657), (2147483648, 2147483652)], [(1212452, 68719476737), (1212456, 103079215105)], [])
noncomputable def zxfis_br0 : zyXp := (0, [], [0], [(24, 103079215105, 84, 68719476737), (23, 0, 103079215105, 34359738369)], [(68719476737, 2147483648, 2147484547), (103079215105, 2147483520, 2147483775)], [])
noncomputable def zxfis_br1 : zyXp := (0, [], [8], [(24, 103079215105, 84, 68719476737), (22, 0, 103079215105, 34359738369)], [(68719476737, 2147483648, 2147484547), (103079215105, 2147483520, 2147483775)], [])
noncomputable def zpfis_b : zyPh := (15, [595, 34359738369], [(0, 4294967295), (0, 4294967295), (2147483648, 2147484547)], [(1212454, 68719476737)], [])
noncomputable def zpfis (i : Nat) : zyPh := zif (Nat.beq i 0) (zpfis_z) (zif (Nat.beq i 1) (zpfis_a) (zpfis_b))
noncomputable def zXfis (i : Nat) : List zyXp := zif (Nat.beq i 0) ([zxfis_zx0]) (zif (Nat.beq i 1) ([zxfis_ax0]) ([]))
noncomputable def zRfis (i : Nat) : List zyXp := zif (Nat.beq i 0) ([]) (zif (Nat.beq i 1) ([zxfis_ar0, zxfis_ar1, zxfis_ar2]) ([zxfis_br0, zxfis_br1]))
noncomputable def zFfis (i : Nat) : zyR := zif (Nat.beq i 0) ([]) (zif (Nat.beq i 1) ([]) ([]))
noncomputable def zSfis (i : Nat) : Nat := zif (Nat.beq i 0) (0) (zif (Nat.beq i 1) (0) (0))
/-- does this sign stand there? -/
def xΦis (_ : Nat → Int) (E : zyEm) : Prop := xE E 74 36 = 0 → xE E 74 40 = 3 → xE E 74 38 ≤ 899
def xΨis (x : Nat → Int) (E _ : zyEm) (r : Int) : Prop := r = if xE E 74 36 = 0 ∧ xE E 74 40 = 3 ∧ xE E 84 (xE E 74 38) = x 0 then 1 else 0
noncomputable def fpfis : zyR := []
theorem zyfis_run : zyrS zymx zxi317 (317, 0, 0, 2, 0) 2 zpfis (fun _ _ => []) zFfis zSfis zXfis zRfis 3 = true := by decide +kernel
theorem zyfis_ck : zyAll (fun i => xsubR (zFfis i) fpfis && ((zXfis i).all xckX && (zRfis i).all (fun x => xckX x && xrtB true x))) 3 = true := by decide +kernel
def xIfis (i : Nat) (x0 : Nat → Int) (E0 : zyEm) (v : Nat → Int) (E : zyEm) : Prop := if i = 0 then (E = E0 ∧ (v 1) = x0 0) else if i = 1 then (E = E0 ∧ (v 1) = x0 0) else (E = E0 ∧ (v 1) = x0 0 ∧ xE E 74 36 = 0 ∧ xE E 74 40 = 3)
def xMfis (i : Nat) (x0 : Nat → Int) (E0 : zyEm) (v : Nat → Int) (E : zyEm) : Nat := if i = 0 then (3) else if i = 1 then (2) else (1)
theorem xIs {l : Launch} {en : zEn} {me : zMe} (hen : zG zxMeta 317 = some en) (hme : zG zMeth 317 = some me) : xFc l zymx en me 2 [74] 1 fpfis true xΦis xΨis := by
  have een : zG zxMeta 317 = some (zxi317, 2, 2, 11, 317, 0, 0, 2, 0) := rfl
  obtain ⟨me1, hme1, hOK⟩ := zall hen
  rw [hme] at hme1
  cases hme1
  rw [een] at hen
  cases hen
  have hr := zyfis_run
  have hck := fun i hi => zyAll_iff zyfis_ck i hi
  simp only [Bool.and_eq_true] at hck
  intro B
  refine xcut (mi := zymx) (B := B) hOK rfl rfl (ι := Fin 3) (fun i => zpfis i.val) (fun _ _ => []) (fun i => zFfis i.val) (fun i => zSfis i.val) (fun i => zXfis i.val) (fun i => zRfis i.val) (fun i y2 ct en2 me2 h => by cases h) 200000 (fun i => zyAll_iff hr i.val i.isLt) (fun i => (hck i.val i.isLt).1) (fun i => (hck i.val i.isLt).2.1) (fun i => (hck i.val i.isLt).2.2) ⟨0, by decide⟩ ⟨rfl, rfl, rfl, rfl⟩ ⟨by decide, by decide⟩ (fun i x0 E0 v E => xIfis i.val x0 E0 v E) (fun i x0 E0 v E => xMfis i.val x0 E0 v E) ?_ ?_ ?_
  · intro x0 E hx0 hT hΦ
    have hΦ : xΦis x0 E := hΦ
    refine ⟨fun k p hp => ?_, ?_⟩
    · have hk : k < 2 := (List.getElem?_eq_some_iff.mp hp).1
      have hk : k = 0 ∨ k = 1 := by omega
      rcases hk with rfl | rfl
      · have hp : some (0, 4294967295) = some p := hp
        cases hp
        show ((0 : Nat) : Int) ≤ 0 + 2147483648 ∧ 0 + 2147483648 ≤ ((4294967295 : Nat) : Int)
        omega
      · have hp : some (0, 4294967295) = some p := hp
        cases hp
        show ((0 : Nat) : Int) ≤ x0 0 + 2147483648 ∧ x0 0 + 2147483648 ≤ ((4294967295 : Nat) : Int)
        have hx := hx0 0
        omega
    · show E = E ∧ (x0 0) = x0 0
      exact ⟨rfl, rfl⟩
  · intro x0 s Wg hRu hrx hT0 hΦ i v H hT hrv hInv hKc hFr0 hIH x hx ρ2 v2 N2 H2 locs lsB stA hAt hB hv hr2 hXs hag hfr hFr hT2
    rcases i with ⟨i, hi⟩
    have hi2 : i = 0 ∨ i = 1 ∨ i = 2 := by omega
    rcases hi2 with rfl | rfl | rfl
    · have hx : x ∈ [zxfis_zx0] := hx
      have hag : ∀ k, k < 2 → v2 k = v k := hag
      have hfr : xFr [] _ _ := hfr
      have ex := List.mem_singleton.mp hx
      subst ex
      obtain ⟨hF, hBd, hM⟩ := hXs
      have r1 := hr2 1
      have g1 : v2 1 = v 1 := hag 1 (by decide)
      have e74_36 : xE (zyEl zymx B H2) 74 36 = xE (zyEl zymx B H) 74 36 := xFr_E hfr rfl
      have q74_36 : xE (zyEl zymx B H) 74 36 = xE (zyEl zymx B s.heap) 74 36 := xFr_E hFr0 rfl
      have e74_38 : xE (zyEl zymx B H2) 74 38 = xE (zyEl zymx B H) 74 38 := xFr_E hfr rfl
      have q74_38 : xE (zyEl zymx B H) 74 38 = xE (zyEl zymx B s.heap) 74 38 := xFr_E hFr0 rfl
      have e74_40 : xE (zyEl zymx B H2) 74 40 = xE (zyEl zymx B H) 74 40 := xFr_E hfr rfl
      have q74_40 : xE (zyEl zymx B H) 74 40 = xE (zyEl zymx B s.heap) 74 40 := xFr_E hFr0 rfl
      have e84 : ∀ i, xE (zyEl zymx B H2) 84 i = xE (zyEl zymx B H) 84 i := fun i => xFr_E hfr rfl
      have q84 : ∀ i, xE (zyEl zymx B H) 84 i = xE (zyEl zymx B s.heap) 84 i := fun i => xFr_E hFr0 rfl
      have hI : (zyEl zymx B H) = (zyEl zymx B s.heap) ∧ (v 1) = x0 0 := hInv
      obtain ⟨hE, i1⟩ := hI
      have z74_36 : ((2147483648 : Nat) : Int) ≤ xE (zyEl zymx B H2) 74 36 + 2147483648 ∧ xE (zyEl zymx B H2) 74 36 + 2147483648 ≤ ((2147483657 : Nat) : Int) := xTyF hT2 74 36 36 rfl rfl rfl rfl rfl rfl
      have z74_40 : ((2147483648 : Nat) : Int) ≤ xE (zyEl zymx B H2) 74 40 + 2147483648 ∧ xE (zyEl zymx B H2) 74 40 + 2147483648 ≤ ((2147483652 : Nat) : Int) := xTyF hT2 74 40 40 rfl rfl rfl rfl rfl rfl
      refine xGo hIH hAt hB hv hFr ⟨1, by decide⟩ [0, 34359738369] [0, (v2 1), xE (zyEl zymx B H2) 74 36, xE (zyEl zymx B H2) 74 40] rfl ⟨by decide +kernel, ⟨rfl, by decide +kernel⟩, (xcs_c rfl (xcs_c rfl xcs_n)), (xe_0 (xe_f (by omega) (xe_c (by omega) (by omega) rfl (xe_c (by omega) (by omega) rfl xe_n)))), (xkq_c hT2 74 36 (q := 36) rfl rfl rfl rfl rfl rfl rfl rfl rfl rfl rfl (xkq_c hT2 74 40 (q := 40) rfl rfl rfl rfl rfl rfl rfl rfl rfl rfl rfl xkq_n))⟩ xst_n ?_ ?_
      · show (zyEl zymx B H2) = (zyEl zymx B s.heap) ∧ ((v2 1) : Int) = x0 0
        exact ⟨(xFr_n hfr).trans hE, by omega⟩
      · show 2 < 3
        omega
    · have hx : x ∈ [zxfis_ax0] := hx
      have hag : ∀ k, k < 4 → v2 k = v k := hag
      have hfr : xFr [] _ _ := hfr
      have ex := List.mem_singleton.mp hx
      subst ex
      obtain ⟨hF, hBd, hM⟩ := hXs
      have r1 := hr2 1
      have g1 : v2 1 = v 1 := hag 1 (by decide)
      have g2 : v2 2 = v 2 := hag 2 (by decide)
      have g3 : v2 3 = v 3 := hag 3 (by decide)
      have b0 : ((2147483648 : Nat) : Int) ≤ (v2 2) + 2147483648 ∧ (v2 2) + 2147483648 ≤ ((2147483648 : Nat) : Int) := xXb hBd 0 rfl
      have b1 : ((2147483651 : Nat) : Int) ≤ (v2 3) + 2147483648 ∧ (v2 3) + 2147483648 ≤ ((2147483651 : Nat) : Int) := xXb hBd 1 rfl
      have k0 : xE (zyEl zymx B H) 74 36 = v 2 := xKcf hKc 0 rfl rfl
      have k1 : xE (zyEl zymx B H) 74 40 = v 3 := xKcf hKc 1 rfl rfl
      have f0 : (v2 2) = 0 := xXf hF 0 rfl
      have f1 : (v2 3) = 3 := xXf hF 1 rfl
      have e74_36 : xE (zyEl zymx B H2) 74 36 = xE (zyEl zymx B H) 74 36 := xFr_E hfr rfl
      have q74_36 : xE (zyEl zymx B H) 74 36 = xE (zyEl zymx B s.heap) 74 36 := xFr_E hFr0 rfl
      have e74_38 : xE (zyEl zymx B H2) 74 38 = xE (zyEl zymx B H) 74 38 := xFr_E hfr rfl
      have q74_38 : xE (zyEl zymx B H) 74 38 = xE (zyEl zymx B s.heap) 74 38 := xFr_E hFr0 rfl
      have e74_40 : xE (zyEl zymx B H2) 74 40 = xE (zyEl zymx B H) 74 40 := xFr_E hfr rfl
      have q74_40 : xE (zyEl zymx B H) 74 40 = xE (zyEl zymx B s.heap) 74 40 := xFr_E hFr0 rfl
      have e84 : ∀ i, xE (zyEl zymx B H2) 84 i = xE (zyEl zymx B H) 84 i := fun i => xFr_E hfr rfl
      have q84 : ∀ i, xE (zyEl zymx B H) 84 i = xE (zyEl zymx B s.heap) 84 i := fun i => xFr_E hFr0 rfl
      have hI : (zyEl zymx B H) = (zyEl zymx B s.heap) ∧ (v 1) = x0 0 := hInv
      obtain ⟨hE, i1⟩ := hI
      have hP : xE (zyEl zymx B s.heap) 74 36 = 0 → xE (zyEl zymx B s.heap) 74 40 = 3 → xE (zyEl zymx B s.heap) 74 38 ≤ 899 := hΦ
      have hP := hP (by omega) (by omega)
      have z74_38 : ((2147483648 : Nat) : Int) ≤ xE (zyEl zymx B H2) 74 38 + 2147483648 ∧ xE (zyEl zymx B H2) 74 38 + 2147483648 ≤ ((2147484548 : Nat) : Int) := xTyF hT2 74 38 38 rfl rfl rfl rfl rfl rfl
      refine xGo hIH hAt hB hv hFr ⟨2, by decide⟩ [0, 34359738369] [0, (v2 1), xE (zyEl zymx B H2) 74 38] rfl ⟨by decide +kernel, ⟨rfl, by decide +kernel⟩, (xcs_c rfl (xcs_c rfl xcs_n)), (xe_0 (xe_f (by omega) (xe_c (by omega) (by omega) rfl xe_n))), (xkq_c hT2 74 38 (q := 38) rfl rfl rfl rfl rfl rfl rfl rfl rfl rfl rfl xkq_n)⟩ xst_n ?_ ?_
      · show (zyEl zymx B H2) = (zyEl zymx B s.heap) ∧ ((v2 1) : Int) = x0 0 ∧ xE (zyEl zymx B H2) 74 36 = 0 ∧ xE (zyEl zymx B H2) 74 40 = 3
        exact ⟨(xFr_n hfr).trans hE, by omega, by omega, by omega⟩
      · show 1 < 2
        omega
    · cases hx
  · intro x0 E0 E E2 hrx hT0 hΦ i v hT hrv hInv hKc hFr0 x hx v2 hr2 hXs hag hfr hFr hT2
    rcases i with ⟨i, hi⟩
    have hi2 : i = 0 ∨ i = 1 ∨ i = 2 := by omega
    rcases hi2 with rfl | rfl | rfl
    · cases hx
    · have hx : x ∈ [zxfis_ar0, zxfis_ar1, zxfis_ar2] := hx
      have hag : ∀ k, k < 4 → v2 k = v k := hag
      have hfr : xFr [] _ _ := hfr
      rcases List.mem_cons.mp hx with ex | hx
      · subst ex
        obtain ⟨hF, hBd, hM⟩ := hXs
        have g1 : v2 1 = v 1 := hag 1 (by decide)
        have g2 : v2 2 = v 2 := hag 2 (by decide)
        have g3 : v2 3 = v 3 := hag 3 (by decide)
        have b0 : ((2147483649 : Nat) : Int) ≤ (v2 2) + 2147483648 ∧ (v2 2) + 2147483648 ≤ ((2147483657 : Nat) : Int) := xXb hBd 0 rfl
        have k0 : xE E 74 36 = v 2 := xKcf hKc 0 rfl rfl
        have k1 : xE E 74 40 = v 3 := xKcf hKc 1 rfl rfl
        have f0 : ¬ (v2 2) = 0 := xXf hF 0 rfl
        have e74_36 : xE E2 74 36 = xE E 74 36 := xFr_E hfr rfl
        have q74_36 : xE E 74 36 = xE E0 74 36 := xFr_E hFr0 rfl
        have e74_38 : xE E2 74 38 = xE E 74 38 := xFr_E hfr rfl
        have q74_38 : xE E 74 38 = xE E0 74 38 := xFr_E hFr0 rfl
        have e74_40 : xE E2 74 40 = xE E 74 40 := xFr_E hfr rfl
        have q74_40 : xE E 74 40 = xE E0 74 40 := xFr_E hFr0 rfl
        have e84 : ∀ i, xE E2 84 i = xE E 84 i := fun i => xFr_E hfr rfl
        have q84 : ∀ i, xE E 84 i = xE E0 84 i := fun i => xFr_E hFr0 rfl
        have hI : E = E0 ∧ (v 1) = x0 0 := hInv
        show xΨis x0 E0 E2 0
        obtain ⟨hE, i1⟩ := hI
        unfold xΨis
        rw [if_neg (by omega)]
      · skip
        rcases List.mem_cons.mp hx with ex | hx
        · subst ex
          obtain ⟨hF, hBd, hM⟩ := hXs
          have g1 : v2 1 = v 1 := hag 1 (by decide)
          have g2 : v2 2 = v 2 := hag 2 (by decide)
          have g3 : v2 3 = v 3 := hag 3 (by decide)
          have b0 : ((2147483648 : Nat) : Int) ≤ (v2 2) + 2147483648 ∧ (v2 2) + 2147483648 ≤ ((2147483648 : Nat) : Int) := xXb hBd 0 rfl
          have b1 : ((2147483652 : Nat) : Int) ≤ (v2 3) + 2147483648 ∧ (v2 3) + 2147483648 ≤ ((2147483652 : Nat) : Int) := xXb hBd 1 rfl
          have k0 : xE E 74 36 = v 2 := xKcf hKc 0 rfl rfl
          have k1 : xE E 74 40 = v 3 := xKcf hKc 1 rfl rfl
          have f0 : (v2 2) = 0 := xXf hF 0 rfl
          have f1 : ¬ (v2 3) = 3 := xXf hF 1 rfl
          have e74_36 : xE E2 74 36 = xE E 74 36 := xFr_E hfr rfl
          have q74_36 : xE E 74 36 = xE E0 74 36 := xFr_E hFr0 rfl
          have e74_38 : xE E2 74 38 = xE E 74 38 := xFr_E hfr rfl
          have q74_38 : xE E 74 38 = xE E0 74 38 := xFr_E hFr0 rfl
          have e74_40 : xE E2 74 40 = xE E 74 40 := xFr_E hfr rfl
          have q74_40 : xE E 74 40 = xE E0 74 40 := xFr_E hFr0 rfl
          have e84 : ∀ i, xE E2 84 i = xE E 84 i := fun i => xFr_E hfr rfl
          have q84 : ∀ i, xE E 84 i = xE E0 84 i := fun i => xFr_E hFr0 rfl
          have hI : E = E0 ∧ (v 1) = x0 0 := hInv
          show xΨis x0 E0 E2 0
          obtain ⟨hE, i1⟩ := hI
          unfold xΨis
          rw [if_neg (by omega)]
        · skip
          have ex := List.mem_singleton.mp hx
          subst ex
          obtain ⟨hF, hBd, hM⟩ := hXs
          have g1 : v2 1 = v 1 := hag 1 (by decide)
          have g2 : v2 2 = v 2 := hag 2 (by decide)
          have g3 : v2 3 = v 3 := hag 3 (by decide)
          have b0 : ((2147483648 : Nat) : Int) ≤ (v2 2) + 2147483648 ∧ (v2 2) + 2147483648 ≤ ((2147483648 : Nat) : Int) := xXb hBd 0 rfl
          have b1 : ((2147483648 : Nat) : Int) ≤ (v2 3) + 2147483648 ∧ (v2 3) + 2147483648 ≤ ((2147483650 : Nat) : Int) := xXb hBd 1 rfl
          have k0 : xE E 74 36 = v 2 := xKcf hKc 0 rfl rfl
          have k1 : xE E 74 40 = v 3 := xKcf hKc 1 rfl rfl
          have f0 : (v2 2) = 0 := xXf hF 0 rfl
          have f1 : ¬ (v2 3) = 3 := xXf hF 1 rfl
          have e74_36 : xE E2 74 36 = xE E 74 36 := xFr_E hfr rfl
          have q74_36 : xE E 74 36 = xE E0 74 36 := xFr_E hFr0 rfl
          have e74_38 : xE E2 74 38 = xE E 74 38 := xFr_E hfr rfl
          have q74_38 : xE E 74 38 = xE E0 74 38 := xFr_E hFr0 rfl
          have e74_40 : xE E2 74 40 = xE E 74 40 := xFr_E hfr rfl
          have q74_40 : xE E 74 40 = xE E0 74 40 := xFr_E hFr0 rfl
          have e84 : ∀ i, xE E2 84 i = xE E 84 i := fun i => xFr_E hfr rfl
          have q84 : ∀ i, xE E 84 i = xE E0 84 i := fun i => xFr_E hFr0 rfl
          have hI : E = E0 ∧ (v 1) = x0 0 := hInv
          show xΨis x0 E0 E2 0
          obtain ⟨hE, i1⟩ := hI
          unfold xΨis
          rw [if_neg (by omega)]
    · have hx : x ∈ [zxfis_br0, zxfis_br1] := hx
      have hag : ∀ k, k < 3 → v2 k = v k := hag
      have hfr : xFr [] _ _ := hfr
      rcases List.mem_cons.mp hx with ex | hx
      · subst ex
        obtain ⟨hF, hBd, hM⟩ := hXs
        have r1 := hr2 1
        have g1 : v2 1 = v 1 := hag 1 (by decide)
        have g2 : v2 2 = v 2 := hag 2 (by decide)
        have b0 : ((2147483648 : Nat) : Int) ≤ (v2 2) + 2147483648 ∧ (v2 2) + 2147483648 ≤ ((2147484547 : Nat) : Int) := xXb hBd 0 rfl
        have b1 : ((2147483520 : Nat) : Int) ≤ (v2 3) + 2147483648 ∧ (v2 3) + 2147483648 ≤ ((2147483775 : Nat) : Int) := xXb hBd 1 rfl
        have k0 : xE E 74 38 = v 2 := xKcf hKc 0 rfl rfl
        have f0 : (0 : Int) ≤ (v2 2) ∧ xE E 84 (v2 2) = (v2 3) := xXf hF 0 rfl
        have f1 : ¬ (v2 3) = (v2 1) := xXf hF 1 rfl
        have e74_36 : xE E2 74 36 = xE E 74 36 := xFr_E hfr rfl
        have q74_36 : xE E 74 36 = xE E0 74 36 := xFr_E hFr0 rfl
        have e74_38 : xE E2 74 38 = xE E 74 38 := xFr_E hfr rfl
        have q74_38 : xE E 74 38 = xE E0 74 38 := xFr_E hFr0 rfl
        have e74_40 : xE E2 74 40 = xE E 74 40 := xFr_E hfr rfl
        have q74_40 : xE E 74 40 = xE E0 74 40 := xFr_E hFr0 rfl
        have e84 : ∀ i, xE E2 84 i = xE E 84 i := fun i => xFr_E hfr rfl
        have q84 : ∀ i, xE E 84 i = xE E0 84 i := fun i => xFr_E hFr0 rfl
        have hI : E = E0 ∧ (v 1) = x0 0 ∧ xE E 74 36 = 0 ∧ xE E 74 40 = 3 := hInv
        show xΨis x0 E0 E2 0
        obtain ⟨hE, i1, i2, i3⟩ := hI
        have t0 : xE E0 84 (xE E0 74 38) = (v2 3) := by rw [← q84, show xE E0 74 38 = (v2 2) by omega]; exact f0.2
        unfold xΨis
        rw [if_neg (by omega)]
      · skip
        have ex := List.mem_singleton.mp hx
        subst ex
        obtain ⟨hF, hBd, hM⟩ := hXs
        have r1 := hr2 1
        have g1 : v2 1 = v 1 := hag 1 (by decide)
        have g2 : v2 2 = v 2 := hag 2 (by decide)
        have b0 : ((2147483648 : Nat) : Int) ≤ (v2 2) + 2147483648 ∧ (v2 2) + 2147483648 ≤ ((2147484547 : Nat) : Int) := xXb hBd 0 rfl
        have b1 : ((2147483520 : Nat) : Int) ≤ (v2 3) + 2147483648 ∧ (v2 3) + 2147483648 ≤ ((2147483775 : Nat) : Int) := xXb hBd 1 rfl
        have k0 : xE E 74 38 = v 2 := xKcf hKc 0 rfl rfl
        have f0 : (0 : Int) ≤ (v2 2) ∧ xE E 84 (v2 2) = (v2 3) := xXf hF 0 rfl
        have f1 : (v2 3) = (v2 1) := xXf hF 1 rfl
        have e74_36 : xE E2 74 36 = xE E 74 36 := xFr_E hfr rfl
        have q74_36 : xE E 74 36 = xE E0 74 36 := xFr_E hFr0 rfl
        have e74_38 : xE E2 74 38 = xE E 74 38 := xFr_E hfr rfl
        have q74_38 : xE E 74 38 = xE E0 74 38 := xFr_E hFr0 rfl
        have e74_40 : xE E2 74 40 = xE E 74 40 := xFr_E hfr rfl
        have q74_40 : xE E 74 40 = xE E0 74 40 := xFr_E hFr0 rfl
        have e84 : ∀ i, xE E2 84 i = xE E 84 i := fun i => xFr_E hfr rfl
        have q84 : ∀ i, xE E 84 i = xE E0 84 i := fun i => xFr_E hFr0 rfl
        have hI : E = E0 ∧ (v 1) = x0 0 ∧ xE E 74 36 = 0 ∧ xE E 74 40 = 3 := hInv
        show xΨis x0 E0 E2 1
        obtain ⟨hE, i1, i2, i3⟩ := hI
        have t0 : xE E0 84 (xE E0 74 38) = (v2 3) := by rw [← q84, show xE E0 74 38 = (v2 2) by omega]; exact f0.2
        unfold xΨis
        rw [if_pos (by omega)]
end
section
/-! LETTERS: equal numbers, equal letters -/
theorem lgo_p {T : Int → Int} {p : Int} : ∀ f : Nat, (∀ i : Nat, i < f → 97 ≤ T (p + (i : Int)) ∧ T (p + (i : Int)) ≤ 122) → 0 ≤ lgo T f p 0 := by
  intro f
  induction f with
  | zero => intro _; exact Int.le_refl 0
  | succ f ih =>
    intro h
    rw [lgo_s]
    have h1 := ih (fun i hi => h i (by omega))
    have h2 := h f (by omega)
    omega
theorem lgo_i {T W : Int → Int} {p o : Int} : ∀ f m : Nat, (∀ i : Nat, i < f → 97 ≤ T (p + (i : Int)) ∧ T (p + (i : Int)) ≤ 122) → (∀ i : Nat, i < m → 97 ≤ W (o + (i : Int)) ∧ W (o + (i : Int)) ≤ 122) → lgo T f p 0 = lgo W m o 0 → f = m ∧ ∀ i : Nat, i < f → T (p + (i : Int)) = W (o + (i : Int)) := by
  intro f
  induction f with
  | zero =>
    intro m hT hW he
    cases m with
    | zero => exact ⟨rfl, fun i hi => by omega⟩
    | succ m =>
      exfalso
      rw [lgo_s] at he
      have h1 := lgo_p m (fun i hi => hW i (by omega))
      have h2 := hW m (by omega)
      have he : (0 : Int) = 27 * lgo W m o 0 + W (o + (m : Int)) - 96 := he
      omega
  | succ f ih =>
    intro m hT hW he
    have h3 := lgo_p f (fun i hi => hT i (by omega))
    have h4 := hT f (by omega)
    rw [lgo_s] at he
    cases m with
    | zero =>
      exfalso
      have he : 27 * lgo T f p 0 + T (p + (f : Int)) - 96 = 0 := he
      omega
    | succ m =>
      rw [lgo_s] at he
      have h1 := lgo_p m (fun i hi => hW i (by omega))
      have h2 := hW m (by omega)
      obtain ⟨g1, g2⟩ := ih m (fun i hi => hT i (by omega)) (fun i hi => hW i (by omega)) (by omega)
      refine ⟨by omega, fun i hi => ?_⟩
      by_cases c : i < f
      · exact g2 i c
      · rw [show i = f by omega]
        subst g1
        omega
/-- a word as signs -/
def wFn (w : List Int) (i : Int) : Int := w.getD i.toNat 0
theorem tWb_iff {T : Int → Int} : ∀ (w : List Int) (q : Int), tWb T w q = true ↔ ∀ i : Nat, i < w.length → T (q + (i : Int)) = wFn w (i : Int) := by
  intro w
  induction w with
  | nil => intro q; exact ⟨fun _ i hi => absurd hi (Nat.not_lt_zero _), fun _ => rfl⟩
  | cons a l ih =>
    intro q
    show (decide (T q = a) && tWb T l (q + 1)) = true ↔ _
    rw [Bool.and_eq_true, decide_eq_true_eq, ih]
    constructor
    · rintro ⟨h1, h2⟩ i hi
      cases i with
      | zero => rw [show q + ((0 : Nat) : Int) = q by omega, h1]; rfl
      | succ i =>
        have hi : i + 1 < l.length + 1 := hi
        have h3 := h2 i (by omega)
        rw [show q + ((i + 1 : Nat) : Int) = q + 1 + (i : Int) by omega, h3]
        unfold wFn
        rw [show ((i : Nat) : Int).toNat = i by omega, show (((i + 1 : Nat)) : Int).toNat = i + 1 by omega]
        rfl
    · intro h
      refine ⟨?_, fun i hi => ?_⟩
      · have h1 := h 0 (Nat.succ_pos _)
        rw [show q + ((0 : Nat) : Int) = q by omega] at h1
        rw [h1]
        rfl
      · have h1 := h (i + 1) (Nat.succ_lt_succ hi)
        rw [show q + ((i + 1 : Nat) : Int) = q + 1 + (i : Int) by omega] at h1
        rw [h1]
        unfold wFn
        rw [show ((i : Nat) : Int).toNat = i by omega, show (((i + 1 : Nat)) : Int).toNat = i + 1 by omega]
        rfl
end
section
/-! LETTERS: the long of a token is a word's iff the token is the word -/
theorem trn_a {T : Int → Int} {n k : Int} : ∀ (f : Nat) (q i : Int), q ≤ i → i < trn T n k f q → tk (T i) = k := by
  intro f
  induction f with
  | zero =>
    intro q i h1 h2
    have h2 : i < q := h2
    omega
  | succ f ih =>
    intro q i h1 h2
    have h2 : i < (if q < n ∧ tk (T q) = k then trn T n k f (q + 1) else q) := h2
    by_cases c : q < n ∧ tk (T q) = k
    · rw [if_pos c] at h2
      by_cases e : i = q
      · rw [e]
        exact c.2
      · exact ih (q + 1) i (by omega) h2
    · rw [if_neg c] at h2
      omega
theorem lgo_b {T : Int → Int} {p : Int} : ∀ f : Nat, (∀ i : Nat, i < f → 97 ≤ T (p + (i : Int)) ∧ T (p + (i : Int)) ≤ 122) → lgo T f p 0 < 27 ^ f := by
  intro f
  induction f with
  | zero => intro _; show (0 : Int) < 27 ^ 0; decide
  | succ f ih =>
    intro h
    rw [lgo_s, Int.pow_succ]
    have h1 := ih (fun i hi => h i (by omega))
    have h2 := h f (by omega)
    omega
theorem lgo_b8 {T : Int → Int} {p : Int} {f : Nat} (hf : f ≤ 8) (h : ∀ i : Nat, i < f → 97 ≤ T (p + (i : Int)) ∧ T (p + (i : Int)) ≤ 122) : 0 ≤ lgo T f p 0 ∧ lgo T f p 0 < 282429536481 := by
  refine ⟨lgo_p f h, ?_⟩
  have h1 := lgo_b f h
  have h2 : (27 : Int) ^ f ≤ 282429536481 := by
    have : f = 0 ∨ f = 1 ∨ f = 2 ∨ f = 3 ∨ f = 4 ∨ f = 5 ∨ f = 6 ∨ f = 7 ∨ f = 8 := by omega
    rcases this with rfl | rfl | rfl | rfl | rfl | rfl | rfl | rfl | rfl <;> decide
  omega
theorem tk2_i {s : Int} (h : tk s = 2) : 97 ≤ s ∧ s ≤ 122 := by
  unfold tk at h
  by_cases c : 97 ≤ s ∧ s ≤ 122
  · exact c
  · exfalso
    rw [if_neg c] at h
    revert h
    split
    · decide
    · split
      · decide
      · split <;> decide
theorem lLt_w {T : Int → Int} {f e : Int} {w : List Int} (hfe : f ≤ e) (hT : ∀ i : Int, f ≤ i → i < e → 97 ≤ T i ∧ T i ≤ 122) (hl : w.length ≤ 8) (hw : ∀ i : Nat, i < w.length → 97 ≤ wFn w (0 + (i : Int)) ∧ wFn w (0 + (i : Int)) ≤ 122) : lLt T f e = Int64.ofInt (lgo (wFn w) w.length 0 0) ↔ e - f = (w.length : Int) ∧ tWb T w f = true := by
  have hW := lgo_b8 hl hw
  have hT2 : ∀ i : Nat, i < (e - f).toNat → 97 ≤ T (f + (i : Int)) ∧ T (f + (i : Int)) ≤ 122 := fun i hi => hT _ (by omega) (by omega)
  have inj : ∀ a b : Int, -1 ≤ a → a < 282429536481 → 0 ≤ b → b < 282429536481 → Int64.ofInt a = Int64.ofInt b → a = b := by
    intro a b h1 h2 h3 h4 h5
    have h6 := congrArg Int64.toInt h5
    rw [Int64.toInt_ofInt_of_le (by omega) (by omega), Int64.toInt_ofInt_of_le (by omega) (by omega)] at h6
    exact h6
  unfold lLt
  by_cases c : e - f ≤ 8
  · rw [if_pos c]
    have hb := lgo_b8 (T := T) (p := f) (f := (e - f).toNat) (by omega) hT2
    unfold lVl
    constructor
    · intro h
      obtain ⟨g1, g2⟩ := lgo_i (o := 0) _ _ hT2 hw (inj _ _ (by omega) hb.2 hW.1 hW.2 h)
      refine ⟨by omega, (tWb_iff w f).mpr (fun i hi => ?_)⟩
      rw [g2 i (by omega), show (0 : Int) + (i : Int) = i by omega]
    · rintro ⟨h1, h2⟩
      have h3 := (tWb_iff w f).mp h2
      rw [show (e - f).toNat = w.length by omega]
      congr 1
      have : ∀ m : Nat, m ≤ w.length → lgo T m f 0 = lgo (wFn w) m 0 0 := by
        intro m
        induction m with
        | zero => intro _; rfl
        | succ m ih =>
          intro hm
          rw [lgo_s, lgo_s, ih (by omega), h3 m (by omega), show (0 : Int) + (m : Int) = m by omega]
      exact this _ (Nat.le_refl _)
  · rw [if_neg c]
    constructor
    · intro h
      have h2 : Int64.ofInt (-1) = Int64.ofInt (lgo (wFn w) w.length 0 0) := h
      have := inj _ _ (by omega) (by omega) hW.1 hW.2 h2
      omega
    · rintro ⟨h1, -⟩
      omega
end
section
/-! isWord: to the phase behind the comparison of longs, one int on the stack -/
section XLG2
variable {l : Launch} {en : zEn} {B : zCx} {s : State} {fpm : zyR} {ι : Type} {φ : ι → zyPh} {Inv : ι → (Nat → Int) → zyEm → Prop} {Mu : ι → (Nat → Int) → zyEm → Nat} {M : Nat} {Wg : zyWt} {x : zyXp} {ρ2 : Nat → Int32} {v2 : Nat → Int} {N : Nat} {H : Heap} {locs : List Loc} {lsB : Array Slot} {stA : List Value}
theorem xLgo2 (hRl : xRl zymx en B s Wg) (hIH : xIH zymx en.2.2.1 B s fpm φ Inv Mu M Wg) (hAt : zyAt zymx B s en.2.2.1 x ρ2 N H locs lsB stA) (hB : xBd ρ2 x.2.2.2.2.1) (hv : ∀ k, xI (ρ2 k) = v2 k) (hFr : xFr fpm (zyEl zymx B s.heap) (zyEl zymx B H)) (hen : en.1 = zxi316) (hl0 : x.2.1[0]? = some 595) (c1 : Nat) (hl1 : x.2.1[1]? = some c1) (hc8 : Nat.ble (Nat.mod c1 8) 1 = true) (hcB : xofB x.2.2.2.2.1 c1 = true) (W : Int) (hW : xc v2 c1 = W) (hW0 : 0 ≤ W ∧ W < 9) (hst : x.2.2.1 = []) (hpc : x.1 = 15) {L L2 : Int64} (h1 : zyEl zymx B H 74 43 = some (.long L)) (h2 : zyEl zymx B H 85 W.toNat = some (.long L2))
    (kk : ∃ (i2 : ι) (cs : List Nat) (Ls : List Int) (k : Nat), (φ i2).1 = 26 ∧ xJ zymx B en.2.2.1 x v2 (φ i2) (zyEl zymx B H) cs Ls ∧ (φ i2).2.2.2.2 = [zysym k] ∧ k < (φ i2).2.2.1.length ∧ xfv Ls k = xI (lg_cmp L L2) ∧ Inv i2 (xfv Ls) (zyEl zymx B H) ∧ Mu i2 (xfv Ls) (zyEl zymx B H) < M) : Wg H locs x.1 lsB stA := by
  have hs := hAt.2.2.2.2.2
  rw [hst] at hs
  have e3 := zySt_n hs
  subst e3
  have hc8 : c1 % 8 ≤ 1 := Nat.le_of_ble_eq_true hc8
  obtain ⟨w1, g1, g2⟩ := hAt.2.2.2.2.1 0 595 hl0 (by decide)
  have e4 := zyv_3 g2 (by decide)
  have e4 : w1 = .ref (zad B 74) := e4
  subst e4
  obtain ⟨w2, g3, g4⟩ := hAt.2.2.2.2.1 1 c1 hl1 (by omega)
  obtain ⟨z, rfl⟩ := zyv_int g4 (by omega)
  have e0 : xI z = W := by
    rw [show z = zyw ρ2 c1 from zyw_of g4 hc8, xofB_iff hv hB hcB]
    exact hW
  have e1 : z = Int32.ofNat W.toNat := by
    apply xI_inj
    rw [e0, xI_nat (by omega)]
    have : xsg W.toNat = ((W.toNat : Nat) : Int) := if_pos (by omega)
    omega
  rw [e1] at g3
  rw [hpc]
  refine xLi hRl hen (c74 := zymr74) rfl rfl (c85 := (21, 9, [(0, 8, 147573952589676412932)])) rfl rfl hAt.1 g1 (q := W.toNat) g3 (show W.toNat < 9 by omega) h1 (zyMI_ref hAt.1 (q := 44) (p := 85) (c := zymr74) rfl (by decide) rfl (by decide) (by decide) rfl) h2 ?_
  obtain ⟨i2, cs, Ls, k, p1, p2, p3, p4, p5, p6, p7⟩ := kk
  have g := (xe_env p2.2.2.2.1).2
  rw [← p1]
  refine hIH i2 (xfv Ls) H locs lsB _ hAt.1 hAt.2.1 hFr g p6 (xJ_s hAt hB hv p2 hAt.2.2.1 ?_) p7
  rw [p3]
  refine ⟨zyv_sym p4 ?_, trivial⟩
  show Int32.ofInt (xfv Ls k) = _
  rw [p5]
  exact xofI _
end XLG2
theorem xcmp_0 {a b : Int64} : xI (lg_cmp a b) = 0 ↔ a = b := by
  rw [← lg_cmp_eq]
  constructor
  · intro h
    apply xI_inj
    rw [h]
    rfl
  · intro h
    rw [h]
    rfl
end
section
/-! THE REFERENCE stands at a token -/
section STD
variable {T : Int → Int} {n p : Int}
theorem tsp_x : ∀ (f : Nat) (p : Int), n - p ≤ (f : Int) → ¬ (tsp T n f p < n ∧ (T (tsp T n f p) = 10 ∨ T (tsp T n f p) = 32)) := by
  intro f
  induction f with
  | zero =>
    intro p h hc
    have hc : p < n ∧ (T p = 10 ∨ T p = 32) := hc
    omega
  | succ f ih =>
    intro p h
    show ¬ ((if p < n ∧ (T p = 10 ∨ T p = 32) then tsp T n f (p + 1) else p) < n ∧ (T (if p < n ∧ (T p = 10 ∨ T p = 32) then tsp T n f (p + 1) else p) = 10 ∨ T (if p < n ∧ (T p = 10 ∨ T p = 32) then tsp T n f (p + 1) else p) = 32))
    by_cases c : p < n ∧ (T p = 10 ∨ T p = 32)
    · rw [if_pos c]
      exact ih (p + 1) (by omega)
    · rw [if_neg c]
      exact c
theorem tFr_f (T : Int → Int) (n p : Int) : tFr T n (tFr T n p) = tFr T n p := tFr_e (tsp_x (n - p).toNat p (by omega))
theorem tNx_f : tNx T n (tFr T n p) = tNx T n p := by
  unfold tNx
  rw [tFr_f]
theorem tKd_f : tKd T n (tFr T n p) = tKd T n p := by
  unfold tKd
  rw [tFr_f, tNx_f]
theorem tNm_f : tNm T n (tFr T n p) = tNm T n p := by
  unfold tNm
  rw [tFr_f, tNx_f]
theorem pMis_f : pMis T n (tFr T n p) = pMis T n p := by
  unfold pMis
  rw [tKd_f]
theorem tW_f {w : List Int} : tW T n (tFr T n p) w = tW T n p w := by
  unfold tW
  rw [tFr_f, tNx_f, tKd_f]
theorem pNum_f {lo hi : Int} {k : Int → Int → pR} : pNum T n (tFr T n p) lo hi k = pNum T n p lo hi k := by
  unfold pNum
  rw [tFr_f, tNx_f, tKd_f, tNm_f, pMis_f]
theorem pSem_f {S : Int → Int} : pSem T n (tFr T n p) S = pSem T n p S := by
  unfold pSem
  rw [tFr_f, tNx_f, tKd_f, pMis_f]
theorem tKd_i (h : p ≤ n) : (tKd T n p = 0 → tFr T n p = n) ∧ (¬ tKd T n p = 0 → tFr T n p < n) := by
  have h1 := tFr_b (T := T) h
  have h2 := tKd_0 (T := T) h
  omega
theorem tKd_s (h : tFr T n p < n) : (tKd T n p = 4 ↔ T (tFr T n p) = 45) ∧ (tKd T n p = 5 ↔ T (tFr T n p) = 59) := by
  by_cases c : tk (T (tFr T n p)) = 3 ∧ 3 < tNx T n p - tFr T n p
  · rw [tKd_b h c.1 c.2]
    have h1 := c.1
    unfold tk at h1
    by_cases c1 : 97 ≤ T (tFr T n p) ∧ T (tFr T n p) ≤ 122
    · rw [if_pos c1] at h1
      omega
    · rw [if_neg c1] at h1
      by_cases c2 : 48 ≤ T (tFr T n p) ∧ T (tFr T n p) ≤ 57
      · omega
      · rw [if_neg c2] at h1
        revert h1
        split
        · intro h; omega
        · split
          · intro h; omega
          · intro h; omega
  · rw [tKd_k h c]
    unfold tk
    by_cases c1 : 97 ≤ T (tFr T n p) ∧ T (tFr T n p) ≤ 122
    · rw [if_pos c1]
      omega
    · rw [if_neg c1]
      by_cases c2 : 48 ≤ T (tFr T n p) ∧ T (tFr T n p) ≤ 57
      · rw [if_pos c2]
        omega
      · rw [if_neg c2]
        by_cases c3 : T (tFr T n p) = 45
        · rw [if_pos c3]
          omega
        · rw [if_neg c3]
          by_cases c4 : T (tFr T n p) = 59
          · rw [if_pos c4]
            omega
          · rw [if_neg c4]
            omega
end STD
/-- what is known where the reference stands at p -/
theorem xRD_i {T : Int → Int} {n p : Int} {E : zyEm} (h : xRD T n p E) (h0 : p ≤ n) : xE E 74 38 = tFr T n p ∧ (p ≤ tFr T n p ∧ tFr T n p ≤ n) ∧ (0 ≤ tKd T n p ∧ tKd T n p ≤ 5) ∧ ((tKd T n p = 0 ∧ xE E 74 40 = 0) ∨ (tKd T n p = 2 ∧ xE E 74 40 = 1) ∨ (tKd T n p = 3 ∧ xE E 74 40 = 2) ∨ ((tKd T n p = 4 ∨ tKd T n p = 5) ∧ xE E 74 40 = 3) ∨ (tKd T n p = 1 ∧ xE E 74 40 = 4)) ∧ (¬ tKd T n p = 0 → xE E 74 39 = tNx T n p ∧ tNx T n p ≤ n ∧ p < tNx T n p ∧ tFr T n p < n) ∧ (tKd T n p = 0 → tFr T n p = n) ∧ (tKd T n p = 3 → xE E 74 41 = tNm T n p) ∧ (tKd T n p = 4 ↔ xE E 74 40 = 3 ∧ T (tFr T n p) = 45) ∧ (tKd T n p = 5 ↔ xE E 74 40 = 3 ∧ T (tFr T n p) = 59) := by
  obtain ⟨h1, h2, h3, h4, h5, h6⟩ := h
  have hr := tKd_r (T := T) (n := n) (p := p)
  have hi := tKd_i (T := T) h0
  have hx := tNx_b (T := T) h0
  have hb := tFr_b (T := T) h0
  have hs : tFr T n p < n → (tKd T n p = 4 ↔ T (tFr T n p) = 45) ∧ (tKd T n p = 5 ↔ T (tFr T n p) = 59) := fun hl => tKd_s hl
  unfold rKd at h2
  have hk : (tKd T n p = 0 ∧ xE E 74 40 = 0) ∨ (tKd T n p = 2 ∧ xE E 74 40 = 1) ∨ (tKd T n p = 3 ∧ xE E 74 40 = 2) ∨ ((tKd T n p = 4 ∨ tKd T n p = 5) ∧ xE E 74 40 = 3) ∨ (tKd T n p = 1 ∧ xE E 74 40 = 4) := by
    split at h2
    · omega
    · split at h2
      · omega
      · split at h2
        · omega
        · split at h2 <;> omega
  refine ⟨h1, hb, hr, hk, fun hz => ?_, fun hz => ?_, h5, ?_, ?_⟩
  · have := hi.2 hz
    have h3 := h3 this
    have := hx.2.2 this
    exact ⟨h3, hx.2.1, by omega, by omega⟩
  · exact hi.1 hz
  · constructor
    · intro hz
      have := hi.2 (by omega)
      exact ⟨by omega, ((hs (by omega)).1).mp hz⟩
    · rintro ⟨hz, hz2⟩
      have := hi.2 (by omega)
      exact ((hs (by omega)).1).mpr hz2
  · constructor
    · intro hz
      have := hi.2 (by omega)
      exact ⟨by omega, ((hs (by omega)).2).mp hz⟩
    · rintro ⟨hz, hz2⟩
      have := hi.2 (by omega)
      exact ((hs (by omega)).2).mpr hz2
/-- a fault is told -/
def xEr (E : zyEm) (R : pR) : Prop := 1 ≤ xE E 74 36 ∧ R = .error (xE E 74 36, xE E 74 37)
theorem xEr_k {E E2 : zyEm} {R : pR} (h : xEr E R) (h1 : xE E2 74 36 = xE E 74 36) (h2 : xE E2 74 37 = xE E 74 37) : xEr E2 R := by
  unfold xEr
  rw [h1, h2]
  exact h
theorem xEr_n {E : zyEm} {f a : Int} (hf : 1 ≤ f) (h1 : xE E 74 36 = f) (h2 : xE E 74 37 = a) : xEr E (.error (f, a)) := by
  unfold xEr
  rw [h1, h2]
  exact ⟨hf, rfl⟩
/-- what reading comes to -/
def xRs (T : Int → Int) (n : Int) (E2 : zyEm) (R : pR) : Prop := match R with
  | .ok (q, S) => xE E2 74 36 = 0 ∧ q ≤ n ∧ xRD T n q E2 ∧ ∀ k, 0 ≤ k → k < 520 → xE E2 75 k = S k
  | .error (f, a) => 1 ≤ f ∧ xE E2 74 36 = f ∧ xE E2 74 37 = a
theorem xRs_e {T : Int → Int} {n : Int} {E : zyEm} {R : pR} (h : xEr E R) : xRs T n E R := by
  rw [h.2]
  exact ⟨h.1, rfl, rfl⟩
theorem xRs_r {T : Int → Int} {n : Int} {E : zyEm} {R : pR} (h : xRs T n E R) (hw : ¬ xE E 74 36 = 0) : xEr E R := by
  cases R with
  | ok x => exact absurd h.1 hw
  | error e =>
    obtain ⟨f, a⟩ := e
    obtain ⟨h1, h2, h3⟩ := h
    exact xEr_n h1 h2 h3
theorem xRs_o {T : Int → Int} {n : Int} {E : zyEm} {R : pR} (h : xRs T n E R) (hw : xE E 74 36 = 0) : ∃ q S, R = .ok (q, S) ∧ q ≤ n ∧ xRD T n q E ∧ ∀ k, 0 ≤ k → k < 520 → xE E 75 k = S k := by
  cases R with
  | ok x => exact ⟨x.1, x.2, rfl, h.2⟩
  | error e =>
    obtain ⟨f, a⟩ := e
    obtain ⟨h1, h2, h3⟩ := h
    omega
theorem xTm_g {T : Int → Int} {n p : Int} {E E2 : zyEm} {r : Int} {x : Nat → Int} (h : xΨtm x E E2 r) (hw : xE E 74 36 = 0) (hs : xRD T n p E) (hp : p ≤ n) (hT : ∀ i, xE E 84 i = T i) (hn : xE E 74 42 = n) :
    (xE E2 74 36 = 0 ∧ xRD T n (tNx T n p) E2 ∧ tNx T n p ≤ n ∧ p < tNx T n p ∧ x 0 ≤ r ∧ r ≤ x 1 ∧ ∀ k, pNum T n p (x 0) (x 1) k = k r (tNx T n p)) ∨ (∀ k, xEr E2 (pNum T n p (x 0) (x 1) k)) := by
  have hT : T = xE E 84 := (funext hT).symm
  subst hT
  subst hn
  obtain ⟨s1, s1b, s2, s3, s4, s5, s6, s7, s8⟩ := xRD_i hs hp
  unfold xΨtm at h
  rw [if_pos hw] at h
  by_cases c2 : xE E 74 40 = 2
  · have k3 : tKd (xE E 84) (xE E 74 42) p = 3 := by omega
    rw [if_pos c2] at h
    by_cases c3 : x 0 ≤ xE E 74 41 ∧ xE E 74 41 ≤ x 1
    · rw [if_pos c3] at h
      obtain ⟨h1, h2, h3⟩ := h
      have s4 := s4 (by omega)
      have s6 := s6 k3
      rw [s4.1] at h3
      refine Or.inl ⟨h1, h3, s4.2.1, s4.2.2.1, by omega, by omega, fun k => ?_⟩
      unfold pNum
      rw [if_pos k3, ← s6, if_pos c3, h2]
    · rw [if_neg c3] at h
      refine Or.inr (fun k => ?_)
      unfold pNum
      rw [if_pos k3, ← s6 k3, if_neg c3]
      exact xEr_n (by omega) h.1 (by omega)
  · rw [if_neg c2] at h
    refine Or.inr (fun k => ?_)
    unfold pNum pMis
    rw [if_neg (show ¬ tKd (xE E 84) (xE E 74 42) p = 3 by omega)]
    by_cases c1 : tKd (xE E 84) (xE E 74 42) p = 1
    · rw [if_pos (show xE E 74 40 = 4 by omega)] at h
      rw [if_pos c1]
      exact xEr_n (by omega) h.1 (by omega)
    · rw [if_neg (show ¬ xE E 74 40 = 4 by omega)] at h
      rw [if_neg c1]
      exact xEr_n (by omega) h.1 (by omega)
theorem xTk_g {T : Int → Int} {n p : Int} {E E2 : zyEm} {r : Int} {x : Nat → Int} (h : xΨtk x E E2 r) (hw : xE E 74 36 = 0) (hs : xRD T n p E) (hp : p ≤ n) (hT : ∀ i, xE E 84 i = T i) (hn : xE E 74 42 = n) :
    (¬ x 0 = 0 → ¬ tKd T n p = 0 → xE E2 74 36 = 0 ∧ xRD T n (tNx T n p) E2 ∧ tNx T n p ≤ n ∧ p < tNx T n p) ∧ (x 0 = 0 → xEr E2 (.error (pMis T n p, tFr T n p))) := by
  have hT : T = xE E 84 := (funext hT).symm
  subst hT
  subst hn
  obtain ⟨s1, s1b, s2, s3, s4, s5, s6, s7, s8⟩ := xRD_i hs hp
  unfold xΨtk at h
  rw [if_pos hw] at h
  constructor
  · intro hx hk
    rw [if_neg hx] at h
    obtain ⟨h1, h2⟩ := h
    have s4 := s4 hk
    rw [s4.1] at h2
    exact ⟨h1, h2, s4.2.1, s4.2.2.1⟩
  · intro hx
    rw [if_pos hx] at h
    unfold pMis
    by_cases c1 : tKd (xE E 84) (xE E 74 42) p = 1
    · rw [if_pos (show xE E 74 40 = 4 by omega)] at h
      rw [if_pos c1]
      exact xEr_n (by omega) h.1 (by omega)
    · rw [if_neg (show ¬ xE E 74 40 = 4 by omega)] at h
      rw [if_neg c1]
      exact xEr_n (by omega) h.1 (by omega)
theorem xIs_g {T : Int → Int} {n p : Int} {E E2 : zyEm} {r : Int} {x : Nat → Int} (h : xΨis x E E2 r) (hw : xE E 74 36 = 0) (hs : xRD T n p E) (hp : p ≤ n) (hT : ∀ i, xE E 84 i = T i) : (x 0 = 45 → r = if tKd T n p = 4 then 1 else 0) ∧ (x 0 = 59 → r = if tKd T n p = 5 then 1 else 0) := by
  have hT : T = xE E 84 := (funext hT).symm
  subst hT
  obtain ⟨s1, s1b, s2, s3, s4, s5, s6, s7, s8⟩ := xRD_i hs hp
  unfold xΨis at h
  rw [← s1] at s7 s8
  constructor
  · intro hx
    rw [hx] at h
    by_cases c : tKd (xE E 84) n p = 4
    · rw [if_pos c]
      rw [if_pos ⟨hw, s7.mp c⟩] at h
      exact h
    · rw [if_neg c]
      rw [if_neg (fun z => c (s7.mpr z.2))] at h
      exact h
  · intro hx
    rw [hx] at h
    by_cases c : tKd (xE E 84) n p = 5
    · rw [if_pos c]
      rw [if_pos ⟨hw, s8.mp c⟩] at h
      exact h
    · rw [if_neg c]
      rw [if_neg (fun z => c (s8.mpr z.2))] at h
      exact h
/-- the words, in the reference's order -/
def wrd (k : Nat) : List Int := if k = 0 then [115, 105, 122, 101] else if k = 1 then [115, 119, 105, 116, 99, 104] else if k = 2 then [98, 111, 98, 98, 105, 110] else if k = 3 then [115, 116, 117, 99, 107] else if k = 4 then [111, 112, 101, 110] else if k = 5 then [115, 104, 117, 116] else if k = 6 then [102, 114, 101, 101] else if k = 7 then [112, 108, 97, 99, 101] else [119, 111, 114, 100]
theorem wrd_b (k : Nat) : (wrd k).length ≤ 8 ∧ ∀ i : Nat, i < (wrd k).length → 97 ≤ wFn (wrd k) (0 + (i : Int)) ∧ wFn (wrd k) (0 + (i : Int)) ≤ 122 := by
  have h : ∀ k : Nat, k < 9 → (wrd k).length ≤ 8 ∧ ∀ i : Nat, i < 9 → i < (wrd k).length → 97 ≤ wFn (wrd k) (0 + (i : Int)) ∧ wFn (wrd k) (0 + (i : Int)) ≤ 122 := by decide +kernel
  by_cases c : k < 9
  · obtain ⟨h1, h2⟩ := h k c
    exact ⟨h1, fun i hi => h2 i (by omega) hi⟩
  · have e : wrd k = wrd 8 := by
      unfold wrd
      rw [if_neg (by omega), if_neg (by omega), if_neg (by omega), if_neg (by omega), if_neg (by omega), if_neg (by omega), if_neg (by omega), if_neg (by omega)]
      rfl
    rw [e]
    obtain ⟨h1, h2⟩ := h 8 (by omega)
    exact ⟨h1, fun i hi => h2 i (by omega) hi⟩
/-- the words' longs stand at place 85 -/
def xWs (E : zyEm) : Prop := ∀ k : Nat, k < 9 → E 85 k = some (.long (Int64.ofInt (lgo (wFn (wrd k)) (wrd k).length 0 0)))
theorem tW_l {T : Int → Int} {n p : Int} {k : Nat} (h : p ≤ n) (hk : tKd T n p = 2) : lLt T (tFr T n p) (tNx T n p) = Int64.ofInt (lgo (wFn (wrd k)) (wrd k).length 0 0) ↔ tW T n p (wrd k) = true := by
  obtain ⟨b1, b2⟩ := wrd_b k
  have hb := tNx_b (T := T) h
  have hl : tFr T n p < n := (tKd_i h).2 (by omega)
  have hk2 : tk (T (tFr T n p)) = 2 := by
    by_cases c : tk (T (tFr T n p)) = 3 ∧ 3 < tNx T n p - tFr T n p
    · rw [tKd_b hl c.1 c.2] at hk
      omega
    · rw [tKd_k hl c] at hk
      exact hk
  have hx := tNx_k hl (Or.inl hk2)
  rw [hk2] at hx
  rw [lLt_w hb.1 (fun i h1 h2 => tk2_i ?_) b1 b2]
  · unfold tW sW
    rw [Bool.and_eq_true, Bool.and_eq_true, decide_eq_true_eq, decide_eq_true_eq]
    exact ⟨fun g => ⟨hk, g⟩, fun g => g.2⟩
  · by_cases e : i = tFr T n p
    · rw [e]
      exact hk2
    · rw [hx] at h2
      exact trn_a _ _ i (by omega) h2
end
section
/-! THE REFERENCE: is it this word? (printed by m20.py) -/
noncomputable def zxfiw_zx0 : zyXp := (0, [595, 34359738369], [], [], [], [])
noncomputable def zpfiw_z : zyPh := (0, [595, 34359738369], [(0, 4294967295), (0, 4294967295)], [], [])
noncomputable def zxfiw_ax0 : zyXp := (15, [595, 34359738369], [], [(22, 0, 68719476737, 0), (22, 0, 103079215105, 8)], [(68719476737, 2147483648, 2147483648), (103079215105, 2147483649, 2147483649)], [])
noncomputable def zxfiw_ar0 : zyXp := (0, [], [0], [(23, 0, 68719476737, 0)], [(68719476737, 2147483649, 2147483657)], [])
noncomputable def zxfiw_ar1 : zyXp := (0, [], [0], [(22, 0, 68719476737, 0), (23, 0, 103079215105, 8)], [(68719476737, 2147483648, 2147483648), (103079215105, 2147483650, 2147483652)], [])
noncomputable def zxfiw_ar2 : zyXp := (0, [], [0], [(22, 0, 68719476737, 0), (23, 0, 103079215105, 8)], [(68719476737, 2147483648, 2147483648), (103079215105, 2147483648, 2147483648)], [])
noncomputable def zpfiw_a : zyPh := (0, [595, 34359738369], [(0, 4294967295), (0, 4294967295), (2147483648, 2147483657), (2147483648, 2147483652)], [(1212452, 68719476737), (1212456, 103079215105)], [])
noncomputable def zxfiw_br0 : zyXp := (0, [], [0], [(23, 0, 68719476737, 0)], [(68719476737, 2147483649, 4294967295)], [])
noncomputable def zxfiw_br1 : zyXp := (0, [], [0], [(23, 0, 68719476737, 0)], [(68719476737, 0, 2147483647)], [])
noncomputable def zxfiw_br2 : zyXp := (0, [], [8], [(22, 0, 68719476737, 0)], [(68719476737, 2147483648, 2147483648)], [])
noncomputable def zpfiw_b : zyPh := (26, [595, 34359738369], [(0, 4294967295), (0, 4294967295), (0, 4294967295)], [], [68719476737])
noncomputable def zpfiw (i : Nat) : zyPh := zif (Nat.beq i 0) (zpfiw_z) (zif (Nat.beq i 1) (zpfiw_a) (zpfiw_b))
noncomputable def zXfiw (i : Nat) : List zyXp := zif (Nat.beq i 0) ([zxfiw_zx0]) (zif (Nat.beq i 1) ([zxfiw_ax0]) ([]))
noncomputable def zRfiw (i : Nat) : List zyXp := zif (Nat.beq i 0) ([]) (zif (Nat.beq i 1) ([zxfiw_ar0, zxfiw_ar1, zxfiw_ar2]) ([zxfiw_br0, zxfiw_br1, zxfiw_br2]))
noncomputable def zFfiw (i : Nat) : zyR := zif (Nat.beq i 0) ([]) (zif (Nat.beq i 1) ([]) ([]))
noncomputable def zSfiw (i : Nat) : Nat := zif (Nat.beq i 0) (0) (zif (Nat.beq i 1) (0) (0))
/-- is it this word? -/
def xΦiw (x : Nat → Int) (E : zyEm) : Prop := (0 ≤ x 0 ∧ x 0 < 9) ∧ xWs E
def xΨiw (x : Nat → Int) (E _ : zyEm) (r : Int) : Prop := (r = 0 ∨ r = 1) ∧ (¬ xE E 74 36 = 0 → r = 0) ∧ ∀ p, p ≤ xE E 74 42 → xRD (xE E 84) (xE E 74 42) p E → xE E 74 36 = 0 → (r = 1 ↔ tW (xE E 84) (xE E 74 42) p (wrd (x 0).toNat) = true)
noncomputable def fpfiw : zyR := []
theorem zyfiw_run : zyrS zymx zxi316 (316, 0, 0, 2, 0) 2 zpfiw (fun _ _ => []) zFfiw zSfiw zXfiw zRfiw 3 = true := by decide +kernel
theorem zyfiw_ck : zyAll (fun i => xsubR (zFfiw i) fpfiw && ((zXfiw i).all xckX && (zRfiw i).all (fun x => xckX x && xrtB true x))) 3 = true := by decide +kernel
def xIfiw (i : Nat) (x0 : Nat → Int) (E0 : zyEm) (v : Nat → Int) (E : zyEm) : Prop := if i = 0 then (E = E0 ∧ (v 1) = x0 0) else if i = 1 then (E = E0 ∧ (v 1) = x0 0) else (E = E0 ∧ xE E 74 36 = 0 ∧ xE E 74 40 = 1 ∧ ∀ Lz : Int64, E 74 43 = some (.long Lz) → ((v 2) = 0 ↔ Lz = Int64.ofInt (lgo (wFn (wrd (x0 0).toNat)) (wrd (x0 0).toNat).length 0 0)))
def xMfiw (i : Nat) (x0 : Nat → Int) (E0 : zyEm) (v : Nat → Int) (E : zyEm) : Nat := if i = 0 then (3) else if i = 1 then (2) else (1)
theorem xIw {l : Launch} {en : zEn} {me : zMe} (hen : zG zxMeta 316 = some en) (hme : zG zMeth 316 = some me) : xFc l zymx en me 2 [74] 1 fpfiw true xΦiw xΨiw := by
  have een : zG zxMeta 316 = some (zxi316, 2, 2, 11, 316, 0, 0, 2, 0) := rfl
  obtain ⟨me1, hme1, hOK⟩ := zall hen
  rw [hme] at hme1
  cases hme1
  rw [een] at hen
  cases hen
  have hr := zyfiw_run
  have hck := fun i hi => zyAll_iff zyfiw_ck i hi
  simp only [Bool.and_eq_true] at hck
  intro B
  refine xcutL (mi := zymx) (B := B) hOK rfl rfl (ι := Fin 3) (fun i => zpfiw i.val) (fun _ _ => []) (fun i => zFfiw i.val) (fun i => zSfiw i.val) (fun i => zXfiw i.val) (fun i => zRfiw i.val) (fun i y2 ct en2 me2 h => by cases h) 200000 (fun i => zyAll_iff hr i.val i.isLt) (fun i => (hck i.val i.isLt).1) (fun i => (hck i.val i.isLt).2.1) (fun i => (hck i.val i.isLt).2.2) ⟨0, by decide⟩ ⟨rfl, rfl, rfl, rfl⟩ ⟨by decide, by decide⟩ (fun i x0 E0 v E => xIfiw i.val x0 E0 v E) (fun i x0 E0 v E => xMfiw i.val x0 E0 v E) ?_ ?_ ?_
  · intro x0 E hx0 hT hΦ
    have hΦ : xΦiw x0 E := hΦ
    refine ⟨fun k p hp => ?_, ?_⟩
    · have hk : k < 2 := (List.getElem?_eq_some_iff.mp hp).1
      have hk : k = 0 ∨ k = 1 := by omega
      rcases hk with rfl | rfl
      · have hp : some (0, 4294967295) = some p := hp
        cases hp
        show ((0 : Nat) : Int) ≤ 0 + 2147483648 ∧ 0 + 2147483648 ≤ ((4294967295 : Nat) : Int)
        omega
      · have hp : some (0, 4294967295) = some p := hp
        cases hp
        show ((0 : Nat) : Int) ≤ x0 0 + 2147483648 ∧ x0 0 + 2147483648 ≤ ((4294967295 : Nat) : Int)
        have hx := hx0 0
        omega
    · show E = E ∧ (x0 0) = x0 0
      exact ⟨rfl, rfl⟩
  · intro x0 s Wg hRu hRl hrx hT0 hΦ i v H hT hrv hInv hKc hFr0 hIH x hx ρ2 v2 N2 H2 locs lsB stA hAt hB hv hr2 hXs hag hfr hFr hT2
    rcases i with ⟨i, hi⟩
    have hi2 : i = 0 ∨ i = 1 ∨ i = 2 := by omega
    rcases hi2 with rfl | rfl | rfl
    · have hx : x ∈ [zxfiw_zx0] := hx
      have hag : ∀ k, k < 2 → v2 k = v k := hag
      have hfr : xFr [] _ _ := hfr
      have ex := List.mem_singleton.mp hx
      subst ex
      obtain ⟨hF, hBd, hM⟩ := hXs
      have r1 := hr2 1
      have g1 : v2 1 = v 1 := hag 1 (by decide)
      have e74_36 : xE (zyEl zymx B H2) 74 36 = xE (zyEl zymx B H) 74 36 := xFr_E hfr rfl
      have q74_36 : xE (zyEl zymx B H) 74 36 = xE (zyEl zymx B s.heap) 74 36 := xFr_E hFr0 rfl
      have e74_38 : xE (zyEl zymx B H2) 74 38 = xE (zyEl zymx B H) 74 38 := xFr_E hfr rfl
      have q74_38 : xE (zyEl zymx B H) 74 38 = xE (zyEl zymx B s.heap) 74 38 := xFr_E hFr0 rfl
      have e74_39 : xE (zyEl zymx B H2) 74 39 = xE (zyEl zymx B H) 74 39 := xFr_E hfr rfl
      have q74_39 : xE (zyEl zymx B H) 74 39 = xE (zyEl zymx B s.heap) 74 39 := xFr_E hFr0 rfl
      have e74_40 : xE (zyEl zymx B H2) 74 40 = xE (zyEl zymx B H) 74 40 := xFr_E hfr rfl
      have q74_40 : xE (zyEl zymx B H) 74 40 = xE (zyEl zymx B s.heap) 74 40 := xFr_E hFr0 rfl
      have e74_42 : xE (zyEl zymx B H2) 74 42 = xE (zyEl zymx B H) 74 42 := xFr_E hfr rfl
      have q74_42 : xE (zyEl zymx B H) 74 42 = xE (zyEl zymx B s.heap) 74 42 := xFr_E hFr0 rfl
      have e84 : ∀ i, xE (zyEl zymx B H2) 84 i = xE (zyEl zymx B H) 84 i := fun i => xFr_E hfr rfl
      have q84 : ∀ i, xE (zyEl zymx B H) 84 i = xE (zyEl zymx B s.heap) 84 i := fun i => xFr_E hFr0 rfl
      have hI : (zyEl zymx B H) = (zyEl zymx B s.heap) ∧ (v 1) = x0 0 := hInv
      obtain ⟨hE, i1⟩ := hI
      have z74_36 : ((2147483648 : Nat) : Int) ≤ xE (zyEl zymx B H2) 74 36 + 2147483648 ∧ xE (zyEl zymx B H2) 74 36 + 2147483648 ≤ ((2147483657 : Nat) : Int) := xTyF hT2 74 36 36 rfl rfl rfl rfl rfl rfl
      have z74_40 : ((2147483648 : Nat) : Int) ≤ xE (zyEl zymx B H2) 74 40 + 2147483648 ∧ xE (zyEl zymx B H2) 74 40 + 2147483648 ≤ ((2147483652 : Nat) : Int) := xTyF hT2 74 40 40 rfl rfl rfl rfl rfl rfl
      refine xGo hIH hAt hB hv hFr ⟨1, by decide⟩ [0, 34359738369] [0, (v2 1), xE (zyEl zymx B H2) 74 36, xE (zyEl zymx B H2) 74 40] rfl ⟨by decide +kernel, ⟨rfl, by decide +kernel⟩, (xcs_c rfl (xcs_c rfl xcs_n)), (xe_0 (xe_f (by omega) (xe_c (by omega) (by omega) rfl (xe_c (by omega) (by omega) rfl xe_n)))), (xkq_c hT2 74 36 (q := 36) rfl rfl rfl rfl rfl rfl rfl rfl rfl rfl rfl (xkq_c hT2 74 40 (q := 40) rfl rfl rfl rfl rfl rfl rfl rfl rfl rfl rfl xkq_n))⟩ xst_n ?_ ?_
      · show (zyEl zymx B H2) = (zyEl zymx B s.heap) ∧ ((v2 1) : Int) = x0 0
        exact ⟨(xFr_n hfr).trans hE, by omega⟩
      · show 2 < 3
        omega
    · have hx : x ∈ [zxfiw_ax0] := hx
      have hag : ∀ k, k < 4 → v2 k = v k := hag
      have hfr : xFr [] _ _ := hfr
      have ex := List.mem_singleton.mp hx
      subst ex
      obtain ⟨hF, hBd, hM⟩ := hXs
      have r1 := hr2 1
      have g1 : v2 1 = v 1 := hag 1 (by decide)
      have g2 : v2 2 = v 2 := hag 2 (by decide)
      have g3 : v2 3 = v 3 := hag 3 (by decide)
      have b0 : ((2147483648 : Nat) : Int) ≤ (v2 2) + 2147483648 ∧ (v2 2) + 2147483648 ≤ ((2147483648 : Nat) : Int) := xXb hBd 0 rfl
      have b1 : ((2147483649 : Nat) : Int) ≤ (v2 3) + 2147483648 ∧ (v2 3) + 2147483648 ≤ ((2147483649 : Nat) : Int) := xXb hBd 1 rfl
      have k0 : xE (zyEl zymx B H) 74 36 = v 2 := xKcf hKc 0 rfl rfl
      have k1 : xE (zyEl zymx B H) 74 40 = v 3 := xKcf hKc 1 rfl rfl
      have f0 : (v2 2) = 0 := xXf hF 0 rfl
      have f1 : (v2 3) = 1 := xXf hF 1 rfl
      have e74_36 : xE (zyEl zymx B H2) 74 36 = xE (zyEl zymx B H) 74 36 := xFr_E hfr rfl
      have q74_36 : xE (zyEl zymx B H) 74 36 = xE (zyEl zymx B s.heap) 74 36 := xFr_E hFr0 rfl
      have e74_38 : xE (zyEl zymx B H2) 74 38 = xE (zyEl zymx B H) 74 38 := xFr_E hfr rfl
      have q74_38 : xE (zyEl zymx B H) 74 38 = xE (zyEl zymx B s.heap) 74 38 := xFr_E hFr0 rfl
      have e74_39 : xE (zyEl zymx B H2) 74 39 = xE (zyEl zymx B H) 74 39 := xFr_E hfr rfl
      have q74_39 : xE (zyEl zymx B H) 74 39 = xE (zyEl zymx B s.heap) 74 39 := xFr_E hFr0 rfl
      have e74_40 : xE (zyEl zymx B H2) 74 40 = xE (zyEl zymx B H) 74 40 := xFr_E hfr rfl
      have q74_40 : xE (zyEl zymx B H) 74 40 = xE (zyEl zymx B s.heap) 74 40 := xFr_E hFr0 rfl
      have e74_42 : xE (zyEl zymx B H2) 74 42 = xE (zyEl zymx B H) 74 42 := xFr_E hfr rfl
      have q74_42 : xE (zyEl zymx B H) 74 42 = xE (zyEl zymx B s.heap) 74 42 := xFr_E hFr0 rfl
      have e84 : ∀ i, xE (zyEl zymx B H2) 84 i = xE (zyEl zymx B H) 84 i := fun i => xFr_E hfr rfl
      have q84 : ∀ i, xE (zyEl zymx B H) 84 i = xE (zyEl zymx B s.heap) 84 i := fun i => xFr_E hFr0 rfl
      have hI : (zyEl zymx B H) = (zyEl zymx B s.heap) ∧ (v 1) = x0 0 := hInv
      obtain ⟨hE, i1⟩ := hI
      obtain ⟨⟨hP1, hP2⟩, hP3⟩ := (show (0 ≤ x0 0 ∧ x0 0 < 9) ∧ xWs (zyEl zymx B s.heap) from hΦ)
      have hEE : (zyEl zymx B H2) = (zyEl zymx B s.heap) := (xFr_n hfr).trans hE
      obtain ⟨L, hL⟩ := zyMI_long hAt.1 (a := 74) (k := 43) (q := 43) (c := zymr74) rfl (by decide) rfl (by decide) (by decide) rfl
      obtain ⟨L2, hL2⟩ : ∃ L2, L2 = Int64.ofInt (lgo (wFn (wrd (x0 0).toNat)) (wrd (x0 0).toNat).length 0 0) := ⟨_, rfl⟩
      have hW2 : (zyEl zymx B H2) 85 ((v2 1)).toNat = some (.long L2) := by
        rw [hEE, hL2, show (v2 1) = x0 0 by omega]
        exact hP3 _ (by omega)
      have hq := xI_r (lg_cmp L L2)
      refine xLgo2 hRl hIH hAt hB hv hFr rfl rfl 34359738369 rfl rfl (by decide +kernel) ((v2 1)) rfl (by omega) rfl rfl hL hW2 ⟨⟨2, by decide⟩, [0, 34359738369], [0, (v2 1), (xI (lg_cmp L L2))], 2, rfl, ⟨by decide +kernel, ⟨rfl, by decide +kernel⟩, (xcs_c rfl (xcs_c rfl xcs_n)), (xe_0 (xe_f (by omega) (xe_f (by omega) xe_n))), xkq_n⟩, rfl, by decide, rfl, ?_, ?_⟩
      · show (zyEl zymx B H2) = (zyEl zymx B s.heap) ∧ xE (zyEl zymx B H2) 74 36 = 0 ∧ xE (zyEl zymx B H2) 74 40 = 1 ∧ ∀ Lz : Int64, (zyEl zymx B H2) 74 43 = some (.long Lz) → (((xI (lg_cmp L L2)) : Int) = 0 ↔ Lz = Int64.ofInt (lgo (wFn (wrd (x0 0).toNat)) (wrd (x0 0).toNat).length 0 0))
        refine ⟨hEE, by omega, by omega, fun L3 h3 => ?_⟩
        have h4 : L = L3 := by
          rw [hL] at h3
          exact Value.long.inj (Option.some.inj h3)
        subst h4
        rw [← hL2]
        exact xcmp_0
      · show 1 < 2
        omega
    · cases hx
  · intro x0 E0 E E2 hrx hT0 hΦ i v hT hrv hInv hKc hFr0 x hx v2 hr2 hXs hag hfr hFr hT2
    rcases i with ⟨i, hi⟩
    have hi2 : i = 0 ∨ i = 1 ∨ i = 2 := by omega
    rcases hi2 with rfl | rfl | rfl
    · cases hx
    · have hx : x ∈ [zxfiw_ar0, zxfiw_ar1, zxfiw_ar2] := hx
      have hag : ∀ k, k < 4 → v2 k = v k := hag
      have hfr : xFr [] _ _ := hfr
      rcases List.mem_cons.mp hx with ex | hx
      · subst ex
        obtain ⟨hF, hBd, hM⟩ := hXs
        have g1 : v2 1 = v 1 := hag 1 (by decide)
        have g2 : v2 2 = v 2 := hag 2 (by decide)
        have g3 : v2 3 = v 3 := hag 3 (by decide)
        have b0 : ((2147483649 : Nat) : Int) ≤ (v2 2) + 2147483648 ∧ (v2 2) + 2147483648 ≤ ((2147483657 : Nat) : Int) := xXb hBd 0 rfl
        have k0 : xE E 74 36 = v 2 := xKcf hKc 0 rfl rfl
        have k1 : xE E 74 40 = v 3 := xKcf hKc 1 rfl rfl
        have f0 : ¬ (v2 2) = 0 := xXf hF 0 rfl
        have e74_36 : xE E2 74 36 = xE E 74 36 := xFr_E hfr rfl
        have q74_36 : xE E 74 36 = xE E0 74 36 := xFr_E hFr0 rfl
        have e74_38 : xE E2 74 38 = xE E 74 38 := xFr_E hfr rfl
        have q74_38 : xE E 74 38 = xE E0 74 38 := xFr_E hFr0 rfl
        have e74_39 : xE E2 74 39 = xE E 74 39 := xFr_E hfr rfl
        have q74_39 : xE E 74 39 = xE E0 74 39 := xFr_E hFr0 rfl
        have e74_40 : xE E2 74 40 = xE E 74 40 := xFr_E hfr rfl
        have q74_40 : xE E 74 40 = xE E0 74 40 := xFr_E hFr0 rfl
        have e74_42 : xE E2 74 42 = xE E 74 42 := xFr_E hfr rfl
        have q74_42 : xE E 74 42 = xE E0 74 42 := xFr_E hFr0 rfl
        have e84 : ∀ i, xE E2 84 i = xE E 84 i := fun i => xFr_E hfr rfl
        have q84 : ∀ i, xE E 84 i = xE E0 84 i := fun i => xFr_E hFr0 rfl
        have hI : E = E0 ∧ (v 1) = x0 0 := hInv
        show xΨiw x0 E0 E2 0
        obtain ⟨hE, i1⟩ := hI
        unfold xΨiw
        refine ⟨Or.inl rfl, fun _ => rfl, fun p hp hs hw => ⟨fun h => absurd h (by decide), fun h => ?_⟩⟩
        exfalso
        unfold tW sW at h
        rw [Bool.and_eq_true, decide_eq_true_eq] at h
        obtain ⟨s1, s1b, s2, s3, s4, s5, s6, s7, s8⟩ := xRD_i hs hp
        omega
      · skip
        rcases List.mem_cons.mp hx with ex | hx
        · subst ex
          obtain ⟨hF, hBd, hM⟩ := hXs
          have g1 : v2 1 = v 1 := hag 1 (by decide)
          have g2 : v2 2 = v 2 := hag 2 (by decide)
          have g3 : v2 3 = v 3 := hag 3 (by decide)
          have b0 : ((2147483648 : Nat) : Int) ≤ (v2 2) + 2147483648 ∧ (v2 2) + 2147483648 ≤ ((2147483648 : Nat) : Int) := xXb hBd 0 rfl
          have b1 : ((2147483650 : Nat) : Int) ≤ (v2 3) + 2147483648 ∧ (v2 3) + 2147483648 ≤ ((2147483652 : Nat) : Int) := xXb hBd 1 rfl
          have k0 : xE E 74 36 = v 2 := xKcf hKc 0 rfl rfl
          have k1 : xE E 74 40 = v 3 := xKcf hKc 1 rfl rfl
          have f0 : (v2 2) = 0 := xXf hF 0 rfl
          have f1 : ¬ (v2 3) = 1 := xXf hF 1 rfl
          have e74_36 : xE E2 74 36 = xE E 74 36 := xFr_E hfr rfl
          have q74_36 : xE E 74 36 = xE E0 74 36 := xFr_E hFr0 rfl
          have e74_38 : xE E2 74 38 = xE E 74 38 := xFr_E hfr rfl
          have q74_38 : xE E 74 38 = xE E0 74 38 := xFr_E hFr0 rfl
          have e74_39 : xE E2 74 39 = xE E 74 39 := xFr_E hfr rfl
          have q74_39 : xE E 74 39 = xE E0 74 39 := xFr_E hFr0 rfl
          have e74_40 : xE E2 74 40 = xE E 74 40 := xFr_E hfr rfl
          have q74_40 : xE E 74 40 = xE E0 74 40 := xFr_E hFr0 rfl
          have e74_42 : xE E2 74 42 = xE E 74 42 := xFr_E hfr rfl
          have q74_42 : xE E 74 42 = xE E0 74 42 := xFr_E hFr0 rfl
          have e84 : ∀ i, xE E2 84 i = xE E 84 i := fun i => xFr_E hfr rfl
          have q84 : ∀ i, xE E 84 i = xE E0 84 i := fun i => xFr_E hFr0 rfl
          have hI : E = E0 ∧ (v 1) = x0 0 := hInv
          show xΨiw x0 E0 E2 0
          obtain ⟨hE, i1⟩ := hI
          unfold xΨiw
          refine ⟨Or.inl rfl, fun _ => rfl, fun p hp hs hw => ⟨fun h => absurd h (by decide), fun h => ?_⟩⟩
          exfalso
          unfold tW sW at h
          rw [Bool.and_eq_true, decide_eq_true_eq] at h
          obtain ⟨s1, s1b, s2, s3, s4, s5, s6, s7, s8⟩ := xRD_i hs hp
          omega
        · skip
          have ex := List.mem_singleton.mp hx
          subst ex
          obtain ⟨hF, hBd, hM⟩ := hXs
          have g1 : v2 1 = v 1 := hag 1 (by decide)
          have g2 : v2 2 = v 2 := hag 2 (by decide)
          have g3 : v2 3 = v 3 := hag 3 (by decide)
          have b0 : ((2147483648 : Nat) : Int) ≤ (v2 2) + 2147483648 ∧ (v2 2) + 2147483648 ≤ ((2147483648 : Nat) : Int) := xXb hBd 0 rfl
          have b1 : ((2147483648 : Nat) : Int) ≤ (v2 3) + 2147483648 ∧ (v2 3) + 2147483648 ≤ ((2147483648 : Nat) : Int) := xXb hBd 1 rfl
          have k0 : xE E 74 36 = v 2 := xKcf hKc 0 rfl rfl
          have k1 : xE E 74 40 = v 3 := xKcf hKc 1 rfl rfl
          have f0 : (v2 2) = 0 := xXf hF 0 rfl
          have f1 : ¬ (v2 3) = 1 := xXf hF 1 rfl
          have e74_36 : xE E2 74 36 = xE E 74 36 := xFr_E hfr rfl
          have q74_36 : xE E 74 36 = xE E0 74 36 := xFr_E hFr0 rfl
          have e74_38 : xE E2 74 38 = xE E 74 38 := xFr_E hfr rfl
          have q74_38 : xE E 74 38 = xE E0 74 38 := xFr_E hFr0 rfl
          have e74_39 : xE E2 74 39 = xE E 74 39 := xFr_E hfr rfl
          have q74_39 : xE E 74 39 = xE E0 74 39 := xFr_E hFr0 rfl
          have e74_40 : xE E2 74 40 = xE E 74 40 := xFr_E hfr rfl
          have q74_40 : xE E 74 40 = xE E0 74 40 := xFr_E hFr0 rfl
          have e74_42 : xE E2 74 42 = xE E 74 42 := xFr_E hfr rfl
          have q74_42 : xE E 74 42 = xE E0 74 42 := xFr_E hFr0 rfl
          have e84 : ∀ i, xE E2 84 i = xE E 84 i := fun i => xFr_E hfr rfl
          have q84 : ∀ i, xE E 84 i = xE E0 84 i := fun i => xFr_E hFr0 rfl
          have hI : E = E0 ∧ (v 1) = x0 0 := hInv
          show xΨiw x0 E0 E2 0
          obtain ⟨hE, i1⟩ := hI
          unfold xΨiw
          refine ⟨Or.inl rfl, fun _ => rfl, fun p hp hs hw => ⟨fun h => absurd h (by decide), fun h => ?_⟩⟩
          exfalso
          unfold tW sW at h
          rw [Bool.and_eq_true, decide_eq_true_eq] at h
          obtain ⟨s1, s1b, s2, s3, s4, s5, s6, s7, s8⟩ := xRD_i hs hp
          omega
    · have hx : x ∈ [zxfiw_br0, zxfiw_br1, zxfiw_br2] := hx
      have hag : ∀ k, k < 3 → v2 k = v k := hag
      have hfr : xFr [] _ _ := hfr
      rcases List.mem_cons.mp hx with ex | hx
      · subst ex
        obtain ⟨hF, hBd, hM⟩ := hXs
        have g1 : v2 1 = v 1 := hag 1 (by decide)
        have g2 : v2 2 = v 2 := hag 2 (by decide)
        have b0 : ((2147483649 : Nat) : Int) ≤ (v2 2) + 2147483648 ∧ (v2 2) + 2147483648 ≤ ((4294967295 : Nat) : Int) := xXb hBd 0 rfl
        have f0 : ¬ (v2 2) = 0 := xXf hF 0 rfl
        have e74_36 : xE E2 74 36 = xE E 74 36 := xFr_E hfr rfl
        have q74_36 : xE E 74 36 = xE E0 74 36 := xFr_E hFr0 rfl
        have e74_38 : xE E2 74 38 = xE E 74 38 := xFr_E hfr rfl
        have q74_38 : xE E 74 38 = xE E0 74 38 := xFr_E hFr0 rfl
        have e74_39 : xE E2 74 39 = xE E 74 39 := xFr_E hfr rfl
        have q74_39 : xE E 74 39 = xE E0 74 39 := xFr_E hFr0 rfl
        have e74_40 : xE E2 74 40 = xE E 74 40 := xFr_E hfr rfl
        have q74_40 : xE E 74 40 = xE E0 74 40 := xFr_E hFr0 rfl
        have e74_42 : xE E2 74 42 = xE E 74 42 := xFr_E hfr rfl
        have q74_42 : xE E 74 42 = xE E0 74 42 := xFr_E hFr0 rfl
        have e84 : ∀ i, xE E2 84 i = xE E 84 i := fun i => xFr_E hfr rfl
        have q84 : ∀ i, xE E 84 i = xE E0 84 i := fun i => xFr_E hFr0 rfl
        have hI : E = E0 ∧ xE E 74 36 = 0 ∧ xE E 74 40 = 1 ∧ ∀ Lz : Int64, E 74 43 = some (.long Lz) → ((v 2) = 0 ↔ Lz = Int64.ofInt (lgo (wFn (wrd (x0 0).toNat)) (wrd (x0 0).toNat).length 0 0)) := hInv
        show xΨiw x0 E0 E2 0
        obtain ⟨hE, i1, i2, i3⟩ := hI
        unfold xΨiw
        refine ⟨by omega, fun h => by omega, fun p hp hs hw => ?_⟩
        obtain ⟨s1, s1b, s2, s3, s4, s5, s6, s7, s8⟩ := xRD_i hs hp
        have hk : tKd (xE E0 84) (xE E0 74 42) p = 2 := by omega
        have hl : E 74 43 = some (.long (lLt (xE E0 84) (tFr (xE E0 84) (xE E0 74 42) p) (tNx (xE E0 84) (xE E0 74 42) p))) := by
          rw [hE]
          exact hs.2.2.2.2.2 hk
        have h3 := i3 _ hl
        rw [tW_l (k := (x0 0).toNat) hp hk] at h3
        rw [← h3]
        omega
      · skip
        rcases List.mem_cons.mp hx with ex | hx
        · subst ex
          obtain ⟨hF, hBd, hM⟩ := hXs
          have g1 : v2 1 = v 1 := hag 1 (by decide)
          have g2 : v2 2 = v 2 := hag 2 (by decide)
          have b0 : ((0 : Nat) : Int) ≤ (v2 2) + 2147483648 ∧ (v2 2) + 2147483648 ≤ ((2147483647 : Nat) : Int) := xXb hBd 0 rfl
          have f0 : ¬ (v2 2) = 0 := xXf hF 0 rfl
          have e74_36 : xE E2 74 36 = xE E 74 36 := xFr_E hfr rfl
          have q74_36 : xE E 74 36 = xE E0 74 36 := xFr_E hFr0 rfl
          have e74_38 : xE E2 74 38 = xE E 74 38 := xFr_E hfr rfl
          have q74_38 : xE E 74 38 = xE E0 74 38 := xFr_E hFr0 rfl
          have e74_39 : xE E2 74 39 = xE E 74 39 := xFr_E hfr rfl
          have q74_39 : xE E 74 39 = xE E0 74 39 := xFr_E hFr0 rfl
          have e74_40 : xE E2 74 40 = xE E 74 40 := xFr_E hfr rfl
          have q74_40 : xE E 74 40 = xE E0 74 40 := xFr_E hFr0 rfl
          have e74_42 : xE E2 74 42 = xE E 74 42 := xFr_E hfr rfl
          have q74_42 : xE E 74 42 = xE E0 74 42 := xFr_E hFr0 rfl
          have e84 : ∀ i, xE E2 84 i = xE E 84 i := fun i => xFr_E hfr rfl
          have q84 : ∀ i, xE E 84 i = xE E0 84 i := fun i => xFr_E hFr0 rfl
          have hI : E = E0 ∧ xE E 74 36 = 0 ∧ xE E 74 40 = 1 ∧ ∀ Lz : Int64, E 74 43 = some (.long Lz) → ((v 2) = 0 ↔ Lz = Int64.ofInt (lgo (wFn (wrd (x0 0).toNat)) (wrd (x0 0).toNat).length 0 0)) := hInv
          show xΨiw x0 E0 E2 0
          obtain ⟨hE, i1, i2, i3⟩ := hI
          unfold xΨiw
          refine ⟨by omega, fun h => by omega, fun p hp hs hw => ?_⟩
          obtain ⟨s1, s1b, s2, s3, s4, s5, s6, s7, s8⟩ := xRD_i hs hp
          have hk : tKd (xE E0 84) (xE E0 74 42) p = 2 := by omega
          have hl : E 74 43 = some (.long (lLt (xE E0 84) (tFr (xE E0 84) (xE E0 74 42) p) (tNx (xE E0 84) (xE E0 74 42) p))) := by
            rw [hE]
            exact hs.2.2.2.2.2 hk
          have h3 := i3 _ hl
          rw [tW_l (k := (x0 0).toNat) hp hk] at h3
          rw [← h3]
          omega
        · skip
          have ex := List.mem_singleton.mp hx
          subst ex
          obtain ⟨hF, hBd, hM⟩ := hXs
          have g1 : v2 1 = v 1 := hag 1 (by decide)
          have g2 : v2 2 = v 2 := hag 2 (by decide)
          have b0 : ((2147483648 : Nat) : Int) ≤ (v2 2) + 2147483648 ∧ (v2 2) + 2147483648 ≤ ((2147483648 : Nat) : Int) := xXb hBd 0 rfl
          have f0 : (v2 2) = 0 := xXf hF 0 rfl
          have e74_36 : xE E2 74 36 = xE E 74 36 := xFr_E hfr rfl
          have q74_36 : xE E 74 36 = xE E0 74 36 := xFr_E hFr0 rfl
          have e74_38 : xE E2 74 38 = xE E 74 38 := xFr_E hfr rfl
          have q74_38 : xE E 74 38 = xE E0 74 38 := xFr_E hFr0 rfl
          have e74_39 : xE E2 74 39 = xE E 74 39 := xFr_E hfr rfl
          have q74_39 : xE E 74 39 = xE E0 74 39 := xFr_E hFr0 rfl
          have e74_40 : xE E2 74 40 = xE E 74 40 := xFr_E hfr rfl
          have q74_40 : xE E 74 40 = xE E0 74 40 := xFr_E hFr0 rfl
          have e74_42 : xE E2 74 42 = xE E 74 42 := xFr_E hfr rfl
          have q74_42 : xE E 74 42 = xE E0 74 42 := xFr_E hFr0 rfl
          have e84 : ∀ i, xE E2 84 i = xE E 84 i := fun i => xFr_E hfr rfl
          have q84 : ∀ i, xE E 84 i = xE E0 84 i := fun i => xFr_E hFr0 rfl
          have hI : E = E0 ∧ xE E 74 36 = 0 ∧ xE E 74 40 = 1 ∧ ∀ Lz : Int64, E 74 43 = some (.long Lz) → ((v 2) = 0 ↔ Lz = Int64.ofInt (lgo (wFn (wrd (x0 0).toNat)) (wrd (x0 0).toNat).length 0 0)) := hInv
          show xΨiw x0 E0 E2 1
          obtain ⟨hE, i1, i2, i3⟩ := hI
          unfold xΨiw
          refine ⟨by omega, fun h => by omega, fun p hp hs hw => ?_⟩
          obtain ⟨s1, s1b, s2, s3, s4, s5, s6, s7, s8⟩ := xRD_i hs hp
          have hk : tKd (xE E0 84) (xE E0 74 42) p = 2 := by omega
          have hl : E 74 43 = some (.long (lLt (xE E0 84) (tFr (xE E0 84) (xE E0 74 42) p) (tNx (xE E0 84) (xE E0 74 42) p))) := by
            rw [hE]
            exact hs.2.2.2.2.2 hk
          have h3 := i3 _ hl
          rw [tW_l (k := (x0 0).toNat) hp hk] at h3
          rw [← h3]
          omega
end
section
/-! THE REFERENCE's readers: helps -/
section PB9
variable {T : Int → Int} {n p len b g : Int} {S : Int → Int}
theorem pBits_n {f : Nat} (hk : ¬ tKd T n p = 3) : pBits T n S g f p len b = .ok (p, uS (uS S (8 + g) b) (40 + g) len) := by
  cases f with
  | zero =>
    unfold pBits
    rw [if_neg hk]
  | succ f =>
    unfold pBits
    rw [if_neg hk]
theorem pBits_3 {f : Nat} (hk : tKd T n p = 3) (hn : ¬ (0 ≤ tNm T n p ∧ tNm T n p ≤ 1)) : pBits T n S g f p len b = .error (3, tFr T n p) := by
  cases f with
  | zero =>
    unfold pBits
    rw [if_pos hk, if_neg hn]
  | succ f =>
    unfold pBits
    rw [if_pos hk, if_neg hn]
theorem pBits_6 (hk : tKd T n p = 3) (hn : 0 ≤ tNm T n p ∧ tNm T n p ≤ 1) (hl : 4 ≤ len) : pBits T n S g (4 - len).toNat p len b = .error (6, tFr T n p) := by
  rw [show (4 - len).toNat = 0 by omega]
  unfold pBits
  rw [if_pos hk, if_pos hn]
theorem pBits_s (hk : tKd T n p = 3) (hn : 0 ≤ tNm T n p ∧ tNm T n p ≤ 1) (hl : len < 4) : pBits T n S g (4 - len).toNat p len b = pBits T n S g (4 - (len + 1)).toNat (tNx T n p) (len + 1) (xop 7 b (xop 8 (tNm T n p) len)) := by
  rw [show (4 - len).toNat = (4 - (len + 1)).toNat + 1 by omega]
  show (if tKd T n p = 3 then _ else _) = _
  rw [if_pos hk, if_pos hn]
end PB9
theorem xop_0b {b : Int} (h : b = 0 ∨ b = 1) : xop 7 0 (xop 8 b 0) = b := by
  rcases h with rfl | rfl <;> decide +kernel
theorem gN_of {r c A B m1 m2 : Int} (hr : 1 ≤ r ∧ r ≤ 4) (hc : 1 ≤ c ∧ c ≤ 5) (hA : A = c - 1) (hB : B = r - 1) (h1 : -2147483648 ≤ r * A → r * A < 2147483648 → m1 = r * A) (h2 : -2147483648 ≤ B * c → B * c < 2147483648 → m2 = B * c) : m1 + m2 = gN r c ∧ 0 ≤ m1 ∧ m1 ≤ 16 ∧ 0 ≤ m2 ∧ m2 ≤ 15 ∧ gN r c ≤ 31 := by
  subst hA
  subst hB
  unfold gN
  have : r = 1 ∨ r = 2 ∨ r = 3 ∨ r = 4 := by omega
  rcases this with rfl | rfl | rfl | rfl <;> omega
theorem sN_of {r c A m2 : Int} (hr : 1 ≤ r ∧ r ≤ 4) (hc : 1 ≤ c ∧ c ≤ 5) (hA : A = 4 * r) (h2 : -2147483648 ≤ A * c → A * c < 2147483648 → m2 = A * c) : m2 = sN r c ∧ 4 ≤ m2 ∧ m2 ≤ 80 := by
  subst hA
  unfold sN
  have : r = 1 ∨ r = 2 ∨ r = 3 ∨ r = 4 := by omega
  rcases this with rfl | rfl | rfl | rfl <;> omega
theorem gN_r {r c : Int} (hr : 1 ≤ r ∧ r ≤ 4) (hc : 1 ≤ c ∧ c ≤ 5) : 0 ≤ gN r c ∧ gN r c ≤ 31 := by
  unfold gN
  have : r = 1 ∨ r = 2 ∨ r = 3 ∨ r = 4 := by omega
  rcases this with rfl | rfl | rfl | rfl <;> omega
theorem sN_r {r c : Int} (hr : 1 ≤ r ∧ r ≤ 4) (hc : 1 ≤ c ∧ c ≤ 5) : 4 ≤ sN r c ∧ sN r c ≤ 80 := by
  unfold sN
  have : r = 1 ∨ r = 2 ∨ r = 3 ∨ r = 4 := by omega
  rcases this with rfl | rfl | rfl | rfl <;> omega
theorem xRD_k {T : Int → Int} {n p : Int} {E E2 : zyEm} {fp : zyR} (h : xRD T n p E) (hf : xFr fp E E2) (h1 : zyin fp 74 38 = false) (h2 : zyin fp 74 39 = false) (h3 : zyin fp 74 40 = false) (h4 : zyin fp 74 41 = false) (h5 : zyin fp 74 43 = false) : xRD T n p E2 := by
  obtain ⟨g1, g2, g3, g4, g5, g6⟩ := h
  have e1 : xE E2 74 38 = xE E 74 38 := xFr_E hf h1
  have e2 : xE E2 74 39 = xE E 74 39 := xFr_E hf h2
  have e3 : xE E2 74 40 = xE E 74 40 := xFr_E hf h3
  have e4 : xE E2 74 41 = xE E 74 41 := xFr_E hf h4
  have e5 : E2 74 43 = E 74 43 := hf 74 43 h5
  unfold xRD
  rw [e1, e2, e3, e4, e5]
  exact ⟨g1, g2, g3, g4, g5, g6⟩
theorem xRD_e {T : Int → Int} {n p : Int} {E E2 : zyEm} (h : xRD T n p E) (hf : ∀ k, k < 50 → E2 74 k = E 74 k) : xRD T n p E2 := by
  obtain ⟨g1, g2, g3, g4, g5, g6⟩ := h
  have e1 : xE E2 74 38 = xE E 74 38 := by unfold xE; rw [hf _ (by decide)]
  have e2 : xE E2 74 39 = xE E 74 39 := by unfold xE; rw [hf _ (by decide)]
  have e3 : xE E2 74 40 = xE E 74 40 := by unfold xE; rw [hf _ (by decide)]
  have e4 : xE E2 74 41 = xE E 74 41 := by unfold xE; rw [hf _ (by decide)]
  have e5 : E2 74 43 = E 74 43 := hf 43 (by decide)
  unfold xRD
  rw [e1, e2, e3, e4, e5]
  exact ⟨g1, g2, g3, g4, g5, g6⟩
theorem xTm_e {E E2 : zyEm} {r : Int} {x : Nat → Int} (h : xΨtm x E E2 r) (hw : ¬ xE E 74 36 = 0) : xE E2 74 36 = xE E 74 36 ∧ xE E2 74 37 = xE E 74 37 := by
  unfold xΨtm at h
  rw [if_neg hw] at h
  exact h
theorem xTk_e {E E2 : zyEm} {r : Int} {x : Nat → Int} (h : xΨtk x E E2 r) (hw : ¬ xE E 74 36 = 0) : xE E2 74 36 = xE E 74 36 ∧ xE E2 74 37 = xE E 74 37 := by
  unfold xΨtk at h
  rw [if_neg hw] at h
  exact h
theorem xEr_1 {E : zyEm} {R : pR} (h : xEr E R) (hw : xE E 74 36 = 0) : False := by
  have := h.1
  omega
end
