/-! THE REFERENCE: is it this word? (printed by m20.py) -/
noncomputable def zxfiw_zx0 : zyXp := (0, [595, 34359738369], [], [], [], [])
noncomputable def zpfiw_z : zyPh := (0, [595, 34359738369], [(0, 4294967295), (0, 4294967295)], [], [])
noncomputable def zxfiw_ax0 : zyXp := (15, [595, 34359738369], [], [(22, 0, 68719476737, 0), (22, 0, 103079215105, 8)], [(68719476737, 2147483648, 2147483648), (103079215105, 2147483649, 2147483649)], [])
noncomputable def zxfiw_ar0 : zyXp := (0, [], [0], [(23, 0, 68719476737, 0)], [(68719476737, 2147483649, 2147483657)], [])
noncomputable def zxfiw_ar1 : zyXp := (0, [], [0], [(22, 0, 68719476737, 0), (23, 0, 103079215105, 8)], [(68719476737, 2147483648, 2147483648), (103079215105, 2147483650, 2147483652)], [])
noncomputable def zxfiw_ar2 : zyXp := (0, [], [0], [(22, 0, 68719476737, 0), (23, 0, 103079215105, 8)], [(68719476737, 2147483648, 2147483648), (103079215105, 2147483648, 2147483648)], [])
noncomputable def zpfiw_a : zyPh := (0, [595, 34359738369], [(0, 4294967295), (0, 4294967295), (2147483648, 2147483657), (2147483648, 2147483652)], [(1212452, 68719476737), (1212456, 103079215105)], [])
noncomputable def zxfiw_br0 : zyXp := (0, [], [0], [(23, 0, 68719476737, 0)], [(68719476737, 2147483649, 4294967295)], [])
noncomputable def zxfiw_br1 : zyXp := (0, [], [0], [(23, 0, 68719476737, 0)], [(68719476737, 0, 2147483647)], [])
noncomputable def zxfiw_br2 : zyXp := (0, [], [8], [(22, 0, 68719476737, 0)], [(68719476737, 2147483648, 2147483648)], [])
noncomputable def zpfiw_b : zyPh := (26, [595, 34359738369], [(0, 4294967295), (0, 4294967295), (0, 4294967295)], [], [68719476737])
noncomputable def zpfiw (i : Nat) : zyPh := zif (Nat.beq i 0) (zpfiw_z) (zif (Nat.beq i 1) (zpfiw_a) (zpfiw_b))
noncomputable def zXfiw (i : Nat) : List zyXp := zif (Nat.beq i 0) ([zxfiw_zx0]) (zif (Nat.beq i 1) ([zxfiw_ax0]) ([]))
noncomputable def zRfiw (i : Nat) : List zyXp := zif (Nat.beq i 0) ([]) (zif (Nat.beq i 1) ([zxfiw_ar0, zxfiw_ar1, zxfiw_ar2]) ([zxfiw_br0, zxfiw_br1, zxfiw_br2]))
noncomputable def zFfiw (i : Nat) : zyR := zif (Nat.beq i 0) ([]) (zif (Nat.beq i 1) ([]) ([]))
noncomputable def zSfiw (i : Nat) : Nat := zif (Nat.beq i 0) (0) (zif (Nat.beq i 1) (0) (0))
/-- is it this word? -/
def xΦiw (x : Nat → Int) (E : zyEm) : Prop := (0 ≤ x 0 ∧ x 0 < 9) ∧ xWs E
def xΨiw (x : Nat → Int) (E _ : zyEm) (r : Int) : Prop := (r = 0 ∨ r = 1) ∧ (¬ xE E 74 36 = 0 → r = 0) ∧ ∀ p, p ≤ xE E 74 42 → xRD (xE E 84) (xE E 74 42) p E → xE E 74 36 = 0 → (r = 1 ↔ tW (xE E 84) (xE E 74 42) p (wrd (x 0).toNat) = true)
noncomputable def fpfiw : zyR := []
theorem zyfiw_run : zyrS zymx zxi316 (316, 0, 0, 2, 0) 2 zpfiw (fun _ _ => []) zFfiw zSfiw zXfiw zRfiw 3 = true := by decide +kernel
theorem zyfiw_ck : zyAll (fun i => xsubR (zFfiw i) fpfiw && ((zXfiw i).all xckX && (zRfiw i).all (fun x => xckX x && xrtB true x))) 3 = true := by decide +kernel
def xIfiw (i : Nat) (x0 : Nat → Int) (E0 : zyEm) (v : Nat → Int) (E : zyEm) : Prop := if i = 0 then (E = E0 ∧ (v 1) = x0 0) else if i = 1 then (E = E0 ∧ (v 1) = x0 0) else (E = E0 ∧ xE E 74 36 = 0 ∧ xE E 74 40 = 1 ∧ ∀ Lz : Int64, E 74 43 = some (.long Lz) → ((v 2) = 0 ↔ Lz = Int64.ofInt (lgo (wFn (wrd (x0 0).toNat)) (wrd (x0 0).toNat).length 0 0)))
def xMfiw (i : Nat) (x0 : Nat → Int) (E0 : zyEm) (v : Nat → Int) (E : zyEm) : Nat := if i = 0 then (3) else if i = 1 then (2) else (1)
theorem xIw {l : Launch} {en : zEn} {me : zMe} (hen : zG zxMeta 316 = some en) (hme : zG zMeth 316 = some me) : xFc l zymx en me 2 [74] 1 fpfiw true xΦiw xΨiw := by
  have een : zG zxMeta 316 = some (zxi316, 2, 2, 11, 316, 0, 0, 2, 0) := rfl
  obtain ⟨me1, hme1, hOK⟩ := zall hen
  rw [hme] at hme1
  cases hme1
  rw [een] at hen
  cases hen
  have hr := zyfiw_run
  have hck := fun i hi => zyAll_iff zyfiw_ck i hi
  simp only [Bool.and_eq_true] at hck
  intro B
  refine xcutL (mi := zymx) (B := B) hOK rfl rfl (ι := Fin 3) (fun i => zpfiw i.val) (fun _ _ => []) (fun i => zFfiw i.val) (fun i => zSfiw i.val) (fun i => zXfiw i.val) (fun i => zRfiw i.val) (fun i y2 ct en2 me2 h => by cases h) 200000 (fun i => zyAll_iff hr i.val i.isLt) (fun i => (hck i.val i.isLt).1) (fun i => (hck i.val i.isLt).2.1) (fun i => (hck i.val i.isLt).2.2) ⟨0, by decide⟩ ⟨rfl, rfl, rfl, rfl⟩ ⟨by decide, by decide⟩ (fun i x0 E0 v E => xIfiw i.val x0 E0 v E) (fun i x0 E0 v E => xMfiw i.val x0 E0 v E) ?_ ?_ ?_
  · intro x0 E hx0 hT hΦ
    have hΦ : xΦiw x0 E := hΦ
    refine ⟨fun k p hp => ?_, ?_⟩
    · have hk : k < 2 := (List.getElem?_eq_some_iff.mp hp).1
      have hk : k = 0 ∨ k = 1 := by omega
      rcases hk with rfl | rfl
      · have hp : some (0, 4294967295) = some p := hp
        cases hp
        show ((0 : Nat) : Int) ≤ 0 + 2147483648 ∧ 0 + 2147483648 ≤ ((4294967295 : Nat) : Int)
        omega
      · have hp : some (0, 4294967295) = some p := hp
        cases hp
        show ((0 : Nat) : Int) ≤ x0 0 + 2147483648 ∧ x0 0 + 2147483648 ≤ ((4294967295 : Nat) : Int)
        have hx := hx0 0
        omega
    · show E = E ∧ (x0 0) = x0 0
      exact ⟨rfl, rfl⟩
  · intro x0 s Wg hRu hRl hrx hT0 hΦ i v H hT hrv hInv hKc hFr0 hIH x hx ρ2 v2 N2 H2 locs lsB stA hAt hB hv hr2 hXs hag hfr hFr hT2
    rcases i with ⟨i, hi⟩
    have hi2 : i = 0 ∨ i = 1 ∨ i = 2 := by omega
    rcases hi2 with rfl | rfl | rfl
    · have hx : x ∈ [zxfiw_zx0] := hx
      have hag : ∀ k, k < 2 → v2 k = v k := hag
      have hfr : xFr [] _ _ := hfr
      have ex := List.mem_singleton.mp hx
      subst ex
      obtain ⟨hF, hBd, hM⟩ := hXs
      have r1 := hr2 1
      have g1 : v2 1 = v 1 := hag 1 (by decide)
      have e74_36 : xE (zyEl zymx B H2) 74 36 = xE (zyEl zymx B H) 74 36 := xFr_E hfr rfl
      have q74_36 : xE (zyEl zymx B H) 74 36 = xE (zyEl zymx B s.heap) 74 36 := xFr_E hFr0 rfl
      have e74_38 : xE (zyEl zymx B H2) 74 38 = xE (zyEl zymx B H) 74 38 := xFr_E hfr rfl
      have q74_38 : xE (zyEl zymx B H) 74 38 = xE (zyEl zymx B s.heap) 74 38 := xFr_E hFr0 rfl
      have e74_39 : xE (zyEl zymx B H2) 74 39 = xE (zyEl zymx B H) 74 39 := xFr_E hfr rfl
      have q74_39 : xE (zyEl zymx B H) 74 39 = xE (zyEl zymx B s.heap) 74 39 := xFr_E hFr0 rfl
      have e74_40 : xE (zyEl zymx B H2) 74 40 = xE (zyEl zymx B H) 74 40 := xFr_E hfr rfl
      have q74_40 : xE (zyEl zymx B H) 74 40 = xE (zyEl zymx B s.heap) 74 40 := xFr_E hFr0 rfl
      have e74_42 : xE (zyEl zymx B H2) 74 42 = xE (zyEl zymx B H) 74 42 := xFr_E hfr rfl
      have q74_42 : xE (zyEl zymx B H) 74 42 = xE (zyEl zymx B s.heap) 74 42 := xFr_E hFr0 rfl
      have e84 : ∀ i, xE (zyEl zymx B H2) 84 i = xE (zyEl zymx B H) 84 i := fun i => xFr_E hfr rfl
      have q84 : ∀ i, xE (zyEl zymx B H) 84 i = xE (zyEl zymx B s.heap) 84 i := fun i => xFr_E hFr0 rfl
      have hI : (zyEl zymx B H) = (zyEl zymx B s.heap) ∧ (v 1) = x0 0 := hInv
      obtain ⟨hE, i1⟩ := hI
      have z74_36 : ((2147483648 : Nat) : Int) ≤ xE (zyEl zymx B H2) 74 36 + 2147483648 ∧ xE (zyEl zymx B H2) 74 36 + 2147483648 ≤ ((2147483657 : Nat) : Int) := xTyF hT2 74 36 36 rfl rfl rfl rfl rfl rfl
      have z74_40 : ((2147483648 : Nat) : Int) ≤ xE (zyEl zymx B H2) 74 40 + 2147483648 ∧ xE (zyEl zymx B H2) 74 40 + 2147483648 ≤ ((2147483652 : Nat) : Int) := xTyF hT2 74 40 40 rfl rfl rfl rfl rfl rfl
      refine xGo hIH hAt hB hv hFr ⟨1, by decide⟩ [0, 34359738369] [0, (v2 1), xE (zyEl zymx B H2) 74 36, xE (zyEl zymx B H2) 74 40] rfl ⟨by decide +kernel, ⟨rfl, by decide +kernel⟩, (xcs_c rfl (xcs_c rfl xcs_n)), (xe_0 (xe_f (by omega) (xe_c (by omega) (by omega) rfl (xe_c (by omega) (by omega) rfl xe_n)))), (xkq_c hT2 74 36 (q := 36) rfl rfl rfl rfl rfl rfl rfl rfl rfl rfl rfl (xkq_c hT2 74 40 (q := 40) rfl rfl rfl rfl rfl rfl rfl rfl rfl rfl rfl xkq_n))⟩ xst_n ?_ ?_
      · show (zyEl zymx B H2) = (zyEl zymx B s.heap) ∧ ((v2 1) : Int) = x0 0
        exact ⟨(xFr_n hfr).trans hE, by omega⟩
      · show 2 < 3
        omega
    · have hx : x ∈ [zxfiw_ax0] := hx
      have hag : ∀ k, k < 4 → v2 k = v k := hag
      have hfr : xFr [] _ _ := hfr
      have ex := List.mem_singleton.mp hx
      subst ex
      obtain ⟨hF, hBd, hM⟩ := hXs
      have r1 := hr2 1
      have g1 : v2 1 = v 1 := hag 1 (by decide)
      have g2 : v2 2 = v 2 := hag 2 (by decide)
      have g3 : v2 3 = v 3 := hag 3 (by decide)
      have b0 : ((2147483648 : Nat) : Int) ≤ (v2 2) + 2147483648 ∧ (v2 2) + 2147483648 ≤ ((2147483648 : Nat) : Int) := xXb hBd 0 rfl
      have b1 : ((2147483649 : Nat) : Int) ≤ (v2 3) + 2147483648 ∧ (v2 3) + 2147483648 ≤ ((2147483649 : Nat) : Int) := xXb hBd 1 rfl
      have k0 : xE (zyEl zymx B H) 74 36 = v 2 := xKcf hKc 0 rfl rfl
      have k1 : xE (zyEl zymx B H) 74 40 = v 3 := xKcf hKc 1 rfl rfl
      have f0 : (v2 2) = 0 := xXf hF 0 rfl
      have f1 : (v2 3) = 1 := xXf hF 1 rfl
      have e74_36 : xE (zyEl zymx B H2) 74 36 = xE (zyEl zymx B H) 74 36 := xFr_E hfr rfl
      have q74_36 : xE (zyEl zymx B H) 74 36 = xE (zyEl zymx B s.heap) 74 36 := xFr_E hFr0 rfl
      have e74_38 : xE (zyEl zymx B H2) 74 38 = xE (zyEl zymx B H) 74 38 := xFr_E hfr rfl
      have q74_38 : xE (zyEl zymx B H) 74 38 = xE (zyEl zymx B s.heap) 74 38 := xFr_E hFr0 rfl
      have e74_39 : xE (zyEl zymx B H2) 74 39 = xE (zyEl zymx B H) 74 39 := xFr_E hfr rfl
      have q74_39 : xE (zyEl zymx B H) 74 39 = xE (zyEl zymx B s.heap) 74 39 := xFr_E hFr0 rfl
      have e74_40 : xE (zyEl zymx B H2) 74 40 = xE (zyEl zymx B H) 74 40 := xFr_E hfr rfl
      have q74_40 : xE (zyEl zymx B H) 74 40 = xE (zyEl zymx B s.heap) 74 40 := xFr_E hFr0 rfl
      have e74_42 : xE (zyEl zymx B H2) 74 42 = xE (zyEl zymx B H) 74 42 := xFr_E hfr rfl
      have q74_42 : xE (zyEl zymx B H) 74 42 = xE (zyEl zymx B s.heap) 74 42 := xFr_E hFr0 rfl
      have e84 : ∀ i, xE (zyEl zymx B H2) 84 i = xE (zyEl zymx B H) 84 i := fun i => xFr_E hfr rfl
      have q84 : ∀ i, xE (zyEl zymx B H) 84 i = xE (zyEl zymx B s.heap) 84 i := fun i => xFr_E hFr0 rfl
      have hI : (zyEl zymx B H) = (zyEl zymx B s.heap) ∧ (v 1) = x0 0 := hInv
      obtain ⟨hE, i1⟩ := hI
      obtain ⟨⟨hP1, hP2⟩, hP3⟩ := (show (0 ≤ x0 0 ∧ x0 0 < 9) ∧ xWs (zyEl zymx B s.heap) from hΦ)
      have hEE : (zyEl zymx B H2) = (zyEl zymx B s.heap) := (xFr_n hfr).trans hE
      obtain ⟨L, hL⟩ := zyMI_long hAt.1 (a := 74) (k := 43) (q := 43) (c := zymr74) rfl (by decide) rfl (by decide) (by decide) rfl
      obtain ⟨L2, hL2⟩ : ∃ L2, L2 = Int64.ofInt (lgo (wFn (wrd (x0 0).toNat)) (wrd (x0 0).toNat).length 0 0) := ⟨_, rfl⟩
      have hW2 : (zyEl zymx B H2) 85 ((v2 1)).toNat = some (.long L2) := by
        rw [hEE, hL2, show (v2 1) = x0 0 by omega]
        exact hP3 _ (by omega)
      have hq := xI_r (lg_cmp L L2)
      refine xLgo2 hRl hIH hAt hB hv hFr rfl rfl 34359738369 rfl rfl (by decide +kernel) ((v2 1)) rfl (by omega) rfl rfl hL hW2 ⟨⟨2, by decide⟩, [0, 34359738369], [0, (v2 1), (xI (lg_cmp L L2))], 2, rfl, ⟨by decide +kernel, ⟨rfl, by decide +kernel⟩, (xcs_c rfl (xcs_c rfl xcs_n)), (xe_0 (xe_f (by omega) (xe_f (by omega) xe_n))), xkq_n⟩, rfl, by decide, rfl, ?_, ?_⟩
      · show (zyEl zymx B H2) = (zyEl zymx B s.heap) ∧ xE (zyEl zymx B H2) 74 36 = 0 ∧ xE (zyEl zymx B H2) 74 40 = 1 ∧ ∀ Lz : Int64, (zyEl zymx B H2) 74 43 = some (.long Lz) → (((xI (lg_cmp L L2)) : Int) = 0 ↔ Lz = Int64.ofInt (lgo (wFn (wrd (x0 0).toNat)) (wrd (x0 0).toNat).length 0 0))
        refine ⟨hEE, by omega, by omega, fun L3 h3 => ?_⟩
        have h4 : L = L3 := by
          rw [hL] at h3
          exact Value.long.inj (Option.some.inj h3)
        subst h4
        rw [← hL2]
        exact xcmp_0
      · show 1 < 2
        omega
    · cases hx
  · intro x0 E0 E E2 hrx hT0 hΦ i v hT hrv hInv hKc hFr0 x hx v2 hr2 hXs hag hfr hFr hT2
    rcases i with ⟨i, hi⟩
    have hi2 : i = 0 ∨ i = 1 ∨ i = 2 := by omega
    rcases hi2 with rfl | rfl | rfl
    · cases hx
    · have hx : x ∈ [zxfiw_ar0, zxfiw_ar1, zxfiw_ar2] := hx
      have hag : ∀ k, k < 4 → v2 k = v k := hag
      have hfr : xFr [] _ _ := hfr
      rcases List.mem_cons.mp hx with ex | hx
      · subst ex
        obtain ⟨hF, hBd, hM⟩ := hXs
        have g1 : v2 1 = v 1 := hag 1 (by decide)
        have g2 : v2 2 = v 2 := hag 2 (by decide)
        have g3 : v2 3 = v 3 := hag 3 (by decide)
        have b0 : ((2147483649 : Nat) : Int) ≤ (v2 2) + 2147483648 ∧ (v2 2) + 2147483648 ≤ ((2147483657 : Nat) : Int) := xXb hBd 0 rfl
        have k0 : xE E 74 36 = v 2 := xKcf hKc 0 rfl rfl
        have k1 : xE E 74 40 = v 3 := xKcf hKc 1 rfl rfl
        have f0 : ¬ (v2 2) = 0 := xXf hF 0 rfl
        have e74_36 : xE E2 74 36 = xE E 74 36 := xFr_E hfr rfl
        have q74_36 : xE E 74 36 = xE E0 74 36 := xFr_E hFr0 rfl
        have e74_38 : xE E2 74 38 = xE E 74 38 := xFr_E hfr rfl
        have q74_38 : xE E 74 38 = xE E0 74 38 := xFr_E hFr0 rfl
        have e74_39 : xE E2 74 39 = xE E 74 39 := xFr_E hfr rfl
        have q74_39 : xE E 74 39 = xE E0 74 39 := xFr_E hFr0 rfl
        have e74_40 : xE E2 74 40 = xE E 74 40 := xFr_E hfr rfl
        have q74_40 : xE E 74 40 = xE E0 74 40 := xFr_E hFr0 rfl
        have e74_42 : xE E2 74 42 = xE E 74 42 := xFr_E hfr rfl
        have q74_42 : xE E 74 42 = xE E0 74 42 := xFr_E hFr0 rfl
        have e84 : ∀ i, xE E2 84 i = xE E 84 i := fun i => xFr_E hfr rfl
        have q84 : ∀ i, xE E 84 i = xE E0 84 i := fun i => xFr_E hFr0 rfl
        have hI : E = E0 ∧ (v 1) = x0 0 := hInv
        show xΨiw x0 E0 E2 0
        obtain ⟨hE, i1⟩ := hI
        unfold xΨiw
        refine ⟨Or.inl rfl, fun _ => rfl, fun p hp hs hw => ⟨fun h => absurd h (by decide), fun h => ?_⟩⟩
        exfalso
        unfold tW sW at h
        rw [Bool.and_eq_true, decide_eq_true_eq] at h
        obtain ⟨s1, s1b, s2, s3, s4, s5, s6, s7, s8⟩ := xRD_i hs hp
        omega
      · skip
        rcases List.mem_cons.mp hx with ex | hx
        · subst ex
          obtain ⟨hF, hBd, hM⟩ := hXs
          have g1 : v2 1 = v 1 := hag 1 (by decide)
          have g2 : v2 2 = v 2 := hag 2 (by decide)
          have g3 : v2 3 = v 3 := hag 3 (by decide)
          have b0 : ((2147483648 : Nat) : Int) ≤ (v2 2) + 2147483648 ∧ (v2 2) + 2147483648 ≤ ((2147483648 : Nat) : Int) := xXb hBd 0 rfl
          have b1 : ((2147483650 : Nat) : Int) ≤ (v2 3) + 2147483648 ∧ (v2 3) + 2147483648 ≤ ((2147483652 : Nat) : Int) := xXb hBd 1 rfl
          have k0 : xE E 74 36 = v 2 := xKcf hKc 0 rfl rfl
          have k1 : xE E 74 40 = v 3 := xKcf hKc 1 rfl rfl
          have f0 : (v2 2) = 0 := xXf hF 0 rfl
          have f1 : ¬ (v2 3) = 1 := xXf hF 1 rfl
          have e74_36 : xE E2 74 36 = xE E 74 36 := xFr_E hfr rfl
          have q74_36 : xE E 74 36 = xE E0 74 36 := xFr_E hFr0 rfl
          have e74_38 : xE E2 74 38 = xE E 74 38 := xFr_E hfr rfl
          have q74_38 : xE E 74 38 = xE E0 74 38 := xFr_E hFr0 rfl
          have e74_39 : xE E2 74 39 = xE E 74 39 := xFr_E hfr rfl
          have q74_39 : xE E 74 39 = xE E0 74 39 := xFr_E hFr0 rfl
          have e74_40 : xE E2 74 40 = xE E 74 40 := xFr_E hfr rfl
          have q74_40 : xE E 74 40 = xE E0 74 40 := xFr_E hFr0 rfl
          have e74_42 : xE E2 74 42 = xE E 74 42 := xFr_E hfr rfl
          have q74_42 : xE E 74 42 = xE E0 74 42 := xFr_E hFr0 rfl
          have e84 : ∀ i, xE E2 84 i = xE E 84 i := fun i => xFr_E hfr rfl
          have q84 : ∀ i, xE E 84 i = xE E0 84 i := fun i => xFr_E hFr0 rfl
          have hI : E = E0 ∧ (v 1) = x0 0 := hInv
          show xΨiw x0 E0 E2 0
          obtain ⟨hE, i1⟩ := hI
          unfold xΨiw
          refine ⟨Or.inl rfl, fun _ => rfl, fun p hp hs hw => ⟨fun h => absurd h (by decide), fun h => ?_⟩⟩
          exfalso
          unfold tW sW at h
          rw [Bool.and_eq_true, decide_eq_true_eq] at h
          obtain ⟨s1, s1b, s2, s3, s4, s5, s6, s7, s8⟩ := xRD_i hs hp
          omega
        · skip
          have ex := List.mem_singleton.mp hx
          subst ex
          obtain ⟨hF, hBd, hM⟩ := hXs
          have g1 : v2 1 = v 1 := hag 1 (by decide)
          have g2 : v2 2 = v 2 := hag 2 (by decide)
          have g3 : v2 3 = v 3 := hag 3 (by decide)
          have b0 : ((2147483648 : Nat) : Int) ≤ (v2 2) + 2147483648 ∧ (v2 2) + 2147483648 ≤ ((2147483648 : Nat) : Int) := xXb hBd 0 rfl
          have b1 : ((2147483648 : Nat) : Int) ≤ (v2 3) + 2147483648 ∧ (v2 3) + 2147483648 ≤ ((2147483648 : Nat) : Int) := xXb hBd 1 rfl
          have k0 : xE E 74 36 = v 2 := xKcf hKc 0 rfl rfl
          have k1 : xE E 74 40 = v 3 := xKcf hKc 1 rfl rfl
          have f0 : (v2 2) = 0 := xXf hF 0 rfl
          have f1 : ¬ (v2 3) = 1 := xXf hF 1 rfl
          have e74_36 : xE E2 74 36 = xE E 74 36 := xFr_E hfr rfl
          have q74_36 : xE E 74 36 = xE E0 74 36 := xFr_E hFr0 rfl
          have e74_38 : xE E2 74 38 = xE E 74 38 := xFr_E hfr rfl
          have q74_38 : xE E 74 38 = xE E0 74 38 := xFr_E hFr0 rfl
          have e74_39 : xE E2 74 39 = xE E 74 39 := xFr_E hfr rfl
          have q74_39 : xE E 74 39 = xE E0 74 39 := xFr_E hFr0 rfl
          have e74_40 : xE E2 74 40 = xE E 74 40 := xFr_E hfr rfl
          have q74_40 : xE E 74 40 = xE E0 74 40 := xFr_E hFr0 rfl
          have e74_42 : xE E2 74 42 = xE E 74 42 := xFr_E hfr rfl
          have q74_42 : xE E 74 42 = xE E0 74 42 := xFr_E hFr0 rfl
          have e84 : ∀ i, xE E2 84 i = xE E 84 i := fun i => xFr_E hfr rfl
          have q84 : ∀ i, xE E 84 i = xE E0 84 i := fun i => xFr_E hFr0 rfl
          have hI : E = E0 ∧ (v 1) = x0 0 := hInv
          show xΨiw x0 E0 E2 0
          obtain ⟨hE, i1⟩ := hI
          unfold xΨiw
          refine ⟨Or.inl rfl, fun _ => rfl, fun p hp hs hw => ⟨fun h => absurd h (by decide), fun h => ?_⟩⟩
          exfalso
          unfold tW sW at h
          rw [Bool.and_eq_true, decide_eq_true_eq] at h
          obtain ⟨s1, s1b, s2, s3, s4, s5, s6, s7, s8⟩ := xRD_i hs hp
          omega
    · have hx : x ∈ [zxfiw_br0, zxfiw_br1, zxfiw_br2] := hx
      have hag : ∀ k, k < 3 → v2 k = v k := hag
      have hfr : xFr [] _ _ := hfr
      rcases List.mem_cons.mp hx with ex | hx
      · subst ex
        obtain ⟨hF, hBd, hM⟩ := hXs
        have g1 : v2 1 = v 1 := hag 1 (by decide)
        have g2 : v2 2 = v 2 := hag 2 (by decide)
        have b0 : ((2147483649 : Nat) : Int) ≤ (v2 2) + 2147483648 ∧ (v2 2) + 2147483648 ≤ ((4294967295 : Nat) : Int) := xXb hBd 0 rfl
        have f0 : ¬ (v2 2) = 0 := xXf hF 0 rfl
        have e74_36 : xE E2 74 36 = xE E 74 36 := xFr_E hfr rfl
        have q74_36 : xE E 74 36 = xE E0 74 36 := xFr_E hFr0 rfl
        have e74_38 : xE E2 74 38 = xE E 74 38 := xFr_E hfr rfl
        have q74_38 : xE E 74 38 = xE E0 74 38 := xFr_E hFr0 rfl
        have e74_39 : xE E2 74 39 = xE E 74 39 := xFr_E hfr rfl
        have q74_39 : xE E 74 39 = xE E0 74 39 := xFr_E hFr0 rfl
        have e74_40 : xE E2 74 40 = xE E 74 40 := xFr_E hfr rfl
        have q74_40 : xE E 74 40 = xE E0 74 40 := xFr_E hFr0 rfl
        have e74_42 : xE E2 74 42 = xE E 74 42 := xFr_E hfr rfl
        have q74_42 : xE E 74 42 = xE E0 74 42 := xFr_E hFr0 rfl
        have e84 : ∀ i, xE E2 84 i = xE E 84 i := fun i => xFr_E hfr rfl
        have q84 : ∀ i, xE E 84 i = xE E0 84 i := fun i => xFr_E hFr0 rfl
        have hI : E = E0 ∧ xE E 74 36 = 0 ∧ xE E 74 40 = 1 ∧ ∀ Lz : Int64, E 74 43 = some (.long Lz) → ((v 2) = 0 ↔ Lz = Int64.ofInt (lgo (wFn (wrd (x0 0).toNat)) (wrd (x0 0).toNat).length 0 0)) := hInv
        show xΨiw x0 E0 E2 0
        obtain ⟨hE, i1, i2, i3⟩ := hI
        unfold xΨiw
        refine ⟨by omega, fun h => by omega, fun p hp hs hw => ?_⟩
        obtain ⟨s1, s1b, s2, s3, s4, s5, s6, s7, s8⟩ := xRD_i hs hp
        have hk : tKd (xE E0 84) (xE E0 74 42) p = 2 := by omega
        have hl : E 74 43 = some (.long (lLt (xE E0 84) (tFr (xE E0 84) (xE E0 74 42) p) (tNx (xE E0 84) (xE E0 74 42) p))) := by
          rw [hE]
          exact hs.2.2.2.2.2 hk
        have h3 := i3 _ hl
        rw [tW_l (k := (x0 0).toNat) hp hk] at h3
        rw [← h3]
        omega
      · skip
        rcases List.mem_cons.mp hx with ex | hx
        · subst ex
          obtain ⟨hF, hBd, hM⟩ := hXs
          have g1 : v2 1 = v 1 := hag 1 (by decide)
          have g2 : v2 2 = v 2 := hag 2 (by decide)
          have b0 : ((0 : Nat) : Int) ≤ (v2 2) + 2147483648 ∧ (v2 2) + 2147483648 ≤ ((2147483647 : Nat) : Int) := xXb hBd 0 rfl
          have f0 : ¬ (v2 2) = 0 := xXf hF 0 rfl
          have e74_36 : xE E2 74 36 = xE E 74 36 := xFr_E hfr rfl
          have q74_36 : xE E 74 36 = xE E0 74 36 := xFr_E hFr0 rfl
          have e74_38 : xE E2 74 38 = xE E 74 38 := xFr_E hfr rfl
          have q74_38 : xE E 74 38 = xE E0 74 38 := xFr_E hFr0 rfl
          have e74_39 : xE E2 74 39 = xE E 74 39 := xFr_E hfr rfl
          have q74_39 : xE E 74 39 = xE E0 74 39 := xFr_E hFr0 rfl
          have e74_40 : xE E2 74 40 = xE E 74 40 := xFr_E hfr rfl
          have q74_40 : xE E 74 40 = xE E0 74 40 := xFr_E hFr0 rfl
          have e74_42 : xE E2 74 42 = xE E 74 42 := xFr_E hfr rfl
          have q74_42 : xE E 74 42 = xE E0 74 42 := xFr_E hFr0 rfl
          have e84 : ∀ i, xE E2 84 i = xE E 84 i := fun i => xFr_E hfr rfl
          have q84 : ∀ i, xE E 84 i = xE E0 84 i := fun i => xFr_E hFr0 rfl
          have hI : E = E0 ∧ xE E 74 36 = 0 ∧ xE E 74 40 = 1 ∧ ∀ Lz : Int64, E 74 43 = some (.long Lz) → ((v 2) = 0 ↔ Lz = Int64.ofInt (lgo (wFn (wrd (x0 0).toNat)) (wrd (x0 0).toNat).length 0 0)) := hInv
          show xΨiw x0 E0 E2 0
          obtain ⟨hE, i1, i2, i3⟩ := hI
          unfold xΨiw
          refine ⟨by omega, fun h => by omega, fun p hp hs hw => ?_⟩
          obtain ⟨s1, s1b, s2, s3, s4, s5, s6, s7, s8⟩ := xRD_i hs hp
          have hk : tKd (xE E0 84) (xE E0 74 42) p = 2 := by omega
          have hl : E 74 43 = some (.long (lLt (xE E0 84) (tFr (xE E0 84) (xE E0 74 42) p) (tNx (xE E0 84) (xE E0 74 42) p))) := by
            rw [hE]
            exact hs.2.2.2.2.2 hk
          have h3 := i3 _ hl
          rw [tW_l (k := (x0 0).toNat) hp hk] at h3
          rw [← h3]
          omega
        · skip
          have ex := List.mem_singleton.mp hx
          subst ex
          obtain ⟨hF, hBd, hM⟩ := hXs
          have g1 : v2 1 = v 1 := hag 1 (by decide)
          have g2 : v2 2 = v 2 := hag 2 (by decide)
          have b0 : ((2147483648 : Nat) : Int) ≤ (v2 2) + 2147483648 ∧ (v2 2) + 2147483648 ≤ ((2147483648 : Nat) : Int) := xXb hBd 0 rfl
          have f0 : (v2 2) = 0 := xXf hF 0 rfl
          have e74_36 : xE E2 74 36 = xE E 74 36 := xFr_E hfr rfl
          have q74_36 : xE E 74 36 = xE E0 74 36 := xFr_E hFr0 rfl
          have e74_38 : xE E2 74 38 = xE E 74 38 := xFr_E hfr rfl
          have q74_38 : xE E 74 38 = xE E0 74 38 := xFr_E hFr0 rfl
          have e74_39 : xE E2 74 39 = xE E 74 39 := xFr_E hfr rfl
          have q74_39 : xE E 74 39 = xE E0 74 39 := xFr_E hFr0 rfl
          have e74_40 : xE E2 74 40 = xE E 74 40 := xFr_E hfr rfl
          have q74_40 : xE E 74 40 = xE E0 74 40 := xFr_E hFr0 rfl
          have e74_42 : xE E2 74 42 = xE E 74 42 := xFr_E hfr rfl
          have q74_42 : xE E 74 42 = xE E0 74 42 := xFr_E hFr0 rfl
          have e84 : ∀ i, xE E2 84 i = xE E 84 i := fun i => xFr_E hfr rfl
          have q84 : ∀ i, xE E 84 i = xE E0 84 i := fun i => xFr_E hFr0 rfl
          have hI : E = E0 ∧ xE E 74 36 = 0 ∧ xE E 74 40 = 1 ∧ ∀ Lz : Int64, E 74 43 = some (.long Lz) → ((v 2) = 0 ↔ Lz = Int64.ofInt (lgo (wFn (wrd (x0 0).toNat)) (wrd (x0 0).toNat).length 0 0)) := hInv
          show xΨiw x0 E0 E2 1
          obtain ⟨hE, i1, i2, i3⟩ := hI
          unfold xΨiw
          refine ⟨by omega, fun h => by omega, fun p hp hs hw => ?_⟩
          obtain ⟨s1, s1b, s2, s3, s4, s5, s6, s7, s8⟩ := xRD_i hs hp
          have hk : tKd (xE E0 84) (xE E0 74 42) p = 2 := by omega
          have hl : E 74 43 = some (.long (lLt (xE E0 84) (tFr (xE E0 84) (xE E0 74 42) p) (tNx (xE E0 84) (xE E0 74 42) p))) := by
            rw [hE]
            exact hs.2.2.2.2.2 hk
          have h3 := i3 _ hl
          rw [tW_l (k := (x0 0).toNat) hp hk] at h3
          rw [← h3]
          omega
