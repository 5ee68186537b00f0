/-! THE WISHED WORD is read -/
theorem zcr_wis : zyAllP (fun r c => zyall (zyrok 2147483641 2147483655) 460 519 (zymr75 r c).2.2) = true := by decide +kernel
theorem zyisSignR {l : Launch} {r c : Nat} (hp : zyPr r c) {en : zEn} {me : zMe} (hen : zG zxMeta 317 = some en) (hme : zG zMeth 317 = some me) : zyHc l (zymr r c) en me 2 1 zyΦsg zyΨsg := zyHc_r (zyisSign hen hme) (fun as E E2 vo h k hk => by rw [h.1]) hp
theorem zc74r {r c : Nat} {E : zyEm} (hT : zyTy (zymr r c) E) {k lo hi : Nat} (hk : k < 49) (hr : zymr74.2.2[k]? = some (k, k, 8 * (lo * 4294967296 + hi) + 2)) (h1 : 2147483648 ≤ lo) (h2 : hi < 4294967296) : ∃ v, v + 2147483648 ≤ hi ∧ E 74 k = some (.int (Int32.ofNat v)) := by
  obtain ⟨x, e, b1, b2⟩ := (hT 74 zymr74 k rfl (show k < 49 from hk) _ (List.mem_of_getElem? hr) (Nat.le_refl _) (Nat.le_refl _)).1 (by dsimp only; omega)
  dsimp only at b1 b2
  have b1 : 2147483648 ≤ zB x := by omega
  obtain ⟨o1, o2⟩ := zyOn b1
  exact ⟨zyN1 x, by omega, by rw [← o1]; exact e⟩
/-- letters wished up to one -/
def zWk (E : zyEm) (W : Nat) : Prop := ∀ k, k < W → ¬ zyI E 75 (460 + k) = Int32.ofNat 0
theorem zWk_v {E : zyEm} {W : Nat} (hW : W ≤ 60) (h5 : E 75 5 = some (.int (Int32.ofNat W))) (h : zWk E W) : zWv E := fun k hk hl => by
  rw [zyI_s h5, zyOl (by omega) (by omega)] at hl
  exact h k hl
theorem zWk_fr {E E2 : zyEm} {W : Nat} (hW : W ≤ 60) (h : ∀ k, 460 ≤ k → k < 520 → E2 75 k = E 75 k) (hk : zWk E W) : zWk E2 W := fun k hlt => by
  rw [zyI_eq (h (460 + k) (by omega) (by omega))]
  exact hk k hlt
def zyIrw (i W n0 n : Nat) (E0 : zyEm) (ρ : Nat → Int32) (E : zyEm) : Prop := (E 75 3 = some (.int (Int32.ofNat 0)) ∧ E 75 4 = some (.int (Int32.ofNat 0))) ∧ zPn E ∧ E 74 33 = E0 74 33 ∧ (∀ k, E 76 k = E0 76 k) ∧ (E0 74 39 = some (.int (Int32.ofNat n0)) ∧ E 74 39 = some (.int (Int32.ofNat n)) ∧ n0 ≤ n ∧ n ≤ 901) ∧ (i = 0 → E 74 40 = some (.int (Int32.ofNat 1))) ∧ (i = 0 ∨ i = 1 ∨ i = 3 ∨ i = 4 ∨ i = 5 ∨ i = 6 ∨ i = 8 ∨ i = 9 → E 74 36 = some (.int (Int32.ofNat 0))) ∧ (2 ≤ i → W ≤ 60 ∧ E 75 5 = some (.int (Int32.ofNat W)) ∧ zWk E W) ∧ (i = 3 → ρ 2 = 1 → E 74 40 = some (.int (Int32.ofNat 3))) ∧ (i = 4 → ρ 2 = 1 → E 74 40 = some (.int (Int32.ofNat 3))) ∧ (i = 6 ∨ i = 9 → W ≤ 59 ∧ E 74 40 = some (.int (Int32.ofNat 2)) ∧ ¬ zyI E 75 (460 + W) = Int32.ofNat 0) ∧ (i = 6 → ρ 2 = Int32.ofNat W) ∧ (i = 5 → ρ 2 = Int32.ofNat 0)
theorem zyrwd_run : zyAllP (fun r c => zyrS (zymr r c) zxi326 (326, 0, 0, 0, 0) 5 zprwd (fun _ _ => []) zFrwd zSrwd zXrwd zRrwd 10) = true := by decide +kernel
theorem zyreadsWord {l : Launch} {r c : Nat} (h1 : 1 ≤ r) (h2 : r ≤ 4) (h3 : 1 ≤ c) (h4 : c ≤ 5) {en : zEn} {me : zMe} (hen : zG zxMeta 326 = some en) (hme : zG zMeth 326 = some me) : zyHc l (zymr r c) en me 5 0 zyΦl zyΨl := by
  have een : zG zxMeta 326 = some (zxi326, 1, 2, 11, 326, 0, 0, 0, 0) := rfl
  obtain ⟨me1, hme1, hOK⟩ := zall hen
  rw [hme] at hme1
  cases hme1
  rw [een] at hen
  cases hen
  have hr := zyAllP_iff zyrwd_run h1 h2 h3 h4
  obtain ⟨merd, hmerd, -⟩ := zall (show zG zxMeta 314 = some (zxi314, 1, 1, 11, 314, 0, 0, 0, 0) from rfl)
  have hrd := zyreadsR (l := l) (r := r) (c := c) ⟨h1, h2, h3, h4⟩ (show zG zxMeta 314 = some (zxi314, 1, 1, 11, 314, 0, 0, 0, 0) from rfl) hmerd
  obtain ⟨mesg, hmesg, -⟩ := zall (show zG zxMeta 317 = some (zxi317, 2, 2, 11, 317, 0, 0, 2, 0) from rfl)
  have hsg := zyisSignR (l := l) (r := r) (c := c) ⟨h1, h2, h3, h4⟩ (show zG zxMeta 317 = some (zxi317, 2, 2, 11, 317, 0, 0, 2, 0) from rfl) hmesg
  refine zycutS (mi := zymr r c) hOK rfl rfl ⟨_, rfl, rfl⟩ (ι := Fin 10) (fun i => zprwd i.val) (fun _ _ => []) (fun i => zFrwd i.val) (fun i => zSrwd i.val) (fun i => zXrwd i.val) (fun i => zRrwd i.val) (fun i y2 ct en2 me2 h => by cases h) 200000 (fun i => zyAll_iff hr i.val i.isLt) ⟨0, by decide⟩ ⟨rfl, rfl, rfl, rfl⟩ ⟨by decide, by decide⟩
    (fun i as E0 ρ E => ∃ W n0 n : Nat, zyIrw i.val W n0 n E0 ρ E) (fun i as E0 ρ E => if i.val = 0 then 100000 else if i.val = 1 then 90000 else 20 * (902 - zyN1 (zyI E 74 39)) + (if i.val = 2 then 18 else if i.val = 3 then 17 else if i.val = 4 then 16 else if i.val = 8 then 15 else if i.val = 5 then 14 else if i.val = 9 then 13 else if i.val = 6 then 12 else 19)) ?_ ?_ ?_
  · intro as E hlen hT hΦ
    obtain ⟨⟨j1, j2, j3⟩, hP, w0, so⟩ := hΦ
    obtain ⟨n, hn, s1⟩ := zc74r hT (k := 39) (lo := 2147483648) (hi := 2147484549) (by decide) rfl (by decide) (by decide)
    exact ⟨zEnv_c (zyfull _) (zEnv_c (zyfull _) zEnv_nil), 0, n, n, ⟨j1, j2⟩, hP, rfl, fun _ => rfl, ⟨s1, s1, Nat.le_refl _, by omega⟩, fun _ => so, fun _ => w0, fun h => absurd (show 2 ≤ 0 from h) (by decide), fun h => absurd (show 0 = 3 from h) (by decide), fun h => absurd (show 0 = 4 from h) (by decide), fun h => absurd (show 0 = 6 ∨ 0 = 9 from h) (by decide), fun h => absurd (show 0 = 6 from h) (by decide), fun h => absurd (show 0 = 5 from h) (by decide)⟩
  · intro as B s Wg hRu hT0 hΦ hlen i ρ H hT hInv hIH x hx ρ2 N2 H2 locs lsB stA hAt hXs hag hfr hT2
    rcases i with ⟨i, hi⟩
    have hi2 : i = 0 ∨ i = 1 ∨ i = 2 ∨ i = 3 ∨ i = 4 ∨ i = 5 ∨ i = 6 ∨ i = 7 ∨ i = 8 ∨ i = 9 := by omega
    rcases hi2 with rfl | rfl | rfl | rfl | rfl | rfl | rfl | rfl | rfl | rfl
    · have hx : x ∈ [zxrwd_ax0] := hx
      have hg : ∀ k, k < 2 → ρ2 k = ρ k := hag
      have hI := hInv
      have hI : ∃ W n0 n : Nat, zyIrw 0 W n0 n (zyEl (zymr r c) B s.heap) ρ (zyEl (zymr r c) B H) := hI
      obtain ⟨hF, hB, hM⟩ := hXs
      have hEE : (zyEl (zymr r c) B H2) = (zyEl (zymr r c) B H) := zyfr0 hfr
      have ex := List.mem_singleton.mp hx
      subst ex
      obtain ⟨W, n0, n, ⟨jT, jL⟩, hP, t33, t76, ⟨s0, s1, hn0, hn⟩, i0, iw, iW, i3, i4, i69, i6, i5⟩ := hI
      have so := i0 rfl
      have w0 := iw (Or.inl rfl)
      rw [← hEE] at jT jL hP t33 s1 so w0
      have t76 : ∀ k, (zyEl (zymr r c) B H2) 76 k = (zyEl (zymr r c) B s.heap) 76 k := fun k => by rw [hEE]; exact t76 k
      rcases hP 1 (by decide) so with q | ⟨⟨n9, hn9, en9⟩, -⟩
      · cases q
      have e39 : (zyEl (zymr r c) B H2) 74 39 = some (.int (Int32.ofNat n)) := s1
      rw [e39] at en9
      have enn := zyOi (by omega) (by omega) (Value.int.inj (Option.some.inj en9))
      refine zyCa0 hRu hIH hAt hB hrd (ix := 450) (ax := 5024) rfl rfl rfl hmerd ⟨rfl, rfl, rfl, rfl⟩ (by decide) [] rfl (by decide) rfl ⟨1, by decide⟩ [595, 0] rfl rfl rfl rfl ?_ ?_
      · show zyΦrd [] _
        exact ⟨n, by omega, e39⟩
      · intro E3 vo hT3 hΨ
        have hΨ : zyΨrd [] _ E3 vo := hΨ
        have hPn := zPn_rd hΨ
        obtain ⟨ev, p1, q0, n2, u2, p2, p3, p4, p5, p6, -⟩ := hΨ
        rw [e39] at p3
        have eq0 := zyOi (by omega) (by omega) (Value.int.inj (Option.some.inj p3))
        refine ⟨ev, ⟨0, n0, n2, ⟨(p1 75 3 (by omega)).trans jT, (p1 75 4 (by omega)).trans jL⟩, hPn, (p1 74 33 (by omega)).trans t33, fun k => (p1 76 k (by omega)).trans (t76 k), ⟨s0, p6, by omega, p5⟩, fun h => absurd (show 1 = 0 from h) (by decide), fun _ => (p1 74 36 (by omega)).trans w0, fun h => absurd (show 2 ≤ 1 from h) (by decide), fun h => absurd (show 1 = 3 from h) (by decide), fun h => absurd (show 1 = 4 from h) (by decide), fun h => absurd (show 1 = 6 ∨ 1 = 9 from h) (by decide), fun h => absurd (show 1 = 6 from h) (by decide), fun h => absurd (show 1 = 5 from h) (by decide)⟩, ?_⟩
        show 90000 < 100000
        decide
    · have hx : x ∈ [zxrwd_bx0] := hx
      have hg : ∀ k, k < 2 → ρ2 k = ρ k := hag
      have hI := hInv
      have hI : ∃ W n0 n : Nat, zyIrw 1 W n0 n (zyEl (zymr r c) B s.heap) ρ (zyEl (zymr r c) B H) := hI
      obtain ⟨hF, hB, hM⟩ := hXs
      have hfr : ∀ a k, zyin [(75, 5, 5)] a k = false → (zyEl (zymr r c) B H2) a k = (zyEl (zymr r c) B H) a k := hfr
      have ex := List.mem_singleton.mp hx
      subst ex
      obtain ⟨W, n0, n, ⟨jT, jL⟩, hP, t33, t76, ⟨s0, s1, hn0, hn⟩, i0, iw, iW, i3, i4, i69, i6, i5⟩ := hI
      have hk : ∀ a k, ¬ (a = 75 ∧ 5 ≤ k ∧ k ≤ 5) → (zyEl (zymr r c) B H2) a k = (zyEl (zymr r c) B H) a k := by
        intro a k n0
        apply hfr
        cases hq : zyin [(75, 5, 5)] a k with
        | false => rfl
        | true =>
          obtain ⟨p0, g1, g2, g3, g4⟩ := zyin_iff.mp hq
          simp only [List.mem_cons, List.not_mem_nil, or_false] at g1
          rcases g1 with rfl
          · exact absurd ⟨g2.symm, g3, g4⟩ n0
      have m := zyXm hM 0 rfl
      have m : zyEl (zymr r c) B H2 75 5 = some (.int (Int32.ofNat 0)) := m
      have s2 := (hk 74 39 (by omega)).trans s1
      refine zyGoB hIH hAt hB ⟨2, by decide⟩ [595, 0] rfl rfl rfl rfl ⟨0, n0, n, ⟨(hk 75 3 (by omega)).trans jT, (hk 75 4 (by omega)).trans jL⟩, zPn_fr (fun k _ _ => hk 74 k (by omega)) hP, (hk 74 33 (by omega)).trans t33, fun k => (hk 76 k (by omega)).trans (t76 k), ⟨s0, s2, hn0, hn⟩, fun h => absurd (show 2 = 0 from h) (by decide), fun h => absurd (show 2 = 0 ∨ 2 = 1 ∨ 2 = 3 ∨ 2 = 4 ∨ 2 = 5 ∨ 2 = 6 ∨ 2 = 8 ∨ 2 = 9 from h) (by decide), fun _ => ⟨Nat.zero_le _, m, fun k hk0 => absurd hk0 (Nat.not_lt_zero k)⟩, fun h => absurd (show 2 = 3 from h) (by decide), fun h => absurd (show 2 = 4 from h) (by decide), fun h => absurd (show 2 = 6 ∨ 2 = 9 from h) (by decide), fun h => absurd (show 2 = 6 from h) (by decide), fun h => absurd (show 2 = 5 from h) (by decide)⟩ ?_
      show 20 * (902 - zyN1 (zyI (zyEl (zymr r c) B H2) 74 39)) + 18 < 90000
      omega
    · have hx : x ∈ [zxrwd_cx0, zxrwd_cx1, zxrwd_cx2] := hx
      have hg : ∀ k, k < 2 → ρ2 k = ρ k := hag
      have hI := hInv
      have hI : ∃ W n0 n : Nat, zyIrw 2 W n0 n (zyEl (zymr r c) B s.heap) ρ (zyEl (zymr r c) B H) := hI
      obtain ⟨hF, hB, hM⟩ := hXs
      have hEE : (zyEl (zymr r c) B H2) = (zyEl (zymr r c) B H) := zyfr0 hfr
      rcases List.mem_cons.mp hx with ex | hx
      · subst ex
        obtain ⟨W, n0, n, ⟨jT, jL⟩, hP, t33, t76, ⟨s0, s1, hn0, hn⟩, i0, iw, iW, i3, i4, i69, i6, i5⟩ := hI
        obtain ⟨hW, w5, wk⟩ := iW (by decide)
        obtain ⟨na, ua1, ua2, ua3⟩ := zyXe hF 0 rfl
        have ua1 : Int32.ofNat 36 = Int32.ofNat na := ua1
        have ua3 : (zyEl (zymr r c) B H) 74 na = some (.int (ρ2 2)) := ua3
        have ea := zyOi (by omega) (by omega) ua1
        subst ea
        obtain ⟨nb, ub1, ub2, ub3⟩ := zyXe hF 1 rfl
        have ub1 : Int32.ofNat 40 = Int32.ofNat nb := ub1
        have ub3 : (zyEl (zymr r c) B H) 74 nb = some (.int (ρ2 3)) := ub3
        have eb := zyOi (by omega) (by omega) ub1
        subst eb
        have bw := zyXb hB 0 rfl
        have bw : 2147483648 ≤ zB (ρ2 2) ∧ zB (ρ2 2) ≤ 2147483648 := bw
        obtain ⟨ow, ow2⟩ := zyOn bw.1
        rw [ow, show zyN1 (ρ2 2) = 0 by omega] at ua3
        refine zyCa1 hRu hIH hAt hB hsg (ix := 466) (ax := 5072) rfl rfl rfl hmesg ⟨rfl, rfl, rfl, rfl⟩ (by decide) [360] rfl (by decide) rfl ⟨3, by decide⟩ [595, 0] [(0, 4294967295), (0, 4294967295)] 2147483648 2147483649 rfl (by decide) rfl rfl rfl rfl rfl ?_ ?_
        · show zyΦsg _ _
          rw [hEE]
          exact ⟨hP, _, rfl⟩
        · intro E3 vo hT3 hΨ
          obtain ⟨e3, z, ez, hz, hz1⟩ := (show zyΨsg _ _ E3 vo from hΨ)
          rw [hEE] at e3 hz1
          subst e3
          refine ⟨z, ez, ?_, ?_, ⟨W, n0, n, ⟨jT, jL⟩, hP, t33, t76, ⟨s0, s1, hn0, hn⟩, fun h => absurd (show 3 = 0 from h) (by decide), fun _ => ua3, fun _ => ⟨hW, w5, wk⟩, fun q => fun q2 => (hz1 (zyρi_e.symm.trans q2)).2, fun h => absurd (show 3 = 4 from h) (by decide), fun h => absurd (show 3 = 6 ∨ 3 = 9 from h) (by decide), fun h => absurd (show 3 = 6 from h) (by decide), fun h => absurd (show 3 = 5 from h) (by decide)⟩, ?_⟩
          · rcases hz with rfl | rfl <;> decide
          · rcases hz with rfl | rfl <;> decide
          · show 20 * (902 - zyN1 (zyI (zyEl (zymr r c) B H) 74 39)) + 17 < 20 * (902 - zyN1 (zyI (zyEl (zymr r c) B H) 74 39)) + 18
            rw [zyI_s s1]
            omega
      · skip
        rcases List.mem_cons.mp hx with ex | hx
        · subst ex
          obtain ⟨W, n0, n, ⟨jT, jL⟩, hP, t33, t76, ⟨s0, s1, hn0, hn⟩, i0, iw, iW, i3, i4, i69, i6, i5⟩ := hI
          obtain ⟨hW, w5, wk⟩ := iW (by decide)
          obtain ⟨na, ua1, ua2, ua3⟩ := zyXe hF 0 rfl
          have ua1 : Int32.ofNat 36 = Int32.ofNat na := ua1
          have ua3 : (zyEl (zymr r c) B H) 74 na = some (.int (ρ2 2)) := ua3
          have ea := zyOi (by omega) (by omega) ua1
          subst ea
          obtain ⟨nb, ub1, ub2, ub3⟩ := zyXe hF 1 rfl
          have ub1 : Int32.ofNat 40 = Int32.ofNat nb := ub1
          have ub3 : (zyEl (zymr r c) B H) 74 nb = some (.int (ρ2 3)) := ub3
          have eb := zyOi (by omega) (by omega) ub1
          subst eb
          have bw := zyXb hB 0 rfl
          have bw : 2147483648 ≤ zB (ρ2 2) ∧ zB (ρ2 2) ≤ 2147483648 := bw
          obtain ⟨ow, ow2⟩ := zyOn bw.1
          rw [ow, show zyN1 (ρ2 2) = 0 by omega] at ua3
          refine zyCa1 hRu hIH hAt hB hsg (ix := 466) (ax := 5072) rfl rfl rfl hmesg ⟨rfl, rfl, rfl, rfl⟩ (by decide) [360] rfl (by decide) rfl ⟨3, by decide⟩ [595, 0] [(0, 4294967295), (0, 4294967295)] 2147483648 2147483649 rfl (by decide) rfl rfl rfl rfl rfl ?_ ?_
          · show zyΦsg _ _
            rw [hEE]
            exact ⟨hP, _, rfl⟩
          · intro E3 vo hT3 hΨ
            obtain ⟨e3, z, ez, hz, hz1⟩ := (show zyΨsg _ _ E3 vo from hΨ)
            rw [hEE] at e3 hz1
            subst e3
            refine ⟨z, ez, ?_, ?_, ⟨W, n0, n, ⟨jT, jL⟩, hP, t33, t76, ⟨s0, s1, hn0, hn⟩, fun h => absurd (show 3 = 0 from h) (by decide), fun _ => ua3, fun _ => ⟨hW, w5, wk⟩, fun q => fun q2 => (hz1 (zyρi_e.symm.trans q2)).2, fun h => absurd (show 3 = 4 from h) (by decide), fun h => absurd (show 3 = 6 ∨ 3 = 9 from h) (by decide), fun h => absurd (show 3 = 6 from h) (by decide), fun h => absurd (show 3 = 5 from h) (by decide)⟩, ?_⟩
            · rcases hz with rfl | rfl <;> decide
            · rcases hz with rfl | rfl <;> decide
            · show 20 * (902 - zyN1 (zyI (zyEl (zymr r c) B H) 74 39)) + 17 < 20 * (902 - zyN1 (zyI (zyEl (zymr r c) B H) 74 39)) + 18
              rw [zyI_s s1]
              omega
        · skip
          have ex := List.mem_singleton.mp hx
          subst ex
          obtain ⟨W, n0, n, ⟨jT, jL⟩, hP, t33, t76, ⟨s0, s1, hn0, hn⟩, i0, iw, iW, i3, i4, i69, i6, i5⟩ := hI
          obtain ⟨hW, w5, wk⟩ := iW (by decide)
          obtain ⟨na, ua1, ua2, ua3⟩ := zyXe hF 0 rfl
          have ua1 : Int32.ofNat 36 = Int32.ofNat na := ua1
          have ua3 : (zyEl (zymr r c) B H) 74 na = some (.int (ρ2 2)) := ua3
          have ea := zyOi (by omega) (by omega) ua1
          subst ea
          obtain ⟨nb, ub1, ub2, ub3⟩ := zyXe hF 1 rfl
          have ub1 : Int32.ofNat 40 = Int32.ofNat nb := ub1
          have ub3 : (zyEl (zymr r c) B H) 74 nb = some (.int (ρ2 3)) := ub3
          have eb := zyOi (by omega) (by omega) ub1
          subst eb
          have bw := zyXb hB 0 rfl
          have bw : 2147483648 ≤ zB (ρ2 2) ∧ zB (ρ2 2) ≤ 2147483648 := bw
          obtain ⟨ow, ow2⟩ := zyOn bw.1
          rw [ow, show zyN1 (ρ2 2) = 0 by omega] at ua3
          have bs := zyXb hB 1 rfl
          have bs : 2147483650 ≤ zB (ρ2 3) ∧ zB (ρ2 3) ≤ 2147483650 := bs
          obtain ⟨os, os2⟩ := zyOn (show 2147483648 ≤ zB (ρ2 3) by omega)
          rw [os, show zyN1 (ρ2 3) = 2 by omega] at ub3
          refine zyCa1 hRu hIH hAt hB hsg (ix := 466) (ax := 5072) rfl rfl rfl hmesg ⟨rfl, rfl, rfl, rfl⟩ (by decide) [360] rfl (by decide) rfl ⟨4, by decide⟩ [595, 0] [(0, 4294967295), (0, 4294967295)] 2147483648 2147483649 rfl (by decide) rfl rfl rfl rfl rfl ?_ ?_
          · show zyΦsg _ _
            rw [hEE]
            exact ⟨hP, _, rfl⟩
          · intro E3 vo hT3 hΨ
            obtain ⟨e3, z, ez, hz, hz1⟩ := (show zyΨsg _ _ E3 vo from hΨ)
            rw [hEE] at e3 hz1
            subst e3
            refine ⟨z, ez, ?_, ?_, ⟨W, n0, n, ⟨jT, jL⟩, hP, t33, t76, ⟨s0, s1, hn0, hn⟩, fun h => absurd (show 4 = 0 from h) (by decide), fun _ => ua3, fun _ => ⟨hW, w5, wk⟩, fun h => absurd (show 4 = 3 from h) (by decide), fun q => fun q2 => (hz1 (zyρi_e.symm.trans q2)).2, fun h => absurd (show 4 = 6 ∨ 4 = 9 from h) (by decide), fun h => absurd (show 4 = 6 from h) (by decide), fun h => absurd (show 4 = 5 from h) (by decide)⟩, ?_⟩
            · rcases hz with rfl | rfl <;> decide
            · rcases hz with rfl | rfl <;> decide
            · show 20 * (902 - zyN1 (zyI (zyEl (zymr r c) B H) 74 39)) + 16 < 20 * (902 - zyN1 (zyI (zyEl (zymr r c) B H) 74 39)) + 18
              rw [zyI_s s1]
              omega
    · have hx : x ∈ [zxrwd_dx0] := hx
      have hg : ∀ k, k < 3 → ρ2 k = ρ k := hag
      have hI := hInv
      have hI : ∃ W n0 n : Nat, zyIrw 3 W n0 n (zyEl (zymr r c) B s.heap) ρ (zyEl (zymr r c) B H) := hI
      obtain ⟨hF, hB, hM⟩ := hXs
      have hEE : (zyEl (zymr r c) B H2) = (zyEl (zymr r c) B H) := zyfr0 hfr
      have ex := List.mem_singleton.mp hx
      subst ex
      obtain ⟨W, n0, n, ⟨jT, jL⟩, hP, t33, t76, ⟨s0, s1, hn0, hn⟩, i0, iw, iW, i3, i4, i69, i6, i5⟩ := hI
      obtain ⟨hW, w5, wk⟩ := iW (by decide)
      have w0 := iw (Or.inr (Or.inr (Or.inl rfl)))
      refine zyCa1 hRu hIH hAt hB hsg (ix := 466) (ax := 5072) rfl rfl rfl hmesg ⟨rfl, rfl, rfl, rfl⟩ (by decide) [360] rfl (by decide) rfl ⟨4, by decide⟩ [595, 0] [(0, 4294967295), (0, 4294967295)] 2147483648 2147483649 rfl (by decide) rfl rfl rfl rfl rfl ?_ ?_
      · show zyΦsg _ _
        rw [hEE]
        exact ⟨hP, _, rfl⟩
      · intro E3 vo hT3 hΨ
        obtain ⟨e3, z, ez, hz, hz1⟩ := (show zyΨsg _ _ E3 vo from hΨ)
        rw [hEE] at e3 hz1
        subst e3
        refine ⟨z, ez, ?_, ?_, ⟨W, n0, n, ⟨jT, jL⟩, hP, t33, t76, ⟨s0, s1, hn0, hn⟩, fun h => absurd (show 4 = 0 from h) (by decide), fun _ => w0, fun _ => ⟨hW, w5, wk⟩, fun h => absurd (show 4 = 3 from h) (by decide), fun q => fun q2 => (hz1 (zyρi_e.symm.trans q2)).2, fun h => absurd (show 4 = 6 ∨ 4 = 9 from h) (by decide), fun h => absurd (show 4 = 6 from h) (by decide), fun h => absurd (show 4 = 5 from h) (by decide)⟩, ?_⟩
        · rcases hz with rfl | rfl <;> decide
        · rcases hz with rfl | rfl <;> decide
        · show 20 * (902 - zyN1 (zyI (zyEl (zymr r c) B H) 74 39)) + 16 < 20 * (902 - zyN1 (zyI (zyEl (zymr r c) B H) 74 39)) + 17
          rw [zyI_s s1]
          omega
    · have hx : x ∈ [zxrwd_ex0, zxrwd_ex1] := hx
      have hg : ∀ k, k < 3 → ρ2 k = ρ k := hag
      have hI := hInv
      have hI : ∃ W n0 n : Nat, zyIrw 4 W n0 n (zyEl (zymr r c) B s.heap) ρ (zyEl (zymr r c) B H) := hI
      obtain ⟨hF, hB, hM⟩ := hXs
      have hEE : (zyEl (zymr r c) B H2) = (zyEl (zymr r c) B H) := zyfr0 hfr
      rcases List.mem_cons.mp hx with ex | hx
      · subst ex
        obtain ⟨W, n0, n, ⟨jT, jL⟩, hP, t33, t76, ⟨s0, s1, hn0, hn⟩, i0, iw, iW, i3, i4, i69, i6, i5⟩ := hI
        obtain ⟨hW, w5, wk⟩ := iW (by decide)
        have w0 := iw (Or.inr (Or.inr (Or.inr (Or.inl rfl))))
        have b2 := zyXb hB 0 rfl
        have b2 : 2147483649 ≤ zB (ρ2 2) ∧ zB (ρ2 2) ≤ 2147483649 := b2
        have z2 : ρ2 2 = 1 := by
          rcases zybool (x := ρ2 2) (by omega) (by omega) with e | e
          · rw [e] at b2
            exact absurd b2.1 (by decide)
          · exact e
        have so := i4 rfl ((hg 2 (by decide)).symm.trans z2)
        rw [← hEE] at jT jL hP t33 so w0 w5 wk
        have t76 : ∀ k, (zyEl (zymr r c) B H2) 76 k = (zyEl (zymr r c) B s.heap) 76 k := fun k => by rw [hEE]; exact t76 k
        rcases hP 3 (by decide) so with q | ⟨⟨n9, hn9, en9⟩, -⟩
        · cases q
        have e39 : (zyEl (zymr r c) B H2) 74 39 = some (.int (Int32.ofNat n)) := by rw [hEE]; exact s1
        rw [e39] at en9
        have enn := zyOi (by omega) (by omega) (Value.int.inj (Option.some.inj en9))
        refine zyCa0 hRu hIH hAt hB hrd (ix := 450) (ax := 5024) rfl rfl rfl hmerd ⟨rfl, rfl, rfl, rfl⟩ (by decide) [] rfl (by decide) rfl ⟨8, by decide⟩ [595, 68719476737] rfl rfl rfl rfl ?_ ?_
        · show zyΦrd [] _
          exact ⟨n, by omega, e39⟩
        · intro E3 vo hT3 hΨ
          have hΨ : zyΨrd [] _ E3 vo := hΨ
          have hPn := zPn_rd hΨ
          obtain ⟨ev, p1, q0, n2, u2, p2, p3, p4, p5, p6, -⟩ := hΨ
          rw [e39] at p3
          have eq0 := zyOi (by omega) (by omega) (Value.int.inj (Option.some.inj p3))
          refine ⟨ev, ⟨W, n0, n2, ⟨(p1 75 3 (by omega)).trans jT, (p1 75 4 (by omega)).trans jL⟩, hPn, (p1 74 33 (by omega)).trans t33, fun k => (p1 76 k (by omega)).trans (t76 k), ⟨s0, p6, by omega, p5⟩, fun h => absurd (show 8 = 0 from h) (by decide), fun _ => (p1 74 36 (by omega)).trans w0, fun _ => ⟨hW, (p1 75 5 (by omega)).trans w5, zWk_fr hW (fun k _ _ => p1 75 k (by omega)) wk⟩, fun h => absurd (show 8 = 3 from h) (by decide), fun h => absurd (show 8 = 4 from h) (by decide), fun h => absurd (show 8 = 6 ∨ 8 = 9 from h) (by decide), fun h => absurd (show 8 = 6 from h) (by decide), fun h => absurd (show 8 = 5 from h) (by decide)⟩, ?_⟩
          show 20 * (902 - zyN1 (zyI E3 74 39)) + 15 < 20 * (902 - zyN1 (zyI (zyEl (zymr r c) B H) 74 39)) + 16
          rw [zyI_s p6, zyI_s s1, zyN1_of (by omega), zyN1_of (by omega)]
          omega
      · skip
        have ex := List.mem_singleton.mp hx
        subst ex
        obtain ⟨W, n0, n, ⟨jT, jL⟩, hP, t33, t76, ⟨s0, s1, hn0, hn⟩, i0, iw, iW, i3, i4, i69, i6, i5⟩ := hI
        obtain ⟨hW, w5, wk⟩ := iW (by decide)
        have w0 := iw (Or.inr (Or.inr (Or.inr (Or.inl rfl))))
        rw [← hEE] at jT jL hP t33 w0 w5 wk
        have t76 : ∀ k, (zyEl (zymr r c) B H2) 76 k = (zyEl (zymr r c) B s.heap) 76 k := fun k => by rw [hEE]; exact t76 k
        have s2 : (zyEl (zymr r c) B H2) 74 39 = some (.int (Int32.ofNat n)) := by rw [hEE]; exact s1
        refine zyGoB hIH hAt hB ⟨8, by decide⟩ [595, 68719476737] rfl rfl rfl rfl ⟨W, n0, n, ⟨jT, jL⟩, hP, t33, t76, ⟨s0, s2, hn0, hn⟩, fun h => absurd (show 8 = 0 from h) (by decide), fun _ => w0, fun _ => ⟨hW, w5, wk⟩, fun h => absurd (show 8 = 3 from h) (by decide), fun h => absurd (show 8 = 4 from h) (by decide), fun h => absurd (show 8 = 6 ∨ 8 = 9 from h) (by decide), fun h => absurd (show 8 = 6 from h) (by decide), fun h => absurd (show 8 = 5 from h) (by decide)⟩ ?_
        show 20 * (902 - zyN1 (zyI (zyEl (zymr r c) B H2) 74 39)) + 15 < 20 * (902 - zyN1 (zyI (zyEl (zymr r c) B H) 74 39)) + 16
        rw [zyI_s s2, zyI_s s1]
        omega
    · have hx : x ∈ [zxrwd_fx0, zxrwd_fx1] := hx
      have hg : ∀ k, k < 3 → ρ2 k = ρ k := hag
      have hI := hInv
      have hI : ∃ W n0 n : Nat, zyIrw 5 W n0 n (zyEl (zymr r c) B s.heap) ρ (zyEl (zymr r c) B H) := hI
      obtain ⟨hF, hB, hM⟩ := hXs
      have hfr : ∀ a k, zyin [(74, 36, 37)] a k = false → (zyEl (zymr r c) B H2) a k = (zyEl (zymr r c) B H) a k := hfr
      rcases List.mem_cons.mp hx with ex | hx
      · subst ex
        obtain ⟨W, n0, n, ⟨jT, jL⟩, hP, t33, t76, ⟨s0, s1, hn0, hn⟩, i0, iw, iW, i3, i4, i69, i6, i5⟩ := hI
        have hk : ∀ a k, ¬ (a = 74 ∧ 36 ≤ k ∧ k ≤ 37) → (zyEl (zymr r c) B H2) a k = (zyEl (zymr r c) B H) a k := by
          intro a k n0
          apply hfr
          cases hq : zyin [(74, 36, 37)] a k with
          | false => rfl
          | true =>
            obtain ⟨p0, g1, g2, g3, g4⟩ := zyin_iff.mp hq
            simp only [List.mem_cons, List.not_mem_nil, or_false] at g1
            rcases g1 with rfl
            · exact absurd ⟨g2.symm, g3, g4⟩ n0
        obtain ⟨hW, w5, wk⟩ := iW (by decide)
        obtain ⟨nb, ub1, ub2, ub3⟩ := zyXe hF 0 rfl
        have ub1 : Int32.ofNat 40 = Int32.ofNat nb := ub1
        have ub3 : (zyEl (zymr r c) B H) 74 nb = some (.int (ρ2 3)) := ub3
        have eb := zyOi (by omega) (by omega) ub1
        subst eb
        have bs := zyXb hB 0 rfl
        have bs : 2147483650 ≤ zB (ρ2 3) ∧ zB (ρ2 3) ≤ 2147483650 := bs
        obtain ⟨os, os2⟩ := zyOn (show 2147483648 ≤ zB (ρ2 3) by omega)
        rw [os, show zyN1 (ρ2 3) = 2 by omega] at ub3
        obtain ⟨n5, x1, x2, x3⟩ := zyXe hF 2 rfl
        have x1 : Int32.ofNat 5 = Int32.ofNat n5 := x1
        have x3 : zyEl (zymr r c) B H 75 n5 = some (.int (ρ2 5)) := x3
        have e5 := zyEk x1 (by omega) x2 x3 w5
        have b5 := zyXb hB 2 rfl
        have b5 : 2147483647 ≤ zB (ρ2 5) ∧ zB (ρ2 5) ≤ 2147483707 := b5
        rw [e5, zyBn (by omega)] at b5
        have bN := zyXb hB 1 rfl
        have bN : 2147483649 ≤ zB (ρ2 4) ∧ zB (ρ2 4) ≤ 2147483655 := bN
        obtain ⟨oN, oN2⟩ := zyOn (show 2147483648 ≤ zB (ρ2 4) by omega)
        have ej : ρ2 5 + Int32.ofNat 460 = Int32.ofNat (W + 460) := by rw [e5, zyOa]
        have m := zyXm hM 0 rfl
        have m : zyEl (zymr r c) B H2 74 36 = some (.int (ρ2 2)) := m
        have bv := zyXb hB 3 rfl
        have bv : 2147483641 ≤ zB (ρ2 6) ∧ zB (ρ2 6) ≤ 2147483647 := bv
        have hv0 : ¬ ρ2 6 = Int32.ofNat 0 := by
          intro q
          rw [q] at bv
          exact absurd bv (by decide)
        have r2 : ρ2 2 = Int32.ofNat 0 := (hg 2 (by decide)).trans (i5 rfl)
        rw [r2] at m
        refine zyAsB hRu hIH hAt hB 75 (W + 460) (zymr75 r c) rfl rfl rfl (cv := 206158430209) (cj := 171798695521) rfl (by decide) (by decide) ⟨9, by decide⟩ [595, 0] rfl rfl rfl rfl (show W + 460 < 556 by omega) ej ?_ ?_
        · intro r0 hr0 g1 g2
          refine zyrok_iff (zyall_iff (zyAllP_iff zcr_wis h1 h2 h3 h4) r0 hr0 (W + 460) (by omega) (by omega) g1 g2) ?_ ?_
          · show 2147483641 ≤ zB (ρ2 6)
            omega
          · show zB (ρ2 6) ≤ 2147483655
            omega
        · intro E3 hT3 p1 p2
          have p1 : E3 75 (W + 460) = some (.int (ρ2 6)) := p1
          have k3 : ∀ a k, ¬ (a = 75 ∧ k = W + 460) → ¬ (a = 74 ∧ 36 ≤ k ∧ k ≤ 37) → E3 a k = zyEl (zymr r c) B H a k := fun a k n1 n2 => (p2 a k n1).trans (hk a k n2)
          have s3 := (k3 74 39 (by omega) (by omega)).trans s1
          refine ⟨⟨W, n0, n, ⟨(k3 75 3 (by omega) (by omega)).trans jT, (k3 75 4 (by omega) (by omega)).trans jL⟩, zPn_fr (fun k _ _ => k3 74 k (by omega) (by omega)) hP, (k3 74 33 (by omega) (by omega)).trans t33, fun k => (k3 76 k (by omega) (by omega)).trans (t76 k), ⟨s0, s3, hn0, hn⟩, fun h => absurd (show 9 = 0 from h) (by decide), fun _ => (p2 74 36 (by omega)).trans m, fun _ => ⟨hW, (k3 75 5 (by omega) (by omega)).trans w5, fun j hj => by rw [zyI_eq (k3 75 (460 + j) (by omega) (by omega))]; exact wk j hj⟩, fun h => absurd (show 9 = 3 from h) (by decide), fun h => absurd (show 9 = 4 from h) (by decide), fun _ => ⟨by omega, (k3 74 40 (by omega) (by omega)).trans ub3, by rw [show 460 + W = W + 460 by omega, zyI_s p1]; exact hv0⟩, fun h => absurd (show 9 = 6 from h) (by decide), fun h => absurd (show 9 = 5 from h) (by decide)⟩, ?_⟩
          show 20 * (902 - zyN1 (zyI E3 74 39)) + 13 < 20 * (902 - zyN1 (zyI (zyEl (zymr r c) B H) 74 39)) + 14
          rw [zyI_s s3, zyI_s s1]
          omega
      · skip
        have ex := List.mem_singleton.mp hx
        subst ex
        obtain ⟨W, n0, n, ⟨jT, jL⟩, hP, t33, t76, ⟨s0, s1, hn0, hn⟩, i0, iw, iW, i3, i4, i69, i6, i5⟩ := hI
        have hk : ∀ a k, ¬ (a = 74 ∧ 36 ≤ k ∧ k ≤ 37) → (zyEl (zymr r c) B H2) a k = (zyEl (zymr r c) B H) a k := by
          intro a k n0
          apply hfr
          cases hq : zyin [(74, 36, 37)] a k with
          | false => rfl
          | true =>
            obtain ⟨p0, g1, g2, g3, g4⟩ := zyin_iff.mp hq
            simp only [List.mem_cons, List.not_mem_nil, or_false] at g1
            rcases g1 with rfl
            · exact absurd ⟨g2.symm, g3, g4⟩ n0
        obtain ⟨hW, w5, wk⟩ := iW (by decide)
        obtain ⟨nb, ub1, ub2, ub3⟩ := zyXe hF 0 rfl
        have ub1 : Int32.ofNat 40 = Int32.ofNat nb := ub1
        have ub3 : (zyEl (zymr r c) B H) 74 nb = some (.int (ρ2 3)) := ub3
        have eb := zyOi (by omega) (by omega) ub1
        subst eb
        have bs := zyXb hB 0 rfl
        have bs : 2147483650 ≤ zB (ρ2 3) ∧ zB (ρ2 3) ≤ 2147483650 := bs
        obtain ⟨os, os2⟩ := zyOn (show 2147483648 ≤ zB (ρ2 3) by omega)
        rw [os, show zyN1 (ρ2 3) = 2 by omega] at ub3
        obtain ⟨n5, x1, x2, x3⟩ := zyXe hF 2 rfl
        have x1 : Int32.ofNat 5 = Int32.ofNat n5 := x1
        have x3 : zyEl (zymr r c) B H 75 n5 = some (.int (ρ2 5)) := x3
        have e5 := zyEk x1 (by omega) x2 x3 w5
        have b5 := zyXb hB 2 rfl
        have b5 : 2147483647 ≤ zB (ρ2 5) ∧ zB (ρ2 5) ≤ 2147483707 := b5
        rw [e5, zyBn (by omega)] at b5
        have bN := zyXb hB 1 rfl
        have bN : 2147483649 ≤ zB (ρ2 4) ∧ zB (ρ2 4) ≤ 2147483655 := bN
        obtain ⟨oN, oN2⟩ := zyOn (show 2147483648 ≤ zB (ρ2 4) by omega)
        have ej : ρ2 5 + Int32.ofNat 460 = Int32.ofNat (W + 460) := by rw [e5, zyOa]
        have m := zyXm hM 0 rfl
        have m : zyEl (zymr r c) B H2 74 36 = some (.int (ρ2 2)) := m
        have bv := zyXb hB 1 rfl
        have bv : 2147483649 ≤ zB (ρ2 4) ∧ zB (ρ2 4) ≤ 2147483655 := bv
        have hv0 : ¬ ρ2 4 = Int32.ofNat 0 := by
          intro q
          rw [q] at bv
          exact absurd bv (by decide)
        have r2 : ρ2 2 = Int32.ofNat 0 := (hg 2 (by decide)).trans (i5 rfl)
        rw [r2] at m
        refine zyAsB hRu hIH hAt hB 75 (W + 460) (zymr75 r c) rfl rfl rfl (cv := 137438953473) (cj := 171798695521) rfl (by decide) (by decide) ⟨9, by decide⟩ [595, 0] rfl rfl rfl rfl (show W + 460 < 556 by omega) ej ?_ ?_
        · intro r0 hr0 g1 g2
          refine zyrok_iff (zyall_iff (zyAllP_iff zcr_wis h1 h2 h3 h4) r0 hr0 (W + 460) (by omega) (by omega) g1 g2) ?_ ?_
          · show 2147483641 ≤ zB (ρ2 4)
            omega
          · show zB (ρ2 4) ≤ 2147483655
            omega
        · intro E3 hT3 p1 p2
          have p1 : E3 75 (W + 460) = some (.int (ρ2 4)) := p1
          have k3 : ∀ a k, ¬ (a = 75 ∧ k = W + 460) → ¬ (a = 74 ∧ 36 ≤ k ∧ k ≤ 37) → E3 a k = zyEl (zymr r c) B H a k := fun a k n1 n2 => (p2 a k n1).trans (hk a k n2)
          have s3 := (k3 74 39 (by omega) (by omega)).trans s1
          refine ⟨⟨W, n0, n, ⟨(k3 75 3 (by omega) (by omega)).trans jT, (k3 75 4 (by omega) (by omega)).trans jL⟩, zPn_fr (fun k _ _ => k3 74 k (by omega) (by omega)) hP, (k3 74 33 (by omega) (by omega)).trans t33, fun k => (k3 76 k (by omega) (by omega)).trans (t76 k), ⟨s0, s3, hn0, hn⟩, fun h => absurd (show 9 = 0 from h) (by decide), fun _ => (p2 74 36 (by omega)).trans m, fun _ => ⟨hW, (k3 75 5 (by omega) (by omega)).trans w5, fun j hj => by rw [zyI_eq (k3 75 (460 + j) (by omega) (by omega))]; exact wk j hj⟩, fun h => absurd (show 9 = 3 from h) (by decide), fun h => absurd (show 9 = 4 from h) (by decide), fun _ => ⟨by omega, (k3 74 40 (by omega) (by omega)).trans ub3, by rw [show 460 + W = W + 460 by omega, zyI_s p1]; exact hv0⟩, fun h => absurd (show 9 = 6 from h) (by decide), fun h => absurd (show 9 = 5 from h) (by decide)⟩, ?_⟩
          show 20 * (902 - zyN1 (zyI E3 74 39)) + 13 < 20 * (902 - zyN1 (zyI (zyEl (zymr r c) B H) 74 39)) + 14
          rw [zyI_s s3, zyI_s s1]
          omega
    · have hx : x ∈ [zxrwd_gx0] := hx
      have hg : ∀ k, k < 3 → ρ2 k = ρ k := hag
      have hI := hInv
      have hI : ∃ W n0 n : Nat, zyIrw 6 W n0 n (zyEl (zymr r c) B s.heap) ρ (zyEl (zymr r c) B H) := hI
      obtain ⟨hF, hB, hM⟩ := hXs
      have hfr : ∀ a k, zyin [(75, 5, 5)] a k = false → (zyEl (zymr r c) B H2) a k = (zyEl (zymr r c) B H) a k := hfr
      have ex := List.mem_singleton.mp hx
      subst ex
      obtain ⟨W, n0, n, ⟨jT, jL⟩, hP, t33, t76, ⟨s0, s1, hn0, hn⟩, i0, iw, iW, i3, i4, i69, i6, i5⟩ := hI
      have hk : ∀ a k, ¬ (a = 75 ∧ 5 ≤ k ∧ k ≤ 5) → (zyEl (zymr r c) B H2) a k = (zyEl (zymr r c) B H) a k := by
        intro a k n0
        apply hfr
        cases hq : zyin [(75, 5, 5)] a k with
        | false => rfl
        | true =>
          obtain ⟨p0, g1, g2, g3, g4⟩ := zyin_iff.mp hq
          simp only [List.mem_cons, List.not_mem_nil, or_false] at g1
          rcases g1 with rfl
          · exact absurd ⟨g2.symm, g3, g4⟩ n0
      obtain ⟨hW, w5, wk⟩ := iW (by decide)
      have w0 := iw (Or.inr (Or.inr (Or.inr (Or.inr (Or.inr (Or.inl rfl))))))
      obtain ⟨w59, so, wn⟩ := i69 (Or.inl rfl)
      have a2 : ρ2 2 = Int32.ofNat W := (hg 2 (by decide)).trans (i6 rfl)
      have m := zyXm hM 0 rfl
      have m : zyEl (zymr r c) B H2 75 5 = some (.int (ρ2 2 + Int32.ofNat 1)) := m
      rw [a2, zyOa] at m
      have s2 := (hk 74 39 (by omega)).trans s1
      have hP2 : zPn (zyEl (zymr r c) B H2) := zPn_fr (fun k _ _ => hk 74 k (by omega)) hP
      rcases hP2 2 (by decide) ((hk 74 40 (by omega)).trans so) with q | ⟨⟨n9, hn9, en9⟩, -⟩
      · cases q
      have e39 : (zyEl (zymr r c) B H2) 74 39 = some (.int (Int32.ofNat n)) := s2
      rw [e39] at en9
      have enn := zyOi (by omega) (by omega) (Value.int.inj (Option.some.inj en9))
      refine zyCa0 hRu hIH hAt hB hrd (ix := 450) (ax := 5024) rfl rfl rfl hmerd ⟨rfl, rfl, rfl, rfl⟩ (by decide) [] rfl (by decide) rfl ⟨7, by decide⟩ [595, 0] rfl rfl rfl rfl ?_ ?_
      · show zyΦrd [] _
        exact ⟨n, by omega, e39⟩
      · intro E3 vo hT3 hΨ
        have hΨ : zyΨrd [] _ E3 vo := hΨ
        have hPn := zPn_rd hΨ
        obtain ⟨ev, p1, q0, n2, u2, p2, p3, p4, p5, p6, -⟩ := hΨ
        rw [e39] at p3
        have eq0 := zyOi (by omega) (by omega) (Value.int.inj (Option.some.inj p3))
        refine ⟨ev, ⟨(W + 1), n0, n2, ⟨(p1 75 3 (by omega)).trans ((hk 75 3 (by omega)).trans jT), (p1 75 4 (by omega)).trans ((hk 75 4 (by omega)).trans jL)⟩, hPn, (p1 74 33 (by omega)).trans ((hk 74 33 (by omega)).trans t33), fun k => (p1 76 k (by omega)).trans ((hk 76 k (by omega)).trans (t76 k)), ⟨s0, p6, by omega, p5⟩, fun h => absurd (show 7 = 0 from h) (by decide), fun h => absurd (show 7 = 0 ∨ 7 = 1 ∨ 7 = 3 ∨ 7 = 4 ∨ 7 = 5 ∨ 7 = 6 ∨ 7 = 8 ∨ 7 = 9 from h) (by decide), fun _ => ⟨by omega, (p1 75 5 (by omega)).trans m, fun j hj => by
          rw [zyI_eq (p1 75 (460 + j) (by omega)), zyI_eq (hk 75 (460 + j) (by omega))]
          by_cases ej : j = W
          · rw [ej]
            exact wn
          · exact wk j (by omega)⟩, fun h => absurd (show 7 = 3 from h) (by decide), fun h => absurd (show 7 = 4 from h) (by decide), fun h => absurd (show 7 = 6 ∨ 7 = 9 from h) (by decide), fun h => absurd (show 7 = 6 from h) (by decide), fun h => absurd (show 7 = 5 from h) (by decide)⟩, ?_⟩
        show 20 * (902 - zyN1 (zyI E3 74 39)) + 19 < 20 * (902 - zyN1 (zyI (zyEl (zymr r c) B H) 74 39)) + 12
        rw [zyI_s p6, zyI_s s1, zyN1_of (by omega), zyN1_of (by omega)]
        omega
    · have hx : x ∈ [zxrwd_hx0] := hx
      have hg : ∀ k, k < 2 → ρ2 k = ρ k := hag
      have hI := hInv
      have hI : ∃ W n0 n : Nat, zyIrw 7 W n0 n (zyEl (zymr r c) B s.heap) ρ (zyEl (zymr r c) B H) := hI
      obtain ⟨hF, hB, hM⟩ := hXs
      have hEE : (zyEl (zymr r c) B H2) = (zyEl (zymr r c) B H) := zyfr0 hfr
      have ex := List.mem_singleton.mp hx
      subst ex
      obtain ⟨W, n0, n, ⟨jT, jL⟩, hP, t33, t76, ⟨s0, s1, hn0, hn⟩, i0, iw, iW, i3, i4, i69, i6, i5⟩ := hI
      obtain ⟨hW, w5, wk⟩ := iW (by decide)
      rw [← hEE] at jT jL hP t33 w5 wk
      have t76 : ∀ k, (zyEl (zymr r c) B H2) 76 k = (zyEl (zymr r c) B s.heap) 76 k := fun k => by rw [hEE]; exact t76 k
      have s2 : (zyEl (zymr r c) B H2) 74 39 = some (.int (Int32.ofNat n)) := by rw [hEE]; exact s1
      refine zyGoB hIH hAt hB ⟨2, by decide⟩ [595, 0] rfl rfl rfl rfl ⟨W, n0, n, ⟨jT, jL⟩, hP, t33, t76, ⟨s0, s2, hn0, hn⟩, fun h => absurd (show 2 = 0 from h) (by decide), fun h => absurd (show 2 = 0 ∨ 2 = 1 ∨ 2 = 3 ∨ 2 = 4 ∨ 2 = 5 ∨ 2 = 6 ∨ 2 = 8 ∨ 2 = 9 from h) (by decide), fun _ => ⟨hW, w5, wk⟩, fun h => absurd (show 2 = 3 from h) (by decide), fun h => absurd (show 2 = 4 from h) (by decide), fun h => absurd (show 2 = 6 ∨ 2 = 9 from h) (by decide), fun h => absurd (show 2 = 6 from h) (by decide), fun h => absurd (show 2 = 5 from h) (by decide)⟩ ?_
      show 20 * (902 - zyN1 (zyI (zyEl (zymr r c) B H2) 74 39)) + 18 < 20 * (902 - zyN1 (zyI (zyEl (zymr r c) B H) 74 39)) + 19
      rw [zyI_s s2, zyI_s s1]
      omega
    · have hx : x ∈ [zxrwd_kx0] := hx
      have hg : ∀ k, k < 2 → ρ2 k = ρ k := hag
      have hI := hInv
      have hI : ∃ W n0 n : Nat, zyIrw 8 W n0 n (zyEl (zymr r c) B s.heap) ρ (zyEl (zymr r c) B H) := hI
      obtain ⟨hF, hB, hM⟩ := hXs
      have hEE : (zyEl (zymr r c) B H2) = (zyEl (zymr r c) B H) := zyfr0 hfr
      have ex := List.mem_singleton.mp hx
      subst ex
      obtain ⟨W, n0, n, ⟨jT, jL⟩, hP, t33, t76, ⟨s0, s1, hn0, hn⟩, i0, iw, iW, i3, i4, i69, i6, i5⟩ := hI
      obtain ⟨hW, w5, wk⟩ := iW (by decide)
      have w0 := iw (Or.inr (Or.inr (Or.inr (Or.inr (Or.inr (Or.inr (Or.inl rfl)))))))
      rw [← hEE] at jT jL hP t33 w0 w5 wk
      have t76 : ∀ k, (zyEl (zymr r c) B H2) 76 k = (zyEl (zymr r c) B s.heap) 76 k := fun k => by rw [hEE]; exact t76 k
      have s2 : (zyEl (zymr r c) B H2) 74 39 = some (.int (Int32.ofNat n)) := by rw [hEE]; exact s1
      refine zyGoKi hIH hAt hB ⟨5, by decide⟩ [595, 34359738369] [(0, 4294967295), (2147483648, 2147483649)] 2147483648 2147483648 rfl (by decide) rfl rfl rfl (74 * 16384 + 36) zymr74 rfl rfl (show 36 < 49 by decide) (Int32.ofNat 0) w0 (by decide) ⟨W, n0, n, ⟨jT, jL⟩, hP, t33, t76, ⟨s0, s2, hn0, hn⟩, fun h => absurd (show 5 = 0 from h) (by decide), fun _ => w0, fun _ => ⟨hW, w5, wk⟩, fun h => absurd (show 5 = 3 from h) (by decide), fun h => absurd (show 5 = 4 from h) (by decide), fun h => absurd (show 5 = 6 ∨ 5 = 9 from h) (by decide), fun h => absurd (show 5 = 6 from h) (by decide), fun _ => zyρi_e⟩ ?_
      show 20 * (902 - zyN1 (zyI (zyEl (zymr r c) B H2) 74 39)) + 14 < 20 * (902 - zyN1 (zyI (zyEl (zymr r c) B H) 74 39)) + 15
      rw [zyI_s s2, zyI_s s1]
      omega
    · have hx : x ∈ [zxrwd_mx0] := hx
      have hg : ∀ k, k < 2 → ρ2 k = ρ k := hag
      have hI := hInv
      have hI : ∃ W n0 n : Nat, zyIrw 9 W n0 n (zyEl (zymr r c) B s.heap) ρ (zyEl (zymr r c) B H) := hI
      obtain ⟨hF, hB, hM⟩ := hXs
      have hEE : (zyEl (zymr r c) B H2) = (zyEl (zymr r c) B H) := zyfr0 hfr
      have ex := List.mem_singleton.mp hx
      subst ex
      obtain ⟨W, n0, n, ⟨jT, jL⟩, hP, t33, t76, ⟨s0, s1, hn0, hn⟩, i0, iw, iW, i3, i4, i69, i6, i5⟩ := hI
      obtain ⟨hW, w5, wk⟩ := iW (by decide)
      have w0 := iw (Or.inr (Or.inr (Or.inr (Or.inr (Or.inr (Or.inr (Or.inr (rfl))))))))
      rw [← hEE] at jT jL hP t33 w0 w5 wk
      have t76 : ∀ k, (zyEl (zymr r c) B H2) 76 k = (zyEl (zymr r c) B s.heap) 76 k := fun k => by rw [hEE]; exact t76 k
      have s2 : (zyEl (zymr r c) B H2) 74 39 = some (.int (Int32.ofNat n)) := by rw [hEE]; exact s1
      obtain ⟨w59, so, wn⟩ := i69 (Or.inr rfl)
      rw [← hEE] at so wn
      refine zyGoKi hIH hAt hB ⟨6, by decide⟩ [595, 0] [(0, 4294967295), (0, 4294967295)] 2147483648 2147483707 rfl (by decide) rfl rfl rfl (75 * 16384 + 5) (zymr75 r c) rfl rfl (by show 5 < zyLen (zymr75 r c); rw [zyL75]; decide) (Int32.ofNat W) w5 (by rw [zyBn (by omega)]; omega) ⟨W, n0, n, ⟨jT, jL⟩, hP, t33, t76, ⟨s0, s2, hn0, hn⟩, fun h => absurd (show 6 = 0 from h) (by decide), fun _ => w0, fun _ => ⟨hW, w5, wk⟩, fun h => absurd (show 6 = 3 from h) (by decide), fun h => absurd (show 6 = 4 from h) (by decide), fun _ => ⟨w59, so, wn⟩, fun _ => zyρi_e, fun h => absurd (show 6 = 5 from h) (by decide)⟩ ?_
      show 20 * (902 - zyN1 (zyI (zyEl (zymr r c) B H2) 74 39)) + 12 < 20 * (902 - zyN1 (zyI (zyEl (zymr r c) B H) 74 39)) + 13
      rw [zyI_s s2, zyI_s s1]
      omega
  · intro as E0 E E2 hT0 hΦ hlen i ρ hT hInv x hx ρ2 N2 B vo hXs hag hfr hT2 hvo
    rcases i with ⟨i, hi⟩
    have hi2 : i = 0 ∨ i = 1 ∨ i = 2 ∨ i = 3 ∨ i = 4 ∨ i = 5 ∨ i = 6 ∨ i = 7 ∨ i = 8 ∨ i = 9 := by omega
    rcases hi2 with rfl | rfl | rfl | rfl | rfl | rfl | rfl | rfl | rfl | rfl
    · cases hx
    · cases hx
    · have hx : x ∈ [zxrwd_cr0] := hx
      have hg : ∀ k, k < 2 → ρ2 k = ρ k := hag
      have hI := hInv
      have hI : ∃ W n0 n : Nat, zyIrw 2 W n0 n E0 ρ E := hI
      obtain ⟨hF, hB, hM⟩ := hXs
      have hEE : E2 = E := zyfr0 hfr
      have ex := List.mem_singleton.mp hx
      subst ex
      obtain ⟨W, n0, n, ⟨jT, jL⟩, hP, t33, t76, ⟨s0, s1, hn0, hn⟩, i0, iw, iW, i3, i4, i69, i6, i5⟩ := hI
      obtain ⟨hW, w5, wk⟩ := iW (by decide)
      rw [← hEE] at jT jL hP t33 w5 wk s1
      have t76 : ∀ k, E2 76 k = E0 76 k := fun k => by rw [hEE]; exact t76 k
      exact ⟨zyvo_0 (show zyvo _ [] vo from hvo), ⟨jT, jL, zWk_v hW w5 wk⟩, hP, t33, t76, n0, n, s0, s1, hn0, hn⟩
    · have hx : x ∈ [zxrwd_dr0] := hx
      have hg : ∀ k, k < 3 → ρ2 k = ρ k := hag
      have hI := hInv
      have hI : ∃ W n0 n : Nat, zyIrw 3 W n0 n E0 ρ E := hI
      obtain ⟨hF, hB, hM⟩ := hXs
      have hEE : E2 = E := zyfr0 hfr
      have ex := List.mem_singleton.mp hx
      subst ex
      obtain ⟨W, n0, n, ⟨jT, jL⟩, hP, t33, t76, ⟨s0, s1, hn0, hn⟩, i0, iw, iW, i3, i4, i69, i6, i5⟩ := hI
      obtain ⟨hW, w5, wk⟩ := iW (by decide)
      rw [← hEE] at jT jL hP t33 w5 wk s1
      have t76 : ∀ k, E2 76 k = E0 76 k := fun k => by rw [hEE]; exact t76 k
      exact ⟨zyvo_0 (show zyvo _ [] vo from hvo), ⟨jT, jL, zWk_v hW w5 wk⟩, hP, t33, t76, n0, n, s0, s1, hn0, hn⟩
    · cases hx
    · have hx : x ∈ [zxrwd_fr0, zxrwd_fr1, zxrwd_fr2, zxrwd_fr3] := hx
      have hg : ∀ k, k < 3 → ρ2 k = ρ k := hag
      have hI := hInv
      have hI : ∃ W n0 n : Nat, zyIrw 5 W n0 n E0 ρ E := hI
      obtain ⟨hF, hB, hM⟩ := hXs
      have hfr : ∀ a k, zyin [(74, 36, 37)] a k = false → E2 a k = E a k := hfr
      rcases List.mem_cons.mp hx with ex | hx
      · subst ex
        obtain ⟨W, n0, n, ⟨jT, jL⟩, hP, t33, t76, ⟨s0, s1, hn0, hn⟩, i0, iw, iW, i3, i4, i69, i6, i5⟩ := hI
        obtain ⟨hW, w5, wk⟩ := iW (by decide)
        have hk : ∀ a k, ¬ (a = 74 ∧ 36 ≤ k ∧ k ≤ 37) → E2 a k = E a k := by
          intro a k n0
          apply hfr
          cases hq : zyin [(74, 36, 37)] a k with
          | false => rfl
          | true =>
            obtain ⟨p0, g1, g2, g3, g4⟩ := zyin_iff.mp hq
            simp only [List.mem_cons, List.not_mem_nil, or_false] at g1
            rcases g1 with rfl
            · exact absurd ⟨g2.symm, g3, g4⟩ n0
        exact ⟨zyvo_0 (show zyvo _ [] vo from hvo), ⟨(hk 75 3 (by omega)).trans jT, (hk 75 4 (by omega)).trans jL, zWk_v hW ((hk 75 5 (by omega)).trans w5) (zWk_fr hW (fun k _ _ => hk 75 k (by omega)) wk)⟩, zPn_fr (fun k _ _ => hk 74 k (by omega)) hP, (hk 74 33 (by omega)).trans t33, fun k => (hk 76 k (by omega)).trans (t76 k), n0, n, s0, (hk 74 39 (by omega)).trans s1, hn0, hn⟩
      · skip
        rcases List.mem_cons.mp hx with ex | hx
        · subst ex
          obtain ⟨W, n0, n, ⟨jT, jL⟩, hP, t33, t76, ⟨s0, s1, hn0, hn⟩, i0, iw, iW, i3, i4, i69, i6, i5⟩ := hI
          obtain ⟨hW, w5, wk⟩ := iW (by decide)
          have hk : ∀ a k, ¬ (a = 74 ∧ 36 ≤ k ∧ k ≤ 37) → E2 a k = E a k := by
            intro a k n0
            apply hfr
            cases hq : zyin [(74, 36, 37)] a k with
            | false => rfl
            | true =>
              obtain ⟨p0, g1, g2, g3, g4⟩ := zyin_iff.mp hq
              simp only [List.mem_cons, List.not_mem_nil, or_false] at g1
              rcases g1 with rfl
              · exact absurd ⟨g2.symm, g3, g4⟩ n0
          exact ⟨zyvo_0 (show zyvo _ [] vo from hvo), ⟨(hk 75 3 (by omega)).trans jT, (hk 75 4 (by omega)).trans jL, zWk_v hW ((hk 75 5 (by omega)).trans w5) (zWk_fr hW (fun k _ _ => hk 75 k (by omega)) wk)⟩, zPn_fr (fun k _ _ => hk 74 k (by omega)) hP, (hk 74 33 (by omega)).trans t33, fun k => (hk 76 k (by omega)).trans (t76 k), n0, n, s0, (hk 74 39 (by omega)).trans s1, hn0, hn⟩
        · skip
          rcases List.mem_cons.mp hx with ex | hx
          · subst ex
            obtain ⟨W, n0, n, ⟨jT, jL⟩, hP, t33, t76, ⟨s0, s1, hn0, hn⟩, i0, iw, iW, i3, i4, i69, i6, i5⟩ := hI
            obtain ⟨hW, w5, wk⟩ := iW (by decide)
            have hk : ∀ a k, ¬ (a = 74 ∧ 36 ≤ k ∧ k ≤ 37) → E2 a k = E a k := by
              intro a k n0
              apply hfr
              cases hq : zyin [(74, 36, 37)] a k with
              | false => rfl
              | true =>
                obtain ⟨p0, g1, g2, g3, g4⟩ := zyin_iff.mp hq
                simp only [List.mem_cons, List.not_mem_nil, or_false] at g1
                rcases g1 with rfl
                · exact absurd ⟨g2.symm, g3, g4⟩ n0
            exact ⟨zyvo_0 (show zyvo _ [] vo from hvo), ⟨(hk 75 3 (by omega)).trans jT, (hk 75 4 (by omega)).trans jL, zWk_v hW ((hk 75 5 (by omega)).trans w5) (zWk_fr hW (fun k _ _ => hk 75 k (by omega)) wk)⟩, zPn_fr (fun k _ _ => hk 74 k (by omega)) hP, (hk 74 33 (by omega)).trans t33, fun k => (hk 76 k (by omega)).trans (t76 k), n0, n, s0, (hk 74 39 (by omega)).trans s1, hn0, hn⟩
          · skip
            have ex := List.mem_singleton.mp hx
            subst ex
            obtain ⟨W, n0, n, ⟨jT, jL⟩, hP, t33, t76, ⟨s0, s1, hn0, hn⟩, i0, iw, iW, i3, i4, i69, i6, i5⟩ := hI
            obtain ⟨hW, w5, wk⟩ := iW (by decide)
            have hk : ∀ a k, ¬ (a = 74 ∧ 36 ≤ k ∧ k ≤ 37) → E2 a k = E a k := by
              intro a k n0
              apply hfr
              cases hq : zyin [(74, 36, 37)] a k with
              | false => rfl
              | true =>
                obtain ⟨p0, g1, g2, g3, g4⟩ := zyin_iff.mp hq
                simp only [List.mem_cons, List.not_mem_nil, or_false] at g1
                rcases g1 with rfl
                · exact absurd ⟨g2.symm, g3, g4⟩ n0
            exact ⟨zyvo_0 (show zyvo _ [] vo from hvo), ⟨(hk 75 3 (by omega)).trans jT, (hk 75 4 (by omega)).trans jL, zWk_v hW ((hk 75 5 (by omega)).trans w5) (zWk_fr hW (fun k _ _ => hk 75 k (by omega)) wk)⟩, zPn_fr (fun k _ _ => hk 74 k (by omega)) hP, (hk 74 33 (by omega)).trans t33, fun k => (hk 76 k (by omega)).trans (t76 k), n0, n, s0, (hk 74 39 (by omega)).trans s1, hn0, hn⟩
    · cases hx
    · cases hx
    · cases hx
    · cases hx
