/-! ALL OF A TEXT is read -/
def zyΦlx (as : List Int32) (E : zyEm) : Prop := ∃ r c, zyPr r c ∧ zyT75 r c E ∧ zyΦli as E
def zyΨlx (as : List Int32) (E E2 : zyEm) (vo : Option Value) : Prop := ∀ r c, zyPr r c → zyT75 r c E → zyT75 r c E2 ∧ zyΨli as E E2 vo
theorem zylineX {l : Launch} {en : zEn} {me : zMe} (hen : zG zxMeta 327 = some en) (hme : zG zMeth 327 = some me) : zyHc l zymx en me 10 0 zyΦlx zyΨlx := zyHc_x (fun r c hp => zyline hp.1 hp.2.1 hp.2.2.1 hp.2.2.2 hen hme)
def zyΦra (_ : List Int32) (E : zyEm) : Prop := zPn E
def zyΨra (_ : List Int32) (E E2 : zyEm) (vo : Option Value) : Prop := vo = none ∧ E2 74 33 = E 74 33 ∧ (∀ k, E2 76 k = E 76 k) ∧ ∃ w : Nat, w ≤ 9 ∧ E2 74 36 = some (.int (Int32.ofNat w)) ∧ (w = 0 → ∃ r c, zyPr r c ∧ zyT75 r c E2 ∧ zJl E2)
def zyw0 (E : zyEm) : Prop := E 74 36 = some (.int (Int32.ofNat 0))
def zybn (x : Int32) (h : Nat) : Prop := 2147483649 ≤ zB x ∧ zB x ≤ 2147483648 + h
theorem zyw0_of {E : zyEm} {w : Nat} (hw : w ≤ 9) (h : E 74 36 = some (.int (Int32.ofNat w))) (h0 : zyw0 E) : w = 0 := by
  unfold zyw0 at h0
  rw [h] at h0
  exact zyOi (by omega) (by omega) (Value.int.inj (Option.some.inj h0))
theorem zyral_run : zyrS zymx zxi328 (328, 0, 0, 0, 0) 11 zpral (fun _ _ => []) zFral zSral zXral zRral 8 = true := by decide +kernel
theorem zyreadsAll {l : Launch} {en : zEn} {me : zMe} (hen : zG zxMeta 328 = some en) (hme : zG zMeth 328 = some me) : zyHc l zymx en me 11 0 zyΦra zyΨra := by
  have een : zG zxMeta 328 = some (zxi328, 1, 3, 11, 328, 0, 0, 0, 0) := rfl
  obtain ⟨me1, hme1, hOK⟩ := zall hen
  rw [hme] at hme1
  cases hme1
  rw [een] at hen
  cases hen
  have hr := zyral_run
  obtain ⟨metk, hmetk, -⟩ := zall (show zG zxMeta 318 = some (zxi318, 2, 2, 11, 318, 0, 0, 0, 0) from rfl)
  have htk := zytakes (l := l) (show zG zxMeta 318 = some (zxi318, 2, 2, 11, 318, 0, 0, 0, 0) from rfl) hmetk
  obtain ⟨metn, hmetn, -⟩ := zall (show zG zxMeta 320 = some (zxi320, 3, 4, 11, 320, 0, 0, 1, 0) from rfl)
  have htn := zytakesNumber (l := l) (show zG zxMeta 320 = some (zxi320, 3, 4, 11, 320, 0, 0, 1, 0) from rfl) hmetn
  obtain ⟨mesg, hmesg, -⟩ := zall (show zG zxMeta 317 = some (zxi317, 2, 2, 11, 317, 0, 0, 2, 0) from rfl)
  have hsg := zyisSign (l := l) (show zG zxMeta 317 = some (zxi317, 2, 2, 11, 317, 0, 0, 2, 0) from rfl) hmesg
  obtain ⟨mecl, hmecl, -⟩ := zall (show zG zxMeta 193 = some (zxi193, 3, 4, 11, 193, 0, 0, 0, 0) from rfl)
  have hcl := zyclears (l := l) (show zG zxMeta 193 = some (zxi193, 3, 4, 11, 193, 0, 0, 0, 0) from rfl) hmecl
  obtain ⟨meli, hmeli, -⟩ := zall (show zG zxMeta 327 = some (zxi327, 1, 1, 11, 327, 0, 0, 0, 0) from rfl)
  have hli := zylineX (l := l) (show zG zxMeta 327 = some (zxi327, 1, 1, 11, 327, 0, 0, 0, 0) from rfl) hmeli
  refine zycutS (mi := zymx) hOK rfl rfl ⟨_, rfl, rfl⟩ (ι := Fin 8) (fun i => zpral i.val) (fun _ _ => []) (fun i => zFral i.val) (fun i => zSral i.val) (fun i => zXral i.val) (fun i => zRral i.val) (fun i y2 ct en2 me2 h => by cases h) 200000 (fun i => zyAll_iff hr i.val i.isLt) ⟨0, by decide⟩ ⟨rfl, rfl, rfl, rfl⟩ ⟨by decide, by decide⟩
    (fun i as E0 ρ E => (E 74 33 = E0 74 33 ∧ ∀ k, E 76 k = E0 76 k) ∧ (i.val ≤ 5 → zPn E) ∧ (i.val = 2 → zyw0 E → zybn (ρ 3) 4) ∧ (i.val = 3 → zyw0 E → zybn (ρ 1) 4 ∧ zybn (ρ 3) 5) ∧ (i.val = 4 ∨ i.val = 5 → zyw0 E → zybn (ρ 1) 4 ∧ zybn (ρ 2) 5) ∧ (i.val = 4 → ρ 3 = 1 → E 74 36 = some (.int (Int32.ofNat 0)) ∧ E 74 40 = some (.int (Int32.ofNat 3))) ∧ (i.val = 6 ∨ i.val = 7 → ∃ r c n : Nat, zyPr r c ∧ zyT75 r c E ∧ zJl E ∧ zPn E ∧ n ≤ 901 ∧ E 74 39 = some (.int (Int32.ofNat n)))) (fun i as E0 ρ E => if i.val ≤ 5 then 100000 - i.val else if i.val = 6 then (if zyI E 74 36 = Int32.ofNat 0 then 10 * (902 - zyN1 (zyI E 74 39)) + 5 else 2) else (if zyI E 74 36 = Int32.ofNat 0 then 10 * (902 - zyN1 (zyI E 74 39)) + 7 else 3)) ?_ ?_ ?_
  · intro as E hlen hT hΦ
    exact ⟨zEnv_c (zyfull _) (zEnv_c (zyfull _) (zEnv_c (zyfull _) zEnv_nil)), ⟨rfl, fun _ => rfl⟩, fun _ => hΦ, fun h => absurd (show 0 = 2 from h) (by decide), fun h => absurd (show 0 = 3 from h) (by decide), fun h => absurd (show 0 = 4 ∨ 0 = 5 from h) (by decide), fun h => absurd (show 0 = 4 from h) (by decide), fun h => absurd (show 0 = 6 ∨ 0 = 7 from h) (by decide)⟩
  · intro as B s Wg hRu hT0 hΦ hlen i ρ H hT hInv hIH x hx ρ2 N2 H2 locs lsB stA hAt hXs hag hfr hT2
    rcases i with ⟨i, hi⟩
    have hi2 : i = 0 ∨ i = 1 ∨ i = 2 ∨ i = 3 ∨ i = 4 ∨ i = 5 ∨ i = 6 ∨ i = 7 := by omega
    rcases hi2 with rfl | rfl | rfl | rfl | rfl | rfl | rfl | rfl
    · have hx : x ∈ [zxral_ax0, zxral_ax1, zxral_ax2, zxral_ax3, zxral_ax4] := hx
      have hg : ∀ k, k < 3 → ρ2 k = ρ k := hag
      have hI := hInv
      have hI : ((zyEl zymx B H) 74 33 = (zyEl zymx B s.heap) 74 33 ∧ ∀ k, (zyEl zymx B H) 76 k = (zyEl zymx B s.heap) 76 k) ∧ (0 ≤ 5 → zPn (zyEl zymx B H)) ∧ (0 = 2 → zyw0 (zyEl zymx B H) → zybn (ρ 3) 4) ∧ (0 = 3 → zyw0 (zyEl zymx B H) → zybn (ρ 1) 4 ∧ zybn (ρ 3) 5) ∧ (0 = 4 ∨ 0 = 5 → zyw0 (zyEl zymx B H) → zybn (ρ 1) 4 ∧ zybn (ρ 2) 5) ∧ (0 = 4 → ρ 3 = 1 → (zyEl zymx B H) 74 36 = some (.int (Int32.ofNat 0)) ∧ (zyEl zymx B H) 74 40 = some (.int (Int32.ofNat 3))) ∧ (0 = 6 ∨ 0 = 7 → ∃ r c n : Nat, zyPr r c ∧ zyT75 r c (zyEl zymx B H) ∧ zJl (zyEl zymx B H) ∧ zPn (zyEl zymx B H) ∧ n ≤ 901 ∧ (zyEl zymx B H) 74 39 = some (.int (Int32.ofNat n))) := hI
      obtain ⟨hF, hB, hM⟩ := hXs
      have hEE : (zyEl zymx B H2) = (zyEl zymx B H) := zyfr0 hfr
      rcases List.mem_cons.mp hx with ex | hx
      · subst ex
        obtain ⟨⟨t33, t76⟩, hP, c2, c3, c45, c4, c67⟩ := hI
        rw [← hEE] at t33
        have t76 : ∀ k, (zyEl zymx B H2) 76 k = (zyEl zymx B s.heap) 76 k := fun k => by rw [hEE]; exact t76 k
        have hP := hP (by decide)
        rw [← hEE] at hP
        obtain ⟨w, hw, ew⟩ := zc74 hT2 (k := 36) (lo := 2147483648) (hi := 2147483657) (by decide) rfl (by decide) (by decide)
        refine zyCa0 hRu hIH hAt hB htk (ix := 462) (ax := 5088) rfl rfl rfl hmetk ⟨rfl, rfl, rfl, rfl⟩ (by decide) [0] rfl (by decide) rfl ⟨1, by decide⟩ [595, 0, 0] rfl rfl rfl rfl ?_ ?_
        · show zyΦtk _ _
          exact ⟨hP, 0, w, rfl, by decide, by omega, ew, fun q _ _ => absurd q (by decide)⟩
        · intro E3 vo hT3 hΨ
          obtain ⟨ev, p1, p2, -⟩ := (show zyΨtk _ _ E3 vo from hΨ)
          refine ⟨ev, ⟨⟨(p1 74 33 (by omega)).trans t33, fun k => (p1 76 k (by omega)).trans (t76 k)⟩, fun _ => p2, fun h => absurd (show 1 = 2 from h) (by decide), fun h => absurd (show 1 = 3 from h) (by decide), fun h => absurd (show 1 = 4 ∨ 1 = 5 from h) (by decide), fun h => absurd (show 1 = 4 from h) (by decide), fun h => absurd (show 1 = 6 ∨ 1 = 7 from h) (by decide)⟩, ?_⟩
          show 100000 - 1 < 100000 - 0
          decide
      · skip
        rcases List.mem_cons.mp hx with ex | hx
        · subst ex
          obtain ⟨⟨t33, t76⟩, hP, c2, c3, c45, c4, c67⟩ := hI
          rw [← hEE] at t33
          have t76 : ∀ k, (zyEl zymx B H2) 76 k = (zyEl zymx B s.heap) 76 k := fun k => by rw [hEE]; exact t76 k
          have hP := hP (by decide)
          rw [← hEE] at hP
          obtain ⟨w, hw, ew⟩ := zc74 hT2 (k := 36) (lo := 2147483648) (hi := 2147483657) (by decide) rfl (by decide) (by decide)
          refine zyCa0 hRu hIH hAt hB htk (ix := 462) (ax := 5088) rfl rfl rfl hmetk ⟨rfl, rfl, rfl, rfl⟩ (by decide) [0] rfl (by decide) rfl ⟨1, by decide⟩ [595, 0, 0] rfl rfl rfl rfl ?_ ?_
          · show zyΦtk _ _
            exact ⟨hP, 0, w, rfl, by decide, by omega, ew, fun q _ _ => absurd q (by decide)⟩
          · intro E3 vo hT3 hΨ
            obtain ⟨ev, p1, p2, -⟩ := (show zyΨtk _ _ E3 vo from hΨ)
            refine ⟨ev, ⟨⟨(p1 74 33 (by omega)).trans t33, fun k => (p1 76 k (by omega)).trans (t76 k)⟩, fun _ => p2, fun h => absurd (show 1 = 2 from h) (by decide), fun h => absurd (show 1 = 3 from h) (by decide), fun h => absurd (show 1 = 4 ∨ 1 = 5 from h) (by decide), fun h => absurd (show 1 = 4 from h) (by decide), fun h => absurd (show 1 = 6 ∨ 1 = 7 from h) (by decide)⟩, ?_⟩
            show 100000 - 1 < 100000 - 0
            decide
        · skip
          rcases List.mem_cons.mp hx with ex | hx
          · subst ex
            obtain ⟨⟨t33, t76⟩, hP, c2, c3, c45, c4, c67⟩ := hI
            rw [← hEE] at t33
            have t76 : ∀ k, (zyEl zymx B H2) 76 k = (zyEl zymx B s.heap) 76 k := fun k => by rw [hEE]; exact t76 k
            have hP := hP (by decide)
            rw [← hEE] at hP
            obtain ⟨w, hw, ew⟩ := zc74 hT2 (k := 36) (lo := 2147483648) (hi := 2147483657) (by decide) rfl (by decide) (by decide)
            refine zyCa0 hRu hIH hAt hB htk (ix := 462) (ax := 5088) rfl rfl rfl hmetk ⟨rfl, rfl, rfl, rfl⟩ (by decide) [0] rfl (by decide) rfl ⟨1, by decide⟩ [595, 0, 0] rfl rfl rfl rfl ?_ ?_
            · show zyΦtk _ _
              exact ⟨hP, 0, w, rfl, by decide, by omega, ew, fun q _ _ => absurd q (by decide)⟩
            · intro E3 vo hT3 hΨ
              obtain ⟨ev, p1, p2, -⟩ := (show zyΨtk _ _ E3 vo from hΨ)
              refine ⟨ev, ⟨⟨(p1 74 33 (by omega)).trans t33, fun k => (p1 76 k (by omega)).trans (t76 k)⟩, fun _ => p2, fun h => absurd (show 1 = 2 from h) (by decide), fun h => absurd (show 1 = 3 from h) (by decide), fun h => absurd (show 1 = 4 ∨ 1 = 5 from h) (by decide), fun h => absurd (show 1 = 4 from h) (by decide), fun h => absurd (show 1 = 6 ∨ 1 = 7 from h) (by decide)⟩, ?_⟩
              show 100000 - 1 < 100000 - 0
              decide
          · skip
            rcases List.mem_cons.mp hx with ex | hx
            · subst ex
              obtain ⟨⟨t33, t76⟩, hP, c2, c3, c45, c4, c67⟩ := hI
              rw [← hEE] at t33
              have t76 : ∀ k, (zyEl zymx B H2) 76 k = (zyEl zymx B s.heap) 76 k := fun k => by rw [hEE]; exact t76 k
              have hP := hP (by decide)
              rw [← hEE] at hP
              obtain ⟨w, hw, ew⟩ := zc74 hT2 (k := 36) (lo := 2147483648) (hi := 2147483657) (by decide) rfl (by decide) (by decide)
              refine zyCa0 hRu hIH hAt hB htk (ix := 462) (ax := 5088) rfl rfl rfl hmetk ⟨rfl, rfl, rfl, rfl⟩ (by decide) [0] rfl (by decide) rfl ⟨1, by decide⟩ [595, 0, 0] rfl rfl rfl rfl ?_ ?_
              · show zyΦtk _ _
                exact ⟨hP, 0, w, rfl, by decide, by omega, ew, fun q _ _ => absurd q (by decide)⟩
              · intro E3 vo hT3 hΨ
                obtain ⟨ev, p1, p2, -⟩ := (show zyΨtk _ _ E3 vo from hΨ)
                refine ⟨ev, ⟨⟨(p1 74 33 (by omega)).trans t33, fun k => (p1 76 k (by omega)).trans (t76 k)⟩, fun _ => p2, fun h => absurd (show 1 = 2 from h) (by decide), fun h => absurd (show 1 = 3 from h) (by decide), fun h => absurd (show 1 = 4 ∨ 1 = 5 from h) (by decide), fun h => absurd (show 1 = 4 from h) (by decide), fun h => absurd (show 1 = 6 ∨ 1 = 7 from h) (by decide)⟩, ?_⟩
                show 100000 - 1 < 100000 - 0
                decide
            · skip
              have ex := List.mem_singleton.mp hx
              subst ex
              obtain ⟨⟨t33, t76⟩, hP, c2, c3, c45, c4, c67⟩ := hI
              rw [← hEE] at t33
              have t76 : ∀ k, (zyEl zymx B H2) 76 k = (zyEl zymx B s.heap) 76 k := fun k => by rw [hEE]; exact t76 k
              have hP := hP (by decide)
              rw [← hEE] at hP
              obtain ⟨w, hw, ew⟩ := zc74 hT2 (k := 36) (lo := 2147483648) (hi := 2147483657) (by decide) rfl (by decide) (by decide)
              obtain ⟨nb, ub1, ub2, ub3⟩ := zyXe hF 1 rfl
              have ub1 : Int32.ofNat 40 = Int32.ofNat nb := ub1
              have ub3 : (zyEl zymx B H) 74 nb = some (.int (ρ2 4)) := ub3
              have eb := zyOi (by omega) (by omega) ub1
              subst eb
              have b4 := zyXb hB 1 rfl
              have b4 : 2147483649 ≤ zB (ρ2 4) ∧ zB (ρ2 4) ≤ 2147483649 := b4
              obtain ⟨o1, o2⟩ := zyOn (show 2147483648 ≤ zB (ρ2 4) by omega)
              rw [o1, show zyN1 (ρ2 4) = 1 by omega, ← hEE] at ub3
              refine zyCa0 hRu hIH hAt hB htk (ix := 462) (ax := 5088) rfl rfl rfl hmetk ⟨rfl, rfl, rfl, rfl⟩ (by decide) [8] rfl (by decide) rfl ⟨1, by decide⟩ [595, 0, 0] rfl rfl rfl rfl ?_ ?_
              · show zyΦtk _ _
                exact ⟨hP, 1, w, rfl, by decide, by omega, ew, fun _ _ q => by rw [ub3] at q; have := zyOi (by omega) (by omega) (Value.int.inj (Option.some.inj q)); omega⟩
              · intro E3 vo hT3 hΨ
                obtain ⟨ev, p1, p2, -⟩ := (show zyΨtk _ _ E3 vo from hΨ)
                refine ⟨ev, ⟨⟨(p1 74 33 (by omega)).trans t33, fun k => (p1 76 k (by omega)).trans (t76 k)⟩, fun _ => p2, fun h => absurd (show 1 = 2 from h) (by decide), fun h => absurd (show 1 = 3 from h) (by decide), fun h => absurd (show 1 = 4 ∨ 1 = 5 from h) (by decide), fun h => absurd (show 1 = 4 from h) (by decide), fun h => absurd (show 1 = 6 ∨ 1 = 7 from h) (by decide)⟩, ?_⟩
                show 100000 - 1 < 100000 - 0
                decide
    · have hx : x ∈ [zxral_bx0] := hx
      have hg : ∀ k, k < 3 → ρ2 k = ρ k := hag
      have hI := hInv
      have hI : ((zyEl zymx B H) 74 33 = (zyEl zymx B s.heap) 74 33 ∧ ∀ k, (zyEl zymx B H) 76 k = (zyEl zymx B s.heap) 76 k) ∧ (1 ≤ 5 → zPn (zyEl zymx B H)) ∧ (1 = 2 → zyw0 (zyEl zymx B H) → zybn (ρ 3) 4) ∧ (1 = 3 → zyw0 (zyEl zymx B H) → zybn (ρ 1) 4 ∧ zybn (ρ 3) 5) ∧ (1 = 4 ∨ 1 = 5 → zyw0 (zyEl zymx B H) → zybn (ρ 1) 4 ∧ zybn (ρ 2) 5) ∧ (1 = 4 → ρ 3 = 1 → (zyEl zymx B H) 74 36 = some (.int (Int32.ofNat 0)) ∧ (zyEl zymx B H) 74 40 = some (.int (Int32.ofNat 3))) ∧ (1 = 6 ∨ 1 = 7 → ∃ r c n : Nat, zyPr r c ∧ zyT75 r c (zyEl zymx B H) ∧ zJl (zyEl zymx B H) ∧ zPn (zyEl zymx B H) ∧ n ≤ 901 ∧ (zyEl zymx B H) 74 39 = some (.int (Int32.ofNat n))) := hI
      obtain ⟨hF, hB, hM⟩ := hXs
      have hEE : (zyEl zymx B H2) = (zyEl zymx B H) := zyfr0 hfr
      have ex := List.mem_singleton.mp hx
      subst ex
      obtain ⟨⟨t33, t76⟩, hP, c2, c3, c45, c4, c67⟩ := hI
      rw [← hEE] at t33
      have t76 : ∀ k, (zyEl zymx B H2) 76 k = (zyEl zymx B s.heap) 76 k := fun k => by rw [hEE]; exact t76 k
      have hP := hP (by decide)
      rw [← hEE] at hP
      refine zyCa1 hRu hIH hAt hB htn (ix := 456) (ax := 5120) rfl rfl rfl hmetn ⟨rfl, rfl, rfl, rfl⟩ (by decide) [8, 32] rfl (by decide) rfl ⟨2, by decide⟩ [595, 0, 0] [(0, 4294967295), (0, 4294967295), (0, 4294967295)] 0 4294967295 rfl (by decide) rfl rfl rfl rfl rfl ?_ ?_
      · show zyΦtn _ _
        exact ⟨hP, 4, rfl, by decide, by decide⟩
      · intro E3 vo hT3 hΨ
        obtain ⟨p1, p2, n1, n2, w1, w2, hh, z, q1, hh1, hh2, q4, -, -, -, -, q9, q10, q11, q12⟩ := (show zyΨtn _ _ E3 vo from hΨ)
        have eh := zyOi (a := 4) (b := hh) (by omega) (by omega) (List.cons.inj (List.cons.inj q1).2).1
        subst eh
        refine ⟨z, q4, Nat.zero_le _, by have := zB_lt z; omega, ⟨⟨(p1 74 33 (by omega)).trans t33, fun k => (p1 76 k (by omega)).trans (t76 k)⟩, fun _ => p2, fun _ q => by
          obtain ⟨-, -, b1, b2⟩ := q12 (zyw0_of q11 q10 q)
          show zybn (zyρi _ 3 z 3) 4
          rw [zyρi_e]
          exact ⟨b1, b2⟩, fun h => absurd (show 2 = 3 from h) (by decide), fun h => absurd (show 2 = 4 ∨ 2 = 5 from h) (by decide), fun h => absurd (show 2 = 4 from h) (by decide), fun h => absurd (show 2 = 6 ∨ 2 = 7 from h) (by decide)⟩, ?_⟩
        show 100000 - 2 < 100000 - 1
        decide
    · have hx : x ∈ [zxral_cx0] := hx
      have hg : ∀ k, k < 4 → ρ2 k = ρ k := hag
      have hI := hInv
      have hI : ((zyEl zymx B H) 74 33 = (zyEl zymx B s.heap) 74 33 ∧ ∀ k, (zyEl zymx B H) 76 k = (zyEl zymx B s.heap) 76 k) ∧ (2 ≤ 5 → zPn (zyEl zymx B H)) ∧ (2 = 2 → zyw0 (zyEl zymx B H) → zybn (ρ 3) 4) ∧ (2 = 3 → zyw0 (zyEl zymx B H) → zybn (ρ 1) 4 ∧ zybn (ρ 3) 5) ∧ (2 = 4 ∨ 2 = 5 → zyw0 (zyEl zymx B H) → zybn (ρ 1) 4 ∧ zybn (ρ 2) 5) ∧ (2 = 4 → ρ 3 = 1 → (zyEl zymx B H) 74 36 = some (.int (Int32.ofNat 0)) ∧ (zyEl zymx B H) 74 40 = some (.int (Int32.ofNat 3))) ∧ (2 = 6 ∨ 2 = 7 → ∃ r c n : Nat, zyPr r c ∧ zyT75 r c (zyEl zymx B H) ∧ zJl (zyEl zymx B H) ∧ zPn (zyEl zymx B H) ∧ n ≤ 901 ∧ (zyEl zymx B H) 74 39 = some (.int (Int32.ofNat n))) := hI
      obtain ⟨hF, hB, hM⟩ := hXs
      have hEE : (zyEl zymx B H2) = (zyEl zymx B H) := zyfr0 hfr
      have ex := List.mem_singleton.mp hx
      subst ex
      obtain ⟨⟨t33, t76⟩, hP, c2, c3, c45, c4, c67⟩ := hI
      rw [← hEE] at t33
      have t76 : ∀ k, (zyEl zymx B H2) 76 k = (zyEl zymx B s.heap) 76 k := fun k => by rw [hEE]; exact t76 k
      have hP := hP (by decide)
      rw [← hEE] at hP
      refine zyCa1 hRu hIH hAt hB htn (ix := 456) (ax := 5120) rfl rfl rfl hmetn ⟨rfl, rfl, rfl, rfl⟩ (by decide) [8, 40] rfl (by decide) rfl ⟨3, by decide⟩ [595, 103079215105, 0] [(0, 4294967295), (0, 4294967295), (0, 4294967295)] 0 4294967295 rfl (by decide) rfl rfl rfl rfl rfl ?_ ?_
      · show zyΦtn _ _
        exact ⟨hP, 5, rfl, by decide, by decide⟩
      · intro E3 vo hT3 hΨ
        obtain ⟨p1, p2, n1, n2, w1, w2, hh, z, q1, hh1, hh2, q4, -, -, -, -, q9, q10, q11, q12⟩ := (show zyΨtn _ _ E3 vo from hΨ)
        have eh := zyOi (a := 5) (b := hh) (by omega) (by omega) (List.cons.inj (List.cons.inj q1).2).1
        subst eh
        refine ⟨z, q4, Nat.zero_le _, by have := zB_lt z; omega, ⟨⟨(p1 74 33 (by omega)).trans t33, fun k => (p1 76 k (by omega)).trans (t76 k)⟩, fun _ => p2, fun h => absurd (show 3 = 2 from h) (by decide), fun _ q => by
          obtain ⟨-, ew0, b1, b2⟩ := q12 (zyw0_of q11 q10 q)
          rw [ew0] at q9
          have c2b := c2 rfl (by rw [← hEE]; exact q9)
          refine ⟨?_, ?_⟩
          · show zybn (zyρi _ 3 z 1) 4
            rw [zyρi_n (by decide)]
            show zybn (ρ2 3) 4
            rw [hg 3 (by decide)]
            exact c2b
          · show zybn (zyρi _ 3 z 3) 5
            rw [zyρi_e]
            exact ⟨b1, b2⟩, fun h => absurd (show 3 = 4 ∨ 3 = 5 from h) (by decide), fun h => absurd (show 3 = 4 from h) (by decide), fun h => absurd (show 3 = 6 ∨ 3 = 7 from h) (by decide)⟩, ?_⟩
        show 100000 - 3 < 100000 - 2
        decide
    · have hx : x ∈ [zxral_dx0] := hx
      have hg : ∀ k, k < 4 → ρ2 k = ρ k := hag
      have hI := hInv
      have hI : ((zyEl zymx B H) 74 33 = (zyEl zymx B s.heap) 74 33 ∧ ∀ k, (zyEl zymx B H) 76 k = (zyEl zymx B s.heap) 76 k) ∧ (3 ≤ 5 → zPn (zyEl zymx B H)) ∧ (3 = 2 → zyw0 (zyEl zymx B H) → zybn (ρ 3) 4) ∧ (3 = 3 → zyw0 (zyEl zymx B H) → zybn (ρ 1) 4 ∧ zybn (ρ 3) 5) ∧ (3 = 4 ∨ 3 = 5 → zyw0 (zyEl zymx B H) → zybn (ρ 1) 4 ∧ zybn (ρ 2) 5) ∧ (3 = 4 → ρ 3 = 1 → (zyEl zymx B H) 74 36 = some (.int (Int32.ofNat 0)) ∧ (zyEl zymx B H) 74 40 = some (.int (Int32.ofNat 3))) ∧ (3 = 6 ∨ 3 = 7 → ∃ r c n : Nat, zyPr r c ∧ zyT75 r c (zyEl zymx B H) ∧ zJl (zyEl zymx B H) ∧ zPn (zyEl zymx B H) ∧ n ≤ 901 ∧ (zyEl zymx B H) 74 39 = some (.int (Int32.ofNat n))) := hI
      obtain ⟨hF, hB, hM⟩ := hXs
      have hEE : (zyEl zymx B H2) = (zyEl zymx B H) := zyfr0 hfr
      have ex := List.mem_singleton.mp hx
      subst ex
      obtain ⟨⟨t33, t76⟩, hP, c2, c3, c45, c4, c67⟩ := hI
      rw [← hEE] at t33
      have t76 : ∀ k, (zyEl zymx B H2) 76 k = (zyEl zymx B s.heap) 76 k := fun k => by rw [hEE]; exact t76 k
      have hP := hP (by decide)
      rw [← hEE] at hP
      refine zyCaV hRu hIH hAt hB hsg (ix := 466) (ax := 5072) rfl rfl rfl hmesg ⟨rfl, rfl, rfl, rfl⟩ (by decide) [472] [595] rfl (by decide) (by decide) rfl ⟨4, by decide⟩ [595, 34359738369, 103079215105] [(0, 4294967295), (0, 4294967295), (0, 4294967295)] 2147483648 2147483649 rfl (by decide) rfl rfl rfl rfl [595] rfl rfl ?_ ?_
      · show zyΦsg _ _
        exact ⟨hP, _, rfl⟩
      · intro E3 vo hT3 hΨ
        obtain ⟨e3, z, ez, hz, hz1⟩ := (show zyΨsg _ _ E3 vo from hΨ)
        subst e3
        refine ⟨z, ez, ?_, ?_, ⟨⟨t33, t76⟩, fun _ => hP, fun h => absurd (show 4 = 2 from h) (by decide), fun h => absurd (show 4 = 3 from h) (by decide), fun _ q => by
          obtain ⟨b1, b2⟩ := c3 rfl (by rw [← hEE]; exact q)
          rw [zyρi_n (by decide), zyρi_n (by decide)]
          exact ⟨by show zybn (ρ2 1) 4; rw [hg 1 (by decide)]; exact b1, by show zybn (ρ2 3) 5; rw [hg 3 (by decide)]; exact b2⟩, fun _ q => hz1 (zyρi_e.symm.trans q), fun h => absurd (show 4 = 6 ∨ 4 = 7 from h) (by decide)⟩, ?_⟩
        · rcases hz with rfl | rfl <;> decide
        · rcases hz with rfl | rfl <;> decide
        · show 100000 - 4 < 100000 - 3
          decide
    · have hx : x ∈ [zxral_ex0] := hx
      have hg : ∀ k, k < 4 → ρ2 k = ρ k := hag
      have hI := hInv
      have hI : ((zyEl zymx B H) 74 33 = (zyEl zymx B s.heap) 74 33 ∧ ∀ k, (zyEl zymx B H) 76 k = (zyEl zymx B s.heap) 76 k) ∧ (4 ≤ 5 → zPn (zyEl zymx B H)) ∧ (4 = 2 → zyw0 (zyEl zymx B H) → zybn (ρ 3) 4) ∧ (4 = 3 → zyw0 (zyEl zymx B H) → zybn (ρ 1) 4 ∧ zybn (ρ 3) 5) ∧ (4 = 4 ∨ 4 = 5 → zyw0 (zyEl zymx B H) → zybn (ρ 1) 4 ∧ zybn (ρ 2) 5) ∧ (4 = 4 → ρ 3 = 1 → (zyEl zymx B H) 74 36 = some (.int (Int32.ofNat 0)) ∧ (zyEl zymx B H) 74 40 = some (.int (Int32.ofNat 3))) ∧ (4 = 6 ∨ 4 = 7 → ∃ r c n : Nat, zyPr r c ∧ zyT75 r c (zyEl zymx B H) ∧ zJl (zyEl zymx B H) ∧ zPn (zyEl zymx B H) ∧ n ≤ 901 ∧ (zyEl zymx B H) 74 39 = some (.int (Int32.ofNat n))) := hI
      obtain ⟨hF, hB, hM⟩ := hXs
      have hEE : (zyEl zymx B H2) = (zyEl zymx B H) := zyfr0 hfr
      have ex := List.mem_singleton.mp hx
      subst ex
      obtain ⟨⟨t33, t76⟩, hP, c2, c3, c45, c4, c67⟩ := hI
      rw [← hEE] at t33
      have t76 : ∀ k, (zyEl zymx B H2) 76 k = (zyEl zymx B s.heap) 76 k := fun k => by rw [hEE]; exact t76 k
      have hP := hP (by decide)
      rw [← hEE] at hP
      obtain ⟨w, hw, ew⟩ := zc74 hT2 (k := 36) (lo := 2147483648) (hi := 2147483657) (by decide) rfl (by decide) (by decide)
      have b3 := zyXb hB 0 rfl
      have b3 : 2147483648 ≤ zB (ρ2 3) ∧ zB (ρ2 3) ≤ 2147483649 := b3
      obtain ⟨o1, o2⟩ := zyOn b3.1
      refine zyCa0 hRu hIH hAt hB htk (ix := 462) (ax := 5088) rfl rfl rfl hmetk ⟨rfl, rfl, rfl, rfl⟩ (by decide) [103079215105] rfl (by decide) rfl ⟨5, by decide⟩ [595, 34359738369, 68719476737] rfl rfl rfl rfl ?_ ?_
      · show zyΦtk [ρ2 3] _
        refine ⟨hP, zyN1 (ρ2 3), w, by rw [← o1], by omega, by omega, ew, fun q1 _ q3 => ?_⟩
        have z1 : ρ 3 = 1 := by
          rw [← hg 3 (by decide), o1, q1]
          rfl
        rw [hEE, (c4 rfl z1).2] at q3
        have := zyOi (by omega) (by omega) (Value.int.inj (Option.some.inj q3))
        omega
      · intro E3 vo hT3 hΨ
        obtain ⟨ev, p1, p2, n1, n2, w1, w2, g, q1, -, -, -, -, q6, q7, q8, q9⟩ := (show zyΨtk [ρ2 3] _ E3 vo from hΨ)
        refine ⟨ev, ⟨⟨(p1 74 33 (by omega)).trans t33, fun k => (p1 76 k (by omega)).trans (t76 k)⟩, fun _ => p2, fun h => absurd (show 5 = 2 from h) (by decide), fun h => absurd (show 5 = 3 from h) (by decide), fun _ q => by
          obtain ⟨-, -, ew0⟩ := q9 (zyw0_of q8 q7 q)
          rw [ew0] at q6
          obtain ⟨b1, b2⟩ := c45 (Or.inl rfl) (by rw [← hEE]; exact q6)
          exact ⟨by show zybn (ρ2 1) 4; rw [hg 1 (by decide)]; exact b1, by show zybn (ρ2 2) 5; rw [hg 2 (by decide)]; exact b2⟩, fun h => absurd (show 5 = 4 from h) (by decide), fun h => absurd (show 5 = 6 ∨ 5 = 7 from h) (by decide)⟩, ?_⟩
        show 100000 - 5 < 100000 - 4
        decide
    · have hx : x ∈ [zxral_fx0] := hx
      have hg : ∀ k, k < 3 → ρ2 k = ρ k := hag
      have hI := hInv
      have hI : ((zyEl zymx B H) 74 33 = (zyEl zymx B s.heap) 74 33 ∧ ∀ k, (zyEl zymx B H) 76 k = (zyEl zymx B s.heap) 76 k) ∧ (5 ≤ 5 → zPn (zyEl zymx B H)) ∧ (5 = 2 → zyw0 (zyEl zymx B H) → zybn (ρ 3) 4) ∧ (5 = 3 → zyw0 (zyEl zymx B H) → zybn (ρ 1) 4 ∧ zybn (ρ 3) 5) ∧ (5 = 4 ∨ 5 = 5 → zyw0 (zyEl zymx B H) → zybn (ρ 1) 4 ∧ zybn (ρ 2) 5) ∧ (5 = 4 → ρ 3 = 1 → (zyEl zymx B H) 74 36 = some (.int (Int32.ofNat 0)) ∧ (zyEl zymx B H) 74 40 = some (.int (Int32.ofNat 3))) ∧ (5 = 6 ∨ 5 = 7 → ∃ r c n : Nat, zyPr r c ∧ zyT75 r c (zyEl zymx B H) ∧ zJl (zyEl zymx B H) ∧ zPn (zyEl zymx B H) ∧ n ≤ 901 ∧ (zyEl zymx B H) 74 39 = some (.int (Int32.ofNat n))) := hI
      obtain ⟨hF, hB, hM⟩ := hXs
      have hEE : (zyEl zymx B H2) = (zyEl zymx B H) := zyfr0 hfr
      have ex := List.mem_singleton.mp hx
      subst ex
      obtain ⟨⟨t33, t76⟩, hP, c2, c3, c45, c4, c67⟩ := hI
      rw [← hEE] at t33
      have t76 : ∀ k, (zyEl zymx B H2) 76 k = (zyEl zymx B s.heap) 76 k := fun k => by rw [hEE]; exact t76 k
      have hP := hP (by decide)
      rw [← hEE] at hP
      obtain ⟨na, ua1, ua2, ua3⟩ := zyXe hF 0 rfl
      have ua1 : Int32.ofNat 36 = Int32.ofNat na := ua1
      have ua3 : (zyEl zymx B H) 74 na = some (.int (ρ2 3)) := ua3
      have ea := zyOi (by omega) (by omega) ua1
      subst ea
      have b3 := zyXb hB 0 rfl
      have b3 : 2147483648 ≤ zB (ρ2 3) ∧ zB (ρ2 3) ≤ 2147483648 := b3
      obtain ⟨o1, o2⟩ := zyOn b3.1
      rw [o1, show zyN1 (ρ2 3) = 0 by omega] at ua3
      obtain ⟨⟨b1, b2⟩, b4, b5⟩ := c45 (Or.inr rfl) ua3
      rw [← hg 1 (by decide)] at b1 b2
      rw [← hg 2 (by decide)] at b4 b5
      obtain ⟨o3, o4⟩ := zyOn (show 2147483648 ≤ zB (ρ2 1) by omega)
      obtain ⟨o5, o6⟩ := zyOn (show 2147483648 ≤ zB (ρ2 2) by omega)
      obtain ⟨n, hn, en9⟩ := zc74 hT2 (k := 39) (lo := 2147483648) (hi := 2147484549) (by decide) rfl (by decide) (by decide)
      refine zyCa0 hRu hIH hAt hB hcl (ix := 85) (ax := 3088) rfl rfl rfl hmecl ⟨rfl, rfl, rfl, rfl⟩ (by decide) [34359738369, 68719476737] rfl (by decide) rfl ⟨6, by decide⟩ [595, 0, 0] rfl rfl rfl rfl ?_ ?_
      · show zyΦcl [ρ2 1, ρ2 2] _
        exact ⟨zyN1 (ρ2 1), zyN1 (ρ2 2), ⟨by omega, by omega, by omega, by omega⟩, by rw [← o3, ← o5]⟩
      · intro E3 vo hT3 hΨ
        obtain ⟨ev, p1, R, C, hp, -, p3⟩ := (show zyΨcl [ρ2 1, ρ2 2] _ E3 vo from hΨ)
        obtain ⟨k1, k2⟩ := zcl_T75 hp p3
        refine ⟨ev, ⟨⟨(p1 74 33 (by decide)).trans t33, fun k => (p1 76 k (by decide)).trans (t76 k)⟩, fun h => absurd (show 6 ≤ 5 from h) (by decide), fun h => absurd (show 6 = 2 from h) (by decide), fun h => absurd (show 6 = 3 from h) (by decide), fun h => absurd (show 6 = 4 ∨ 6 = 5 from h) (by decide), fun h => absurd (show 6 = 4 from h) (by decide), fun _ => ⟨R, C, n, hp, k1, k2, zPn_fr (fun k _ _ => p1 74 k (by decide)) hP, by omega, (p1 74 39 (by decide)).trans en9⟩⟩, ?_⟩
        show (if zyI E3 74 36 = Int32.ofNat 0 then 10 * (902 - zyN1 (zyI E3 74 39)) + 5 else 2) < 100000 - 5
        split <;> omega
    · have hx : x ∈ [zxral_gx0] := hx
      have hg : ∀ k, k < 3 → ρ2 k = ρ k := hag
      have hI := hInv
      have hI : ((zyEl zymx B H) 74 33 = (zyEl zymx B s.heap) 74 33 ∧ ∀ k, (zyEl zymx B H) 76 k = (zyEl zymx B s.heap) 76 k) ∧ (6 ≤ 5 → zPn (zyEl zymx B H)) ∧ (6 = 2 → zyw0 (zyEl zymx B H) → zybn (ρ 3) 4) ∧ (6 = 3 → zyw0 (zyEl zymx B H) → zybn (ρ 1) 4 ∧ zybn (ρ 3) 5) ∧ (6 = 4 ∨ 6 = 5 → zyw0 (zyEl zymx B H) → zybn (ρ 1) 4 ∧ zybn (ρ 2) 5) ∧ (6 = 4 → ρ 3 = 1 → (zyEl zymx B H) 74 36 = some (.int (Int32.ofNat 0)) ∧ (zyEl zymx B H) 74 40 = some (.int (Int32.ofNat 3))) ∧ (6 = 6 ∨ 6 = 7 → ∃ r c n : Nat, zyPr r c ∧ zyT75 r c (zyEl zymx B H) ∧ zJl (zyEl zymx B H) ∧ zPn (zyEl zymx B H) ∧ n ≤ 901 ∧ (zyEl zymx B H) 74 39 = some (.int (Int32.ofNat n))) := hI
      obtain ⟨hF, hB, hM⟩ := hXs
      have hEE : (zyEl zymx B H2) = (zyEl zymx B H) := zyfr0 hfr
      have ex := List.mem_singleton.mp hx
      subst ex
      obtain ⟨⟨t33, t76⟩, hP, c2, c3, c45, c4, c67⟩ := hI
      obtain ⟨R, C, n, hp, k1, k2, hPn, hn, e39⟩ := c67 (Or.inl rfl)
      obtain ⟨na, ua1, ua2, ua3⟩ := zyXe hF 0 rfl
      have ua1 : Int32.ofNat 36 = Int32.ofNat na := ua1
      have ua3 : (zyEl zymx B H) 74 na = some (.int (ρ2 3)) := ua3
      have ea := zyOi (by omega) (by omega) ua1
      subst ea
      obtain ⟨nb, ub1, ub2, ub3⟩ := zyXe hF 1 rfl
      have ub1 : Int32.ofNat 40 = Int32.ofNat nb := ub1
      have ub3 : (zyEl zymx B H) 74 nb = some (.int (ρ2 4)) := ub3
      have eb := zyOi (by omega) (by omega) ub1
      subst eb
      have bw := zyXb hB 0 rfl
      have bw : 2147483648 ≤ zB (ρ2 3) ∧ zB (ρ2 3) ≤ 2147483648 := bw
      obtain ⟨o1, o2⟩ := zyOn bw.1
      rw [o1, show zyN1 (ρ2 3) = 0 by omega] at ua3
      have bs := zyXb hB 1 rfl
      have bs : 2147483649 ≤ zB (ρ2 4) ∧ zB (ρ2 4) ≤ 2147483652 := bs
      obtain ⟨o3, o4⟩ := zyOn (show 2147483648 ≤ zB (ρ2 4) by omega)
      rw [o3] at ub3
      refine zyCa0 hRu hIH hAt hB hli (ix := 488) (ax := 5232) rfl rfl rfl hmeli ⟨rfl, rfl, rfl, rfl⟩ (by decide) [] rfl (by decide) rfl ⟨7, by decide⟩ [595, 0, 0] rfl rfl rfl rfl ?_ ?_
      · show zyΦlx _ _
        rw [hEE]
        exact ⟨R, C, hp, k1, k2, hPn, ua3, zyN1 (ρ2 4), by omega, by omega, ub3⟩
      · intro E3 vo hT3 hΨ
        have hΨ : zyΨlx _ _ E3 vo := hΨ
        rw [hEE] at hΨ
        obtain ⟨g1, ev, ⟨g2, g3, g4, g5, -⟩, w, n1, n2, g6, g7, g8, g9, g10, g11⟩ := hΨ R C hp k1
        rw [e39] at g8
        refine ⟨ev, ⟨⟨g4.trans t33, fun k => (g5 k).trans (t76 k)⟩, fun h => absurd (show 7 ≤ 5 from h) (by decide), fun h => absurd (show 7 = 2 from h) (by decide), fun h => absurd (show 7 = 3 from h) (by decide), fun h => absurd (show 7 = 4 ∨ 7 = 5 from h) (by decide), fun h => absurd (show 7 = 4 from h) (by decide), fun _ => ⟨R, C, n2, hp, g1, g2, g3, g10, g9⟩⟩, ?_⟩
        show (if zyI E3 74 36 = Int32.ofNat 0 then 10 * (902 - zyN1 (zyI E3 74 39)) + 7 else 3) < (if zyI (zyEl zymx B H) 74 36 = Int32.ofNat 0 then 10 * (902 - zyN1 (zyI (zyEl zymx B H) 74 39)) + 5 else 2)
        rw [if_pos (zyI_s ua3), zyI_s e39, zyI_s g7, zyI_s g9, zyN1_of (by omega), zyN1_of (by omega)]
        by_cases w0 : w = 0
        · have g11 := g11 w0
          have en := zyOi (by omega) (by omega) (Value.int.inj (Option.some.inj g8))
          rw [w0, if_pos rfl]
          omega
        · rw [if_neg (fun q => w0 (zyOi (by omega) (by omega) q))]
          omega
    · have hx : x ∈ [zxral_hx0] := hx
      have hg : ∀ k, k < 3 → ρ2 k = ρ k := hag
      have hI := hInv
      have hI : ((zyEl zymx B H) 74 33 = (zyEl zymx B s.heap) 74 33 ∧ ∀ k, (zyEl zymx B H) 76 k = (zyEl zymx B s.heap) 76 k) ∧ (7 ≤ 5 → zPn (zyEl zymx B H)) ∧ (7 = 2 → zyw0 (zyEl zymx B H) → zybn (ρ 3) 4) ∧ (7 = 3 → zyw0 (zyEl zymx B H) → zybn (ρ 1) 4 ∧ zybn (ρ 3) 5) ∧ (7 = 4 ∨ 7 = 5 → zyw0 (zyEl zymx B H) → zybn (ρ 1) 4 ∧ zybn (ρ 2) 5) ∧ (7 = 4 → ρ 3 = 1 → (zyEl zymx B H) 74 36 = some (.int (Int32.ofNat 0)) ∧ (zyEl zymx B H) 74 40 = some (.int (Int32.ofNat 3))) ∧ (7 = 6 ∨ 7 = 7 → ∃ r c n : Nat, zyPr r c ∧ zyT75 r c (zyEl zymx B H) ∧ zJl (zyEl zymx B H) ∧ zPn (zyEl zymx B H) ∧ n ≤ 901 ∧ (zyEl zymx B H) 74 39 = some (.int (Int32.ofNat n))) := hI
      obtain ⟨hF, hB, hM⟩ := hXs
      have hEE : (zyEl zymx B H2) = (zyEl zymx B H) := zyfr0 hfr
      have ex := List.mem_singleton.mp hx
      subst ex
      obtain ⟨⟨t33, t76⟩, hP, c2, c3, c45, c4, c67⟩ := hI
      have c67 := c67 (Or.inr rfl)
      rw [← hEE] at t33 c67
      have t76 : ∀ k, (zyEl zymx B H2) 76 k = (zyEl zymx B s.heap) 76 k := fun k => by rw [hEE]; exact t76 k
      refine zyGoB hIH hAt hB ⟨6, by decide⟩ [595, 0, 0] rfl rfl rfl rfl ⟨⟨t33, t76⟩, fun h => absurd (show 6 ≤ 5 from h) (by decide), fun h => absurd (show 6 = 2 from h) (by decide), fun h => absurd (show 6 = 3 from h) (by decide), fun h => absurd (show 6 = 4 ∨ 6 = 5 from h) (by decide), fun h => absurd (show 6 = 4 from h) (by decide), fun _ => c67⟩ ?_
      show (if zyI (zyEl zymx B H2) 74 36 = Int32.ofNat 0 then 10 * (902 - zyN1 (zyI (zyEl zymx B H2) 74 39)) + 5 else 2) < (if zyI (zyEl zymx B H) 74 36 = Int32.ofNat 0 then 10 * (902 - zyN1 (zyI (zyEl zymx B H) 74 39)) + 7 else 3)
      rw [hEE]
      split <;> omega
  · intro as E0 E E2 hT0 hΦ hlen i ρ hT hInv x hx ρ2 N2 B vo hXs hag hfr hT2 hvo
    rcases i with ⟨i, hi⟩
    have hi2 : i = 0 ∨ i = 1 ∨ i = 2 ∨ i = 3 ∨ i = 4 ∨ i = 5 ∨ i = 6 ∨ i = 7 := by omega
    rcases hi2 with rfl | rfl | rfl | rfl | rfl | rfl | rfl | rfl
    · cases hx
    · cases hx
    · cases hx
    · cases hx
    · cases hx
    · have hx : x ∈ [zxral_fr0] := hx
      have hg : ∀ k, k < 3 → ρ2 k = ρ k := hag
      have hI := hInv
      have hI : (E 74 33 = E0 74 33 ∧ ∀ k, E 76 k = E0 76 k) ∧ (5 ≤ 5 → zPn E) ∧ (5 = 2 → zyw0 E → zybn (ρ 3) 4) ∧ (5 = 3 → zyw0 E → zybn (ρ 1) 4 ∧ zybn (ρ 3) 5) ∧ (5 = 4 ∨ 5 = 5 → zyw0 E → zybn (ρ 1) 4 ∧ zybn (ρ 2) 5) ∧ (5 = 4 → ρ 3 = 1 → E 74 36 = some (.int (Int32.ofNat 0)) ∧ E 74 40 = some (.int (Int32.ofNat 3))) ∧ (5 = 6 ∨ 5 = 7 → ∃ r c n : Nat, zyPr r c ∧ zyT75 r c E ∧ zJl E ∧ zPn E ∧ n ≤ 901 ∧ E 74 39 = some (.int (Int32.ofNat n))) := hI
      obtain ⟨hF, hB, hM⟩ := hXs
      have hEE : E2 = E := zyfr0 hfr
      have ex := List.mem_singleton.mp hx
      subst ex
      obtain ⟨⟨t33, t76⟩, hP, c2, c3, c45, c4, c67⟩ := hI
      obtain ⟨na, ua1, ua2, ua3⟩ := zyXe hF 0 rfl
      have ua1 : Int32.ofNat 36 = Int32.ofNat na := ua1
      have ua3 : E 74 na = some (.int (ρ2 3)) := ua3
      have ea := zyOi (by omega) (by omega) ua1
      subst ea
      have b3 := zyXb hB 0 rfl
      have b3 : 2147483649 ≤ zB (ρ2 3) ∧ zB (ρ2 3) ≤ 2147483657 := b3
      obtain ⟨o1, o2⟩ := zyOn (show 2147483648 ≤ zB (ρ2 3) by omega)
      rw [o1, ← hEE] at ua3
      exact ⟨zyvo_0 (show zyvo _ [] vo from hvo), by rw [hEE]; exact t33, fun k => by rw [hEE]; exact t76 k, zyN1 (ρ2 3), by omega, ua3, fun q => absurd q (by omega)⟩
    · have hx : x ∈ [zxral_gr0] := hx
      have hg : ∀ k, k < 3 → ρ2 k = ρ k := hag
      have hI := hInv
      have hI : (E 74 33 = E0 74 33 ∧ ∀ k, E 76 k = E0 76 k) ∧ (6 ≤ 5 → zPn E) ∧ (6 = 2 → zyw0 E → zybn (ρ 3) 4) ∧ (6 = 3 → zyw0 E → zybn (ρ 1) 4 ∧ zybn (ρ 3) 5) ∧ (6 = 4 ∨ 6 = 5 → zyw0 E → zybn (ρ 1) 4 ∧ zybn (ρ 2) 5) ∧ (6 = 4 → ρ 3 = 1 → E 74 36 = some (.int (Int32.ofNat 0)) ∧ E 74 40 = some (.int (Int32.ofNat 3))) ∧ (6 = 6 ∨ 6 = 7 → ∃ r c n : Nat, zyPr r c ∧ zyT75 r c E ∧ zJl E ∧ zPn E ∧ n ≤ 901 ∧ E 74 39 = some (.int (Int32.ofNat n))) := hI
      obtain ⟨hF, hB, hM⟩ := hXs
      have hEE : E2 = E := zyfr0 hfr
      have ex := List.mem_singleton.mp hx
      subst ex
      obtain ⟨⟨t33, t76⟩, hP, c2, c3, c45, c4, c67⟩ := hI
      obtain ⟨R, C, n, hp, k1, k2, -⟩ := c67 (Or.inl rfl)
      rw [← hEE] at k1 k2
      obtain ⟨w, hw, ew⟩ := zc74 hT2 (k := 36) (lo := 2147483648) (hi := 2147483657) (by decide) rfl (by decide) (by decide)
      exact ⟨zyvo_0 (show zyvo _ [] vo from hvo), by rw [hEE]; exact t33, fun k => by rw [hEE]; exact t76 k, w, by omega, ew, fun _ => ⟨R, C, hp, k1, k2⟩⟩
    · cases hx
