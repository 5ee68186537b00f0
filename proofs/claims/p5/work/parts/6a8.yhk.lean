/-! WHY A SETTING IS REFUSED -/
def zyFwhy (E E2 : zyEm) : Prop := ∀ a k, ¬ (a = 74 ∧ (k = 8 ∨ (14 ≤ k ∧ k ≤ 17) ∨ (19 ≤ k ∧ k ≤ 21) ∨ (25 ≤ k ∧ k ≤ 27))) → ¬ (77 ≤ a ∧ a ≤ 82) → E2 a k = E a k
theorem zyFwhy_75 {E E2 : zyEm} (h : zyFwhy E E2) (k : Nat) : E2 75 k = E 75 k := h 75 k (fun z => absurd z.1 (by decide)) (by decide)
theorem zLv_75 {E E2 : zyEm} {m : Nat} (h : ∀ k, E2 75 k = E 75 k) (hv : zLv E m) : zLv E2 m := zLv_fr (h 4) (fun k _ _ => h _) hv
theorem zWv_75 {E E2 : zyEm} (h : ∀ k, E2 75 k = E 75 k) (hv : zWv E) : zWv E2 := zWv_fr (h 5) (fun k _ => h _) hv
theorem zJ1_75 {E E2 : zyEm} (h : ∀ k, E2 75 k = E 75 k) (hv : zJ1 E) : zJ1 E2 := fun m hm hms => by
  rw [h 2] at hms
  obtain ⟨j1, j2, j3⟩ := hv m hm hms
  exact ⟨zLv_75 h j1, zWv_75 h j2, zT0_fr (h 3) (h 4) j3⟩
def zyΦwy (as : List Int32) (E : zyEm) : Prop := zJ1 E ∧ ∃ x y : Int32, as = [x, y] ∧ 2147483649 ≤ zB x ∧ zB x ≤ 2147483712 ∧ 2147483648 ≤ zB y
def zyΨwy (_ : List Int32) (E E2 : zyEm) (vo : Option Value) : Prop := zyFwhy E E2 ∧ ∃ z : Int32, vo = some (.int z) ∧ 2147483648 ≤ zB z ∧ zB z ≤ 2147483652
def zyIwy (K i m q t : Nat) (E0 : zyEm) (ρ : Nat → Int32) (E : zyEm) : Prop := zyFwhy E0 E ∧ (1 ≤ i → i ≤ 6 → E 74 14 = some (.int (Int32.ofNat q)) ∧ zSv E m (min q 300) ∧ q ≤ 1792) ∧ (i = 1 → q = 0) ∧ (2 ≤ i → i ≤ 5 → ρ 4 = Int32.ofNat t ∧ t ≤ 64) ∧ (i = 2 ∨ i = 3 → q ≤ 28 * t) ∧ (4 ≤ i → i ≤ 5 → q ≤ 28 * t + 28) ∧ (3 ≤ i → i ≤ 5 → t ≤ 63) ∧ (i = 1 ∨ i = 5 → ∀ b, b < m → zsl E b < K) ∧ (i = 2 → ρ 3 = Int32.ofNat 0 → ∀ b, b < m → zsl E b < K) ∧ (i = 3 → (ρ 5 = 1 → ∀ b, b < m → zth E b < K)) ∧ (i = 4 → ∀ b, b < m → zth E b < K)
theorem zywy_run : zyAllP (fun r c => zyrS (zymr r c) zxi297 (297, 0, 0, 1, 0) 9 zpwy (fun _ _ => []) zFwy zSwy zXwy zRwy 8) = true := by decide +kernel
theorem zywhyOf {l : Launch} {r c : Nat} (h1 : 1 ≤ r) (h2 : r ≤ 4) (h3 : 1 ≤ c) (h4 : c ≤ 5) {en : zEn} {me : zMe} (hen : zG zxMeta 297 = some en) (hme : zG zMeth 297 = some me) : zyHc l (zymr r c) en me 9 2 zyΦwy zyΨwy := by
  have een : zG zxMeta 297 = some (zxi297, 3, 5, 11, 297, 0, 0, 1, 0) := rfl
  obtain ⟨me1, hme1, hOK⟩ := zall hen
  rw [hme] at hme1
  cases hme1
  rw [een] at hen
  cases hen
  have hr := zyAllP_iff zywy_run h1 h2 h3 h4
  obtain ⟨mebg, hmebg, -⟩ := zall (show zG zxMeta 225 = some (zxi225, 1, 2, 11, 225, 0, 0, 0, 0) from rfl)
  have hbg := zybegins (l := l) h1 h2 h3 h4 (show zG zxMeta 225 = some (zxi225, 1, 2, 11, 225, 0, 0, 0, 0) from rfl) hmebg
  obtain ⟨metr, hmetr, -⟩ := zall (show zG zxMeta 219 = some (zxi219, 2, 3, 11, 219, 0, 0, 2, 0) from rfl)
  have htr := zytries (l := l) h1 h2 h3 h4 (show zG zxMeta 219 = some (zxi219, 2, 3, 11, 219, 0, 0, 2, 0) from rfl) hmetr
  obtain ⟨mess, hmess, -⟩ := zall (show zG zxMeta 223 = some (zxi223, 1, 4, 11, 223, 0, 0, 0, 0) from rfl)
  have hss := zyspellsStep (l := l) h1 h2 h3 h4 (show zG zxMeta 223 = some (zxi223, 1, 4, 11, 223, 0, 0, 0, 0) from rfl) hmess
  obtain ⟨megs, hmegs, -⟩ := zall (show zG zxMeta 224 = some (zxi224, 1, 2, 11, 224, 0, 0, 0, 0) from rfl)
  have hgs := zygoes (l := l) h1 h2 h3 h4 (show zG zxMeta 224 = some (zxi224, 1, 2, 11, 224, 0, 0, 0, 0) from rfl) hmegs
  obtain ⟨mesw, hmesw, -⟩ := zall (show zG zxMeta 296 = some (zxi296, 1, 2, 11, 296, 0, 0, 2, 0) from rfl)
  have hsw := zyisSpelledWished (l := l) h1 h2 h3 h4 (show zG zxMeta 296 = some (zxi296, 1, 2, 11, 296, 0, 0, 2, 0) from rfl) hmesw
  refine zycutS (mi := zymr r c) hOK rfl rfl ⟨_, rfl, rfl⟩ (ι := Fin 8) (fun i => zpwy i.val) (fun _ _ => []) (fun i => zFwy i.val) (fun i => zSwy i.val) (fun i => zXwy i.val) (fun i => zRwy i.val) (fun i y2 ct en2 me2 h => by cases h) 200000 (fun i => zyAll_iff hr i.val i.isLt) ⟨0, by decide⟩ ⟨rfl, rfl, rfl, rfl⟩ ⟨by decide, by decide⟩
    (fun i as E0 ρ E => ∃ m q t : Nat, m ≤ 8 ∧ E0 75 2 = some (.int (Int32.ofNat m)) ∧ zJ1 E0 ∧ zyIwy (zgNS r c) i.val m q t E0 ρ E) (fun i as E0 ρ E => if i.val = 0 then 5000 else if i.val = 1 then 4000 else if i.val = 2 then (if ρ 3 = Int32.ofNat 0 then 1000 + 10 * (65 - zyN1 (ρ 4)) + 9 else 900) else if i.val ≤ 5 then 1000 + 10 * (65 - zyN1 (ρ 4)) + (11 - i.val) else if i.val = 6 then 100 + (9 - zyN1 (ρ 4)) else 0) ?_ ?_ ?_
  · intro as E hlen hT hΦ
    obtain ⟨hJ, x, y, rfl, b1, b2, b3⟩ := hΦ
    obtain ⟨m, hm, e2⟩ := zc_m hT
    have hy := (zyfull y).2
    exact ⟨zEnv_c (zyfull _) (zEnv_c ⟨b1, b2⟩ (zEnv_c ⟨b3, hy⟩ (zEnv_c (zyfull _) (zEnv_c (zyfull _) zEnv_nil)))), m, 0, 0, hm, e2, hJ, fun _ _ _ _ => rfl, fun h => absurd (show 1 ≤ 0 from h) (by decide), fun h => absurd (show 0 = 1 from h) (by decide), fun h => absurd (show 2 ≤ 0 from h) (by decide), fun h => absurd (show 0 = 2 ∨ 0 = 3 from h) (by decide), fun h => absurd (show 4 ≤ 0 from h) (by decide), fun h => absurd (show 3 ≤ 0 from h) (by decide), fun h => absurd (show 0 = 1 ∨ 0 = 5 from h) (by decide), fun h => absurd (show 0 = 2 from h) (by decide), fun h => absurd (show 0 = 3 from h) (by decide), fun h => absurd (show 0 = 4 from h) (by decide)⟩
  · intro as B s Wg hRu hT0 hΦ hlen i ρ H hT hInv hIH x hx ρ2 N2 H2 locs lsB stA hAt hXs hag hfr hT2
    rcases i with ⟨i, hi⟩
    have hi2 : i = 0 ∨ i = 1 ∨ i = 2 ∨ i = 3 ∨ i = 4 ∨ i = 5 ∨ i = 6 ∨ i = 7 := by omega
    rcases hi2 with rfl | rfl | rfl | rfl | rfl | rfl | rfl | rfl
    · have hx : x ∈ [zxwy_ax0] := hx
      have hg : ∀ k, k < 5 → ρ2 k = ρ k := hag
      have hI := hInv
      have hI : ∃ m q t : Nat, m ≤ 8 ∧ (zyEl (zymr r c) B s.heap) 75 2 = some (.int (Int32.ofNat m)) ∧ zJ1 (zyEl (zymr r c) B s.heap) ∧ zyIwy (zgNS r c) 0 m q t (zyEl (zymr r c) B s.heap) ρ (zyEl (zymr r c) B H) := hI
      obtain ⟨hF, hB, hM⟩ := hXs
      have hfr : ∀ a k, zyin [(74, 8, 8)] a k = false → (zyEl (zymr r c) B H2) a k = (zyEl (zymr r c) B H) a k := hfr
      have ex := List.mem_singleton.mp hx
      subst ex
      obtain ⟨m, q, t, hm, s1, hJ, i1, i2, i3, i4, i5, i6, i7, i8, i9, i10, i11⟩ := hI
      have T1 : zyTy (zymr r c) (zyEl (zymr r c) B H) := hT
      have n80 : zgNS r c ≤ 80 := zgNS_le h2 h4
      have hms : zyEl (zymr r c) B H 75 2 = some (.int (Int32.ofNat m)) := (zyFwhy_75 i1 2).trans s1
      have hk : ∀ a k, ¬ (a = 74 ∧ k = 8) → zyEl (zymr r c) B H2 a k = zyEl (zymr r c) B H a k := by
        intro a k n
        apply hfr
        cases hq : zyin [(74, 8, 8)] a k with
        | false => rfl
        | true =>
          obtain ⟨p0, g1, g2, g3, g4⟩ := zyin_iff.mp hq
          rw [List.mem_singleton.mp g1] at g2 g3 g4
          dsimp only at g2 g3 g4
          exact absurd ⟨g2.symm, by omega⟩ n
      refine zyCa0 hRu hIH hAt hB hbg (ix := 352) (ax := 3600) rfl rfl rfl hmebg ⟨rfl, rfl, rfl, rfl⟩ (by decide) [] rfl (by decide) rfl ⟨1, by decide⟩ [595, 34359738369, 0, 0, 0] rfl rfl rfl rfl trivial ?_
      intro E3 vo hT3 hΨ
      obtain ⟨ev, p1, p2, p3⟩ := (show zyΨbg _ [] _ E3 vo from hΨ)
      refine ⟨ev, ⟨m, 0, 0, hm, s1, hJ, fun a k n1 n2 => (p1 a k (fun z => n2 (by omega)) (fun z => n1 ⟨z.1, by omega⟩)).trans ((hk a k (fun z => n1 ⟨z.1, by omega⟩)).trans (i1 a k n1 n2)), fun _ _ => ⟨p2, fun j hj => absurd hj (by omega), by omega⟩, fun _ => rfl, fun h => absurd (show 2 ≤ 1 from h) (by decide), fun h => absurd (show 1 = 2 ∨ 1 = 3 from h) (by decide), fun h => absurd (show 4 ≤ 1 from h) (by decide), fun h => absurd (show 3 ≤ 1 from h) (by decide), fun _ => p3 m hm ((hk 75 2 (fun z => absurd z.1 (by decide))).trans hms), fun h => absurd (show 1 = 2 from h) (by decide), fun h => absurd (show 1 = 3 from h) (by decide), fun h => absurd (show 1 = 4 from h) (by decide)⟩, (show 4000 < 5000 by decide)⟩
    · have hx : x ∈ [zxwy_bx0] := hx
      have hg : ∀ k, k < 5 → ρ2 k = ρ k := hag
      have hI := hInv
      have hI : ∃ m q t : Nat, m ≤ 8 ∧ (zyEl (zymr r c) B s.heap) 75 2 = some (.int (Int32.ofNat m)) ∧ zJ1 (zyEl (zymr r c) B s.heap) ∧ zyIwy (zgNS r c) 1 m q t (zyEl (zymr r c) B s.heap) ρ (zyEl (zymr r c) B H) := hI
      obtain ⟨hF, hB, hM⟩ := hXs
      have hEE : (zyEl (zymr r c) B H2) = (zyEl (zymr r c) B H) := zyfr0 hfr
      have ex := List.mem_singleton.mp hx
      subst ex
      obtain ⟨m, q, t, hm, s1, hJ, i1, i2, i3, i4, i5, i6, i7, i8, i9, i10, i11⟩ := hI
      have T1 : zyTy (zymr r c) (zyEl (zymr r c) B H) := hT
      have n80 : zgNS r c ≤ 80 := zgNS_le h2 h4
      have hms : zyEl (zymr r c) B H 75 2 = some (.int (Int32.ofNat m)) := (zyFwhy_75 i1 2).trans s1
      obtain ⟨e14, sv, q1⟩ := i2 (by decide) (by decide)
      have q0 := i3 rfl
      have sl := i8 (Or.inl rfl)
      refine zyGoB hIH hAt hB ⟨2, by decide⟩ [595, 34359738369, 0, 0, 0] rfl rfl rfl rfl ⟨m, q, 0, hm, s1, hJ, by rw [hEE]; exact i1, fun _ _ => by rw [hEE]; exact ⟨e14, sv, q1⟩, fun h => absurd (show 2 = 1 from h) (by decide), fun _ _ => ⟨rfl, by omega⟩, fun _ => by omega, fun h => absurd (show 4 ≤ 2 from h) (by decide), fun h => absurd (show 3 ≤ 2 from h) (by decide), fun h => absurd (show 2 = 1 ∨ 2 = 5 from h) (by decide), fun _ => fun _ => by rw [hEE]; exact sl, fun h => absurd (show 2 = 3 from h) (by decide), fun h => absurd (show 2 = 4 from h) (by decide)⟩ ?_
      show (if Int32.ofNat 0 = Int32.ofNat 0 then 1000 + 10 * (65 - zyN1 (Int32.ofNat 0)) + 9 else 900) < 4000
      rw [if_pos rfl]
      omega
    · have hx : x ∈ [zxwy_cx0, zxwy_cx1] := hx
      have hg : ∀ k, k < 5 → ρ2 k = ρ k := hag
      have hI := hInv
      have hI : ∃ m q t : Nat, m ≤ 8 ∧ (zyEl (zymr r c) B s.heap) 75 2 = some (.int (Int32.ofNat m)) ∧ zJ1 (zyEl (zymr r c) B s.heap) ∧ zyIwy (zgNS r c) 2 m q t (zyEl (zymr r c) B s.heap) ρ (zyEl (zymr r c) B H) := hI
      obtain ⟨hF, hB, hM⟩ := hXs
      have hfr : ∀ a k, zyin [(74, 8, 8)] a k = false → (zyEl (zymr r c) B H2) a k = (zyEl (zymr r c) B H) a k := hfr
      rcases List.mem_cons.mp hx with ex | hx
      · subst ex
        obtain ⟨m, q, t, hm, s1, hJ, i1, i2, i3, i4, i5, i6, i7, i8, i9, i10, i11⟩ := hI
        have T1 : zyTy (zymr r c) (zyEl (zymr r c) B H) := hT
        have n80 : zgNS r c ≤ 80 := zgNS_le h2 h4
        have hms : zyEl (zymr r c) B H 75 2 = some (.int (Int32.ofNat m)) := (zyFwhy_75 i1 2).trans s1
        obtain ⟨e14, sv, q1⟩ := i2 (by decide) (by decide)
        obtain ⟨b4, t64⟩ := i4 (by decide) (by decide)
        have a4 : ρ2 4 = Int32.ofNat t := (hg 4 (by decide)).trans b4
        have hk : ∀ a k, ¬ (a = 74 ∧ k = 8) → zyEl (zymr r c) B H2 a k = zyEl (zymr r c) B H a k := by
          intro a k n
          apply hfr
          cases hq : zyin [(74, 8, 8)] a k with
          | false => rfl
          | true =>
            obtain ⟨p0, g1, g2, g3, g4⟩ := zyin_iff.mp hq
            rw [List.mem_singleton.mp g1] at g2 g3 g4
            dsimp only at g2 g3 g4
            exact absurd ⟨g2.symm, by omega⟩ n
        have f1 := zyX22 hF 1 rfl
        have f1 : ρ2 3 = Int32.ofNat 0 := f1
        have q28 := i5 (Or.inl rfl)
        have sl := i9 rfl ((hg 3 (by decide)).symm.trans f1)
        have tb : 2147483648 ≤ zB (ρ2 4) ∧ zB (ρ2 4) ≤ 2147483711 := zyXb hB 2 rfl
        rw [a4, zyBn (by omega)] at tb
        refine zyCa1 hRu hIH hAt hB htr (ix := 329) (ax := 3504) rfl rfl rfl hmetr ⟨rfl, rfl, rfl, rfl⟩ (by decide) [137438953473] rfl (by decide) rfl ⟨3, by decide⟩ [595, 34359738369, 0, 103079215105, 137438953473] [(0, 4294967295), (2147483649, 2147483712), (0, 4294967295), (2147483648, 2147483648), (2147483648, 2147483711)] 2147483648 2147483649 rfl (by decide) rfl rfl rfl rfl rfl ?_ ?_
        · show zyΦtr _ [ρ2 4] _
          exact ⟨m, hm, (hk 75 2 (fun z => absurd z.1 (by decide))).trans hms, fun b hb => by rw [zsl_eq (hk 77 b (fun z => absurd z.1 (by decide)))]; exact sl b hb⟩
        · intro E3 vo hT3 hΨ
          obtain ⟨p1, z, ez, hz, hzz⟩ := (show zyΨtr _ [ρ2 4] _ E3 vo from hΨ)
          have p5 : ∀ a k, ¬ a = 78 → ¬ (a = 74 ∧ 15 ≤ k ∧ k ≤ 17) → ¬ (a = 74 ∧ k = 8) → E3 a k = zyEl (zymr r c) B H a k := fun a k n1 n2 n3 => (p1 a k n1 n2).trans (hk a k n3)
          refine ⟨z, ez, ?_, ?_, ⟨m, q, t, hm, s1, hJ, fun a k n1 n2 => (p5 a k (fun z => n2 (by omega)) (fun z => n1 ⟨z.1, by omega⟩) (fun z => n1 ⟨z.1, by omega⟩)).trans (i1 a k n1 n2), fun _ _ => ⟨(p5 74 14 (by decide) (fun z => absurd z.2 (by decide)) (fun z => absurd z.2 (by decide))).trans e14, fun j hj => by rw [zyI_eq (p5 80 j (by decide) (fun z => absurd z.1 (by decide)) (fun z => absurd z.1 (by decide)))]; exact sv j hj, q1⟩, fun h => absurd (show 3 = 1 from h) (by decide), fun _ _ => ⟨(zyρi_n (by decide)).trans a4, t64⟩, fun _ => q28, fun h => absurd (show 4 ≤ 3 from h) (by decide), fun _ _ => by omega, fun h => absurd (show 3 = 1 ∨ 3 = 5 from h) (by decide), fun h => absurd (show 3 = 2 from h) (by decide), fun _ => fun qq => hzz (zyρi_e.symm.trans qq) m hm ((hk 75 2 (fun z => absurd z.1 (by decide))).trans hms), fun h => absurd (show 3 = 4 from h) (by decide)⟩, ?_⟩
          · rcases hz with rfl | rfl <;> decide
          · rcases hz with rfl | rfl <;> decide
          · show 1000 + 10 * (65 - zyN1 (ρ2 4)) + (11 - 3) < (if ρ 3 = Int32.ofNat 0 then 1000 + 10 * (65 - zyN1 (ρ 4)) + 9 else 900)
            rw [if_pos ((hg 3 (by decide)).symm.trans f1), hg 4 (by decide)]
            omega
      · skip
        have ex := List.mem_singleton.mp hx
        subst ex
        obtain ⟨m, q, t, hm, s1, hJ, i1, i2, i3, i4, i5, i6, i7, i8, i9, i10, i11⟩ := hI
        have T1 : zyTy (zymr r c) (zyEl (zymr r c) B H) := hT
        have n80 : zgNS r c ≤ 80 := zgNS_le h2 h4
        have hms : zyEl (zymr r c) B H 75 2 = some (.int (Int32.ofNat m)) := (zyFwhy_75 i1 2).trans s1
        obtain ⟨e14, sv, q1⟩ := i2 (by decide) (by decide)
        have hk : ∀ a k, ¬ (a = 74 ∧ k = 8) → zyEl (zymr r c) B H2 a k = zyEl (zymr r c) B H a k := by
          intro a k n
          apply hfr
          cases hq : zyin [(74, 8, 8)] a k with
          | false => rfl
          | true =>
            obtain ⟨p0, g1, g2, g3, g4⟩ := zyin_iff.mp hq
            rw [List.mem_singleton.mp g1] at g2 g3 g4
            dsimp only at g2 g3 g4
            exact absurd ⟨g2.symm, by omega⟩ n
        refine zyGoB hIH hAt hB ⟨6, by decide⟩ [595, 0, 0, 0, 0] rfl rfl rfl rfl ⟨m, q, t, hm, s1, hJ, fun a k n1 n2 => (hk a k (fun z => n1 ⟨z.1, by omega⟩)).trans (i1 a k n1 n2), fun _ _ => ⟨(hk 74 14 (fun z => absurd z.2 (by decide))).trans e14, fun j hj => by rw [zyI_eq (hk 80 j (fun z => absurd z.1 (by decide)))]; exact sv j hj, q1⟩, fun h => absurd (show 6 = 1 from h) (by decide), fun _ h => absurd (show 6 ≤ 5 from h) (by decide), fun h => absurd (show 6 = 2 ∨ 6 = 3 from h) (by decide), fun _ h => absurd (show 6 ≤ 5 from h) (by decide), fun _ h => absurd (show 6 ≤ 5 from h) (by decide), fun h => absurd (show 6 = 1 ∨ 6 = 5 from h) (by decide), fun h => absurd (show 6 = 2 from h) (by decide), fun h => absurd (show 6 = 3 from h) (by decide), fun h => absurd (show 6 = 4 from h) (by decide)⟩ ?_
        show 100 + (9 - zyN1 (Int32.ofNat 0)) < (if ρ 3 = Int32.ofNat 0 then 1000 + 10 * (65 - zyN1 (ρ 4)) + 9 else 900)
        split <;> omega
    · have hx : x ∈ [zxwy_dx0, zxwy_dx1] := hx
      have hg : ∀ k, k < 6 → ρ2 k = ρ k := hag
      have hI := hInv
      have hI : ∃ m q t : Nat, m ≤ 8 ∧ (zyEl (zymr r c) B s.heap) 75 2 = some (.int (Int32.ofNat m)) ∧ zJ1 (zyEl (zymr r c) B s.heap) ∧ zyIwy (zgNS r c) 3 m q t (zyEl (zymr r c) B s.heap) ρ (zyEl (zymr r c) B H) := hI
      obtain ⟨hF, hB, hM⟩ := hXs
      have hfr : ∀ a k, zyin [(74, 25, 26)] a k = false → (zyEl (zymr r c) B H2) a k = (zyEl (zymr r c) B H) a k := hfr
      rcases List.mem_cons.mp hx with ex | hx
      · subst ex
        obtain ⟨m, q, t, hm, s1, hJ, i1, i2, i3, i4, i5, i6, i7, i8, i9, i10, i11⟩ := hI
        have T1 : zyTy (zymr r c) (zyEl (zymr r c) B H) := hT
        have n80 : zgNS r c ≤ 80 := zgNS_le h2 h4
        have hms : zyEl (zymr r c) B H 75 2 = some (.int (Int32.ofNat m)) := (zyFwhy_75 i1 2).trans s1
        obtain ⟨e14, sv, q1⟩ := i2 (by decide) (by decide)
        obtain ⟨b4, t64⟩ := i4 (by decide) (by decide)
        have a4 : ρ2 4 = Int32.ofNat t := (hg 4 (by decide)).trans b4
        have hk : ∀ a k, ¬ (a = 74 ∧ (25 ≤ k ∧ k ≤ 26)) → zyEl (zymr r c) B H2 a k = zyEl (zymr r c) B H a k := by
          intro a k n
          apply hfr
          cases hq : zyin [(74, 25, 26)] a k with
          | false => rfl
          | true =>
            obtain ⟨p0, g1, g2, g3, g4⟩ := zyin_iff.mp hq
            rw [List.mem_singleton.mp g1] at g2 g3 g4
            dsimp only at g2 g3 g4
            exact absurd ⟨g2.symm, by omega⟩ n
        have q28 := i5 (Or.inr rfl)
        have t63 := i7 (by decide) (by decide)
        have f0 := zyX23 hF 0 rfl
        have f0 : ¬ ρ2 5 = Int32.ofNat 0 := f0
        have z5 : 2147483649 ≤ zB (ρ2 5) ∧ zB (ρ2 5) ≤ 2147483649 := zyXb hB 3 rfl
        have z5 : ρ2 5 = 1 := by
          rcases zybool (x := ρ2 5) (by omega) (by omega) with e | e
          · exact absurd e f0
          · exact e
        have tv := i10 rfl ((hg 5 (by decide)).symm.trans z5)
        have h74 := (hk 74 14 (fun z => absurd z.2 (by decide))).trans e14
        have h752 := (hk 75 2 (fun z => absurd z.1 (by decide))).trans hms
        refine zyCa0 hRu hIH hAt hB hss (ix := 332) (ax := 3568) rfl rfl rfl hmess ⟨rfl, rfl, rfl, rfl⟩ (by decide) [] rfl (by decide) rfl ⟨4, by decide⟩ [595, 34359738369, 0, 103079215105, 137438953473] rfl rfl rfl rfl ?_ ?_
        · show zyΦss [] _
          exact ⟨m, q, hm, by omega, h752, h74, fun j hj => by rw [zyI_eq (hk 80 j (fun z => absurd z.1 (by decide)))]; exact sv j hj⟩
        · intro E3 vo hT3 hΨ
          obtain ⟨ev, p1, p2⟩ := (show zyΨss [] _ E3 vo from hΨ)
          obtain ⟨q', l1, l2, x14, sv2⟩ := p2 m q hm (by omega) h752 h74
          refine ⟨ev, ⟨m, q', t, hm, s1, hJ, fun a k n1 n2 => (p1 a k (fun z => n2 (by omega)) (fun z => n2 (by omega)) (fun z => n1 ⟨z.1, by omega⟩)).trans ((hk a k (fun z => n1 ⟨z.1, by omega⟩)).trans (i1 a k n1 n2)), fun _ _ => ⟨x14, sv2, by omega⟩, fun h => absurd (show 4 = 1 from h) (by decide), fun _ _ => ⟨a4, t64⟩, fun h => absurd (show 4 = 2 ∨ 4 = 3 from h) (by decide), fun _ _ => by omega, fun _ _ => t63, fun h => absurd (show 4 = 1 ∨ 4 = 5 from h) (by decide), fun h => absurd (show 4 = 2 from h) (by decide), fun h => absurd (show 4 = 3 from h) (by decide), fun _ => fun b hb => by rw [zth_eq (p1 78 b (by decide) (by decide) (fun z => absurd z.1 (by decide))), zth_eq (hk 78 b (fun z => absurd z.1 (by decide)))]; exact tv b hb⟩, ?_⟩
          show 1000 + 10 * (65 - zyN1 (ρ2 4)) + (11 - 4) < 1000 + 10 * (65 - zyN1 (ρ 4)) + (11 - 3)
          rw [hg 4 (by decide)]
          omega
      · skip
        have ex := List.mem_singleton.mp hx
        subst ex
        obtain ⟨m, q, t, hm, s1, hJ, i1, i2, i3, i4, i5, i6, i7, i8, i9, i10, i11⟩ := hI
        have T1 : zyTy (zymr r c) (zyEl (zymr r c) B H) := hT
        have n80 : zgNS r c ≤ 80 := zgNS_le h2 h4
        have hms : zyEl (zymr r c) B H 75 2 = some (.int (Int32.ofNat m)) := (zyFwhy_75 i1 2).trans s1
        obtain ⟨e14, sv, q1⟩ := i2 (by decide) (by decide)
        obtain ⟨b4, t64⟩ := i4 (by decide) (by decide)
        have a4 : ρ2 4 = Int32.ofNat t := (hg 4 (by decide)).trans b4
        have a4' : ρ2 4 + Int32.ofNat 1 = Int32.ofNat (t + 1) := by rw [a4, zyOa]
        have hk : ∀ a k, ¬ (a = 74 ∧ (25 ≤ k ∧ k ≤ 26)) → zyEl (zymr r c) B H2 a k = zyEl (zymr r c) B H a k := by
          intro a k n
          apply hfr
          cases hq : zyin [(74, 25, 26)] a k with
          | false => rfl
          | true =>
            obtain ⟨p0, g1, g2, g3, g4⟩ := zyin_iff.mp hq
            rw [List.mem_singleton.mp g1] at g2 g3 g4
            dsimp only at g2 g3 g4
            exact absurd ⟨g2.symm, by omega⟩ n
        have q28 := i5 (Or.inr rfl)
        have t63 := i7 (by decide) (by decide)
        refine zyGoB hIH hAt hB ⟨2, by decide⟩ [595, 34359738369, 0, 8, 137438953481] rfl rfl rfl rfl ⟨m, q, (t + 1), hm, s1, hJ, fun a k n1 n2 => (hk a k (fun z => n1 ⟨z.1, by omega⟩)).trans (i1 a k n1 n2), fun _ _ => ⟨(hk 74 14 (fun z => absurd z.2 (by decide))).trans e14, fun j hj => by rw [zyI_eq (hk 80 j (fun z => absurd z.1 (by decide)))]; exact sv j hj, q1⟩, fun h => absurd (show 2 = 1 from h) (by decide), fun _ _ => ⟨a4', by omega⟩, fun _ => by omega, fun h => absurd (show 4 ≤ 2 from h) (by decide), fun h => absurd (show 3 ≤ 2 from h) (by decide), fun h => absurd (show 2 = 1 ∨ 2 = 5 from h) (by decide), fun _ => fun h => absurd (show Int32.ofNat 1 = Int32.ofNat 0 from h) (by decide), fun h => absurd (show 2 = 3 from h) (by decide), fun h => absurd (show 2 = 4 from h) (by decide)⟩ ?_
        show (if Int32.ofNat 1 = Int32.ofNat 0 then 1000 + 10 * (65 - zyN1 (ρ2 4 + Int32.ofNat 1)) + 9 else 900) < 1000 + 10 * (65 - zyN1 (ρ 4)) + (11 - 3)
        rw [if_neg (by decide)]
        omega
    · have hx : x ∈ [zxwy_ex0] := hx
      have hg : ∀ k, k < 5 → ρ2 k = ρ k := hag
      have hI := hInv
      have hI : ∃ m q t : Nat, m ≤ 8 ∧ (zyEl (zymr r c) B s.heap) 75 2 = some (.int (Int32.ofNat m)) ∧ zJ1 (zyEl (zymr r c) B s.heap) ∧ zyIwy (zgNS r c) 4 m q t (zyEl (zymr r c) B s.heap) ρ (zyEl (zymr r c) B H) := hI
      obtain ⟨hF, hB, hM⟩ := hXs
      have hEE : (zyEl (zymr r c) B H2) = (zyEl (zymr r c) B H) := zyfr0 hfr
      have ex := List.mem_singleton.mp hx
      subst ex
      obtain ⟨m, q, t, hm, s1, hJ, i1, i2, i3, i4, i5, i6, i7, i8, i9, i10, i11⟩ := hI
      have T1 : zyTy (zymr r c) (zyEl (zymr r c) B H) := hT
      have n80 : zgNS r c ≤ 80 := zgNS_le h2 h4
      have hms : zyEl (zymr r c) B H 75 2 = some (.int (Int32.ofNat m)) := (zyFwhy_75 i1 2).trans s1
      obtain ⟨e14, sv, q1⟩ := i2 (by decide) (by decide)
      obtain ⟨b4, t64⟩ := i4 (by decide) (by decide)
      have a4 : ρ2 4 = Int32.ofNat t := (hg 4 (by decide)).trans b4
      have q28 := i6 (by decide) (by decide)
      have t63 := i7 (by decide) (by decide)
      have tv := i11 rfl
      refine zyCa0 hRu hIH hAt hB hgs (ix := 355) (ax := 3584) rfl rfl rfl hmegs ⟨rfl, rfl, rfl, rfl⟩ (by decide) [] rfl (by decide) rfl ⟨5, by decide⟩ [595, 34359738369, 0, 103079215105, 137438953473] rfl rfl rfl rfl trivial ?_
      intro E3 vo hT3 hΨ
      have hΨ : zyΨgs [] _ E3 vo := hΨ
      rw [hEE] at hΨ
      obtain ⟨ev, p1, p2⟩ := hΨ
      refine ⟨ev, ⟨m, q, t, hm, s1, hJ, fun a k n1 n2 => (p1 a k (fun z => n2 (by omega))).trans (i1 a k n1 n2), fun _ _ => ⟨(p1 74 14 (by decide)).trans e14, fun j hj => by rw [zyI_eq (p1 80 j (by decide))]; exact sv j hj, q1⟩, fun h => absurd (show 5 = 1 from h) (by decide), fun _ _ => ⟨a4, t64⟩, fun h => absurd (show 5 = 2 ∨ 5 = 3 from h) (by decide), fun _ _ => q28, fun _ _ => t63, fun _ => fun b hb => by rw [p2 m hm hms b hb]; exact tv b hb, fun h => absurd (show 5 = 2 from h) (by decide), fun h => absurd (show 5 = 3 from h) (by decide), fun h => absurd (show 5 = 4 from h) (by decide)⟩, ?_⟩
      show 1000 + 10 * (65 - zyN1 (ρ2 4)) + (11 - 5) < 1000 + 10 * (65 - zyN1 (ρ 4)) + (11 - 4)
      rw [hg 4 (by decide)]
      omega
    · have hx : x ∈ [zxwy_fx0] := hx
      have hg : ∀ k, k < 5 → ρ2 k = ρ k := hag
      have hI := hInv
      have hI : ∃ m q t : Nat, m ≤ 8 ∧ (zyEl (zymr r c) B s.heap) 75 2 = some (.int (Int32.ofNat m)) ∧ zJ1 (zyEl (zymr r c) B s.heap) ∧ zyIwy (zgNS r c) 5 m q t (zyEl (zymr r c) B s.heap) ρ (zyEl (zymr r c) B H) := hI
      obtain ⟨hF, hB, hM⟩ := hXs
      have hEE : (zyEl (zymr r c) B H2) = (zyEl (zymr r c) B H) := zyfr0 hfr
      have ex := List.mem_singleton.mp hx
      subst ex
      obtain ⟨m, q, t, hm, s1, hJ, i1, i2, i3, i4, i5, i6, i7, i8, i9, i10, i11⟩ := hI
      have T1 : zyTy (zymr r c) (zyEl (zymr r c) B H) := hT
      have n80 : zgNS r c ≤ 80 := zgNS_le h2 h4
      have hms : zyEl (zymr r c) B H 75 2 = some (.int (Int32.ofNat m)) := (zyFwhy_75 i1 2).trans s1
      obtain ⟨e14, sv, q1⟩ := i2 (by decide) (by decide)
      obtain ⟨b4, t64⟩ := i4 (by decide) (by decide)
      have a4 : ρ2 4 = Int32.ofNat t := (hg 4 (by decide)).trans b4
      have a4' : ρ2 4 + Int32.ofNat 1 = Int32.ofNat (t + 1) := by rw [a4, zyOa]
      have q28 := i6 (by decide) (by decide)
      have t63 := i7 (by decide) (by decide)
      have sl := i8 (Or.inr rfl)
      have f3 : 2147483648 ≤ zB (ρ2 3) ∧ zB (ρ2 3) ≤ 2147483648 := zyXb hB 1 rfl
      have f3 : ρ2 3 = Int32.ofNat 0 := by
        obtain ⟨o1, o2⟩ := zyOn f3.1
        rw [o1, show zyN1 (ρ2 3) = 0 by omega]
      refine zyGoB hIH hAt hB ⟨2, by decide⟩ [595, 34359738369, 0, 103079215105, 137438953481] rfl rfl rfl rfl ⟨m, q, (t + 1), hm, s1, hJ, by rw [hEE]; exact i1, fun _ _ => by rw [hEE]; exact ⟨e14, sv, q1⟩, fun h => absurd (show 2 = 1 from h) (by decide), fun _ _ => ⟨a4', by omega⟩, fun _ => by omega, fun h => absurd (show 4 ≤ 2 from h) (by decide), fun h => absurd (show 3 ≤ 2 from h) (by decide), fun h => absurd (show 2 = 1 ∨ 2 = 5 from h) (by decide), fun _ => fun _ => by rw [hEE]; exact sl, fun h => absurd (show 2 = 3 from h) (by decide), fun h => absurd (show 2 = 4 from h) (by decide)⟩ ?_
      show (if ρ2 3 = Int32.ofNat 0 then 1000 + 10 * (65 - zyN1 (ρ2 4 + Int32.ofNat 1)) + 9 else 900) < 1000 + 10 * (65 - zyN1 (ρ 4)) + (11 - 5)
      rw [if_pos f3, a4', b4, zyN1_of (by omega), zyN1_of (by omega)]
      omega
    · have hx : x ∈ [zxwy_gx0, zxwy_gx1, zxwy_gx2] := hx
      have hg : ∀ k, k < 5 → ρ2 k = ρ k := hag
      have hI := hInv
      have hI : ∃ m q t : Nat, m ≤ 8 ∧ (zyEl (zymr r c) B s.heap) 75 2 = some (.int (Int32.ofNat m)) ∧ zJ1 (zyEl (zymr r c) B s.heap) ∧ zyIwy (zgNS r c) 6 m q t (zyEl (zymr r c) B s.heap) ρ (zyEl (zymr r c) B H) := hI
      obtain ⟨hF, hB, hM⟩ := hXs
      have hfr : ∀ a k, zyin [(74, 27, 27)] a k = false → (zyEl (zymr r c) B H2) a k = (zyEl (zymr r c) B H) a k := hfr
      rcases List.mem_cons.mp hx with ex | hx
      · subst ex
        obtain ⟨m, q, t, hm, s1, hJ, i1, i2, i3, i4, i5, i6, i7, i8, i9, i10, i11⟩ := hI
        have T1 : zyTy (zymr r c) (zyEl (zymr r c) B H) := hT
        have n80 : zgNS r c ≤ 80 := zgNS_le h2 h4
        have hms : zyEl (zymr r c) B H 75 2 = some (.int (Int32.ofNat m)) := (zyFwhy_75 i1 2).trans s1
        obtain ⟨e14, sv, q1⟩ := i2 (by decide) (by decide)
        have hk : ∀ a k, ¬ (a = 74 ∧ k = 27) → zyEl (zymr r c) B H2 a k = zyEl (zymr r c) B H a k := by
          intro a k n
          apply hfr
          cases hq : zyin [(74, 27, 27)] a k with
          | false => rfl
          | true =>
            obtain ⟨p0, g1, g2, g3, g4⟩ := zyin_iff.mp hq
            rw [List.mem_singleton.mp g1] at g2 g3 g4
            dsimp only at g2 g3 g4
            exact absurd ⟨g2.symm, by omega⟩ n
        have bb : 2147483648 ≤ zB (ρ2 4) ∧ zB (ρ2 4) ≤ 2147483655 := zyXb hB 0 rfl
        obtain ⟨g1, g2, -⟩ := zyStep (b := 7) bb (by decide)
        refine zyGoB hIH hAt hB ⟨6, by decide⟩ [595, 0, 0, 0, 137438953481] rfl rfl rfl rfl ⟨m, q, t, hm, s1, hJ, fun a k n1 n2 => (hk a k (fun z => n1 ⟨z.1, by omega⟩)).trans (i1 a k n1 n2), fun _ _ => ⟨(hk 74 14 (fun z => absurd z.2 (by decide))).trans e14, fun j hj => by rw [zyI_eq (hk 80 j (fun z => absurd z.1 (by decide)))]; exact sv j hj, q1⟩, fun h => absurd (show 6 = 1 from h) (by decide), fun _ h => absurd (show 6 ≤ 5 from h) (by decide), fun h => absurd (show 6 = 2 ∨ 6 = 3 from h) (by decide), fun _ h => absurd (show 6 ≤ 5 from h) (by decide), fun _ h => absurd (show 6 ≤ 5 from h) (by decide), fun h => absurd (show 6 = 1 ∨ 6 = 5 from h) (by decide), fun h => absurd (show 6 = 2 from h) (by decide), fun h => absurd (show 6 = 3 from h) (by decide), fun h => absurd (show 6 = 4 from h) (by decide)⟩ ?_
        show 100 + (9 - zyN1 (ρ2 4 + Int32.ofNat 1)) < 100 + (9 - zyN1 (ρ 4))
        rw [g1, ← hg 4 (by decide)]
        omega
      · skip
        rcases List.mem_cons.mp hx with ex | hx
        · subst ex
          obtain ⟨m, q, t, hm, s1, hJ, i1, i2, i3, i4, i5, i6, i7, i8, i9, i10, i11⟩ := hI
          have T1 : zyTy (zymr r c) (zyEl (zymr r c) B H) := hT
          have n80 : zgNS r c ≤ 80 := zgNS_le h2 h4
          have hms : zyEl (zymr r c) B H 75 2 = some (.int (Int32.ofNat m)) := (zyFwhy_75 i1 2).trans s1
          obtain ⟨e14, sv, q1⟩ := i2 (by decide) (by decide)
          have hk : ∀ a k, ¬ (a = 74 ∧ k = 27) → zyEl (zymr r c) B H2 a k = zyEl (zymr r c) B H a k := by
            intro a k n
            apply hfr
            cases hq : zyin [(74, 27, 27)] a k with
            | false => rfl
            | true =>
              obtain ⟨p0, g1, g2, g3, g4⟩ := zyin_iff.mp hq
              rw [List.mem_singleton.mp g1] at g2 g3 g4
              dsimp only at g2 g3 g4
              exact absurd ⟨g2.symm, by omega⟩ n
          have bb : 2147483648 ≤ zB (ρ2 4) ∧ zB (ρ2 4) ≤ 2147483655 := zyXb hB 0 rfl
          obtain ⟨g1, g2, -⟩ := zyStep (b := 7) bb (by decide)
          refine zyGoB hIH hAt hB ⟨6, by decide⟩ [595, 0, 0, 0, 137438953481] rfl rfl rfl rfl ⟨m, q, t, hm, s1, hJ, fun a k n1 n2 => (hk a k (fun z => n1 ⟨z.1, by omega⟩)).trans (i1 a k n1 n2), fun _ _ => ⟨(hk 74 14 (fun z => absurd z.2 (by decide))).trans e14, fun j hj => by rw [zyI_eq (hk 80 j (fun z => absurd z.1 (by decide)))]; exact sv j hj, q1⟩, fun h => absurd (show 6 = 1 from h) (by decide), fun _ h => absurd (show 6 ≤ 5 from h) (by decide), fun h => absurd (show 6 = 2 ∨ 6 = 3 from h) (by decide), fun _ h => absurd (show 6 ≤ 5 from h) (by decide), fun _ h => absurd (show 6 ≤ 5 from h) (by decide), fun h => absurd (show 6 = 1 ∨ 6 = 5 from h) (by decide), fun h => absurd (show 6 = 2 from h) (by decide), fun h => absurd (show 6 = 3 from h) (by decide), fun h => absurd (show 6 = 4 from h) (by decide)⟩ ?_
          show 100 + (9 - zyN1 (ρ2 4 + Int32.ofNat 1)) < 100 + (9 - zyN1 (ρ 4))
          rw [g1, ← hg 4 (by decide)]
          omega
        · skip
          have ex := List.mem_singleton.mp hx
          subst ex
          obtain ⟨m, q, t, hm, s1, hJ, i1, i2, i3, i4, i5, i6, i7, i8, i9, i10, i11⟩ := hI
          have T1 : zyTy (zymr r c) (zyEl (zymr r c) B H) := hT
          have n80 : zgNS r c ≤ 80 := zgNS_le h2 h4
          have hms : zyEl (zymr r c) B H 75 2 = some (.int (Int32.ofNat m)) := (zyFwhy_75 i1 2).trans s1
          obtain ⟨e14, sv, q1⟩ := i2 (by decide) (by decide)
          have hk : ∀ a k, ¬ (a = 74 ∧ k = 27) → zyEl (zymr r c) B H2 a k = zyEl (zymr r c) B H a k := by
            intro a k n
            apply hfr
            cases hq : zyin [(74, 27, 27)] a k with
            | false => rfl
            | true =>
              obtain ⟨p0, g1, g2, g3, g4⟩ := zyin_iff.mp hq
              rw [List.mem_singleton.mp g1] at g2 g3 g4
              dsimp only at g2 g3 g4
              exact absurd ⟨g2.symm, by omega⟩ n
          obtain ⟨n4, w4, w5, w6⟩ := zyXe hF 2 rfl
          have w4 : Int32.ofNat 14 = Int32.ofNat n4 := w4
          have w6 : zyEl (zymr r c) B H 74 n4 = some (.int (ρ2 6)) := w6
          have e6 : ρ2 6 = Int32.ofNat q := zyEk w4 (by decide) w5 w6 e14
          have f3 := zyX21 hF 3 rfl
          have f3 : ¬ Int32.ofNat 300 < ρ2 6 := f3
          rw [e6, zyOl (by omega) (by omega)] at f3
          obtain ⟨j1, j2, j3⟩ := hJ m hm s1
          have k75 : ∀ k, zyEl (zymr r c) B H2 75 k = zyEl (zymr r c) B s.heap 75 k := fun k => (hk 75 k (fun z => absurd z.1 (by decide))).trans (zyFwhy_75 i1 k)
          refine zyCa1 hRu hIH hAt hB hsw (ix := 367) (ax := 4736) rfl rfl rfl hmesw ⟨rfl, rfl, rfl, rfl⟩ (by decide) [] rfl (by decide) rfl ⟨7, by decide⟩ [595, 0, 0, 0, 0] [(0, 4294967295), (0, 4294967295), (0, 4294967295), (0, 4294967295), (0, 4294967295)] 2147483648 2147483649 rfl (by decide) rfl rfl rfl rfl rfl ?_ ?_
          · show zyΦsw [] _
            refine ⟨⟨m, hm, (k75 2).trans s1, zLv_75 k75 j1, zWv_75 k75 j2⟩, q, by omega, (hk 74 14 (fun z => absurd z.2 (by decide))).trans e14, fun m' hm' hms' j hj => ?_⟩
            rw [k75 2, s1] at hms'
            rw [← zyOi (by omega) (by omega) (Value.int.inj (Option.some.inj hms')), zyI_eq (hk 80 j (fun z => absurd z.1 (by decide)))]
            exact sv j (by omega)
          · intro E3 vo hT3 hΨ
            obtain ⟨p1, z, ez, hz⟩ := (show zyΨbr [] _ E3 vo from hΨ)
            refine ⟨z, ez, ?_, ?_, ⟨m, q, t, hm, s1, hJ, fun a k n1 n2 => (p1 a k (fun z => n2 (by omega)) (fun z => n2 (by omega)) (fun z => n1 ⟨z.1, by omega⟩)).trans ((hk a k (fun z => n1 ⟨z.1, by omega⟩)).trans (i1 a k n1 n2)), fun _ h => absurd (show 7 ≤ 6 from h) (by decide), fun h => absurd (show 7 = 1 from h) (by decide), fun _ h => absurd (show 7 ≤ 5 from h) (by decide), fun h => absurd (show 7 = 2 ∨ 7 = 3 from h) (by decide), fun _ h => absurd (show 7 ≤ 5 from h) (by decide), fun _ h => absurd (show 7 ≤ 5 from h) (by decide), fun h => absurd (show 7 = 1 ∨ 7 = 5 from h) (by decide), fun h => absurd (show 7 = 2 from h) (by decide), fun h => absurd (show 7 = 3 from h) (by decide), fun h => absurd (show 7 = 4 from h) (by decide)⟩, ?_⟩
            · rcases hz with rfl | rfl <;> decide
            · rcases hz with rfl | rfl <;> decide
            · show 0 < 100 + (9 - zyN1 (ρ 4))
              omega
    · cases hx
  · intro as E0 E E2 hT0 hΦ hlen i ρ hT hInv x hx ρ2 N2 B vo hXs hag hfr hT2 hvo
    rcases i with ⟨i, hi⟩
    have hi2 : i = 0 ∨ i = 1 ∨ i = 2 ∨ i = 3 ∨ i = 4 ∨ i = 5 ∨ i = 6 ∨ i = 7 := by omega
    rcases hi2 with rfl | rfl | rfl | rfl | rfl | rfl | rfl | rfl
    · cases hx
    · cases hx
    · have hx : x ∈ [zxwy_cr0, zxwy_cr1] := hx
      have hg : ∀ k, k < 5 → ρ2 k = ρ k := hag
      have hI := hInv
      have hI : ∃ m q t : Nat, m ≤ 8 ∧ E0 75 2 = some (.int (Int32.ofNat m)) ∧ zJ1 E0 ∧ zyIwy (zgNS r c) 2 m q t E0 ρ E := hI
      obtain ⟨hF, hB, hM⟩ := hXs
      have hfr : ∀ a k, zyin [(74, 8, 8)] a k = false → E2 a k = E a k := hfr
      rcases List.mem_cons.mp hx with ex | hx
      · subst ex
        obtain ⟨m, q, t, hm, s1, hJ, i1, -⟩ := hI
        have hk : ∀ a k, ¬ (a = 74 ∧ k = 8) → E2 a k = E a k := by
          intro a k n
          apply hfr
          cases hq : zyin [(74, 8, 8)] a k with
          | false => rfl
          | true =>
            obtain ⟨p0, g1, g2, g3, g4⟩ := zyin_iff.mp hq
            rw [List.mem_singleton.mp g1] at g2 g3 g4
            dsimp only at g2 g3 g4
            exact absurd ⟨g2.symm, by omega⟩ n
        exact ⟨fun a k n1 n2 => (hk a k (fun z => n1 ⟨z.1, by omega⟩)).trans (i1 a k n1 n2), _, zyvo_1 (c := 103079215105) (by decide) (show zyvo (zyXn B ρ2 N2) [103079215105] vo from hvo), (by have q : 2147483649 ≤ zB (ρ2 3) ∧ zB (ρ2 3) ≤ 2147483649 := zyXb hB 1 rfl; show 2147483648 ≤ zB (ρ2 3); omega), (by have q : 2147483649 ≤ zB (ρ2 3) ∧ zB (ρ2 3) ≤ 2147483649 := zyXb hB 1 rfl; show zB (ρ2 3) ≤ 2147483652; omega)⟩
      · skip
        have ex := List.mem_singleton.mp hx
        subst ex
        obtain ⟨m, q, t, hm, s1, hJ, i1, -⟩ := hI
        have hk : ∀ a k, ¬ (a = 74 ∧ k = 8) → E2 a k = E a k := by
          intro a k n
          apply hfr
          cases hq : zyin [(74, 8, 8)] a k with
          | false => rfl
          | true =>
            obtain ⟨p0, g1, g2, g3, g4⟩ := zyin_iff.mp hq
            rw [List.mem_singleton.mp g1] at g2 g3 g4
            dsimp only at g2 g3 g4
            exact absurd ⟨g2.symm, by omega⟩ n
        exact ⟨fun a k n1 n2 => (hk a k (fun z => n1 ⟨z.1, by omega⟩)).trans (i1 a k n1 n2), _, zyvo_1 (c := 103079215105) (by decide) (show zyvo (zyXn B ρ2 N2) [103079215105] vo from hvo), (by have q : 2147483649 ≤ zB (ρ2 3) ∧ zB (ρ2 3) ≤ 2147483649 := zyXb hB 1 rfl; show 2147483648 ≤ zB (ρ2 3); omega), (by have q : 2147483649 ≤ zB (ρ2 3) ∧ zB (ρ2 3) ≤ 2147483649 := zyXb hB 1 rfl; show zB (ρ2 3) ≤ 2147483652; omega)⟩
    · cases hx
    · cases hx
    · cases hx
    · have hx : x ∈ [zxwy_gr0, zxwy_gr1, zxwy_gr2] := hx
      have hg : ∀ k, k < 5 → ρ2 k = ρ k := hag
      have hI := hInv
      have hI : ∃ m q t : Nat, m ≤ 8 ∧ E0 75 2 = some (.int (Int32.ofNat m)) ∧ zJ1 E0 ∧ zyIwy (zgNS r c) 6 m q t E0 ρ E := hI
      obtain ⟨hF, hB, hM⟩ := hXs
      have hfr : ∀ a k, zyin [(74, 27, 27)] a k = false → E2 a k = E a k := hfr
      rcases List.mem_cons.mp hx with ex | hx
      · subst ex
        obtain ⟨m, q, t, hm, s1, hJ, i1, -⟩ := hI
        have hk : ∀ a k, ¬ (a = 74 ∧ k = 27) → E2 a k = E a k := by
          intro a k n
          apply hfr
          cases hq : zyin [(74, 27, 27)] a k with
          | false => rfl
          | true =>
            obtain ⟨p0, g1, g2, g3, g4⟩ := zyin_iff.mp hq
            rw [List.mem_singleton.mp g1] at g2 g3 g4
            dsimp only at g2 g3 g4
            exact absurd ⟨g2.symm, by omega⟩ n
        exact ⟨fun a k n1 n2 => (hk a k (fun z => n1 ⟨z.1, by omega⟩)).trans (i1 a k n1 n2), _, zyvo_1 (c := 16) (by decide) (show zyvo (zyXn B ρ2 N2) [16] vo from hvo), (show 2147483648 ≤ zB (Int32.ofNat 2) by decide), (show zB (Int32.ofNat 2) ≤ 2147483652 by decide)⟩
      · skip
        rcases List.mem_cons.mp hx with ex | hx
        · subst ex
          obtain ⟨m, q, t, hm, s1, hJ, i1, -⟩ := hI
          have hk : ∀ a k, ¬ (a = 74 ∧ k = 27) → E2 a k = E a k := by
            intro a k n
            apply hfr
            cases hq : zyin [(74, 27, 27)] a k with
            | false => rfl
            | true =>
              obtain ⟨p0, g1, g2, g3, g4⟩ := zyin_iff.mp hq
              rw [List.mem_singleton.mp g1] at g2 g3 g4
              dsimp only at g2 g3 g4
              exact absurd ⟨g2.symm, by omega⟩ n
          exact ⟨fun a k n1 n2 => (hk a k (fun z => n1 ⟨z.1, by omega⟩)).trans (i1 a k n1 n2), _, zyvo_1 (c := 24) (by decide) (show zyvo (zyXn B ρ2 N2) [24] vo from hvo), (show 2147483648 ≤ zB (Int32.ofNat 3) by decide), (show zB (Int32.ofNat 3) ≤ 2147483652 by decide)⟩
        · skip
          have ex := List.mem_singleton.mp hx
          subst ex
          obtain ⟨m, q, t, hm, s1, hJ, i1, -⟩ := hI
          have hk : ∀ a k, ¬ (a = 74 ∧ k = 27) → E2 a k = E a k := by
            intro a k n
            apply hfr
            cases hq : zyin [(74, 27, 27)] a k with
            | false => rfl
            | true =>
              obtain ⟨p0, g1, g2, g3, g4⟩ := zyin_iff.mp hq
              rw [List.mem_singleton.mp g1] at g2 g3 g4
              dsimp only at g2 g3 g4
              exact absurd ⟨g2.symm, by omega⟩ n
          exact ⟨fun a k n1 n2 => (hk a k (fun z => n1 ⟨z.1, by omega⟩)).trans (i1 a k n1 n2), _, zyvo_1 (c := 0) (by decide) (show zyvo (zyXn B ρ2 N2) [0] vo from hvo), (show 2147483648 ≤ zB (Int32.ofNat 0) by decide), (show zB (Int32.ofNat 0) ≤ 2147483652 by decide)⟩
    · have hx : x ∈ [zxwy_hr0, zxwy_hr1] := hx
      have hg : ∀ k, k < 6 → ρ2 k = ρ k := hag
      have hI := hInv
      have hI : ∃ m q t : Nat, m ≤ 8 ∧ E0 75 2 = some (.int (Int32.ofNat m)) ∧ zJ1 E0 ∧ zyIwy (zgNS r c) 7 m q t E0 ρ E := hI
      obtain ⟨hF, hB, hM⟩ := hXs
      have hEE : E2 = E := zyfr0 hfr
      rcases List.mem_cons.mp hx with ex | hx
      · subst ex
        obtain ⟨m, q, t, hm, s1, hJ, i1, -⟩ := hI
        have hk : ∀ a k, ¬ (a = 0 ∧ a = 1) → E2 a k = E a k := fun a k _ => by rw [hEE]
        exact ⟨fun a k n1 n2 => (hk a k (fun z => by omega)).trans (i1 a k n1 n2), _, zyvo_1 (c := 0) (by decide) (show zyvo (zyXn B ρ2 N2) [0] vo from hvo), (show 2147483648 ≤ zB (Int32.ofNat 0) by decide), (show zB (Int32.ofNat 0) ≤ 2147483652 by decide)⟩
      · skip
        have ex := List.mem_singleton.mp hx
        subst ex
        obtain ⟨m, q, t, hm, s1, hJ, i1, -⟩ := hI
        have hk : ∀ a k, ¬ (a = 0 ∧ a = 1) → E2 a k = E a k := fun a k _ => by rw [hEE]
        exact ⟨fun a k n1 n2 => (hk a k (fun z => by omega)).trans (i1 a k n1 n2), _, zyvo_1 (c := 32) (by decide) (show zyvo (zyXn B ρ2 N2) [32] vo from hvo), (show 2147483648 ≤ zB (Int32.ofNat 4) by decide), (show zB (Int32.ofNat 4) ≤ 2147483652 by decide)⟩
