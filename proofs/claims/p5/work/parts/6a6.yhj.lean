/-! STEPS ARE DONE -/
noncomputable def zyrok (A B code : Nat) : Bool := zand (Nat.beq (Nat.mod code 8) 2) (zand (Nat.ble (Nat.div code 34359738368) A) (Nat.ble B (Nat.mod (Nat.div code 8) 4294967296)))
theorem zcr_let : zyAllP (fun r c => zand (zyall (zyrok 2147483641 2147483655) 160 459 (zymr75 r c).2.2) (zand (zyall (zyrok 2147483648 (Nat.add 2147483647 (zgNS r c))) 144 151 (zymr75 r c).2.2) (zyall (zyrok 2147483648 2147483948) 4 4 (zymr75 r c).2.2))) = true := by decide +kernel
theorem zyrok_iff {A B code : Nat} {x : Int32} (h : zyrok A B code = true) (h1 : A ≤ zB x) (h2 : zB x ≤ B) : code % 8 = 2 ∧ code / 34359738368 ≤ zB x ∧ zB x ≤ code / 8 % 4294967296 := by
  obtain ⟨q1, q2⟩ := zand_iff h
  obtain ⟨q2, q3⟩ := zand_iff q2
  have q1 : code % 8 = 2 := zbeqT q1
  have q2 : code / 34359738368 ≤ A := zbleT q2
  have q3 : B ≤ code / 8 % 4294967296 := zbleT q3
  exact ⟨q1, by omega, by omega⟩
def zyFst (E E2 : zyEm) : Prop := ∀ a k, ¬ (a = 74 ∧ ((2 ≤ k ∧ k ≤ 3) ∨ (14 ≤ k ∧ k ≤ 17))) → ¬ (a = 75 ∧ ((3 ≤ k ∧ k ≤ 4) ∨ (144 ≤ k ∧ k ≤ 151) ∨ (160 ≤ k ∧ k ≤ 459))) → ¬ (77 ≤ a ∧ a ≤ 80) → E2 a k = E a k
def zT0 (E : zyEm) : Prop := ¬ Int32.ofNat 0 < zyI E 75 3 → zyI E 75 4 = Int32.ofNat 0
def zJ1 (E : zyEm) : Prop := ∀ m : Nat, m ≤ 8 → E 75 2 = some (.int (Int32.ofNat m)) → zLv E m ∧ zWv E ∧ zT0 E
theorem zLv_fr {E E2 : zyEm} {m : Nat} (h4 : E2 75 4 = E 75 4) (h : ∀ k, k < 300 → Int32.ofNat k < zyI E 75 4 → E2 75 (160 + k) = E 75 (160 + k)) (hv : zLv E m) : zLv E2 m := fun k hk h2 => by
  rw [zyI_eq h4] at h2
  rw [zyI_eq (h k hk h2)]
  exact hv k hk h2
theorem zWv_fr {E E2 : zyEm} (h5 : E2 75 5 = E 75 5) (h : ∀ k, k < 60 → E2 75 (460 + k) = E 75 (460 + k)) (hv : zWv E) : zWv E2 := fun k hk h2 => by
  rw [zyI_eq h5] at h2
  rw [zyI_eq (h k hk)]
  exact hv k hk h2
theorem zT0_fr {E E2 : zyEm} (h3 : E2 75 3 = E 75 3) (h4 : E2 75 4 = E 75 4) (h : zT0 E) : zT0 E2 := by
  unfold zT0 at *
  rw [zyI_eq h3, zyI_eq h4]
  exact h
def zyΦst (_ : List Int32) (E : zyEm) : Prop := zJ1 E ∧ ∃ T : Nat, T + 100 ≤ 1073741824 ∧ E 75 3 = some (.int (Int32.ofNat T))
def zyΨst (_ : List Int32) (E E2 : zyEm) (vo : Option Value) : Prop := zJ1 E2 ∧ zyFst E E2 ∧ (∃ z : Int32, vo = some (.int z)) ∧ ∀ T : Nat, T + 100 ≤ 1073741824 → E 75 3 = some (.int (Int32.ofNat T)) → ∃ T', T ≤ T' ∧ T' ≤ T + 100 ∧ E2 75 3 = some (.int (Int32.ofNat T'))
/-- elements of c that stay: how many bobbins, letters, the word, what is wished, steps -/
def zyIst (K i m T T' L q k d : Nat) (E0 : zyEm) (ρ : Nat → Int32) (E : zyEm) : Prop := zyFst E0 E ∧ E 75 3 = some (.int (Int32.ofNat T')) ∧ T ≤ T' ∧ T' ≤ T + d ∧ zLv E m ∧ zWv E ∧ (i ≤ 7 → zT0 E) ∧ E 75 4 = some (.int (Int32.ofNat L)) ∧ (1 ≤ i → ρ 2 = Int32.ofNat d) ∧ (i = 2 → ∀ b, b < m → zsl E b < K) ∧ (i = 3 → E 74 14 = some (.int (Int32.ofNat 0)) ∧ (ρ 5 = 1 → ∀ b, b < m → zth E b < K)) ∧ (4 ≤ i → ∀ b, b < m → zth E b < K) ∧ (4 ≤ i → i ≤ 7 → E 74 14 = some (.int (Int32.ofNat q)) ∧ q ≤ 28 ∧ zSv E m (min q 300)) ∧ (5 ≤ i → i ≤ 7 → L + q ≤ 300) ∧
  (i = 5 ∨ i = 6 → ρ 4 = Int32.ofNat k ∧ k ≤ q) ∧ (i = 6 → k < q) ∧ (i = 5 → ∀ j, j < k → zVl m (zyI E 75 (160 + (L + j)))) ∧ (i = 6 → ∀ j, j ≤ k → zVl m (zyI E 75 (160 + (L + j)))) ∧ (i = 7 → ∀ j, j < q → zVl m (zyI E 75 (160 + (L + j)))) ∧ (i = 9 ∨ i = 10 → ρ 4 = Int32.ofNat k ∧ k ≤ 8) ∧ (i = 10 → k < 8) ∧ (i = 11 → ρ 5 = Int32.ofNat T')
theorem zc_L {r c : Nat} {E : zyEm} (hT : zyTy (zymr r c) E) : ∃ L, L ≤ 300 ∧ E 75 4 = some (.int (Int32.ofNat L)) := by
  obtain ⟨x, e, b1, b2⟩ := (hT 75 (zymr75 r c) 4 rfl (by rw [zyL75]; omega) (4, 4, 73786976312018078050) (List.mem_of_getElem? (i := 4) rfl) (Nat.le_refl _) (Nat.le_refl _)).1 rfl
  have b1 : 2147483648 ≤ zB x := b1
  have b2 : zB x ≤ 2147483948 := b2
  obtain ⟨o1, o2⟩ := zyOn b1
  exact ⟨zyN1 x, by omega, by rw [← o1]; exact e⟩
theorem zc_m {r c : Nat} {E : zyEm} (hT : zyTy (zymr r c) E) : ∃ m, m ≤ 8 ∧ E 75 2 = some (.int (Int32.ofNat m)) := by
  obtain ⟨x, e, b1, b2⟩ := (hT 75 (zymr75 r c) 2 rfl (by rw [zyL75]; omega) (2, 2, 73786976312018075714) (List.mem_of_getElem? (i := 2) rfl) (Nat.le_refl _) (Nat.le_refl _)).1 rfl
  have b1 : 2147483648 ≤ zB x := b1
  have b2 : zB x ≤ 2147483656 := b2
  obtain ⟨o1, o2⟩ := zyOn b1
  exact ⟨zyN1 x, by omega, by rw [← o1]; exact e⟩
theorem zystp_run : zyAllP (fun r c => zyrS (zymr r c) zxi279 (279, 0, 0, 1, 0) 8 zpstp (fun _ _ => []) zFstp zSstp zXstp zRstp 12) = true := by decide +kernel
theorem zystep_H {l : Launch} {r c : Nat} (h1 : 1 ≤ r) (h2 : r ≤ 4) (h3 : 1 ≤ c) (h4 : c ≤ 5) {en : zEn} {me : zMe} (hen : zG zxMeta 279 = some en) (hme : zG zMeth 279 = some me) : zyHc l (zymr r c) en me 8 1 zyΦst zyΨst := by
  have een : zG zxMeta 279 = some (zxi279, 2, 5, 11, 279, 0, 0, 1, 0) := rfl
  obtain ⟨me1, hme1, hOK⟩ := zall hen
  rw [hme] at hme1
  cases hme1
  rw [een] at hen
  cases hen
  have hr := zyAllP_iff zystp_run h1 h2 h3 h4
  obtain ⟨mesn, hmesn, -⟩ := zall (show zG zxMeta 278 = some (zxi278, 1, 2, 11, 278, 0, 0, 0, 0) from rfl)
  have hsn := zystandsNow (l := l) h1 h2 h3 h4 (show zG zxMeta 278 = some (zxi278, 1, 2, 11, 278, 0, 0, 0, 0) from rfl) hmesn
  obtain ⟨metr, hmetr, -⟩ := zall (show zG zxMeta 219 = some (zxi219, 2, 3, 11, 219, 0, 0, 2, 0) from rfl)
  have htr := zytries (l := l) h1 h2 h3 h4 (show zG zxMeta 219 = some (zxi219, 2, 3, 11, 219, 0, 0, 2, 0) from rfl) hmetr
  obtain ⟨mess, hmess, -⟩ := zall (show zG zxMeta 223 = some (zxi223, 1, 4, 11, 223, 0, 0, 0, 0) from rfl)
  have hss := zyspellsStep (l := l) h1 h2 h3 h4 (show zG zxMeta 223 = some (zxi223, 1, 4, 11, 223, 0, 0, 0, 0) from rfl) hmess
  refine zycutS (mi := zymr r c) hOK rfl rfl ⟨_, rfl, rfl⟩ (ι := Fin 12) (fun i => zpstp i.val) (fun _ _ => []) (fun i => zFstp i.val) (fun i => zSstp i.val) (fun i => zXstp i.val) (fun i => zRstp i.val) (fun i y2 ct en2 me2 h => by cases h) 200000 (fun i => zyAll_iff hr i.val i.isLt) ⟨0, by decide⟩ ⟨rfl, rfl, rfl, rfl⟩ ⟨by decide, by decide⟩
    (fun i as E0 ρ E => ∃ m T T' L q k d : Nat, m ≤ 8 ∧ E0 75 2 = some (.int (Int32.ofNat m)) ∧ T + 100 ≤ 1073741824 ∧ E0 75 3 = some (.int (Int32.ofNat T)) ∧ L ≤ 300 ∧ d ≤ 100 ∧ (i.val = 0 → T' = T) ∧ zyIst (zgNS r c) i.val m T T' L q k d E0 ρ E) (fun i as E0 ρ E => if i.val = 0 then 1000000 else if i.val = 1 then (if ρ 3 = Int32.ofNat 0 then 1000 * (101 - zyN1 (ρ 2)) + 900 else 1) else 1000 * (101 - zyN1 (ρ 2)) + (if i.val ≤ 4 then 802 - i.val else if i.val ≤ 6 then 600 + 2 * (30 - zyN1 (ρ 4)) + (6 - i.val) else if i.val ≤ 8 then 500 - i.val else if i.val ≤ 10 then 400 + 2 * (9 - zyN1 (ρ 4)) + (10 - i.val) else 300)) ?_ ?_ ?_
  · intro as E hlen hT hΦ
    obtain ⟨hJ, T, t1, t2⟩ := hΦ
    obtain ⟨m, hm, e2⟩ := zc_m hT
    obtain ⟨L, hL, eL⟩ := zc_L hT
    obtain ⟨j1, j2, j3⟩ := hJ m hm e2
    exact ⟨zEnv_c (zyfull _) (zEnv_c (zyfull _) (zEnv_c (zyfull _) (zEnv_c (zyfull _) (zEnv_c (zyfull _) zEnv_nil)))), m, T, T, L, 0, 0, 0, hm, e2, t1, t2, hL, Nat.zero_le _, fun _ => rfl, fun _ _ _ _ _ => rfl, t2, Nat.le_refl _, Nat.le_refl _, j1, j2, fun _ => j3, eL, fun h => absurd (show 1 ≤ 0 from h) (by decide), fun h => absurd (show 0 = 2 from h) (by decide), fun h => absurd (show 0 = 3 from h) (by decide), fun h => absurd (show 4 ≤ 0 from h) (by decide), fun h => absurd (show 4 ≤ 0 from h) (by decide), fun h => absurd (show 5 ≤ 0 from h) (by decide), fun h => absurd (show 0 = 5 ∨ 0 = 6 from h) (by decide), fun h => absurd (show 0 = 6 from h) (by decide), fun h => absurd (show 0 = 5 from h) (by decide), fun h => absurd (show 0 = 6 from h) (by decide), fun h => absurd (show 0 = 7 from h) (by decide), fun h => absurd (show 0 = 9 ∨ 0 = 10 from h) (by decide), fun h => absurd (show 0 = 10 from h) (by decide), fun h => absurd (show 0 = 11 from h) (by decide)⟩
  · intro as B s Wg hRu hT0 hΦ hlen i ρ H hT hInv hIH x hx ρ2 N2 H2 locs lsB stA hAt hXs hag hfr hT2
    rcases i with ⟨i, hi⟩
    have hi2 : i = 0 ∨ i = 1 ∨ i = 2 ∨ i = 3 ∨ i = 4 ∨ i = 5 ∨ i = 6 ∨ i = 7 ∨ i = 8 ∨ i = 9 ∨ i = 10 ∨ i = 11 := by omega
    rcases hi2 with rfl | rfl | rfl | rfl | rfl | rfl | rfl | rfl | rfl | rfl | rfl | rfl
    · have hx : x ∈ [zxstp_ax0] := hx
      have hg : ∀ k, k < 5 → ρ2 k = ρ k := hag
      have hI := hInv
      have hI : ∃ m T T' L q k d : Nat, m ≤ 8 ∧ (zyEl (zymr r c) B s.heap) 75 2 = some (.int (Int32.ofNat m)) ∧ T + 100 ≤ 1073741824 ∧ (zyEl (zymr r c) B s.heap) 75 3 = some (.int (Int32.ofNat T)) ∧ L ≤ 300 ∧ d ≤ 100 ∧ (0 = 0 → T' = T) ∧ zyIst (zgNS r c) 0 m T T' L q k d (zyEl (zymr r c) B s.heap) ρ (zyEl (zymr r c) B H) := hI
      obtain ⟨hF, hB, hM⟩ := hXs
      have hfr : ∀ a k, zyin [(74, 2, 3)] a k = false → (zyEl (zymr r c) B H2) a k = (zyEl (zymr r c) B H) a k := hfr
      have ex := List.mem_singleton.mp hx
      subst ex
      obtain ⟨m, T, T', L, q, k, d, hm, s1, hT1, s2, hL, hd, hz0, i1, i2, i3, i4, i5, i6, i7, eL, i8, i9, i10, i11, i12, i13, i14, i15, i16, i17, i18, i19, i20, i21⟩ := hI
      have T1 : zyTy (zymr r c) (zyEl (zymr r c) B H) := hT
      have n80 : zgNS r c ≤ 80 := zgNS_le h2 h4
      have hms : zyEl (zymr r c) B H 75 2 = some (.int (Int32.ofNat m)) := (i1 75 2 (fun z => absurd z.1 (by decide)) (fun z => absurd z.2 (by decide)) (by decide)).trans s1
      have hk : ∀ a k, ¬ (a = 74 ∧ 2 ≤ k ∧ k ≤ 3) → zyEl (zymr r c) B H2 a k = zyEl (zymr r c) B H a k := by
        intro a k n
        apply hfr
        cases hq : zyin [(74, 2, 3)] a k with
        | false => rfl
        | true =>
          obtain ⟨p0, g1, g2, g3, g4⟩ := zyin_iff.mp hq
          rw [List.mem_singleton.mp g1] at g2 g3 g4
          dsimp only at g2 g3 g4
          exact absurd ⟨g2.symm, by omega, by omega⟩ n
      have k75 : ∀ k, zyEl (zymr r c) B H2 75 k = zyEl (zymr r c) B H 75 k := fun k => hk 75 k (fun z => absurd z.1 (by decide))
      have eL := (k75 4).trans eL
      have tz := hz0 rfl
      refine zyGoB hIH hAt hB ⟨1, by decide⟩ [595, 34359738369, 0, 0, 0] rfl rfl rfl rfl ⟨m, T, T', L, q, k, 0, hm, s1, hT1, s2, hL, Nat.zero_le _, fun h => absurd (show 1 = 0 from h) (by decide), fun a k n1 n2 n3 => (hk a k (fun z => n1 ⟨z.1, Or.inl z.2⟩)).trans (i1 a k n1 n2 n3), (k75 3).trans i2, i3, by omega, zLv_fr (k75 4) (fun k _ _ => k75 _) i5, zWv_fr (k75 5) (fun k _ => k75 _) i6, fun _ => zT0_fr (k75 3) (k75 4) (i7 (by decide)), eL, fun _ => rfl, fun h => absurd (show 1 = 2 from h) (by decide), fun h => absurd (show 1 = 3 from h) (by decide), fun h => absurd (show 4 ≤ 1 from h) (by decide), fun h => absurd (show 4 ≤ 1 from h) (by decide), fun h => absurd (show 5 ≤ 1 from h) (by decide), fun h => absurd (show 1 = 5 ∨ 1 = 6 from h) (by decide), fun h => absurd (show 1 = 6 from h) (by decide), fun h => absurd (show 1 = 5 from h) (by decide), fun h => absurd (show 1 = 6 from h) (by decide), fun h => absurd (show 1 = 7 from h) (by decide), fun h => absurd (show 1 = 9 ∨ 1 = 10 from h) (by decide), fun h => absurd (show 1 = 10 from h) (by decide), fun h => absurd (show 1 = 11 from h) (by decide)⟩ ?_
      show (if Int32.ofNat 0 = Int32.ofNat 0 then 1000 * (101 - zyN1 (Int32.ofNat 0)) + 900 else 1) < 1000000
      rw [if_pos rfl]
      omega
    · have hx : x ∈ [zxstp_bx0] := hx
      have hg : ∀ k, k < 5 → ρ2 k = ρ k := hag
      have hI := hInv
      have hI : ∃ m T T' L q k d : Nat, m ≤ 8 ∧ (zyEl (zymr r c) B s.heap) 75 2 = some (.int (Int32.ofNat m)) ∧ T + 100 ≤ 1073741824 ∧ (zyEl (zymr r c) B s.heap) 75 3 = some (.int (Int32.ofNat T)) ∧ L ≤ 300 ∧ d ≤ 100 ∧ (1 = 0 → T' = T) ∧ zyIst (zgNS r c) 1 m T T' L q k d (zyEl (zymr r c) B s.heap) ρ (zyEl (zymr r c) B H) := hI
      obtain ⟨hF, hB, hM⟩ := hXs
      have hfr : ∀ a k, zyin [(74, 2, 2)] a k = false → (zyEl (zymr r c) B H2) a k = (zyEl (zymr r c) B H) a k := hfr
      have ex := List.mem_singleton.mp hx
      subst ex
      obtain ⟨m, T, T', L, q, k, d, hm, s1, hT1, s2, hL, hd, hz0, i1, i2, i3, i4, i5, i6, i7, eL, i8, i9, i10, i11, i12, i13, i14, i15, i16, i17, i18, i19, i20, i21⟩ := hI
      have T1 : zyTy (zymr r c) (zyEl (zymr r c) B H) := hT
      have n80 : zgNS r c ≤ 80 := zgNS_le h2 h4
      have hms : zyEl (zymr r c) B H 75 2 = some (.int (Int32.ofNat m)) := (i1 75 2 (fun z => absurd z.1 (by decide)) (fun z => absurd z.2 (by decide)) (by decide)).trans s1
      have a2 : ρ2 2 = Int32.ofNat d := (hg 2 (by decide)).trans (i8 (by decide))
      have hk : ∀ a k, ¬ (a = 74 ∧ 2 ≤ k ∧ k ≤ 3) → zyEl (zymr r c) B H2 a k = zyEl (zymr r c) B H a k := by
        intro a k n
        apply hfr
        cases hq : zyin [(74, 2, 2)] a k with
        | false => rfl
        | true =>
          obtain ⟨p0, g1, g2, g3, g4⟩ := zyin_iff.mp hq
          rw [List.mem_singleton.mp g1] at g2 g3 g4
          dsimp only at g2 g3 g4
          exact absurd ⟨g2.symm, by omega, by omega⟩ n
      have f1 := zyX22 hF 1 rfl
      have f1 : ρ2 3 = Int32.ofNat 0 := f1
      refine zyCa0 hRu hIH hAt hB hsn (ix := 326) (ax := 4448) rfl rfl rfl hmesn ⟨rfl, rfl, rfl, rfl⟩ (by decide) [] rfl (by decide) rfl ⟨2, by decide⟩ [595, 34359738369, 68719476737, 103079215105, 0] rfl rfl rfl rfl trivial ?_
      intro E3 vo hT3 hΨ
      obtain ⟨ev, p1, p2⟩ := (show zyΨsn _ [] _ E3 vo from hΨ)
      have hk3 : ∀ a k, ¬ a = 77 → ¬ (a = 74 ∧ 2 ≤ k ∧ k ≤ 3) → E3 a k = zyEl (zymr r c) B H a k := fun a k n1 n2 => (p1 a k n1).trans (hk a k n2)
      have k75 : ∀ k, E3 75 k = zyEl (zymr r c) B H 75 k := fun k => hk3 75 k (by decide) (fun z => absurd z.1 (by decide))
      have eL := (k75 4).trans eL
      refine ⟨ev, ⟨m, T, T', L, q, k, d, hm, s1, hT1, s2, hL, hd, fun h => absurd (show 2 = 0 from h) (by decide), fun a k n1 n2 n3 => (hk3 a k (fun z => n3 (by omega)) (fun z => n1 ⟨z.1, Or.inl z.2⟩)).trans (i1 a k n1 n2 n3), (k75 3).trans i2, i3, i4, zLv_fr (k75 4) (fun k _ _ => k75 _) i5, zWv_fr (k75 5) (fun k _ => k75 _) i6, fun _ => zT0_fr (k75 3) (k75 4) (i7 (by decide)), eL, fun _ => a2, fun _ => p2 m hm ((hk 75 2 (fun z => absurd z.1 (by decide))).trans hms), fun h => absurd (show 2 = 3 from h) (by decide), fun h => absurd (show 4 ≤ 2 from h) (by decide), fun h => absurd (show 4 ≤ 2 from h) (by decide), fun h => absurd (show 5 ≤ 2 from h) (by decide), fun h => absurd (show 2 = 5 ∨ 2 = 6 from h) (by decide), fun h => absurd (show 2 = 6 from h) (by decide), fun h => absurd (show 2 = 5 from h) (by decide), fun h => absurd (show 2 = 6 from h) (by decide), fun h => absurd (show 2 = 7 from h) (by decide), fun h => absurd (show 2 = 9 ∨ 2 = 10 from h) (by decide), fun h => absurd (show 2 = 10 from h) (by decide), fun h => absurd (show 2 = 11 from h) (by decide)⟩, ?_⟩
      show 1000 * (101 - zyN1 (ρ2 2)) + (802 - 2) < (if ρ 3 = Int32.ofNat 0 then 1000 * (101 - zyN1 (ρ 2)) + 900 else 1)
      rw [if_pos ((hg 3 (by decide)).symm.trans f1), hg 2 (by decide)]
      omega
    · have hx : x ∈ [zxstp_cx0] := hx
      have hg : ∀ k, k < 5 → ρ2 k = ρ k := hag
      have hI := hInv
      have hI : ∃ m T T' L q k d : Nat, m ≤ 8 ∧ (zyEl (zymr r c) B s.heap) 75 2 = some (.int (Int32.ofNat m)) ∧ T + 100 ≤ 1073741824 ∧ (zyEl (zymr r c) B s.heap) 75 3 = some (.int (Int32.ofNat T)) ∧ L ≤ 300 ∧ d ≤ 100 ∧ (2 = 0 → T' = T) ∧ zyIst (zgNS r c) 2 m T T' L q k d (zyEl (zymr r c) B s.heap) ρ (zyEl (zymr r c) B H) := hI
      obtain ⟨hF, hB, hM⟩ := hXs
      have hfr : ∀ a k, zyin [(74, 14, 14)] a k = false → (zyEl (zymr r c) B H2) a k = (zyEl (zymr r c) B H) a k := hfr
      have ex := List.mem_singleton.mp hx
      subst ex
      obtain ⟨m, T, T', L, q, k, d, hm, s1, hT1, s2, hL, hd, hz0, i1, i2, i3, i4, i5, i6, i7, eL, i8, i9, i10, i11, i12, i13, i14, i15, i16, i17, i18, i19, i20, i21⟩ := hI
      have T1 : zyTy (zymr r c) (zyEl (zymr r c) B H) := hT
      have n80 : zgNS r c ≤ 80 := zgNS_le h2 h4
      have hms : zyEl (zymr r c) B H 75 2 = some (.int (Int32.ofNat m)) := (i1 75 2 (fun z => absurd z.1 (by decide)) (fun z => absurd z.2 (by decide)) (by decide)).trans s1
      have a2 : ρ2 2 = Int32.ofNat d := (hg 2 (by decide)).trans (i8 (by decide))
      have m1 := zyXm hM 0 rfl
      have m1 : zyEl (zymr r c) B H2 74 14 = some (.int (Int32.ofNat 0)) := m1
      have hk := zyfr1 hfr
      have sl := i9 rfl
      refine zyCa1 hRu hIH hAt hB htr (ix := 329) (ax := 3504) rfl rfl rfl hmetr ⟨rfl, rfl, rfl, rfl⟩ (by decide) [171798691841] rfl (by decide) rfl ⟨3, by decide⟩ [595, 34359738369, 68719476737, 103079215105, 0] [(0, 4294967295), (2147483649, 2147483748), (2147483648, 2147483747), (2147483648, 2147483648), (0, 4294967295)] 2147483648 2147483649 rfl (by decide) rfl rfl rfl rfl rfl ?_ ?_
      · show zyΦtr _ [ρ2 5] _
        exact ⟨m, hm, (hk 75 2 (fun z => absurd z.1 (by decide))).trans hms, fun b hb => by rw [zsl_eq (hk 77 b (fun z => absurd z.1 (by decide)))]; exact sl b hb⟩
      · intro E3 vo hT3 hΨ
        obtain ⟨p1, z, ez, hz, hzz⟩ := (show zyΨtr _ [ρ2 5] _ E3 vo from hΨ)
        have k75 : ∀ k, E3 75 k = zyEl (zymr r c) B H 75 k := fun k => (p1 75 k (by decide) (fun z => absurd z.1 (by decide))).trans (hk 75 k (fun z => absurd z.1 (by decide)))
        have eL := (k75 4).trans eL
        refine ⟨z, ez, ?_, ?_, ⟨m, T, T', L, q, k, d, hm, s1, hT1, s2, hL, hd, fun h => absurd (show 3 = 0 from h) (by decide), fun a k n1 n2 n3 => (p1 a k (fun z => n3 (by omega)) (fun z => n1 ⟨z.1, Or.inr (by omega)⟩)).trans ((hk a k (fun z => n1 ⟨z.1, Or.inr (by omega)⟩)).trans (i1 a k n1 n2 n3)), (k75 3).trans i2, i3, i4, zLv_fr (k75 4) (fun k _ _ => k75 _) i5, zWv_fr (k75 5) (fun k _ => k75 _) i6, fun _ => zT0_fr (k75 3) (k75 4) (i7 (by decide)), eL, fun _ => (zyρi_n (by decide)).trans a2, fun h => absurd (show 3 = 2 from h) (by decide), fun _ => ⟨(p1 74 14 (by decide) (fun z => absurd z.2 (by decide))).trans m1, fun q => hzz (zyρi_e.symm.trans q) m hm ((hk 75 2 (fun z => absurd z.1 (by decide))).trans hms)⟩, fun h => absurd (show 4 ≤ 3 from h) (by decide), fun h => absurd (show 4 ≤ 3 from h) (by decide), fun h => absurd (show 5 ≤ 3 from h) (by decide), fun h => absurd (show 3 = 5 ∨ 3 = 6 from h) (by decide), fun h => absurd (show 3 = 6 from h) (by decide), fun h => absurd (show 3 = 5 from h) (by decide), fun h => absurd (show 3 = 6 from h) (by decide), fun h => absurd (show 3 = 7 from h) (by decide), fun h => absurd (show 3 = 9 ∨ 3 = 10 from h) (by decide), fun h => absurd (show 3 = 10 from h) (by decide), fun h => absurd (show 3 = 11 from h) (by decide)⟩, ?_⟩
        · rcases hz with rfl | rfl <;> decide
        · rcases hz with rfl | rfl <;> decide
        · show 1000 * (101 - zyN1 (ρ2 2)) + (802 - 3) < 1000 * (101 - zyN1 (ρ 2)) + (802 - 2)
          rw [hg 2 (by decide)]
          omega
    · have hx : x ∈ [zxstp_dx0, zxstp_dx1] := hx
      have hg : ∀ k, k < 6 → ρ2 k = ρ k := hag
      have hI := hInv
      have hI : ∃ m T T' L q k d : Nat, m ≤ 8 ∧ (zyEl (zymr r c) B s.heap) 75 2 = some (.int (Int32.ofNat m)) ∧ T + 100 ≤ 1073741824 ∧ (zyEl (zymr r c) B s.heap) 75 3 = some (.int (Int32.ofNat T)) ∧ L ≤ 300 ∧ d ≤ 100 ∧ (3 = 0 → T' = T) ∧ zyIst (zgNS r c) 3 m T T' L q k d (zyEl (zymr r c) B s.heap) ρ (zyEl (zymr r c) B H) := hI
      obtain ⟨hF, hB, hM⟩ := hXs
      have hEE : (zyEl (zymr r c) B H2) = (zyEl (zymr r c) B H) := zyfr0 hfr
      rcases List.mem_cons.mp hx with ex | hx
      · subst ex
        obtain ⟨m, T, T', L, q, k, d, hm, s1, hT1, s2, hL, hd, hz0, i1, i2, i3, i4, i5, i6, i7, eL, i8, i9, i10, i11, i12, i13, i14, i15, i16, i17, i18, i19, i20, i21⟩ := hI
        have T1 : zyTy (zymr r c) (zyEl (zymr r c) B H) := hT
        have n80 : zgNS r c ≤ 80 := zgNS_le h2 h4
        have hms : zyEl (zymr r c) B H 75 2 = some (.int (Int32.ofNat m)) := (i1 75 2 (fun z => absurd z.1 (by decide)) (fun z => absurd z.2 (by decide)) (by decide)).trans s1
        have a2 : ρ2 2 = Int32.ofNat d := (hg 2 (by decide)).trans (i8 (by decide))
        obtain ⟨q0, tz⟩ := i10 rfl
        have f0 := zyX23 hF 0 rfl
        have f0 : ¬ ρ2 5 = Int32.ofNat 0 := f0
        have z5 : 2147483649 ≤ zB (ρ2 5) ∧ zB (ρ2 5) ≤ 2147483649 := zyXb hB 3 rfl
        have z5 : ρ2 5 = 1 := by
          rcases zybool (x := ρ2 5) (by omega) (by omega) with e | e
          · exact absurd e f0
          · exact e
        have tv := tz ((hg 5 (by decide)).symm.trans z5)
        refine zyCa0 hRu hIH hAt hB hss (ix := 332) (ax := 3568) rfl rfl rfl hmess ⟨rfl, rfl, rfl, rfl⟩ (by decide) [] rfl (by decide) rfl ⟨4, by decide⟩ [595, 34359738369, 68719476737, 103079215105, 0] rfl rfl rfl rfl ?_ ?_
        · show zyΦss [] _
          rw [hEE]
          exact ⟨m, 0, hm, by omega, hms, q0, fun j hj => absurd hj (by omega)⟩
        · intro E3 vo hT3 hΨ
          have hΨ : zyΨss [] _ E3 vo := hΨ
          rw [hEE] at hΨ
          obtain ⟨ev, p1, p2⟩ := hΨ
          obtain ⟨q', l1, l2, e14, sv⟩ := p2 m 0 hm (by omega) hms q0
          have k75 : ∀ k, E3 75 k = zyEl (zymr r c) B H 75 k := fun k => p1 75 k (by decide) (by decide) (fun z => absurd z.1 (by decide))
          have eL := (k75 4).trans eL
          refine ⟨ev, ⟨m, T, T', L, q', k, d, hm, s1, hT1, s2, hL, hd, fun h => absurd (show 4 = 0 from h) (by decide), fun a k n1 n2 n3 => (p1 a k (fun z => n3 (by omega)) (fun z => n3 (by omega)) (fun z => n1 ⟨z.1, Or.inr (by omega)⟩)).trans (i1 a k n1 n2 n3), (k75 3).trans i2, i3, i4, zLv_fr (k75 4) (fun k _ _ => k75 _) i5, zWv_fr (k75 5) (fun k _ => k75 _) i6, fun _ => zT0_fr (k75 3) (k75 4) (i7 (by decide)), eL, fun _ => a2, fun h => absurd (show 4 = 2 from h) (by decide), fun h => absurd (show 4 = 3 from h) (by decide), fun _ => fun b hb => by rw [zth_eq (p1 78 b (by decide) (by decide) (fun z => absurd z.1 (by decide)))]; exact tv b hb, fun _ _ => ⟨e14, by omega, sv⟩, fun h => absurd (show 5 ≤ 4 from h) (by decide), fun h => absurd (show 4 = 5 ∨ 4 = 6 from h) (by decide), fun h => absurd (show 4 = 6 from h) (by decide), fun h => absurd (show 4 = 5 from h) (by decide), fun h => absurd (show 4 = 6 from h) (by decide), fun h => absurd (show 4 = 7 from h) (by decide), fun h => absurd (show 4 = 9 ∨ 4 = 10 from h) (by decide), fun h => absurd (show 4 = 10 from h) (by decide), fun h => absurd (show 4 = 11 from h) (by decide)⟩, ?_⟩
          show 1000 * (101 - zyN1 (ρ2 2)) + (802 - 4) < 1000 * (101 - zyN1 (ρ 2)) + (802 - 3)
          rw [hg 2 (by decide)]
          omega
      · skip
        have ex := List.mem_singleton.mp hx
        subst ex
        obtain ⟨m, T, T', L, q, k, d, hm, s1, hT1, s2, hL, hd, hz0, i1, i2, i3, i4, i5, i6, i7, eL, i8, i9, i10, i11, i12, i13, i14, i15, i16, i17, i18, i19, i20, i21⟩ := hI
        have T1 : zyTy (zymr r c) (zyEl (zymr r c) B H) := hT
        have n80 : zgNS r c ≤ 80 := zgNS_le h2 h4
        have hms : zyEl (zymr r c) B H 75 2 = some (.int (Int32.ofNat m)) := (i1 75 2 (fun z => absurd z.1 (by decide)) (fun z => absurd z.2 (by decide)) (by decide)).trans s1
        have a2 : ρ2 2 = Int32.ofNat d := (hg 2 (by decide)).trans (i8 (by decide))
        rw [← hEE] at eL
        refine zyGoB hIH hAt hB ⟨1, by decide⟩ [595, 34359738369, 68719476737, 48, 0] rfl rfl rfl rfl ⟨m, T, T', L, q, k, d, hm, s1, hT1, s2, hL, hd, fun h => absurd (show 1 = 0 from h) (by decide), by rw [hEE]; exact i1, by rw [hEE]; exact i2, i3, i4, by rw [hEE]; exact i5, by rw [hEE]; exact i6, fun _ => by rw [hEE]; exact i7 (by decide), eL, fun _ => a2, fun h => absurd (show 1 = 2 from h) (by decide), fun h => absurd (show 1 = 3 from h) (by decide), fun h => absurd (show 4 ≤ 1 from h) (by decide), fun h => absurd (show 4 ≤ 1 from h) (by decide), fun h => absurd (show 5 ≤ 1 from h) (by decide), fun h => absurd (show 1 = 5 ∨ 1 = 6 from h) (by decide), fun h => absurd (show 1 = 6 from h) (by decide), fun h => absurd (show 1 = 5 from h) (by decide), fun h => absurd (show 1 = 6 from h) (by decide), fun h => absurd (show 1 = 7 from h) (by decide), fun h => absurd (show 1 = 9 ∨ 1 = 10 from h) (by decide), fun h => absurd (show 1 = 10 from h) (by decide), fun h => absurd (show 1 = 11 from h) (by decide)⟩ ?_
        show (if Int32.ofNat 6 = Int32.ofNat 0 then 1000 * (101 - zyN1 (ρ2 2)) + 900 else 1) < 1000 * (101 - zyN1 (ρ 2)) + (802 - 3)
        rw [if_neg (by decide)]
        omega
    · have hx : x ∈ [zxstp_ex0, zxstp_ex1] := hx
      have hg : ∀ k, k < 5 → ρ2 k = ρ k := hag
      have hI := hInv
      have hI : ∃ m T T' L q k d : Nat, m ≤ 8 ∧ (zyEl (zymr r c) B s.heap) 75 2 = some (.int (Int32.ofNat m)) ∧ T + 100 ≤ 1073741824 ∧ (zyEl (zymr r c) B s.heap) 75 3 = some (.int (Int32.ofNat T)) ∧ L ≤ 300 ∧ d ≤ 100 ∧ (4 = 0 → T' = T) ∧ zyIst (zgNS r c) 4 m T T' L q k d (zyEl (zymr r c) B s.heap) ρ (zyEl (zymr r c) B H) := hI
      obtain ⟨hF, hB, hM⟩ := hXs
      have hEE : (zyEl (zymr r c) B H2) = (zyEl (zymr r c) B H) := zyfr0 hfr
      rcases List.mem_cons.mp hx with ex | hx
      · subst ex
        obtain ⟨m, T, T', L, q, k, d, hm, s1, hT1, s2, hL, hd, hz0, i1, i2, i3, i4, i5, i6, i7, eL, i8, i9, i10, i11, i12, i13, i14, i15, i16, i17, i18, i19, i20, i21⟩ := hI
        have T1 : zyTy (zymr r c) (zyEl (zymr r c) B H) := hT
        have n80 : zgNS r c ≤ 80 := zgNS_le h2 h4
        have hms : zyEl (zymr r c) B H 75 2 = some (.int (Int32.ofNat m)) := (i1 75 2 (fun z => absurd z.1 (by decide)) (fun z => absurd z.2 (by decide)) (by decide)).trans s1
        have a2 : ρ2 2 = Int32.ofNat d := (hg 2 (by decide)).trans (i8 (by decide))
        rw [← hEE] at eL
        refine zyGoB hIH hAt hB ⟨1, by decide⟩ [595, 34359738369, 68719476737, 24, 0] rfl rfl rfl rfl ⟨m, T, T', L, q, k, d, hm, s1, hT1, s2, hL, hd, fun h => absurd (show 1 = 0 from h) (by decide), by rw [hEE]; exact i1, by rw [hEE]; exact i2, i3, i4, by rw [hEE]; exact i5, by rw [hEE]; exact i6, fun _ => by rw [hEE]; exact i7 (by decide), eL, fun _ => a2, fun h => absurd (show 1 = 2 from h) (by decide), fun h => absurd (show 1 = 3 from h) (by decide), fun h => absurd (show 4 ≤ 1 from h) (by decide), fun h => absurd (show 4 ≤ 1 from h) (by decide), fun h => absurd (show 5 ≤ 1 from h) (by decide), fun h => absurd (show 1 = 5 ∨ 1 = 6 from h) (by decide), fun h => absurd (show 1 = 6 from h) (by decide), fun h => absurd (show 1 = 5 from h) (by decide), fun h => absurd (show 1 = 6 from h) (by decide), fun h => absurd (show 1 = 7 from h) (by decide), fun h => absurd (show 1 = 9 ∨ 1 = 10 from h) (by decide), fun h => absurd (show 1 = 10 from h) (by decide), fun h => absurd (show 1 = 11 from h) (by decide)⟩ ?_
        show (if Int32.ofNat 3 = Int32.ofNat 0 then 1000 * (101 - zyN1 (ρ2 2)) + 900 else 1) < 1000 * (101 - zyN1 (ρ 2)) + (802 - 4)
        rw [if_neg (by decide)]
        omega
      · skip
        have ex := List.mem_singleton.mp hx
        subst ex
        obtain ⟨m, T, T', L, q, k, d, hm, s1, hT1, s2, hL, hd, hz0, i1, i2, i3, i4, i5, i6, i7, eL, i8, i9, i10, i11, i12, i13, i14, i15, i16, i17, i18, i19, i20, i21⟩ := hI
        have T1 : zyTy (zymr r c) (zyEl (zymr r c) B H) := hT
        have n80 : zgNS r c ≤ 80 := zgNS_le h2 h4
        have hms : zyEl (zymr r c) B H 75 2 = some (.int (Int32.ofNat m)) := (i1 75 2 (fun z => absurd z.1 (by decide)) (fun z => absurd z.2 (by decide)) (by decide)).trans s1
        have a2 : ρ2 2 = Int32.ofNat d := (hg 2 (by decide)).trans (i8 (by decide))
        obtain ⟨e14, q28, sv⟩ := i12 (by decide) (by decide)
        have tv := i11 (by decide)
        obtain ⟨n3, w1, w2, w3⟩ := zyXe hF 0 rfl
        have w1 : Int32.ofNat 4 = Int32.ofNat n3 := w1
        have w3 : zyEl (zymr r c) B H 75 n3 = some (.int (ρ2 5)) := w3
        have e5 : ρ2 5 = Int32.ofNat L := zyEk w1 (by decide) w2 w3 eL
        obtain ⟨n4, w4, w5, w6⟩ := zyXe hF 1 rfl
        have w4 : Int32.ofNat 14 = Int32.ofNat n4 := w4
        have w6 : zyEl (zymr r c) B H 74 n4 = some (.int (ρ2 6)) := w6
        have e6 : ρ2 6 = Int32.ofNat q := zyEk w4 (by decide) w5 w6 e14
        have f2 := zyXop hF 2 rfl (by decide)
        have f2 : ρ2 7 = ρ2 5 + ρ2 6 := f2
        have f3 := zyX21 hF 3 rfl
        have f3 : ¬ Int32.ofNat 300 < ρ2 7 := f3
        rw [f2, e5, e6, zyOa, zyOl (by omega) (by omega)] at f3
        rw [← hEE] at eL
        refine zyGoB hIH hAt hB ⟨5, by decide⟩ [595, 34359738369, 68719476737, 103079215105, 0] rfl rfl rfl rfl ⟨m, T, T', L, q, 0, d, hm, s1, hT1, s2, hL, hd, fun h => absurd (show 5 = 0 from h) (by decide), by rw [hEE]; exact i1, by rw [hEE]; exact i2, i3, i4, by rw [hEE]; exact i5, by rw [hEE]; exact i6, fun _ => by rw [hEE]; exact i7 (by decide), eL, fun _ => a2, fun h => absurd (show 5 = 2 from h) (by decide), fun h => absurd (show 5 = 3 from h) (by decide), fun _ => by rw [hEE]; exact tv, fun _ _ => ⟨by rw [hEE]; exact e14, q28, by rw [hEE]; exact sv⟩, fun _ _ => by omega, fun _ => ⟨rfl, Nat.zero_le _⟩, fun h => absurd (show 5 = 6 from h) (by decide), fun _ => fun j hj => absurd hj (Nat.not_lt_zero j), fun h => absurd (show 5 = 6 from h) (by decide), fun h => absurd (show 5 = 7 from h) (by decide), fun h => absurd (show 5 = 9 ∨ 5 = 10 from h) (by decide), fun h => absurd (show 5 = 10 from h) (by decide), fun h => absurd (show 5 = 11 from h) (by decide)⟩ ?_
        show 1000 * (101 - zyN1 (ρ2 2)) + (600 + 2 * (30 - zyN1 (Int32.ofNat 0)) + (6 - 5)) < 1000 * (101 - zyN1 (ρ 2)) + (802 - 4)
        rw [hg 2 (by decide)]
        omega
    · have hx : x ∈ [zxstp_fx0, zxstp_fx1] := hx
      have hg : ∀ k, k < 5 → ρ2 k = ρ k := hag
      have hI := hInv
      have hI : ∃ m T T' L q k d : Nat, m ≤ 8 ∧ (zyEl (zymr r c) B s.heap) 75 2 = some (.int (Int32.ofNat m)) ∧ T + 100 ≤ 1073741824 ∧ (zyEl (zymr r c) B s.heap) 75 3 = some (.int (Int32.ofNat T)) ∧ L ≤ 300 ∧ d ≤ 100 ∧ (5 = 0 → T' = T) ∧ zyIst (zgNS r c) 5 m T T' L q k d (zyEl (zymr r c) B s.heap) ρ (zyEl (zymr r c) B H) := hI
      obtain ⟨hF, hB, hM⟩ := hXs
      have hEE : (zyEl (zymr r c) B H2) = (zyEl (zymr r c) B H) := zyfr0 hfr
      rcases List.mem_cons.mp hx with ex | hx
      · subst ex
        obtain ⟨m, T, T', L, q, k, d, hm, s1, hT1, s2, hL, hd, hz0, i1, i2, i3, i4, i5, i6, i7, eL, i8, i9, i10, i11, i12, i13, i14, i15, i16, i17, i18, i19, i20, i21⟩ := hI
        have T1 : zyTy (zymr r c) (zyEl (zymr r c) B H) := hT
        have n80 : zgNS r c ≤ 80 := zgNS_le h2 h4
        have hms : zyEl (zymr r c) B H 75 2 = some (.int (Int32.ofNat m)) := (i1 75 2 (fun z => absurd z.1 (by decide)) (fun z => absurd z.2 (by decide)) (by decide)).trans s1
        have a2 : ρ2 2 = Int32.ofNat d := (hg 2 (by decide)).trans (i8 (by decide))
        obtain ⟨e14, q28, sv⟩ := i12 (by decide) (by decide)
        have tv := i11 (by decide)
        obtain ⟨b4, kq⟩ := i14 (by decide)
        have a4 : ρ2 4 = Int32.ofNat k := (hg 4 (by decide)).trans b4
        have lq := i13 (by decide) (by decide)
        obtain ⟨n4, w4, w5, w6⟩ := zyXe hF 0 rfl
        have w4 : Int32.ofNat 14 = Int32.ofNat n4 := w4
        have w6 : zyEl (zymr r c) B H 74 n4 = some (.int (ρ2 5)) := w6
        have e6 : ρ2 5 = Int32.ofNat q := zyEk w4 (by decide) w5 w6 e14
        have f1 := zyX20 hF 1 rfl
        have f1 : ρ2 4 < ρ2 5 := f1
        rw [a4, e6, zyOl (by omega) (by omega)] at f1
        obtain ⟨n3, w1, w2, w3⟩ := zyXe hF 2 rfl
        have w1 : Int32.ofNat 4 = Int32.ofNat n3 := w1
        have w3 : zyEl (zymr r c) B H 75 n3 = some (.int (ρ2 6)) := w3
        have e7 : ρ2 6 = Int32.ofNat L := zyEk w1 (by decide) w2 w3 eL
        have f3 := zyXop hF 3 rfl (by decide)
        have f3 : ρ2 7 = ρ2 6 + Int32.ofNat 160 + ρ2 4 := f3
        rw [e7, a4, zyOa, zyOa] at f3
        obtain ⟨n5, u1, u2, u3⟩ := zyXe hF 4 rfl
        have u1 : ρ2 4 = Int32.ofNat n5 := u1
        have u3 : zyEl (zymr r c) B H 80 n5 = some (.int (ρ2 8)) := u3
        rw [a4] at u1
        rw [← zyOi (by omega) (by omega) u1] at u3
        have hval : zVl m (ρ2 8) := by
          have := sv k (by omega)
          rw [zyI_s u3] at this
          exact this
        have b8 : 2147483641 ≤ zB (ρ2 8) ∧ zB (ρ2 8) ≤ 2147483655 := zyXb hB 7 rfl
        refine zyAs hRu hIH hAt (a := 75) (n := L + 160 + k) (c := zymr75 r c) (ax := 0) rfl rfl rfl (show L + 160 + k < 556 by omega) (cv := 274877906945) (cj := 240518168577) rfl (by decide) (by decide) f3 ?_ ?_
        · intro r0 hr0 g1 g2
          exact zyrok_iff (zyall_iff (zand_iff (zyAllP_iff zcr_let h1 h2 h3 h4)).1 r0 hr0 (L + 160 + k) (by omega) (by omega) g1 g2) b8.1 b8.2
        · intro H3 hT3 p1 p2
          revert hT3 p1 p2
          generalize zyEl (zymr r c) B H3 = E3
          intro hT3 p1 p2
          have p1 : E3 75 (L + 160 + k) = some (.int (ρ2 8)) := p1
          rw [hEE] at p2
          have k75 : ∀ j, ¬ j = L + 160 + k → E3 75 j = zyEl (zymr r c) B H 75 j := fun j n => p2 75 j (fun z => n z.2)
          have kot : ∀ a k, ¬ a = 75 → E3 a k = zyEl (zymr r c) B H a k := fun a k n => p2 a k (fun z => n z.1)
          have eI : zyI (zyEl (zymr r c) B H) 75 4 = Int32.ofNat L := zyI_s eL
          have eL := (k75 4 (by omega)).trans eL
          refine ⟨⟨6, by decide⟩, [595, 34359738369, 68719476737, 103079215105, 137438953473], rfl, rfl, zEnv_c (zyfull _) (zEnv_c (zyXb hB 0 rfl) (zEnv_c (zyXb hB 1 rfl) (zEnv_c (zyXb hB 2 rfl) (zEnv_c ?_ zEnv_nil)))), rfl, rfl, ⟨m, T, T', L, q, k, d, hm, s1, hT1, s2, hL, hd, fun h => absurd (show 6 = 0 from h) (by decide), fun a k' n1 n2 n3 => (p2 a k' (fun z => n2 ⟨z.1, by omega⟩)).trans (i1 a k' n1 n2 n3), (k75 3 (by omega)).trans i2, i3, i4, zLv_fr (k75 4 (by omega)) (fun j hj h => k75 _ (by rw [eI, zyOl (by omega) (by omega)] at h; omega)) i5, zWv_fr (k75 5 (by omega)) (fun j _ => k75 _ (by omega)) i6, fun _ => zT0_fr (k75 3 (by omega)) (k75 4 (by omega)) (i7 (by decide)), eL, fun _ => a2, fun h => absurd (show 6 = 2 from h) (by decide), fun h => absurd (show 6 = 3 from h) (by decide), fun _ => fun b hb => by rw [zth_eq (kot 78 b (by decide))]; exact tv b hb, fun _ _ => ⟨(kot 74 14 (by decide)).trans e14, q28, fun j hj => by rw [zyI_eq (kot 80 j (by decide))]; exact sv j hj⟩, fun _ _ => lq, fun _ => ⟨a4, by omega⟩, fun _ => f1, fun h => absurd (show 6 = 5 from h) (by decide), fun _ => fun j hj => ?_, fun h => absurd (show 6 = 7 from h) (by decide), fun h => absurd (show 6 = 9 ∨ 6 = 10 from h) (by decide), fun h => absurd (show 6 = 10 from h) (by decide), fun h => absurd (show 6 = 11 from h) (by decide)⟩, ?_⟩
          · show 2147483648 ≤ zB (ρ2 4) ∧ zB (ρ2 4) ≤ 2147483675
            rw [a4, zyBn (by omega)]
            omega
          · by_cases e : j = k
            · rw [e, show 160 + (L + k) = L + 160 + k by omega, zyI_s p1]
              exact hval
            · rw [zyI_eq (k75 _ (by omega))]
              exact i16 rfl j (by omega)
          · show 1000 * (101 - zyN1 (ρ2 2)) + (600 + 2 * (30 - zyN1 (ρ2 4)) + (6 - 6)) < 1000 * (101 - zyN1 (ρ 2)) + (600 + 2 * (30 - zyN1 (ρ 4)) + (6 - 5))
            rw [hg 2 (by decide), hg 4 (by decide)]
            omega
      · skip
        have ex := List.mem_singleton.mp hx
        subst ex
        obtain ⟨m, T, T', L, q, k, d, hm, s1, hT1, s2, hL, hd, hz0, i1, i2, i3, i4, i5, i6, i7, eL, i8, i9, i10, i11, i12, i13, i14, i15, i16, i17, i18, i19, i20, i21⟩ := hI
        have T1 : zyTy (zymr r c) (zyEl (zymr r c) B H) := hT
        have n80 : zgNS r c ≤ 80 := zgNS_le h2 h4
        have hms : zyEl (zymr r c) B H 75 2 = some (.int (Int32.ofNat m)) := (i1 75 2 (fun z => absurd z.1 (by decide)) (fun z => absurd z.2 (by decide)) (by decide)).trans s1
        have a2 : ρ2 2 = Int32.ofNat d := (hg 2 (by decide)).trans (i8 (by decide))
        obtain ⟨e14, q28, sv⟩ := i12 (by decide) (by decide)
        have tv := i11 (by decide)
        obtain ⟨b4, kq⟩ := i14 (by decide)
        have a4 : ρ2 4 = Int32.ofNat k := (hg 4 (by decide)).trans b4
        have lq := i13 (by decide) (by decide)
        obtain ⟨n4, w4, w5, w6⟩ := zyXe hF 0 rfl
        have w4 : Int32.ofNat 14 = Int32.ofNat n4 := w4
        have w6 : zyEl (zymr r c) B H 74 n4 = some (.int (ρ2 5)) := w6
        have e6 : ρ2 5 = Int32.ofNat q := zyEk w4 (by decide) w5 w6 e14
        have f1 := zyX21 hF 1 rfl
        have f1 : ¬ ρ2 4 < ρ2 5 := f1
        rw [a4, e6, zyOl (by omega) (by omega)] at f1
        have vv := i16 rfl
        rw [← hEE] at eL
        refine zyGoB hIH hAt hB ⟨7, by decide⟩ [595, 34359738369, 68719476737, 103079215105, 0] rfl rfl rfl rfl ⟨m, T, T', L, q, k, d, hm, s1, hT1, s2, hL, hd, fun h => absurd (show 7 = 0 from h) (by decide), by rw [hEE]; exact i1, by rw [hEE]; exact i2, i3, i4, by rw [hEE]; exact i5, by rw [hEE]; exact i6, fun _ => by rw [hEE]; exact i7 (by decide), eL, fun _ => a2, fun h => absurd (show 7 = 2 from h) (by decide), fun h => absurd (show 7 = 3 from h) (by decide), fun _ => by rw [hEE]; exact tv, fun _ _ => ⟨by rw [hEE]; exact e14, q28, by rw [hEE]; exact sv⟩, fun _ _ => lq, fun h => absurd (show 7 = 5 ∨ 7 = 6 from h) (by decide), fun h => absurd (show 7 = 6 from h) (by decide), fun h => absurd (show 7 = 5 from h) (by decide), fun h => absurd (show 7 = 6 from h) (by decide), fun _ => fun j hj => by rw [hEE]; exact vv j (by omega), fun h => absurd (show 7 = 9 ∨ 7 = 10 from h) (by decide), fun h => absurd (show 7 = 10 from h) (by decide), fun h => absurd (show 7 = 11 from h) (by decide)⟩ ?_
        show 1000 * (101 - zyN1 (ρ2 2)) + (500 - 7) < 1000 * (101 - zyN1 (ρ 2)) + (600 + 2 * (30 - zyN1 (ρ 4)) + (6 - 5))
        rw [hg 2 (by decide)]
        omega
    · have hx : x ∈ [zxstp_gx0] := hx
      have hg : ∀ k, k < 5 → ρ2 k = ρ k := hag
      have hI := hInv
      have hI : ∃ m T T' L q k d : Nat, m ≤ 8 ∧ (zyEl (zymr r c) B s.heap) 75 2 = some (.int (Int32.ofNat m)) ∧ T + 100 ≤ 1073741824 ∧ (zyEl (zymr r c) B s.heap) 75 3 = some (.int (Int32.ofNat T)) ∧ L ≤ 300 ∧ d ≤ 100 ∧ (6 = 0 → T' = T) ∧ zyIst (zgNS r c) 6 m T T' L q k d (zyEl (zymr r c) B s.heap) ρ (zyEl (zymr r c) B H) := hI
      obtain ⟨hF, hB, hM⟩ := hXs
      have hEE : (zyEl (zymr r c) B H2) = (zyEl (zymr r c) B H) := zyfr0 hfr
      have ex := List.mem_singleton.mp hx
      subst ex
      obtain ⟨m, T, T', L, q, k, d, hm, s1, hT1, s2, hL, hd, hz0, i1, i2, i3, i4, i5, i6, i7, eL, i8, i9, i10, i11, i12, i13, i14, i15, i16, i17, i18, i19, i20, i21⟩ := hI
      have T1 : zyTy (zymr r c) (zyEl (zymr r c) B H) := hT
      have n80 : zgNS r c ≤ 80 := zgNS_le h2 h4
      have hms : zyEl (zymr r c) B H 75 2 = some (.int (Int32.ofNat m)) := (i1 75 2 (fun z => absurd z.1 (by decide)) (fun z => absurd z.2 (by decide)) (by decide)).trans s1
      have a2 : ρ2 2 = Int32.ofNat d := (hg 2 (by decide)).trans (i8 (by decide))
      obtain ⟨e14, q28, sv⟩ := i12 (by decide) (by decide)
      have tv := i11 (by decide)
      obtain ⟨b4, kq⟩ := i14 (by decide)
      have a4 : ρ2 4 = Int32.ofNat k := (hg 4 (by decide)).trans b4
      have lq := i13 (by decide) (by decide)
      have a4' : ρ2 4 + Int32.ofNat 1 = Int32.ofNat (k + 1) := by rw [a4, zyOa]
      have k6 := i15 rfl
      have vv := i17 rfl
      rw [← hEE] at eL
      refine zyGoB hIH hAt hB ⟨5, by decide⟩ [595, 34359738369, 68719476737, 103079215105, 137438953481] rfl rfl rfl rfl ⟨m, T, T', L, q, (k + 1), d, hm, s1, hT1, s2, hL, hd, fun h => absurd (show 5 = 0 from h) (by decide), by rw [hEE]; exact i1, by rw [hEE]; exact i2, i3, i4, by rw [hEE]; exact i5, by rw [hEE]; exact i6, fun _ => by rw [hEE]; exact i7 (by decide), eL, fun _ => a2, fun h => absurd (show 5 = 2 from h) (by decide), fun h => absurd (show 5 = 3 from h) (by decide), fun _ => by rw [hEE]; exact tv, fun _ _ => ⟨by rw [hEE]; exact e14, q28, by rw [hEE]; exact sv⟩, fun _ _ => lq, fun _ => ⟨a4', k6⟩, fun h => absurd (show 5 = 6 from h) (by decide), fun _ => fun j hj => by rw [hEE]; exact vv j (by omega), fun h => absurd (show 5 = 6 from h) (by decide), fun h => absurd (show 5 = 7 from h) (by decide), fun h => absurd (show 5 = 9 ∨ 5 = 10 from h) (by decide), fun h => absurd (show 5 = 10 from h) (by decide), fun h => absurd (show 5 = 11 from h) (by decide)⟩ ?_
      show 1000 * (101 - zyN1 (ρ2 2)) + (600 + 2 * (30 - zyN1 (ρ2 4 + Int32.ofNat 1)) + (6 - 5)) < 1000 * (101 - zyN1 (ρ 2)) + (600 + 2 * (30 - zyN1 (ρ 4)) + (6 - 6))
      rw [hg 2 (by decide), a4', b4, zyN1_of (by omega), zyN1_of (by omega)]
      omega
    · have hx : x ∈ [zxstp_hx0] := hx
      have hg : ∀ k, k < 5 → ρ2 k = ρ k := hag
      have hI := hInv
      have hI : ∃ m T T' L q k d : Nat, m ≤ 8 ∧ (zyEl (zymr r c) B s.heap) 75 2 = some (.int (Int32.ofNat m)) ∧ T + 100 ≤ 1073741824 ∧ (zyEl (zymr r c) B s.heap) 75 3 = some (.int (Int32.ofNat T)) ∧ L ≤ 300 ∧ d ≤ 100 ∧ (7 = 0 → T' = T) ∧ zyIst (zgNS r c) 7 m T T' L q k d (zyEl (zymr r c) B s.heap) ρ (zyEl (zymr r c) B H) := hI
      obtain ⟨hF, hB, hM⟩ := hXs
      have hEE : (zyEl (zymr r c) B H2) = (zyEl (zymr r c) B H) := zyfr0 hfr
      have ex := List.mem_singleton.mp hx
      subst ex
      obtain ⟨m, T, T', L, q, k, d, hm, s1, hT1, s2, hL, hd, hz0, i1, i2, i3, i4, i5, i6, i7, eL, i8, i9, i10, i11, i12, i13, i14, i15, i16, i17, i18, i19, i20, i21⟩ := hI
      have T1 : zyTy (zymr r c) (zyEl (zymr r c) B H) := hT
      have n80 : zgNS r c ≤ 80 := zgNS_le h2 h4
      have hms : zyEl (zymr r c) B H 75 2 = some (.int (Int32.ofNat m)) := (i1 75 2 (fun z => absurd z.1 (by decide)) (fun z => absurd z.2 (by decide)) (by decide)).trans s1
      have a2 : ρ2 2 = Int32.ofNat d := (hg 2 (by decide)).trans (i8 (by decide))
      obtain ⟨e14, q28, sv⟩ := i12 (by decide) (by decide)
      have tv := i11 (by decide)
      have lq := i13 (by decide) (by decide)
      have vv := i18 rfl
      obtain ⟨n3, w1, w2, w3⟩ := zyXe hF 0 rfl
      have w1 : Int32.ofNat 4 = Int32.ofNat n3 := w1
      have w3 : zyEl (zymr r c) B H 75 n3 = some (.int (ρ2 5)) := w3
      have e5 : ρ2 5 = Int32.ofNat L := zyEk w1 (by decide) w2 w3 eL
      obtain ⟨n4, w4, w5, w6⟩ := zyXe hF 1 rfl
      have w4 : Int32.ofNat 14 = Int32.ofNat n4 := w4
      have w6 : zyEl (zymr r c) B H 74 n4 = some (.int (ρ2 6)) := w6
      have e6 : ρ2 6 = Int32.ofNat q := zyEk w4 (by decide) w5 w6 e14
      have f2 := zyXop hF 2 rfl (by decide)
      have f2 : ρ2 7 = ρ2 5 + ρ2 6 := f2
      rw [e5, e6, zyOa] at f2
      refine zyAsB hRu hIH hAt hB 75 4 (zymr75 r c) rfl rfl rfl (cv := 240518168577) (cj := 32) rfl (by decide) (by decide) ⟨8, by decide⟩ [595, 34359738369, 68719476737, 103079215105, 0] rfl rfl rfl rfl (show 4 < 556 by omega) rfl ?_ ?_
      · intro r0 hr0 g1 g2
        refine zyrok_iff (zyall_iff (zand_iff (zand_iff (zyAllP_iff zcr_let h1 h2 h3 h4)).2).2 r0 hr0 4 (by omega) (by omega) g1 g2) ?_ ?_
        · show 2147483648 ≤ zB (ρ2 7)
          rw [f2, zyBn (by omega)]
          omega
        · show zB (ρ2 7) ≤ 2147483948
          rw [f2, zyBn (by omega)]
          omega
      · intro E3 hT3 p1 p2
        have p1 : E3 75 4 = some (.int (ρ2 7)) := p1
        rw [f2] at p1
        rw [hEE] at p2
        have k75 : ∀ j, ¬ j = 4 → E3 75 j = zyEl (zymr r c) B H 75 j := fun j n => p2 75 j (fun z => n z.2)
        have eI : zyI (zyEl (zymr r c) B H) 75 4 = Int32.ofNat L := zyI_s eL
        have eL := p1
        refine ⟨⟨m, T, T', (L + q), q, k, d, hm, s1, hT1, s2, lq, hd, fun h => absurd (show 8 = 0 from h) (by decide), fun a k' n1 n2 n3 => (p2 a k' (fun z => n2 ⟨z.1, by omega⟩)).trans (i1 a k' n1 n2 n3), (k75 3 (by omega)).trans i2, i3, i4, fun j hj h => ?_, zWv_fr (k75 5 (by omega)) (fun j _ => k75 _ (by omega)) i6, fun h => absurd (show 8 ≤ 7 from h) (by decide), eL, fun _ => a2, fun h => absurd (show 8 = 2 from h) (by decide), fun h => absurd (show 8 = 3 from h) (by decide), fun _ => fun b hb => by rw [zth_eq (p2 78 b (fun z => absurd z.1 (by decide)))]; exact tv b hb, fun _ h => absurd (show 8 ≤ 7 from h) (by decide), fun _ h => absurd (show 8 ≤ 7 from h) (by decide), fun h => absurd (show 8 = 5 ∨ 8 = 6 from h) (by decide), fun h => absurd (show 8 = 6 from h) (by decide), fun h => absurd (show 8 = 5 from h) (by decide), fun h => absurd (show 8 = 6 from h) (by decide), fun h => absurd (show 8 = 7 from h) (by decide), fun h => absurd (show 8 = 9 ∨ 8 = 10 from h) (by decide), fun h => absurd (show 8 = 10 from h) (by decide), fun h => absurd (show 8 = 11 from h) (by decide)⟩, ?_⟩
        · rw [zyI_s p1, zyOl (by omega) (by omega)] at h
          rw [zyI_eq (k75 _ (by omega))]
          by_cases e : j < L
          · exact i5 j hj (by rw [eI, zyOl (by omega) (by omega)]; exact e)
          · have := vv (j - L) (by omega)
            rwa [show 160 + (L + (j - L)) = 160 + j by omega] at this
        · show 1000 * (101 - zyN1 (ρ2 2)) + (500 - 8) < 1000 * (101 - zyN1 (ρ 2)) + (500 - 7)
          rw [hg 2 (by decide)]
          omega
    · have hx : x ∈ [zxstp_ix0] := hx
      have hg : ∀ k, k < 5 → ρ2 k = ρ k := hag
      have hI := hInv
      have hI : ∃ m T T' L q k d : Nat, m ≤ 8 ∧ (zyEl (zymr r c) B s.heap) 75 2 = some (.int (Int32.ofNat m)) ∧ T + 100 ≤ 1073741824 ∧ (zyEl (zymr r c) B s.heap) 75 3 = some (.int (Int32.ofNat T)) ∧ L ≤ 300 ∧ d ≤ 100 ∧ (8 = 0 → T' = T) ∧ zyIst (zgNS r c) 8 m T T' L q k d (zyEl (zymr r c) B s.heap) ρ (zyEl (zymr r c) B H) := hI
      obtain ⟨hF, hB, hM⟩ := hXs
      have hEE : (zyEl (zymr r c) B H2) = (zyEl (zymr r c) B H) := zyfr0 hfr
      have ex := List.mem_singleton.mp hx
      subst ex
      obtain ⟨m, T, T', L, q, k, d, hm, s1, hT1, s2, hL, hd, hz0, i1, i2, i3, i4, i5, i6, i7, eL, i8, i9, i10, i11, i12, i13, i14, i15, i16, i17, i18, i19, i20, i21⟩ := hI
      have T1 : zyTy (zymr r c) (zyEl (zymr r c) B H) := hT
      have n80 : zgNS r c ≤ 80 := zgNS_le h2 h4
      have hms : zyEl (zymr r c) B H 75 2 = some (.int (Int32.ofNat m)) := (i1 75 2 (fun z => absurd z.1 (by decide)) (fun z => absurd z.2 (by decide)) (by decide)).trans s1
      have a2 : ρ2 2 = Int32.ofNat d := (hg 2 (by decide)).trans (i8 (by decide))
      have tv := i11 (by decide)
      rw [← hEE] at eL
      refine zyGoB hIH hAt hB ⟨9, by decide⟩ [595, 34359738369, 68719476737, 103079215105, 0] rfl rfl rfl rfl ⟨m, T, T', L, q, 0, d, hm, s1, hT1, s2, hL, hd, fun h => absurd (show 9 = 0 from h) (by decide), by rw [hEE]; exact i1, by rw [hEE]; exact i2, i3, i4, by rw [hEE]; exact i5, by rw [hEE]; exact i6, fun h => absurd (show 9 ≤ 7 from h) (by decide), eL, fun _ => a2, fun h => absurd (show 9 = 2 from h) (by decide), fun h => absurd (show 9 = 3 from h) (by decide), fun _ => by rw [hEE]; exact tv, fun _ h => absurd (show 9 ≤ 7 from h) (by decide), fun _ h => absurd (show 9 ≤ 7 from h) (by decide), fun h => absurd (show 9 = 5 ∨ 9 = 6 from h) (by decide), fun h => absurd (show 9 = 6 from h) (by decide), fun h => absurd (show 9 = 5 from h) (by decide), fun h => absurd (show 9 = 6 from h) (by decide), fun h => absurd (show 9 = 7 from h) (by decide), fun _ => ⟨rfl, Nat.zero_le _⟩, fun h => absurd (show 9 = 10 from h) (by decide), fun h => absurd (show 9 = 11 from h) (by decide)⟩ ?_
      show 1000 * (101 - zyN1 (ρ2 2)) + (400 + 2 * (9 - zyN1 (Int32.ofNat 0)) + (10 - 9)) < 1000 * (101 - zyN1 (ρ 2)) + (500 - 8)
      rw [hg 2 (by decide)]
      omega
    · have hx : x ∈ [zxstp_jx0, zxstp_jx1] := hx
      have hg : ∀ k, k < 5 → ρ2 k = ρ k := hag
      have hI := hInv
      have hI : ∃ m T T' L q k d : Nat, m ≤ 8 ∧ (zyEl (zymr r c) B s.heap) 75 2 = some (.int (Int32.ofNat m)) ∧ T + 100 ≤ 1073741824 ∧ (zyEl (zymr r c) B s.heap) 75 3 = some (.int (Int32.ofNat T)) ∧ L ≤ 300 ∧ d ≤ 100 ∧ (9 = 0 → T' = T) ∧ zyIst (zgNS r c) 9 m T T' L q k d (zyEl (zymr r c) B s.heap) ρ (zyEl (zymr r c) B H) := hI
      obtain ⟨hF, hB, hM⟩ := hXs
      have hEE : (zyEl (zymr r c) B H2) = (zyEl (zymr r c) B H) := zyfr0 hfr
      rcases List.mem_cons.mp hx with ex | hx
      · subst ex
        obtain ⟨m, T, T', L, q, k, d, hm, s1, hT1, s2, hL, hd, hz0, i1, i2, i3, i4, i5, i6, i7, eL, i8, i9, i10, i11, i12, i13, i14, i15, i16, i17, i18, i19, i20, i21⟩ := hI
        have T1 : zyTy (zymr r c) (zyEl (zymr r c) B H) := hT
        have n80 : zgNS r c ≤ 80 := zgNS_le h2 h4
        have hms : zyEl (zymr r c) B H 75 2 = some (.int (Int32.ofNat m)) := (i1 75 2 (fun z => absurd z.1 (by decide)) (fun z => absurd z.2 (by decide)) (by decide)).trans s1
        have a2 : ρ2 2 = Int32.ofNat d := (hg 2 (by decide)).trans (i8 (by decide))
        have tv := i11 (by decide)
        obtain ⟨b4, k8⟩ := i19 (by decide)
        have a4 : ρ2 4 = Int32.ofNat k := (hg 4 (by decide)).trans b4
        obtain ⟨n3, w1, w2, w3⟩ := zyXe hF 0 rfl
        have w1 : Int32.ofNat 2 = Int32.ofNat n3 := w1
        have w3 : zyEl (zymr r c) B H 75 n3 = some (.int (ρ2 5)) := w3
        have em : ρ2 5 = Int32.ofNat m := zyEk w1 (by decide) w2 w3 hms
        have f1 := zyX20 hF 1 rfl
        have f1 : ρ2 4 < ρ2 5 := f1
        rw [a4, em, zyOl (by omega) (by omega)] at f1
        obtain ⟨n5, u1, u2, u3⟩ := zyXe hF 2 rfl
        have u1 : ρ2 4 = Int32.ofNat n5 := u1
        have u3 : zyEl (zymr r c) B H 78 n5 = some (.int (ρ2 6)) := u3
        rw [a4] at u1
        have e6 := zyEk u1 (by omega) u2 u3 (zth_el T1 (i := k) (by omega)).1
        have l6 := tv k f1
        have b4' : ρ2 4 + Int32.ofNat 144 = Int32.ofNat (k + 144) := by rw [a4, zyOa]
        refine zyAsB hRu hIH hAt hB 75 (k + 144) (zymr75 r c) rfl rfl rfl (cv := 206158430209) (cj := 137438954625) rfl (by decide) (by decide) ⟨10, by decide⟩ [595, 34359738369, 68719476737, 103079215105, 137438953473] rfl rfl rfl rfl (show k + 144 < 556 by omega) b4' ?_ ?_
        · intro r0 hr0 g1 g2
          refine zyrok_iff (zyall_iff (zand_iff (zand_iff (zyAllP_iff zcr_let h1 h2 h3 h4)).2).1 r0 hr0 (k + 144) (by omega) (by omega) g1 g2) ?_ ?_
          · show 2147483648 ≤ zB (ρ2 6)
            rw [e6, zyBn (by omega)]
            omega
          · show zB (ρ2 6) ≤ 2147483647 + zgNS r c
            rw [e6, zyBn (by omega)]
            omega
        · intro E3 hT3 p1 p2
          rw [hEE] at p2
          have k75 : ∀ j, ¬ j = k + 144 → E3 75 j = zyEl (zymr r c) B H 75 j := fun j n => p2 75 j (fun z => n z.2)
          have eL := (k75 4 (by omega)).trans eL
          refine ⟨⟨m, T, T', L, q, k, d, hm, s1, hT1, s2, hL, hd, fun h => absurd (show 10 = 0 from h) (by decide), fun a k' n1 n2 n3 => (p2 a k' (fun z => n2 ⟨z.1, by omega⟩)).trans (i1 a k' n1 n2 n3), (k75 3 (by omega)).trans i2, i3, i4, zLv_fr (k75 4 (by omega)) (fun j hj h => k75 _ (by omega)) i5, zWv_fr (k75 5 (by omega)) (fun j _ => k75 _ (by omega)) i6, fun h => absurd (show 10 ≤ 7 from h) (by decide), eL, fun _ => a2, fun h => absurd (show 10 = 2 from h) (by decide), fun h => absurd (show 10 = 3 from h) (by decide), fun _ => fun b hb => by rw [zth_eq (p2 78 b (fun z => absurd z.1 (by decide)))]; exact tv b hb, fun _ h => absurd (show 10 ≤ 7 from h) (by decide), fun _ h => absurd (show 10 ≤ 7 from h) (by decide), fun h => absurd (show 10 = 5 ∨ 10 = 6 from h) (by decide), fun h => absurd (show 10 = 6 from h) (by decide), fun h => absurd (show 10 = 5 from h) (by decide), fun h => absurd (show 10 = 6 from h) (by decide), fun h => absurd (show 10 = 7 from h) (by decide), fun _ => ⟨a4, k8⟩, fun _ => by omega, fun h => absurd (show 10 = 11 from h) (by decide)⟩, ?_⟩
          show 1000 * (101 - zyN1 (ρ2 2)) + (400 + 2 * (9 - zyN1 (ρ2 4)) + (10 - 10)) < 1000 * (101 - zyN1 (ρ 2)) + (400 + 2 * (9 - zyN1 (ρ 4)) + (10 - 9))
          rw [hg 2 (by decide), hg 4 (by decide)]
          omega
      · skip
        have ex := List.mem_singleton.mp hx
        subst ex
        obtain ⟨m, T, T', L, q, k, d, hm, s1, hT1, s2, hL, hd, hz0, i1, i2, i3, i4, i5, i6, i7, eL, i8, i9, i10, i11, i12, i13, i14, i15, i16, i17, i18, i19, i20, i21⟩ := hI
        have T1 : zyTy (zymr r c) (zyEl (zymr r c) B H) := hT
        have n80 : zgNS r c ≤ 80 := zgNS_le h2 h4
        have hms : zyEl (zymr r c) B H 75 2 = some (.int (Int32.ofNat m)) := (i1 75 2 (fun z => absurd z.1 (by decide)) (fun z => absurd z.2 (by decide)) (by decide)).trans s1
        have a2 : ρ2 2 = Int32.ofNat d := (hg 2 (by decide)).trans (i8 (by decide))
        have tv := i11 (by decide)
        rw [← hEE] at eL
        refine zyGoKi hIH hAt hB ⟨11, by decide⟩ [595, 34359738369, 68719476737, 103079215105, 0] [(0, 4294967295), (2147483649, 2147483748), (2147483648, 2147483747), (2147483648, 2147483648), (0, 4294967295)] 2147483648 3221225472 rfl (by decide) rfl rfl rfl (75 * 16384 + 3) (zymr75 r c) rfl rfl (by rw [zyL75]; decide) (Int32.ofNat T') ?_ ?_ ⟨m, T, T', L, q, k, d, hm, s1, hT1, s2, hL, hd, fun h => absurd (show 11 = 0 from h) (by decide), by rw [hEE]; exact i1, by rw [hEE]; exact i2, i3, i4, by rw [hEE]; exact i5, by rw [hEE]; exact i6, fun h => absurd (show 11 ≤ 7 from h) (by decide), eL, fun _ => (zyρi_n (by decide)).trans a2, fun h => absurd (show 11 = 2 from h) (by decide), fun h => absurd (show 11 = 3 from h) (by decide), fun _ => by rw [hEE]; exact tv, fun _ h => absurd (show 11 ≤ 7 from h) (by decide), fun _ h => absurd (show 11 ≤ 7 from h) (by decide), fun h => absurd (show 11 = 5 ∨ 11 = 6 from h) (by decide), fun h => absurd (show 11 = 6 from h) (by decide), fun h => absurd (show 11 = 5 from h) (by decide), fun h => absurd (show 11 = 6 from h) (by decide), fun h => absurd (show 11 = 7 from h) (by decide), fun h => absurd (show 11 = 9 ∨ 11 = 10 from h) (by decide), fun h => absurd (show 11 = 10 from h) (by decide), fun _ => zyρi_e⟩ ?_
        · show zyEl (zymr r c) B H2 75 3 = _
          rw [hEE]
          exact i2
        · rw [zyBn (by omega)]
          omega
        · show 1000 * (101 - zyN1 (zyρi _ 5 _ 2)) + 300 < 1000 * (101 - zyN1 (ρ 2)) + (400 + 2 * (9 - zyN1 (ρ 4)) + (10 - 9))
          rw [zyρi_n (by decide)]
          show 1000 * (101 - zyN1 (ρ2 2)) + 300 < 1000 * (101 - zyN1 (ρ 2)) + (400 + 2 * (9 - zyN1 (ρ 4)) + (10 - 9))
          rw [hg 2 (by decide)]
          omega
    · have hx : x ∈ [zxstp_kx0] := hx
      have hg : ∀ k, k < 5 → ρ2 k = ρ k := hag
      have hI := hInv
      have hI : ∃ m T T' L q k d : Nat, m ≤ 8 ∧ (zyEl (zymr r c) B s.heap) 75 2 = some (.int (Int32.ofNat m)) ∧ T + 100 ≤ 1073741824 ∧ (zyEl (zymr r c) B s.heap) 75 3 = some (.int (Int32.ofNat T)) ∧ L ≤ 300 ∧ d ≤ 100 ∧ (10 = 0 → T' = T) ∧ zyIst (zgNS r c) 10 m T T' L q k d (zyEl (zymr r c) B s.heap) ρ (zyEl (zymr r c) B H) := hI
      obtain ⟨hF, hB, hM⟩ := hXs
      have hEE : (zyEl (zymr r c) B H2) = (zyEl (zymr r c) B H) := zyfr0 hfr
      have ex := List.mem_singleton.mp hx
      subst ex
      obtain ⟨m, T, T', L, q, k, d, hm, s1, hT1, s2, hL, hd, hz0, i1, i2, i3, i4, i5, i6, i7, eL, i8, i9, i10, i11, i12, i13, i14, i15, i16, i17, i18, i19, i20, i21⟩ := hI
      have T1 : zyTy (zymr r c) (zyEl (zymr r c) B H) := hT
      have n80 : zgNS r c ≤ 80 := zgNS_le h2 h4
      have hms : zyEl (zymr r c) B H 75 2 = some (.int (Int32.ofNat m)) := (i1 75 2 (fun z => absurd z.1 (by decide)) (fun z => absurd z.2 (by decide)) (by decide)).trans s1
      have a2 : ρ2 2 = Int32.ofNat d := (hg 2 (by decide)).trans (i8 (by decide))
      have tv := i11 (by decide)
      obtain ⟨b4, k8⟩ := i19 (by decide)
      have a4 : ρ2 4 = Int32.ofNat k := (hg 4 (by decide)).trans b4
      have a4' : ρ2 4 + Int32.ofNat 1 = Int32.ofNat (k + 1) := by rw [a4, zyOa]
      have k7 := i20 rfl
      rw [← hEE] at eL
      refine zyGoB hIH hAt hB ⟨9, by decide⟩ [595, 34359738369, 68719476737, 103079215105, 137438953481] rfl rfl rfl rfl ⟨m, T, T', L, q, (k + 1), d, hm, s1, hT1, s2, hL, hd, fun h => absurd (show 9 = 0 from h) (by decide), by rw [hEE]; exact i1, by rw [hEE]; exact i2, i3, i4, by rw [hEE]; exact i5, by rw [hEE]; exact i6, fun h => absurd (show 9 ≤ 7 from h) (by decide), eL, fun _ => a2, fun h => absurd (show 9 = 2 from h) (by decide), fun h => absurd (show 9 = 3 from h) (by decide), fun _ => by rw [hEE]; exact tv, fun _ h => absurd (show 9 ≤ 7 from h) (by decide), fun _ h => absurd (show 9 ≤ 7 from h) (by decide), fun h => absurd (show 9 = 5 ∨ 9 = 6 from h) (by decide), fun h => absurd (show 9 = 6 from h) (by decide), fun h => absurd (show 9 = 5 from h) (by decide), fun h => absurd (show 9 = 6 from h) (by decide), fun h => absurd (show 9 = 7 from h) (by decide), fun _ => ⟨a4', by omega⟩, fun h => absurd (show 9 = 10 from h) (by decide), fun h => absurd (show 9 = 11 from h) (by decide)⟩ ?_
      show 1000 * (101 - zyN1 (ρ2 2)) + (400 + 2 * (9 - zyN1 (ρ2 4 + Int32.ofNat 1)) + (10 - 9)) < 1000 * (101 - zyN1 (ρ 2)) + (400 + 2 * (9 - zyN1 (ρ 4)) + (10 - 10))
      rw [hg 2 (by decide), a4', b4, zyN1_of (by omega), zyN1_of (by omega)]
      omega
    · have hx : x ∈ [zxstp_lx0] := hx
      have hg : ∀ k, k < 6 → ρ2 k = ρ k := hag
      have hI := hInv
      have hI : ∃ m T T' L q k d : Nat, m ≤ 8 ∧ (zyEl (zymr r c) B s.heap) 75 2 = some (.int (Int32.ofNat m)) ∧ T + 100 ≤ 1073741824 ∧ (zyEl (zymr r c) B s.heap) 75 3 = some (.int (Int32.ofNat T)) ∧ L ≤ 300 ∧ d ≤ 100 ∧ (11 = 0 → T' = T) ∧ zyIst (zgNS r c) 11 m T T' L q k d (zyEl (zymr r c) B s.heap) ρ (zyEl (zymr r c) B H) := hI
      obtain ⟨hF, hB, hM⟩ := hXs
      have hfr : ∀ a k, zyin [(75, 3, 3)] a k = false → (zyEl (zymr r c) B H2) a k = (zyEl (zymr r c) B H) a k := hfr
      have ex := List.mem_singleton.mp hx
      subst ex
      obtain ⟨m, T, T', L, q, k, d, hm, s1, hT1, s2, hL, hd, hz0, i1, i2, i3, i4, i5, i6, i7, eL, i8, i9, i10, i11, i12, i13, i14, i15, i16, i17, i18, i19, i20, i21⟩ := hI
      have T1 : zyTy (zymr r c) (zyEl (zymr r c) B H) := hT
      have n80 : zgNS r c ≤ 80 := zgNS_le h2 h4
      have hms : zyEl (zymr r c) B H 75 2 = some (.int (Int32.ofNat m)) := (i1 75 2 (fun z => absurd z.1 (by decide)) (fun z => absurd z.2 (by decide)) (by decide)).trans s1
      have a2 : ρ2 2 = Int32.ofNat d := (hg 2 (by decide)).trans (i8 (by decide))
      have a5 : ρ2 5 = Int32.ofNat T' := (hg 5 (by decide)).trans (i21 rfl)
      have m1 := zyXm hM 0 rfl
      have m1 : zyEl (zymr r c) B H2 75 3 = some (.int (ρ2 5 + Int32.ofNat 1)) := m1
      rw [a5, zyOa] at m1
      have hk := zyfr1 hfr
      have k75 : ∀ j, ¬ j = 3 → zyEl (zymr r c) B H2 75 j = zyEl (zymr r c) B H 75 j := fun j n => hk 75 j (fun z => n z.2)
      have eL := (k75 4 (by omega)).trans eL
      have a2' : ρ2 2 + Int32.ofNat 1 = Int32.ofNat (d + 1) := by rw [a2, zyOa]
      have bd : 2147483648 ≤ zB (ρ2 2) ∧ zB (ρ2 2) ≤ 2147483747 := zyXb hB 1 rfl
      rw [a2, zyBn (by omega)] at bd
      have f3 : 2147483648 ≤ zB (ρ2 3) ∧ zB (ρ2 3) ≤ 2147483648 := zyXb hB 2 rfl
      have f3 : ρ2 3 = Int32.ofNat 0 := by
        obtain ⟨o1, o2⟩ := zyOn f3.1
        rw [o1, show zyN1 (ρ2 3) = 0 by omega]
      refine zyGoB hIH hAt hB ⟨1, by decide⟩ [595, 34359738369, 68719476745, 103079215105, 0] rfl rfl rfl rfl ⟨m, T, (T' + 1), L, q, k, (d + 1), hm, s1, hT1, s2, hL, by omega, fun h => absurd (show 1 = 0 from h) (by decide), fun a k' n1 n2 n3 => (hk a k' (fun z => n2 ⟨z.1, by omega⟩)).trans (i1 a k' n1 n2 n3), m1, by omega, by omega, zLv_fr (k75 4 (by omega)) (fun j hj h => k75 _ (by omega)) i5, zWv_fr (k75 5 (by omega)) (fun j _ => k75 _ (by omega)) i6, fun _ => ?_, eL, fun _ => a2', fun h => absurd (show 1 = 2 from h) (by decide), fun h => absurd (show 1 = 3 from h) (by decide), fun h => absurd (show 4 ≤ 1 from h) (by decide), fun h => absurd (show 4 ≤ 1 from h) (by decide), fun h => absurd (show 5 ≤ 1 from h) (by decide), fun h => absurd (show 1 = 5 ∨ 1 = 6 from h) (by decide), fun h => absurd (show 1 = 6 from h) (by decide), fun h => absurd (show 1 = 5 from h) (by decide), fun h => absurd (show 1 = 6 from h) (by decide), fun h => absurd (show 1 = 7 from h) (by decide), fun h => absurd (show 1 = 9 ∨ 1 = 10 from h) (by decide), fun h => absurd (show 1 = 10 from h) (by decide), fun h => absurd (show 1 = 11 from h) (by decide)⟩ ?_
      · intro hn
        exfalso
        apply hn
        rw [zyI_s m1, zyOl (by omega) (by omega)]
        omega
      · show (if ρ2 3 = Int32.ofNat 0 then 1000 * (101 - zyN1 (ρ2 2 + Int32.ofNat 1)) + 900 else 1) < 1000 * (101 - zyN1 (ρ 2)) + 300
        rw [if_pos f3, a2', i8 (by decide), zyN1_of (by omega), zyN1_of (by omega)]
        omega
  · intro as E0 E E2 hT0 hΦ hlen i ρ hT hInv x hx ρ2 N2 B vo hXs hag hfr hT2 hvo
    rcases i with ⟨i, hi⟩
    have hi2 : i = 0 ∨ i = 1 ∨ i = 2 ∨ i = 3 ∨ i = 4 ∨ i = 5 ∨ i = 6 ∨ i = 7 ∨ i = 8 ∨ i = 9 ∨ i = 10 ∨ i = 11 := by omega
    rcases hi2 with rfl | rfl | rfl | rfl | rfl | rfl | rfl | rfl | rfl | rfl | rfl | rfl
    · have hx : x ∈ [zxstp_ar0, zxstp_ar1] := hx
      have hg : ∀ k, k < 5 → ρ2 k = ρ k := hag
      have hI := hInv
      have hI : ∃ m T T' L q k d : Nat, m ≤ 8 ∧ E0 75 2 = some (.int (Int32.ofNat m)) ∧ T + 100 ≤ 1073741824 ∧ E0 75 3 = some (.int (Int32.ofNat T)) ∧ L ≤ 300 ∧ d ≤ 100 ∧ (0 = 0 → T' = T) ∧ zyIst (zgNS r c) 0 m T T' L q k d E0 ρ E := hI
      obtain ⟨hF, hB, hM⟩ := hXs
      have hfr : ∀ a k, zyin [(74, 2, 3)] a k = false → E2 a k = E a k := hfr
      rcases List.mem_cons.mp hx with ex | hx
      · subst ex
        obtain ⟨m, T, T', L, q, k, d, hm, s1, hT1, s2, hL, hd, hz0, i1, i2, i3, i4, i5, i6, i7, eL, i8, i9, i10, i11, i12, i13, i14, i15, i16, i17, i18, i19, i20, i21⟩ := hI
        have hk : ∀ a k, ¬ (a = 74 ∧ 2 ≤ k ∧ k ≤ 3) → E2 a k = E a k := by
          intro a k n
          apply hfr
          cases hq : zyin [(74, 2, 3)] a k with
          | false => rfl
          | true =>
            obtain ⟨p0, g1, g2, g3, g4⟩ := zyin_iff.mp hq
            rw [List.mem_singleton.mp g1] at g2 g3 g4
            dsimp only at g2 g3 g4
            exact absurd ⟨g2.symm, by omega, by omega⟩ n
        have k75 : ∀ k, E2 75 k = E 75 k := fun k => hk 75 k (fun z => absurd z.1 (by decide))
        refine ⟨fun m' hm' hms' => ?_, fun a k n1 n2 n3 => (hk a k (fun z => n1 ⟨z.1, Or.inl z.2⟩)).trans (i1 a k n1 n2 n3), ⟨_, zyvo_1 (c := 34359738360) (by decide) (show zyvo (zyXn B ρ2 N2) [34359738360] vo from hvo)⟩, fun T2 c1 c2 => ?_⟩
        · have e0 := ((k75 2).trans (i1 75 2 (fun z => absurd z.1 (by decide)) (fun z => absurd z.2 (by decide)) (by decide))).trans s1
          rw [e0] at hms'
          have e1 := zyOi (by omega) (by omega) (Value.int.inj (Option.some.inj hms'))
          subst e1
          exact ⟨zLv_fr (k75 4) (fun k _ _ => k75 _) i5, zWv_fr (k75 5) (fun k _ => k75 _) i6, zT0_fr (k75 3) (k75 4) (i7 (by decide))⟩
        · rw [s2] at c2
          have e1 := zyOi (by omega) (by omega) (Value.int.inj (Option.some.inj c2))
          subst e1
          exact ⟨T', i3, by omega, (k75 3).trans i2⟩
      · skip
        have ex := List.mem_singleton.mp hx
        subst ex
        obtain ⟨m, T, T', L, q, k, d, hm, s1, hT1, s2, hL, hd, hz0, i1, i2, i3, i4, i5, i6, i7, eL, i8, i9, i10, i11, i12, i13, i14, i15, i16, i17, i18, i19, i20, i21⟩ := hI
        have hk : ∀ a k, ¬ (a = 74 ∧ 2 ≤ k ∧ k ≤ 3) → E2 a k = E a k := by
          intro a k n
          apply hfr
          cases hq : zyin [(74, 2, 3)] a k with
          | false => rfl
          | true =>
            obtain ⟨p0, g1, g2, g3, g4⟩ := zyin_iff.mp hq
            rw [List.mem_singleton.mp g1] at g2 g3 g4
            dsimp only at g2 g3 g4
            exact absurd ⟨g2.symm, by omega, by omega⟩ n
        have k75 : ∀ k, E2 75 k = E 75 k := fun k => hk 75 k (fun z => absurd z.1 (by decide))
        refine ⟨fun m' hm' hms' => ?_, fun a k n1 n2 n3 => (hk a k (fun z => n1 ⟨z.1, Or.inl z.2⟩)).trans (i1 a k n1 n2 n3), ⟨_, zyvo_1 (c := 34359738360) (by decide) (show zyvo (zyXn B ρ2 N2) [34359738360] vo from hvo)⟩, fun T2 c1 c2 => ?_⟩
        · have e0 := ((k75 2).trans (i1 75 2 (fun z => absurd z.1 (by decide)) (fun z => absurd z.2 (by decide)) (by decide))).trans s1
          rw [e0] at hms'
          have e1 := zyOi (by omega) (by omega) (Value.int.inj (Option.some.inj hms'))
          subst e1
          exact ⟨zLv_fr (k75 4) (fun k _ _ => k75 _) i5, zWv_fr (k75 5) (fun k _ => k75 _) i6, zT0_fr (k75 3) (k75 4) (i7 (by decide))⟩
        · rw [s2] at c2
          have e1 := zyOi (by omega) (by omega) (Value.int.inj (Option.some.inj c2))
          subst e1
          exact ⟨T', i3, by omega, (k75 3).trans i2⟩
    · have hx : x ∈ [zxstp_br0, zxstp_br1, zxstp_br2] := hx
      have hg : ∀ k, k < 5 → ρ2 k = ρ k := hag
      have hI := hInv
      have hI : ∃ m T T' L q k d : Nat, m ≤ 8 ∧ E0 75 2 = some (.int (Int32.ofNat m)) ∧ T + 100 ≤ 1073741824 ∧ E0 75 3 = some (.int (Int32.ofNat T)) ∧ L ≤ 300 ∧ d ≤ 100 ∧ (1 = 0 → T' = T) ∧ zyIst (zgNS r c) 1 m T T' L q k d E0 ρ E := hI
      obtain ⟨hF, hB, hM⟩ := hXs
      have hfr : ∀ a k, zyin [(74, 2, 2)] a k = false → E2 a k = E a k := hfr
      rcases List.mem_cons.mp hx with ex | hx
      · subst ex
        obtain ⟨m, T, T', L, q, k, d, hm, s1, hT1, s2, hL, hd, hz0, i1, i2, i3, i4, i5, i6, i7, eL, i8, i9, i10, i11, i12, i13, i14, i15, i16, i17, i18, i19, i20, i21⟩ := hI
        have hk : ∀ a k, ¬ (a = 74 ∧ 2 ≤ k ∧ k ≤ 3) → E2 a k = E a k := by
          intro a k n
          apply hfr
          cases hq : zyin [(74, 2, 2)] a k with
          | false => rfl
          | true =>
            obtain ⟨p0, g1, g2, g3, g4⟩ := zyin_iff.mp hq
            rw [List.mem_singleton.mp g1] at g2 g3 g4
            dsimp only at g2 g3 g4
            exact absurd ⟨g2.symm, by omega, by omega⟩ n
        have k75 : ∀ k, E2 75 k = E 75 k := fun k => hk 75 k (fun z => absurd z.1 (by decide))
        refine ⟨fun m' hm' hms' => ?_, fun a k n1 n2 n3 => (hk a k (fun z => n1 ⟨z.1, Or.inl z.2⟩)).trans (i1 a k n1 n2 n3), ⟨_, zyvo_1 (c := 68719476737) (by decide) (show zyvo (zyXn B ρ2 N2) [68719476737] vo from hvo)⟩, fun T2 c1 c2 => ?_⟩
        · have e0 := ((k75 2).trans (i1 75 2 (fun z => absurd z.1 (by decide)) (fun z => absurd z.2 (by decide)) (by decide))).trans s1
          rw [e0] at hms'
          have e1 := zyOi (by omega) (by omega) (Value.int.inj (Option.some.inj hms'))
          subst e1
          exact ⟨zLv_fr (k75 4) (fun k _ _ => k75 _) i5, zWv_fr (k75 5) (fun k _ => k75 _) i6, zT0_fr (k75 3) (k75 4) (i7 (by decide))⟩
        · rw [s2] at c2
          have e1 := zyOi (by omega) (by omega) (Value.int.inj (Option.some.inj c2))
          subst e1
          exact ⟨T', i3, by omega, (k75 3).trans i2⟩
      · skip
        rcases List.mem_cons.mp hx with ex | hx
        · subst ex
          obtain ⟨m, T, T', L, q, k, d, hm, s1, hT1, s2, hL, hd, hz0, i1, i2, i3, i4, i5, i6, i7, eL, i8, i9, i10, i11, i12, i13, i14, i15, i16, i17, i18, i19, i20, i21⟩ := hI
          have hk : ∀ a k, ¬ (a = 74 ∧ 2 ≤ k ∧ k ≤ 3) → E2 a k = E a k := by
            intro a k n
            apply hfr
            cases hq : zyin [(74, 2, 2)] a k with
            | false => rfl
            | true =>
              obtain ⟨p0, g1, g2, g3, g4⟩ := zyin_iff.mp hq
              rw [List.mem_singleton.mp g1] at g2 g3 g4
              dsimp only at g2 g3 g4
              exact absurd ⟨g2.symm, by omega, by omega⟩ n
          have k75 : ∀ k, E2 75 k = E 75 k := fun k => hk 75 k (fun z => absurd z.1 (by decide))
          refine ⟨fun m' hm' hms' => ?_, fun a k n1 n2 n3 => (hk a k (fun z => n1 ⟨z.1, Or.inl z.2⟩)).trans (i1 a k n1 n2 n3), ⟨_, zyvo_1 (c := 34359738360) (by decide) (show zyvo (zyXn B ρ2 N2) [34359738360] vo from hvo)⟩, fun T2 c1 c2 => ?_⟩
          · have e0 := ((k75 2).trans (i1 75 2 (fun z => absurd z.1 (by decide)) (fun z => absurd z.2 (by decide)) (by decide))).trans s1
            rw [e0] at hms'
            have e1 := zyOi (by omega) (by omega) (Value.int.inj (Option.some.inj hms'))
            subst e1
            exact ⟨zLv_fr (k75 4) (fun k _ _ => k75 _) i5, zWv_fr (k75 5) (fun k _ => k75 _) i6, zT0_fr (k75 3) (k75 4) (i7 (by decide))⟩
          · rw [s2] at c2
            have e1 := zyOi (by omega) (by omega) (Value.int.inj (Option.some.inj c2))
            subst e1
            exact ⟨T', i3, by omega, (k75 3).trans i2⟩
        · skip
          have ex := List.mem_singleton.mp hx
          subst ex
          obtain ⟨m, T, T', L, q, k, d, hm, s1, hT1, s2, hL, hd, hz0, i1, i2, i3, i4, i5, i6, i7, eL, i8, i9, i10, i11, i12, i13, i14, i15, i16, i17, i18, i19, i20, i21⟩ := hI
          have hk : ∀ a k, ¬ (a = 74 ∧ 2 ≤ k ∧ k ≤ 3) → E2 a k = E a k := by
            intro a k n
            apply hfr
            cases hq : zyin [(74, 2, 2)] a k with
            | false => rfl
            | true =>
              obtain ⟨p0, g1, g2, g3, g4⟩ := zyin_iff.mp hq
              rw [List.mem_singleton.mp g1] at g2 g3 g4
              dsimp only at g2 g3 g4
              exact absurd ⟨g2.symm, by omega, by omega⟩ n
          have k75 : ∀ k, E2 75 k = E 75 k := fun k => hk 75 k (fun z => absurd z.1 (by decide))
          refine ⟨fun m' hm' hms' => ?_, fun a k n1 n2 n3 => (hk a k (fun z => n1 ⟨z.1, Or.inl z.2⟩)).trans (i1 a k n1 n2 n3), ⟨_, zyvo_1 (c := 68719476737) (by decide) (show zyvo (zyXn B ρ2 N2) [68719476737] vo from hvo)⟩, fun T2 c1 c2 => ?_⟩
          · have e0 := ((k75 2).trans (i1 75 2 (fun z => absurd z.1 (by decide)) (fun z => absurd z.2 (by decide)) (by decide))).trans s1
            rw [e0] at hms'
            have e1 := zyOi (by omega) (by omega) (Value.int.inj (Option.some.inj hms'))
            subst e1
            exact ⟨zLv_fr (k75 4) (fun k _ _ => k75 _) i5, zWv_fr (k75 5) (fun k _ => k75 _) i6, zT0_fr (k75 3) (k75 4) (i7 (by decide))⟩
          · rw [s2] at c2
            have e1 := zyOi (by omega) (by omega) (Value.int.inj (Option.some.inj c2))
            subst e1
            exact ⟨T', i3, by omega, (k75 3).trans i2⟩
    · cases hx
    · cases hx
    · cases hx
    · cases hx
    · cases hx
    · cases hx
    · cases hx
    · cases hx
    · cases hx
    · cases hx
