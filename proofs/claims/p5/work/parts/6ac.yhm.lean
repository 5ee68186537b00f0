/-! WRITERS: reset -/
def zyFrs (E E2 : zyEm) : Prop := ∀ a k, ¬ (a = 74 ∧ 2 ≤ k ∧ k ≤ 3) → ¬ (a = 75 ∧ 3 ≤ k ∧ k ≤ 4) → ¬ (a = 75 ∧ 144 ≤ k ∧ k ≤ 151) → E2 a k = E a k
def zyΦrs (_ : List Int32) (E : zyEm) : Prop := zJ1 E
def zyΨrs (_ : List Int32) (E E2 : zyEm) (vo : Option Value) : Prop := zJ1 E2 ∧ zyFrs E E2 ∧ E2 75 3 = some (.int (Int32.ofNat 0)) ∧ ∃ z : Int32, vo = some (.int z)
theorem zJ1_144 {E E2 : zyEm} (h : ∀ k, ¬ (144 ≤ k ∧ k ≤ 151) → E2 75 k = E 75 k) (hJ : zJ1 E) : zJ1 E2 := fun m hm hms => by
  rw [h 2 (by decide)] at hms
  obtain ⟨j1, j2, j3⟩ := hJ m hm hms
  exact ⟨zLv_fr (h 4 (by decide)) (fun k _ _ => h _ (by omega)) j1, zWv_fr (h 5 (by decide)) (fun k _ => h _ (by omega)) j2, zT0_fr (h 3 (by decide)) (h 4 (by decide)) j3⟩
theorem zyrse_run : zyAllP (fun r c => zyrS (zymr r c) zxi280 (280, 0, 0, 1, 0) 8 zprse (fun _ _ => []) zFrse zSrse zXrse zRrse 2) = true := by decide +kernel
theorem zyreset_H {l : Launch} {r c : Nat} (h1 : 1 ≤ r) (h2 : r ≤ 4) (h3 : 1 ≤ c) (h4 : c ≤ 5) {en : zEn} {me : zMe} (hen : zG zxMeta 280 = some en) (hme : zG zMeth 280 = some me) : zyHc l (zymr r c) en me 8 0 zyΦrs zyΨrs := by
  have een : zG zxMeta 280 = some (zxi280, 1, 3, 11, 280, 0, 0, 1, 0) := rfl
  obtain ⟨me1, hme1, hOK⟩ := zall hen
  rw [hme] at hme1
  cases hme1
  rw [een] at hen
  cases hen
  have hr := zyAllP_iff zyrse_run h1 h2 h3 h4
  refine zycutS (mi := zymr r c) hOK rfl rfl ⟨_, rfl, rfl⟩ (ι := Fin 2) (fun i => zprse i.val) (fun _ _ => []) (fun i => zFrse i.val) (fun i => zSrse i.val) (fun i => zXrse i.val) (fun i => zRrse i.val) (fun i y2 ct en2 me2 h => by cases h) 200000 (fun i => zyAll_iff hr i.val i.isLt) ⟨0, by decide⟩ ⟨rfl, rfl, rfl, rfl⟩ ⟨by decide, by decide⟩
    (fun i as E0 ρ E => zJ1 E ∧ zyFrs E0 E ∧ (i.val = 1 → E 75 3 = some (.int (Int32.ofNat 0)) ∧ ∃ b : Nat, b ≤ 8 ∧ ρ 2 = Int32.ofNat b)) (fun i as E0 ρ E => if i.val = 0 then 100 else 9 - zyN1 (ρ 2)) ?_ ?_ ?_
  · intro as E hlen hT hΦ
    exact ⟨zEnv_c (zyfull _) (zEnv_c (zyfull _) (zEnv_c (zyfull _) zEnv_nil)), hΦ, fun _ _ _ _ _ => rfl, fun h => absurd (show 0 = 1 from h) (by decide)⟩
  · intro as B s Wg hRu hT0 hΦ hlen i ρ H hT hInv hIH x hx ρ2 N2 H2 locs lsB stA hAt hXs hag hfr hT2
    rcases i with ⟨i, hi⟩
    have hi2 : i = 0 ∨ i = 1 := by omega
    rcases hi2 with rfl | rfl
    · have hx : x ∈ [zxrse_ax0] := hx
      have hg : ∀ k, k < 3 → ρ2 k = ρ k := hag
      have hI := hInv
      have hI : zJ1 (zyEl (zymr r c) B H) ∧ zyFrs (zyEl (zymr r c) B s.heap) (zyEl (zymr r c) B H) ∧ (0 = 1 → (zyEl (zymr r c) B H) 75 3 = some (.int (Int32.ofNat 0)) ∧ ∃ b : Nat, b ≤ 8 ∧ ρ 2 = Int32.ofNat b) := hI
      obtain ⟨hF, hB, hM⟩ := hXs
      have hfr : ∀ a k, zyin [(74, 2, 3), (75, 3, 4)] a k = false → (zyEl (zymr r c) B H2) a k = (zyEl (zymr r c) B H) a k := hfr
      have ex := List.mem_singleton.mp hx
      subst ex
      obtain ⟨hJ, i1, -⟩ := hI
      have m0 := zyXm hM 0 rfl
      have m0 : zyEl (zymr r c) B H2 75 3 = some (.int (Int32.ofNat 0)) := m0
      have m1 := zyXm hM 1 rfl
      have m1 : zyEl (zymr r c) B H2 75 4 = some (.int (Int32.ofNat 0)) := m1
      have hk : ∀ a k, ¬ (a = 74 ∧ 2 ≤ k ∧ k ≤ 3) → ¬ (a = 75 ∧ 3 ≤ k ∧ k ≤ 4) → zyEl (zymr r c) B H2 a k = zyEl (zymr r c) B H a k := by
        intro a k n1 n2
        apply hfr
        cases hq : zyin [(74, 2, 3), (75, 3, 4)] a k with
        | false => rfl
        | true =>
          obtain ⟨p0, g1, g2, g3, g4⟩ := zyin_iff.mp hq
          rcases List.mem_cons.mp g1 with rfl | g1
          · dsimp only at g2 g3 g4
            exact absurd ⟨g2.symm, g3, g4⟩ n1
          · rw [List.mem_singleton.mp g1] at g2 g3 g4
            dsimp only at g2 g3 g4
            exact absurd ⟨g2.symm, g3, g4⟩ n2
      have k75 : ∀ k, ¬ (3 ≤ k ∧ k ≤ 4) → zyEl (zymr r c) B H2 75 k = zyEl (zymr r c) B H 75 k := fun k n => hk 75 k (fun z => absurd z.1 (by decide)) (fun z => n z.2)
      have z4 := zyI_s m1
      refine zyGoB hIH hAt hB ⟨1, by decide⟩ [595, 103079215105, 0] rfl rfl rfl rfl ⟨fun m hm hms => ?_, fun a k n1 n2 n3 => (hk a k n1 n2).trans (i1 a k n1 n2 n3), fun _ => ⟨m0, 0, Nat.zero_le _, rfl⟩⟩ ?_
      · rw [k75 2 (by decide)] at hms
        obtain ⟨j1, j2, j3⟩ := hJ m hm hms
        exact ⟨zLv_0 z4, zWv_fr (k75 5 (by decide)) (fun k _ => k75 _ (by omega)) j2, fun _ => z4⟩
      · show 9 - zyN1 (Int32.ofNat 0) < 100
        omega
    · have hx : x ∈ [zxrse_bx0] := hx
      have hg : ∀ k, k < 3 → ρ2 k = ρ k := hag
      have hI := hInv
      have hI : zJ1 (zyEl (zymr r c) B H) ∧ zyFrs (zyEl (zymr r c) B s.heap) (zyEl (zymr r c) B H) ∧ (1 = 1 → (zyEl (zymr r c) B H) 75 3 = some (.int (Int32.ofNat 0)) ∧ ∃ b : Nat, b ≤ 8 ∧ ρ 2 = Int32.ofNat b) := hI
      obtain ⟨hF, hB, hM⟩ := hXs
      have hfr : ∀ a k, zyin [(75, 144, 151)] a k = false → (zyEl (zymr r c) B H2) a k = (zyEl (zymr r c) B H) a k := hfr
      have ex := List.mem_singleton.mp hx
      subst ex
      obtain ⟨hJ, i1, i2⟩ := hI
      obtain ⟨t0, b, hb, e2⟩ := i2 rfl
      have hk : ∀ k, ¬ (144 ≤ k ∧ k ≤ 151) → (zyEl (zymr r c) B H2) 75 k = (zyEl (zymr r c) B H) 75 k := by
        intro k n
        apply hfr
        cases hq : zyin [(75, 144, 151)] 75 k with
        | false => rfl
        | true =>
          obtain ⟨p0, g1, g2, g3, g4⟩ := zyin_iff.mp hq
          rw [List.mem_singleton.mp g1] at g2 g3 g4
          exact absurd ⟨g3, g4⟩ n
      have hka : ∀ a k, ¬ (a = 75 ∧ 144 ≤ k ∧ k ≤ 151) → (zyEl (zymr r c) B H2) a k = (zyEl (zymr r c) B H) a k := by
        intro a k n
        apply hfr
        cases hq : zyin [(75, 144, 151)] a k with
        | false => rfl
        | true =>
          obtain ⟨p0, g1, g2, g3, g4⟩ := zyin_iff.mp hq
          rw [List.mem_singleton.mp g1] at g2 g3 g4
          exact absurd ⟨g2.symm, g3, g4⟩ n
      have a2 : ρ2 2 = Int32.ofNat b := (hg 2 (by decide)).trans e2
      have kb : 2147483648 ≤ zB (ρ2 2) ∧ zB (ρ2 2) ≤ 2147483655 := zyXb hB 0 rfl
      rw [a2, zyBn (by omega)] at kb
      have a2' : ρ2 2 + Int32.ofNat 1 = Int32.ofNat (b + 1) := by rw [a2, zyOa]
      refine zyGoB hIH hAt hB ⟨1, by decide⟩ [595, 34359738369, 68719476745] rfl rfl rfl rfl ⟨zJ1_144 hk hJ, fun a k n1 n2 n3 => (hka a k n3).trans (i1 a k n1 n2 n3), fun _ => ⟨(hk 3 (by decide)).trans t0, b + 1, by omega, a2'⟩⟩ ?_
      show 9 - zyN1 (ρ2 2 + Int32.ofNat 1) < 9 - zyN1 (ρ 2)
      rw [a2', e2, zyN1_of (by omega), zyN1_of (by omega)]
      omega
  · intro as E0 E E2 hT0 hΦ hlen i ρ hT hInv x hx ρ2 N2 B vo hXs hag hfr hT2 hvo
    rcases i with ⟨i, hi⟩
    have hi2 : i = 0 ∨ i = 1 := by omega
    rcases hi2 with rfl | rfl
    · cases hx
    · have hx : x ∈ [zxrse_br0] := hx
      have hg : ∀ k, k < 3 → ρ2 k = ρ k := hag
      have hI := hInv
      have hI : zJ1 E ∧ zyFrs E0 E ∧ (1 = 1 → E 75 3 = some (.int (Int32.ofNat 0)) ∧ ∃ b : Nat, b ≤ 8 ∧ ρ 2 = Int32.ofNat b) := hI
      obtain ⟨hF, hB, hM⟩ := hXs
      have hfr : ∀ a k, zyin [(75, 144, 151)] a k = false → E2 a k = E a k := hfr
      have ex := List.mem_singleton.mp hx
      subst ex
      obtain ⟨hJ, i1, i2⟩ := hI
      obtain ⟨t0, b, hb, e2⟩ := i2 rfl
      have hk : ∀ k, ¬ (144 ≤ k ∧ k ≤ 151) → E2 75 k = E 75 k := by
        intro k n
        apply hfr
        cases hq : zyin [(75, 144, 151)] 75 k with
        | false => rfl
        | true =>
          obtain ⟨p0, g1, g2, g3, g4⟩ := zyin_iff.mp hq
          rw [List.mem_singleton.mp g1] at g2 g3 g4
          exact absurd ⟨g3, g4⟩ n
      have hka : ∀ a k, ¬ (a = 75 ∧ 144 ≤ k ∧ k ≤ 151) → E2 a k = E a k := by
        intro a k n
        apply hfr
        cases hq : zyin [(75, 144, 151)] a k with
        | false => rfl
        | true =>
          obtain ⟨p0, g1, g2, g3, g4⟩ := zyin_iff.mp hq
          rw [List.mem_singleton.mp g1] at g2 g3 g4
          exact absurd ⟨g2.symm, g3, g4⟩ n
      exact ⟨zJ1_144 hk hJ, fun a k n1 n2 n3 => (hka a k n3).trans (i1 a k n1 n2 n3), (hk 3 (by decide)).trans t0, ⟨_, zyvo_1 (c := 34359738369) (by decide) (show zyvo (zyXn B ρ2 N2) [34359738369] vo from hvo)⟩⟩
