/-! WRITERS: cut -/

def zyΦcu (_ : List Int32) (E : zyEm) : Prop := zJ1 E
def zyΨcu (_ : List Int32) (E E2 : zyEm) (vo : Option Value) : Prop := zJ1 E2 ∧ (∀ a k, ¬ (a = 74 ∧ 2 ≤ k ∧ k ≤ 3) → ¬ (a = 75 ∧ k = 4) → E2 a k = E a k) ∧ ∃ z : Int32, vo = some (.int z)
theorem zLv_0 {E : zyEm} {m : Nat} (h : zyI E 75 4 = Int32.ofNat 0) : zLv E m := fun k hk h2 => by
  rw [h, zyOl (by omega) (by omega)] at h2
  exact absurd h2 (Nat.not_lt_zero k)
theorem zycu_run : zyAllP (fun r c => zyrS (zymr r c) zxi281 (281, 0, 0, 1, 0) 8 zpcu (fun _ _ => []) zFcu zScu zXcu zRcu 1) = true := by decide +kernel
theorem zycut_H {l : Launch} {r c : Nat} (h1 : 1 ≤ r) (h2 : r ≤ 4) (h3 : 1 ≤ c) (h4 : c ≤ 5) {en : zEn} {me : zMe} (hen : zG zxMeta 281 = some en) (hme : zG zMeth 281 = some me) : zyHc l (zymr r c) en me 8 0 zyΦcu zyΨcu := by
  have een : zG zxMeta 281 = some (zxi281, 1, 2, 11, 281, 0, 0, 1, 0) := rfl
  obtain ⟨me1, hme1, hOK⟩ := zall hen
  rw [hme] at hme1
  cases hme1
  rw [een] at hen
  cases hen
  have hr := zyAllP_iff zycu_run h1 h2 h3 h4
  refine zycutS (mi := zymr r c) hOK rfl rfl ⟨_, rfl, rfl⟩ (ι := Fin 1) (fun i => zpcu i.val) (fun _ _ => []) (fun i => zFcu i.val) (fun i => zScu i.val) (fun i => zXcu i.val) (fun i => zRcu i.val) (fun i y2 ct en2 me2 h => by cases h) 200000 (fun i => zyAll_iff hr i.val i.isLt) ⟨0, by decide⟩ ⟨rfl, rfl, rfl, rfl⟩ ⟨by decide, by decide⟩
    (fun i as E0 ρ E => zJ1 E ∧ E = E0) (fun i as E0 ρ E => 0) ?_ ?_ ?_
  · intro as E hlen hT hΦ
    exact ⟨zEnv_c (zyfull _) (zEnv_c (zyfull _) zEnv_nil), hΦ, rfl⟩
  · intro as B s Wg hRu hT0 hΦ hlen i ρ H hT hInv hIH x hx ρ2 N2 H2 locs lsB stA hAt hXs hag hfr hT2
    rcases i with ⟨i, hi⟩
    have hi2 : i = 0 := by omega
    rcases hi2 with rfl
    · cases hx
  · intro as E0 E E2 hT0 hΦ hlen i ρ hT hInv x hx ρ2 N2 B vo hXs hag hfr hT2 hvo
    rcases i with ⟨i, hi⟩
    have hi2 : i = 0 := by omega
    rcases hi2 with rfl
    · have hx : x ∈ [zxcu_ar0] := hx
      have hg : ∀ k, k < 2 → ρ2 k = ρ k := hag
      have hI := hInv
      have hI : zJ1 E ∧ E = E0 := hI
      obtain ⟨hF, hB, hM⟩ := hXs
      have hfr : ∀ a k, zyin [(74, 2, 3), (75, 4, 4)] a k = false → E2 a k = E a k := hfr
      have ex := List.mem_singleton.mp hx
      subst ex
      have m1 := zyXm hM 0 rfl
      have m1 : E2 75 4 = some (.int (Int32.ofNat 0)) := m1
      have hk : ∀ a k, ¬ (a = 74 ∧ 2 ≤ k ∧ k ≤ 3) → ¬ (a = 75 ∧ k = 4) → E2 a k = E a k := by
        intro a k n1 n2
        apply hfr
        cases hq : zyin [(74, 2, 3), (75, 4, 4)] a k with
        | false => rfl
        | true =>
          obtain ⟨p0, g1, g2, g3, g4⟩ := zyin_iff.mp hq
          rcases List.mem_cons.mp g1 with rfl | g1
          · dsimp only at g2 g3 g4
            exact absurd ⟨g2.symm, g3, g4⟩ n1
          · rw [List.mem_singleton.mp g1] at g2 g3 g4
            dsimp only at g2 g3 g4
            exact absurd ⟨g2.symm, by omega⟩ n2
      have k75 : ∀ k, ¬ k = 4 → E2 75 k = E 75 k := fun k n => hk 75 k (fun z => absurd z.1 (by decide)) (fun z => n z.2)
      obtain ⟨hJ, hE⟩ := hI
      refine ⟨fun m hm hms => ?_, fun a k n1 n2 => (hk a k n1 n2).trans (by rw [hE]), ⟨_, zyvo_1 (c := 68719476737) (by decide) (show zyvo (zyXn B ρ2 N2) [68719476737] vo from hvo)⟩⟩
      rw [k75 2 (by decide)] at hms
      obtain ⟨j1, j2, j3⟩ := hJ m hm hms
      have z4 := zyI_s m1
      exact ⟨zLv_0 z4, zWv_fr (k75 5 (by decide)) (fun k _ => k75 _ (by omega)) j2, fun _ => z4⟩
