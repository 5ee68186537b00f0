/-! THE REFERENCE: turned, gateAt, facing as functions -/
noncomputable def zyGq (r c : Nat) : Nat := Nat.add (Nat.mul 8 (Nat.add 9223372032559808512 (Nat.add 2147483647 (zgNG r c)))) 2
theorem zyGq_def (r c : Nat) : zyGq r c = 8 * (2147483647 * 4294967296 + (2147483647 + zgNG r c)) + 2 := rfl
theorem zyS1_def (r c : Nat) : zyS1 r c = 8 * (2147483647 * 4294967296 + (2147483647 + 4 * (r * c))) + 2 := rfl
theorem zyrc20 {r c : Nat} (h2 : r ≤ 4) (h4 : c ≤ 5) : r * c ≤ 20 := Nat.mul_le_mul h2 h4
theorem zgNS_le {r c : Nat} (h2 : r ≤ 4) (h4 : c ≤ 5) : zgNS r c ≤ 80 := by
  have := zyrc20 h2 h4
  show 4 * (r * c) ≤ 80
  omega
theorem zgNG_le {r c : Nat} (h2 : r ≤ 4) (h4 : c ≤ 5) : zgNG r c ≤ 31 := by
  show r * (c - 1) + (r - 1) * c ≤ 31
  have h : ∀ r, r < 5 → ∀ c, c < 6 → r * (c - 1) + (r - 1) * c ≤ 31 := by decide
  exact h r (by omega) c (by omega)
theorem zgfacts {r c : Nat} (h1 : 1 ≤ r) (h2 : r ≤ 4) (h3 : 1 ≤ c) (h4 : c ≤ 5) {s : Nat} (hs : s < zgNS r c) : zgT c s < zgNS r c ∧ zgU c (zgT c s) = s ∧ (zgG r c s = 4294967295 ∨ (zgG r c s < zgNG r c ∧ zgF r c s < zgNS r c ∧ zgF r c (zgF r c s) = s ∧ zgG r c (zgF r c s) = zgG r c s)) := by
  have h := zyAll_iff (zyAllP_iff zgAll h1 h2 h3 h4) s hs
  obtain ⟨q1, q2⟩ := zand_iff h
  obtain ⟨q1, q3⟩ := zand_iff q1
  refine ⟨zbleT q1, zbeqT q3, ?_⟩
  rcases zif_iff q2 with ⟨q4, -⟩ | ⟨-, q4⟩
  · exact Or.inl (zbeqT q4)
  · obtain ⟨q5, q6⟩ := zand_iff q4
    obtain ⟨q5, q7⟩ := zand_iff q5
    obtain ⟨q6, q8⟩ := zand_iff q6
    exact Or.inr ⟨zbleT q5, zbleT q7, zbeqT q6, zbeqT q8⟩
theorem zB_of4 {n : Nat} (h : n < 2147483648) : zB (Int32.ofNat n) = n + 2147483648 := zB_nI h
theorem zB_none : zB (Int32.ofNat 4294967295) = 2147483647 := by decide
theorem zgF_none {r c s : Nat} (h : zgG r c s = 4294967295) : zgF r c s = 4294967295 := by
  unfold zgF
  rw [h]
  rfl
section ZYG
variable {l : Launch} {J : zyJt} {r c : Nat} {en : zEn} {me : zMe}
theorem zyturned (hJ : zyJr J) (h1 : 1 ≤ r) (h2 : r ≤ 4) (h3 : 1 ≤ c) (h4 : c ≤ 5) (hen : zG zxMeta 204 = some en) (hme : zG zMeth 204 = some me) : zyCon l (zymr r c) J en me ([595, zyS r c], [], [zyS r c, 0], 2, [], []) := by
  have hn := zgNS_le h2 h4
  refine zyslot1 (f := zgT c) (y := 204) hJ (zyrc20 h2 h4) (by omega) (by omega) (fun s hs => zyk1_ok hJ.1 (zyAll_iff (zyAllP_iff zgrunT h1 h2 h3 h4) s hs) hen hme) (fun s hs B => ?_) (fun E x y z hr hc hz => Or.inl ⟨by decide, Or.inl ⟨rfl, ?_⟩⟩)
  · have hb := (zgfacts h1 h2 h3 h4 hs).1
    have hb' : zgT c s < 4 * (r * c) := hb
    rw [zyS_def]
    exact zyv_bd (by rw [zB_of4 (by omega)]; omega) (by rw [zB_of4 (by omega)]; omega) (by have := zyrc20 h2 h4; omega)
  · rw [zgr_res.2, hc]
    exact hz
theorem zygateAt (hJ : zyJr J) (h1 : 1 ≤ r) (h2 : r ≤ 4) (h3 : 1 ≤ c) (h4 : c ≤ 5) (hen : zG zxMeta 202 = some en) (hme : zG zMeth 202 = some me) : zyCon l (zymr r c) J en me ([595, zyS r c], [], [zyGq r c, 1], 3, [], []) := by
  have hn := zgNS_le h2 h4
  have hg := zgNG_le h2 h4
  refine zyslot1 (f := zgG r c) (y := 202) hJ (zyrc20 h2 h4) (by omega) (by omega) (fun s hs => zyk1_ok hJ.1 (zyAll_iff (zyAllP_iff zgrunG h1 h2 h3 h4) s hs) hen hme) (fun s hs B => ?_) (fun E x y z hr hc hz => Or.inl ⟨by decide, Or.inr (Or.inl ⟨rfl, ?_⟩)⟩)
  · rw [zyGq_def]
    rcases (zgfacts h1 h2 h3 h4 hs).2.2 with e | ⟨e, -⟩
    · rw [e]
      exact zyv_bd (by rw [zB_none]; omega) (by rw [zB_none]; omega) (by omega)
    · exact zyv_bd (by rw [zB_of4 (by omega)]; omega) (by rw [zB_of4 (by omega)]; omega) (by omega)
  · rw [zgr_res.1, zgr_res.2, hr, hc]
    exact hz
theorem zyfacing (hJ : zyJr J) (h1 : 1 ≤ r) (h2 : r ≤ 4) (h3 : 1 ≤ c) (h4 : c ≤ 5) (hen : zG zxMeta 203 = some en) (hme : zG zMeth 203 = some me) : zyCon l (zymr r c) J en me ([595, zyS r c], [], [zyS1 r c, 2], 5, [], []) := by
  have hn := zgNS_le h2 h4
  have hrc := zyrc20 h2 h4
  refine zyslot1 (f := zgF r c) (y := 203) hJ (zyrc20 h2 h4) (by omega) (by omega) (fun s hs => zyk1_ok hJ.1 (zyAll_iff (zyAllP_iff zgrunF h1 h2 h3 h4) s hs) hen hme) (fun s hs B => ?_) (fun E x y z hr hc hz => Or.inl ⟨by decide, Or.inr (Or.inr (Or.inl ⟨rfl, ?_⟩))⟩)
  · rw [zyS1_def]
    rcases (zgfacts h1 h2 h3 h4 hs).2.2 with e | ⟨-, e, -⟩
    · rw [zgF_none e]
      exact zyv_bd (by rw [zB_none]; omega) (by rw [zB_none]; omega) (by omega)
    · have e : zgF r c s < 4 * (r * c) := e
      exact zyv_bd (by rw [zB_of4 (by omega)]; omega) (by rw [zB_of4 (by omega)]; omega) (by omega)
  · rw [zgr_res.1, zgr_res.2, hr, hc]
    exact hz
end ZYG
