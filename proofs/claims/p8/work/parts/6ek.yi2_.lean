section
/-! A TEXT is loaded -/
def zyΦld (_ : List Int32) (_ : zyEm) : Prop := True
def zyΨld (as : List Int32) (E E2 : zyEm) (vo : Option Value) : Prop := (∃ z : Int32, vo = some (.int z)) ∧ ∃ (x : Int32) (q : Nat), as = [x] ∧ q ≤ 900 ∧ E 74 33 = some (.int (Int32.ofNat q)) ∧ ((((x < Int32.ofNat 0) ∨ (Int32.ofNat q < x)) ∧ E2 74 33 = some (.int (Int32.ofNat q)) ∧ ∀ k, k < 556 → E2 75 k = E 75 k) ∨ (¬ x < Int32.ofNat 0 ∧ ¬ Int32.ofNat q < x ∧ E2 74 33 = some (.int (Int32.ofNat 0)) ∧ ((∀ k, k < 556 → E2 75 k = E 75 k) ∨ ∃ r c, zyPr r c ∧ zyT75 r c E2 ∧ zJl E2)))
theorem zylda_run : zyrS zymx zxi329 (329, 0, 0, 1, 0) 12 zplda (fun _ _ => []) zFlda zSlda zXlda zRlda 8 = true := by decide +kernel
theorem zyload {l : Launch} {en : zEn} {me : zMe} (hen : zG zxMeta 329 = some en) (hme : zG zMeth 329 = some me) : zyHc l zymx en me 12 1 zyΦld zyΨld := by
  have een : zG zxMeta 329 = some (zxi329, 2, 3, 11, 329, 0, 0, 1, 0) := rfl
  obtain ⟨me1, hme1, hOK⟩ := zall hen
  rw [hme] at hme1
  cases hme1
  rw [een] at hen
  cases hen
  have hr := zylda_run
  obtain ⟨merd, hmerd, -⟩ := zall (show zG zxMeta 314 = some (zxi314, 1, 1, 11, 314, 0, 0, 0, 0) from rfl)
  have hrd := zyreads (l := l) (show zG zxMeta 314 = some (zxi314, 1, 1, 11, 314, 0, 0, 0, 0) from rfl) hmerd
  obtain ⟨mera, hmera, -⟩ := zall (show zG zxMeta 328 = some (zxi328, 1, 3, 11, 328, 0, 0, 0, 0) from rfl)
  have hra := zyreadsAll (l := l) (show zG zxMeta 328 = some (zxi328, 1, 3, 11, 328, 0, 0, 0, 0) from rfl) hmera
  refine zycutS (mi := zymx) hOK rfl rfl ⟨_, rfl, rfl⟩ (ι := Fin 8) (fun i => zplda i.val) (fun _ _ => []) (fun i => zFlda i.val) (fun i => zSlda i.val) (fun i => zXlda i.val) (fun i => zRlda i.val) (fun i y2 ct en2 me2 h => by cases h) 200000 (fun i => zyAll_iff hr i.val i.isLt) ⟨0, by decide⟩ ⟨rfl, rfl, rfl, rfl⟩ ⟨by decide, by decide⟩
    (fun i as E0 ρ E => ∃ (x : Int32) (q K : Nat), as = [x] ∧ q ≤ 900 ∧ E0 74 33 = some (.int (Int32.ofNat q)) ∧ (i.val ≤ 3 → ρ 1 = x) ∧ (i.val = 0 → E = E0) ∧ (i.val = 1 → E = E0 ∧ ρ 3 = Int32.ofNat q) ∧ (2 ≤ i.val → ¬ x < Int32.ofNat 0 ∧ ¬ Int32.ofNat q < x) ∧ (i.val = 2 ∨ i.val = 3 → ρ 2 = Int32.ofNat K ∧ K ≤ 556 ∧ ∀ k, k < 556 → E 75 k = E0 75 k) ∧ (i.val = 2 → ∀ j, j < K → E 76 j = E0 75 j) ∧ (i.val = 3 → K ≤ 555 ∧ ∀ j, j ≤ K → E 76 j = E0 75 j) ∧ (4 ≤ i.val → ∀ j, j < 556 → E 76 j = E0 75 j) ∧ (i.val = 4 → zPn E) ∧ (i.val = 5 → ∃ w : Nat, w ≤ 9 ∧ E 74 36 = some (.int (Int32.ofNat w)) ∧ (w = 0 → ∃ r c, zyPr r c ∧ zyT75 r c E ∧ zJl E)) ∧ (6 ≤ i.val → E 74 33 = some (.int (Int32.ofNat 0)) ∧ ρ 2 = Int32.ofNat K ∧ K ≤ 556) ∧ (i.val = 6 → ∀ j, j < K → E 75 j = E0 75 j) ∧ (i.val = 7 → K ≤ 555 ∧ ∀ j, j ≤ K → E 75 j = E0 75 j)) (fun i as E0 ρ E => if i.val = 0 then 100000 else if i.val = 1 then 99999 else if i.val = 2 then 5001 + 2 * (556 - zyN1 (ρ 2)) else if i.val = 3 then 5000 + 2 * (556 - zyN1 (ρ 2)) else if i.val = 4 then 4000 else if i.val = 5 then 3999 else if i.val = 6 then 1 + 2 * (556 - zyN1 (ρ 2)) else 2 * (556 - zyN1 (ρ 2))) ?_ ?_ ?_
  · intro as E hlen hT hΦ
    obtain ⟨x0, rfl⟩ : ∃ x, as = [x] := by
      cases as with
      | nil => cases hlen
      | cons a t => cases t with
        | nil => exact ⟨a, rfl⟩
        | cons b u => cases hlen
    obtain ⟨q, hq, e⟩ := zc74 hT (k := 33) (lo := 2147483648) (hi := 2147484548) (by decide) rfl (by decide) (by decide)
    exact ⟨zEnv_c (zyfull _) (zEnv_c (zyfull _) (zEnv_c (zyfull _) zEnv_nil)), x0, q, 0, rfl, by omega, e, fun _ => rfl, fun _ => rfl, fun h => absurd (show 0 = 1 from h) (by decide), fun h => absurd (show 2 ≤ 0 from h) (by decide), fun h => absurd (show 0 = 2 ∨ 0 = 3 from h) (by decide), fun h => absurd (show 0 = 2 from h) (by decide), fun h => absurd (show 0 = 3 from h) (by decide), fun h => absurd (show 4 ≤ 0 from h) (by decide), fun h => absurd (show 0 = 4 from h) (by decide), fun h => absurd (show 0 = 5 from h) (by decide), fun h => absurd (show 6 ≤ 0 from h) (by decide), fun h => absurd (show 0 = 6 from h) (by decide), fun h => absurd (show 0 = 7 from h) (by decide)⟩
  · intro as B s Wg hRu hT0 hΦ hlen i ρ H hT hInv hIH x hx ρ2 N2 H2 locs lsB stA hAt hXs hag hfr hT2
    rcases i with ⟨i, hi⟩
    have hi2 : i = 0 ∨ i = 1 ∨ i = 2 ∨ i = 3 ∨ i = 4 ∨ i = 5 ∨ i = 6 ∨ i = 7 := by omega
    rcases hi2 with rfl | rfl | rfl | rfl | rfl | rfl | rfl | rfl
    · have hx : x ∈ [zxlda_zx0] := hx
      have hg : ∀ k, k < 3 → ρ2 k = ρ k := hag
      have hI := hInv
      have hI : ∃ (x : Int32) (q K : Nat), as = [x] ∧ q ≤ 900 ∧ (zyEl zymx B s.heap) 74 33 = some (.int (Int32.ofNat q)) ∧ (0 ≤ 3 → ρ 1 = x) ∧ (0 = 0 → (zyEl zymx B H) = (zyEl zymx B s.heap)) ∧ (0 = 1 → (zyEl zymx B H) = (zyEl zymx B s.heap) ∧ ρ 3 = Int32.ofNat q) ∧ (2 ≤ 0 → ¬ x < Int32.ofNat 0 ∧ ¬ Int32.ofNat q < x) ∧ (0 = 2 ∨ 0 = 3 → ρ 2 = Int32.ofNat K ∧ K ≤ 556 ∧ ∀ k, k < 556 → (zyEl zymx B H) 75 k = (zyEl zymx B s.heap) 75 k) ∧ (0 = 2 → ∀ j, j < K → (zyEl zymx B H) 76 j = (zyEl zymx B s.heap) 75 j) ∧ (0 = 3 → K ≤ 555 ∧ ∀ j, j ≤ K → (zyEl zymx B H) 76 j = (zyEl zymx B s.heap) 75 j) ∧ (4 ≤ 0 → ∀ j, j < 556 → (zyEl zymx B H) 76 j = (zyEl zymx B s.heap) 75 j) ∧ (0 = 4 → zPn (zyEl zymx B H)) ∧ (0 = 5 → ∃ w : Nat, w ≤ 9 ∧ (zyEl zymx B H) 74 36 = some (.int (Int32.ofNat w)) ∧ (w = 0 → ∃ r c, zyPr r c ∧ zyT75 r c (zyEl zymx B H) ∧ zJl (zyEl zymx B H))) ∧ (6 ≤ 0 → (zyEl zymx B H) 74 33 = some (.int (Int32.ofNat 0)) ∧ ρ 2 = Int32.ofNat K ∧ K ≤ 556) ∧ (0 = 6 → ∀ j, j < K → (zyEl zymx B H) 75 j = (zyEl zymx B s.heap) 75 j) ∧ (0 = 7 → K ≤ 555 ∧ ∀ j, j ≤ K → (zyEl zymx B H) 75 j = (zyEl zymx B s.heap) 75 j) := hI
      obtain ⟨hF, hB, hM⟩ := hXs
      have hEE : (zyEl zymx B H2) = (zyEl zymx B H) := zyfr0 hfr
      have ex := List.mem_singleton.mp hx
      subst ex
      obtain ⟨x0, q, K, has, hq, s1, r1, d0, d1, d2, d23, c2, c3, d4, c4, c5, d6, c6, c7⟩ := hI
      have ea := d0 rfl
      refine zyGoKi hIH hAt hB ⟨1, by decide⟩ [595, 34359738369, 0] [(0, 4294967295), (0, 4294967295), (0, 4294967295)] 2147483648 2147484548 rfl (by decide) rfl rfl rfl (74 * 16384 + 33) zymr74 rfl rfl (show 33 < 49 by decide) (Int32.ofNat q) ?_ ?_ ⟨x0, q, K, has, hq, s1, fun _ => (zyρi_n (by decide)).trans ((hg 1 (by decide)).trans (r1 (by decide))), fun h => absurd (show 1 = 0 from h) (by decide), fun _ => ⟨hEE.trans ea, zyρi_e⟩, fun h => absurd (show 2 ≤ 1 from h) (by decide), fun h => absurd (show 1 = 2 ∨ 1 = 3 from h) (by decide), fun h => absurd (show 1 = 2 from h) (by decide), fun h => absurd (show 1 = 3 from h) (by decide), fun h => absurd (show 4 ≤ 1 from h) (by decide), fun h => absurd (show 1 = 4 from h) (by decide), fun h => absurd (show 1 = 5 from h) (by decide), fun h => absurd (show 6 ≤ 1 from h) (by decide), fun h => absurd (show 1 = 6 from h) (by decide), fun h => absurd (show 1 = 7 from h) (by decide)⟩ (show 99999 < 100000 by decide)
      · show zyEl zymx B H2 74 33 = _
        rw [hEE, ea]
        exact s1
      · rw [zyBn (by omega)]
        omega
    · have hx : x ∈ [zxlda_ax0] := hx
      have hg : ∀ k, k < 4 → ρ2 k = ρ k := hag
      have hI := hInv
      have hI : ∃ (x : Int32) (q K : Nat), as = [x] ∧ q ≤ 900 ∧ (zyEl zymx B s.heap) 74 33 = some (.int (Int32.ofNat q)) ∧ (1 ≤ 3 → ρ 1 = x) ∧ (1 = 0 → (zyEl zymx B H) = (zyEl zymx B s.heap)) ∧ (1 = 1 → (zyEl zymx B H) = (zyEl zymx B s.heap) ∧ ρ 3 = Int32.ofNat q) ∧ (2 ≤ 1 → ¬ x < Int32.ofNat 0 ∧ ¬ Int32.ofNat q < x) ∧ (1 = 2 ∨ 1 = 3 → ρ 2 = Int32.ofNat K ∧ K ≤ 556 ∧ ∀ k, k < 556 → (zyEl zymx B H) 75 k = (zyEl zymx B s.heap) 75 k) ∧ (1 = 2 → ∀ j, j < K → (zyEl zymx B H) 76 j = (zyEl zymx B s.heap) 75 j) ∧ (1 = 3 → K ≤ 555 ∧ ∀ j, j ≤ K → (zyEl zymx B H) 76 j = (zyEl zymx B s.heap) 75 j) ∧ (4 ≤ 1 → ∀ j, j < 556 → (zyEl zymx B H) 76 j = (zyEl zymx B s.heap) 75 j) ∧ (1 = 4 → zPn (zyEl zymx B H)) ∧ (1 = 5 → ∃ w : Nat, w ≤ 9 ∧ (zyEl zymx B H) 74 36 = some (.int (Int32.ofNat w)) ∧ (w = 0 → ∃ r c, zyPr r c ∧ zyT75 r c (zyEl zymx B H) ∧ zJl (zyEl zymx B H))) ∧ (6 ≤ 1 → (zyEl zymx B H) 74 33 = some (.int (Int32.ofNat 0)) ∧ ρ 2 = Int32.ofNat K ∧ K ≤ 556) ∧ (1 = 6 → ∀ j, j < K → (zyEl zymx B H) 75 j = (zyEl zymx B s.heap) 75 j) ∧ (1 = 7 → K ≤ 555 ∧ ∀ j, j ≤ K → (zyEl zymx B H) 75 j = (zyEl zymx B s.heap) 75 j) := hI
      obtain ⟨hF, hB, hM⟩ := hXs
      have hfr : ∀ a k, zyin [(74, 2, 3)] a k = false → (zyEl zymx B H2) a k = (zyEl zymx B H) a k := hfr
      have ex := List.mem_singleton.mp hx
      subst ex
      obtain ⟨x0, q, K, has, hq, s1, r1, d0, d1, d2, d23, c2, c3, d4, c4, c5, d6, c6, c7⟩ := hI
      have a1 : ρ2 1 = x0 := (hg 1 (by decide)).trans (r1 (by decide))
      obtain ⟨ea, e3⟩ := d1 rfl
      have a3 : ρ2 3 = Int32.ofNat q := (hg 3 (by decide)).trans e3
      have hk : ∀ a k, ¬ (a = 74 ∧ 2 ≤ k ∧ k ≤ 3) → (zyEl zymx B H2) a k = (zyEl zymx B H) a k := by
        intro a k n0
        apply hfr
        cases hq : zyin [(74, 2, 3)] a k with
        | false => rfl
        | true =>
          obtain ⟨p0, g1, g2, g3, g4⟩ := zyin_iff.mp hq
          simp only [List.mem_cons, List.not_mem_nil, or_false] at g1
          rcases g1 with rfl
          · exact absurd ⟨g2.symm, g3, g4⟩ n0
      have f1 := zyX21 hF 0 rfl
      have f1 : ¬ ρ2 1 < Int32.ofNat 0 := f1
      have f2 := zyX21 hF 1 rfl
      have f2 : ¬ ρ2 3 < ρ2 1 := f2
      rw [a1] at f1 f2
      rw [a3] at f2
      refine zyGoB hIH hAt hB ⟨2, by decide⟩ [595, 34359738369, 0] rfl rfl rfl rfl ⟨x0, q, 0, has, hq, s1, fun _ => a1, fun h => absurd (show 2 = 0 from h) (by decide), fun h => absurd (show 2 = 1 from h) (by decide), fun _ => ⟨f1, f2⟩, fun _ => ⟨rfl, by omega, fun k _ => (hk 75 k (by omega)).trans (by rw [ea])⟩, fun _ => fun j hj => absurd hj (Nat.not_lt_zero j), fun h => absurd (show 2 = 3 from h) (by decide), fun h => absurd (show 4 ≤ 2 from h) (by decide), fun h => absurd (show 2 = 4 from h) (by decide), fun h => absurd (show 2 = 5 from h) (by decide), fun h => absurd (show 6 ≤ 2 from h) (by decide), fun h => absurd (show 2 = 6 from h) (by decide), fun h => absurd (show 2 = 7 from h) (by decide)⟩ ?_
      show 5001 + 2 * (556 - zyN1 (Int32.ofNat 0)) < 99999
      omega
    · have hx : x ∈ [zxlda_bx0, zxlda_bx1] := hx
      have hg : ∀ k, k < 3 → ρ2 k = ρ k := hag
      have hI := hInv
      have hI : ∃ (x : Int32) (q K : Nat), as = [x] ∧ q ≤ 900 ∧ (zyEl zymx B s.heap) 74 33 = some (.int (Int32.ofNat q)) ∧ (2 ≤ 3 → ρ 1 = x) ∧ (2 = 0 → (zyEl zymx B H) = (zyEl zymx B s.heap)) ∧ (2 = 1 → (zyEl zymx B H) = (zyEl zymx B s.heap) ∧ ρ 3 = Int32.ofNat q) ∧ (2 ≤ 2 → ¬ x < Int32.ofNat 0 ∧ ¬ Int32.ofNat q < x) ∧ (2 = 2 ∨ 2 = 3 → ρ 2 = Int32.ofNat K ∧ K ≤ 556 ∧ ∀ k, k < 556 → (zyEl zymx B H) 75 k = (zyEl zymx B s.heap) 75 k) ∧ (2 = 2 → ∀ j, j < K → (zyEl zymx B H) 76 j = (zyEl zymx B s.heap) 75 j) ∧ (2 = 3 → K ≤ 555 ∧ ∀ j, j ≤ K → (zyEl zymx B H) 76 j = (zyEl zymx B s.heap) 75 j) ∧ (4 ≤ 2 → ∀ j, j < 556 → (zyEl zymx B H) 76 j = (zyEl zymx B s.heap) 75 j) ∧ (2 = 4 → zPn (zyEl zymx B H)) ∧ (2 = 5 → ∃ w : Nat, w ≤ 9 ∧ (zyEl zymx B H) 74 36 = some (.int (Int32.ofNat w)) ∧ (w = 0 → ∃ r c, zyPr r c ∧ zyT75 r c (zyEl zymx B H) ∧ zJl (zyEl zymx B H))) ∧ (6 ≤ 2 → (zyEl zymx B H) 74 33 = some (.int (Int32.ofNat 0)) ∧ ρ 2 = Int32.ofNat K ∧ K ≤ 556) ∧ (2 = 6 → ∀ j, j < K → (zyEl zymx B H) 75 j = (zyEl zymx B s.heap) 75 j) ∧ (2 = 7 → K ≤ 555 ∧ ∀ j, j ≤ K → (zyEl zymx B H) 75 j = (zyEl zymx B s.heap) 75 j) := hI
      obtain ⟨hF, hB, hM⟩ := hXs
      have hfr : ∀ a k, zyin [(74, 36, 36), (74, 39, 39), (74, 42, 42)] a k = false → (zyEl zymx B H2) a k = (zyEl zymx B H) a k := hfr
      rcases List.mem_cons.mp hx with ex | hx
      · subst ex
        obtain ⟨x0, q, K, has, hq, s1, r1, d0, d1, d2, d23, c2, c3, d4, c4, c5, d6, c6, c7⟩ := hI
        have a1 : ρ2 1 = x0 := (hg 1 (by decide)).trans (r1 (by decide))
        obtain ⟨k1, k2, k3⟩ := d23 (Or.inl rfl)
        have a2 : ρ2 2 = Int32.ofNat K := (hg 2 (by decide)).trans k1
        have b2 := zyXb hB 1 rfl
        have b2 : 2147483648 ≤ zB (ρ2 2) ∧ zB (ρ2 2) ≤ 2147484203 := b2
        have hk : ∀ a k, ¬ (a = 74 ∧ 36 ≤ k ∧ k ≤ 36) → ¬ (a = 74 ∧ 39 ≤ k ∧ k ≤ 39) → ¬ (a = 74 ∧ 42 ≤ k ∧ k ≤ 42) → (zyEl zymx B H2) a k = (zyEl zymx B H) a k := by
          intro a k n0 n1 n2
          apply hfr
          cases hq : zyin [(74, 36, 36), (74, 39, 39), (74, 42, 42)] a k with
          | false => rfl
          | true =>
            obtain ⟨p0, g1, g2, g3, g4⟩ := zyin_iff.mp hq
            simp only [List.mem_cons, List.not_mem_nil, or_false] at g1
            rcases g1 with rfl | rfl | rfl
            · exact absurd ⟨g2.symm, g3, g4⟩ n0
            · exact absurd ⟨g2.symm, g3, g4⟩ n1
            · exact absurd ⟨g2.symm, g3, g4⟩ n2
        rw [a2, zyBn (by omega)] at b2
        obtain ⟨n8, u1, u2, u3⟩ := zyXe hF 0 rfl
        have u1 : ρ2 2 = Int32.ofNat n8 := u1
        have u3 : zyEl zymx B H 75 n8 = some (.int (ρ2 3)) := u3
        rw [a2] at u1
        have e8 := zyOi (by omega) (by omega) u1
        subst e8
        refine zyAsB hRu hIH hAt hB 76 K (20, 556, [(0, 555, 34359738362)]) rfl rfl rfl (cv := 103079215105) (cj := 68719476737) rfl (by decide) (by decide) ⟨3, by decide⟩ [595, 34359738369, 68719476737] rfl rfl rfl rfl (show K < 556 by omega) a2 ?_ ?_
        · intro r0 hr0 _ _
          rw [List.mem_singleton.mp hr0]
          exact ⟨rfl, zyfull _⟩
        · intro E3 hT3 p1 p2
          have p1 : E3 76 K = some (.int (ρ2 3)) := p1
          refine ⟨⟨x0, q, K, has, hq, s1, fun _ => a1, fun h => absurd (show 3 = 0 from h) (by decide), fun h => absurd (show 3 = 1 from h) (by decide), fun _ => d2 (by decide), fun _ => ⟨a2, k2, fun j hj => (p2 75 j (by omega)).trans ((hk 75 j (by omega) (by omega) (by omega)).trans (k3 j hj))⟩, fun h => absurd (show 3 = 2 from h) (by decide), fun _ => ⟨by omega, fun j hj => by
            by_cases ej : j = K
            · rw [ej, p1, ← k3 K (by omega)]
              exact u3.symm
            · exact (p2 76 j (fun z => ej z.2)).trans ((hk 76 j (by omega) (by omega) (by omega)).trans (c2 rfl j (by omega)))⟩, fun h => absurd (show 4 ≤ 3 from h) (by decide), fun h => absurd (show 3 = 4 from h) (by decide), fun h => absurd (show 3 = 5 from h) (by decide), fun h => absurd (show 6 ≤ 3 from h) (by decide), fun h => absurd (show 3 = 6 from h) (by decide), fun h => absurd (show 3 = 7 from h) (by decide)⟩, ?_⟩
          show 5000 + 2 * (556 - zyN1 (ρ2 2)) < 5001 + 2 * (556 - zyN1 (ρ 2))
          rw [hg 2 (by decide)]
          omega
      · skip
        have ex := List.mem_singleton.mp hx
        subst ex
        obtain ⟨x0, q, K, has, hq, s1, r1, d0, d1, d2, d23, c2, c3, d4, c4, c5, d6, c6, c7⟩ := hI
        have a1 : ρ2 1 = x0 := (hg 1 (by decide)).trans (r1 (by decide))
        obtain ⟨k1, k2, k3⟩ := d23 (Or.inl rfl)
        have a2 : ρ2 2 = Int32.ofNat K := (hg 2 (by decide)).trans k1
        have hk : ∀ a k, ¬ (a = 74 ∧ 36 ≤ k ∧ k ≤ 36) → ¬ (a = 74 ∧ 39 ≤ k ∧ k ≤ 39) → ¬ (a = 74 ∧ 42 ≤ k ∧ k ≤ 42) → (zyEl zymx B H2) a k = (zyEl zymx B H) a k := by
          intro a k n0 n1 n2
          apply hfr
          cases hq : zyin [(74, 36, 36), (74, 39, 39), (74, 42, 42)] a k with
          | false => rfl
          | true =>
            obtain ⟨p0, g1, g2, g3, g4⟩ := zyin_iff.mp hq
            simp only [List.mem_cons, List.not_mem_nil, or_false] at g1
            rcases g1 with rfl | rfl | rfl
            · exact absurd ⟨g2.symm, g3, g4⟩ n0
            · exact absurd ⟨g2.symm, g3, g4⟩ n1
            · exact absurd ⟨g2.symm, g3, g4⟩ n2
        have f9 := zyX21 hF 0 rfl
        have f9 : ¬ ρ2 2 < Int32.ofNat 556 := f9
        rw [a2, zyOl (by omega) (by omega)] at f9
        have m := zyXm hM 0 rfl
        have m : zyEl zymx B H2 74 39 = some (.int (Int32.ofNat 0)) := m
        have m1 := zyXm hM 1 rfl
        have m1 : zyEl zymx B H2 74 36 = some (.int (Int32.ofNat 0)) := m1
        refine zyCa0 hRu hIH hAt hB hrd (ix := 450) (ax := 5024) rfl rfl rfl hmerd ⟨rfl, rfl, rfl, rfl⟩ (by decide) [] rfl (by decide) rfl ⟨4, by decide⟩ [595, 0, 0] rfl rfl rfl rfl ?_ ?_
        · show zyΦrd [] _
          exact ⟨0, by decide, m⟩
        · intro E3 vo hT3 hΨ
          have hΨ : zyΨrd [] _ E3 vo := hΨ
          have hPn := zPn_rd hΨ
          obtain ⟨ev, p1, -⟩ := hΨ
          exact ⟨ev, ⟨x0, q, K, has, hq, s1, fun h => absurd (show 4 ≤ 3 from h) (by decide), fun h => absurd (show 4 = 0 from h) (by decide), fun h => absurd (show 4 = 1 from h) (by decide), fun _ => d2 (by decide), fun h => absurd (show 4 = 2 ∨ 4 = 3 from h) (by decide), fun h => absurd (show 4 = 2 from h) (by decide), fun h => absurd (show 4 = 3 from h) (by decide), fun _ => fun j hj => (p1 76 j (by omega)).trans ((hk 76 j (by omega) (by omega) (by omega)).trans (c2 rfl j (by omega))), fun _ => hPn, fun h => absurd (show 4 = 5 from h) (by decide), fun h => absurd (show 6 ≤ 4 from h) (by decide), fun h => absurd (show 4 = 6 from h) (by decide), fun h => absurd (show 4 = 7 from h) (by decide)⟩, (show 4000 < 5001 + 2 * (556 - zyN1 (ρ 2)) by omega)⟩
    · have hx : x ∈ [zxlda_cx0] := hx
      have hg : ∀ k, k < 3 → ρ2 k = ρ k := hag
      have hI := hInv
      have hI : ∃ (x : Int32) (q K : Nat), as = [x] ∧ q ≤ 900 ∧ (zyEl zymx B s.heap) 74 33 = some (.int (Int32.ofNat q)) ∧ (3 ≤ 3 → ρ 1 = x) ∧ (3 = 0 → (zyEl zymx B H) = (zyEl zymx B s.heap)) ∧ (3 = 1 → (zyEl zymx B H) = (zyEl zymx B s.heap) ∧ ρ 3 = Int32.ofNat q) ∧ (2 ≤ 3 → ¬ x < Int32.ofNat 0 ∧ ¬ Int32.ofNat q < x) ∧ (3 = 2 ∨ 3 = 3 → ρ 2 = Int32.ofNat K ∧ K ≤ 556 ∧ ∀ k, k < 556 → (zyEl zymx B H) 75 k = (zyEl zymx B s.heap) 75 k) ∧ (3 = 2 → ∀ j, j < K → (zyEl zymx B H) 76 j = (zyEl zymx B s.heap) 75 j) ∧ (3 = 3 → K ≤ 555 ∧ ∀ j, j ≤ K → (zyEl zymx B H) 76 j = (zyEl zymx B s.heap) 75 j) ∧ (4 ≤ 3 → ∀ j, j < 556 → (zyEl zymx B H) 76 j = (zyEl zymx B s.heap) 75 j) ∧ (3 = 4 → zPn (zyEl zymx B H)) ∧ (3 = 5 → ∃ w : Nat, w ≤ 9 ∧ (zyEl zymx B H) 74 36 = some (.int (Int32.ofNat w)) ∧ (w = 0 → ∃ r c, zyPr r c ∧ zyT75 r c (zyEl zymx B H) ∧ zJl (zyEl zymx B H))) ∧ (6 ≤ 3 → (zyEl zymx B H) 74 33 = some (.int (Int32.ofNat 0)) ∧ ρ 2 = Int32.ofNat K ∧ K ≤ 556) ∧ (3 = 6 → ∀ j, j < K → (zyEl zymx B H) 75 j = (zyEl zymx B s.heap) 75 j) ∧ (3 = 7 → K ≤ 555 ∧ ∀ j, j ≤ K → (zyEl zymx B H) 75 j = (zyEl zymx B s.heap) 75 j) := hI
      obtain ⟨hF, hB, hM⟩ := hXs
      have hEE : (zyEl zymx B H2) = (zyEl zymx B H) := zyfr0 hfr
      have ex := List.mem_singleton.mp hx
      subst ex
      obtain ⟨x0, q, K, has, hq, s1, r1, d0, d1, d2, d23, c2, c3, d4, c4, c5, d6, c6, c7⟩ := hI
      have a1 : ρ2 1 = x0 := (hg 1 (by decide)).trans (r1 (by decide))
      obtain ⟨k1, k2, k3⟩ := d23 (Or.inr rfl)
      obtain ⟨y1, y2⟩ := c3 rfl
      have a2 : ρ2 2 = Int32.ofNat K := (hg 2 (by decide)).trans k1
      have a2' : ρ2 2 + Int32.ofNat 1 = Int32.ofNat (K + 1) := by rw [a2, zyOa]
      refine zyGoB hIH hAt hB ⟨2, by decide⟩ [595, 34359738369, 68719476745] rfl rfl rfl rfl ⟨x0, q, (K + 1), has, hq, s1, fun _ => a1, fun h => absurd (show 2 = 0 from h) (by decide), fun h => absurd (show 2 = 1 from h) (by decide), fun _ => d2 (by decide), fun _ => ⟨a2', by omega, fun j hj => by rw [hEE]; exact k3 j hj⟩, fun _ => fun j hj => by rw [hEE]; exact y2 j (by omega), fun h => absurd (show 2 = 3 from h) (by decide), fun h => absurd (show 4 ≤ 2 from h) (by decide), fun h => absurd (show 2 = 4 from h) (by decide), fun h => absurd (show 2 = 5 from h) (by decide), fun h => absurd (show 6 ≤ 2 from h) (by decide), fun h => absurd (show 2 = 6 from h) (by decide), fun h => absurd (show 2 = 7 from h) (by decide)⟩ ?_
      show 5001 + 2 * (556 - zyN1 (ρ2 2 + Int32.ofNat 1)) < 5000 + 2 * (556 - zyN1 (ρ 2))
      rw [a2', k1, zyN1_of (by omega), zyN1_of (by omega)]
      omega
    · have hx : x ∈ [zxlda_dx0] := hx
      have hg : ∀ k, k < 3 → ρ2 k = ρ k := hag
      have hI := hInv
      have hI : ∃ (x : Int32) (q K : Nat), as = [x] ∧ q ≤ 900 ∧ (zyEl zymx B s.heap) 74 33 = some (.int (Int32.ofNat q)) ∧ (4 ≤ 3 → ρ 1 = x) ∧ (4 = 0 → (zyEl zymx B H) = (zyEl zymx B s.heap)) ∧ (4 = 1 → (zyEl zymx B H) = (zyEl zymx B s.heap) ∧ ρ 3 = Int32.ofNat q) ∧ (2 ≤ 4 → ¬ x < Int32.ofNat 0 ∧ ¬ Int32.ofNat q < x) ∧ (4 = 2 ∨ 4 = 3 → ρ 2 = Int32.ofNat K ∧ K ≤ 556 ∧ ∀ k, k < 556 → (zyEl zymx B H) 75 k = (zyEl zymx B s.heap) 75 k) ∧ (4 = 2 → ∀ j, j < K → (zyEl zymx B H) 76 j = (zyEl zymx B s.heap) 75 j) ∧ (4 = 3 → K ≤ 555 ∧ ∀ j, j ≤ K → (zyEl zymx B H) 76 j = (zyEl zymx B s.heap) 75 j) ∧ (4 ≤ 4 → ∀ j, j < 556 → (zyEl zymx B H) 76 j = (zyEl zymx B s.heap) 75 j) ∧ (4 = 4 → zPn (zyEl zymx B H)) ∧ (4 = 5 → ∃ w : Nat, w ≤ 9 ∧ (zyEl zymx B H) 74 36 = some (.int (Int32.ofNat w)) ∧ (w = 0 → ∃ r c, zyPr r c ∧ zyT75 r c (zyEl zymx B H) ∧ zJl (zyEl zymx B H))) ∧ (6 ≤ 4 → (zyEl zymx B H) 74 33 = some (.int (Int32.ofNat 0)) ∧ ρ 2 = Int32.ofNat K ∧ K ≤ 556) ∧ (4 = 6 → ∀ j, j < K → (zyEl zymx B H) 75 j = (zyEl zymx B s.heap) 75 j) ∧ (4 = 7 → K ≤ 555 ∧ ∀ j, j ≤ K → (zyEl zymx B H) 75 j = (zyEl zymx B s.heap) 75 j) := hI
      obtain ⟨hF, hB, hM⟩ := hXs
      have hEE : (zyEl zymx B H2) = (zyEl zymx B H) := zyfr0 hfr
      have ex := List.mem_singleton.mp hx
      subst ex
      obtain ⟨x0, q, K, has, hq, s1, r1, d0, d1, d2, d23, c2, c3, d4, c4, c5, d6, c6, c7⟩ := hI
      have x4 := d4 (by decide)
      have hPn := c4 rfl
      rw [← hEE] at hPn
      refine zyCa0 hRu hIH hAt hB hra (ix := 490) (ax := 5248) rfl rfl rfl hmera ⟨rfl, rfl, rfl, rfl⟩ (by decide) [] rfl (by decide) rfl ⟨5, by decide⟩ [595, 0, 0] rfl rfl rfl rfl hPn ?_
      intro E3 vo hT3 hΨ
      obtain ⟨ev, p1, p2, w, hw, ew, p3⟩ := (show zyΨra [] _ E3 vo from hΨ)
      exact ⟨ev, ⟨x0, q, K, has, hq, s1, fun h => absurd (show 5 ≤ 3 from h) (by decide), fun h => absurd (show 5 = 0 from h) (by decide), fun h => absurd (show 5 = 1 from h) (by decide), fun _ => d2 (by decide), fun h => absurd (show 5 = 2 ∨ 5 = 3 from h) (by decide), fun h => absurd (show 5 = 2 from h) (by decide), fun h => absurd (show 5 = 3 from h) (by decide), fun _ => fun j hj => (p2 j).trans (by rw [hEE]; exact x4 j hj), fun h => absurd (show 5 = 4 from h) (by decide), fun _ => ⟨w, hw, ew, p3⟩, fun h => absurd (show 6 ≤ 5 from h) (by decide), fun h => absurd (show 5 = 6 from h) (by decide), fun h => absurd (show 5 = 7 from h) (by decide)⟩, (show 3999 < 4000 by decide)⟩
    · have hx : x ∈ [zxlda_ex0] := hx
      have hg : ∀ k, k < 3 → ρ2 k = ρ k := hag
      have hI := hInv
      have hI : ∃ (x : Int32) (q K : Nat), as = [x] ∧ q ≤ 900 ∧ (zyEl zymx B s.heap) 74 33 = some (.int (Int32.ofNat q)) ∧ (5 ≤ 3 → ρ 1 = x) ∧ (5 = 0 → (zyEl zymx B H) = (zyEl zymx B s.heap)) ∧ (5 = 1 → (zyEl zymx B H) = (zyEl zymx B s.heap) ∧ ρ 3 = Int32.ofNat q) ∧ (2 ≤ 5 → ¬ x < Int32.ofNat 0 ∧ ¬ Int32.ofNat q < x) ∧ (5 = 2 ∨ 5 = 3 → ρ 2 = Int32.ofNat K ∧ K ≤ 556 ∧ ∀ k, k < 556 → (zyEl zymx B H) 75 k = (zyEl zymx B s.heap) 75 k) ∧ (5 = 2 → ∀ j, j < K → (zyEl zymx B H) 76 j = (zyEl zymx B s.heap) 75 j) ∧ (5 = 3 → K ≤ 555 ∧ ∀ j, j ≤ K → (zyEl zymx B H) 76 j = (zyEl zymx B s.heap) 75 j) ∧ (4 ≤ 5 → ∀ j, j < 556 → (zyEl zymx B H) 76 j = (zyEl zymx B s.heap) 75 j) ∧ (5 = 4 → zPn (zyEl zymx B H)) ∧ (5 = 5 → ∃ w : Nat, w ≤ 9 ∧ (zyEl zymx B H) 74 36 = some (.int (Int32.ofNat w)) ∧ (w = 0 → ∃ r c, zyPr r c ∧ zyT75 r c (zyEl zymx B H) ∧ zJl (zyEl zymx B H))) ∧ (6 ≤ 5 → (zyEl zymx B H) 74 33 = some (.int (Int32.ofNat 0)) ∧ ρ 2 = Int32.ofNat K ∧ K ≤ 556) ∧ (5 = 6 → ∀ j, j < K → (zyEl zymx B H) 75 j = (zyEl zymx B s.heap) 75 j) ∧ (5 = 7 → K ≤ 555 ∧ ∀ j, j ≤ K → (zyEl zymx B H) 75 j = (zyEl zymx B s.heap) 75 j) := hI
      obtain ⟨hF, hB, hM⟩ := hXs
      have hfr : ∀ a k, zyin [(74, 2, 2), (74, 33, 35)] a k = false → (zyEl zymx B H2) a k = (zyEl zymx B H) a k := hfr
      have ex := List.mem_singleton.mp hx
      subst ex
      obtain ⟨x0, q, K, has, hq, s1, r1, d0, d1, d2, d23, c2, c3, d4, c4, c5, d6, c6, c7⟩ := hI
      have hk : ∀ a k, ¬ (a = 74 ∧ 2 ≤ k ∧ k ≤ 2) → ¬ (a = 74 ∧ 33 ≤ k ∧ k ≤ 35) → (zyEl zymx B H2) a k = (zyEl zymx B H) a k := by
        intro a k n0 n1
        apply hfr
        cases hq : zyin [(74, 2, 2), (74, 33, 35)] a k with
        | false => rfl
        | true =>
          obtain ⟨p0, g1, g2, g3, g4⟩ := zyin_iff.mp hq
          simp only [List.mem_cons, List.not_mem_nil, or_false] at g1
          rcases g1 with rfl | rfl
          · exact absurd ⟨g2.symm, g3, g4⟩ n0
          · exact absurd ⟨g2.symm, g3, g4⟩ n1
      have x4 := d4 (by decide)
      have m := zyXm hM 0 rfl
      have m : zyEl zymx B H2 74 33 = some (.int (Int32.ofNat 0)) := m
      refine zyGoB hIH hAt hB ⟨6, by decide⟩ [595, 0, 0] rfl rfl rfl rfl ⟨x0, q, 0, has, hq, s1, fun h => absurd (show 6 ≤ 3 from h) (by decide), fun h => absurd (show 6 = 0 from h) (by decide), fun h => absurd (show 6 = 1 from h) (by decide), fun _ => d2 (by decide), fun h => absurd (show 6 = 2 ∨ 6 = 3 from h) (by decide), fun h => absurd (show 6 = 2 from h) (by decide), fun h => absurd (show 6 = 3 from h) (by decide), fun _ => fun j hj => (hk 76 j (by omega) (by omega)).trans (x4 j hj), fun h => absurd (show 6 = 4 from h) (by decide), fun h => absurd (show 6 = 5 from h) (by decide), fun _ => ⟨m, rfl, by omega⟩, fun _ => fun j hj => absurd hj (Nat.not_lt_zero j), fun h => absurd (show 6 = 7 from h) (by decide)⟩ ?_
      show 1 + 2 * (556 - zyN1 (Int32.ofNat 0)) < 3999
      omega
    · have hx : x ∈ [zxlda_fx0] := hx
      have hg : ∀ k, k < 3 → ρ2 k = ρ k := hag
      have hI := hInv
      have hI : ∃ (x : Int32) (q K : Nat), as = [x] ∧ q ≤ 900 ∧ (zyEl zymx B s.heap) 74 33 = some (.int (Int32.ofNat q)) ∧ (6 ≤ 3 → ρ 1 = x) ∧ (6 = 0 → (zyEl zymx B H) = (zyEl zymx B s.heap)) ∧ (6 = 1 → (zyEl zymx B H) = (zyEl zymx B s.heap) ∧ ρ 3 = Int32.ofNat q) ∧ (2 ≤ 6 → ¬ x < Int32.ofNat 0 ∧ ¬ Int32.ofNat q < x) ∧ (6 = 2 ∨ 6 = 3 → ρ 2 = Int32.ofNat K ∧ K ≤ 556 ∧ ∀ k, k < 556 → (zyEl zymx B H) 75 k = (zyEl zymx B s.heap) 75 k) ∧ (6 = 2 → ∀ j, j < K → (zyEl zymx B H) 76 j = (zyEl zymx B s.heap) 75 j) ∧ (6 = 3 → K ≤ 555 ∧ ∀ j, j ≤ K → (zyEl zymx B H) 76 j = (zyEl zymx B s.heap) 75 j) ∧ (4 ≤ 6 → ∀ j, j < 556 → (zyEl zymx B H) 76 j = (zyEl zymx B s.heap) 75 j) ∧ (6 = 4 → zPn (zyEl zymx B H)) ∧ (6 = 5 → ∃ w : Nat, w ≤ 9 ∧ (zyEl zymx B H) 74 36 = some (.int (Int32.ofNat w)) ∧ (w = 0 → ∃ r c, zyPr r c ∧ zyT75 r c (zyEl zymx B H) ∧ zJl (zyEl zymx B H))) ∧ (6 ≤ 6 → (zyEl zymx B H) 74 33 = some (.int (Int32.ofNat 0)) ∧ ρ 2 = Int32.ofNat K ∧ K ≤ 556) ∧ (6 = 6 → ∀ j, j < K → (zyEl zymx B H) 75 j = (zyEl zymx B s.heap) 75 j) ∧ (6 = 7 → K ≤ 555 ∧ ∀ j, j ≤ K → (zyEl zymx B H) 75 j = (zyEl zymx B s.heap) 75 j) := hI
      obtain ⟨hF, hB, hM⟩ := hXs
      have hEE : (zyEl zymx B H2) = (zyEl zymx B H) := zyfr0 hfr
      have ex := List.mem_singleton.mp hx
      subst ex
      obtain ⟨x0, q, K, has, hq, s1, r1, d0, d1, d2, d23, c2, c3, d4, c4, c5, d6, c6, c7⟩ := hI
      obtain ⟨t0, k1, k2⟩ := d6 (by decide)
      have x4 := d4 (by decide)
      have a2 : ρ2 2 = Int32.ofNat K := (hg 2 (by decide)).trans k1
      have b2 := zyXb hB 0 rfl
      have b2 : 2147483648 ≤ zB (ρ2 2) ∧ zB (ρ2 2) ≤ 2147484203 := b2
      rw [a2, zyBn (by omega)] at b2
      obtain ⟨n8, u1, u2, u3⟩ := zyXe hF 0 rfl
      have u1 : ρ2 2 = Int32.ofNat n8 := u1
      have u3 : zyEl zymx B H 76 n8 = some (.int (ρ2 3)) := u3
      rw [a2] at u1
      have e8 := zyOi (by omega) (by omega) u1
      subst e8
      refine zyAsB hRu hIH hAt hB 75 K (20, 556, [(0, 555, 34359738362)]) rfl rfl rfl (cv := 103079215105) (cj := 68719476737) rfl (by decide) (by decide) ⟨7, by decide⟩ [595, 0, 68719476737] rfl rfl rfl rfl (show K < 556 by omega) a2 ?_ ?_
      · intro r0 hr0 _ _
        rw [List.mem_singleton.mp hr0]
        exact ⟨rfl, zyfull _⟩
      · intro E3 hT3 p1 p2
        have p1 : E3 75 K = some (.int (ρ2 3)) := p1
        rw [hEE] at p2
        refine ⟨⟨x0, q, K, has, hq, s1, fun h => absurd (show 7 ≤ 3 from h) (by decide), fun h => absurd (show 7 = 0 from h) (by decide), fun h => absurd (show 7 = 1 from h) (by decide), fun _ => d2 (by decide), fun h => absurd (show 7 = 2 ∨ 7 = 3 from h) (by decide), fun h => absurd (show 7 = 2 from h) (by decide), fun h => absurd (show 7 = 3 from h) (by decide), fun _ => fun j hj => (p2 76 j (by omega)).trans (x4 j hj), fun h => absurd (show 7 = 4 from h) (by decide), fun h => absurd (show 7 = 5 from h) (by decide), fun _ => ⟨(p2 74 33 (by omega)).trans t0, a2, k2⟩, fun h => absurd (show 7 = 6 from h) (by decide), fun _ => ⟨by omega, fun j hj => by
          by_cases ej : j = K
          · rw [ej, p1, ← x4 K (by omega)]
            exact u3.symm
          · exact (p2 75 j (fun z => ej z.2)).trans (c6 rfl j (by omega))⟩⟩, ?_⟩
        show 2 * (556 - zyN1 (ρ2 2)) < 1 + 2 * (556 - zyN1 (ρ 2))
        rw [hg 2 (by decide)]
        omega
    · have hx : x ∈ [zxlda_gx0] := hx
      have hg : ∀ k, k < 3 → ρ2 k = ρ k := hag
      have hI := hInv
      have hI : ∃ (x : Int32) (q K : Nat), as = [x] ∧ q ≤ 900 ∧ (zyEl zymx B s.heap) 74 33 = some (.int (Int32.ofNat q)) ∧ (7 ≤ 3 → ρ 1 = x) ∧ (7 = 0 → (zyEl zymx B H) = (zyEl zymx B s.heap)) ∧ (7 = 1 → (zyEl zymx B H) = (zyEl zymx B s.heap) ∧ ρ 3 = Int32.ofNat q) ∧ (2 ≤ 7 → ¬ x < Int32.ofNat 0 ∧ ¬ Int32.ofNat q < x) ∧ (7 = 2 ∨ 7 = 3 → ρ 2 = Int32.ofNat K ∧ K ≤ 556 ∧ ∀ k, k < 556 → (zyEl zymx B H) 75 k = (zyEl zymx B s.heap) 75 k) ∧ (7 = 2 → ∀ j, j < K → (zyEl zymx B H) 76 j = (zyEl zymx B s.heap) 75 j) ∧ (7 = 3 → K ≤ 555 ∧ ∀ j, j ≤ K → (zyEl zymx B H) 76 j = (zyEl zymx B s.heap) 75 j) ∧ (4 ≤ 7 → ∀ j, j < 556 → (zyEl zymx B H) 76 j = (zyEl zymx B s.heap) 75 j) ∧ (7 = 4 → zPn (zyEl zymx B H)) ∧ (7 = 5 → ∃ w : Nat, w ≤ 9 ∧ (zyEl zymx B H) 74 36 = some (.int (Int32.ofNat w)) ∧ (w = 0 → ∃ r c, zyPr r c ∧ zyT75 r c (zyEl zymx B H) ∧ zJl (zyEl zymx B H))) ∧ (6 ≤ 7 → (zyEl zymx B H) 74 33 = some (.int (Int32.ofNat 0)) ∧ ρ 2 = Int32.ofNat K ∧ K ≤ 556) ∧ (7 = 6 → ∀ j, j < K → (zyEl zymx B H) 75 j = (zyEl zymx B s.heap) 75 j) ∧ (7 = 7 → K ≤ 555 ∧ ∀ j, j ≤ K → (zyEl zymx B H) 75 j = (zyEl zymx B s.heap) 75 j) := hI
      obtain ⟨hF, hB, hM⟩ := hXs
      have hEE : (zyEl zymx B H2) = (zyEl zymx B H) := zyfr0 hfr
      have ex := List.mem_singleton.mp hx
      subst ex
      obtain ⟨x0, q, K, has, hq, s1, r1, d0, d1, d2, d23, c2, c3, d4, c4, c5, d6, c6, c7⟩ := hI
      obtain ⟨t0, k1, k2⟩ := d6 (by decide)
      have x4 := d4 (by decide)
      obtain ⟨y1, y2⟩ := c7 rfl
      have a2 : ρ2 2 = Int32.ofNat K := (hg 2 (by decide)).trans k1
      have a2' : ρ2 2 + Int32.ofNat 1 = Int32.ofNat (K + 1) := by rw [a2, zyOa]
      refine zyGoB hIH hAt hB ⟨6, by decide⟩ [595, 0, 68719476745] rfl rfl rfl rfl ⟨x0, q, (K + 1), has, hq, s1, fun h => absurd (show 6 ≤ 3 from h) (by decide), fun h => absurd (show 6 = 0 from h) (by decide), fun h => absurd (show 6 = 1 from h) (by decide), fun _ => d2 (by decide), fun h => absurd (show 6 = 2 ∨ 6 = 3 from h) (by decide), fun h => absurd (show 6 = 2 from h) (by decide), fun h => absurd (show 6 = 3 from h) (by decide), fun _ => fun j hj => by rw [hEE]; exact x4 j hj, fun h => absurd (show 6 = 4 from h) (by decide), fun h => absurd (show 6 = 5 from h) (by decide), fun _ => ⟨by rw [hEE]; exact t0, a2', by omega⟩, fun _ => fun j hj => by rw [hEE]; exact y2 j (by omega), fun h => absurd (show 6 = 7 from h) (by decide)⟩ ?_
      show 1 + 2 * (556 - zyN1 (ρ2 2 + Int32.ofNat 1)) < 2 * (556 - zyN1 (ρ 2))
      rw [a2', k1, zyN1_of (by omega), zyN1_of (by omega)]
      omega
  · intro as E0 E E2 hT0 hΦ hlen i ρ hT hInv x hx ρ2 N2 B vo hXs hag hfr hT2 hvo
    rcases i with ⟨i, hi⟩
    have hi2 : i = 0 ∨ i = 1 ∨ i = 2 ∨ i = 3 ∨ i = 4 ∨ i = 5 ∨ i = 6 ∨ i = 7 := by omega
    rcases hi2 with rfl | rfl | rfl | rfl | rfl | rfl | rfl | rfl
    · cases hx
    · have hx : x ∈ [zxlda_ar0, zxlda_ar1] := hx
      have hg : ∀ k, k < 4 → ρ2 k = ρ k := hag
      have hI := hInv
      have hI : ∃ (x : Int32) (q K : Nat), as = [x] ∧ q ≤ 900 ∧ E0 74 33 = some (.int (Int32.ofNat q)) ∧ (1 ≤ 3 → ρ 1 = x) ∧ (1 = 0 → E = E0) ∧ (1 = 1 → E = E0 ∧ ρ 3 = Int32.ofNat q) ∧ (2 ≤ 1 → ¬ x < Int32.ofNat 0 ∧ ¬ Int32.ofNat q < x) ∧ (1 = 2 ∨ 1 = 3 → ρ 2 = Int32.ofNat K ∧ K ≤ 556 ∧ ∀ k, k < 556 → E 75 k = E0 75 k) ∧ (1 = 2 → ∀ j, j < K → E 76 j = E0 75 j) ∧ (1 = 3 → K ≤ 555 ∧ ∀ j, j ≤ K → E 76 j = E0 75 j) ∧ (4 ≤ 1 → ∀ j, j < 556 → E 76 j = E0 75 j) ∧ (1 = 4 → zPn E) ∧ (1 = 5 → ∃ w : Nat, w ≤ 9 ∧ E 74 36 = some (.int (Int32.ofNat w)) ∧ (w = 0 → ∃ r c, zyPr r c ∧ zyT75 r c E ∧ zJl E)) ∧ (6 ≤ 1 → E 74 33 = some (.int (Int32.ofNat 0)) ∧ ρ 2 = Int32.ofNat K ∧ K ≤ 556) ∧ (1 = 6 → ∀ j, j < K → E 75 j = E0 75 j) ∧ (1 = 7 → K ≤ 555 ∧ ∀ j, j ≤ K → E 75 j = E0 75 j) := hI
      obtain ⟨hF, hB, hM⟩ := hXs
      have hfr : ∀ a k, zyin [(74, 2, 3)] a k = false → E2 a k = E a k := hfr
      rcases List.mem_cons.mp hx with ex | hx
      · subst ex
        obtain ⟨x0, q, K, has, hq, s1, r1, d0, d1, d2, d23, c2, c3, d4, c4, c5, d6, c6, c7⟩ := hI
        have a1 : ρ2 1 = x0 := (hg 1 (by decide)).trans (r1 (by decide))
        obtain ⟨ea, e3⟩ := d1 rfl
        have a3 : ρ2 3 = Int32.ofNat q := (hg 3 (by decide)).trans e3
        have hk : ∀ a k, ¬ (a = 74 ∧ 2 ≤ k ∧ k ≤ 3) → E2 a k = E a k := by
          intro a k n0
          apply hfr
          cases hq : zyin [(74, 2, 3)] a k with
          | false => rfl
          | true =>
            obtain ⟨p0, g1, g2, g3, g4⟩ := zyin_iff.mp hq
            simp only [List.mem_cons, List.not_mem_nil, or_false] at g1
            rcases g1 with rfl
            · exact absurd ⟨g2.symm, g3, g4⟩ n0
        have f1 := zyX20 hF 0 rfl
        have f1 : ρ2 1 < Int32.ofNat 0 := f1
        rw [a1] at f1
        exact ⟨⟨_, zyvo_1 (c := 34359738360) (by decide) (show zyvo (zyXn B ρ2 N2) [34359738360] vo from hvo)⟩, x0, q, has, hq, s1, Or.inl ⟨Or.inl f1, (hk 74 33 (by omega)).trans (by rw [ea]; exact s1), fun k _ => (hk 75 k (by omega)).trans (by rw [ea])⟩⟩
      · skip
        have ex := List.mem_singleton.mp hx
        subst ex
        obtain ⟨x0, q, K, has, hq, s1, r1, d0, d1, d2, d23, c2, c3, d4, c4, c5, d6, c6, c7⟩ := hI
        have a1 : ρ2 1 = x0 := (hg 1 (by decide)).trans (r1 (by decide))
        obtain ⟨ea, e3⟩ := d1 rfl
        have a3 : ρ2 3 = Int32.ofNat q := (hg 3 (by decide)).trans e3
        have hk : ∀ a k, ¬ (a = 74 ∧ 2 ≤ k ∧ k ≤ 3) → E2 a k = E a k := by
          intro a k n0
          apply hfr
          cases hq : zyin [(74, 2, 3)] a k with
          | false => rfl
          | true =>
            obtain ⟨p0, g1, g2, g3, g4⟩ := zyin_iff.mp hq
            simp only [List.mem_cons, List.not_mem_nil, or_false] at g1
            rcases g1 with rfl
            · exact absurd ⟨g2.symm, g3, g4⟩ n0
        have f1 := zyX20 hF 1 rfl
        have f1 : ρ2 3 < ρ2 1 := f1
        rw [a1, a3] at f1
        exact ⟨⟨_, zyvo_1 (c := 34359738360) (by decide) (show zyvo (zyXn B ρ2 N2) [34359738360] vo from hvo)⟩, x0, q, has, hq, s1, Or.inl ⟨Or.inr f1, (hk 74 33 (by omega)).trans (by rw [ea]; exact s1), fun k _ => (hk 75 k (by omega)).trans (by rw [ea])⟩⟩
    · cases hx
    · cases hx
    · cases hx
    · have hx : x ∈ [zxlda_er0] := hx
      have hg : ∀ k, k < 3 → ρ2 k = ρ k := hag
      have hI := hInv
      have hI : ∃ (x : Int32) (q K : Nat), as = [x] ∧ q ≤ 900 ∧ E0 74 33 = some (.int (Int32.ofNat q)) ∧ (5 ≤ 3 → ρ 1 = x) ∧ (5 = 0 → E = E0) ∧ (5 = 1 → E = E0 ∧ ρ 3 = Int32.ofNat q) ∧ (2 ≤ 5 → ¬ x < Int32.ofNat 0 ∧ ¬ Int32.ofNat q < x) ∧ (5 = 2 ∨ 5 = 3 → ρ 2 = Int32.ofNat K ∧ K ≤ 556 ∧ ∀ k, k < 556 → E 75 k = E0 75 k) ∧ (5 = 2 → ∀ j, j < K → E 76 j = E0 75 j) ∧ (5 = 3 → K ≤ 555 ∧ ∀ j, j ≤ K → E 76 j = E0 75 j) ∧ (4 ≤ 5 → ∀ j, j < 556 → E 76 j = E0 75 j) ∧ (5 = 4 → zPn E) ∧ (5 = 5 → ∃ w : Nat, w ≤ 9 ∧ E 74 36 = some (.int (Int32.ofNat w)) ∧ (w = 0 → ∃ r c, zyPr r c ∧ zyT75 r c E ∧ zJl E)) ∧ (6 ≤ 5 → E 74 33 = some (.int (Int32.ofNat 0)) ∧ ρ 2 = Int32.ofNat K ∧ K ≤ 556) ∧ (5 = 6 → ∀ j, j < K → E 75 j = E0 75 j) ∧ (5 = 7 → K ≤ 555 ∧ ∀ j, j ≤ K → E 75 j = E0 75 j) := hI
      obtain ⟨hF, hB, hM⟩ := hXs
      have hfr : ∀ a k, zyin [(74, 2, 2), (74, 33, 35)] a k = false → E2 a k = E a k := hfr
      have ex := List.mem_singleton.mp hx
      subst ex
      obtain ⟨x0, q, K, has, hq, s1, r1, d0, d1, d2, d23, c2, c3, d4, c4, c5, d6, c6, c7⟩ := hI
      have hk : ∀ a k, ¬ (a = 74 ∧ 2 ≤ k ∧ k ≤ 2) → ¬ (a = 74 ∧ 33 ≤ k ∧ k ≤ 35) → E2 a k = E a k := by
        intro a k n0 n1
        apply hfr
        cases hq : zyin [(74, 2, 2), (74, 33, 35)] a k with
        | false => rfl
        | true =>
          obtain ⟨p0, g1, g2, g3, g4⟩ := zyin_iff.mp hq
          simp only [List.mem_cons, List.not_mem_nil, or_false] at g1
          rcases g1 with rfl | rfl
          · exact absurd ⟨g2.symm, g3, g4⟩ n0
          · exact absurd ⟨g2.symm, g3, g4⟩ n1
      obtain ⟨na, ua1, ua2, ua3⟩ := zyXe hF 0 rfl
      have ua1 : Int32.ofNat 36 = Int32.ofNat na := ua1
      have ua3 : E 74 na = some (.int (ρ2 3)) := ua3
      have ea := zyOi (by omega) (by omega) ua1
      subst ea
      have b3 := zyXb hB 0 rfl
      have b3 : 2147483648 ≤ zB (ρ2 3) ∧ zB (ρ2 3) ≤ 2147483648 := b3
      obtain ⟨o1, o2⟩ := zyOn b3.1
      rw [o1, show zyN1 (ρ2 3) = 0 by omega] at ua3
      obtain ⟨w, hw, ew, p3⟩ := c5 rfl
      rw [ua3] at ew
      have w0 := zyOi (a := 0) (b := w) (by omega) (by omega) (Value.int.inj (Option.some.inj ew))
      obtain ⟨R, C, hp, k1, k2⟩ := p3 w0.symm
      have m := zyXm hM 0 rfl
      have m : E2 74 33 = some (.int (Int32.ofNat 0)) := m
      obtain ⟨y1, y2⟩ := d2 (by decide)
      have h75 : ∀ k, E2 75 k = E 75 k := fun k => hk 75 k (by omega) (by omega)
      refine ⟨⟨_, zyvo_1 (c := 240518168577) (by decide) (show zyvo (zyXn B ρ2 N2) [240518168577] vo from hvo)⟩, x0, q, has, hq, s1, Or.inr ⟨y1, y2, m, Or.inr ⟨R, C, hp, fun k hk2 b hb b1 b2 => ?_, zJl_fr (fun k _ => h75 k) k2⟩⟩⟩
      rw [h75 k]
      exact k1 k hk2 b hb b1 b2
    · have hx : x ∈ [zxlda_fr0] := hx
      have hg : ∀ k, k < 3 → ρ2 k = ρ k := hag
      have hI := hInv
      have hI : ∃ (x : Int32) (q K : Nat), as = [x] ∧ q ≤ 900 ∧ E0 74 33 = some (.int (Int32.ofNat q)) ∧ (6 ≤ 3 → ρ 1 = x) ∧ (6 = 0 → E = E0) ∧ (6 = 1 → E = E0 ∧ ρ 3 = Int32.ofNat q) ∧ (2 ≤ 6 → ¬ x < Int32.ofNat 0 ∧ ¬ Int32.ofNat q < x) ∧ (6 = 2 ∨ 6 = 3 → ρ 2 = Int32.ofNat K ∧ K ≤ 556 ∧ ∀ k, k < 556 → E 75 k = E0 75 k) ∧ (6 = 2 → ∀ j, j < K → E 76 j = E0 75 j) ∧ (6 = 3 → K ≤ 555 ∧ ∀ j, j ≤ K → E 76 j = E0 75 j) ∧ (4 ≤ 6 → ∀ j, j < 556 → E 76 j = E0 75 j) ∧ (6 = 4 → zPn E) ∧ (6 = 5 → ∃ w : Nat, w ≤ 9 ∧ E 74 36 = some (.int (Int32.ofNat w)) ∧ (w = 0 → ∃ r c, zyPr r c ∧ zyT75 r c E ∧ zJl E)) ∧ (6 ≤ 6 → E 74 33 = some (.int (Int32.ofNat 0)) ∧ ρ 2 = Int32.ofNat K ∧ K ≤ 556) ∧ (6 = 6 → ∀ j, j < K → E 75 j = E0 75 j) ∧ (6 = 7 → K ≤ 555 ∧ ∀ j, j ≤ K → E 75 j = E0 75 j) := hI
      obtain ⟨hF, hB, hM⟩ := hXs
      have hEE : E2 = E := zyfr0 hfr
      have ex := List.mem_singleton.mp hx
      subst ex
      obtain ⟨x0, q, K, has, hq, s1, r1, d0, d1, d2, d23, c2, c3, d4, c4, c5, d6, c6, c7⟩ := hI
      obtain ⟨t0, k1, k2⟩ := d6 (by decide)
      have a2 : ρ2 2 = Int32.ofNat K := (hg 2 (by decide)).trans k1
      have f9 := zyX21 hF 0 rfl
      have f9 : ¬ ρ2 2 < Int32.ofNat 556 := f9
      rw [a2, zyOl (by omega) (by omega)] at f9
      obtain ⟨y1, y2⟩ := d2 (by decide)
      exact ⟨⟨_, zyvo_1 (c := 34359738360) (by decide) (show zyvo (zyXn B ρ2 N2) [34359738360] vo from hvo)⟩, x0, q, has, hq, s1, Or.inr ⟨y1, y2, by rw [hEE]; exact t0, Or.inl fun k hk => by rw [hEE]; exact c6 rfl k (by omega)⟩⟩
    · cases hx
end
section
/-! FEED AND LOAD OF THE CLASS by the number of bytes on the tape (20 j of them) -/
noncomputable def zylwr0 : zyIn := (58, ([283, 73786976312018082850, 147], [(18, 5, 5), (18, 8, 8), (19, 0, 3), (20, 0, 79), (21, 0, 79), (22, 0, 79), (23, 0, 79), (24, 0, 79), (25, 0, 30), (26, 0, 30), (27, 0, 30), (28, 0, 30), (29, 0, 30), (30, 0, 30), (31, 0, 7), (32, 0, 7), (33, 1, 1), (34, 0, 59), (35, 1, 8)], [73786976312018075658], 9, [], [(573441, 0)]), [(0, 4, [283, 34359738369, 147, 13], [(0, 4294967295), (2147483648, 2147484548), (0, 4294967295), (0, 4294967295)], [], [(0, 200000), (0, 0)]), (41, 5, [283, 34359738369, 147, 103079215105], [(0, 4294967295), (2147483648, 2147484548), (0, 4294967295), (2147483648, 2147484549), (0, 4294967295)], [(573441, 0)], [(0, 99959), (1, 3)])], 2, 0, [0, 1, 2, 3, 4, 5, 6, 7, 8, 9, 10, 11, 12, 13, 14])
noncomputable def zylwr1 : zyIn := (58, ([283, 73786976312018082850, 11], [(1, 5, 5), (1, 8, 8), (2, 0, 3), (3, 0, 79), (4, 0, 79), (5, 0, 79), (6, 0, 79), (7, 0, 79), (8, 0, 30), (9, 0, 30), (10, 0, 30), (11, 0, 30), (12, 0, 30), (13, 0, 30), (14, 0, 7), (15, 0, 7), (16, 1, 1), (17, 0, 59), (35, 1, 8)], [73786976312018075658], 9, [], [(573441, 0)]), [(0, 4, [283, 34359738369, 11, 13], [(0, 4294967295), (2147483648, 2147484548), (0, 4294967295), (0, 4294967295)], [], [(0, 200000), (0, 0)]), (41, 5, [283, 34359738369, 11, 103079215105], [(0, 4294967295), (2147483648, 2147484548), (0, 4294967295), (2147483648, 2147484549), (0, 4294967295)], [(573441, 0)], [(0, 99959), (1, 3)])], 2, 0, [0, 1, 2, 3, 4, 5, 6, 7, 8, 9, 15, 16, 17, 18, 19])
noncomputable def zylwq (j : Nat) : Nat := Nat.mul 160 j
noncomputable def zylwa (j : Nat) : Nat := zif (Nat.ble j 44) (Nat.mul 160 (Nat.succ j)) 34359738360
noncomputable def zylwb (j : Nat) : Nat := zif (Nat.ble j 44) (Nat.mul 160 (Nat.succ j)) (Nat.mul 160 j)
noncomputable def zylwF (j : Nat) : zyIn := (120, ([3, 34359738362, 34359738362, 34359738362, 34359738362, 34359738362], [(35, 1, 1), (36, 0, 899)], [zylwa j], 3, [(573441, zylwq j)], [(573441, zylwb j)]), [(0, 7, [3, 34359738369, 68719476737, 103079215105, 137438953473, 171798691841], [(0, 4294967295), (0, 4294967295), (0, 4294967295), (0, 4294967295), (0, 4294967295), (0, 4294967295), (0, 4294967295)], [(573441, zylwq j)], [])], 0, 0, [])
noncomputable def zylwf : zyR := [(0, 0, 2), (1, 5, 5), (1, 8, 8), (2, 0, 3), (3, 0, 79), (4, 0, 79), (5, 0, 79), (6, 0, 79), (7, 0, 79), (8, 0, 30), (9, 0, 30), (10, 0, 30), (11, 0, 30), (12, 0, 30), (13, 0, 30), (14, 0, 7), (15, 0, 7), (16, 1, 1), (17, 0, 59), (18, 5, 5), (18, 8, 8), (19, 0, 3), (20, 0, 79), (21, 0, 79), (22, 0, 79), (23, 0, 79), (24, 0, 79), (25, 0, 30), (26, 0, 30), (27, 0, 30), (28, 0, 30), (29, 0, 30), (30, 0, 30), (31, 0, 7), (32, 0, 7), (33, 1, 1), (34, 0, 59), (35, 1, 8), (37, 1, 1), (39, 0, 1), (40, 0, 7), (42, 0, 7), (45, 1, 1), (67, 0, 0)]
noncomputable def zylwh (j : Nat) : Nat := Nat.add 2147483648 (Nat.mul 20 j)
noncomputable def zylwi (lo hi : Nat) : Nat := Nat.add (Nat.mul 8 (Nat.add (Nat.mul 4294967296 lo) hi)) 2
noncomputable def zylwA (j : Nat) : zyIn := (121, ([3, zylwi 2147483648 (zylwh j)], zylwf, [73786976277658337922], 11, [(573441, zylwq j)], [(573441, 0)]), [(0, 4, [3, 34359738369, 13], [(0, 4294967295), (2147483648, zylwh j), (0, 4294967295), (0, 4294967295)], [(573441, zylwq j)], [])], 0, 0, [22, 23, 20, 21])
noncomputable def zylwC (j : Nat) : zyIn := (121, ([3, zylwi (Nat.succ (zylwh j)) 4294967295], [(0, 0, 2)], [73786976277658337922], 11, [(573441, zylwq j)], []), [(0, 4, [3, 34359738369, 13], [(0, 4294967295), (Nat.succ (zylwh j), 4294967295), (0, 4294967295), (0, 4294967295)], [(573441, zylwq j)], [])], 0, 0, [])
noncomputable def zylwB : zyIn := (121, ([3, zylwi 0 2147483647], [(0, 0, 2)], [73786976277658337922], 11, [], []), [(0, 3, [3, 34359738369, 13], [(0, 4294967295), (0, 2147483647), (0, 4294967295)], [], [])], 0, 0, [])
noncomputable def zylwt_0 : List zyIn := [(zyIg zyic 11), (zyIg zyic 12), (zyIg zyic 14), (zyIg zyic 16), (zyIg zyic 18), (zyIg zyic 19), (zyIg zyic 20), (zyIg zyic 21)]
noncomputable def zylwt_1 : List zyIn := [(zyIg zyic 23), (zyIg zyic 24), (zyIg zyic 13), (zyIg zyic 15), (zyIg zyic 17), (zyIg zyic 22), (zyIg zyic 25), (zyIg zyic 29)]
noncomputable def zylwt_2 : List zyIn := [(zyIg zyic 30), (zyIg zyic 31), (zyIg zyic 32), (zyIg zyic 33), (zyIg zyic 28), (zyIg zyic 36), zylwr0, zylwr1]
noncomputable def zylwt_3 : List zyIn := [zylwF 0, zylwF 1, zylwF 2, zylwF 3, zylwF 4, zylwF 5, zylwF 6, zylwF 7]
noncomputable def zylwt_4 : List zyIn := [zylwF 8, zylwF 9, zylwF 10, zylwF 11, zylwF 12, zylwF 13, zylwF 14, zylwF 15]
noncomputable def zylwt_5 : List zyIn := [zylwF 16, zylwF 17, zylwF 18, zylwF 19, zylwF 20, zylwF 21, zylwF 22, zylwF 23]
noncomputable def zylwt_6 : List zyIn := [zylwF 24, zylwF 25, zylwF 26, zylwF 27, zylwF 28, zylwF 29, zylwF 30, zylwF 31]
noncomputable def zylwt_7 : List zyIn := [zylwF 32, zylwF 33, zylwF 34, zylwF 35, zylwF 36, zylwF 37, zylwF 38, zylwF 39]
noncomputable def zylwt_8 : List zyIn := [zylwF 40, zylwF 41, zylwF 42, zylwF 43, zylwF 44, zylwF 45, zylwA 0, zylwA 1]
noncomputable def zylwt_9 : List zyIn := [zylwA 2, zylwA 3, zylwA 4, zylwA 5, zylwA 6, zylwA 7, zylwA 8, zylwA 9]
noncomputable def zylwt_10 : List zyIn := [zylwA 10, zylwA 11, zylwA 12, zylwA 13, zylwA 14, zylwA 15, zylwA 16, zylwA 17]
noncomputable def zylwt_11 : List zyIn := [zylwA 18, zylwA 19, zylwA 20, zylwA 21, zylwA 22, zylwA 23, zylwA 24, zylwA 25]
noncomputable def zylwt_12 : List zyIn := [zylwA 26, zylwA 27, zylwA 28, zylwA 29, zylwA 30, zylwA 31, zylwA 32, zylwA 33]
noncomputable def zylwt_13 : List zyIn := [zylwA 34, zylwA 35, zylwA 36, zylwA 37, zylwA 38, zylwA 39, zylwA 40, zylwA 41]
noncomputable def zylwt_14 : List zyIn := [zylwA 42, zylwA 43, zylwA 44, zylwA 45, zylwC 0, zylwC 1, zylwC 2, zylwC 3]
noncomputable def zylwt_15 : List zyIn := [zylwC 4, zylwC 5, zylwC 6, zylwC 7, zylwC 8, zylwC 9, zylwC 10, zylwC 11]
noncomputable def zylwt_16 : List zyIn := [zylwC 12, zylwC 13, zylwC 14, zylwC 15, zylwC 16, zylwC 17, zylwC 18, zylwC 19]
noncomputable def zylwt_17 : List zyIn := [zylwC 20, zylwC 21, zylwC 22, zylwC 23, zylwC 24, zylwC 25, zylwC 26, zylwC 27]
noncomputable def zylwt_18 : List zyIn := [zylwC 28, zylwC 29, zylwC 30, zylwC 31, zylwC 32, zylwC 33, zylwC 34, zylwC 35]
noncomputable def zylwt_19 : List zyIn := [zylwC 36, zylwC 37, zylwC 38, zylwC 39, zylwC 40, zylwC 41, zylwC 42, zylwC 43]
noncomputable def zylwt_20 : List zyIn := [zylwC 44, zylwC 45, zylwB]
noncomputable def zylwt : List (List (List zyIn)) := [[zylwt_0, zylwt_1, zylwt_2, zylwt_3, zylwt_4, zylwt_5, zylwt_6, zylwt_7], [zylwt_8, zylwt_9, zylwt_10, zylwt_11, zylwt_12, zylwt_13, zylwt_14, zylwt_15], [zylwt_16, zylwt_17, zylwt_18, zylwt_19, zylwt_20]]
theorem zylw46 {p : Nat → Prop} {j : Nat} (hj : j < 46) (h0 : p 0) (h1 : p 1) (h2 : p 2) (h3 : p 3) (h4 : p 4) (h5 : p 5) (h6 : p 6) (h7 : p 7) (h8 : p 8) (h9 : p 9) (h10 : p 10) (h11 : p 11) (h12 : p 12) (h13 : p 13) (h14 : p 14) (h15 : p 15) (h16 : p 16) (h17 : p 17) (h18 : p 18) (h19 : p 19) (h20 : p 20) (h21 : p 21) (h22 : p 22) (h23 : p 23) (h24 : p 24) (h25 : p 25) (h26 : p 26) (h27 : p 27) (h28 : p 28) (h29 : p 29) (h30 : p 30) (h31 : p 31) (h32 : p 32) (h33 : p 33) (h34 : p 34) (h35 : p 35) (h36 : p 36) (h37 : p 37) (h38 : p 38) (h39 : p 39) (h40 : p 40) (h41 : p 41) (h42 : p 42) (h43 : p 43) (h44 : p 44) (h45 : p 45) : p j := by
  match j, hj with
  | 0, _ => exact h0
  | 1, _ => exact h1
  | 2, _ => exact h2
  | 3, _ => exact h3
  | 4, _ => exact h4
  | 5, _ => exact h5
  | 6, _ => exact h6
  | 7, _ => exact h7
  | 8, _ => exact h8
  | 9, _ => exact h9
  | 10, _ => exact h10
  | 11, _ => exact h11
  | 12, _ => exact h12
  | 13, _ => exact h13
  | 14, _ => exact h14
  | 15, _ => exact h15
  | 16, _ => exact h16
  | 17, _ => exact h17
  | 18, _ => exact h18
  | 19, _ => exact h19
  | 20, _ => exact h20
  | 21, _ => exact h21
  | 22, _ => exact h22
  | 23, _ => exact h23
  | 24, _ => exact h24
  | 25, _ => exact h25
  | 26, _ => exact h26
  | 27, _ => exact h27
  | 28, _ => exact h28
  | 29, _ => exact h29
  | 30, _ => exact h30
  | 31, _ => exact h31
  | 32, _ => exact h32
  | 33, _ => exact h33
  | 34, _ => exact h34
  | 35, _ => exact h35
  | 36, _ => exact h36
  | 37, _ => exact h37
  | 38, _ => exact h38
  | 39, _ => exact h39
  | 40, _ => exact h40
  | 41, _ => exact h41
  | 42, _ => exact h42
  | 43, _ => exact h43
  | 44, _ => exact h44
  | 45, _ => exact h45
  | n + 46, h => exact absurd h (by omega)
theorem zylwt_F {j : Nat} (hj : j < 46) : zyIg zylwt (24 + j) = zylwF j := zylw46 (p := fun j => zyIg zylwt (24 + j) = zylwF j) hj rfl rfl rfl rfl rfl rfl rfl rfl rfl rfl rfl rfl rfl rfl rfl rfl rfl rfl rfl rfl rfl rfl rfl rfl rfl rfl rfl rfl rfl rfl rfl rfl rfl rfl rfl rfl rfl rfl rfl rfl rfl rfl rfl rfl rfl rfl
theorem zylwt_A {j : Nat} (hj : j < 46) : zyIg zylwt (70 + j) = zylwA j := zylw46 (p := fun j => zyIg zylwt (70 + j) = zylwA j) hj rfl rfl rfl rfl rfl rfl rfl rfl rfl rfl rfl rfl rfl rfl rfl rfl rfl rfl rfl rfl rfl rfl rfl rfl rfl rfl rfl rfl rfl rfl rfl rfl rfl rfl rfl rfl rfl rfl rfl rfl rfl rfl rfl rfl rfl rfl
theorem zylwt_C {j : Nat} (hj : j < 46) : zyIg zylwt (116 + j) = zylwC j := zylw46 (p := fun j => zyIg zylwt (116 + j) = zylwC j) hj rfl rfl rfl rfl rfl rfl rfl rfl rfl rfl rfl rfl rfl rfl rfl rfl rfl rfl rfl rfl rfl rfl rfl rfl rfl rfl rfl rfl rfl rfl rfl rfl rfl rfl rfl rfl rfl rfl rfl rfl rfl rfl rfl rfl rfl rfl
theorem zylwt_B : zyIg zylwt 162 = zylwB := rfl
end
section
/-! they hold: the kernel runs them -/
theorem zylwc_r : zychks zymc zydc zylwt 22 2 = true := by decide +kernel
theorem zylwc_F : zychks zymc zydc zylwt 24 46 = true := by decide +kernel
theorem zylwc_A : zychks zymc zydc zylwt 70 46 = true := by decide +kernel
theorem zylwc_C : zychks zymc zydc zylwt 116 46 = true := by decide +kernel
theorem zylwc_B : zychks zymc zydc zylwt 162 1 = true := by decide +kernel
theorem zylwd {l : Launch} (hcl : ∀ i, i < 277 → zyCo l zymc zyJc zyic i) {i : Nat} (hi : i < 22) : zyCo l zymc zyJc zylwt i := by
  match i, hi with
  | 0, _ => exact hcl 11 (by decide)
  | 1, _ => exact hcl 12 (by decide)
  | 2, _ => exact hcl 14 (by decide)
  | 3, _ => exact hcl 16 (by decide)
  | 4, _ => exact hcl 18 (by decide)
  | 5, _ => exact hcl 19 (by decide)
  | 6, _ => exact hcl 20 (by decide)
  | 7, _ => exact hcl 21 (by decide)
  | 8, _ => exact hcl 23 (by decide)
  | 9, _ => exact hcl 24 (by decide)
  | 10, _ => exact hcl 13 (by decide)
  | 11, _ => exact hcl 15 (by decide)
  | 12, _ => exact hcl 17 (by decide)
  | 13, _ => exact hcl 22 (by decide)
  | 14, _ => exact hcl 25 (by decide)
  | 15, _ => exact hcl 29 (by decide)
  | 16, _ => exact hcl 30 (by decide)
  | 17, _ => exact hcl 31 (by decide)
  | 18, _ => exact hcl 32 (by decide)
  | 19, _ => exact hcl 33 (by decide)
  | 20, _ => exact hcl 28 (by decide)
  | 21, _ => exact hcl 36 (by decide)
  | n + 22, h => exact absurd h (by omega)
theorem zylwOK {l : Launch} (hcl : ∀ i, i < 277 → zyCo l zymc zyJc zyic i) : ∀ i, i < 163 → zyCo l zymc zyJc zylwt i := by
  intro i
  induction i using Nat.strongRecOn with
  | ind i IH =>
    intro hi
    have IH' : ∀ d, d < i → zyCo l zymc zyJc zylwt d := fun d hd => IH d hd (by omega)
    by_cases b0 : i < 22
    · exact zylwd hcl b0
    by_cases b1 : 22 ≤ i ∧ i < 24
    · exact zychk_ok (zychks_iff zylwc_r i (by omega) (by omega)) zyJc_p IH'
    by_cases b2 : 24 ≤ i ∧ i < 70
    · exact zychk_ok (zychks_iff zylwc_F i (by omega) (by omega)) zyJc_p IH'
    by_cases b3 : 70 ≤ i ∧ i < 116
    · exact zychk_ok (zychks_iff zylwc_A i (by omega) (by omega)) zyJc_p IH'
    by_cases b4 : 116 ≤ i ∧ i < 162
    · exact zychk_ok (zychks_iff zylwc_C i (by omega) (by omega)) zyJc_p IH'
    exact zychk_ok (zychks_iff zylwc_B i (by omega) (by omega)) zyJc_p IH'
end
section
/-! THE TWO SIDES: what the one does keeps what is said of the other -/
theorem zad_inj {B : zCx} {a a2 : Nat} (h : a < 90000) (h2 : a2 < 90000) (e : zad B a = zad B a2) : a = a2 := by
  unfold zad at e
  rw [if_pos h, if_pos h2] at e
  omega
theorem zySh_eqH {X : zCx} {U : State} {a : Nat} {c : zyCl} {H H2 : Heap} (e : H2[zad X a]? = H[zad X a]?) (h : zySh X U a c H) : zySh X U a c H2 := by
  unfold zySh at h ⊢
  rw [e]
  exact h
theorem zyEl_eqH {B : zyB} {X : zCx} {H H2 : Heap} {a : Nat} (e : H2[zad X a]? = H[zad X a]?) (k : Nat) : zyEl B X H2 a k = zyEl B X H a k := by
  unfold zyEl
  rw [e]
theorem zyEl_eqG {B B2 : zyB} {X : zCx} {H : Heap} {a : Nat} (e : zG B a = zG B2 a) (k : Nat) : zyEl B X H a k = zyEl B2 X H a k := by
  unfold zyEl
  rw [e]
theorem zyMI_keep {mi mi2 : zyB} {B : zCx} {J J2 : zyJt} {U : State} {H H2 : Heap} (h : zyMI mi B J U H) (h2 : zyMI mi2 B J2 U H2) (hout : zyOut mi2 B H H2) (hsh : ∀ a c c2, zG mi a = some c → zG mi2 a = some c2 → c2 = c) :
    (∀ a k, zG mi2 a = none → zyEl mi B H2 a k = zyEl mi B H a k) ∧ (J.1 (zyEl mi B H2) → zyMI mi B J U H2) := by
  have hH : ∀ a c, zG mi a = some c → zG mi2 a = none → H2[zad B a]? = H[zad B a]? := fun a c hg hn => hout _ (fun a2 c2 hg2 e => by
    have e2 := zad_inj (h.1 a c hg).1 (h2.1 a2 c2 hg2).1 e
    rw [e2, hg2] at hn
    cases hn)
  refine ⟨fun a k hn => ?_, fun hJ => ⟨fun a c hg => ⟨(h.1 a c hg).1, ?_⟩, fun a c k hg hk => ?_, hJ, h2.2.2.2⟩⟩
  · cases hg : zG mi a with
    | none =>
      unfold zyEl
      rw [hg]
    | some c => exact zyEl_eqH (hH a c hg hn) k
  · cases hn : zG mi2 a with
    | none => exact zySh_eqH (hH a c hg hn) (h.1 a c hg).2
    | some c2 =>
      have e := hsh a c c2 hg hn
      subst e
      exact (h2.1 a c2 hn).2
  · cases hn : zG mi2 a with
    | none =>
      rw [zyEl_eqH (hH a c hg hn) k]
      exact h.2.1 a c k hg hk
    | some c2 =>
      have e := hsh a c c2 hg hn
      subst e
      rw [zyEl_eqG (hg.trans hn.symm) k]
      exact h2.2.1 a c2 k hn hk
theorem zymc_lt {a : Nat} {c : zyCl} (h : zG zymc a = some c) : a < 74 := by
  obtain ⟨b, d, h1, h2, h3⟩ := zG_iff h
  have l1 : a / 64 < zymc.length := (List.getElem?_eq_some_iff.mp h1).1
  have l1 : a / 64 < 2 := l1
  by_cases e : a / 64 = 1
  · rw [e] at h1
    have h1 : some [zymc_8, zymc_9] = some b := h1
    have h1 := Option.some.inj h1
    subst h1
    have l2 := (List.getElem?_eq_some_iff.mp h2).1
    have l2 : a / 8 % 8 < 2 := l2
    by_cases e2 : a / 8 % 8 = 1
    · rw [e2] at h2
      have h2 : some zymc_9 = some d := h2
      have h2 := Option.some.inj h2
      subst h2
      have l3 := (List.getElem?_eq_some_iff.mp h3).1
      have l3 : a % 8 < 2 := l3
      omega
    · omega
  · omega
theorem zymrX_dom {x : zyCl} {a : Nat} {c : zyCl} (h : zG (zymrX x) a = some c) : 72 ≤ a ∧ a < 88 := by
  obtain ⟨b, d, h1, h2, h3⟩ := zG_iff h
  have l1 := (List.getElem?_eq_some_iff.mp h1).1
  have l1 : a / 64 < 2 := l1
  by_cases e : a / 64 = 1
  · rw [e] at h1
    have l2 := (List.getElem?_eq_some_iff.mp h2).1
    have l2 : a / 8 % 8 < b.length := l2
    have hb : b.length = 3 := by
      have q : (zymrX x)[1]? = some b := h1
      unfold zymrX at q
      have q := Option.some.inj (show some _ = some b from q)
      rw [← q]
      rfl
    by_cases e2 : a / 8 % 8 = 0
    · rw [e2] at h2
      exfalso
      have q : (zymrX x)[1]? = some b := h1
      unfold zymrX at q
      have q := Option.some.inj (show some _ = some b from q)
      rw [← q] at h2
      have h2 : some [] = some d := h2
      have h2 := Option.some.inj h2
      subst h2
      cases h3
    · omega
  · exfalso
    have e : a / 64 = 0 := by omega
    rw [e] at h1
    have h1 : some [] = some b := h1
    have h1 := Option.some.inj h1
    subst h1
    cases h2
theorem zyshared {x : zyCl} {a : Nat} {c c2 : zyCl} (h : zG zymc a = some c) (h2 : zG (zymrX x) a = some c2) : c2 = c := by
  have l1 := zymc_lt h
  have l2 := zymrX_dom h2
  have e : a = 72 ∨ a = 73 := by omega
  rcases e with rfl | rfl
  · exact Option.some.inj (h2.symm.trans (show zG (zymrX x) 72 = some c from h))
  · exact Option.some.inj (h2.symm.trans (show zG (zymrX x) 73 = some c from h))
theorem zymrX_no {x : zyCl} {a : Nat} (ha : a < 72) : zG (zymrX x) a = none := by
  cases h : zG (zymrX x) a with
  | none => rfl
  | some c =>
    have := zymrX_dom h
    omega
theorem zymc_no {a : Nat} (ha : 74 ≤ a) : zG zymc a = none := by
  cases h : zG zymc a with
  | none => rfl
  | some c =>
    have := zymc_lt h
    omega
/-- the class's side: bytes on the tape -/
def zyCS (B : zCx) (q : Nat) (U : State) (H : Heap) : Prop := zyMI zymc B zyJc U H ∧ zyEl zymc B H 35 1 = some (.int (Int32.ofNat q))
/-- the reference's side: some rows and columns; bytes on the tape; T at most N -/
def zyRS (B : zCx) (N q : Nat) (U : State) (H : Heap) : Prop := ∃ r c, zyPr r c ∧ zyMI (zymr r c) B zyJ0 U H ∧ zJ1 (zyEl zymx B H) ∧ zyEl zymx B H 74 33 = some (.int (Int32.ofNat q)) ∧ ∃ T : Nat, T ≤ N ∧ zyEl zymx B H 75 3 = some (.int (Int32.ofNat T))
theorem zyCS_keep {x : zyCl} {B : zCx} {J2 : zyJt} {q : Nat} {U : State} {H H2 : Heap} (h : zyCS B q U H) (h2 : zyMI (zymrX x) B J2 U H2) (ho : zyOut (zymrX x) B H H2) : zyCS B q U H2 := by
  obtain ⟨e, k⟩ := zyMI_keep h.1 h2 ho (fun a c c2 => zyshared)
  have lo : ∀ a k, a < 72 → zyEl zymc B H2 a k = zyEl zymc B H a k := fun a k ha => e a k (zymrX_no ha)
  refine ⟨k ?_, (lo 35 1 (by decide)).trans h.2⟩
  intro f g hfg i hi z y hz hy hp
  have hf : f < 72 := by omega
  have hg : g < 72 := by omega
  exact h.1.2.2.1 f g hfg i hi z y ((lo f i hf).symm.trans hz) ((lo g i hg).symm.trans hy) hp
theorem zyRS_keep {B : zCx} {J2 : zyJt} {N q : Nat} {U : State} {H H2 : Heap} (h : zyRS B N q U H) (h2 : zyMI zymc B J2 U H2) (ho : zyOut zymc B H H2) : zyRS B N q U H2 := by
  obtain ⟨r, c, hp, hI, hJ, ht, T, hT, hT2⟩ := h
  obtain ⟨e, k⟩ := zyMI_keep hI h2 ho (fun a c1 c2 h1 h2 => (zyshared (x := zymr75 r c) h2 h1).symm)
  have hi : ∀ a k, 74 ≤ a → zyEl zymx B H2 a k = zyEl zymx B H a k := by
    intro a k ha
    rw [← zyElx r c B H2, ← zyElx r c B H]
    exact e a k (zymc_no ha)
  exact ⟨r, c, hp, k trivial, zJ1_fr (fun k _ => hi 75 k (by decide)) hJ, (hi 74 33 (by decide)).trans ht, T, hT, (hi 75 3 (by decide)).trans hT2⟩
end
section
/-! FUNCTIONAL CONTRACTS: any base; references, then ints -/
def xAg (B : zCx) (ps : List Nat) (xs : List Int32) : List Value := (ps.map fun p => Value.ref (zad B p)) ++ xs.map Value.int
def xMt (l : Launch) (mi : zyB) (B : zCx) (en : zEn) (me : zMe) (dep : Nat) (As : List Value) (Φ : zyEm → Prop) (Ψ : zyEm → zyEm → Option Value → Prop) : Prop :=
  Met l me.1 [Cond.code me.1 me.2.1 en.2.2.1 me.2.2.1] { frames := dep, cells := en.2.2.2.2.2.1, slots := en.2.2.2.2.2.2.1, locals := 64 * dep } (va_Pc As (fun U => zKn B U ∧ zyMI mi B zyJ0 U U.heap ∧ Φ (zyEl mi B U.heap))) (zyHq mi B Ψ) en.2.2.2.2.2.1 en.2.2.2.2.2.2.1 (fun q => zbs B ≤ q)
def xGcB (l : Launch) (mi : zyB) (B : zCx) (en : zEn) (me : zMe) (dep : Nat) (ps : List Nat) (na : Nat) (Φ : List Int32 → zyEm → Prop) (Ψ : List Int32 → zyEm → zyEm → Option Value → Prop) : Prop := ∀ (xs : List Int32), xs.length = na → xMt l mi B en me dep (xAg B ps xs) (Φ xs) (Ψ xs)
theorem xAg_74 (B : zCx) (xs : List Int32) : xAg B [74] xs = zyAr B xs := rfl
theorem xGc_of {l : Launch} {mi : zyB} {B : zCx} {en : zEn} {me : zMe} {dep na : Nat} {Φ : List Int32 → zyEm → Prop} {Ψ : List Int32 → zyEm → zyEm → Option Value → Prop} (h : zyHc l mi en me dep na Φ Ψ) : xGcB l mi B en me dep [74] na Φ Ψ := fun xs hx => h B xs hx
/-- the rules by hand: a call, an element stored, a byte made of an int -/
def xRu (l : Launch) (mi : zyB) (en : zEn) (dep : Nat) (B : zCx) (s : State) (Wg : zyWt) : Prop :=
  (∀ (pc ix ax : Nat) (en2 : zEn) (me2 : zMe) (dep2 p0 : Nat) (As : List Value) (Φ2 : zyEm → Prop) (Ψ2 : zyEm → zyEm → Option Value → Prop) (rs : List Value) (H : Heap) (locs : List Loc) (lsB : Array Slot), (rs.map fun v => v.category).sum ≤ 8 → en.1 pc = (.invokevirtual ix, pc + 3, ax) → zG zKd (ax / 16) = some 0 → zG zxMeta (ax / 16) = some en2 → zG zMeth (ax / 16) = some me2 → (∃ c, zG mi p0 = some c ∧ c.1 = en2.2.2.2.1 ∧ c.1 < 12) → As.length + 1 = en2.2.1 → en2.2.2.2.2.2.1 = 0 → en2.2.2.2.2.2.2.1 = 0 → xMt l mi B en2 me2 dep2 (.ref (zad B p0) :: As) Φ2 Ψ2 → dep2 + 1 ≤ dep → zyMI mi B zyJ0 s H → (∀ x ∈ locs, zbs B ≤ x.base) → lsB.size = en.2.2.1 → Φ2 (zyEl mi B H) →
    (∀ (H3 : Heap) (locs3 : List Loc) (vo : Option Value), zyMI mi B zyJ0 s H3 → zyOut mi B H H3 → (∀ x ∈ locs3, zbs B ≤ x.base) → Ψ2 (zyEl mi B H) (zyEl mi B H3) vo → Wg H3 locs3 (pc + 3) lsB (vo.toList ++ rs)) → Wg H locs pc lsB ((.ref (zad B p0) :: As : List Value).reverse ++ rs)) ∧
  (∀ (pc ax a n : Nat) (c : zyCl) (v : Int32) (H : Heap) (locs : List Loc) (lsB : Array Slot), ((c.1 = 20 ∧ en.1 pc = (.iastore, pc + 1, ax)) ∨ (c.1 = 22 ∧ en.1 pc = (.bastore, pc + 1, ax) ∧ -128 ≤ v.toInt ∧ v.toInt ≤ 127) ∨ (c.1 = 23 ∧ en.1 pc = (.bastore, pc + 1, ax) ∧ 0 ≤ v.toInt ∧ v.toInt ≤ 1)) → zG mi a = some c → n < c.2.1 → (∀ r ∈ c.2.2, r.1 ≤ n → n ≤ r.2.1 → r.2.2 % 8 = 2 ∧ r.2.2 / 34359738368 ≤ zB v ∧ zB v ≤ r.2.2 / 8 % 4294967296) → zyMI mi B zyJ0 s H → (∀ x ∈ locs, zbs B ≤ x.base) →
    (∀ (H3 : Heap) (locs3 : List Loc), zyMI mi B zyJ0 s H3 → zyOut mi B H H3 → (∀ x ∈ locs3, zbs B ≤ x.base) → zyEl mi B H3 a n = some (.int v) → (∀ a2 k2, ¬ (a2 = a ∧ k2 = n) → zyEl mi B H3 a2 k2 = zyEl mi B H a2 k2) → Wg H3 locs3 (pc + 1) lsB []) → Wg H locs pc lsB [.int v, .int (Int32.ofNat n), .ref (zad B a)]) ∧
  (∀ (pc ax : Nat) (v : Int32) (rs : List Value) (H : Heap) (locs : List Loc) (lsB : Array Slot), en.1 pc = (.i2b, pc + 1, ax) → Wg H locs (pc + 1) lsB (.int v.toInt8.toInt32 :: rs) → Wg H locs pc lsB (.int v :: rs))
theorem xRu_ok {l : Launch} {mi : zyB} {y0 dep : Nat} {en : zEn} {me : zMe} {p : Program} {e : Env} {s : State} {mt : MethodId} {args : Array Value} {below : List Frame} {meth : Method} {c : Code} {Q : State → Prop} {B : zCx} (hOK : zOK y0 en me) (hc0 : en.2.2.2.2.2.1 = 0) (hs0 : en.2.2.2.2.2.2.1 = 0) (hexec : p.tables.exec = Jvm.exec) (hb : c.code = me.2.1) (hml : c.maxLocals = en.2.2.1) (hown : s.vm.findClass me.2.2.2 = some mt.cls) (hK : zKn B s) :
    xRu l mi en dep B s (fun H locs pc lsB stA => W p l e { frames := dep, cells := en.2.2.2.2.2.1, slots := en.2.2.2.2.2.2.1, locals := 64 * dep } s mt args below meth c H locs 0 0 Q (F0 mt pc lsB stA)) := by
  refine ⟨?_, ?_, ?_⟩
  · intro pc ix ax en2 me2 dep2 p0 As Φ2 Ψ2 rs H locs lsB hrs hrow hkd hen2 hme2 how hna hc2 hs2 hHc hdp hI hlo hsz hΦ kk
    have hr := hOK.1 pc
    rw [hrow] at hr
    rcases hr with hn | ⟨hlen, hdec, pp, hlk⟩
    · cases hn
    obtain ⟨-, hd⟩ := zdec (k := 3) rfl (by decide) hlen hdec
    obtain ⟨me3, hme3, hO2⟩ := zall hen2
    rw [hme2] at hme3
    cases hme3
    obtain ⟨me3, hme3, hKi⟩ := zallk hen2 hkd
    rw [hme2] at hme3
    cases hme3
    have hcls2 := hO2.2.2.2.2.1
    have hml40 : en2.2.2.1 ≤ 40 := hO2.2.2.2.2.2.1
    have hrc : ∃ (a : Addr) (As2 : List Value), (.ref (zad B p0) :: As : List Value) = .ref a :: As2 ∧ ∃ cellB : Cell, H[a]? = some cellB ∧ cellB.vm.isStatics = false ∧ s.vm.findClass me2.2.2.2 = some cellB.cls := by
      obtain ⟨c74, hg, e11, e12⟩ := how
      refine ⟨zad B p0, _, rfl, ?_⟩
      rcases (hI.1 _ _ hg).2 with ⟨q1, cell, q2, q3, q4⟩ | ⟨ty, cA, f, q1, -⟩
      · refine ⟨cell, q2, by rw [q4]; rfl, ?_⟩
        have e1 : zcn en2.2.2.2.1 = me2.2.2.2 := hO2.2.2.2.1
        rw [q3, ← e1, ← e11]
        exact (hK.2.1 c74.1 _ (zvw _ e12)).2.1
      · have := zty_kd q1
        omega
    have hMet := hHc
    have hAl : ((.ref (zad B p0) :: As : List Value)).length = en2.2.1 := by
      rw [List.length_cons]
      exact hna
    have hrw := hrs
    have hlk2 : zlc me.2.2.2 ix ax pp 0 = true := hlk
    unfold zlc at hlk2
    rw [hme2] at hlk2
    simp only [Bool.or_eq_true, Bool.and_eq_true, decide_eq_true_eq] at hlk2
    have hrun : va_Run p l e { frames := dep, cells := en.2.2.2.2.2.1, slots := en.2.2.2.2.2.2.1, locals := 64 * dep } s mt args below meth c H locs 0 0 en2.2.2.2.2.2.1 en2.2.2.2.2.2.2.1 (F0 mt pc lsB (((.ref (zad B p0) :: As : List Value)).reverse ++ rs)) rs (zyHq mi B (Ψ2) ((.ref (zad B p0) :: As : List Value)).toArray) (fun q => zbs B ≤ q) := by
      rcases hlk2 with ⟨hkd, hw⟩ | ⟨hkd, hw⟩
      · exact zyrow_v hexec hb hml hown hK (zwd_mem hw) hcls2 hKi rfl hAl hrw hMet rfl rfl hdp (by show 8 + (en2.2.2.1 + 11) + 64 * dep2 ≤ 64 * dep; omega) (fun a U g mk hp => ⟨hp.1, zKn.same (s := U) rfl hp.2.1, (hp.2.2.1).moved (u := U) (Vm.Alike.refl U.vm), hp.2.2.2⟩) (fun U hU hW => ⟨rfl, hK.warm hW, by rw [hU]; exact hI.moved hW.alike, by rw [hU]; exact hΦ⟩) hrc (by rw [hc0, hs0, hc2, hs2]; exact ⟨Nat.le_refl _, Nat.le_refl _⟩) hsz hd
      · exact zyrow_vN hexec hb hml hown hK (zwd_mem hw) hcls2 hKi rfl hAl hrw hMet rfl rfl hdp (by show 8 + (en2.2.2.1 + 11) + 64 * dep2 ≤ 64 * dep; omega) (fun a U g mk hp => ⟨hp.1, zKn.same (s := U) rfl hp.2.1, (hp.2.2.1).moved (u := U) (Vm.Alike.refl U.vm), hp.2.2.2⟩) (fun U hU hW => ⟨rfl, hK.warm hW, by rw [hU]; exact hI.moved hW.alike, by rw [hU]; exact hΦ⟩) hrc (by rw [hc0, hs0, hc2, hs2]; exact ⟨Nat.le_refl _, Nat.le_refl _⟩) hsz hd
    refine zycont hrun hlo (fun st₀ t vo locs2 hh0 hQ hal hlo2 => ?_)
    obtain ⟨vo2, ho, -, hI2, hΨ, hout⟩ := hQ
    cases ho
    rw [hh0] at hΨ hout
    rw [hc2, hs2]
    exact kk t.heap locs2 vo (hI2.moved hal) hout hlo2 hΨ
  · intro pc ax a n c2 v H locs lsB hrow hg hn hrows hI hlo kk
    obtain ⟨hlt90, hsh⟩ := hI.1 _ _ hg
    have hc20 : 20 ≤ c2.1 := by rcases hrow with ⟨q, -⟩ | ⟨q, -⟩ | ⟨q, -⟩ <;> omega
    have hlenc : zyLen c2 = c2.2.1 := if_neg (by omega)
    rcases hsh with ⟨q1, -⟩ | ⟨ty, cA, f, q1, q2, q3, q4⟩
    · omega
    obtain ⟨p1, p2⟩ := zsmall (u := n) (by omega)
    have fin : ∀ (H1 : Heap) (locs3 : List Loc), H1[zad B a]? = some (arrV cA c2.2.1 (updV f n (.int v))) → (∀ q, q ≠ zad B a → H1[q]? = H[q]?) → (∀ z ∈ locs3, zbs B ≤ z.base) → W p l e { frames := dep, cells := en.2.2.2.2.2.1, slots := en.2.2.2.2.2.2.1, locals := 64 * dep } s mt args below meth c H1 locs3 0 0 Q (F0 mt (pc + 1) lsB []) := by
      intro H1 locs3 f1 f3 hlo3
      have hM0 : zyMem (mi, fun _ => [], [(a, n, n)], [], 0) (B, fun _ => 0, 0, fun _ => 0, 0, (zyEl mi B H, fun q => H[q]?), zyJ0) s [] H := zyMem_new hI (fun p hp => by cases hp)
      have hel : zyEl mi B H1 a n = some (.int v) := by
        rw [zyEl_some hg (by rw [hlenc]; exact hn), f1, Option.bind_some, if_neg (by omega), arrV_read _ _ hn]
        unfold updV
        rw [if_pos rfl]
      have hMem : zyMem (mi, fun _ => [], [(a, n, n)], [], 0) (B, fun _ => 0, 0, fun _ => 0, 0, (zyEl mi B H, fun q => H[q]?), zyJ0) s [] H1 := by
        refine zyMem.upd (s := s) (x := .int v) ⟨hK, zyJ0_p (fun p hp => by cases hp)⟩ hM0 hg (by rw [hlenc]; exact hn) f3 (Or.inr ⟨ty, cA, _, q1, f1, q3, q4⟩) hel (fun k0 hk0 hne => ?_) (zyin_iff.mpr ⟨(a, n, n), List.mem_cons_self, rfl, Nat.le_refl _, Nat.le_refl _⟩) rfl ?_ (fun a1 c1 k1 w1 _ _ _ h => h)
        · rw [zyEl_some hg hk0, zyEl_some hg hk0, f1, q2, Option.bind_some, Option.bind_some]
          rw [hlenc] at hk0
          rw [if_neg (by omega), arrV_read _ _ hk0, arrV_read _ _ hk0]
          unfold updV
          rw [if_neg hne]
        · intro r hr r1 r2
          obtain ⟨g1, g2, g3⟩ := hrows r hr r1 r2
          refine ⟨by omega, Or.inl ⟨Or.inr (Or.inr (Or.inl ⟨g1, v, rfl, g2, g3⟩)), fun q => by omega, fun q => by omega⟩⟩
      refine kk H1 locs3 (hMem.base (w := (0, [])) (fun k p hp => by simp at hp) rfl) (fun q hq => hMem.2.2.2.2.2 q hq) hlo3 hel (fun a2 k2 hne => hMem.2.2.1 a2 k2 ?_)
      cases hq : zyin [(a, n, n)] a2 k2 with
      | false => rfl
      | true =>
        obtain ⟨p0, g1, g2, g3, g4⟩ := zyin_iff.mp hq
        rw [List.mem_singleton.mp g1] at g2 g3 g4
        exact absurd ⟨g2.symm, by dsimp only at g3 g4; omega⟩ hne
    have lo3 : ∀ z ∈ locs ++ [(⟨zad B a, n⟩ : Loc)], zbs B ≤ z.base := by
      intro z hz
      rcases List.mem_append.mp hz with h7 | h7
      · exact hlo z h7
      · rw [List.mem_singleton] at h7
        rw [h7]
        exact zyad_ge hlt90
    rcases hrow with ⟨hg1, hrow⟩ | ⟨hg1, hrow, v1, v2⟩ | ⟨hg1, hrow, v1, v2⟩
    · have hr := hOK.1 pc
      rw [hrow] at hr
      rcases hr with hn' | ⟨hlen, hdec, pp, hlk⟩
      · cases hn'
      obtain ⟨-, hd⟩ := zdec (k := 1) rfl (by decide) hlen hdec
      have q5 := q1
      rw [hg1] at q5
      have q5 : some FieldType.int = some ty := q5
      cases q5
      refine W.iast hexec hb q2 (q3 _ _) (fun z => by cases z) (by rw [arrV_size, p2]; exact fun z => z.elim p1 (by omega)) rfl rfl hd (fun H1 f1 f2 f3 => ?_)
      rw [p2, arrV_store] at f1
      exact fin H1 _ f1 f3 (by rw [p2]; exact lo3)
    · have hr := hOK.1 pc
      rw [hrow] at hr
      rcases hr with hn' | ⟨hlen, hdec, pp, hlk⟩
      · cases hn'
      obtain ⟨-, hd⟩ := zdec (k := 1) rfl (by decide) hlen hdec
      have q5 := q1
      rw [hg1] at q5
      have q5 : some FieldType.byte = some ty := q5
      cases q5
      refine W.bast hexec hb q2 (q3 _ _) (fun z => by cases z) (by rw [arrV_size, p2]; exact fun z => z.elim p1 (by omega)) rfl rfl hd (fun H1 f1 f2 f3 => ?_)
      have e3 : v.toInt8.toInt32 = v := by
        apply Int32.toInt_inj.mp
        rw [Int8.toInt_toInt32, Int32.toInt_toInt8]
        apply Int.bmod_eq_of_le
        · omega
        · omega
      rw [p2, arrV_store, show narrow .byte (.int v) = Value.int v.toInt8.toInt32 from rfl, e3] at f1
      exact fin H1 _ f1 f3 (by rw [p2]; exact lo3)
    · have hr := hOK.1 pc
      rw [hrow] at hr
      rcases hr with hn' | ⟨hlen, hdec, pp, hlk⟩
      · cases hn'
      obtain ⟨-, hd⟩ := zdec (k := 1) rfl (by decide) hlen hdec
      have q5 := q1
      rw [hg1] at q5
      have q5 : some FieldType.boolean = some ty := q5
      cases q5
      refine W.zast hexec hb q2 (q3 _ _) (fun z => by cases z) (by rw [arrV_size, p2]; exact fun z => z.elim p1 (by omega)) rfl rfl hd (fun H1 f1 f2 f3 => ?_)
      have e3 : narrow .boolean (.int v) = .int v := by
        have bx := zB_int v
        rcases zybool (x := v) (by omega) (by omega) with rfl | rfl <;> decide
      rw [p2, arrV_store, e3] at f1
      exact fin H1 _ f1 f3 (by rw [p2]; exact lo3)
  · intro pc ax v rs H locs lsB hrow kk
    have hr := hOK.1 pc
    rw [hrow] at hr
    rcases hr with hn' | ⟨hlen, hdec, pp, hlk⟩
    · cases hn'
    obtain ⟨-, hd⟩ := zdec (k := 1) rfl (by decide) hlen hdec
    exact lv_i2b hexec hb hd rfl kk
end
section
/-! FUNCTIONAL CONTRACTS IN INT: what codes, facts, bounds say of numbers -/
def xI (x : Int32) : Int := x.toInt
theorem xI_r (x : Int32) : -2147483648 ≤ xI x ∧ xI x < 2147483648 := by
  have h1 := Int32.le_toInt x
  have h2 := Int32.toInt_lt x
  unfold xI
  omega
theorem xI_ofInt {a : Int} (h : -2147483648 ≤ a ∧ a < 2147483648) : xI (Int32.ofInt a) = a := Int32.toInt_ofInt_of_le (by omega) (by omega)
theorem xofI (x : Int32) : Int32.ofInt (xI x) = x := Int32.ofInt_toInt x
theorem xI_inj {x y : Int32} (h : xI x = xI y) : x = y := Int32.toInt_inj.mp h
theorem xI_zB (x : Int32) : (zB x : Int) = xI x + 2147483648 := zB_int x
def xsg (n : Nat) : Int := if n < 2147483648 then (n : Int) else (n : Int) - 4294967296
theorem xI_nat {n : Nat} (h : n < 4294967296) : xI (Int32.ofNat n) = xsg n := by
  have e := xI_zB (Int32.ofNat n)
  have e2 : zB (Int32.ofNat n) = (n + 2147483648) % 4294967296 := by rw [zB_of, zb_def]
  unfold xsg
  split <;> omega
theorem xI_add {x y : Int32} (h1 : -2147483648 ≤ xI x + xI y) (h2 : xI x + xI y < 2147483648) : xI (x + y) = xI x + xI y := by
  unfold xI at *
  rw [Int32.toInt_add]
  apply Int.bmod_eq_of_le
  · omega
  · omega
theorem xI_sub {x y : Int32} (h1 : -2147483648 ≤ xI x - xI y) (h2 : xI x - xI y < 2147483648) : xI (x - y) = xI x - xI y := by
  unfold xI at *
  rw [Int32.toInt_sub]
  apply Int.bmod_eq_of_le
  · omega
  · omega
theorem xI_mul {x y : Int32} (h1 : -2147483648 ≤ xI x * xI y) (h2 : xI x * xI y < 2147483648) : xI (x * y) = xI x * xI y := by
  unfold xI at *
  rw [Int32.toInt_mul]
  generalize x.toInt * y.toInt = q at h1 h2 ⊢
  apply Int.bmod_eq_of_le
  · omega
  · omega
theorem xI_neg {x : Int32} (h1 : -2147483648 < xI x) : xI (-x) = -xI x := by
  have hr := xI_r x
  unfold xI at *
  rw [Int32.toInt_neg]
  apply Int.bmod_eq_of_le
  · omega
  · omega
theorem xI_div {x y : Int32} (h1 : 0 ≤ xI x) (h2 : 0 < xI y) : xI (x / y) = xI x / xI y := by
  unfold xI at *
  rw [Int32.toInt_div_of_ne_right _ _ (fun z => by rw [z] at h2; exact absurd h2 (by decide))]
  exact Int.tdiv_eq_ediv_of_nonneg h1
theorem xI_rem {x y : Int32} (h1 : 0 ≤ xI x) (h2 : 0 < xI y) : xI (x - x / y * y) = xI x % xI y := by
  have hd := xI_div h1 h2
  have hx := xI_r x
  have m0 : 0 ≤ xI x / xI y * xI y := Int.mul_nonneg (Int.ediv_nonneg h1 (by omega)) (by omega)
  have m1 : xI x / xI y * xI y ≤ xI x := Int.ediv_mul_le _ (by omega)
  have hm : xI (x / y * y) = xI x / xI y * xI y := by
    rw [xI_mul (by rw [hd]; omega) (by rw [hd]; omega), hd]
  rw [xI_sub (by rw [hm]; omega) (by rw [hm]; omega), hm, Int.emod_def, Int.mul_comm]
def xfv : List Int → Nat → Int
  | [], _ => 0
  | a :: _, 0 => a
  | _ :: t, k + 1 => xfv t k
/-- what stands at a place's index, as a number -/
def xE (E : zyEm) (a : Nat) (i : Int) : Int := match E a i.toNat with
  | some (.int x) => xI x
  | _ => 0
theorem xE_r (E : zyEm) (a : Nat) (i : Int) : -2147483648 ≤ xE E a i ∧ xE E a i < 2147483648 := by
  unfold xE
  split
  · exact xI_r _
  · omega
theorem xE_s {E : zyEm} {a k : Nat} {x : Int32} (h : E a k = some (.int x)) {i : Int} (hi : i.toNat = k) : xE E a i = xI x := by
  unfold xE
  rw [hi, h]
def xFr (fp : zyR) (E E2 : zyEm) : Prop := ∀ a k, zyin fp a k = false → E2 a k = E a k
theorem xFr_E {fp : zyR} {E E2 : zyEm} (h : xFr fp E E2) {a : Nat} {i : Int} (hi : zyin fp a i.toNat = false) : xE E2 a i = xE E a i := by
  unfold xE
  rw [h a _ hi]
theorem xFr_refl {fp : zyR} {E : zyEm} : xFr fp E E := fun _ _ _ => rfl
theorem xFr_trans {fp : zyR} {E E2 E3 : zyEm} (h : xFr fp E E2) (h2 : xFr fp E2 E3) : xFr fp E E3 := fun a k hk => (h2 a k hk).trans (h a k hk)
def xsubR (l1 l2 : zyR) : Bool := l1.all fun p => l2.any fun q => decide (p.1 = q.1) && (decide (q.2.1 ≤ p.2.1) && decide (p.2.2 ≤ q.2.2))
theorem xFr_mono {l1 l2 : zyR} {E E2 : zyEm} (h : xsubR l1 l2 = true) (hf : xFr l1 E E2) : xFr l2 E E2 := by
  intro a k hk
  apply hf
  cases hq : zyin l1 a k with
  | false => rfl
  | true =>
    obtain ⟨p, hp, e1, e2, e3⟩ := zyin_iff.mp hq
    unfold xsubR at h
    rw [List.all_eq_true] at h
    have h := h p hp
    rw [List.any_eq_true] at h
    obtain ⟨q, hq2, h⟩ := h
    simp only [Bool.and_eq_true, decide_eq_true_eq] at h
    have : zyin l2 a k = true := zyin_iff.mpr ⟨q, hq2, by omega, by omega, by omega⟩
    rw [this] at hk
    cases hk
/-- the number that a code says -/
def xc (v : Nat → Int) (c : Nat) : Int := if c % 8 = 1 then (if c / 8 % 4294967296 = 0 then v (c / 34359738368) else v (c / 34359738368) + xsg (c / 8 % 4294967296)) else xsg (c / 8 % 4294967296)
def xofB (Bd : List (Nat × Nat × Nat)) (c : Nat) : Bool := if c % 8 = 0 then decide (c / 8 < 4294967296) else if c % 8 = 1 then (decide (c / 8 % 4294967296 = 0) || Bd.any (fun b => decide (b.1 = c / 34359738368 * 34359738368 + 1) && (if c / 8 % 4294967296 < 2147483648 then decide (b.2.2 + c / 8 % 4294967296 ≤ 4294967295) else decide (4294967296 ≤ b.2.1 + c / 8 % 4294967296)))) else false
abbrev xBd (ρ : Nat → Int32) (Bd : List (Nat × Nat × Nat)) : Prop := ∀ b ∈ Bd, b.2.1 ≤ zB (zyw ρ b.1) ∧ zB (zyw ρ b.1) ≤ b.2.2
theorem xofB_iff {ρ : Nat → Int32} {v : Nat → Int} {Bd : List (Nat × Nat × Nat)} {c : Nat} (hv : ∀ k, xI (ρ k) = v k) (hB : xBd ρ Bd) (h : xofB Bd c = true) : xI (zyw ρ c) = xc v c := by
  unfold xofB at h
  unfold xc zyw
  by_cases h0 : c % 8 = 0
  · rw [if_pos h0, decide_eq_true_eq] at h
    rw [if_neg (by omega), if_neg (by omega), Nat.mod_eq_of_lt h]
    exact xI_nat h
  · rw [if_neg h0] at h
    by_cases h1 : c % 8 = 1
    · rw [if_pos h1] at h
      rw [if_pos h1, if_pos h1]
      by_cases ho : c / 8 % 4294967296 = 0
      · rw [if_pos ho, if_pos ho]
        exact hv _
      · rw [if_neg ho, if_neg ho]
        rw [Bool.or_eq_true, decide_eq_true_eq, List.any_eq_true] at h
        rcases h with h | ⟨b, hb, h⟩
        · exact absurd h ho
        · rw [Bool.and_eq_true, decide_eq_true_eq] at h
          obtain ⟨e1, h⟩ := h
          have hb2 := hB b hb
          rw [e1, ← zysym_def, zyw_sym] at hb2
          have z := xI_zB (ρ (c / 34359738368))
          have rr := xI_r (ρ (c / 34359738368))
          have n1 := xI_nat (n := c / 8 % 4294967296) (Nat.mod_lt _ (by decide))
          have hs : xsg (c / 8 % 4294967296) = if c / 8 % 4294967296 < 2147483648 then ((c / 8 % 4294967296 : Nat) : Int) else ((c / 8 % 4294967296 : Nat) : Int) - 4294967296 := rfl
          have hl : c / 8 % 4294967296 < 4294967296 := Nat.mod_lt _ (by decide)
          generalize c / 8 % 4294967296 = o at h n1 hs hl ⊢
          by_cases h2 : o < 2147483648
          · rw [if_pos h2, decide_eq_true_eq] at h
            rw [if_pos h2] at hs
            rw [xI_add (by omega) (by omega), hv, n1]
          · rw [if_neg h2, decide_eq_true_eq] at h
            rw [if_neg h2] at hs
            rw [xI_add (by omega) (by omega), hv, n1]
    · rw [if_neg h1] at h
      cases h
def xop (g : Nat) (a b : Int) : Int := xI (zyG g (Int32.ofInt a) (Int32.ofInt b))
/-- what a fact says -/
def xFp (v : Nat → Int) (E : zyEm) (f : zyF) : Prop :=
  if f.1 = 24 then 0 ≤ xc v f.2.2.2 ∧ xE E f.2.2.1 (xc v f.2.2.2) = xc v f.2.1
  else if f.1 = 20 then xc v f.2.2.1 < xc v f.2.2.2
  else if f.1 = 21 then xc v f.2.2.2 ≤ xc v f.2.2.1
  else if f.1 = 22 then xc v f.2.2.1 = xc v f.2.2.2
  else if f.1 = 23 then ¬ xc v f.2.2.1 = xc v f.2.2.2
  else if f.1 = 1 then -2147483648 ≤ xc v f.2.2.1 + xc v f.2.2.2 → xc v f.2.2.1 + xc v f.2.2.2 < 2147483648 → xc v f.2.1 = xc v f.2.2.1 + xc v f.2.2.2
  else if f.1 = 2 then -2147483648 ≤ xc v f.2.2.1 - xc v f.2.2.2 → xc v f.2.2.1 - xc v f.2.2.2 < 2147483648 → xc v f.2.1 = xc v f.2.2.1 - xc v f.2.2.2
  else if f.1 = 3 then -2147483648 ≤ xc v f.2.2.1 * xc v f.2.2.2 → xc v f.2.2.1 * xc v f.2.2.2 < 2147483648 → xc v f.2.1 = xc v f.2.2.1 * xc v f.2.2.2
  else if f.1 = 5 then 0 ≤ xc v f.2.2.1 → 0 < xc v f.2.2.2 → xc v f.2.1 = xc v f.2.2.1 % xc v f.2.2.2
  else if f.1 = 10 then 0 ≤ xc v f.2.2.1 → 0 < xc v f.2.2.2 → xc v f.2.1 = xc v f.2.2.1 / xc v f.2.2.2
  else if f.1 = 11 then -2147483648 < xc v f.2.2.1 → xc v f.2.1 = -xc v f.2.2.1
  else if f.1 < 12 then xc v f.2.1 = xop f.1 (xc v f.2.2.1) (xc v f.2.2.2)
  else if f.1 < 1000 then True
  else zyRr (f.1 - 1000) E (Int32.ofInt (xc v f.2.2.1)) (Int32.ofInt (xc v f.2.2.2)) (Int32.ofInt (xc v f.2.1))
def xfB (Bd : List (Nat × Nat × Nat)) (f : zyF) : Bool := if f.1 = 24 then xofB Bd f.2.1 && xofB Bd f.2.2.2 else xofB Bd f.2.1 && (xofB Bd f.2.2.1 && xofB Bd f.2.2.2)
theorem xFp_of {ρ : Nat → Int32} {v : Nat → Int} {Bd : List (Nat × Nat × Nat)} {E : zyEm} {f : zyF} (hv : ∀ k, xI (ρ k) = v k) (hB : xBd ρ Bd) (h : zyFp ρ E f) (hc : xfB Bd f = true) : xFp v E f := by
  unfold zyFp at h
  unfold xfB at hc
  unfold xFp
  by_cases h24 : f.1 = 24
  · rw [if_pos h24] at h hc ⊢
    rw [Bool.and_eq_true] at hc
    rw [← xofB_iff hv hB hc.1, ← xofB_iff hv hB hc.2]
    obtain ⟨j, e1, e2, e3⟩ := h
    rw [e1, xI_nat (by omega)]
    have e4 : xsg j = (j : Int) := if_pos e2
    rw [e4]
    exact ⟨Int.natCast_nonneg _, xE_s e3 (Int.toNat_natCast _)⟩
  · rw [if_neg h24] at h hc
    rw [if_neg h24]
    rw [Bool.and_eq_true, Bool.and_eq_true] at hc
    rw [← xofB_iff hv hB hc.1, ← xofB_iff hv hB hc.2.1, ← xofB_iff hv hB hc.2.2]
    by_cases h12 : f.1 < 12
    · rw [if_pos h12] at h
      rw [if_neg (by omega), if_neg (by omega), if_neg (by omega), if_neg (by omega)]
      split
      · rename_i e
        rw [h, e]
        exact xI_add
      · split
        · rename_i e
          rw [h, e]
          exact xI_sub
        · split
          · rename_i e
            rw [h, e]
            exact xI_mul
          · split
            · rename_i e
              rw [h, e]
              exact xI_rem
            · split
              · rename_i e
                rw [h, e]
                exact xI_div
              · split
                · rename_i e
                  rw [h, e]
                  exact xI_neg
                · unfold xop
                  first
                    | rw [if_pos h12, xofI, xofI, h]
                    | rw [xofI, xofI, h]
    · rw [if_neg h12] at h
      by_cases h1000 : f.1 < 1000
      · rw [if_pos h1000] at h
        obtain ⟨p1, p2, p3, p4⟩ := h
        split
        · rename_i e
          exact Int32.lt_iff_toInt_lt.mp (p1 e)
        · split
          · rename_i e
            have := p2 e
            rw [Int32.lt_iff_toInt_lt] at this
            unfold xI
            omega
          · split
            · rename_i e
              rw [p3 e]
            · split
              · rename_i e
                exact fun z => p4 e (xI_inj z)
              · first
                  | trivial
                  | (repeat rw [if_neg (by omega)]) <;> trivial
                  | (simp only [h12, h1000, if_false, if_true] <;> (try split) <;> first | omega | trivial | skip <;> simp_all)
      · rw [if_neg h1000] at h
        first
          | (rw [if_neg (by omega), if_neg (by omega), if_neg (by omega), if_neg (by omega), if_neg (by omega), if_neg (by omega), if_neg (by omega), if_neg (by omega), if_neg (by omega), if_neg (by omega), if_neg h12, if_neg h1000, xofI, xofI, xofI]; exact h)
          | (rw [if_neg (by omega), if_neg (by omega), if_neg (by omega), if_neg (by omega), if_neg (by omega), if_neg (by omega), if_neg (by omega), if_neg (by omega), if_neg (by omega), if_neg (by omega), xofI, xofI, xofI]; exact h)
/-- what an end says, in numbers -/
def xXs (x : zyXp) (v : Nat → Int) (E E2 : zyEm) : Prop := (∀ f ∈ x.2.2.2.1, xFp v E f) ∧ (∀ b ∈ x.2.2.2.2.1, (b.2.1 : Int) ≤ xc v b.1 + 2147483648 ∧ xc v b.1 + 2147483648 ≤ (b.2.2 : Int)) ∧ ∀ p ∈ x.2.2.2.2.2, xE E2 (p.1 / 16384) ((p.1 % 16384 : Nat) : Int) = xc v p.2
def xckX (x : zyXp) : Bool := x.2.2.2.1.all (xfB x.2.2.2.2.1) && (x.2.2.2.2.1.all (fun b => xofB x.2.2.2.2.1 b.1) && (x.2.2.2.2.2.all (fun p => xofB x.2.2.2.2.1 p.2) && (x.2.2.1.all (fun c => decide (c % 8 = 3) || xofB x.2.2.2.2.1 c))))
theorem xXs_of {x : zyXp} {ρ : Nat → Int32} {v : Nat → Int} {E E2 : zyEm} (hv : ∀ k, xI (ρ k) = v k) (h : zyXs x ρ E E2) (hc : xckX x = true) : xXs x v E E2 := by
  unfold xckX at hc
  simp only [Bool.and_eq_true, List.all_eq_true] at hc
  obtain ⟨c1, c2, c3, -⟩ := hc
  obtain ⟨h1, h2, h3⟩ := h
  refine ⟨fun f hf => xFp_of hv h2 (h1 f hf) (c1 f hf), fun b hb => ?_, fun p hp => ?_⟩
  · rw [← xofB_iff hv h2 (c2 b hb)]
    have z := xI_zB (zyw ρ b.1)
    have := h2 b hb
    omega
  · rw [← xofB_iff hv h2 (c3 p hp)]
    exact xE_s (h3 p hp) (Int.toNat_natCast _)
theorem xXf {l : List zyF} {v : Nat → Int} {E : zyEm} {f : zyF} (h : ∀ f ∈ l, xFp v E f) (j : Nat) (hj : l[j]? = some f) : xFp v E f := h f (List.mem_of_getElem? hj)
theorem xXb {l : List (Nat × Nat × Nat)} {v : Nat → Int} {b : Nat × Nat × Nat} (h : ∀ b ∈ l, (b.2.1 : Int) ≤ xc v b.1 + 2147483648 ∧ xc v b.1 + 2147483648 ≤ (b.2.2 : Int)) (j : Nat) (hj : l[j]? = some b) : (b.2.1 : Int) ≤ xc v b.1 + 2147483648 ∧ xc v b.1 + 2147483648 ≤ (b.2.2 : Int) := h b (List.mem_of_getElem? hj)
theorem xXm {l : List (Nat × Nat)} {v : Nat → Int} {E2 : zyEm} {p : Nat × Nat} (h : ∀ p ∈ l, xE E2 (p.1 / 16384) ((p.1 % 16384 : Nat) : Int) = xc v p.2) (j : Nat) (hj : l[j]? = some p) : xE E2 (p.1 / 16384) ((p.1 % 16384 : Nat) : Int) = xc v p.2 := h p (List.mem_of_getElem? hj)
/-- as the base tells, in numbers -/
theorem xTy {mi : zyB} {E : zyEm} (hT : zyTy mi E) {a k q : Nat} {c : zyCl} {r : Nat × Nat × Nat} (hg : zG mi a = some c) (hk : k < zyLen c) (hr : c.2.2[q]? = some r) (h1 : r.1 ≤ k) (h2 : k ≤ r.2.1) (h3 : r.2.2 % 8 = 2) : ∃ x : Int32, E a k = some (.int x) ∧ ((r.2.2 / 34359738368 : Nat) : Int) ≤ xI x + 2147483648 ∧ xI x + 2147483648 ≤ ((r.2.2 / 8 % 4294967296 : Nat) : Int) := by
  obtain ⟨x, e, b1, b2⟩ := (hT a c k hg hk r (List.mem_of_getElem? hr) h1 h2).1 h3
  have z := xI_zB x
  exact ⟨x, e, by omega, by omega⟩
theorem xTyE {mi : zyB} {E : zyEm} (hT : zyTy mi E) {a q : Nat} {i : Int} {c : zyCl} {r : Nat × Nat × Nat} (hg : zG mi a = some c) (hk : i.toNat < zyLen c) (hr : c.2.2[q]? = some r) (h1 : r.1 ≤ i.toNat) (h2 : i.toNat ≤ r.2.1) (h3 : r.2.2 % 8 = 2) : ((r.2.2 / 34359738368 : Nat) : Int) ≤ xE E a i + 2147483648 ∧ xE E a i + 2147483648 ≤ ((r.2.2 / 8 % 4294967296 : Nat) : Int) := by
  obtain ⟨x, e, b1, b2⟩ := xTy hT hg hk hr h1 h2 h3
  rw [xE_s e rfl]
  exact ⟨b1, b2⟩
end
section
/-! A FUNCTIONAL CONTRACT OUT OF PHASES -/
/-- a contract: references ps, na ints; what it may write; whether it answers; ahead; behind -/
def xFcB (l : Launch) (mi : zyB) (B : zCx) (en : zEn) (me : zMe) (dep : Nat) (ps : List Nat) (na : Nat) (fp : zyR) (rt : Bool) (Φ : (Nat → Int) → zyEm → Prop) (Ψ : (Nat → Int) → zyEm → zyEm → Int → Prop) : Prop := xGcB l mi B en me dep ps na (fun xs E => Φ (xfv (xs.map xI)) E) (fun xs E E2 vo => xFr fp E E2 ∧ ∃ z : Int32, vo = (if rt = true then some (.int z) else none) ∧ Ψ (xfv (xs.map xI)) E E2 (xI z))
abbrev xFc (l : Launch) (mi : zyB) (en : zEn) (me : zMe) (dep : Nat) (ps : List Nat) (na : Nat) (fp : zyR) (rt : Bool) (Φ : (Nat → Int) → zyEm → Prop) (Ψ : (Nat → Int) → zyEm → zyEm → Int → Prop) : Prop := ∀ B, xFcB l mi B en me dep ps na fp rt Φ Ψ
def xv0 : Nat → (Nat → Int) → Nat → Int
  | 0, x, k => x k
  | _ + 1, _, 0 => 0
  | m + 1, x, k + 1 => xv0 m x k
def xEnv (v : Nat → Int) (env : List (Nat × Nat)) : Prop := ∀ (k : Nat) (p : Nat × Nat), env[k]? = some p → (p.1 : Int) ≤ v k + 2147483648 ∧ v k + 2147483648 ≤ (p.2 : Int)
abbrev xRg (v : Nat → Int) : Prop := ∀ k, -2147483648 ≤ v k ∧ v k < 2147483648
theorem xEnv_z {v : Nat → Int} {env : List (Nat × Nat)} (hr : xRg v) (h : xEnv v env) : zEnv (fun k => Int32.ofInt (v k)) env := fun k p hp => by
  have := h k p hp
  have z := xI_zB (Int32.ofInt (v k))
  rw [xI_ofInt (hr k)] at z
  dsimp only
  omega
/-- known elements of a phase, as numbers -/
def xKc (kc : List (Nat × Nat)) (v : Nat → Int) (E : zyEm) : Prop := ∀ p ∈ kc, p.2 % 34359738368 = 1 → xE E (p.1 / 16384) ((p.1 % 16384 : Nat) : Int) = v (p.2 / 34359738368)
theorem xKcf {kc : List (Nat × Nat)} {v : Nat → Int} {E : zyEm} {p : Nat × Nat} (h : xKc kc v E) (j : Nat) (hj : kc[j]? = some p) (hp : p.2 % 34359738368 = 1) : xE E (p.1 / 16384) ((p.1 % 16384 : Nat) : Int) = v (p.2 / 34359738368) := h p (List.mem_of_getElem? hj) hp
theorem xKc_of {mi : zyB} {B : zCx} {H : Heap} {ρ : Nat → Int32} {v : Nat → Int} {N : Nat} {kc : List (Nat × Nat)} (hv : ∀ k, xI (ρ k) = v k) (h : ∀ p ∈ kc, ∃ (c : zyCl) (w : Value), zG mi (p.1 / 16384) = some c ∧ p.1 % 16384 < zyLen c ∧ zyEl mi B H (p.1 / 16384) (p.1 % 16384) = some w ∧ zyv ρ N (zad B) p.2 w) : xKc kc v (zyEl mi B H) := by
  intro p hp h1
  obtain ⟨c, w, -, -, e, hw⟩ := h p hp
  have h8 : p.2 % 8 = 1 := by omega
  obtain ⟨z, rfl⟩ := zyv_int hw (by omega)
  rw [xE_s e (Int.toNat_natCast _), zyw_of hw (by omega), show p.2 = zysym (p.2 / 34359738368) by rw [zysym_def]; omega, zyw_sym, hv]
  rw [zysym_def, show (p.2 / 34359738368 * 34359738368 + 1) / 34359738368 = p.2 / 34359738368 by omega]
/-- the locals at the entry -/
noncomputable def xL0 (ps : List Nat) (na nL : Nat) : List Nat := (ps.map fun p => 8 * p + 3) ++ zyL0a ps.length na (nL - ps.length - na)
def xIH (mi : zyB) (nL : Nat) (B : zCx) (s : State) (fpm : zyR) {ι : Type} (φ : ι → zyPh) (Inv : ι → (Nat → Int) → zyEm → Prop) (Mu : ι → (Nat → Int) → zyEm → Nat) (M : Nat) (Wg : zyWt) : Prop :=
  ∀ (i : ι) (v : Nat → Int) (H : Heap) (locs : List Loc) (lsB : Array Slot) (stB : List Value), zyMI mi B zyJ0 s H → zyOut mi B s.heap H → xFr fpm (zyEl mi B s.heap) (zyEl mi B H) → xRg v → Inv i v (zyEl mi B H) → zySs mi B nL (φ i) (fun k => Int32.ofInt (v k)) H locs lsB stB → Mu i v (zyEl mi B H) < M → Wg H locs (φ i).1 lsB stB
theorem xfv_map {xs : List Int32} : ∀ k, xfv (xs.map xI) k = xI (match xs[k]? with
    | some x => x
    | none => 0) := by
  induction xs with
  | nil => intro k; rfl
  | cons a t ih =>
    intro k
    cases k with
    | zero => rfl
    | succ k =>
      rw [List.getElem?_cons_succ]
      exact ih k
theorem xv0_ge {x : Nat → Int} : ∀ {m k : Nat}, xv0 m x (m + k) = x k := by
  intro m
  induction m with
  | zero => intro k; rw [Nat.zero_add]; rfl
  | succ m ih =>
    intro k
    rw [Nat.add_right_comm]
    exact ih
theorem xv0_lt {x : Nat → Int} : ∀ {m k : Nat}, k < m → xv0 m x k = 0 := by
  intro m
  induction m with
  | zero => intro k h; omega
  | succ m ih =>
    intro k h
    cases k with
    | zero => rfl
    | succ k => exact ih (by omega)
theorem xv0_r {x : Nat → Int} (h : xRg x) (m : Nat) : xRg (xv0 m x) := fun k => by
  by_cases hk : k < m
  · rw [xv0_lt hk]
    omega
  · rw [show k = m + (k - m) by omega, xv0_ge]
    exact h _
theorem xrefs_len {B : zCx} : ∀ (ps : List Nat) (r : List Value), (lg_sl ((ps.map fun p => Value.ref (zad B p)) ++ r)).length = ps.length + (lg_sl r).length := by
  intro ps r
  induction ps with
  | nil =>
    rw [show (([] : List Nat).map fun p => Value.ref (zad B p)) ++ r = r from rfl]
    show _ = 0 + _
    omega
  | cons a t ih =>
    have e : lg_sl (((a :: t).map fun p => Value.ref (zad B p)) ++ r) = [Slot.val (.ref (zad B a))] ++ lg_sl ((t.map fun p => Value.ref (zad B p)) ++ r) := rfl
    rw [e, List.length_append, ih, List.length_cons, List.length_cons, List.length_nil]
    omega
theorem xrefs_mem {B : zCx} : ∀ {ps : List Nat} {r : List Value} {o j : Nat} {p : Nat}, ps[j]? = some p → (o + j, Value.ref (zad B p)) ∈ lv_args o ((ps.map fun p => Value.ref (zad B p)) ++ r) := by
  intro ps
  induction ps with
  | nil => intro r o j p h; simp at h
  | cons a t ih =>
    intro r o j p h
    have e : lv_args o (((a :: t).map fun p => Value.ref (zad B p)) ++ r) = (o, Value.ref (zad B a)) :: lv_args (o + 1) ((t.map fun p => Value.ref (zad B p)) ++ r) := rfl
    rw [e]
    cases j with
    | zero =>
      have h : some a = some p := h
      cases h
      exact List.mem_cons_self
    | succ j =>
      rw [List.getElem?_cons_succ] at h
      have := ih (r := r) (o := o + 1) h
      rw [show o + 1 + j = o + (j + 1) by omega] at this
      exact List.mem_cons_of_mem _ this
theorem xrefs_mem2 {B : zCx} : ∀ {ps : List Nat} {r : List Value} {o : Nat} {q : Nat × Value}, q ∈ lv_args (o + ps.length) r → q ∈ lv_args o ((ps.map fun p => Value.ref (zad B p)) ++ r) := by
  intro ps
  induction ps with
  | nil => intro r o q h; exact h
  | cons a t ih =>
    intro r o q h
    have e : lv_args o (((a :: t).map fun p => Value.ref (zad B p)) ++ r) = (o, Value.ref (zad B a)) :: lv_args (o + 1) ((t.map fun p => Value.ref (zad B p)) ++ r) := rfl
    rw [e]
    rw [List.length_cons, show o + (t.length + 1) = o + 1 + t.length by omega] at h
    exact List.mem_cons_of_mem _ (ih h)
def xrv (st : List Nat) (v : Nat → Int) : Int := match st with
  | [c] => xc v c
  | _ => 0
def xrtB (rt : Bool) (x : zyXp) : Bool := match rt, x.2.2.1 with
  | true, [c] => decide (c % 8 ≤ 1)
  | false, [] => true
  | _, _ => false
theorem xcutM {l : Launch} {mi : zyB} {B : zCx} {y0 : Nat} {en : zEn} {me : zMe} (hOK : zOK y0 en me) (hc0 : en.2.2.2.2.2.1 = 0) (hs0 : en.2.2.2.2.2.2.1 = 0) {dep : Nat} {As : List Value} {x0 v0 : Nat → Int} (hx0 : xRg x0) (hrv0 : xRg v0) {fpm : zyR} {rt : Bool} {Φ : (Nat → Int) → zyEm → Prop} {Ψ : (Nat → Int) → zyEm → zyEm → Int → Prop} {ι : Type} (φ : ι → zyPh) (tb : ι → Nat → List zyCt) (fp : ι → zyR) (sp : ι → Nat) (xs rs : ι → List zyXp) (hCon : ∀ i, zyCons l (mi, tb i, fp i, [], sp i) zyJ0) (n : Nat)
    (hrun : ∀ i, zyok (zybtx mi (rs i)) (mi, tb i, fp i, [], sp i) (zystx mi (xs i)) n (zyln (φ i).2.2.1, (φ i).2.2.1) en.1 en.2.2.2.2 (φ i).1 (φ i).2.1 (φ i).2.2.2.2 (dep, 0, 0) [] ((φ i).2.2.2.1, []) = true)
    (hfp : ∀ i, xsubR (fp i) fpm = true) (hckX : ∀ i, (xs i).all xckX = true) (hckR : ∀ i, (rs i).all (fun x => xckX x && xrtB rt x) = true)
    (i0 : ι) (hi0 : (φ i0).1 = 0 ∧ (φ i0).2.1.length = en.2.2.1 ∧ (φ i0).2.2.2.1 = [] ∧ (φ i0).2.2.2.2 = []) (hAl : (lg_sl As).length ≤ en.2.2.1) (hA : ∀ (i c : Nat), (φ i0).2.1[i]? = some c → ¬ c = 13 → ∃ w, (i, w) ∈ lv_args 0 As ∧ zyv (fun k => Int32.ofInt (v0 k)) (φ i0).2.2.1.length (zad B) c w)
    (Inv : ι → (Nat → Int) → zyEm → (Nat → Int) → zyEm → Prop) (Mu : ι → (Nat → Int) → zyEm → (Nat → Int) → zyEm → Nat)
    (h0 : ∀ (E : zyEm), zyTy mi E → Φ x0 E → xEnv v0 (φ i0).2.2.1 ∧ Inv i0 x0 E v0 E)
    (hstop : ∀ (x0 : Nat → Int) (s : State) (Wg : zyWt), xRu l mi en dep B s Wg → xRg x0 → zyTy mi (zyEl mi B s.heap) → Φ x0 (zyEl mi B s.heap) → ∀ (i : ι) (v : Nat → Int) (H : Heap), zyTy mi (zyEl mi B H) → xRg v → Inv i x0 (zyEl mi B s.heap) v (zyEl mi B H) → xKc (φ i).2.2.2.1 v (zyEl mi B H) → xFr fpm (zyEl mi B s.heap) (zyEl mi B H) → xIH mi en.2.2.1 B s fpm φ (fun i => Inv i x0 (zyEl mi B s.heap)) (fun i => Mu i x0 (zyEl mi B s.heap)) (Mu i x0 (zyEl mi B s.heap) v (zyEl mi B H)) Wg →
      ∀ x ∈ xs i, ∀ (ρ2 : Nat → Int32) (v2 : Nat → Int) (N2 : Nat) (H2 : Heap) (locs : List Loc) (lsB : Array Slot) (stA : List Value), zyAt mi B s en.2.2.1 x ρ2 N2 H2 locs lsB stA → xBd ρ2 x.2.2.2.2.1 → (∀ k, xI (ρ2 k) = v2 k) → xRg v2 → xXs x v2 (zyEl mi B H) (zyEl mi B H2) → (∀ k, k < (φ i).2.2.1.length → v2 k = v k) → xFr (fp i) (zyEl mi B H) (zyEl mi B H2) → xFr fpm (zyEl mi B s.heap) (zyEl mi B H2) → zyTy mi (zyEl mi B H2) → Wg H2 locs x.1 lsB stA)
    (hret : ∀ (x0 : Nat → Int) (E0 E E2 : zyEm), xRg x0 → zyTy mi E0 → Φ x0 E0 → ∀ (i : ι) (v : Nat → Int), zyTy mi E → xRg v → Inv i x0 E0 v E → xKc (φ i).2.2.2.1 v E → xFr fpm E0 E → ∀ x ∈ rs i, ∀ (v2 : Nat → Int), xRg v2 → xXs x v2 E E2 → (∀ k, k < (φ i).2.2.1.length → v2 k = v k) → xFr (fp i) E E2 → xFr fpm E0 E2 → zyTy mi E2 → Ψ x0 E0 E2 (xrv x.2.2.1 v2)) : xMt l mi B en me dep As (Φ x0) (fun E E2 vo => xFr fpm E E2 ∧ ∃ z : Int32, vo = (if rt = true then some (.int z) else none) ∧ Ψ x0 E E2 (xI z)) := by
  unfold xMt
  have hOK' := hOK
  obtain ⟨hrow, hnum, hrk, hcn, hcls, hml40, hpl, g, hin, hg1, hgw⟩ := hOK
  refine zMet_ofW hpl ?_
  intro p e s mt args below meth c s₁ Bd hml hv
  obtain ⟨rfl, hK, hI, hΦ⟩ := hv
  have hown : s.vm.findClass me.2.2.2 = some mt.cls := by rw [← hcls]; exact findClass_of_methodNamed Bd.named
  have hent := lv_entry As (n := en.2.2.1) hAl
  rw [lg_entry_eq]
  generalize (lg_sl (As) ++ List.replicate (en.2.2.1 - (lg_sl (As)).length) Slot.unset).toArray = lsA at hent ⊢
  have hlocks := Bd.notSynchronized
  have hT0 := zyTy_of hI
  have hRu : xRu l mi en dep B s (fun H locs pc lsB stA => W p l e { frames := dep, cells := en.2.2.2.2.2.1, slots := en.2.2.2.2.2.2.1, locals := 64 * dep } s mt (As).toArray below meth c H locs 0 0 (MQ below (zyHq mi B (fun E E2 vo => xFr fpm E E2 ∧ ∃ z : Int32, vo = (if rt = true then some (.int z) else none) ∧ Ψ x0 E E2 (xI z))) (As).toArray s en.2.2.2.2.2.1 en.2.2.2.2.2.2.1 (fun q => zbs B ≤ q)) (F0 mt pc lsB stA)) := xRu_ok hOK' hc0 hs0 Bd.exec Bd.bytes hml hown hK
  have hJp : zyJp [] zyJ0 := zyJ0_p (fun p hp => by cases hp)
  have claim : ∀ (M : Nat), ∀ (i : ι) (v : Nat → Int) (H : Heap) (locs : List Loc) (lsB : Array Slot) (stB : List Value), zyMI mi B zyJ0 s H → zyOut mi B s.heap H → xFr fpm (zyEl mi B s.heap) (zyEl mi B H) → xRg v → Inv i (x0) (zyEl mi B s.heap) v (zyEl mi B H) → zySs mi B en.2.2.1 (φ i) (fun k => Int32.ofInt (v k)) H locs lsB stB → Mu i (x0) (zyEl mi B s.heap) v (zyEl mi B H) = M →
      W p l e { frames := dep, cells := en.2.2.2.2.2.1, slots := en.2.2.2.2.2.2.1, locals := 64 * dep } s mt (As).toArray below meth c H locs 0 0 (MQ below (zyHq mi B (fun E E2 vo => xFr fpm E E2 ∧ ∃ z : Int32, vo = (if rt = true then some (.int z) else none) ∧ Ψ x0 E E2 (xI z))) (As).toArray s en.2.2.2.2.2.1 en.2.2.2.2.2.2.1 (fun q => zbs B ≤ q)) (F0 mt (φ i).1 lsB stB) := by
    intro M
    induction M using Nat.strongRecOn with
    | ind M IH =>
      intro i vv H locs lsB stB hIH hout hFr0 hrv hInv hSs hM
      have hKc : xKc (φ i).2.2.2.1 vv (zyEl mi B H) := xKc_of (ρ := fun k => Int32.ofInt (vv k)) (fun k => xI_ofInt (hrv k)) hSs.2.2.2.2.2
      obtain ⟨ρ, hρ⟩ : ∃ ρ : Nat → Int32, ρ = fun k => Int32.ofInt (vv k) := ⟨_, rfl⟩
      have hρv : ∀ k, xI (ρ k) = vv k := fun k => by rw [hρ]; exact xI_ofInt (hrv k)
      rw [← hρ] at hSs
      have hr := hrun i
      rw [zyln_eq] at hr
      refine zymain (l := l) (bt := zybtx mi (rs i)) (stop := zystx mi (xs i)) (fun _ _ _ _ _ _ _ _ _ _ => rfl) n (B, ρ, (φ i).2.2.1.length, ρ, (φ i).2.2.1.length, (zyEl mi B H, fun q => H[q]?), zyJ0) y0 en me (hCon i) hOK' ((φ i).2.2.1.length, (φ i).2.2.1) (φ i).1 (φ i).2.1 (φ i).2.2.2.2 (dep, 0, 0) [] ((φ i).2.2.2.1, []) hr p e { frames := dep, cells := en.2.2.2.2.2.1, slots := en.2.2.2.2.2.2.1, locals := 64 * dep } s mt (As).toArray below meth c _ H locs lsB stB ⟨Bd.exec, Bd.bytes, hml, hown, ⟨hK, hJp⟩, Nat.le_refl _, Nat.le_refl _, Nat.le_refl _, Nat.le_refl _⟩ (zyRl_new hIH hSs) ?_ ?_
      · intro n' ρ2 w2 v m2 H2 locs2 lsC pc vo cells slots hn' hbk hX hM2 hlo hc hs hvo hri
        have hbk : zybtx mi (rs i) w2 v m2 = true := hbk
        obtain ⟨x, hx, hxb⟩ := zyanyB_iff hbk
        obtain ⟨-, -, e2, hXs, hI2⟩ := zyxp_iff (X := zyre (B, ρ, (φ i).2.2.1.length, ρ, (φ i).2.2.1.length, (zyEl mi B H, fun q => H[q]?), zyJ0) ρ2 w2.1) (P := (mi, tb i, fp i, [], sp i)) rfl hX.1 hX.2.2 hM2 hxb
        have hout2 : zyOut mi B s.heap H2 := fun q hq => (hM2.2.2.2.2.2 q hq).trans (hout q hq)
        have hvo2 : zyvo (zyXn B ρ2 w2.1) x.2.2.1 vo := by
          rw [← e2]
          exact hvo
        have hck := List.all_eq_true.mp (hckR i) x hx
        rw [Bool.and_eq_true] at hck
        have hXi := xXs_of (v := fun k => xI (ρ2 k)) (fun k => rfl) hXs hck.1
        have hFr2 : xFr (fp i) (zyEl mi B H) (zyEl mi B H2) := fun a k hf => hM2.2.2.1 a k hf
        have hFr3 : xFr fpm (zyEl mi B s.heap) (zyEl mi B H2) := xFr_trans hFr0 (xFr_mono (hfp i) hFr2)
        have hag : ∀ k, k < (φ i).2.2.1.length → xI (ρ2 k) = vv k := fun k hk => by rw [← hρv]; exact congrArg xI (hX.2.1.2 k hk)
        have hΨ0 := hret (x0) (zyEl mi B s.heap) (zyEl mi B H) (zyEl mi B H2) hx0 hT0 hΦ i vv (zyTy_of hIH) hrv hInv hKc hFr0 x hx (fun k => xI (ρ2 k)) (fun k => xI_r _) hXi hag hFr2 hFr3 (zyTy_of hI2)
        have hΨ : xFr fpm (zyEl mi B s.heap) (zyEl mi B H2) ∧ ∃ z : Int32, vo = (if rt = true then some (.int z) else none) ∧ Ψ (x0) (zyEl mi B s.heap) (zyEl mi B H2) (xI z) := by
          refine ⟨hFr3, ?_⟩
          have hck2 := hck.2
          have hck1 := hck.1
          unfold xrtB at hck2
          cases hrt : rt with
          | true =>
            rw [hrt] at hck2
            cases hst : x.2.2.1 with
            | nil => rw [hst] at hck2; cases hck2
            | cons c0 t0 =>
              rw [hst] at hck2
              cases t0 with
              | cons c1 t1 => cases hck2
              | nil =>
                have hck2 := of_decide_eq_true hck2
                rw [hst] at hvo2 hΨ0
                refine ⟨_, zyvo_1 hck2 hvo2, ?_⟩
                have hof : xofB x.2.2.2.2.1 c0 = true := by
                  unfold xckX at hck1
                  simp only [Bool.and_eq_true, List.all_eq_true] at hck1
                  have := hck1.2.2.2 c0 (by rw [hst]; exact List.mem_singleton.mpr rfl)
                  rw [Bool.or_eq_true, decide_eq_true_eq] at this
                  rcases this with z | z
                  · omega
                  · exact z
                rw [xofB_iff (v := fun k => xI (ρ2 k)) (fun k => rfl) hXs.2.1 hof]
                exact hΨ0
          | false =>
            rw [hrt] at hck2
            cases hst : x.2.2.1 with
            | cons c0 t0 => rw [hst] at hck2; cases hck2
            | nil =>
              rw [hst] at hvo2 hΨ0
              exact ⟨0, zyvo_0 hvo2, hΨ0⟩
        have hq : ∀ t : State, t.heap = H2 → s.WarmedH t.vm → zyHq mi B (fun E E2 vo => xFr fpm E E2 ∧ ∃ z : Int32, vo = (if rt = true then some (.int z) else none) ∧ Ψ x0 E E2 (xI z)) (As).toArray s (.returned vo) t := fun t ht hW => by
          subst ht
          exact ⟨vo, rfl, hK.warm hW, hI2.moved hW.alike, hΨ, hout2⟩
        refine W.widen hc hs ?_
        rcases hri with ⟨hd, x, ty, rfl, hty, hnar⟩ | ⟨hd, x, rfl, hty⟩ | ⟨hd, rfl, hty⟩
        · exact W.zret Bd.exec Bd.bytes (by rw [Bd.returns]; exact hty) hnar hq hlo hd hlocks
        · exact W.lret Bd.exec Bd.bytes (by rw [Bd.returns]; exact hty) hq hlo hd hlocks
        · exact W.vret Bd.exec Bd.bytes (by rw [Bd.returns]; exact hty) hq hlo hd hlocks
      · intro ρ2 N2 w2 pc ls st q m2 H2 locs2 lsC stA hs hR2
        have hs : zyanyB (fun x => zyxpB mi x w2 pc ls st m2) (xs i) = true := hs
        obtain ⟨x, hx, hxb⟩ := zyanyB_iff hs
        obtain ⟨e1, e3, e2, hXs, hI2⟩ := zyxp_iff (X := zyre (B, ρ, (φ i).2.2.1.length, ρ, (φ i).2.2.1.length, (zyEl mi B H, fun q => H[q]?), zyJ0) ρ2 N2) (P := (mi, tb i, fp i, [], sp i)) rfl hR2.1.1 hR2.1.2.2.2 hR2.2.1 hxb
        have hout2 : zyOut mi B s.heap H2 := fun q hq => (hR2.2.1.2.2.2.2.2 q hq).trans (hout q hq)
        have hq1 : q.1 = dep := hR2.2.2.2.2.2.1
        have hq2 : q.2.1 ≤ en.2.2.2.2.2.1 := hR2.2.2.2.2.2.2.1
        have hq3 : q.2.2 ≤ en.2.2.2.2.2.2.1 := hR2.2.2.2.2.2.2.2
        have eq2 : q.2.1 = 0 := by omega
        have eq3 : q.2.2 = 0 := by omega
        rw [eq2, eq3, e1]
        have hck := List.all_eq_true.mp (hckX i) x hx
        have hXi := xXs_of (v := fun k => xI (ρ2 k)) (fun k => rfl) hXs hck
        have hFr2 : xFr (fp i) (zyEl mi B H) (zyEl mi B H2) := fun a k hf => hR2.2.1.2.2.1 a k hf
        have hag : ∀ k, k < (φ i).2.2.1.length → xI (ρ2 k) = vv k := fun k hk => by rw [← hρv]; exact congrArg xI (hR2.1.2.2.1.2 k hk)
        refine hstop (x0) s _ hRu hx0 hT0 hΦ i vv H (zyTy_of hIH) hrv hInv hKc hFr0 ?_ x hx ρ2 (fun k => xI (ρ2 k)) N2 H2 locs2 lsC stA ⟨hI2, hout2, hR2.2.2.1, ⟨hR2.2.2.2.1.2.1, hR2.2.2.2.1.2.2.1⟩, fun i c hc hn => hR2.2.2.2.1.2.2.2 i c (e3.2 i c hc hn) hn, ?_⟩ hXs.2.1 (fun k => rfl) (fun k => xI_r _) hXi hag hFr2 (xFr_trans hFr0 (xFr_mono (hfp i) hFr2)) (zyTy_of hI2)
        · intro i2 v' H3 locs3 lsD stB3 hI3 hout3 hFr3 hrv3 hInv3 hSs3 hmu
          exact IH _ (by rw [← hM]; exact hmu) i2 v' H3 locs3 lsD stB3 hI3 hout3 hFr3 hrv3 hInv3 hSs3 rfl
        · rw [← e2]
          exact zySt_map (X := zyre (B, ρ, (φ i).2.2.1.length, ρ, (φ i).2.2.1.length, (zyEl mi B H, fun q => H[q]?), zyJ0) ρ2 N2) (X2 := zyXn B ρ2 N2) (fun v w h => h) hR2.2.2.2.2.1
  obtain ⟨b0, b1⟩ := h0 (zyEl mi B s.heap) hT0 hΦ
  obtain ⟨p0, p1, p2, p3⟩ := hi0
  have hSs : zySs mi B en.2.2.1 (φ i0) (fun k => Int32.ofInt (v0 k)) s.heap [] lsA [] → W p l e { frames := dep, cells := en.2.2.2.2.2.1, slots := en.2.2.2.2.2.2.1, locals := 64 * dep } s mt (As).toArray below meth c s.heap [] 0 0 (MQ below (zyHq mi B (fun E E2 vo => xFr fpm E E2 ∧ ∃ z : Int32, vo = (if rt = true then some (.int z) else none) ∧ Ψ x0 E E2 (xI z))) (As).toArray s en.2.2.2.2.2.1 en.2.2.2.2.2.2.1 (fun q => zbs B ≤ q)) (F0 mt 0 lsA []) := fun h => by
    have hfin := claim _ i0 _ s.heap [] lsA [] hI (fun q _ => rfl) xFr_refl hrv0 b1 h rfl
    rw [p0] at hfin
    exact hfin
  refine hSs ⟨fun x hx => (by cases hx), ⟨hent.1, hent.2.1⟩, ⟨p1, fun i c hc hn => ?_⟩, xEnv_z hrv0 b0, ?_, ?_⟩
  · obtain ⟨w, q1, q2⟩ := hA i c hc hn
    exact ⟨w, hent.2.2 (i, w) q1, q2⟩
  · rw [p3]
    trivial
  · rw [p2]
    exact fun p hp => by cases hp
theorem xcut {l : Launch} {mi : zyB} {B : zCx} {y0 : Nat} {en : zEn} {me : zMe} (hOK : zOK y0 en me) (hc0 : en.2.2.2.2.2.1 = 0) (hs0 : en.2.2.2.2.2.2.1 = 0) {dep na : Nat} {ps : List Nat} {fpm : zyR} {rt : Bool} {Φ : (Nat → Int) → zyEm → Prop} {Ψ : (Nat → Int) → zyEm → zyEm → Int → Prop} {ι : Type} (φ : ι → zyPh) (tb : ι → Nat → List zyCt) (fp : ι → zyR) (sp : ι → Nat) (xs rs : ι → List zyXp) (hCon : ∀ i, zyCons l (mi, tb i, fp i, [], sp i) zyJ0) (n : Nat)
    (hrun : ∀ i, zyok (zybtx mi (rs i)) (mi, tb i, fp i, [], sp i) (zystx mi (xs i)) n (zyln (φ i).2.2.1, (φ i).2.2.1) en.1 en.2.2.2.2 (φ i).1 (φ i).2.1 (φ i).2.2.2.2 (dep, 0, 0) [] ((φ i).2.2.2.1, []) = true)
    (hfp : ∀ i, xsubR (fp i) fpm = true) (hckX : ∀ i, (xs i).all xckX = true) (hckR : ∀ i, (rs i).all (fun x => xckX x && xrtB rt x) = true)
    (i0 : ι) (hi0 : (φ i0).1 = 0 ∧ (φ i0).2.1 = xL0 ps na en.2.2.1 ∧ (φ i0).2.2.2.1 = [] ∧ (φ i0).2.2.2.2 = []) (hna : ps.length + na ≤ en.2.2.1 ∧ ps.length + na ≤ (φ i0).2.2.1.length)
    (Inv : ι → (Nat → Int) → zyEm → (Nat → Int) → zyEm → Prop) (Mu : ι → (Nat → Int) → zyEm → (Nat → Int) → zyEm → Nat)
    (h0 : ∀ (x : Nat → Int) (E : zyEm), xRg x → zyTy mi E → Φ x E → xEnv (xv0 ps.length x) (φ i0).2.2.1 ∧ Inv i0 x E (xv0 ps.length x) E)
    (hstop : ∀ (x0 : Nat → Int) (s : State) (Wg : zyWt), xRu l mi en dep B s Wg → xRg x0 → zyTy mi (zyEl mi B s.heap) → Φ x0 (zyEl mi B s.heap) → ∀ (i : ι) (v : Nat → Int) (H : Heap), zyTy mi (zyEl mi B H) → xRg v → Inv i x0 (zyEl mi B s.heap) v (zyEl mi B H) → xKc (φ i).2.2.2.1 v (zyEl mi B H) → xFr fpm (zyEl mi B s.heap) (zyEl mi B H) → xIH mi en.2.2.1 B s fpm φ (fun i => Inv i x0 (zyEl mi B s.heap)) (fun i => Mu i x0 (zyEl mi B s.heap)) (Mu i x0 (zyEl mi B s.heap) v (zyEl mi B H)) Wg →
      ∀ x ∈ xs i, ∀ (ρ2 : Nat → Int32) (v2 : Nat → Int) (N2 : Nat) (H2 : Heap) (locs : List Loc) (lsB : Array Slot) (stA : List Value), zyAt mi B s en.2.2.1 x ρ2 N2 H2 locs lsB stA → xBd ρ2 x.2.2.2.2.1 → (∀ k, xI (ρ2 k) = v2 k) → xRg v2 → xXs x v2 (zyEl mi B H) (zyEl mi B H2) → (∀ k, k < (φ i).2.2.1.length → v2 k = v k) → xFr (fp i) (zyEl mi B H) (zyEl mi B H2) → xFr fpm (zyEl mi B s.heap) (zyEl mi B H2) → zyTy mi (zyEl mi B H2) → Wg H2 locs x.1 lsB stA)
    (hret : ∀ (x0 : Nat → Int) (E0 E E2 : zyEm), xRg x0 → zyTy mi E0 → Φ x0 E0 → ∀ (i : ι) (v : Nat → Int), zyTy mi E → xRg v → Inv i x0 E0 v E → xKc (φ i).2.2.2.1 v E → xFr fpm E0 E → ∀ x ∈ rs i, ∀ (v2 : Nat → Int), xRg v2 → xXs x v2 E E2 → (∀ k, k < (φ i).2.2.1.length → v2 k = v k) → xFr (fp i) E E2 → xFr fpm E0 E2 → zyTy mi E2 → Ψ x0 E0 E2 (xrv x.2.2.1 v2)) : xFcB l mi B en me dep ps na fpm rt Φ Ψ := by
  intro as has
  have hx0 : xRg (xfv (as.map xI)) := fun k => by rw [xfv_map]; exact xI_r _
  have hll : (lg_sl (xAg B ps as)).length = ps.length + na := by
    unfold xAg
    rw [xrefs_len, zylg_len, has]
  refine xcutM (As := xAg B ps as) (x0 := xfv (as.map xI)) (v0 := xv0 ps.length (xfv (as.map xI))) hOK hc0 hs0 hx0 (xv0_r hx0 _) φ tb fp sp xs rs hCon n hrun hfp hckX hckR i0 ⟨hi0.1, ?_, hi0.2.2⟩ (by rw [hll]; exact hna.1) (fun i c hc hn => ?_) Inv Mu (fun E => h0 _ E hx0) hstop hret
  · rw [hi0.2.1]
    unfold xL0
    rw [List.length_append, List.length_map, zyL0a_len]
    omega
  · rw [hi0.2.1] at hc
    unfold xL0 at hc
    by_cases hi : i < ps.length
    · rw [List.getElem?_append_left (by rw [List.length_map]; exact hi), List.getElem?_map] at hc
      obtain ⟨p, hp⟩ : ∃ p, ps[i]? = some p := ⟨ps[i], List.getElem?_eq_getElem hi⟩
      rw [hp] at hc
      have hc : some (8 * p + 3) = some c := hc
      cases hc
      have hm := xrefs_mem (B := B) (r := as.map Value.int) (o := 0) hp
      rw [Nat.zero_add] at hm
      exact ⟨.ref (zad B p), hm, Or.inl ⟨Or.inr (Or.inr (Or.inr (Or.inl ⟨by omega, by rw [show (8 * p + 3) / 8 = p by omega]⟩))), fun q => by omega, fun q => by omega⟩⟩
    · rw [List.getElem?_append_right (by rw [List.length_map]; omega), List.length_map] at hc
      obtain ⟨q1, q2⟩ := zyL0a_get hc hn
      obtain ⟨x, hx⟩ : ∃ x, as[i - ps.length]? = some x := ⟨as[i - ps.length]'(by omega), List.getElem?_eq_getElem (by omega)⟩
      refine ⟨.int x, ?_, ?_⟩
      · have hm := zyargs_mem (o := ps.length) hx
        rw [show ps.length + (i - ps.length) = i by omega] at hm
        exact xrefs_mem2 (o := 0) (by rw [Nat.zero_add]; exact hm)
      · rw [q2, show ps.length + (i - ps.length) = i by omega]
        refine zyv_sym (by omega) ?_
        have e1 : xv0 ps.length (xfv (as.map xI)) i = xI x := by
          have := xv0_ge (x := xfv (as.map xI)) (m := ps.length) (k := i - ps.length)
          rw [show ps.length + (i - ps.length) = i by omega, xfv_map, hx] at this
          exact this
        show Int32.ofInt (xv0 ps.length (xfv (as.map xI)) i) = x
        rw [e1]
        exact xofI x
end
section
/-! FROM A STOP: to the next phase, by a call, by an element stored -/
def xcs (v : Nat → Int) : List Nat → List Int → Prop
  | [], _ => True
  | _ :: _, [] => False
  | c :: cs, a :: L => xc v c = a ∧ xcs v cs L
theorem xcs_n {v : Nat → Int} {L : List Int} : xcs v [] L := trivial
theorem xcs_c {v : Nat → Int} {c : Nat} {cs : List Nat} {a : Int} {L : List Int} (h : xc v c = a) (t : xcs v cs L) : xcs v (c :: cs) (a :: L) := ⟨h, t⟩
theorem xcs_g {ρ : Nat → Int32} {v : Nat → Int} {Bd : List (Nat × Nat × Nat)} (hv : ∀ k, xI (ρ k) = v k) (hB : xBd ρ Bd) : ∀ {cs : List Nat} {L : List Int}, xcs v cs L → cs.all (xofB Bd) = true → ∀ i, i < cs.length → xI (zyw ρ (zyag cs i)) = xfv L i := by
  intro cs
  induction cs with
  | nil => intro L _ _ i hi; exact absurd hi (Nat.not_lt_zero i)
  | cons c t ih =>
    intro L h hk i hi
    rw [List.all_cons, Bool.and_eq_true] at hk
    cases L with
    | nil => exact h.elim
    | cons a L =>
      cases i with
      | zero => exact (xofB_iff hv hB hk.1).trans h.1
      | succ i => exact ih h.2 hk.2 i (by rw [List.length_cons] at hi; omega)
theorem xcs_m {ρ : Nat → Int32} {v : Nat → Int} {Bd : List (Nat × Nat × Nat)} (hv : ∀ k, xI (ρ k) = v k) (hB : xBd ρ Bd) : ∀ {cs : List Nat} {L : List Int}, xcs v cs L → cs.all (xofB Bd) = true → L.length = cs.length → (cs.map (zyw ρ)).map xI = L := by
  intro cs
  induction cs with
  | nil =>
    intro L _ _ hl
    exact (List.length_eq_zero_iff.mp hl).symm
  | cons c t ih =>
    intro L h hk hl
    rw [List.all_cons, Bool.and_eq_true] at hk
    cases L with
    | nil => cases hl
    | cons a L =>
      rw [List.length_cons, List.length_cons] at hl
      rw [List.map_cons, List.map_cons, ih h.2 hk.2 (by omega), xofB_iff hv hB hk.1, h.1]
def xEnvL : List Int → List (Nat × Nat) → Prop
  | [], [] => True
  | a :: L, p :: e => ((p.1 : Int) ≤ a + 2147483648 ∧ a + 2147483648 ≤ (p.2 : Int) ∧ p.2 ≤ 4294967295) ∧ xEnvL L e
  | [], _ :: _ => False
  | _ :: _, [] => False
theorem xe_n : xEnvL [] [] := trivial
theorem xe_c {a : Int} {L : List Int} {lo hi : Nat} {e : List (Nat × Nat)} (h1 : (lo : Int) ≤ a + 2147483648) (h2 : a + 2147483648 ≤ (hi : Int)) (h3 : Nat.ble hi 4294967295 = true) (t : xEnvL L e) : xEnvL (a :: L) ((lo, hi) :: e) := ⟨⟨h1, h2, Nat.le_of_ble_eq_true h3⟩, t⟩
theorem xe_0 {L : List Int} {e : List (Nat × Nat)} (t : xEnvL L e) : xEnvL (0 :: L) ((0, 4294967295) :: e) := ⟨⟨by show ((0 : Nat) : Int) ≤ 0 + 2147483648; omega, by show (0 : Int) + 2147483648 ≤ ((4294967295 : Nat) : Int); omega, Nat.le_refl _⟩, t⟩
theorem xe_f {a : Int} {L : List Int} {e : List (Nat × Nat)} (h : -2147483648 ≤ a ∧ a < 2147483648) (t : xEnvL L e) : xEnvL (a :: L) ((0, 4294967295) :: e) := ⟨⟨by show ((0 : Nat) : Int) ≤ a + 2147483648; omega, by show a + 2147483648 ≤ ((4294967295 : Nat) : Int); omega, Nat.le_refl _⟩, t⟩
theorem xe_env : ∀ {L : List Int} {e : List (Nat × Nat)}, xEnvL L e → xEnv (xfv L) e ∧ xRg (xfv L) := by
  intro L
  induction L with
  | nil =>
    intro e h
    cases e with
    | nil => exact ⟨fun k p hp => by simp at hp, fun k => by show -2147483648 ≤ (0 : Int) ∧ (0 : Int) < 2147483648; omega⟩
    | cons p t => exact h.elim
  | cons a L ih =>
    intro e h
    cases e with
    | nil => exact h.elim
    | cons p t =>
      obtain ⟨⟨h1, h2, h3⟩, h4⟩ := h
      obtain ⟨g1, g2⟩ := ih h4
      refine ⟨fun k q hq => ?_, fun k => ?_⟩
      · cases k with
        | zero =>
          have hq : some p = some q := hq
          cases hq
          exact ⟨h1, h2⟩
        | succ k =>
          rw [List.getElem?_cons_succ] at hq
          exact g1 k q hq
      · cases k with
        | zero => show -2147483648 ≤ a ∧ a < 2147483648; omega
        | succ k => exact g2 k
/-- the next phase's known elements: ints, references -/
def xkq (mi : zyB) (B : zCx) (E : zyEm) (L : List Int) (n : Nat) : List (Nat × Nat) → Prop
  | [] => True
  | p :: t => ((∃ c, zG mi (p.1 / 16384) = some c ∧ p.1 % 16384 < zyLen c) ∧ (((∃ x : Int32, E (p.1 / 16384) (p.1 % 16384) = some (.int x) ∧ xI x = xfv L (p.2 / 34359738368)) ∧ p.2 % 34359738368 = 1 ∧ p.2 / 34359738368 < n) ∨ (p.2 % 8 = 3 ∧ E (p.1 / 16384) (p.1 % 16384) = some (.ref (zad B (p.2 / 8)))))) ∧ xkq mi B E L n t
theorem xkq_n {mi : zyB} {B : zCx} {E : zyEm} {L : List Int} {n : Nat} : xkq mi B E L n [] := trivial
theorem xkq_c {mi : zyB} {B : zCx} {E : zyEm} {L : List Int} {n : Nat} {key code : Nat} {t : List (Nat × Nat)} (hT : zyTy mi E) (a k : Nat) {q : Nat} {c : zyCl} {r : Nat × Nat × Nat} (ha : key / 16384 = a) (hk0 : key % 16384 = k) (hg : zG mi a = some c) (hk : Nat.ble (Nat.succ k) (zyLen c) = true) (hr : c.2.2[q]? = some r) (h1 : Nat.ble r.1 k = true) (h2 : Nat.ble k r.2.1 = true) (h3 : Nat.beq (Nat.mod r.2.2 8) 2 = true) (hL : xfv L (code / 34359738368) = xE E a (k : Int)) (hc : code % 34359738368 = 1) (hn : Nat.ble (Nat.succ (code / 34359738368)) n = true) (ht : xkq mi B E L n t) : xkq mi B E L n ((key, code) :: t) := by
  subst ha
  subst hk0
  have h3 : r.2.2 % 8 = 2 := Nat.eq_of_beq_eq_true h3
  obtain ⟨x, e, -⟩ := xTy hT hg (Nat.le_of_ble_eq_true hk) hr (Nat.le_of_ble_eq_true h1) (Nat.le_of_ble_eq_true h2) h3
  exact ⟨⟨⟨c, hg, Nat.le_of_ble_eq_true hk⟩, Or.inl ⟨⟨x, e, by show xI x = xfv L (code / 34359738368); rw [hL, xE_s e (Int.toNat_natCast _)]⟩, hc, Nat.le_of_ble_eq_true hn⟩⟩, ht⟩
theorem xkq_r {mi : zyB} {B : zCx} {E : zyEm} {L : List Int} {n : Nat} {key code : Nat} {t : List (Nat × Nat)} (a k q : Nat) {c : zyCl} (ha : key / 16384 = a) (hk0 : key % 16384 = k) (hg : zG mi a = some c) (hk : Nat.ble (Nat.succ k) (zyLen c) = true) (hc : code = 8 * q + 3) (hE : E a k = some (.ref (zad B q))) (ht : xkq mi B E L n t) : xkq mi B E L n ((key, code) :: t) := by
  subst ha
  subst hk0
  subst hc
  exact ⟨⟨⟨c, hg, Nat.le_of_ble_eq_true hk⟩, Or.inr ⟨by show (8 * q + 3) % 8 = 3; omega, by show _ = some (Value.ref (zad B ((8 * q + 3) / 8))); rw [show (8 * q + 3) / 8 = q by omega]; exact hE⟩⟩, ht⟩
theorem xkq_k {mi : zyB} {B : zCx} {H : Heap} {L : List Int} {n : Nat} (hr : xRg (xfv L)) : ∀ {kc : List (Nat × Nat)}, xkq mi B (zyEl mi B H) L n kc → ∀ p ∈ kc, ∃ (c : zyCl) (w : Value), zG mi (p.1 / 16384) = some c ∧ p.1 % 16384 < zyLen c ∧ zyEl mi B H (p.1 / 16384) (p.1 % 16384) = some w ∧ zyv (fun k => Int32.ofInt (xfv L k)) n (zad B) p.2 w := by
  intro kc
  induction kc with
  | nil => intro _ p hp; cases hp
  | cons a t ih =>
    intro h p hp
    rcases List.mem_cons.mp hp with e | e
    · obtain ⟨⟨⟨c, h1, h2⟩, h3⟩, -⟩ := h
      subst e
      rcases h3 with ⟨⟨x, h3, h4⟩, h5, h6⟩ | ⟨h5, h3⟩
      · refine ⟨c, _, h1, h2, h3, ?_⟩
        have e : p.2 = zysym (p.2 / 34359738368) := by rw [zysym_def]; omega
        rw [e]
        refine zyv_sym h6 ?_
        rw [← h4]
        exact xofI x
      · exact ⟨c, _, h1, h2, h3, Or.inl ⟨Or.inr (Or.inr (Or.inr (Or.inl ⟨h5, rfl⟩))), fun q => by omega, fun q => by omega⟩⟩
    · exact ih h.2 p e
/-- the next phase's stack -/
def xst (Bd : List (Nat × Nat × Nat)) (v : Nat → Int) (L : List Int) (n : Nat) : List Nat → List Nat → Prop
  | [], [] => True
  | c2 :: t2, c1 :: t1 => ((c2 % 8 = 3 ∧ c1 = c2) ∨ (c2 = zysym (c2 / 34359738368) ∧ c2 / 34359738368 < n ∧ c1 % 8 ≤ 1 ∧ xofB Bd c1 = true ∧ xc v c1 = xfv L (c2 / 34359738368))) ∧ xst Bd v L n t2 t1
  | [], _ :: _ => False
  | _ :: _, [] => False
theorem xst_n {Bd : List (Nat × Nat × Nat)} {v : Nat → Int} {L : List Int} {n : Nat} : xst Bd v L n [] [] := trivial
theorem xst_r {Bd : List (Nat × Nat × Nat)} {v : Nat → Int} {L : List Int} {n c : Nat} {t2 t1 : List Nat} (h : Nat.beq (Nat.mod c 8) 3 = true) (t : xst Bd v L n t2 t1) : xst Bd v L n (c :: t2) (c :: t1) := ⟨Or.inl ⟨Nat.eq_of_beq_eq_true h, rfl⟩, t⟩
theorem xst_s {Bd : List (Nat × Nat × Nat)} {v : Nat → Int} {L : List Int} {n c2 c1 : Nat} {t2 t1 : List Nat} (k : Nat) (hk : c2 = zysym k) (hn : Nat.ble (Nat.succ k) n = true) (h8 : Nat.ble (Nat.mod c1 8) 1 = true) (ho : xofB Bd c1 = true) (h : xc v c1 = xfv L k) (t : xst Bd v L n t2 t1) : xst Bd v L n (c2 :: t2) (c1 :: t1) := by
  have e : c2 / 34359738368 = k := by rw [hk, zysym_def]; omega
  exact ⟨Or.inr ⟨by rw [e]; exact hk, by rw [e]; exact Nat.le_of_ble_eq_true hn, Nat.le_of_ble_eq_true h8, ho, by rw [e]; exact h⟩, t⟩
theorem xst_g {B : zCx} {ρ : Nat → Int32} {v : Nat → Int} {Bd : List (Nat × Nat × Nat)} {L : List Int} {n N : Nat} (hv : ∀ k, xI (ρ k) = v k) (hB : xBd ρ Bd) (hr : xRg (xfv L)) : ∀ {s2 s1 : List Nat} {q : List Value}, xst Bd v L n s2 s1 → zySt (zyXn B ρ N) s1 q → zySt (zyXn B (fun k => Int32.ofInt (xfv L k)) n) s2 q := by
  intro s2
  induction s2 with
  | nil =>
    intro s1 q h hs
    cases s1 with
    | nil => rw [zySt_n hs]; trivial
    | cons a t => exact h.elim
  | cons c2 t2 ih =>
    intro s1 q h hs
    cases s1 with
    | nil => exact h.elim
    | cons c1 t1 =>
      obtain ⟨b, u, rfl, g1, g2⟩ := zySt_c hs
      refine ⟨?_, ih h.2 g2⟩
      rcases h.1 with ⟨e1, e2⟩ | ⟨e1, e2, e3, e4, e5⟩
      · rw [e2] at g1
        exact zyv_cl (by omega) g1
      · obtain ⟨z, rfl⟩ := zyv_int g1 (by omega)
        rw [e1]
        refine zyv_sym e2 ?_
        show Int32.ofInt (xfv L (c2 / 34359738368)) = z
        rw [← e5, ← xofB_iff hv hB e4, show zyw ρ c1 = z from (zyw_of g1 e3).symm]
        exact xofI z
theorem xTyF {mi : zyB} {E : zyEm} (hT : zyTy mi E) (a k q : Nat) {c : zyCl} {r : Nat × Nat × Nat} (hg : zG mi a = some c) (hk : Nat.ble (Nat.succ k) (zyLen c) = true) (hr : c.2.2[q]? = some r) (h1 : Nat.ble r.1 k = true) (h2 : Nat.ble k r.2.1 = true) (h3 : Nat.beq (Nat.mod r.2.2 8) 2 = true) : ((r.2.2 / 34359738368 : Nat) : Int) ≤ xE E a (k : Int) + 2147483648 ∧ xE E a (k : Int) + 2147483648 ≤ ((r.2.2 / 8 % 4294967296 : Nat) : Int) := by
  have h3 : r.2.2 % 8 = 2 := Nat.eq_of_beq_eq_true h3
  obtain ⟨x, e, b1, b2⟩ := xTy hT hg (Nat.le_of_ble_eq_true hk) hr (Nat.le_of_ble_eq_true h1) (Nat.le_of_ble_eq_true h2) h3
  rw [xE_s e (Int.toNat_natCast _)]
  exact ⟨b1, b2⟩
section XGO
variable {l : Launch} {mi : zyB} {en : zEn} {dep : Nat} {B : zCx} {s : State} {fpm : zyR} {ι : Type} {φ : ι → zyPh} {Inv : ι → (Nat → Int) → zyEm → Prop} {Mu : ι → (Nat → Int) → zyEm → Nat} {M : Nat} {Wg : zyWt} {x : zyXp} {ρ2 : Nat → Int32} {v2 : Nat → Int} {N : Nat} {H : Heap} {locs : List Loc} {lsB : Array Slot} {stA : List Value}
/-- what a jump to a phase wants, but for the stack, the invariant, the measure -/
def xJ (mi : zyB) (B : zCx) (nL : Nat) (x : zyXp) (v2 : Nat → Int) (φ2 : zyPh) (E : zyEm) (cs : List Nat) (L : List Int) : Prop := zygoB nL x.2.1 φ2 cs = true ∧ (cs.length = nL ∧ cs.all (xofB x.2.2.2.2.1) = true) ∧ xcs v2 cs L ∧ xEnvL L φ2.2.2.1 ∧ xkq mi B E L φ2.2.2.1.length φ2.2.2.2.1
theorem xJ_s {nL : Nat} (hAt : zyAt mi B s nL x ρ2 N H locs lsB stA) (hB : xBd ρ2 x.2.2.2.2.1) (hv : ∀ k, xI (ρ2 k) = v2 k) {φ2 : zyPh} {cs : List Nat} {L : List Int} {H' : Heap} {locs' : List Loc} {stB : List Value} (hJ : xJ mi B nL x v2 φ2 (zyEl mi B H') cs L) (hlo : ∀ x ∈ locs', zbs B ≤ x.base) (hst : zySt (zyXn B (fun k => Int32.ofInt (xfv L k)) φ2.2.2.1.length) φ2.2.2.2.2 stB) : zySs mi B nL φ2 (fun k => Int32.ofInt (xfv L k)) H' locs' lsB stB := by
  obtain ⟨h1, ⟨h2, h3⟩, h4, h5, h6⟩ := hJ
  obtain ⟨g1, g2⟩ := xe_env h5
  refine zyAss hAt h1 (fun i hi => ?_) (xEnv_z g2 g1) hlo hst (xkq_k g2 h6)
  have e := xcs_g hv hB h4 h3 i (by omega)
  rw [← e]
  exact xofI _
theorem xGo {nL : Nat} (hIH : xIH mi nL B s fpm φ Inv Mu M Wg) (hAt : zyAt mi B s nL x ρ2 N H locs lsB stA) (hB : xBd ρ2 x.2.2.2.2.1) (hv : ∀ k, xI (ρ2 k) = v2 k) (hFr : xFr fpm (zyEl mi B s.heap) (zyEl mi B H)) (i2 : ι) (cs : List Nat) (L : List Int) (hpc : x.1 = (φ i2).1) (hJ : xJ mi B nL x v2 (φ i2) (zyEl mi B H) cs L) (hst : xst x.2.2.2.2.1 v2 L (φ i2).2.2.1.length (φ i2).2.2.2.2 x.2.2.1) (hInv : Inv i2 (xfv L) (zyEl mi B H)) (hMu : Mu i2 (xfv L) (zyEl mi B H) < M) : Wg H locs x.1 lsB stA := by
  rw [hpc]
  have g2 := (xe_env hJ.2.2.2.1).2
  exact hIH i2 (xfv L) H locs lsB stA hAt.1 hAt.2.1 hFr g2 hInv (xJ_s hAt hB hv hJ hAt.2.2.1 (xst_g hv hB g2 hst hAt.2.2.2.2.2)) hMu
theorem xrefs_st {ps : List Nat} : ∀ {q : List Value}, zySt (zyXn B ρ2 N) (ps.map fun p => 8 * p + 3) q → q = ps.map fun p => Value.ref (zad B p) := by
  induction ps with
  | nil => intro q h; exact zySt_n h
  | cons a t ih =>
    intro q h
    obtain ⟨b, u, rfl, h1, h2⟩ := zySt_c h
    have e := zyv_3 (v := 8 * a + 3) h1 (by omega)
    rw [show (8 * a + 3) / 8 = a by omega] at e
    rw [e, ih h2]
    rfl
theorem xrefs_rev {ps : List Nat} : (ps.map fun p => 8 * p + 3).reverse = (ps.reverse).map fun p => 8 * p + 3 := (List.map_reverse).symm
theorem xcat {cr : List Nat} : ∀ {q : List Value}, (∀ c ∈ cr, c % 8 ≤ 1 ∨ c % 8 = 3) → zySt (zyXn B ρ2 N) cr q → (q.map fun v => v.category).sum = cr.length := by
  induction cr with
  | nil => intro q _ h; rw [zySt_n h]; rfl
  | cons a t ih =>
    intro q hk h
    obtain ⟨b, u, rfl, h1, h2⟩ := zySt_c h
    have e := ih (fun c hc => hk c (List.mem_cons_of_mem _ hc)) h2
    rw [List.map_cons, List.sum_cons, e, List.length_cons]
    rcases hk a List.mem_cons_self with h3 | h3
    · obtain ⟨z, rfl⟩ := zyv_int h1 (by omega)
      show 1 + t.length = t.length + 1
      omega
    · rw [zyv_3 h1 h3]
      show 1 + t.length = t.length + 1
      omega
/-- a call -/
theorem xCa (hRu : xRu l mi en dep B s Wg) (hIH : xIH mi en.2.2.1 B s fpm φ Inv Mu M Wg) (hAt : zyAt mi B s en.2.2.1 x ρ2 N H locs lsB stA) (hB : xBd ρ2 x.2.2.2.2.1) (hv : ∀ k, xI (ρ2 k) = v2 k) (hFr : xFr fpm (zyEl mi B s.heap) (zyEl mi B H)) {en2 : zEn} {me2 : zMe} {dep2 na2 p0 : Nat} {ps2 : List Nat} {fp2 : zyR} {rt2 : Bool} {Φ2 : (Nat → Int) → zyEm → Prop} {Ψ2 : (Nat → Int) → zyEm → zyEm → Int → Prop} (hFc : xFcB l mi B en2 me2 dep2 (p0 :: ps2) na2 fp2 rt2 Φ2 Ψ2) {ix ax : Nat} (hrow : en.1 x.1 = (.invokevirtual ix, x.1 + 3, ax)) (hkd : zG zKd (ax / 16) = some 0) (hen2 : zG zxMeta (ax / 16) = some en2) (hme2 : zG zMeth (ax / 16) = some me2) (hcl : ∃ c, zG mi p0 = some c ∧ c.1 = en2.2.2.2.1 ∧ c.1 < 12) (hsh : en2.2.1 = na2 + 1 + ps2.length ∧ en2.2.2.2.2.2.1 = 0 ∧ en2.2.2.2.2.2.2.1 = 0) (hdp : dep2 + 1 ≤ dep) (cs2 cr : List Nat) (A : List Int) (hst : x.2.2.1 = cs2.reverse ++ (((p0 :: ps2).map fun p => 8 * p + 3).reverse ++ cr)) (hlen : cs2.length = na2 ∧ A.length = na2) (hck : (cs2.all (fun c => decide (c % 8 ≤ 1) && xofB x.2.2.2.2.1 c) && cr.all (fun c => decide (c % 8 ≤ 1) || decide (c % 8 = 3)) && decide (cr.length ≤ 8)) = true) (hA : xcs v2 cs2 A) (hsub : xsubR fp2 fpm = true) (hΦ : Φ2 (xfv A) (zyEl mi B H))
    (kk : ∀ (H3 : Heap) (r : Int), zyTy mi (zyEl mi B H3) → xFr fp2 (zyEl mi B H) (zyEl mi B H3) → xFr fpm (zyEl mi B s.heap) (zyEl mi B H3) → (-2147483648 ≤ r ∧ r < 2147483648) → Ψ2 (xfv A) (zyEl mi B H) (zyEl mi B H3) r → ∃ (i2 : ι) (cs : List Nat) (L : List Int), (φ i2).1 = x.1 + 3 ∧ xJ mi B en.2.2.1 x v2 (φ i2) (zyEl mi B H3) cs L ∧ (if rt2 = true then ∃ (k : Nat) (t2 : List Nat), (φ i2).2.2.2.2 = zysym k :: t2 ∧ k < (φ i2).2.2.1.length ∧ xfv L k = r ∧ xst x.2.2.2.2.1 v2 L (φ i2).2.2.1.length t2 cr else xst x.2.2.2.2.1 v2 L (φ i2).2.2.1.length (φ i2).2.2.2.2 cr) ∧ Inv i2 (xfv L) (zyEl mi B H3) ∧ Mu i2 (xfv L) (zyEl mi B H3) < M) : Wg H locs x.1 lsB stA := by
  have hs := hAt.2.2.2.2.2
  rw [hst] at hs
  obtain ⟨q1, q23, rfl, g1, g23⟩ := zySt_split hs
  obtain ⟨q2, q3, rfl, g2, g3⟩ := zySt_split g23
  rw [xrefs_rev] at g2
  have e2 := xrefs_st g2
  rw [Bool.and_eq_true, Bool.and_eq_true, List.all_eq_true, List.all_eq_true, decide_eq_true_eq] at hck
  obtain ⟨⟨c1, c2⟩, c3⟩ := hck
  have c1a : ∀ c ∈ cs2, c % 8 ≤ 1 := fun c hc => by
    have := c1 c hc
    rw [Bool.and_eq_true, decide_eq_true_eq] at this
    exact this.1
  have c1b : cs2.all (xofB x.2.2.2.2.1) = true := List.all_eq_true.mpr fun c hc => by
    have := c1 c hc
    rw [Bool.and_eq_true] at this
    exact this.2
  have c2a : ∀ c ∈ cr, c % 8 ≤ 1 ∨ c % 8 = 3 := fun c hc => by
    have := c2 c hc
    rw [Bool.or_eq_true, decide_eq_true_eq, decide_eq_true_eq] at this
    exact this
  have e1 := zySt_ints (fun c hc => c1a c (List.mem_reverse.mp hc)) g1
  have e4 : q1 ++ (q2 ++ q3) = (xAg B (p0 :: ps2) (cs2.map (zyw ρ2))).reverse ++ q3 := by
    rw [e1, e2]
    unfold xAg
    rw [List.reverse_append, List.map_reverse, List.map_reverse, List.map_reverse, List.append_assoc]
  have hm := xcs_m hv hB hA c1b (by omega)
  rw [e4]
  have hM2 := hFc (cs2.map (zyw ρ2)) (by rw [List.length_map]; exact hlen.1)
  refine hRu.1 x.1 ix ax en2 me2 dep2 p0 _ _ _ _ H locs lsB (by rw [xcat c2a g3]; exact c3) hrow hkd hen2 hme2 hcl ?_ hsh.2.1 hsh.2.2 hM2 hdp hAt.1 hAt.2.2.1 hAt.2.2.2.1.1 (by show Φ2 (xfv ((cs2.map (zyw ρ2)).map xI)) (zyEl mi B H); rw [hm]; exact hΦ) (fun H3 locs3 vo hI3 hO3 hlo3 hΨ => ?_)
  · show ((ps2.map fun p => Value.ref (zad B p)) ++ (cs2.map (zyw ρ2)).map Value.int).length + 1 = _
    rw [List.length_append, List.length_map, List.length_map, List.length_map, hlen.1, hsh.1]
    omega
  have hΨ : xFr fp2 (zyEl mi B H) (zyEl mi B H3) ∧ ∃ z : Int32, vo = (if rt2 = true then some (.int z) else none) ∧ Ψ2 (xfv ((cs2.map (zyw ρ2)).map xI)) (zyEl mi B H) (zyEl mi B H3) (xI z) := hΨ
  rw [hm] at hΨ
  obtain ⟨hf, z, hvo, hΨ⟩ := hΨ
  have hFr3 := xFr_trans hFr (xFr_mono hsub hf)
  obtain ⟨i2, cs, L, k1, k2, k3, k4, k5⟩ := kk H3 (xI z) (zyTy_of hI3) hf hFr3 (xI_r z) hΨ
  have g := (xe_env k2.2.2.2.1).2
  rw [← k1]
  refine hIH i2 (xfv L) H3 locs3 lsB _ hI3 (fun q hq => (hO3 q hq).trans (hAt.2.1 q hq)) hFr3 g k4 (xJ_s hAt hB hv k2 hlo3 ?_) k5
  cases hr : rt2 with
  | true =>
    rw [hr] at k3 hvo
    rw [if_pos rfl] at k3 hvo
    obtain ⟨k, t2, w1, w2, w3, w4⟩ := k3
    rw [w1, hvo]
    refine ⟨zyv_sym w2 ?_, xst_g hv hB g w4 g3⟩
    show Int32.ofInt (xfv L k) = z
    rw [w3]
    exact xofI z
  | false =>
    rw [hr] at k3 hvo
    rw [if_neg (by decide)] at k3 hvo
    rw [hvo]
    exact xst_g hv hB g k3 g3
/-- an element is stored -/
theorem xSt (hRu : xRu l mi en dep B s Wg) (hIH : xIH mi en.2.2.1 B s fpm φ Inv Mu M Wg) (hAt : zyAt mi B s en.2.2.1 x ρ2 N H locs lsB stA) (hB : xBd ρ2 x.2.2.2.2.1) (hv : ∀ k, xI (ρ2 k) = v2 k) (hFr : xFr fpm (zyEl mi B s.heap) (zyEl mi B H)) (a : Nat) {ax : Nat} {c : zyCl} (cv cj : Nat) (V J : Int) (hst : x.2.2.1 = [cv, cj, 8 * a + 3]) (hrow : (c.1 = 20 ∧ en.1 x.1 = (.iastore, x.1 + 1, ax)) ∨ (c.1 = 22 ∧ en.1 x.1 = (.bastore, x.1 + 1, ax) ∧ -128 ≤ V ∧ V ≤ 127) ∨ (c.1 = 23 ∧ en.1 x.1 = (.bastore, x.1 + 1, ax) ∧ 0 ≤ V ∧ V ≤ 1)) (hg : zG mi a = some c) (hck : (decide (cv % 8 ≤ 1) && xofB x.2.2.2.2.1 cv && decide (cj % 8 ≤ 1) && xofB x.2.2.2.2.1 cj) = true) (hV : xc v2 cv = V) (hJ : xc v2 cj = J) (hJ0 : 0 ≤ J) (hJn : J < (c.2.1 : Int)) (hrows : ∀ r ∈ c.2.2, (r.1 : Int) ≤ J → J ≤ (r.2.1 : Int) → r.2.2 % 8 = 2 ∧ ((r.2.2 / 34359738368 : Nat) : Int) ≤ V + 2147483648 ∧ V + 2147483648 ≤ ((r.2.2 / 8 % 4294967296 : Nat) : Int)) (hin : zyin fpm a J.toNat = true)
    (kk : ∀ (H3 : Heap), zyTy mi (zyEl mi B H3) → xE (zyEl mi B H3) a J = V → (∀ (a2 : Nat) (k2 : Int), 0 ≤ k2 → ¬ (a2 = a ∧ k2 = J) → xE (zyEl mi B H3) a2 k2 = xE (zyEl mi B H) a2 k2) → (∀ a2 k2, ¬ (a2 = a ∧ k2 = J.toNat) → zyEl mi B H3 a2 k2 = zyEl mi B H a2 k2) → xFr fpm (zyEl mi B s.heap) (zyEl mi B H3) → ∃ (i2 : ι) (cs : List Nat) (L : List Int), (φ i2).1 = x.1 + 1 ∧ xJ mi B en.2.2.1 x v2 (φ i2) (zyEl mi B H3) cs L ∧ (φ i2).2.2.2.2 = [] ∧ Inv i2 (xfv L) (zyEl mi B H3) ∧ Mu i2 (xfv L) (zyEl mi B H3) < M) : Wg H locs x.1 lsB stA := by
  have hs := hAt.2.2.2.2.2
  rw [hst] at hs
  obtain ⟨w0, t0, rfl, a0, hs⟩ := zySt_c hs
  obtain ⟨w1, t1, rfl, a1, hs⟩ := zySt_c hs
  obtain ⟨w2, t2, rfl, a2, hs⟩ := zySt_c hs
  have e3 := zySt_n hs
  subst e3
  rw [Bool.and_eq_true, Bool.and_eq_true, Bool.and_eq_true, decide_eq_true_eq, decide_eq_true_eq] at hck
  obtain ⟨⟨⟨k1, k2⟩, k3⟩, k4⟩ := hck
  obtain ⟨z0, rfl⟩ := zyv_int a0 (by omega)
  obtain ⟨z1, rfl⟩ := zyv_int a1 (by omega)
  have e2 := zyv_3 a2 (by omega)
  rw [show (8 * a + 3) / 8 = a by omega] at e2
  have e2 : w2 = .ref (zad B a) := e2
  have e0 : xI z0 = V := by
    rw [show z0 = zyw ρ2 cv from zyw_of a0 k1, xofB_iff hv hB k2]
    exact hV
  have e1 : xI z1 = J := by
    rw [show z1 = zyw ρ2 cj from zyw_of a1 k3, xofB_iff hv hB k4]
    exact hJ
  have r1 := xI_r z1
  have e1 : z1 = Int32.ofNat J.toNat := by
    apply xI_inj
    rw [e1, xI_nat (by omega)]
    have : xsg J.toNat = ((J.toNat : Nat) : Int) := if_pos (by omega)
    omega
  rw [e2, e1]
  have bz := xI_zB z0
  refine hRu.2.1 x.1 ax a J.toNat c z0 H locs lsB ?_ hg (by omega) (fun r hr q1 q2 => ?_) hAt.1 hAt.2.2.1 (fun H3 locs3 hI3 hO3 hlo3 h1 h2 => ?_)
  · rcases hrow with ⟨p1, p2⟩ | ⟨p1, p2, p3, p4⟩ | ⟨p1, p2, p3, p4⟩
    · exact Or.inl ⟨p1, p2⟩
    · exact Or.inr (Or.inl ⟨p1, p2, by rw [← e0] at p3; exact p3, by rw [← e0] at p4; exact p4⟩)
    · exact Or.inr (Or.inr ⟨p1, p2, by rw [← e0] at p3; exact p3, by rw [← e0] at p4; exact p4⟩)
  · obtain ⟨p1, p2, p3⟩ := hrows r hr (by omega) (by omega)
    exact ⟨p1, by omega, by omega⟩
  · have hFr3 : xFr fpm (zyEl mi B s.heap) (zyEl mi B H3) := by
      intro a2 k2 hk
      rw [h2 a2 k2 (fun z => by rw [z.1, z.2] at hk; rw [hk] at hin; cases hin)]
      exact hFr a2 k2 hk
    obtain ⟨i2, cs, L, p1, p2, p3, p4, p5⟩ := kk H3 (zyTy_of hI3) (by rw [xE_s h1 rfl]; exact e0) (fun a2 k2 hk0 hne => by
      unfold xE
      rw [h2 a2 k2.toNat (fun z => hne ⟨z.1, by omega⟩)]) h2 hFr3
    have g := (xe_env p2.2.2.2.1).2
    rw [← p1]
    refine hIH i2 (xfv L) H3 locs3 lsB [] hI3 (fun q hq => (hO3 q hq).trans (hAt.2.1 q hq)) hFr3 g p4 (xJ_s hAt hB hv p2 hlo3 ?_) p5
    rw [p3]
    trivial
end XGO
end
section
/-! A CONTRACT OF (a reference, an int, a reference) -/
def xFq (l : Launch) (mi : zyB) (B : zCx) (en : zEn) (me : zMe) (dep p0 q0 : Nat) (fp : zyR) (rt : Bool) (Φ : (Nat → Int) → zyEm → Prop) (Ψ : (Nat → Int) → zyEm → zyEm → Int → Prop) : Prop := ∀ z : Int32, xMt l mi B en me dep [.ref (zad B p0), .int z, .ref (zad B q0)] (Φ (xfv [xI z])) (fun E E2 vo => xFr fp E E2 ∧ ∃ z2 : Int32, vo = (if rt = true then some (.int z2) else none) ∧ Ψ (xfv [xI z]) E E2 (xI z2))
def xv0q (x : Nat → Int) : Nat → Int
  | 1 => x 0
  | _ => 0
theorem xv0q_r {x : Nat → Int} (h : xRg x) : xRg (xv0q x) := fun k => by
  unfold xv0q
  split
  · exact h 0
  · omega
theorem xfv1_r (z : Int32) : xRg (xfv [xI z]) := fun k => by
  cases k with
  | zero => exact xI_r z
  | succ k => show -2147483648 ≤ (0 : Int) ∧ (0 : Int) < 2147483648; omega
theorem xcutq {l : Launch} {mi : zyB} {B : zCx} {y0 : Nat} {en : zEn} {me : zMe} (hOK : zOK y0 en me) (hc0 : en.2.2.2.2.2.1 = 0) (hs0 : en.2.2.2.2.2.2.1 = 0) {dep p0 q0 : Nat} {fpm : zyR} {rt : Bool} {Φ : (Nat → Int) → zyEm → Prop} {Ψ : (Nat → Int) → zyEm → zyEm → Int → Prop} {ι : Type} (φ : ι → zyPh) (tb : ι → Nat → List zyCt) (fp : ι → zyR) (sp : ι → Nat) (xs rs : ι → List zyXp) (hCon : ∀ i, zyCons l (mi, tb i, fp i, [], sp i) zyJ0) (n : Nat)
    (hrun : ∀ i, zyok (zybtx mi (rs i)) (mi, tb i, fp i, [], sp i) (zystx mi (xs i)) n (zyln (φ i).2.2.1, (φ i).2.2.1) en.1 en.2.2.2.2 (φ i).1 (φ i).2.1 (φ i).2.2.2.2 (dep, 0, 0) [] ((φ i).2.2.2.1, []) = true)
    (hfp : ∀ i, xsubR (fp i) fpm = true) (hckX : ∀ i, (xs i).all xckX = true) (hckR : ∀ i, (rs i).all (fun x => xckX x && xrtB rt x) = true)
    (i0 : ι) (hi0 : (φ i0).1 = 0 ∧ (φ i0).2.1 = (8 * p0 + 3) :: zysym 1 :: (8 * q0 + 3) :: List.replicate (en.2.2.1 - 3) 13 ∧ (φ i0).2.2.2.1 = [] ∧ (φ i0).2.2.2.2 = []) (hna : 3 ≤ en.2.2.1 ∧ 2 ≤ (φ i0).2.2.1.length)
    (Inv : ι → (Nat → Int) → zyEm → (Nat → Int) → zyEm → Prop) (Mu : ι → (Nat → Int) → zyEm → (Nat → Int) → zyEm → Nat)
    (h0 : ∀ (x : Nat → Int) (E : zyEm), xRg x → zyTy mi E → Φ x E → xEnv (xv0q x) (φ i0).2.2.1 ∧ Inv i0 x E (xv0q x) E)
    (hstop : ∀ (x0 : Nat → Int) (s : State) (Wg : zyWt), xRu l mi en dep B s Wg → xRg x0 → zyTy mi (zyEl mi B s.heap) → Φ x0 (zyEl mi B s.heap) → ∀ (i : ι) (v : Nat → Int) (H : Heap), zyTy mi (zyEl mi B H) → xRg v → Inv i x0 (zyEl mi B s.heap) v (zyEl mi B H) → xKc (φ i).2.2.2.1 v (zyEl mi B H) → xFr fpm (zyEl mi B s.heap) (zyEl mi B H) → xIH mi en.2.2.1 B s fpm φ (fun i => Inv i x0 (zyEl mi B s.heap)) (fun i => Mu i x0 (zyEl mi B s.heap)) (Mu i x0 (zyEl mi B s.heap) v (zyEl mi B H)) Wg →
      ∀ x ∈ xs i, ∀ (ρ2 : Nat → Int32) (v2 : Nat → Int) (N2 : Nat) (H2 : Heap) (locs : List Loc) (lsB : Array Slot) (stA : List Value), zyAt mi B s en.2.2.1 x ρ2 N2 H2 locs lsB stA → xBd ρ2 x.2.2.2.2.1 → (∀ k, xI (ρ2 k) = v2 k) → xRg v2 → xXs x v2 (zyEl mi B H) (zyEl mi B H2) → (∀ k, k < (φ i).2.2.1.length → v2 k = v k) → xFr (fp i) (zyEl mi B H) (zyEl mi B H2) → xFr fpm (zyEl mi B s.heap) (zyEl mi B H2) → zyTy mi (zyEl mi B H2) → Wg H2 locs x.1 lsB stA)
    (hret : ∀ (x0 : Nat → Int) (E0 E E2 : zyEm), xRg x0 → zyTy mi E0 → Φ x0 E0 → ∀ (i : ι) (v : Nat → Int), zyTy mi E → xRg v → Inv i x0 E0 v E → xKc (φ i).2.2.2.1 v E → xFr fpm E0 E → ∀ x ∈ rs i, ∀ (v2 : Nat → Int), xRg v2 → xXs x v2 E E2 → (∀ k, k < (φ i).2.2.1.length → v2 k = v k) → xFr (fp i) E E2 → xFr fpm E0 E2 → zyTy mi E2 → Ψ x0 E0 E2 (xrv x.2.2.1 v2)) : xFq l mi B en me dep p0 q0 fpm rt Φ Ψ := by
  intro z
  have hx0 := xfv1_r z
  refine xcutM (As := [.ref (zad B p0), .int z, .ref (zad B q0)]) (x0 := xfv [xI z]) (v0 := xv0q (xfv [xI z])) hOK hc0 hs0 hx0 (xv0q_r hx0) φ tb fp sp xs rs hCon n hrun hfp hckX hckR i0 ⟨hi0.1, ?_, hi0.2.2⟩ (show 3 ≤ _ from hna.1) (fun i c hc hn => ?_) Inv Mu (fun E => h0 _ E hx0) hstop hret
  · rw [hi0.2.1, List.length_cons, List.length_cons, List.length_cons, List.length_replicate]
    omega
  · rw [hi0.2.1] at hc
    match i, hc with
    | 0, hc =>
      have hc : some (8 * p0 + 3) = some c := hc
      cases hc
      exact ⟨.ref (zad B p0), List.mem_cons_self, Or.inl ⟨Or.inr (Or.inr (Or.inr (Or.inl ⟨by omega, by rw [show (8 * p0 + 3) / 8 = p0 by omega]⟩))), fun q => by omega, fun q => by omega⟩⟩
    | 1, hc =>
      have hc : some (zysym 1) = some c := hc
      cases hc
      exact ⟨.int z, List.mem_cons_of_mem _ List.mem_cons_self, zyv_sym (by omega) (xofI z)⟩
    | 2, hc =>
      have hc : some (8 * q0 + 3) = some c := hc
      cases hc
      exact ⟨.ref (zad B q0), List.mem_cons_of_mem _ (List.mem_cons_of_mem _ List.mem_cons_self), Or.inl ⟨Or.inr (Or.inr (Or.inr (Or.inl ⟨by omega, by rw [show (8 * q0 + 3) / 8 = q0 by omega]⟩))), fun q => by omega, fun q => by omega⟩⟩
    | k + 3, hc =>
      have hc : (List.replicate (en.2.2.1 - 3) 13)[k]? = some c := hc
      exact absurd (List.eq_of_mem_replicate (List.mem_of_getElem? hc)) hn
section XGO
variable {l : Launch} {mi : zyB} {en : zEn} {dep : Nat} {B : zCx} {s : State} {fpm : zyR} {ι : Type} {φ : ι → zyPh} {Inv : ι → (Nat → Int) → zyEm → Prop} {Mu : ι → (Nat → Int) → zyEm → Nat} {M : Nat} {Wg : zyWt} {x : zyXp} {ρ2 : Nat → Int32} {v2 : Nat → Int} {N : Nat} {H : Heap} {locs : List Loc} {lsB : Array Slot} {stA : List Value}
theorem xCaq (hRu : xRu l mi en dep B s Wg) (hIH : xIH mi en.2.2.1 B s fpm φ Inv Mu M Wg) (hAt : zyAt mi B s en.2.2.1 x ρ2 N H locs lsB stA) (hB : xBd ρ2 x.2.2.2.2.1) (hv : ∀ k, xI (ρ2 k) = v2 k) (hFr : xFr fpm (zyEl mi B s.heap) (zyEl mi B H)) {en2 : zEn} {me2 : zMe} {dep2 p0 q0 : Nat} {fp2 : zyR} {rt2 : Bool} {Φ2 : (Nat → Int) → zyEm → Prop} {Ψ2 : (Nat → Int) → zyEm → zyEm → Int → Prop} (hFc : xFq l mi B en2 me2 dep2 p0 q0 fp2 rt2 Φ2 Ψ2) {ix ax : Nat} (hrow : en.1 x.1 = (.invokevirtual ix, x.1 + 3, ax)) (hkd : zG zKd (ax / 16) = some 0) (hen2 : zG zxMeta (ax / 16) = some en2) (hme2 : zG zMeth (ax / 16) = some me2) (hcl : ∃ c, zG mi p0 = some c ∧ c.1 = en2.2.2.2.1 ∧ c.1 < 12) (hsh : en2.2.1 = 3 ∧ en2.2.2.2.2.2.1 = 0 ∧ en2.2.2.2.2.2.2.1 = 0) (hdp : dep2 + 1 ≤ dep) (cn : Nat) (cr : List Nat) (A : Int) (hst : x.2.2.1 = (8 * q0 + 3) :: cn :: (8 * p0 + 3) :: cr) (hck : (decide (cn % 8 ≤ 1) && xofB x.2.2.2.2.1 cn && cr.all (fun c => decide (c % 8 ≤ 1) || decide (c % 8 = 3)) && decide (cr.length ≤ 8)) = true) (hA : xc v2 cn = A) (hsub : xsubR fp2 fpm = true) (hΦ : Φ2 (xfv [A]) (zyEl mi B H))
    (kk : ∀ (H3 : Heap) (r : Int), zyTy mi (zyEl mi B H3) → xFr fp2 (zyEl mi B H) (zyEl mi B H3) → xFr fpm (zyEl mi B s.heap) (zyEl mi B H3) → (-2147483648 ≤ r ∧ r < 2147483648) → Ψ2 (xfv [A]) (zyEl mi B H) (zyEl mi B H3) r → ∃ (i2 : ι) (cs : List Nat) (L : List Int), (φ i2).1 = x.1 + 3 ∧ xJ mi B en.2.2.1 x v2 (φ i2) (zyEl mi B H3) cs L ∧ (if rt2 = true then ∃ (k : Nat) (t2 : List Nat), (φ i2).2.2.2.2 = zysym k :: t2 ∧ k < (φ i2).2.2.1.length ∧ xfv L k = r ∧ xst x.2.2.2.2.1 v2 L (φ i2).2.2.1.length t2 cr else xst x.2.2.2.2.1 v2 L (φ i2).2.2.1.length (φ i2).2.2.2.2 cr) ∧ Inv i2 (xfv L) (zyEl mi B H3) ∧ Mu i2 (xfv L) (zyEl mi B H3) < M) : Wg H locs x.1 lsB stA := by
  have hs := hAt.2.2.2.2.2
  rw [hst] at hs
  obtain ⟨w0, t0, rfl, a0, hs⟩ := zySt_c hs
  obtain ⟨w1, t1, rfl, a1, hs⟩ := zySt_c hs
  obtain ⟨w2, q3, rfl, a2, g3⟩ := zySt_c hs
  rw [Bool.and_eq_true, Bool.and_eq_true, Bool.and_eq_true, decide_eq_true_eq, decide_eq_true_eq, List.all_eq_true] at hck
  obtain ⟨⟨⟨c1, c0⟩, c2⟩, c3⟩ := hck
  have c2a : ∀ c ∈ cr, c % 8 ≤ 1 ∨ c % 8 = 3 := fun c hc => by
    have := c2 c hc
    rw [Bool.or_eq_true, decide_eq_true_eq, decide_eq_true_eq] at this
    exact this
  obtain ⟨zn, rfl⟩ := zyv_int a1 (by omega)
  have e0 := zyv_3 a0 (by omega)
  have e2 := zyv_3 a2 (by omega)
  rw [show (8 * q0 + 3) / 8 = q0 by omega] at e0
  rw [show (8 * p0 + 3) / 8 = p0 by omega] at e2
  have e0 : w0 = .ref (zad B q0) := e0
  have e2 : w2 = .ref (zad B p0) := e2
  have en : xI zn = A := by
    rw [show zn = zyw ρ2 cn from zyw_of a1 c1, xofB_iff hv hB c0]
    exact hA
  have hM2 := hFc zn
  rw [en] at hM2
  rw [e0, e2]
  refine hRu.1 x.1 ix ax en2 me2 dep2 p0 [.int zn, .ref (zad B q0)] _ _ q3 H locs lsB (by rw [xcat c2a g3]; exact c3) hrow hkd hen2 hme2 hcl hsh.1.symm hsh.2.1 hsh.2.2 hM2 hdp hAt.1 hAt.2.2.1 hAt.2.2.2.1.1 hΦ (fun H3 locs3 vo hI3 hO3 hlo3 hΨ => ?_)
  obtain ⟨hf, z, hvo, hΨ⟩ := hΨ
  have hFr3 := xFr_trans hFr (xFr_mono hsub hf)
  obtain ⟨i2, cs, L, k1, k2, k3, k4, k5⟩ := kk H3 (xI z) (zyTy_of hI3) hf hFr3 (xI_r z) hΨ
  have g := (xe_env k2.2.2.2.1).2
  rw [← k1]
  refine hIH i2 (xfv L) H3 locs3 lsB _ hI3 (fun q hq => (hO3 q hq).trans (hAt.2.1 q hq)) hFr3 g k4 (xJ_s hAt hB hv k2 hlo3 ?_) k5
  cases hr : rt2 with
  | true =>
    rw [hr] at k3 hvo
    rw [if_pos rfl] at k3 hvo
    obtain ⟨k, t2, w1, w2, w3, w4⟩ := k3
    rw [w1, hvo]
    refine ⟨zyv_sym w2 ?_, xst_g hv hB g w4 g3⟩
    show Int32.ofInt (xfv L k) = z
    rw [w3]
    exact xofI z
  | false =>
    rw [hr] at k3 hvo
    rw [if_neg (by decide)] at k3 hvo
    rw [hvo]
    exact xst_g hv hB g k3 g3
end XGO
end
section
/-! HOW A TEXT IS READ: tokens. Kinds: 0 the end, 1 none, 2 a word, 3 a number, 4 minus, 5 semicolon -/
def tk (s : Int) : Int := if 97 ≤ s ∧ s ≤ 122 then 2 else if 48 ≤ s ∧ s ≤ 57 then 3 else if s = 45 then 4 else if s = 59 then 5 else 1
def tsp (T : Int → Int) (n : Int) : Nat → Int → Int
  | 0, p => p
  | f + 1, p => if p < n ∧ (T p = 10 ∨ T p = 32) then tsp T n f (p + 1) else p
/-- where the token behind p begins -/
def tFr (T : Int → Int) (n p : Int) : Int := tsp T n (n - p).toNat p
def trn (T : Int → Int) (n k : Int) : Nat → Int → Int
  | 0, p => p
  | f + 1, p => if p < n ∧ tk (T p) = k then trn T n k f (p + 1) else p
/-- where signs of a kind end -/
def tRn (T : Int → Int) (n k p : Int) : Int := trn T n k (n - p).toNat p
/-- where it ends -/
def tNx (T : Int → Int) (n p : Int) : Int := if tFr T n p < n then (if tk (T (tFr T n p)) = 2 ∨ tk (T (tFr T n p)) = 3 then tRn T n (tk (T (tFr T n p))) (tFr T n p + 1) else tFr T n p + 1) else tFr T n p
def tvl (T : Int → Int) : Nat → Int → Int → Int
  | 0, _, v => v
  | f + 1, q, v => tvl T f (q + 1) (10 * v + T q - 48)
def tVl (T : Int → Int) (e q v : Int) : Int := tvl T (e - q).toNat q v
/-- its number -/
def tNm (T : Int → Int) (n p : Int) : Int := tVl T (tNx T n p) (tFr T n p) 0
/-- its kind -/
def tKd (T : Int → Int) (n p : Int) : Int := if tFr T n p < n then (if tk (T (tFr T n p)) = 3 ∧ 3 < tNx T n p - tFr T n p then 1 else tk (T (tFr T n p))) else 0
section TOK
variable {T : Int → Int} {n p k e q v : Int}
theorem tFr_s (h : p < n) (hb : T p = 10 ∨ T p = 32) : tFr T n (p + 1) = tFr T n p := by
  unfold tFr
  rw [show (n - p).toNat = (n - (p + 1)).toNat + 1 by omega]
  show _ = (if p < n ∧ (T p = 10 ∨ T p = 32) then _ else _)
  rw [if_pos ⟨h, hb⟩]
theorem tFr_e (h : ¬ (p < n ∧ (T p = 10 ∨ T p = 32))) : tFr T n p = p := by
  unfold tFr
  cases (n - p).toNat with
  | zero => rfl
  | succ f =>
    show (if p < n ∧ (T p = 10 ∨ T p = 32) then _ else _) = _
    rw [if_neg h]
theorem tRn_s (h : p < n) (hb : tk (T p) = k) : tRn T n k (p + 1) = tRn T n k p := by
  unfold tRn
  rw [show (n - p).toNat = (n - (p + 1)).toNat + 1 by omega]
  show _ = (if p < n ∧ tk (T p) = k then _ else _)
  rw [if_pos ⟨h, hb⟩]
theorem tRn_e (h : ¬ (p < n ∧ tk (T p) = k)) : tRn T n k p = p := by
  unfold tRn
  cases (n - p).toNat with
  | zero => rfl
  | succ f =>
    show (if p < n ∧ tk (T p) = k then _ else _) = _
    rw [if_neg h]
theorem tVl_s (h : q < e) : tVl T e (q + 1) (10 * v + T q - 48) = tVl T e q v := by
  unfold tVl
  rw [show (e - q).toNat = (e - (q + 1)).toNat + 1 by omega]
  rfl
theorem tVl_e (h : e ≤ q) : tVl T e q v = v := by
  unfold tVl
  rw [show (e - q).toNat = 0 by omega]
  rfl
theorem tsp_b : ∀ (f : Nat) (p : Int), p ≤ n → p ≤ tsp T n f p ∧ tsp T n f p ≤ n := by
  intro f
  induction f with
  | zero => intro p h; exact ⟨Int.le_refl _, h⟩
  | succ f ih =>
    intro p h
    show p ≤ (if p < n ∧ (T p = 10 ∨ T p = 32) then tsp T n f (p + 1) else p) ∧ (if p < n ∧ (T p = 10 ∨ T p = 32) then tsp T n f (p + 1) else p) ≤ n
    split
    · rename_i hc
      have := ih (p + 1) (by omega)
      omega
    · omega
theorem tFr_b (h : p ≤ n) : p ≤ tFr T n p ∧ tFr T n p ≤ n := tsp_b _ _ h
theorem trn_b : ∀ (f : Nat) (p : Int), p ≤ n → p ≤ trn T n k f p ∧ trn T n k f p ≤ n := by
  intro f
  induction f with
  | zero => intro p h; exact ⟨Int.le_refl _, h⟩
  | succ f ih =>
    intro p h
    show p ≤ (if p < n ∧ tk (T p) = k then trn T n k f (p + 1) else p) ∧ (if p < n ∧ tk (T p) = k then trn T n k f (p + 1) else p) ≤ n
    split
    · rename_i hc
      have := ih (p + 1) (by omega)
      omega
    · omega
theorem tRn_b (h : p ≤ n) : p ≤ tRn T n k p ∧ tRn T n k p ≤ n := trn_b _ _ h
theorem tNx_b (h : p ≤ n) : tFr T n p ≤ tNx T n p ∧ tNx T n p ≤ n ∧ (tFr T n p < n → tFr T n p < tNx T n p) := by
  have h1 := tFr_b (T := T) h
  unfold tNx
  split
  · split
    · have h2 := tRn_b (T := T) (k := tk (T (tFr T n p))) (show tFr T n p + 1 ≤ n by omega)
      omega
    · omega
  · omega
theorem tk_r (s : Int) : 1 ≤ tk s ∧ tk s ≤ 5 := by
  unfold tk
  split
  · omega
  · split
    · omega
    · split
      · omega
      · split <;> omega
theorem tKd_r : 0 ≤ tKd T n p ∧ tKd T n p ≤ 5 := by
  unfold tKd
  have := tk_r (T (tFr T n p))
  split
  · split <;> omega
  · omega
theorem tKd_0 (h : p ≤ n) : tKd T n p = 0 ↔ tFr T n p = n := by
  have h1 := tFr_b (T := T) h
  have := tk_r (T (tFr T n p))
  unfold tKd
  split
  · split <;> omega
  · omega
theorem tNx_k (h : tFr T n p < n) (hk : tk (T (tFr T n p)) = 2 ∨ tk (T (tFr T n p)) = 3) : tNx T n p = tRn T n (tk (T (tFr T n p))) (tFr T n p + 1) := by
  unfold tNx
  rw [if_pos h, if_pos hk]
theorem tNx_1 (h : tFr T n p < n) (hk : ¬ (tk (T (tFr T n p)) = 2 ∨ tk (T (tFr T n p)) = 3)) : tNx T n p = tFr T n p + 1 := by
  unfold tNx
  rw [if_pos h, if_neg hk]
theorem tNx_0 (h : ¬ tFr T n p < n) : tNx T n p = tFr T n p := by
  unfold tNx
  rw [if_neg h]
theorem tKd_e (h : ¬ tFr T n p < n) : tKd T n p = 0 := by
  unfold tKd
  rw [if_neg h]
theorem tKd_b (h : tFr T n p < n) (hk : tk (T (tFr T n p)) = 3) (h3 : 3 < tNx T n p - tFr T n p) : tKd T n p = 1 := by
  unfold tKd
  rw [if_pos h, if_pos ⟨hk, h3⟩]
theorem tKd_k (h : tFr T n p < n) (hk : ¬ (tk (T (tFr T n p)) = 3 ∧ 3 < tNx T n p - tFr T n p)) : tKd T n p = tk (T (tFr T n p)) := by
  unfold tKd
  rw [if_pos h, if_neg hk]
theorem tk2 {s : Int} (h1 : 97 ≤ s) (h2 : s ≤ 122) : tk s = 2 := if_pos ⟨h1, h2⟩
theorem tk3 {s : Int} (h1 : 48 ≤ s) (h2 : s ≤ 57) : tk s = 3 := by
  unfold tk
  rw [if_neg (by omega), if_pos ⟨h1, h2⟩]
theorem tk4 {s : Int} (h : s = 45) : tk s = 4 := by
  unfold tk
  rw [if_neg (by omega), if_neg (by omega), if_pos h]
theorem tk5 {s : Int} (h : s = 59) : tk s = 5 := by
  unfold tk
  rw [if_neg (by omega), if_neg (by omega), if_neg (by omega), if_pos h]
theorem tk1 {s : Int} (h1 : ¬ (97 ≤ s ∧ s ≤ 122)) (h2 : ¬ (48 ≤ s ∧ s ≤ 57)) (h3 : ¬ s = 45) (h4 : ¬ s = 59) : tk s = 1 := by
  unfold tk
  rw [if_neg h1, if_neg h2, if_neg h3, if_neg h4]
end TOK
end
section
/-! HOW A TEXT IS READ: lines. S: what is told, by the reference's cells -/
def uS (S : Int → Int) (k x : Int) : Int → Int := fun j => if j = k then x else S j
theorem uS_e {S : Int → Int} {k x j : Int} (h : j = k) : uS S k x j = x := if_pos h
theorem uS_n {S : Int → Int} {k x j : Int} (h : ¬ j = k) : uS S k x j = S j := if_neg h
def tWb (T : Int → Int) : List Int → Int → Bool
  | [], _ => true
  | a :: l, q => decide (T q = a) && tWb T l (q + 1)
/-- whether a token of that kind, from, up to, is a word -/
def sW (T : Int → Int) (kd fr nx : Int) (w : List Int) : Bool := decide (kd = 2) && (decide (nx - fr = (w.length : Int)) && tWb T w fr)
def tW (T : Int → Int) (n p : Int) (w : List Int) : Bool := sW T (tKd T n p) (tFr T n p) (tNx T n p) w
abbrev pR : Type := Except (Int × Int) (Int × (Int → Int))
def pMis (T : Int → Int) (n p : Int) : Int := if tKd T n p = 1 then 1 else 2
def pNum (T : Int → Int) (n p lo hi : Int) (k : Int → Int → pR) : pR := if tKd T n p = 3 then (if lo ≤ tNm T n p ∧ tNm T n p ≤ hi then k (tNm T n p) (tNx T n p) else .error (3, tFr T n p)) else .error (pMis T n p, tFr T n p)
def pSem (T : Int → Int) (n p : Int) (S : Int → Int) : pR := if tKd T n p = 5 then .ok (tNx T n p, S) else .error (pMis T n p, tFr T n p)
def pBind (r : pR) (k : Int → (Int → Int) → pR) : pR := match r with
  | .ok (p, S) => k p S
  | .error e => .error e
def gN (r c : Int) : Int := r * (c - 1) + (r - 1) * c
def sN (r c : Int) : Int := 4 * (r * c)
/-- the slot that faces; none -/
noncomputable def pF (r c s : Int) : Int := xsg (zgF r.toNat c.toNat s.toNat)
def pBits (T : Int → Int) (n : Int) (S : Int → Int) (g : Int) : Nat → Int → Int → Int → pR
  | 0, p, len, bits => if tKd T n p = 3 then (if 0 ≤ tNm T n p ∧ tNm T n p ≤ 1 then .error (6, tFr T n p) else .error (3, tFr T n p)) else .ok (p, uS (uS S (8 + g) bits) (40 + g) len)
  | f + 1, p, len, bits => if tKd T n p = 3 then (if 0 ≤ tNm T n p ∧ tNm T n p ≤ 1 then pBits T n S g f (tNx T n p) (len + 1) (xop 7 bits (xop 8 (tNm T n p) len)) else .error (3, tFr T n p)) else .ok (p, uS (uS S (8 + g) bits) (40 + g) len)
def pSwitch (T : Int → Int) (n p : Int) (S : Int → Int) : pR := pNum T n p 0 (gN (S 0) (S 1) - 1) fun g p1 => pNum T n p1 0 1 fun b p2 => pBits T n S g 3 p2 1 b
/-- whether a bobbin starts at a slot or at the one that faces it -/
def pTak (S : Int → Int) (s f : Int) : Nat → Bool
  | 0 => false
  | k + 1 => pTak S s f k || (decide (S (136 + (k : Int)) = s) || decide (f = S (136 + (k : Int))))
def pNew (S : Int → Int) (s : Int) : Int → Int := uS (uS (uS (uS S (136 + S 2) s) (144 + S 2) s) (152 + S 2) (-1)) 2 (S 2 + 1)
noncomputable def pBobbin (T : Int → Int) (n p0 p : Int) (S : Int → Int) : pR := if 8 ≤ S 2 then .error (6, tFr T n p0) else pNum T n p 0 (sN (S 0) (S 1) - 1) fun s p1 => if pTak S s (pF (S 0) (S 1) s) (S 2).toNat = true then .error (4, tFr T n p) else .ok (p1, pNew S s)
def pStuck (T : Int → Int) (n p : Int) (S : Int → Int) : pR := pNum T n p 0 (gN (S 0) (S 1) - 1) fun g p1 => if tW T n p1 [111, 112, 101, 110] = true then .ok (tNx T n p1, uS S (72 + g) 2) else if tW T n p1 [115, 104, 117, 116] = true then .ok (tNx T n p1, uS S (72 + g) 1) else .error (pMis T n p1, tFr T n p1)
/-- how many cells of a row are above 0 -/
def pCnt (S : Int → Int) (o : Int) : Nat → Int
  | 0 => 0
  | k + 1 => pCnt S o k + (if 0 < S (o + (k : Int)) then 1 else 0)
def pFree (T : Int → Int) (n p0 p : Int) (S : Int → Int) : pR := if 6 ≤ pCnt S 104 (gN (S 0) (S 1)).toNat then .error (6, tFr T n p0) else pNum T n p 0 (gN (S 0) (S 1) - 1) fun g p1 => .ok (p1, uS S (104 + g) 1)
def pPlace (T : Int → Int) (n p : Int) (S : Int → Int) : pR := pNum T n p 0 (S 2 - 1) fun b p1 => pNum T n p1 0 (sN (S 0) (S 1) - 1) fun s p2 => .ok (p2, uS S (152 + b) s)
/-- letters: f more may come -/
def pWs (T : Int → Int) (n : Int) : Nat → Int → (Int → Int) → pR
  | 0, p, S => if tKd T n p = 3 then pNum T n p 1 7 (fun _ _ => .error (6, tFr T n p)) else if tKd T n p = 4 then pNum T n (tNx T n p) 1 7 (fun _ _ => .error (6, tFr T n (tNx T n p))) else .ok (p, S)
  | f + 1, p, S => if tKd T n p = 3 then pNum T n p 1 7 (fun x p2 => pWs T n f p2 (uS (uS S (460 + S 5) x) 5 (S 5 + 1))) else if tKd T n p = 4 then pNum T n (tNx T n p) 1 7 (fun x p2 => pWs T n f p2 (uS (uS S (460 + S 5) (-x)) 5 (S 5 + 1))) else .ok (p, S)
noncomputable def pBody (T : Int → Int) (n p : Int) (S : Int → Int) : pR :=
  if tW T n p [115, 119, 105, 116, 99, 104] = true then pSwitch T n (tNx T n p) S
  else if tW T n p [98, 111, 98, 98, 105, 110] = true then pBobbin T n p (tNx T n p) S
  else if tW T n p [115, 116, 117, 99, 107] = true then pStuck T n (tNx T n p) S
  else if tW T n p [102, 114, 101, 101] = true then pFree T n p (tNx T n p) S
  else if tW T n p [112, 108, 97, 99, 101] = true then pPlace T n (tNx T n p) S
  else if tW T n p [119, 111, 114, 100] = true then pWs T n 60 (tNx T n p) (uS S 5 0)
  else .error (pMis T n p, tFr T n p)
noncomputable def pLine (T : Int → Int) (n p : Int) (S : Int → Int) : pR := pBind (pBody T n p S) (pSem T n)
noncomputable def pLines (T : Int → Int) (n : Int) : Nat → Int → (Int → Int) → pR
  | 0, p, S => .ok (p, S)
  | f + 1, p, S => if tKd T n p = 0 then .ok (p, S) else pBind (pLine T n p S) (pLines T n f)
def pClr (r c : Int) : Int → Int := fun k => if k = 0 then r else if k = 1 then c else if k = 5 then -1 else if 40 ≤ k ∧ k ≤ 70 then 1 else 0
def pSz (T : Int → Int) (n : Int) : pR := if tW T n 0 [115, 105, 122, 101] = true then pNum T n (tNx T n 0) 1 4 fun r p1 => pNum T n p1 1 5 fun c p2 => pSem T n p2 (pClr r c) else .error (pMis T n 0, tFr T n 0)
/-- a text of n bytes -/
noncomputable def pAll (T : Int → Int) (n : Int) : pR := pBind (pSz T n) (pLines T n 901)
theorem pCnt_s {S : Int → Int} {o s : Int} (h : 0 ≤ s) : pCnt S o (s + 1).toNat = pCnt S o s.toNat + (if 0 < S (o + s) then 1 else 0) := by
  rw [show (s + 1).toNat = s.toNat + 1 by omega]
  show pCnt S o s.toNat + (if 0 < S (o + ((s.toNat : Nat) : Int)) then 1 else 0) = _
  rw [Int.toNat_of_nonneg h]
theorem pCnt_b {S : Int → Int} {o : Int} : ∀ k : Nat, 0 ≤ pCnt S o k ∧ pCnt S o k ≤ (k : Int) := by
  intro k
  induction k with
  | zero => exact ⟨Int.le_refl _, Int.le_refl _⟩
  | succ k ih =>
    show 0 ≤ pCnt S o k + (if 0 < S (o + (k : Int)) then 1 else 0) ∧ pCnt S o k + (if 0 < S (o + (k : Int)) then 1 else 0) ≤ ((k + 1 : Nat) : Int)
    split <;> omega
theorem pTak_s {S : Int → Int} {s f b : Int} (h : 0 ≤ b) : pTak S s f (b + 1).toNat = (pTak S s f b.toNat || (decide (S (136 + b) = s) || decide (f = S (136 + b)))) := by
  rw [show (b + 1).toNat = b.toNat + 1 by omega]
  show (pTak S s f b.toNat || (decide (S (136 + ((b.toNat : Nat) : Int)) = s) || decide (f = S (136 + ((b.toNat : Nat) : Int))))) = _
  rw [Int.toNat_of_nonneg h]
theorem pTak_m {S : Int → Int} {s f : Int} : ∀ {m k : Nat}, k ≤ m → pTak S s f k = true → pTak S s f m = true := by
  intro m
  induction m with
  | zero =>
    intro k h hk
    rw [show k = 0 by omega] at hk
    exact hk
  | succ m ih =>
    intro k h hk
    by_cases e : k = m + 1
    · rw [← e]
      exact hk
    · show (pTak S s f m || _) = true
      rw [ih (show k ≤ m by omega) hk]
      rfl
section PWS
variable {T : Int → Int} {n p i : Int} {S : Int → Int}
theorem pWs_e {f : Nat} (h3 : ¬ tKd T n p = 3) (h4 : ¬ tKd T n p = 4) : pWs T n f p S = .ok (p, S) := by
  cases f with
  | zero =>
    unfold pWs
    rw [if_neg h3, if_neg h4]
  | succ f =>
    unfold pWs
    rw [if_neg h3, if_neg h4]
theorem pWs_3 (h0 : 0 ≤ i ∧ i ≤ 60) (h : tKd T n p = 3) : pWs T n (60 - i).toNat p S = pNum T n p 1 7 (fun x p2 => if i < 60 then pWs T n (60 - (i + 1)).toNat p2 (uS (uS S (460 + S 5) x) 5 (S 5 + 1)) else .error (6, tFr T n p)) := by
  by_cases e : i < 60
  · rw [show (60 - i).toNat = (60 - (i + 1)).toNat + 1 by omega]
    simp only [e, if_true]
    show (if tKd T n p = 3 then _ else _) = _
    rw [if_pos h]
  · rw [show (60 - i).toNat = 0 by omega]
    simp only [e, if_false]
    unfold pWs
    rw [if_pos h]
theorem pWs_4 (h0 : 0 ≤ i ∧ i ≤ 60) (h : tKd T n p = 4) : pWs T n (60 - i).toNat p S = pNum T n (tNx T n p) 1 7 (fun x p2 => if i < 60 then pWs T n (60 - (i + 1)).toNat p2 (uS (uS S (460 + S 5) (-x)) 5 (S 5 + 1)) else .error (6, tFr T n (tNx T n p))) := by
  by_cases e : i < 60
  · rw [show (60 - i).toNat = (60 - (i + 1)).toNat + 1 by omega]
    simp only [e, if_true]
    show (if tKd T n p = 3 then _ else if tKd T n p = 4 then _ else _) = _
    rw [if_neg (by omega), if_pos h]
  · rw [show (60 - i).toNat = 0 by omega]
    simp only [e, if_false]
    unfold pWs
    rw [if_neg (by omega), if_pos h]
end PWS
end
section
/-! THE CLASS reads: phases of weighNumber (printed by m1.py) -/
noncomputable def zxfwn_zx0 : zyXp := (0, [283, 13], [], [], [], [])
noncomputable def zpfwn_z : zyPh := (0, [283, 13], [(0, 4294967295), (0, 4294967295)], [], [])
noncomputable def zxfwn_ax0 : zyXp := (29, [283, 137438953473], [], [(24, 103079215105, 35, 48), (24, 137438953473, 35, 40), (2, 171798691841, 103079215105, 137438953473), (21, 0, 24, 171798691841)], [(68719476737, 2147483648, 2147483653), (103079215105, 2147483648, 2147484548), (137438953473, 2147483648, 2147484548), (171798691841, 2147482748, 2147483651)], [(573447, 68719476737), (573448, 0)])
noncomputable def zxfwn_ar0 : zyXp := (0, [], [], [(24, 103079215105, 35, 48), (24, 137438953473, 35, 40), (2, 171798691841, 103079215105, 137438953473), (20, 0, 24, 171798691841)], [(103079215105, 2147483648, 2147484548), (137438953473, 2147483648, 2147484548), (171798691841, 2147483652, 2147484548)], [(573447, 8)])
noncomputable def zpfwn_a : zyPh := (0, [283, 13], [(0, 4294967295), (0, 4294967295), (2147483648, 2147483653)], [(573447, 68719476737)], [])
noncomputable def zxfwn_bx0 : zyXp := (29, [283, 34359738377], [], [(24, 103079215105, 35, 48), (20, 0, 34359738369, 103079215105), (3, 137438953473, 80, 68719476737), (24, 171798691841, 36, 34359738369), (1, 206158430209, 137438953473, 171798691841)], [(34359738369, 2147483648, 2147484547), (68719476737, 2147463648, 2147503648), (103079215105, 2147483649, 2147484548), (137438953473, 2147283648, 2147683648), (171798691841, 2147483520, 2147483775), (206158430209, 2147283520, 2147683775), (34359738377, 2147483649, 2147484548)], [(573448, 240518168193)])
noncomputable def zxfwn_br0 : zyXp := (0, [], [], [(24, 103079215105, 35, 48), (21, 0, 34359738369, 103079215105)], [(34359738369, 2147483648, 2147484548), (68719476737, 2147463648, 2147503648), (103079215105, 2147483648, 2147484548)], [(573448, 68719476737)])
noncomputable def zpfwn_b : zyPh := (29, [283, 34359738369], [(0, 4294967295), (2147483648, 2147484548), (2147463648, 2147503648)], [(573448, 68719476737)], [])
noncomputable def zpfwn (i : Nat) : zyPh := zif (Nat.beq i 0) (zpfwn_z) (zif (Nat.beq i 1) (zpfwn_a) (zpfwn_b))
noncomputable def zXfwn (i : Nat) : List zyXp := zif (Nat.beq i 0) ([zxfwn_zx0]) (zif (Nat.beq i 1) ([zxfwn_ax0]) ([zxfwn_bx0]))
noncomputable def zRfwn (i : Nat) : List zyXp := zif (Nat.beq i 0) ([]) (zif (Nat.beq i 1) ([zxfwn_ar0]) ([zxfwn_br0]))
noncomputable def zFfwn (i : Nat) : zyR := zif (Nat.beq i 0) ([]) (zif (Nat.beq i 1) ([(35, 7, 8)]) ([(35, 8, 8)]))
noncomputable def zSfwn (i : Nat) : Nat := zif (Nat.beq i 0) (0) (zif (Nat.beq i 1) (0) (0))
end
