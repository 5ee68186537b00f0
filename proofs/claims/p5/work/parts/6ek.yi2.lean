/-! A TEXT is loaded -/
def zyΦld (_ : List Int32) (_ : zyEm) : Prop := True
def zyΨld (as : List Int32) (E E2 : zyEm) (vo : Option Value) : Prop := (∃ z : Int32, vo = some (.int z)) ∧ ∃ (x : Int32) (q : Nat), as = [x] ∧ q ≤ 900 ∧ E 74 33 = some (.int (Int32.ofNat q)) ∧ ((((x < Int32.ofNat 0) ∨ (Int32.ofNat q < x)) ∧ E2 74 33 = some (.int (Int32.ofNat q)) ∧ ∀ k, k < 556 → E2 75 k = E 75 k) ∨ (¬ x < Int32.ofNat 0 ∧ ¬ Int32.ofNat q < x ∧ E2 74 33 = some (.int (Int32.ofNat 0)) ∧ ((∀ k, k < 556 → E2 75 k = E 75 k) ∨ ∃ r c, zyPr r c ∧ zyT75 r c E2 ∧ zJl E2)))
theorem zylda_run : zyrS zymx zxi329 (329, 0, 0, 1, 0) 12 zplda (fun _ _ => []) zFlda zSlda zXlda zRlda 8 = true := by decide +kernel
theorem zyload {l : Launch} {en : zEn} {me : zMe} (hen : zG zxMeta 329 = some en) (hme : zG zMeth 329 = some me) : zyHc l zymx en me 12 1 zyΦld zyΨld := by
  have een : zG zxMeta 329 = some (zxi329, 2, 3, 11, 329, 0, 0, 1, 0) := rfl
  obtain ⟨me1, hme1, hOK⟩ := zall hen
  rw [hme] at hme1
  cases hme1
  rw [een] at hen
  cases hen
  have hr := zylda_run
  obtain ⟨merd, hmerd, -⟩ := zall (show zG zxMeta 314 = some (zxi314, 1, 1, 11, 314, 0, 0, 0, 0) from rfl)
  have hrd := zyreads (l := l) (show zG zxMeta 314 = some (zxi314, 1, 1, 11, 314, 0, 0, 0, 0) from rfl) hmerd
  obtain ⟨mera, hmera, -⟩ := zall (show zG zxMeta 328 = some (zxi328, 1, 3, 11, 328, 0, 0, 0, 0) from rfl)
  have hra := zyreadsAll (l := l) (show zG zxMeta 328 = some (zxi328, 1, 3, 11, 328, 0, 0, 0, 0) from rfl) hmera
  refine zycutS (mi := zymx) hOK rfl rfl ⟨_, rfl, rfl⟩ (ι := Fin 8) (fun i => zplda i.val) (fun _ _ => []) (fun i => zFlda i.val) (fun i => zSlda i.val) (fun i => zXlda i.val) (fun i => zRlda i.val) (fun i y2 ct en2 me2 h => by cases h) 200000 (fun i => zyAll_iff hr i.val i.isLt) ⟨0, by decide⟩ ⟨rfl, rfl, rfl, rfl⟩ ⟨by decide, by decide⟩
    (fun i as E0 ρ E => ∃ (x : Int32) (q K : Nat), as = [x] ∧ q ≤ 900 ∧ E0 74 33 = some (.int (Int32.ofNat q)) ∧ (i.val ≤ 3 → ρ 1 = x) ∧ (i.val = 0 → E = E0) ∧ (i.val = 1 → E = E0 ∧ ρ 3 = Int32.ofNat q) ∧ (2 ≤ i.val → ¬ x < Int32.ofNat 0 ∧ ¬ Int32.ofNat q < x) ∧ (i.val = 2 ∨ i.val = 3 → ρ 2 = Int32.ofNat K ∧ K ≤ 556 ∧ ∀ k, k < 556 → E 75 k = E0 75 k) ∧ (i.val = 2 → ∀ j, j < K → E 76 j = E0 75 j) ∧ (i.val = 3 → K ≤ 555 ∧ ∀ j, j ≤ K → E 76 j = E0 75 j) ∧ (4 ≤ i.val → ∀ j, j < 556 → E 76 j = E0 75 j) ∧ (i.val = 4 → zPn E) ∧ (i.val = 5 → ∃ w : Nat, w ≤ 9 ∧ E 74 36 = some (.int (Int32.ofNat w)) ∧ (w = 0 → ∃ r c, zyPr r c ∧ zyT75 r c E ∧ zJl E)) ∧ (6 ≤ i.val → E 74 33 = some (.int (Int32.ofNat 0)) ∧ ρ 2 = Int32.ofNat K ∧ K ≤ 556) ∧ (i.val = 6 → ∀ j, j < K → E 75 j = E0 75 j) ∧ (i.val = 7 → K ≤ 555 ∧ ∀ j, j ≤ K → E 75 j = E0 75 j)) (fun i as E0 ρ E => if i.val = 0 then 100000 else if i.val = 1 then 99999 else if i.val = 2 then 5001 + 2 * (556 - zyN1 (ρ 2)) else if i.val = 3 then 5000 + 2 * (556 - zyN1 (ρ 2)) else if i.val = 4 then 4000 else if i.val = 5 then 3999 else if i.val = 6 then 1 + 2 * (556 - zyN1 (ρ 2)) else 2 * (556 - zyN1 (ρ 2))) ?_ ?_ ?_
  · intro as E hlen hT hΦ
    obtain ⟨x0, rfl⟩ : ∃ x, as = [x] := by
      cases as with
      | nil => cases hlen
      | cons a t => cases t with
        | nil => exact ⟨a, rfl⟩
        | cons b u => cases hlen
    obtain ⟨q, hq, e⟩ := zc74 hT (k := 33) (lo := 2147483648) (hi := 2147484548) (by decide) rfl (by decide) (by decide)
    exact ⟨zEnv_c (zyfull _) (zEnv_c (zyfull _) (zEnv_c (zyfull _) zEnv_nil)), x0, q, 0, rfl, by omega, e, fun _ => rfl, fun _ => rfl, fun h => absurd (show 0 = 1 from h) (by decide), fun h => absurd (show 2 ≤ 0 from h) (by decide), fun h => absurd (show 0 = 2 ∨ 0 = 3 from h) (by decide), fun h => absurd (show 0 = 2 from h) (by decide), fun h => absurd (show 0 = 3 from h) (by decide), fun h => absurd (show 4 ≤ 0 from h) (by decide), fun h => absurd (show 0 = 4 from h) (by decide), fun h => absurd (show 0 = 5 from h) (by decide), fun h => absurd (show 6 ≤ 0 from h) (by decide), fun h => absurd (show 0 = 6 from h) (by decide), fun h => absurd (show 0 = 7 from h) (by decide)⟩
  · intro as B s Wg hRu hT0 hΦ hlen i ρ H hT hInv hIH x hx ρ2 N2 H2 locs lsB stA hAt hXs hag hfr hT2
    rcases i with ⟨i, hi⟩
    have hi2 : i = 0 ∨ i = 1 ∨ i = 2 ∨ i = 3 ∨ i = 4 ∨ i = 5 ∨ i = 6 ∨ i = 7 := by omega
    rcases hi2 with rfl | rfl | rfl | rfl | rfl | rfl | rfl | rfl
    · have hx : x ∈ [zxlda_zx0] := hx
      have hg : ∀ k, k < 3 → ρ2 k = ρ k := hag
      have hI := hInv
      have hI : ∃ (x : Int32) (q K : Nat), as = [x] ∧ q ≤ 900 ∧ (zyEl zymx B s.heap) 74 33 = some (.int (Int32.ofNat q)) ∧ (0 ≤ 3 → ρ 1 = x) ∧ (0 = 0 → (zyEl zymx B H) = (zyEl zymx B s.heap)) ∧ (0 = 1 → (zyEl zymx B H) = (zyEl zymx B s.heap) ∧ ρ 3 = Int32.ofNat q) ∧ (2 ≤ 0 → ¬ x < Int32.ofNat 0 ∧ ¬ Int32.ofNat q < x) ∧ (0 = 2 ∨ 0 = 3 → ρ 2 = Int32.ofNat K ∧ K ≤ 556 ∧ ∀ k, k < 556 → (zyEl zymx B H) 75 k = (zyEl zymx B s.heap) 75 k) ∧ (0 = 2 → ∀ j, j < K → (zyEl zymx B H) 76 j = (zyEl zymx B s.heap) 75 j) ∧ (0 = 3 → K ≤ 555 ∧ ∀ j, j ≤ K → (zyEl zymx B H) 76 j = (zyEl zymx B s.heap) 75 j) ∧ (4 ≤ 0 → ∀ j, j < 556 → (zyEl zymx B H) 76 j = (zyEl zymx B s.heap) 75 j) ∧ (0 = 4 → zPn (zyEl zymx B H)) ∧ (0 = 5 → ∃ w : Nat, w ≤ 9 ∧ (zyEl zymx B H) 74 36 = some (.int (Int32.ofNat w)) ∧ (w = 0 → ∃ r c, zyPr r c ∧ zyT75 r c (zyEl zymx B H) ∧ zJl (zyEl zymx B H))) ∧ (6 ≤ 0 → (zyEl zymx B H) 74 33 = some (.int (Int32.ofNat 0)) ∧ ρ 2 = Int32.ofNat K ∧ K ≤ 556) ∧ (0 = 6 → ∀ j, j < K → (zyEl zymx B H) 75 j = (zyEl zymx B s.heap) 75 j) ∧ (0 = 7 → K ≤ 555 ∧ ∀ j, j ≤ K → (zyEl zymx B H) 75 j = (zyEl zymx B s.heap) 75 j) := hI
      obtain ⟨hF, hB, hM⟩ := hXs
      have hEE : (zyEl zymx B H2) = (zyEl zymx B H) := zyfr0 hfr
      have ex := List.mem_singleton.mp hx
      subst ex
      obtain ⟨x0, q, K, has, hq, s1, r1, d0, d1, d2, d23, c2, c3, d4, c4, c5, d6, c6, c7⟩ := hI
      have ea := d0 rfl
      refine zyGoKi hIH hAt hB ⟨1, by decide⟩ [595, 34359738369, 0] [(0, 4294967295), (0, 4294967295), (0, 4294967295)] 2147483648 2147484548 rfl (by decide) rfl rfl rfl (74 * 16384 + 33) zymr74 rfl rfl (show 33 < 49 by decide) (Int32.ofNat q) ?_ ?_ ⟨x0, q, K, has, hq, s1, fun _ => (zyρi_n (by decide)).trans ((hg 1 (by decide)).trans (r1 (by decide))), fun h => absurd (show 1 = 0 from h) (by decide), fun _ => ⟨hEE.trans ea, zyρi_e⟩, fun h => absurd (show 2 ≤ 1 from h) (by decide), fun h => absurd (show 1 = 2 ∨ 1 = 3 from h) (by decide), fun h => absurd (show 1 = 2 from h) (by decide), fun h => absurd (show 1 = 3 from h) (by decide), fun h => absurd (show 4 ≤ 1 from h) (by decide), fun h => absurd (show 1 = 4 from h) (by decide), fun h => absurd (show 1 = 5 from h) (by decide), fun h => absurd (show 6 ≤ 1 from h) (by decide), fun h => absurd (show 1 = 6 from h) (by decide), fun h => absurd (show 1 = 7 from h) (by decide)⟩ (show 99999 < 100000 by decide)
      · show zyEl zymx B H2 74 33 = _
        rw [hEE, ea]
        exact s1
      · rw [zyBn (by omega)]
        omega
    · have hx : x ∈ [zxlda_ax0] := hx
      have hg : ∀ k, k < 4 → ρ2 k = ρ k := hag
      have hI := hInv
      have hI : ∃ (x : Int32) (q K : Nat), as = [x] ∧ q ≤ 900 ∧ (zyEl zymx B s.heap) 74 33 = some (.int (Int32.ofNat q)) ∧ (1 ≤ 3 → ρ 1 = x) ∧ (1 = 0 → (zyEl zymx B H) = (zyEl zymx B s.heap)) ∧ (1 = 1 → (zyEl zymx B H) = (zyEl zymx B s.heap) ∧ ρ 3 = Int32.ofNat q) ∧ (2 ≤ 1 → ¬ x < Int32.ofNat 0 ∧ ¬ Int32.ofNat q < x) ∧ (1 = 2 ∨ 1 = 3 → ρ 2 = Int32.ofNat K ∧ K ≤ 556 ∧ ∀ k, k < 556 → (zyEl zymx B H) 75 k = (zyEl zymx B s.heap) 75 k) ∧ (1 = 2 → ∀ j, j < K → (zyEl zymx B H) 76 j = (zyEl zymx B s.heap) 75 j) ∧ (1 = 3 → K ≤ 555 ∧ ∀ j, j ≤ K → (zyEl zymx B H) 76 j = (zyEl zymx B s.heap) 75 j) ∧ (4 ≤ 1 → ∀ j, j < 556 → (zyEl zymx B H) 76 j = (zyEl zymx B s.heap) 75 j) ∧ (1 = 4 → zPn (zyEl zymx B H)) ∧ (1 = 5 → ∃ w : Nat, w ≤ 9 ∧ (zyEl zymx B H) 74 36 = some (.int (Int32.ofNat w)) ∧ (w = 0 → ∃ r c, zyPr r c ∧ zyT75 r c (zyEl zymx B H) ∧ zJl (zyEl zymx B H))) ∧ (6 ≤ 1 → (zyEl zymx B H) 74 33 = some (.int (Int32.ofNat 0)) ∧ ρ 2 = Int32.ofNat K ∧ K ≤ 556) ∧ (1 = 6 → ∀ j, j < K → (zyEl zymx B H) 75 j = (zyEl zymx B s.heap) 75 j) ∧ (1 = 7 → K ≤ 555 ∧ ∀ j, j ≤ K → (zyEl zymx B H) 75 j = (zyEl zymx B s.heap) 75 j) := hI
      obtain ⟨hF, hB, hM⟩ := hXs
      have hfr : ∀ a k, zyin [(74, 2, 3)] a k = false → (zyEl zymx B H2) a k = (zyEl zymx B H) a k := hfr
      have ex := List.mem_singleton.mp hx
      subst ex
      obtain ⟨x0, q, K, has, hq, s1, r1, d0, d1, d2, d23, c2, c3, d4, c4, c5, d6, c6, c7⟩ := hI
      have a1 : ρ2 1 = x0 := (hg 1 (by decide)).trans (r1 (by decide))
      obtain ⟨ea, e3⟩ := d1 rfl
      have a3 : ρ2 3 = Int32.ofNat q := (hg 3 (by decide)).trans e3
      have hk : ∀ a k, ¬ (a = 74 ∧ 2 ≤ k ∧ k ≤ 3) → (zyEl zymx B H2) a k = (zyEl zymx B H) a k := by
        intro a k n0
        apply hfr
        cases hq : zyin [(74, 2, 3)] a k with
        | false => rfl
        | true =>
          obtain ⟨p0, g1, g2, g3, g4⟩ := zyin_iff.mp hq
          simp only [List.mem_cons, List.not_mem_nil, or_false] at g1
          rcases g1 with rfl
          · exact absurd ⟨g2.symm, g3, g4⟩ n0
      have f1 := zyX21 hF 0 rfl
      have f1 : ¬ ρ2 1 < Int32.ofNat 0 := f1
      have f2 := zyX21 hF 1 rfl
      have f2 : ¬ ρ2 3 < ρ2 1 := f2
      rw [a1] at f1 f2
      rw [a3] at f2
      refine zyGoB hIH hAt hB ⟨2, by decide⟩ [595, 34359738369, 0] rfl rfl rfl rfl ⟨x0, q, 0, has, hq, s1, fun _ => a1, fun h => absurd (show 2 = 0 from h) (by decide), fun h => absurd (show 2 = 1 from h) (by decide), fun _ => ⟨f1, f2⟩, fun _ => ⟨rfl, by omega, fun k _ => (hk 75 k (by omega)).trans (by rw [ea])⟩, fun _ => fun j hj => absurd hj (Nat.not_lt_zero j), fun h => absurd (show 2 = 3 from h) (by decide), fun h => absurd (show 4 ≤ 2 from h) (by decide), fun h => absurd (show 2 = 4 from h) (by decide), fun h => absurd (show 2 = 5 from h) (by decide), fun h => absurd (show 6 ≤ 2 from h) (by decide), fun h => absurd (show 2 = 6 from h) (by decide), fun h => absurd (show 2 = 7 from h) (by decide)⟩ ?_
      show 5001 + 2 * (556 - zyN1 (Int32.ofNat 0)) < 99999
      omega
    · have hx : x ∈ [zxlda_bx0, zxlda_bx1] := hx
      have hg : ∀ k, k < 3 → ρ2 k = ρ k := hag
      have hI := hInv
      have hI : ∃ (x : Int32) (q K : Nat), as = [x] ∧ q ≤ 900 ∧ (zyEl zymx B s.heap) 74 33 = some (.int (Int32.ofNat q)) ∧ (2 ≤ 3 → ρ 1 = x) ∧ (2 = 0 → (zyEl zymx B H) = (zyEl zymx B s.heap)) ∧ (2 = 1 → (zyEl zymx B H) = (zyEl zymx B s.heap) ∧ ρ 3 = Int32.ofNat q) ∧ (2 ≤ 2 → ¬ x < Int32.ofNat 0 ∧ ¬ Int32.ofNat q < x) ∧ (2 = 2 ∨ 2 = 3 → ρ 2 = Int32.ofNat K ∧ K ≤ 556 ∧ ∀ k, k < 556 → (zyEl zymx B H) 75 k = (zyEl zymx B s.heap) 75 k) ∧ (2 = 2 → ∀ j, j < K → (zyEl zymx B H) 76 j = (zyEl zymx B s.heap) 75 j) ∧ (2 = 3 → K ≤ 555 ∧ ∀ j, j ≤ K → (zyEl zymx B H) 76 j = (zyEl zymx B s.heap) 75 j) ∧ (4 ≤ 2 → ∀ j, j < 556 → (zyEl zymx B H) 76 j = (zyEl zymx B s.heap) 75 j) ∧ (2 = 4 → zPn (zyEl zymx B H)) ∧ (2 = 5 → ∃ w : Nat, w ≤ 9 ∧ (zyEl zymx B H) 74 36 = some (.int (Int32.ofNat w)) ∧ (w = 0 → ∃ r c, zyPr r c ∧ zyT75 r c (zyEl zymx B H) ∧ zJl (zyEl zymx B H))) ∧ (6 ≤ 2 → (zyEl zymx B H) 74 33 = some (.int (Int32.ofNat 0)) ∧ ρ 2 = Int32.ofNat K ∧ K ≤ 556) ∧ (2 = 6 → ∀ j, j < K → (zyEl zymx B H) 75 j = (zyEl zymx B s.heap) 75 j) ∧ (2 = 7 → K ≤ 555 ∧ ∀ j, j ≤ K → (zyEl zymx B H) 75 j = (zyEl zymx B s.heap) 75 j) := hI
      obtain ⟨hF, hB, hM⟩ := hXs
      have hfr : ∀ a k, zyin [(74, 36, 36), (74, 39, 39), (74, 42, 42)] a k = false → (zyEl zymx B H2) a k = (zyEl zymx B H) a k := hfr
      rcases List.mem_cons.mp hx with ex | hx
      · subst ex
        obtain ⟨x0, q, K, has, hq, s1, r1, d0, d1, d2, d23, c2, c3, d4, c4, c5, d6, c6, c7⟩ := hI
        have a1 : ρ2 1 = x0 := (hg 1 (by decide)).trans (r1 (by decide))
        obtain ⟨k1, k2, k3⟩ := d23 (Or.inl rfl)
        have a2 : ρ2 2 = Int32.ofNat K := (hg 2 (by decide)).trans k1
        have b2 := zyXb hB 1 rfl
        have b2 : 2147483648 ≤ zB (ρ2 2) ∧ zB (ρ2 2) ≤ 2147484203 := b2
        have hk : ∀ a k, ¬ (a = 74 ∧ 36 ≤ k ∧ k ≤ 36) → ¬ (a = 74 ∧ 39 ≤ k ∧ k ≤ 39) → ¬ (a = 74 ∧ 42 ≤ k ∧ k ≤ 42) → (zyEl zymx B H2) a k = (zyEl zymx B H) a k := by
          intro a k n0 n1 n2
          apply hfr
          cases hq : zyin [(74, 36, 36), (74, 39, 39), (74, 42, 42)] a k with
          | false => rfl
          | true =>
            obtain ⟨p0, g1, g2, g3, g4⟩ := zyin_iff.mp hq
            simp only [List.mem_cons, List.not_mem_nil, or_false] at g1
            rcases g1 with rfl | rfl | rfl
            · exact absurd ⟨g2.symm, g3, g4⟩ n0
            · exact absurd ⟨g2.symm, g3, g4⟩ n1
            · exact absurd ⟨g2.symm, g3, g4⟩ n2
        rw [a2, zyBn (by omega)] at b2
        obtain ⟨n8, u1, u2, u3⟩ := zyXe hF 0 rfl
        have u1 : ρ2 2 = Int32.ofNat n8 := u1
        have u3 : zyEl zymx B H 75 n8 = some (.int (ρ2 3)) := u3
        rw [a2] at u1
        have e8 := zyOi (by omega) (by omega) u1
        subst e8
        refine zyAsB hRu hIH hAt hB 76 K (20, 556, [(0, 555, 34359738362)]) rfl rfl rfl (cv := 103079215105) (cj := 68719476737) rfl (by decide) (by decide) ⟨3, by decide⟩ [595, 34359738369, 68719476737] rfl rfl rfl rfl (show K < 556 by omega) a2 ?_ ?_
        · intro r0 hr0 _ _
          rw [List.mem_singleton.mp hr0]
          exact ⟨rfl, zyfull _⟩
        · intro E3 hT3 p1 p2
          have p1 : E3 76 K = some (.int (ρ2 3)) := p1
          refine ⟨⟨x0, q, K, has, hq, s1, fun _ => a1, fun h => absurd (show 3 = 0 from h) (by decide), fun h => absurd (show 3 = 1 from h) (by decide), fun _ => d2 (by decide), fun _ => ⟨a2, k2, fun j hj => (p2 75 j (by omega)).trans ((hk 75 j (by omega) (by omega) (by omega)).trans (k3 j hj))⟩, fun h => absurd (show 3 = 2 from h) (by decide), fun _ => ⟨by omega, fun j hj => by
            by_cases ej : j = K
            · rw [ej, p1, ← k3 K (by omega)]
              exact u3.symm
            · exact (p2 76 j (fun z => ej z.2)).trans ((hk 76 j (by omega) (by omega) (by omega)).trans (c2 rfl j (by omega)))⟩, fun h => absurd (show 4 ≤ 3 from h) (by decide), fun h => absurd (show 3 = 4 from h) (by decide), fun h => absurd (show 3 = 5 from h) (by decide), fun h => absurd (show 6 ≤ 3 from h) (by decide), fun h => absurd (show 3 = 6 from h) (by decide), fun h => absurd (show 3 = 7 from h) (by decide)⟩, ?_⟩
          show 5000 + 2 * (556 - zyN1 (ρ2 2)) < 5001 + 2 * (556 - zyN1 (ρ 2))
          rw [hg 2 (by decide)]
          omega
      · skip
        have ex := List.mem_singleton.mp hx
        subst ex
        obtain ⟨x0, q, K, has, hq, s1, r1, d0, d1, d2, d23, c2, c3, d4, c4, c5, d6, c6, c7⟩ := hI
        have a1 : ρ2 1 = x0 := (hg 1 (by decide)).trans (r1 (by decide))
        obtain ⟨k1, k2, k3⟩ := d23 (Or.inl rfl)
        have a2 : ρ2 2 = Int32.ofNat K := (hg 2 (by decide)).trans k1
        have hk : ∀ a k, ¬ (a = 74 ∧ 36 ≤ k ∧ k ≤ 36) → ¬ (a = 74 ∧ 39 ≤ k ∧ k ≤ 39) → ¬ (a = 74 ∧ 42 ≤ k ∧ k ≤ 42) → (zyEl zymx B H2) a k = (zyEl zymx B H) a k := by
          intro a k n0 n1 n2
          apply hfr
          cases hq : zyin [(74, 36, 36), (74, 39, 39), (74, 42, 42)] a k with
          | false => rfl
          | true =>
            obtain ⟨p0, g1, g2, g3, g4⟩ := zyin_iff.mp hq
            simp only [List.mem_cons, List.not_mem_nil, or_false] at g1
            rcases g1 with rfl | rfl | rfl
            · exact absurd ⟨g2.symm, g3, g4⟩ n0
            · exact absurd ⟨g2.symm, g3, g4⟩ n1
            · exact absurd ⟨g2.symm, g3, g4⟩ n2
        have f9 := zyX21 hF 0 rfl
        have f9 : ¬ ρ2 2 < Int32.ofNat 556 := f9
        rw [a2, zyOl (by omega) (by omega)] at f9
        have m := zyXm hM 0 rfl
        have m : zyEl zymx B H2 74 39 = some (.int (Int32.ofNat 0)) := m
        have m1 := zyXm hM 1 rfl
        have m1 : zyEl zymx B H2 74 36 = some (.int (Int32.ofNat 0)) := m1
        refine zyCa0 hRu hIH hAt hB hrd (ix := 450) (ax := 5024) rfl rfl rfl hmerd ⟨rfl, rfl, rfl, rfl⟩ (by decide) [] rfl (by decide) rfl ⟨4, by decide⟩ [595, 0, 0] rfl rfl rfl rfl ?_ ?_
        · show zyΦrd [] _
          exact ⟨0, by decide, m⟩
        · intro E3 vo hT3 hΨ
          have hΨ : zyΨrd [] _ E3 vo := hΨ
          have hPn := zPn_rd hΨ
          obtain ⟨ev, p1, -⟩ := hΨ
          exact ⟨ev, ⟨x0, q, K, has, hq, s1, fun h => absurd (show 4 ≤ 3 from h) (by decide), fun h => absurd (show 4 = 0 from h) (by decide), fun h => absurd (show 4 = 1 from h) (by decide), fun _ => d2 (by decide), fun h => absurd (show 4 = 2 ∨ 4 = 3 from h) (by decide), fun h => absurd (show 4 = 2 from h) (by decide), fun h => absurd (show 4 = 3 from h) (by decide), fun _ => fun j hj => (p1 76 j (by omega)).trans ((hk 76 j (by omega) (by omega) (by omega)).trans (c2 rfl j (by omega))), fun _ => hPn, fun h => absurd (show 4 = 5 from h) (by decide), fun h => absurd (show 6 ≤ 4 from h) (by decide), fun h => absurd (show 4 = 6 from h) (by decide), fun h => absurd (show 4 = 7 from h) (by decide)⟩, (show 4000 < 5001 + 2 * (556 - zyN1 (ρ 2)) by omega)⟩
    · have hx : x ∈ [zxlda_cx0] := hx
      have hg : ∀ k, k < 3 → ρ2 k = ρ k := hag
      have hI := hInv
      have hI : ∃ (x : Int32) (q K : Nat), as = [x] ∧ q ≤ 900 ∧ (zyEl zymx B s.heap) 74 33 = some (.int (Int32.ofNat q)) ∧ (3 ≤ 3 → ρ 1 = x) ∧ (3 = 0 → (zyEl zymx B H) = (zyEl zymx B s.heap)) ∧ (3 = 1 → (zyEl zymx B H) = (zyEl zymx B s.heap) ∧ ρ 3 = Int32.ofNat q) ∧ (2 ≤ 3 → ¬ x < Int32.ofNat 0 ∧ ¬ Int32.ofNat q < x) ∧ (3 = 2 ∨ 3 = 3 → ρ 2 = Int32.ofNat K ∧ K ≤ 556 ∧ ∀ k, k < 556 → (zyEl zymx B H) 75 k = (zyEl zymx B s.heap) 75 k) ∧ (3 = 2 → ∀ j, j < K → (zyEl zymx B H) 76 j = (zyEl zymx B s.heap) 75 j) ∧ (3 = 3 → K ≤ 555 ∧ ∀ j, j ≤ K → (zyEl zymx B H) 76 j = (zyEl zymx B s.heap) 75 j) ∧ (4 ≤ 3 → ∀ j, j < 556 → (zyEl zymx B H) 76 j = (zyEl zymx B s.heap) 75 j) ∧ (3 = 4 → zPn (zyEl zymx B H)) ∧ (3 = 5 → ∃ w : Nat, w ≤ 9 ∧ (zyEl zymx B H) 74 36 = some (.int (Int32.ofNat w)) ∧ (w = 0 → ∃ r c, zyPr r c ∧ zyT75 r c (zyEl zymx B H) ∧ zJl (zyEl zymx B H))) ∧ (6 ≤ 3 → (zyEl zymx B H) 74 33 = some (.int (Int32.ofNat 0)) ∧ ρ 2 = Int32.ofNat K ∧ K ≤ 556) ∧ (3 = 6 → ∀ j, j < K → (zyEl zymx B H) 75 j = (zyEl zymx B s.heap) 75 j) ∧ (3 = 7 → K ≤ 555 ∧ ∀ j, j ≤ K → (zyEl zymx B H) 75 j = (zyEl zymx B s.heap) 75 j) := hI
      obtain ⟨hF, hB, hM⟩ := hXs
      have hEE : (zyEl zymx B H2) = (zyEl zymx B H) := zyfr0 hfr
      have ex := List.mem_singleton.mp hx
      subst ex
      obtain ⟨x0, q, K, has, hq, s1, r1, d0, d1, d2, d23, c2, c3, d4, c4, c5, d6, c6, c7⟩ := hI
      have a1 : ρ2 1 = x0 := (hg 1 (by decide)).trans (r1 (by decide))
      obtain ⟨k1, k2, k3⟩ := d23 (Or.inr rfl)
      obtain ⟨y1, y2⟩ := c3 rfl
      have a2 : ρ2 2 = Int32.ofNat K := (hg 2 (by decide)).trans k1
      have a2' : ρ2 2 + Int32.ofNat 1 = Int32.ofNat (K + 1) := by rw [a2, zyOa]
      refine zyGoB hIH hAt hB ⟨2, by decide⟩ [595, 34359738369, 68719476745] rfl rfl rfl rfl ⟨x0, q, (K + 1), has, hq, s1, fun _ => a1, fun h => absurd (show 2 = 0 from h) (by decide), fun h => absurd (show 2 = 1 from h) (by decide), fun _ => d2 (by decide), fun _ => ⟨a2', by omega, fun j hj => by rw [hEE]; exact k3 j hj⟩, fun _ => fun j hj => by rw [hEE]; exact y2 j (by omega), fun h => absurd (show 2 = 3 from h) (by decide), fun h => absurd (show 4 ≤ 2 from h) (by decide), fun h => absurd (show 2 = 4 from h) (by decide), fun h => absurd (show 2 = 5 from h) (by decide), fun h => absurd (show 6 ≤ 2 from h) (by decide), fun h => absurd (show 2 = 6 from h) (by decide), fun h => absurd (show 2 = 7 from h) (by decide)⟩ ?_
      show 5001 + 2 * (556 - zyN1 (ρ2 2 + Int32.ofNat 1)) < 5000 + 2 * (556 - zyN1 (ρ 2))
      rw [a2', k1, zyN1_of (by omega), zyN1_of (by omega)]
      omega
    · have hx : x ∈ [zxlda_dx0] := hx
      have hg : ∀ k, k < 3 → ρ2 k = ρ k := hag
      have hI := hInv
      have hI : ∃ (x : Int32) (q K : Nat), as = [x] ∧ q ≤ 900 ∧ (zyEl zymx B s.heap) 74 33 = some (.int (Int32.ofNat q)) ∧ (4 ≤ 3 → ρ 1 = x) ∧ (4 = 0 → (zyEl zymx B H) = (zyEl zymx B s.heap)) ∧ (4 = 1 → (zyEl zymx B H) = (zyEl zymx B s.heap) ∧ ρ 3 = Int32.ofNat q) ∧ (2 ≤ 4 → ¬ x < Int32.ofNat 0 ∧ ¬ Int32.ofNat q < x) ∧ (4 = 2 ∨ 4 = 3 → ρ 2 = Int32.ofNat K ∧ K ≤ 556 ∧ ∀ k, k < 556 → (zyEl zymx B H) 75 k = (zyEl zymx B s.heap) 75 k) ∧ (4 = 2 → ∀ j, j < K → (zyEl zymx B H) 76 j = (zyEl zymx B s.heap) 75 j) ∧ (4 = 3 → K ≤ 555 ∧ ∀ j, j ≤ K → (zyEl zymx B H) 76 j = (zyEl zymx B s.heap) 75 j) ∧ (4 ≤ 4 → ∀ j, j < 556 → (zyEl zymx B H) 76 j = (zyEl zymx B s.heap) 75 j) ∧ (4 = 4 → zPn (zyEl zymx B H)) ∧ (4 = 5 → ∃ w : Nat, w ≤ 9 ∧ (zyEl zymx B H) 74 36 = some (.int (Int32.ofNat w)) ∧ (w = 0 → ∃ r c, zyPr r c ∧ zyT75 r c (zyEl zymx B H) ∧ zJl (zyEl zymx B H))) ∧ (6 ≤ 4 → (zyEl zymx B H) 74 33 = some (.int (Int32.ofNat 0)) ∧ ρ 2 = Int32.ofNat K ∧ K ≤ 556) ∧ (4 = 6 → ∀ j, j < K → (zyEl zymx B H) 75 j = (zyEl zymx B s.heap) 75 j) ∧ (4 = 7 → K ≤ 555 ∧ ∀ j, j ≤ K → (zyEl zymx B H) 75 j = (zyEl zymx B s.heap) 75 j) := hI
      obtain ⟨hF, hB, hM⟩ := hXs
      have hEE : (zyEl zymx B H2) = (zyEl zymx B H) := zyfr0 hfr
      have ex := List.mem_singleton.mp hx
      subst ex
      obtain ⟨x0, q, K, has, hq, s1, r1, d0, d1, d2, d23, c2, c3, d4, c4, c5, d6, c6, c7⟩ := hI
      have x4 := d4 (by decide)
      have hPn := c4 rfl
      rw [← hEE] at hPn
      refine zyCa0 hRu hIH hAt hB hra (ix := 490) (ax := 5248) rfl rfl rfl hmera ⟨rfl, rfl, rfl, rfl⟩ (by decide) [] rfl (by decide) rfl ⟨5, by decide⟩ [595, 0, 0] rfl rfl rfl rfl hPn ?_
      intro E3 vo hT3 hΨ
      obtain ⟨ev, p1, p2, w, hw, ew, p3⟩ := (show zyΨra [] _ E3 vo from hΨ)
      exact ⟨ev, ⟨x0, q, K, has, hq, s1, fun h => absurd (show 5 ≤ 3 from h) (by decide), fun h => absurd (show 5 = 0 from h) (by decide), fun h => absurd (show 5 = 1 from h) (by decide), fun _ => d2 (by decide), fun h => absurd (show 5 = 2 ∨ 5 = 3 from h) (by decide), fun h => absurd (show 5 = 2 from h) (by decide), fun h => absurd (show 5 = 3 from h) (by decide), fun _ => fun j hj => (p2 j).trans (by rw [hEE]; exact x4 j hj), fun h => absurd (show 5 = 4 from h) (by decide), fun _ => ⟨w, hw, ew, p3⟩, fun h => absurd (show 6 ≤ 5 from h) (by decide), fun h => absurd (show 5 = 6 from h) (by decide), fun h => absurd (show 5 = 7 from h) (by decide)⟩, (show 3999 < 4000 by decide)⟩
    · have hx : x ∈ [zxlda_ex0] := hx
      have hg : ∀ k, k < 3 → ρ2 k = ρ k := hag
      have hI := hInv
      have hI : ∃ (x : Int32) (q K : Nat), as = [x] ∧ q ≤ 900 ∧ (zyEl zymx B s.heap) 74 33 = some (.int (Int32.ofNat q)) ∧ (5 ≤ 3 → ρ 1 = x) ∧ (5 = 0 → (zyEl zymx B H) = (zyEl zymx B s.heap)) ∧ (5 = 1 → (zyEl zymx B H) = (zyEl zymx B s.heap) ∧ ρ 3 = Int32.ofNat q) ∧ (2 ≤ 5 → ¬ x < Int32.ofNat 0 ∧ ¬ Int32.ofNat q < x) ∧ (5 = 2 ∨ 5 = 3 → ρ 2 = Int32.ofNat K ∧ K ≤ 556 ∧ ∀ k, k < 556 → (zyEl zymx B H) 75 k = (zyEl zymx B s.heap) 75 k) ∧ (5 = 2 → ∀ j, j < K → (zyEl zymx B H) 76 j = (zyEl zymx B s.heap) 75 j) ∧ (5 = 3 → K ≤ 555 ∧ ∀ j, j ≤ K → (zyEl zymx B H) 76 j = (zyEl zymx B s.heap) 75 j) ∧ (4 ≤ 5 → ∀ j, j < 556 → (zyEl zymx B H) 76 j = (zyEl zymx B s.heap) 75 j) ∧ (5 = 4 → zPn (zyEl zymx B H)) ∧ (5 = 5 → ∃ w : Nat, w ≤ 9 ∧ (zyEl zymx B H) 74 36 = some (.int (Int32.ofNat w)) ∧ (w = 0 → ∃ r c, zyPr r c ∧ zyT75 r c (zyEl zymx B H) ∧ zJl (zyEl zymx B H))) ∧ (6 ≤ 5 → (zyEl zymx B H) 74 33 = some (.int (Int32.ofNat 0)) ∧ ρ 2 = Int32.ofNat K ∧ K ≤ 556) ∧ (5 = 6 → ∀ j, j < K → (zyEl zymx B H) 75 j = (zyEl zymx B s.heap) 75 j) ∧ (5 = 7 → K ≤ 555 ∧ ∀ j, j ≤ K → (zyEl zymx B H) 75 j = (zyEl zymx B s.heap) 75 j) := hI
      obtain ⟨hF, hB, hM⟩ := hXs
      have hfr : ∀ a k, zyin [(74, 2, 2), (74, 33, 35)] a k = false → (zyEl zymx B H2) a k = (zyEl zymx B H) a k := hfr
      have ex := List.mem_singleton.mp hx
      subst ex
      obtain ⟨x0, q, K, has, hq, s1, r1, d0, d1, d2, d23, c2, c3, d4, c4, c5, d6, c6, c7⟩ := hI
      have hk : ∀ a k, ¬ (a = 74 ∧ 2 ≤ k ∧ k ≤ 2) → ¬ (a = 74 ∧ 33 ≤ k ∧ k ≤ 35) → (zyEl zymx B H2) a k = (zyEl zymx B H) a k := by
        intro a k n0 n1
        apply hfr
        cases hq : zyin [(74, 2, 2), (74, 33, 35)] a k with
        | false => rfl
        | true =>
          obtain ⟨p0, g1, g2, g3, g4⟩ := zyin_iff.mp hq
          simp only [List.mem_cons, List.not_mem_nil, or_false] at g1
          rcases g1 with rfl | rfl
          · exact absurd ⟨g2.symm, g3, g4⟩ n0
          · exact absurd ⟨g2.symm, g3, g4⟩ n1
      have x4 := d4 (by decide)
      have m := zyXm hM 0 rfl
      have m : zyEl zymx B H2 74 33 = some (.int (Int32.ofNat 0)) := m
      refine zyGoB hIH hAt hB ⟨6, by decide⟩ [595, 0, 0] rfl rfl rfl rfl ⟨x0, q, 0, has, hq, s1, fun h => absurd (show 6 ≤ 3 from h) (by decide), fun h => absurd (show 6 = 0 from h) (by decide), fun h => absurd (show 6 = 1 from h) (by decide), fun _ => d2 (by decide), fun h => absurd (show 6 = 2 ∨ 6 = 3 from h) (by decide), fun h => absurd (show 6 = 2 from h) (by decide), fun h => absurd (show 6 = 3 from h) (by decide), fun _ => fun j hj => (hk 76 j (by omega) (by omega)).trans (x4 j hj), fun h => absurd (show 6 = 4 from h) (by decide), fun h => absurd (show 6 = 5 from h) (by decide), fun _ => ⟨m, rfl, by omega⟩, fun _ => fun j hj => absurd hj (Nat.not_lt_zero j), fun h => absurd (show 6 = 7 from h) (by decide)⟩ ?_
      show 1 + 2 * (556 - zyN1 (Int32.ofNat 0)) < 3999
      omega
    · have hx : x ∈ [zxlda_fx0] := hx
      have hg : ∀ k, k < 3 → ρ2 k = ρ k := hag
      have hI := hInv
      have hI : ∃ (x : Int32) (q K : Nat), as = [x] ∧ q ≤ 900 ∧ (zyEl zymx B s.heap) 74 33 = some (.int (Int32.ofNat q)) ∧ (6 ≤ 3 → ρ 1 = x) ∧ (6 = 0 → (zyEl zymx B H) = (zyEl zymx B s.heap)) ∧ (6 = 1 → (zyEl zymx B H) = (zyEl zymx B s.heap) ∧ ρ 3 = Int32.ofNat q) ∧ (2 ≤ 6 → ¬ x < Int32.ofNat 0 ∧ ¬ Int32.ofNat q < x) ∧ (6 = 2 ∨ 6 = 3 → ρ 2 = Int32.ofNat K ∧ K ≤ 556 ∧ ∀ k, k < 556 → (zyEl zymx B H) 75 k = (zyEl zymx B s.heap) 75 k) ∧ (6 = 2 → ∀ j, j < K → (zyEl zymx B H) 76 j = (zyEl zymx B s.heap) 75 j) ∧ (6 = 3 → K ≤ 555 ∧ ∀ j, j ≤ K → (zyEl zymx B H) 76 j = (zyEl zymx B s.heap) 75 j) ∧ (4 ≤ 6 → ∀ j, j < 556 → (zyEl zymx B H) 76 j = (zyEl zymx B s.heap) 75 j) ∧ (6 = 4 → zPn (zyEl zymx B H)) ∧ (6 = 5 → ∃ w : Nat, w ≤ 9 ∧ (zyEl zymx B H) 74 36 = some (.int (Int32.ofNat w)) ∧ (w = 0 → ∃ r c, zyPr r c ∧ zyT75 r c (zyEl zymx B H) ∧ zJl (zyEl zymx B H))) ∧ (6 ≤ 6 → (zyEl zymx B H) 74 33 = some (.int (Int32.ofNat 0)) ∧ ρ 2 = Int32.ofNat K ∧ K ≤ 556) ∧ (6 = 6 → ∀ j, j < K → (zyEl zymx B H) 75 j = (zyEl zymx B s.heap) 75 j) ∧ (6 = 7 → K ≤ 555 ∧ ∀ j, j ≤ K → (zyEl zymx B H) 75 j = (zyEl zymx B s.heap) 75 j) := hI
      obtain ⟨hF, hB, hM⟩ := hXs
      have hEE : (zyEl zymx B H2) = (zyEl zymx B H) := zyfr0 hfr
      have ex := List.mem_singleton.mp hx
      subst ex
      obtain ⟨x0, q, K, has, hq, s1, r1, d0, d1, d2, d23, c2, c3, d4, c4, c5, d6, c6, c7⟩ := hI
      obtain ⟨t0, k1, k2⟩ := d6 (by decide)
      have x4 := d4 (by decide)
      have a2 : ρ2 2 = Int32.ofNat K := (hg 2 (by decide)).trans k1
      have b2 := zyXb hB 0 rfl
      have b2 : 2147483648 ≤ zB (ρ2 2) ∧ zB (ρ2 2) ≤ 2147484203 := b2
      rw [a2, zyBn (by omega)] at b2
      obtain ⟨n8, u1, u2, u3⟩ := zyXe hF 0 rfl
      have u1 : ρ2 2 = Int32.ofNat n8 := u1
      have u3 : zyEl zymx B H 76 n8 = some (.int (ρ2 3)) := u3
      rw [a2] at u1
      have e8 := zyOi (by omega) (by omega) u1
      subst e8
      refine zyAsB hRu hIH hAt hB 75 K (20, 556, [(0, 555, 34359738362)]) rfl rfl rfl (cv := 103079215105) (cj := 68719476737) rfl (by decide) (by decide) ⟨7, by decide⟩ [595, 0, 68719476737] rfl rfl rfl rfl (show K < 556 by omega) a2 ?_ ?_
      · intro r0 hr0 _ _
        rw [List.mem_singleton.mp hr0]
        exact ⟨rfl, zyfull _⟩
      · intro E3 hT3 p1 p2
        have p1 : E3 75 K = some (.int (ρ2 3)) := p1
        rw [hEE] at p2
        refine ⟨⟨x0, q, K, has, hq, s1, fun h => absurd (show 7 ≤ 3 from h) (by decide), fun h => absurd (show 7 = 0 from h) (by decide), fun h => absurd (show 7 = 1 from h) (by decide), fun _ => d2 (by decide), fun h => absurd (show 7 = 2 ∨ 7 = 3 from h) (by decide), fun h => absurd (show 7 = 2 from h) (by decide), fun h => absurd (show 7 = 3 from h) (by decide), fun _ => fun j hj => (p2 76 j (by omega)).trans (x4 j hj), fun h => absurd (show 7 = 4 from h) (by decide), fun h => absurd (show 7 = 5 from h) (by decide), fun _ => ⟨(p2 74 33 (by omega)).trans t0, a2, k2⟩, fun h => absurd (show 7 = 6 from h) (by decide), fun _ => ⟨by omega, fun j hj => by
          by_cases ej : j = K
          · rw [ej, p1, ← x4 K (by omega)]
            exact u3.symm
          · exact (p2 75 j (fun z => ej z.2)).trans (c6 rfl j (by omega))⟩⟩, ?_⟩
        show 2 * (556 - zyN1 (ρ2 2)) < 1 + 2 * (556 - zyN1 (ρ 2))
        rw [hg 2 (by decide)]
        omega
    · have hx : x ∈ [zxlda_gx0] := hx
      have hg : ∀ k, k < 3 → ρ2 k = ρ k := hag
      have hI := hInv
      have hI : ∃ (x : Int32) (q K : Nat), as = [x] ∧ q ≤ 900 ∧ (zyEl zymx B s.heap) 74 33 = some (.int (Int32.ofNat q)) ∧ (7 ≤ 3 → ρ 1 = x) ∧ (7 = 0 → (zyEl zymx B H) = (zyEl zymx B s.heap)) ∧ (7 = 1 → (zyEl zymx B H) = (zyEl zymx B s.heap) ∧ ρ 3 = Int32.ofNat q) ∧ (2 ≤ 7 → ¬ x < Int32.ofNat 0 ∧ ¬ Int32.ofNat q < x) ∧ (7 = 2 ∨ 7 = 3 → ρ 2 = Int32.ofNat K ∧ K ≤ 556 ∧ ∀ k, k < 556 → (zyEl zymx B H) 75 k = (zyEl zymx B s.heap) 75 k) ∧ (7 = 2 → ∀ j, j < K → (zyEl zymx B H) 76 j = (zyEl zymx B s.heap) 75 j) ∧ (7 = 3 → K ≤ 555 ∧ ∀ j, j ≤ K → (zyEl zymx B H) 76 j = (zyEl zymx B s.heap) 75 j) ∧ (4 ≤ 7 → ∀ j, j < 556 → (zyEl zymx B H) 76 j = (zyEl zymx B s.heap) 75 j) ∧ (7 = 4 → zPn (zyEl zymx B H)) ∧ (7 = 5 → ∃ w : Nat, w ≤ 9 ∧ (zyEl zymx B H) 74 36 = some (.int (Int32.ofNat w)) ∧ (w = 0 → ∃ r c, zyPr r c ∧ zyT75 r c (zyEl zymx B H) ∧ zJl (zyEl zymx B H))) ∧ (6 ≤ 7 → (zyEl zymx B H) 74 33 = some (.int (Int32.ofNat 0)) ∧ ρ 2 = Int32.ofNat K ∧ K ≤ 556) ∧ (7 = 6 → ∀ j, j < K → (zyEl zymx B H) 75 j = (zyEl zymx B s.heap) 75 j) ∧ (7 = 7 → K ≤ 555 ∧ ∀ j, j ≤ K → (zyEl zymx B H) 75 j = (zyEl zymx B s.heap) 75 j) := hI
      obtain ⟨hF, hB, hM⟩ := hXs
      have hEE : (zyEl zymx B H2) = (zyEl zymx B H) := zyfr0 hfr
      have ex := List.mem_singleton.mp hx
      subst ex
      obtain ⟨x0, q, K, has, hq, s1, r1, d0, d1, d2, d23, c2, c3, d4, c4, c5, d6, c6, c7⟩ := hI
      obtain ⟨t0, k1, k2⟩ := d6 (by decide)
      have x4 := d4 (by decide)
      obtain ⟨y1, y2⟩ := c7 rfl
      have a2 : ρ2 2 = Int32.ofNat K := (hg 2 (by decide)).trans k1
      have a2' : ρ2 2 + Int32.ofNat 1 = Int32.ofNat (K + 1) := by rw [a2, zyOa]
      refine zyGoB hIH hAt hB ⟨6, by decide⟩ [595, 0, 68719476745] rfl rfl rfl rfl ⟨x0, q, (K + 1), has, hq, s1, fun h => absurd (show 6 ≤ 3 from h) (by decide), fun h => absurd (show 6 = 0 from h) (by decide), fun h => absurd (show 6 = 1 from h) (by decide), fun _ => d2 (by decide), fun h => absurd (show 6 = 2 ∨ 6 = 3 from h) (by decide), fun h => absurd (show 6 = 2 from h) (by decide), fun h => absurd (show 6 = 3 from h) (by decide), fun _ => fun j hj => by rw [hEE]; exact x4 j hj, fun h => absurd (show 6 = 4 from h) (by decide), fun h => absurd (show 6 = 5 from h) (by decide), fun _ => ⟨by rw [hEE]; exact t0, a2', by omega⟩, fun _ => fun j hj => by rw [hEE]; exact y2 j (by omega), fun h => absurd (show 6 = 7 from h) (by decide)⟩ ?_
      show 1 + 2 * (556 - zyN1 (ρ2 2 + Int32.ofNat 1)) < 2 * (556 - zyN1 (ρ 2))
      rw [a2', k1, zyN1_of (by omega), zyN1_of (by omega)]
      omega
  · intro as E0 E E2 hT0 hΦ hlen i ρ hT hInv x hx ρ2 N2 B vo hXs hag hfr hT2 hvo
    rcases i with ⟨i, hi⟩
    have hi2 : i = 0 ∨ i = 1 ∨ i = 2 ∨ i = 3 ∨ i = 4 ∨ i = 5 ∨ i = 6 ∨ i = 7 := by omega
    rcases hi2 with rfl | rfl | rfl | rfl | rfl | rfl | rfl | rfl
    · cases hx
    · have hx : x ∈ [zxlda_ar0, zxlda_ar1] := hx
      have hg : ∀ k, k < 4 → ρ2 k = ρ k := hag
      have hI := hInv
      have hI : ∃ (x : Int32) (q K : Nat), as = [x] ∧ q ≤ 900 ∧ E0 74 33 = some (.int (Int32.ofNat q)) ∧ (1 ≤ 3 → ρ 1 = x) ∧ (1 = 0 → E = E0) ∧ (1 = 1 → E = E0 ∧ ρ 3 = Int32.ofNat q) ∧ (2 ≤ 1 → ¬ x < Int32.ofNat 0 ∧ ¬ Int32.ofNat q < x) ∧ (1 = 2 ∨ 1 = 3 → ρ 2 = Int32.ofNat K ∧ K ≤ 556 ∧ ∀ k, k < 556 → E 75 k = E0 75 k) ∧ (1 = 2 → ∀ j, j < K → E 76 j = E0 75 j) ∧ (1 = 3 → K ≤ 555 ∧ ∀ j, j ≤ K → E 76 j = E0 75 j) ∧ (4 ≤ 1 → ∀ j, j < 556 → E 76 j = E0 75 j) ∧ (1 = 4 → zPn E) ∧ (1 = 5 → ∃ w : Nat, w ≤ 9 ∧ E 74 36 = some (.int (Int32.ofNat w)) ∧ (w = 0 → ∃ r c, zyPr r c ∧ zyT75 r c E ∧ zJl E)) ∧ (6 ≤ 1 → E 74 33 = some (.int (Int32.ofNat 0)) ∧ ρ 2 = Int32.ofNat K ∧ K ≤ 556) ∧ (1 = 6 → ∀ j, j < K → E 75 j = E0 75 j) ∧ (1 = 7 → K ≤ 555 ∧ ∀ j, j ≤ K → E 75 j = E0 75 j) := hI
      obtain ⟨hF, hB, hM⟩ := hXs
      have hfr : ∀ a k, zyin [(74, 2, 3)] a k = false → E2 a k = E a k := hfr
      rcases List.mem_cons.mp hx with ex | hx
      · subst ex
        obtain ⟨x0, q, K, has, hq, s1, r1, d0, d1, d2, d23, c2, c3, d4, c4, c5, d6, c6, c7⟩ := hI
        have a1 : ρ2 1 = x0 := (hg 1 (by decide)).trans (r1 (by decide))
        obtain ⟨ea, e3⟩ := d1 rfl
        have a3 : ρ2 3 = Int32.ofNat q := (hg 3 (by decide)).trans e3
        have hk : ∀ a k, ¬ (a = 74 ∧ 2 ≤ k ∧ k ≤ 3) → E2 a k = E a k := by
          intro a k n0
          apply hfr
          cases hq : zyin [(74, 2, 3)] a k with
          | false => rfl
          | true =>
            obtain ⟨p0, g1, g2, g3, g4⟩ := zyin_iff.mp hq
            simp only [List.mem_cons, List.not_mem_nil, or_false] at g1
            rcases g1 with rfl
            · exact absurd ⟨g2.symm, g3, g4⟩ n0
        have f1 := zyX20 hF 0 rfl
        have f1 : ρ2 1 < Int32.ofNat 0 := f1
        rw [a1] at f1
        exact ⟨⟨_, zyvo_1 (c := 34359738360) (by decide) (show zyvo (zyXn B ρ2 N2) [34359738360] vo from hvo)⟩, x0, q, has, hq, s1, Or.inl ⟨Or.inl f1, (hk 74 33 (by omega)).trans (by rw [ea]; exact s1), fun k _ => (hk 75 k (by omega)).trans (by rw [ea])⟩⟩
      · skip
        have ex := List.mem_singleton.mp hx
        subst ex
        obtain ⟨x0, q, K, has, hq, s1, r1, d0, d1, d2, d23, c2, c3, d4, c4, c5, d6, c6, c7⟩ := hI
        have a1 : ρ2 1 = x0 := (hg 1 (by decide)).trans (r1 (by decide))
        obtain ⟨ea, e3⟩ := d1 rfl
        have a3 : ρ2 3 = Int32.ofNat q := (hg 3 (by decide)).trans e3
        have hk : ∀ a k, ¬ (a = 74 ∧ 2 ≤ k ∧ k ≤ 3) → E2 a k = E a k := by
          intro a k n0
          apply hfr
          cases hq : zyin [(74, 2, 3)] a k with
          | false => rfl
          | true =>
            obtain ⟨p0, g1, g2, g3, g4⟩ := zyin_iff.mp hq
            simp only [List.mem_cons, List.not_mem_nil, or_false] at g1
            rcases g1 with rfl
            · exact absurd ⟨g2.symm, g3, g4⟩ n0
        have f1 := zyX20 hF 1 rfl
        have f1 : ρ2 3 < ρ2 1 := f1
        rw [a1, a3] at f1
        exact ⟨⟨_, zyvo_1 (c := 34359738360) (by decide) (show zyvo (zyXn B ρ2 N2) [34359738360] vo from hvo)⟩, x0, q, has, hq, s1, Or.inl ⟨Or.inr f1, (hk 74 33 (by omega)).trans (by rw [ea]; exact s1), fun k _ => (hk 75 k (by omega)).trans (by rw [ea])⟩⟩
    · cases hx
    · cases hx
    · cases hx
    · have hx : x ∈ [zxlda_er0] := hx
      have hg : ∀ k, k < 3 → ρ2 k = ρ k := hag
      have hI := hInv
      have hI : ∃ (x : Int32) (q K : Nat), as = [x] ∧ q ≤ 900 ∧ E0 74 33 = some (.int (Int32.ofNat q)) ∧ (5 ≤ 3 → ρ 1 = x) ∧ (5 = 0 → E = E0) ∧ (5 = 1 → E = E0 ∧ ρ 3 = Int32.ofNat q) ∧ (2 ≤ 5 → ¬ x < Int32.ofNat 0 ∧ ¬ Int32.ofNat q < x) ∧ (5 = 2 ∨ 5 = 3 → ρ 2 = Int32.ofNat K ∧ K ≤ 556 ∧ ∀ k, k < 556 → E 75 k = E0 75 k) ∧ (5 = 2 → ∀ j, j < K → E 76 j = E0 75 j) ∧ (5 = 3 → K ≤ 555 ∧ ∀ j, j ≤ K → E 76 j = E0 75 j) ∧ (4 ≤ 5 → ∀ j, j < 556 → E 76 j = E0 75 j) ∧ (5 = 4 → zPn E) ∧ (5 = 5 → ∃ w : Nat, w ≤ 9 ∧ E 74 36 = some (.int (Int32.ofNat w)) ∧ (w = 0 → ∃ r c, zyPr r c ∧ zyT75 r c E ∧ zJl E)) ∧ (6 ≤ 5 → E 74 33 = some (.int (Int32.ofNat 0)) ∧ ρ 2 = Int32.ofNat K ∧ K ≤ 556) ∧ (5 = 6 → ∀ j, j < K → E 75 j = E0 75 j) ∧ (5 = 7 → K ≤ 555 ∧ ∀ j, j ≤ K → E 75 j = E0 75 j) := hI
      obtain ⟨hF, hB, hM⟩ := hXs
      have hfr : ∀ a k, zyin [(74, 2, 2), (74, 33, 35)] a k = false → E2 a k = E a k := hfr
      have ex := List.mem_singleton.mp hx
      subst ex
      obtain ⟨x0, q, K, has, hq, s1, r1, d0, d1, d2, d23, c2, c3, d4, c4, c5, d6, c6, c7⟩ := hI
      have hk : ∀ a k, ¬ (a = 74 ∧ 2 ≤ k ∧ k ≤ 2) → ¬ (a = 74 ∧ 33 ≤ k ∧ k ≤ 35) → E2 a k = E a k := by
        intro a k n0 n1
        apply hfr
        cases hq : zyin [(74, 2, 2), (74, 33, 35)] a k with
        | false => rfl
        | true =>
          obtain ⟨p0, g1, g2, g3, g4⟩ := zyin_iff.mp hq
          simp only [List.mem_cons, List.not_mem_nil, or_false] at g1
          rcases g1 with rfl | rfl
          · exact absurd ⟨g2.symm, g3, g4⟩ n0
          · exact absurd ⟨g2.symm, g3, g4⟩ n1
      obtain ⟨na, ua1, ua2, ua3⟩ := zyXe hF 0 rfl
      have ua1 : Int32.ofNat 36 = Int32.ofNat na := ua1
      have ua3 : E 74 na = some (.int (ρ2 3)) := ua3
      have ea := zyOi (by omega) (by omega) ua1
      subst ea
      have b3 := zyXb hB 0 rfl
      have b3 : 2147483648 ≤ zB (ρ2 3) ∧ zB (ρ2 3) ≤ 2147483648 := b3
      obtain ⟨o1, o2⟩ := zyOn b3.1
      rw [o1, show zyN1 (ρ2 3) = 0 by omega] at ua3
      obtain ⟨w, hw, ew, p3⟩ := c5 rfl
      rw [ua3] at ew
      have w0 := zyOi (a := 0) (b := w) (by omega) (by omega) (Value.int.inj (Option.some.inj ew))
      obtain ⟨R, C, hp, k1, k2⟩ := p3 w0.symm
      have m := zyXm hM 0 rfl
      have m : E2 74 33 = some (.int (Int32.ofNat 0)) := m
      obtain ⟨y1, y2⟩ := d2 (by decide)
      have h75 : ∀ k, E2 75 k = E 75 k := fun k => hk 75 k (by omega) (by omega)
      refine ⟨⟨_, zyvo_1 (c := 240518168577) (by decide) (show zyvo (zyXn B ρ2 N2) [240518168577] vo from hvo)⟩, x0, q, has, hq, s1, Or.inr ⟨y1, y2, m, Or.inr ⟨R, C, hp, fun k hk2 b hb b1 b2 => ?_, zJl_fr (fun k _ => h75 k) k2⟩⟩⟩
      rw [h75 k]
      exact k1 k hk2 b hb b1 b2
    · have hx : x ∈ [zxlda_fr0] := hx
      have hg : ∀ k, k < 3 → ρ2 k = ρ k := hag
      have hI := hInv
      have hI : ∃ (x : Int32) (q K : Nat), as = [x] ∧ q ≤ 900 ∧ E0 74 33 = some (.int (Int32.ofNat q)) ∧ (6 ≤ 3 → ρ 1 = x) ∧ (6 = 0 → E = E0) ∧ (6 = 1 → E = E0 ∧ ρ 3 = Int32.ofNat q) ∧ (2 ≤ 6 → ¬ x < Int32.ofNat 0 ∧ ¬ Int32.ofNat q < x) ∧ (6 = 2 ∨ 6 = 3 → ρ 2 = Int32.ofNat K ∧ K ≤ 556 ∧ ∀ k, k < 556 → E 75 k = E0 75 k) ∧ (6 = 2 → ∀ j, j < K → E 76 j = E0 75 j) ∧ (6 = 3 → K ≤ 555 ∧ ∀ j, j ≤ K → E 76 j = E0 75 j) ∧ (4 ≤ 6 → ∀ j, j < 556 → E 76 j = E0 75 j) ∧ (6 = 4 → zPn E) ∧ (6 = 5 → ∃ w : Nat, w ≤ 9 ∧ E 74 36 = some (.int (Int32.ofNat w)) ∧ (w = 0 → ∃ r c, zyPr r c ∧ zyT75 r c E ∧ zJl E)) ∧ (6 ≤ 6 → E 74 33 = some (.int (Int32.ofNat 0)) ∧ ρ 2 = Int32.ofNat K ∧ K ≤ 556) ∧ (6 = 6 → ∀ j, j < K → E 75 j = E0 75 j) ∧ (6 = 7 → K ≤ 555 ∧ ∀ j, j ≤ K → E 75 j = E0 75 j) := hI
      obtain ⟨hF, hB, hM⟩ := hXs
      have hEE : E2 = E := zyfr0 hfr
      have ex := List.mem_singleton.mp hx
      subst ex
      obtain ⟨x0, q, K, has, hq, s1, r1, d0, d1, d2, d23, c2, c3, d4, c4, c5, d6, c6, c7⟩ := hI
      obtain ⟨t0, k1, k2⟩ := d6 (by decide)
      have a2 : ρ2 2 = Int32.ofNat K := (hg 2 (by decide)).trans k1
      have f9 := zyX21 hF 0 rfl
      have f9 : ¬ ρ2 2 < Int32.ofNat 556 := f9
      rw [a2, zyOl (by omega) (by omega)] at f9
      obtain ⟨y1, y2⟩ := d2 (by decide)
      exact ⟨⟨_, zyvo_1 (c := 34359738360) (by decide) (show zyvo (zyXn B ρ2 N2) [34359738360] vo from hvo)⟩, x0, q, has, hq, s1, Or.inr ⟨y1, y2, by rw [hEE]; exact t0, Or.inl fun k hk => by rw [hEE]; exact c6 rfl k (by omega)⟩⟩
    · cases hx
