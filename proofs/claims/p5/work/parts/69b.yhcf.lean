/-! THE SIMPLE BRAIDS: where a place comes from -/
def zyΦcf (as : List Int32) (E : zyEm) : Prop := ∃ f t : Nat, as = [Int32.ofNat f, Int32.ofNat t] ∧ f < 1300 ∧ t < 8 ∧ ∃ p, p < 8 ∧ zfv E (8 * f + p) = t
def zyΨcf (as : List Int32) (E E2 : zyEm) (vo : Option Value) : Prop := E2 = E ∧ ∀ f t : Nat, as = [Int32.ofNat f, Int32.ofNat t] → f < 1300 → t < 8 → ∃ p, p < 8 ∧ vo = some (.int (Int32.ofNat p)) ∧ zfv E (8 * f + p) = t ∧ ∀ q, q < p → ¬ zfv E (8 * f + q) = t
theorem zyas2 {a b a' b' : Nat} (h : [Int32.ofNat a, Int32.ofNat b] = [Int32.ofNat a', Int32.ofNat b']) (h1 : a < 4294967296) (h2 : b < 4294967296) (h3 : a' < 4294967296) (h4 : b' < 4294967296) : a = a' ∧ b = b' := by
  simp only [List.cons.injEq, and_true] at h
  exact ⟨zyOi h1 h3 h.1, zyOi h2 h4 h.2⟩
theorem zyas2' {x y : Int32} {a' b' : Nat} (h : [x, y] = [Int32.ofNat a', Int32.ofNat b']) : x = Int32.ofNat a' ∧ y = Int32.ofNat b' := by
  simpa only [List.cons.injEq, and_true] using h
theorem zycf_run : zyAllP (fun r c => zyrS (zymr r c) zxi229 (229, 0, 0, 1, 0) 2 zpcf (fun _ _ => []) zFcf zScf zXcf zRcf 2) = true := by decide +kernel
theorem zycomesFrom {l : Launch} {r c : Nat} (h1 : 1 ≤ r) (h2 : r ≤ 4) (h3 : 1 ≤ c) (h4 : c ≤ 5) {en : zEn} {me : zMe} (hen : zG zxMeta 229 = some en) (hme : zG zMeth 229 = some me) : zyHc l (zymr r c) en me 2 2 zyΦcf zyΨcf := by
  have een : zG zxMeta 229 = some (zxi229, 3, 4, 11, 229, 0, 0, 1, 0) := rfl
  obtain ⟨me1, hme1, hOK⟩ := zall hen
  rw [hme] at hme1
  cases hme1
  rw [een] at hen
  cases hen
  have hr := zyAllP_iff zycf_run h1 h2 h3 h4
  refine zycutS (mi := zymr r c) hOK rfl rfl ⟨_, rfl, rfl⟩ (ι := Fin 2) (fun i => zpcf i.val) (fun _ _ => []) (fun i => zFcf i.val) (fun i => zScf i.val) (fun i => zXcf i.val) (fun i => zRcf i.val) (fun i y2 ct en2 me2 h => by cases h) 200000 (fun i => zyAll_iff hr i.val i.isLt) ⟨0, by decide⟩ ⟨rfl, rfl, rfl, rfl⟩ ⟨by decide, by decide⟩
    (fun i as E0 ρ E => E = E0 ∧ as = [ρ 1, ρ 2] ∧ (i.val = 1 → ∃ k, ρ 3 = Int32.ofNat k ∧ k < 8 ∧ ∀ q, q < k → ¬ zfv E (8 * zyN1 (ρ 1) + q) = zyN1 (ρ 2))) (fun i _ _ ρ _ => if i.val = 0 then 100 else 8 - zyN1 (ρ 3)) ?_ ?_ ?_
  · intro as E hlen hT hΦ
    obtain ⟨f, t, rfl, b1, b2, b3⟩ := hΦ
    refine ⟨zEnv_c (zyfull _) (zEnv_c ?_ (zEnv_c ?_ (zEnv_c (zyfull _) zEnv_nil))), rfl, rfl, fun h => absurd h (by decide)⟩
    · show 2147483648 ≤ zB (Int32.ofNat f) ∧ zB (Int32.ofNat f) ≤ 2147484947
      rw [zyBn (by omega)]
      omega
    · show 2147483648 ≤ zB (Int32.ofNat t) ∧ zB (Int32.ofNat t) ≤ 2147483655
      rw [zyBn (by omega)]
      omega
  · intro as B s Wg hRu hT0 hΦ hlen i ρ H hT hInv hIH x hx ρ2 N2 H2 locs lsB stA hAt hXs hag hfr hT2
    obtain ⟨hE, has, hInv⟩ := hInv
    obtain ⟨f, t, e, b1, b2, p, b3, b4⟩ := hΦ
    rw [has] at e
    obtain ⟨e1, e2⟩ := zyas2' e
    obtain ⟨hF, hB, -⟩ := hXs
    have hg4 : ∀ k, k < 4 → ρ2 k = ρ k := by
      rcases i with ⟨i, hi⟩
      have hi2 : i = 0 ∨ i = 1 := by omega
      rcases hi2 with rfl | rfl
      · exact hag
      · exact hag
    have hEE : zyEl (zymr r c) B H2 = zyEl (zymr r c) B H := by
      rcases i with ⟨i, hi⟩
      have hi2 : i = 0 ∨ i = 1 := by omega
      rcases hi2 with rfl | rfl
      · exact zyfr0 hfr
      · exact zyfr0 hfr
    have a1 := (hg4 1 (by decide)).trans e1
    have a2 := (hg4 2 (by decide)).trans e2
    have n1 : zyN1 (ρ 1) = f := by rw [e1]; exact zyN1_of (by omega)
    have n2 : zyN1 (ρ 2) = t := by rw [e2]; exact zyN1_of (by omega)
    rcases i with ⟨i, hi⟩
    have hi2 : i = 0 ∨ i = 1 := by omega
    rcases hi2 with rfl | rfl
    · have hx : x ∈ [zxcf_ax0] := hx
      have ex := List.mem_singleton.mp hx
      subst ex
      refine zyGo hIH hAt ⟨1, by decide⟩ [595, 34359738369, 68719476737, 0] rfl rfl rfl (zEnv_c (zyfull _) (zEnv_c ?_ (zEnv_c ?_ (zEnv_c ?_ zEnv_nil)))) ?_ (by show 8 - zyN1 (Int32.ofNat 0) < 100; omega)
      · exact zyXb hB 0 rfl
      · exact zyXb hB 1 rfl
      · show 2147483648 ≤ zB (Int32.ofNat 0) ∧ zB (Int32.ofNat 0) ≤ 2147483655
        rw [zyBn (by omega)]
        omega
      · refine ⟨hEE.trans hE, ?_, fun _ => ⟨0, rfl, by omega, fun q hq => absurd hq (Nat.not_lt_zero q)⟩⟩
        show as = [ρ2 1, ρ2 2]
        rw [hg4 1 (by decide), hg4 2 (by decide)]
        exact has
    · have hx : x ∈ [zxcf_bx0] := hx
      have ex := List.mem_singleton.mp hx
      subst ex
      obtain ⟨k, g1, g2, g3⟩ := hInv rfl
      rw [n1, n2] at g3
      have f0 : ρ2 4 = Int32.ofNat 8 * ρ2 1 := zyFp_op (by decide) (zyXf hF 0 rfl)
      have f1 : ρ2 5 = ρ2 4 + ρ2 3 := zyFp_op (by decide) (zyXf hF 1 rfl)
      obtain ⟨n, f2, f3, f4⟩ : ∃ n : Nat, ρ2 5 = Int32.ofNat n ∧ n < 2147483648 ∧ zyEl (zymr r c) B H 81 n = some (.int (ρ2 6)) := zyFp_e (zyXf hF 2 rfl)
      have f5 : ¬ ρ2 6 = ρ2 2 := zyFp_23 (zyXf hF 3 rfl)
      have a3 := (hg4 3 (by decide)).trans g1
      rw [f1, f0, a1, a3, zyOm, zyOa] at f2
      have en := zyOi (by omega) (by omega) f2
      subst en
      obtain ⟨q1, q2⟩ := zfv_el hT (i := 8 * f + k) (by omega)
      rw [f4] at q1
      have q1 := Value.int.inj (Option.some.inj q1)
      rw [q1, a2] at f5
      have f6 : ¬ zfv (zyEl (zymr r c) B H) (8 * f + k) = t := fun q => f5 (by rw [q])
      have hk : k + 1 < 8 := by
        apply Classical.byContradiction
        intro hn
        have hp : p = k ∨ p < k := by omega
        rcases hp with hp | hp
        · rw [← hp, hE] at f6
          exact f6 b4
        · rw [hE] at g3
          exact g3 p hp b4
      have a3' : ρ2 3 + Int32.ofNat 1 = Int32.ofNat (k + 1) := by rw [a3, zyOa]
      refine zyGo hIH hAt ⟨1, by decide⟩ [595, 34359738369, 68719476737, 103079215113] rfl rfl rfl (zEnv_c (zyfull _) (zEnv_c ?_ (zEnv_c ?_ (zEnv_c ?_ zEnv_nil)))) ?_ ?_
      · exact zyXb hB 0 rfl
      · exact zyXb hB 1 rfl
      · show 2147483648 ≤ zB (ρ2 3 + Int32.ofNat 1) ∧ zB (ρ2 3 + Int32.ofNat 1) ≤ 2147483655
        rw [a3', zyBn (by omega)]
        omega
      · refine ⟨hEE.trans hE, ?_, fun _ => ⟨k + 1, a3', hk, ?_⟩⟩
        · show as = [ρ2 1, ρ2 2]
          rw [hg4 1 (by decide), hg4 2 (by decide)]
          exact has
        · intro q hq
          show ¬ zfv (zyEl (zymr r c) B H2) (8 * zyN1 (ρ2 1) + q) = zyN1 (ρ2 2)
          rw [a1, a2, zyN1_of (by omega), zyN1_of (by omega), hEE]
          by_cases e0 : q = k
          · rw [e0]
            exact f6
          · exact g3 q (by omega)
      · show 8 - zyN1 (ρ2 3 + Int32.ofNat 1) < 8 - zyN1 (ρ 3)
        rw [a3', g1, zyN1_of (by omega), zyN1_of (by omega)]
        omega
  · intro as E0 E E2 hT0 hΦ hlen i ρ hT hInv x hx ρ2 N2 B vo hXs hag hfr hT2 hvo
    rcases i with ⟨i, hi⟩
    have hi2 : i = 0 ∨ i = 1 := by omega
    rcases hi2 with rfl | rfl
    · cases hx
    have hx : x ∈ [zxcf_br0] := hx
    have ex := List.mem_singleton.mp hx
    subst ex
    obtain ⟨hE, has, hInv⟩ := hInv
    obtain ⟨k, g1, g2, g3⟩ := hInv rfl
    obtain ⟨hF, hB, -⟩ := hXs
    have hg4 : ∀ k, k < 4 → ρ2 k = ρ k := hag
    refine ⟨(zyfr0 hfr).trans hE, fun f t e b1 b2 => ?_⟩
    rw [has] at e
    obtain ⟨e1, e2⟩ := zyas2' e
    have a1 := (hg4 1 (by decide)).trans e1
    have a2 := (hg4 2 (by decide)).trans e2
    have a3 := (hg4 3 (by decide)).trans g1
    rw [e1, e2, zyN1_of (by omega), zyN1_of (by omega)] at g3
    have ev : vo = some (.int (ρ2 3)) := zyvo_1 (by decide) (show zyvo (zyXn B ρ2 N2) [103079215105] vo from hvo)
    have f0 : ρ2 4 = Int32.ofNat 8 * ρ2 1 := zyFp_op (by decide) (zyXf hF 0 rfl)
    have f1 : ρ2 5 = ρ2 4 + ρ2 3 := zyFp_op (by decide) (zyXf hF 1 rfl)
    obtain ⟨n, f2, f3, f4⟩ : ∃ n : Nat, ρ2 5 = Int32.ofNat n ∧ n < 2147483648 ∧ E 81 n = some (.int (ρ2 6)) := zyFp_e (zyXf hF 2 rfl)
    have f5 : ρ2 6 = ρ2 2 := zyFp_22 (zyXf hF 3 rfl)
    rw [f1, f0, a1, a3, zyOm, zyOa] at f2
    have en := zyOi (by omega) (by omega) f2
    subst en
    obtain ⟨q1, q2⟩ := zfv_el hT (i := 8 * f + k) (by omega)
    rw [f4] at q1
    have q1 := Value.int.inj (Option.some.inj q1)
    rw [f5, a2] at q1
    have q3 := zyOi (by omega) (by omega) q1
    refine ⟨k, g2, by rw [ev, a3], ?_, ?_⟩
    · rw [← hE]
      exact q3.symm
    · rw [← hE]
      exact g3
