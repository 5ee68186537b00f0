/-! THE PRINTER: switches, stuck ones, free ones, places, the wished word -/
theorem zyeqB {x z : Int32} {n : Nat} (h : zB z = zB x + n) : z = x + Int32.ofNat n := by
  apply zN_inj
  have e1 := zB_eq x
  have e2 := zB_eq z
  have l1 := x.toBitVec.isLt
  have l2 := z.toBitVec.isLt
  rw [zN_add, zN_of]
  omega
theorem zyN1_lo {x : Int32} (h : 2147483648 ≤ zB x) : zyN1 x = zB x - 2147483648 := by
  have := (zyp h).2.2
  unfold zyN1
  omega
noncomputable def zycC : Nat → List zyCt := fun y => zif (Nat.beq y 53) [zyctT 9 4, zyctT 10 1, zyctT 11 6, zyctT 12 6, zyctT 13 5, zyctT 14 6, zyctT 15 6, zyctT 16 4, zyctT 17 5, zyctT 18 4, zyctT 19 2] (zif (Nat.beq y 54) [zyctN] [])
theorem zycC_ok {l : Launch} : ∀ y2 ct en2 me2, ct ∈ zycC y2 → zG zxMeta y2 = some en2 → zG zMeth y2 = some me2 → zyCon l zymc zyJc en2 me2 ct := by
  intro y2 ct en2 me2 hct hen hme
  unfold zycC at hct
  cases h1 : Nat.beq y2 53 with
  | true =>
    rw [h1] at hct
    have e := zbeqT h1
    subst e
    obtain ⟨q9, hr⟩ := zand_iff zyrunTx_all
    obtain ⟨q10, hr⟩ := zand_iff hr
    obtain ⟨q11, hr⟩ := zand_iff hr
    obtain ⟨q12, hr⟩ := zand_iff hr
    obtain ⟨q13, hr⟩ := zand_iff hr
    obtain ⟨q14, hr⟩ := zand_iff hr
    obtain ⟨q15, hr⟩ := zand_iff hr
    obtain ⟨q16, hr⟩ := zand_iff hr
    obtain ⟨q17, hr⟩ := zand_iff hr
    obtain ⟨q18, q19⟩ := zand_iff hr
    have hct : ct ∈ [zyctT 9 4, zyctT 10 1, zyctT 11 6, zyctT 12 6, zyctT 13 5, zyctT 14 6, zyctT 15 6, zyctT 16 4, zyctT 17 5, zyctT 18 4, zyctT 19 2] := hct
    simp only [List.mem_cons, List.not_mem_nil, or_false] at hct
    rcases hct with e | e | e | e | e | e | e | e | e | e | e <;> rw [e]
    · exact zytext q9 (by decide) (by decide) hen hme
    · exact zytext q10 (by decide) (by decide) hen hme
    · exact zytext q11 (by decide) (by decide) hen hme
    · exact zytext q12 (by decide) (by decide) hen hme
    · exact zytext q13 (by decide) (by decide) hen hme
    · exact zytext q14 (by decide) (by decide) hen hme
    · exact zytext q15 (by decide) (by decide) hen hme
    · exact zytext q16 (by decide) (by decide) hen hme
    · exact zytext q17 (by decide) (by decide) hen hme
    · exact zytext q18 (by decide) (by decide) hen hme
    · exact zytext q19 (by decide) (by decide) hen hme
  | false =>
    rw [h1] at hct
    cases h2 : Nat.beq y2 54 with
    | true =>
      rw [h2] at hct
      have e := zbeqT h2
      subst e
      have hct : ct ∈ [zyctN] := hct
      rw [List.mem_singleton.mp hct]
      exact zynumber hen hme
    | false =>
      rw [h2] at hct
      cases hct
noncomputable def zynm (s : Nat) : Nat := zif (Nat.ble (Nat.succ s) 10) 2 3
theorem zynm_eq {s : Nat} (h : s < 2147483648) : zyNm (Int32.ofNat s) = zynm s := by
  have e : zB (Int32.ofNat s) = s + 2147483648 := zB_nI h
  unfold zynm
  cases hb : Nat.ble (Nat.succ s) 10 with
  | true =>
    have h1 : s + 1 ≤ 10 := zbleT hb
    exact zyNm_lo (by omega)
  | false =>
    have h1 : ¬ s + 1 ≤ 10 := zbleF hb
    exact zyNm_hi (by omega)
/-! a loop goes on, ends: by how many there are -/
noncomputable def zygo1 (a j mx s : Nat) (w : zW) (F : List zyF) : Bool := zand (Nat.ble (Nat.succ s) mx) (zyfk w a j (fun lo _ => Nat.ble (Nat.add 2147483648 (Nat.succ s)) lo) F)
noncomputable def zyen1 (a j mx s : Nat) (w : zW) (F : List zyF) : Bool := zif (Nat.ble mx s) true (zyfk w a j (fun lo hi => zand (Nat.ble 2147483648 lo) (Nat.ble hi (Nat.add 2147483648 s))) F)
theorem zygo1_iff {X : zyX} {w : zW} {F : List zyF} {a j mx s : Nat} (hj : j < 2147483648) (hE : zEnv (zyρ X) w.2) (hF : ∀ f ∈ F, zyFm X f) (h : zygo1 a j mx s w F = true) : s < min (zyN1 (zyI (zyE X) a j)) mx := by
  obtain ⟨h1, h2⟩ := zand_iff h
  have h1 : s + 1 ≤ mx := zbleT h1
  obtain ⟨x, lo, hi, e, b1, b2, hk⟩ := zyfk_iff hE hj hF h2
  have hk : 2147483648 + (s + 1) ≤ lo := zbleT hk
  have e2 : zyI (zyE X) a j = x := by unfold zyI; rw [e]
  rw [e2, zyN1_lo (by omega)]
  omega
theorem zyen1_iff {X : zyX} {w : zW} {F : List zyF} {a j mx s : Nat} (hj : j < 2147483648) (hE : zEnv (zyρ X) w.2) (hF : ∀ f ∈ F, zyFm X f) (h : zyen1 a j mx s w F = true) : min (zyN1 (zyI (zyE X) a j)) mx ≤ s := by
  unfold zyen1 at h
  rcases zif_iff h with ⟨h1, -⟩ | ⟨-, h2⟩
  · have h1 := zbleT h1
    omega
  · obtain ⟨x, lo, hi, e, b1, b2, hk⟩ := zyfk_iff hE hj hF h2
    obtain ⟨k1, k2⟩ := zand_iff hk
    have k1 := zbleT k1
    have k2 : hi ≤ 2147483648 + s := zbleT k2
    have e2 : zyI (zyE X) a j = x := by unfold zyI; rw [e]
    rw [e2, zyN1_lo (by omega)]
    omega
noncomputable def zyu0 (f : Nat → zW → List zyF → Nat → Bool) : Nat → zW → List zyF → Nat → Nat → Bool := fun s w F c u => zand (Nat.beq u 13) (f s w F c)
theorem zyu0_iff {X : zyX} {f : Nat → zW → List zyF → Nat → Bool} {s c u nu : Nat} {w : zW} {F : List zyF} (h : zyu0 f s w F c u = true) (hu : zyund X u nu) : nu = 0 ∧ f s w F c = true := by
  obtain ⟨h1, h2⟩ := zand_iff h
  have h1 := zbeqT h1
  refine ⟨?_, h2⟩
  rcases hu with ⟨-, e⟩ | ⟨y3, e, -⟩
  · exact e
  · rw [h1] at e
    exact absurd (zyv_ik e) (by decide)
noncomputable def zybxsw (o s : Nat) (w : zW) (F : List zyF) (c : Nat) : Bool := zand (zygo1 (Nat.add 2 o) 3 31 s w F) (zyfk w (Nat.add 11 o) s (fun lo hi => zif (Nat.beq lo hi) (zif (Nat.beq lo 2147483649) (zyfk w (Nat.add 10 o) s (fun lb hb => zif (zand (Nat.beq lb 2147483648) (Nat.beq hb 2147483648)) (Nat.beq c 0) (zif (Nat.ble 2147483649 lb) (Nat.beq c (Nat.add 9 (zynm s))) (zif (Nat.ble hb 2147483647) (Nat.beq c (Nat.add 9 (zynm s))) false))) F) (zif (Nat.ble 2147483648 lo) (Nat.beq c (Nat.add (Nat.add 7 (zynm s)) (Nat.mul 2 (Nat.sub lo 2147483648)))) false)) false) F)
noncomputable def zyex0 (a j mx tail s : Nat) (w : zW) (F : List zyF) (c : Nat) : Bool := zand (Nat.beq c tail) (zyen1 a j mx s w F)
noncomputable def zybx1 (a j mx p : Nat) (v : Nat) (f : Nat → Nat → Nat → Bool) (s : Nat) (w : zW) (F : List zyF) (c : Nat) : Bool := zand (zygo1 a j mx s w F) (zyfk w p s (fun lo hi => zif (zand (Nat.beq lo v) (Nat.beq hi v)) (Nat.beq c 0) (zif (Nat.ble (Nat.succ v) lo) (f lo hi c) (zif (Nat.ble (Nat.succ hi) v) (f lo hi c) false))) F)
theorem zybxsw_iff {X : zyX} {w : zW} {F : List zyF} {o s c : Nat} (hs : s < 2147483648) (hE : zEnv (zyρ X) w.2) (hF : ∀ f ∈ F, zyFm X f) (h : zybxsw o s w F c = true) : zyCsw (zyE X) o s = c ∧ s < min (zyN1 (zyI (zyE X) (2 + o) 3)) 31 := by
  obtain ⟨h1, h2⟩ := zand_iff h
  refine ⟨?_, zygo1_iff (by decide) hE hF h1⟩
  obtain ⟨x, lo, hi, e, b1, b2, hk⟩ := zyfk_iff hE hs hF h2
  have e2 : zyI (zyE X) (11 + o) s = x := by unfold zyI; rw [show 11 + o = Nat.add 11 o from rfl, e]
  unfold zyCsw
  rw [e2, zynm_eq hs]
  have one : (1 : Int32) = Int32.ofNat 1 := rfl
  rcases zif_iff hk with ⟨k1, k2⟩ | ⟨-, k2⟩
  rotate_left
  · cases k2
  have k1 := zbeqT k1
  rcases zif_iff k2 with ⟨k3, k4⟩ | ⟨k3, k4⟩
  · have k3 := zbeqT k3
    have ex : x = 1 := by
      have e9 := zyeqB (x := 0) (z := x) (n := 1) (by rw [show zB (0 : Int32) = 2147483648 by decide]; omega)
      rw [e9]; decide
    obtain ⟨y, lb, hb, e3, c1, c2, hk5⟩ := zyfk_iff hE hs hF k4
    have e4 : zyI (zyE X) (10 + o) s = y := by unfold zyI; rw [show 10 + o = Nat.add 10 o from rfl, e3]
    rw [e4, ex]
    have hN : (1 : Int32).toBitVec.toNat = 1 := by decide
    rcases zif_iff hk5 with ⟨k5, k6⟩ | ⟨-, k6⟩
    · obtain ⟨q1, q2⟩ := zand_iff k5
      have q1 := zbeqT q1
      have q2 := zbeqT q2
      have ey : y = 0 := by
        have e9 := zyeqB (x := 0) (z := y) (n := 0) (by rw [show zB (0 : Int32) = 2147483648 by decide]; omega)
        rw [e9]; decide
      rw [if_pos ⟨rfl, ey⟩]
      exact (zbeqT k6).symm
    · have fin : ¬ y = 0 → Nat.beq c (Nat.add 9 (zynm s)) = true → (if (1 : Int32) = 1 ∧ y = 0 then 0 else 7 + zynm s + 2 * (1 : Int32).toBitVec.toNat) = c := by
        intro hy hc
        rw [if_neg (fun q => hy q.2), hN]
        have hc : c = 9 + zynm s := zbeqT hc
        omega
      have hz0 : zB (0 : Int32) = 2147483648 := by decide
      rcases zif_iff k6 with ⟨k7, k8⟩ | ⟨-, k8⟩
      · have k7 := zbleT k7
        exact fin (fun q => by rw [q] at c1; omega) k8
      · rcases zif_iff k8 with ⟨k9, k10⟩ | ⟨-, k10⟩
        · have k9 := zbleT k9
          exact fin (fun q => by rw [q] at c2; omega) k10
        · cases k10
  · have k3 := zbeqF k3
    rcases zif_iff k4 with ⟨k5, k6⟩ | ⟨-, k6⟩
    · have k5 := zbleT k5
      have hne : ¬ x = 1 := by
        intro q
        rw [q, show zB (1 : Int32) = 2147483649 by decide] at b1 b2
        omega
      rw [if_neg (fun q => hne q.1)]
      have k6 : c = 7 + zynm s + 2 * (lo - 2147483648) := zbeqT k6
      have e5 : x.toBitVec.toNat = zB x - 2147483648 := zyN1_lo (by omega)
      rw [e5, k6]
      omega
    · cases k6
