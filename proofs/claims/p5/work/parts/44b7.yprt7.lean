/-! THE PRINTER: the loops' contracts, and all -/
theorem zyRc_mk {E : zyEm} {x y z : Int32} {k o id : Nat} (hk : k < 5) (hid : (id = 100 + k ∧ o = 0) ∨ (id = 200 + k ∧ o = 17)) (h : zB z = zB x + zyCt1 E o k) : zyRc id E x y z := by
  have e := zyeqB h
  rcases hid with ⟨rfl, rfl⟩ | ⟨rfl, rfl⟩
  · exact Or.inl ⟨by omega, by omega, by rw [e, show 100 + k - 100 = k by omega]⟩
  · exact Or.inr (Or.inr (Or.inl ⟨by omega, by omega, by rw [e, show 200 + k - 200 = k by omega]⟩))
theorem zyex0_iff {X : zyX} {w : zW} {F : List zyF} {a j mx tail s c : Nat} (hj : j < 2147483648) (hE : zEnv (zyρ X) w.2) (hF : ∀ f ∈ F, zyFm X f) (h : zyex0 a j mx tail s w F c = true) : c = tail ∧ min (zyN1 (zyI (zyE X) a j)) mx ≤ s := by
  obtain ⟨h1, h2⟩ := zand_iff h
  exact ⟨zbeqT h1, zyen1_iff hj hE hF h2⟩
section ZYP
variable {l : Launch} {o pl id : Nat} {en : zEn} {me : zMe}
theorem zysw (h : zyrsw o pl = true) (hid : (id = 100 ∧ o = 0) ∨ (id = 200 ∧ o = 17)) (hen : zG zxMeta 48 = some en) (hme : zG zMeth 48 = some me) : zyCon l zymc zyJc en me ([299, pl], zyfw, [zyc 0 1800, id, 606210], 7, [(606210, zyc 0 1000)], []) := by
  have een : zG zxMeta 48 = some (zxi48, 2, 4, 4, 48, 0, 0, 0, 0) := rfl
  rw [een] at hen
  cases hen
  obtain ⟨q1, h⟩ := zand_iff h
  obtain ⟨q2, h⟩ := zand_iff h
  obtain ⟨q3, h⟩ := zand_iff h
  obtain ⟨q4, q5⟩ := zand_iff h
  refine zyloopk (C := zycC) (nS := 32) (tail := 0) een hme rfl rfl zycC_ok rfl (by decide) _ _ q1 q2 q3 q4 q5 (fun E s => zyCsw E o s) (fun E => min (zyN1 (zyI E (2 + o) 3)) 31) (by decide) (fun E => by omega) ?_ ?_ ?_
  · intro X w F s c u nu _ hE hF hs hb hu
    obtain ⟨e0, hb⟩ := zyu0_iff hb hu
    subst e0
    exact zybxsw_iff (by omega) hE hF hb
  · intro X w F s c u nu _ hE hF hs hb hu
    obtain ⟨e0, hb⟩ := zyu0_iff hb hu
    obtain ⟨e1, e2⟩ := zyex0_iff (by decide) hE hF hb
    exact ⟨by omega, e2⟩
  · intro E x y z hz
    refine zyRc_mk (k := 0) (by decide) hid ?_
    show zB z = zB x + zySum (zyCsw E o) _
    exact hz
theorem zyst (h : zyrst o pl = true) (hid : (id = 101 ∧ o = 0) ∨ (id = 201 ∧ o = 17)) (hen : zG zxMeta 49 = some en) (hme : zG zMeth 49 = some me) : zyCon l zymc zyJc en me ([299, pl], zyfw, [zyc 0 2800, id, 606210], 7, [(606210, zyc 0 2000)], []) := by
  have een : zG zxMeta 49 = some (zxi49, 2, 3, 4, 49, 0, 0, 0, 0) := rfl
  rw [een] at hen
  cases hen
  obtain ⟨q1, h⟩ := zand_iff h
  obtain ⟨q2, h⟩ := zand_iff h
  obtain ⟨q3, h⟩ := zand_iff h
  obtain ⟨q4, q5⟩ := zand_iff h
  refine zyloopk (C := zycC) (nS := 32) (tail := 0) een hme rfl rfl zycC_ok rfl (by decide) _ _ q1 q2 q3 q4 q5 (fun E s => zyCst E o s) (fun E => min (zyN1 (zyI E (2 + o) 3)) 31) (by decide) (fun E => by omega) ?_ ?_ ?_
  · intro X w F s c u nu _ hE hF hs hb hu
    obtain ⟨e0, hb⟩ := zyu0_iff hb hu
    subst e0
    obtain ⟨h1, lo, hi, b1, b2, hc⟩ := zybx1_iff (by decide) (by omega) hE hF hb
    refine ⟨?_, h1⟩
    rw [show Nat.add 12 o = 12 + o from rfl] at hc
    unfold zyCst
    rcases hc with ⟨e1, e2⟩ | ⟨e1, e2⟩
    · rw [if_pos (zyB0.mp e1), e2]
    · rw [if_neg (fun q => e1 (zyB0.mpr q)), zynm_eq (by omega)]
      exact (zbeqT e2).symm
  · intro X w F s c u nu _ hE hF hs hb hu
    obtain ⟨e0, hb⟩ := zyu0_iff hb hu
    obtain ⟨e1, e2⟩ := zyex0_iff (by decide) hE hF hb
    exact ⟨by omega, e2⟩
  · intro E x y z hz
    refine zyRc_mk (k := 1) (by decide) hid ?_
    show zB z = zB x + zySum (zyCst E o) _
    exact hz
theorem zyfree (h : zyrfr o pl = true) (hid : (id = 102 ∧ o = 0) ∨ (id = 202 ∧ o = 17)) (hen : zG zxMeta 50 = some en) (hme : zG zMeth 50 = some me) : zyCon l zymc zyJc en me ([299, pl], zyfw, [zyc 0 3800, id, 606210], 7, [(606210, zyc 0 3000)], []) := by
  have een : zG zxMeta 50 = some (zxi50, 2, 3, 4, 50, 0, 0, 0, 0) := rfl
  rw [een] at hen
  cases hen
  obtain ⟨q1, h⟩ := zand_iff h
  obtain ⟨q2, h⟩ := zand_iff h
  obtain ⟨q3, h⟩ := zand_iff h
  obtain ⟨q4, q5⟩ := zand_iff h
  refine zyloopk (C := zycC) (nS := 32) (tail := 0) een hme rfl rfl zycC_ok rfl (by decide) _ _ q1 q2 q3 q4 q5 (fun E s => zyCfr E o s) (fun E => min (zyN1 (zyI E (2 + o) 3)) 31) (by decide) (fun E => by omega) ?_ ?_ ?_
  · intro X w F s c u nu _ hE hF hs hb hu
    obtain ⟨e0, hb⟩ := zyu0_iff hb hu
    subst e0
    obtain ⟨h1, lo, hi, b1, b2, hc⟩ := zybx1_iff (by decide) (by omega) hE hF hb
    refine ⟨?_, h1⟩
    rw [show Nat.add 13 o = 13 + o from rfl] at hc
    unfold zyCfr
    rcases hc with ⟨e1, e2⟩ | ⟨e1, e2⟩
    · rw [if_pos (zyB0.mp e1), e2]
    · rw [if_neg (fun q => e1 (zyB0.mpr q)), zynm_eq (by omega)]
      exact (zbeqT e2).symm
  · intro X w F s c u nu _ hE hF hs hb hu
    obtain ⟨e0, hb⟩ := zyu0_iff hb hu
    obtain ⟨e1, e2⟩ := zyex0_iff (by decide) hE hF hb
    exact ⟨by omega, e2⟩
  · intro E x y z hz
    refine zyRc_mk (k := 2) (by decide) hid ?_
    show zB z = zB x + zySum (zyCfr E o) _
    exact hz
theorem zyplace (h : zyrpl o pl = true) (hid : (id = 103 ∧ o = 0) ∨ (id = 203 ∧ o = 17)) (hen : zG zxMeta 51 = some en) (hme : zG zMeth 51 = some me) : zyCon l zymc zyJc en me ([299, pl], zyfw, [zyc 0 4300, id, 606210], 7, [(606210, zyc 0 4000)], []) := by
  have een : zG zxMeta 51 = some (zxi51, 2, 3, 4, 51, 0, 0, 0, 0) := rfl
  rw [een] at hen
  cases hen
  obtain ⟨q1, h⟩ := zand_iff h
  obtain ⟨q2, h⟩ := zand_iff h
  obtain ⟨q3, h⟩ := zand_iff h
  obtain ⟨q4, q5⟩ := zand_iff h
  refine zyloopk (C := zycC) (nS := 9) (tail := 0) een hme rfl rfl zycC_ok rfl (by decide) _ _ q1 q2 q3 q4 q5 (fun E s => zyCpl E o s) (fun E => min (zyN1 (zyI E (1 + o) 5)) 8) (by decide) (fun E => by omega) ?_ ?_ ?_
  · intro X w F s c u nu _ hE hF hs hb hu
    obtain ⟨h1, h2⟩ := zand_iff hb
    refine ⟨?_, zygo1_iff (by decide) hE hF h1⟩
    show zyCpl (zyE X) o s = c + nu
    unfold zyCpl
    rcases zif_iff h2 with ⟨u1, h3⟩ | ⟨u1, h3⟩
    · have u1 := zbeqT u1
      have e0 : nu = 0 := by
        rcases hu with ⟨-, e⟩ | ⟨y3, e, -⟩
        · exact e
        · rw [u1] at e
          exact absurd (zyv_ik e) (by decide)
      subst e0
      obtain ⟨x, lo, hi, e, b1, b2, hk⟩ := zyfk_iff hE (by omega) hF h3
      have e2 : zyI (zyE X) (15 + o) s = x := by unfold zyI; rw [show 15 + o = Nat.add 15 o from rfl, e]
      rw [e2]
      rcases zif_iff hk with ⟨k1, k2⟩ | ⟨-, k2⟩
      · obtain ⟨q1, q2⟩ := zand_iff k1
        have q1 := zbeqT q1
        have q2 := zbeqT q2
        rw [if_pos (zyBm.mp (by omega))]
        exact (zbeqT k2).symm
      · rcases zif_iff k2 with ⟨k3, k4⟩ | ⟨-, k4⟩
        · have k3 := zbleT k3
          rw [if_neg (fun q => by have := zyBm.mpr q; omega)]
          rcases zif_iff k4 with ⟨k5, k6⟩ | ⟨-, k6⟩
          · have k5 := zbleT k5
            have k6 := zbeqT k6
            rw [zyNm_lo (by omega), k6]
          · rcases zif_iff k6 with ⟨k7, k8⟩ | ⟨-, k8⟩
            · have k7 := zbleT k7
              have k8 := zbeqT k8
              rw [zyNm_hi (by omega), k8]
            · cases k8
        · cases k4
    · have u1 := zbeqF u1
      obtain ⟨h4, h5⟩ := zand_iff h3
      have h4 := zbeqT h4
      rcases hu with ⟨e, -⟩ | ⟨y, hy, en⟩
      · exact absurd e u1
      · obtain ⟨e1, e2⟩ := zyfkc_iff hE (by omega) hy hF h5
        have e3 : zyI (zyE X) (15 + o) s = y := by unfold zyI; rw [show 15 + o = Nat.add 15 o from rfl, e1]
        rw [e3, if_neg (fun q => by have := zyBm.mpr q; omega), h4, en]
  · intro X w F s c u nu _ hE hF hs hb hu
    obtain ⟨e0, hb⟩ := zyu0_iff hb hu
    obtain ⟨e1, e2⟩ := zyex0_iff (by decide) hE hF hb
    exact ⟨by omega, e2⟩
  · intro E x y z hz
    refine zyRc_mk (k := 3) (by decide) hid ?_
    show zB z = zB x + zySum (zyCpl E o) _
    exact hz
theorem zywish (h : zyrwo o pl = true) (hid : (id = 104 ∧ o = 0) ∨ (id = 204 ∧ o = 17)) (hen : zG zxMeta 52 = some en) (hme : zG zMeth 52 = some me) : zyCon l zymc zyJc en me ([299, pl], zyfw, [zyc 0 6600, id, 606210], 7, [(606210, zyc 0 5000)], []) := by
  have een : zG zxMeta 52 = some (zxi52, 2, 3, 4, 52, 0, 0, 0, 0) := rfl
  rw [een] at hen
  cases hen
  obtain ⟨q1, h⟩ := zand_iff h
  obtain ⟨q2, h⟩ := zand_iff h
  obtain ⟨q3, h⟩ := zand_iff h
  obtain ⟨q4, q5⟩ := zand_iff h
  refine zyloopk (C := zycC) (nS := 61) (tail := 1) een hme rfl rfl zycC_ok rfl (by decide) _ _ q1 q2 q3 q4 q5 (fun E s => zyCwo E o s) (fun E => min (zyN1 (zyI E (16 + o) 1)) 60) (by decide) (fun E => by omega) ?_ ?_ ?_
  · intro X w F s c u nu _ hE hF hs hb hu
    obtain ⟨e0, hb⟩ := zyu0_iff hb hu
    subst e0
    obtain ⟨h1, h2⟩ := zand_iff hb
    refine ⟨?_, zygo1_iff (by decide) hE hF h2⟩
    obtain ⟨x, lo, hi, e, b1, b2, hk⟩ := zyfk_iff hE (by omega) hF h1
    have e2 : zyI (zyE X) (17 + o) s = x := by unfold zyI; rw [show 17 + o = Nat.add 17 o from rfl, e]
    unfold zyCwo
    rw [e2]
    have b := zB_int x
    have e0 : (0 : Int32).toInt = 0 := by decide
    rcases zif_iff hk with ⟨k1, k2⟩ | ⟨-, k2⟩
    · have k1 := zbleT k1
      rw [if_neg (by rw [Int32.lt_iff_toInt_lt]; omega)]
      exact (zbeqT k2).symm
    · rcases zif_iff k2 with ⟨k3, k4⟩ | ⟨-, k4⟩
      · have k3 := zbleT k3
        rw [if_pos (by rw [Int32.lt_iff_toInt_lt]; omega)]
        exact (zbeqT k4).symm
      · cases k4
  · intro X w F s c u nu _ hE hF hs hb hu
    obtain ⟨e0, hb⟩ := zyu0_iff hb hu
    obtain ⟨e1, e2⟩ := zyex0_iff (by decide) hE hF hb
    exact ⟨by omega, e2⟩
  · intro E x y z hz
    refine zyRc_mk (k := 4) (by decide) hid ?_
    show zB z = zB x + (5 + zySum (zyCwo E o) _)
    have hz : zB z = zB x + 4 + zySum (fun s => zyCwo E o s) (min (zyN1 (zyI E (16 + o) 1)) 60) + 1 := hz
    rw [hz]
    show _ = zB x + (5 + zySum (fun s => zyCwo E o s) (min (zyN1 (zyI E (16 + o) 1)) 60))
    omega
end ZYP
