/-! THE REFERENCE: the period -/
noncomputable def zyκpe : zyKt := (0, 3, [595, 13, 13], [(0, 4294967295), (0, 4294967295), (0, 4294967295)], [], [])
noncomputable def zyκp (n : Nat) : zyKt := (4, 3, [595, Nat.mul 8 n, zysym 2], [(0, 4294967295), (0, 4294967295), (2147483648, 2147483679)], [], [])
noncomputable def zym6 (n : Nat) : Bool := zif (Nat.beq n 1) true (zif (Nat.beq n 2) true (zif (Nat.beq n 3) true (zif (Nat.beq n 4) true (zif (Nat.beq n 6) true (Nat.beq n 12)))))
theorem zym6_iff {n : Nat} (h : zym6 n = true) : n = 1 ∨ n = 2 ∨ n = 3 ∨ n = 4 ∨ n = 6 ∨ n = 12 := by
  unfold zym6 at h
  rcases zif_iff h with ⟨q, -⟩ | ⟨-, h⟩
  · exact Or.inl (zbeqT q)
  rcases zif_iff h with ⟨q, -⟩ | ⟨-, h⟩
  · exact Or.inr (Or.inl (zbeqT q))
  rcases zif_iff h with ⟨q, -⟩ | ⟨-, h⟩
  · exact Or.inr (Or.inr (Or.inl (zbeqT q)))
  rcases zif_iff h with ⟨q, -⟩ | ⟨-, h⟩
  · exact Or.inr (Or.inr (Or.inr (Or.inl (zbeqT q))))
  rcases zif_iff h with ⟨q, -⟩ | ⟨-, h⟩
  · exact Or.inr (Or.inr (Or.inr (Or.inr (Or.inl (zbeqT q)))))
  · exact Or.inr (Or.inr (Or.inr (Or.inr (Or.inr (zbeqT h)))))
noncomputable def zyPp (r c : Nat) : zyP := (zymr r c, fun _ => [], [], zydr, 3)
noncomputable def zynof (κ : zyKt) : Nat := Nat.div (zyag κ.2.2.1 1) 8
noncomputable def zypL (P : zyP) (n : Nat) (w : zW) (ls : List Nat) (m : zyM) (L : Nat) : Bool := zand (zyk1b L) (zbd w L (fun lo hi => zand (zand (Nat.beq lo hi) (Nat.ble 2147483649 lo)) (zfr false (Nat.lcm n (Nat.sub lo 2147483648)) (fun q => zand (zym6 q) (zyincl P 3 w ls m.1 (zyκp q))))))
noncomputable def zystp (P : zyP) (ng : Nat) (κ : zyKt) : zyK := fun w _ _ pc ls st _ fs m => List.rec (motive := fun _ => Bool) (List.rec (motive := fun _ => Bool) (zand (Nat.beq pc 4) (zif (Nat.beq κ.1 0) (zand (zyincl P 3 w ls m.1 (zyκp 1)) (Nat.beq (zyag ls 2) 0))
  (zand (Nat.beq (zyag ls 2) (Nat.add (zysym 2) (Nat.mul 8 1))) (zand (zbd w (zysym 2) (fun _ hi => Nat.ble (Nat.succ hi) (Nat.add 2147483648 ng))) (zif (zqE 75 (Nat.add (zysym 2) (Nat.mul 8 40)) (zypL P (zynof κ) w ls m) m.2) true (zbd w (zysym 2) (fun lo hi => zand (Nat.beq lo hi) (zqE 75 (Nat.mul 8 (Nat.sub (Nat.add 40 lo) 2147483648)) (zypL P (zynof κ) w ls m) m.2)))))))) (fun _ _ _ => false) st) (fun _ _ _ => false) fs
noncomputable def zybtp (ng : Nat) (κ : zyKt) : zW → List Nat → zyM → Bool := fun w v m => zand (Nat.beq κ.1 4) (zand (zylb v [Nat.mul 8 (zynof κ)]) (zbd w (zysym 2) (fun lo _ => Nat.ble (Nat.add 2147483648 ng) lo)))
noncomputable def zyrunp (r c : Nat) (κ : zyKt) : Bool := zyok (fun w v m => zand (zyfitM w (zymr r c) m.1) (zand (zypre w (zymr r c) m.1 []) (zybtp (zgNG r c) κ w v m))) (zyPp r c) (zystp (zyPp r c) (zgNG r c) κ) 200000 (3, κ.2.2.2.1) zxi215 (215, 0, 0, 1, 0) κ.1 κ.2.2.1 [] (12, 0, 0) [] ([], [])
theorem zyrunp_all : zyAllP (fun r c => zand (zyrunp r c zyκpe) (zand (zyAll (fun i => zif (zym6 i) (zyrunp r c (zyκp i)) true) 13) (zpad 3 (zexp [595]) (fun l2 => zyincl (zyPp r c) 3 (0, []) l2 [] zyκpe)))) = true := by decide +kernel
theorem zywfp : zand (zywf 3 zyκpe) (zyAll (fun i => zywf 3 (zyκp i)) 13) = true := by decide +kernel
theorem zynof_p {n : Nat} : zynof (zyκp n) = n := by
  show 8 * n / 8 = n
  omega
theorem zystp_iff {P : zyP} {ng : Nat} {κ : zyKt} {w : zW} {cf : Nat → zT} {y : zY} {pc : Nat} {ls st : List Nat} {q : zQ} {m : zyM} (h : zystp P ng κ w cf y pc ls st q [] m = true) : st = [] ∧ pc = 4 ∧ ((κ.1 = 0 ∧ zyincl P 3 w ls m.1 (zyκp 1) = true ∧ zyag ls 2 = 0) ∨ (¬ κ.1 = 0 ∧ zyag ls 2 = Nat.add (zysym 2) (Nat.mul 8 1) ∧ zbd w (zysym 2) (fun _ hi => Nat.ble (Nat.succ hi) (Nat.add 2147483648 ng)) = true ∧ (zqE 75 (Nat.add (zysym 2) (Nat.mul 8 40)) (zypL P (zynof κ) w ls m) m.2 = true ∨ zbd w (zysym 2) (fun lo hi => zand (Nat.beq lo hi) (zqE 75 (Nat.mul 8 (Nat.sub (Nat.add 40 lo) 2147483648)) (zypL P (zynof κ) w ls m) m.2)) = true))) := by
  cases st with
  | cons a t => cases h
  | nil =>
    obtain ⟨h1, h⟩ := zand_iff (show zand (Nat.beq pc 4) _ = true from h)
    refine ⟨rfl, zbeqT h1, ?_⟩
    rcases zif_iff h with ⟨h4, h5⟩ | ⟨h4, h5⟩
    · obtain ⟨h6, h7⟩ := zand_iff h5
      exact Or.inl ⟨zbeqT h4, h6, zbeqT h7⟩
    · obtain ⟨h6, h7⟩ := zand_iff h5
      obtain ⟨h7, h8⟩ := zand_iff h7
      refine Or.inr ⟨zbeqF h4, zbeqT h6, h7, ?_⟩
      rcases zif_iff h8 with ⟨h9, -⟩ | ⟨-, h9⟩
      · exact Or.inl h9
      · exact Or.inr h9
theorem zyperiod {l : Launch} {J : zyJt} (hJ : zyJr J) {r c : Nat} (h1 : 1 ≤ r) (h2 : r ≤ 4) (h3 : 1 ≤ c) (h4 : c ≤ 5) {en : zEn} {me : zMe} (hen : zG zxMeta 215 = some en) (hme : zG zMeth 215 = some me) : zyCon l (zymr r c) J en me ([595], [], [zyc 1 12, 6], 12, [], []) := by
  have een : zG zxMeta 215 = some (zxi215, 1, 3, 11, 215, 0, 0, 1, 0) := rfl
  obtain ⟨me1, hme1, hOK⟩ := zall hen
  rw [hme] at hme1
  cases hme1
  rw [een] at hen
  cases hen
  have hNG := zgNG_le h2 h4
  obtain ⟨q1, hr⟩ := zand_iff (zyAllP_iff zyrunp_all h1 h2 h3 h4)
  obtain ⟨q2, q3⟩ := zand_iff hr
  have hK : ∀ κ, κ ∈ [zyκpe, zyκp 1, zyκp 2, zyκp 3, zyκp 4, zyκp 6, zyκp 12] → κ = zyκpe ∨ ∃ n, zym6 n = true ∧ n < 13 ∧ κ = zyκp n := by
    intro κ hκ
    simp only [List.mem_cons, List.not_mem_nil, or_false] at hκ
    rcases hκ with e | e | e | e | e | e | e
    · exact Or.inl e
    · exact Or.inr ⟨1, rfl, by decide, e⟩
    · exact Or.inr ⟨2, rfl, by decide, e⟩
    · exact Or.inr ⟨3, rfl, by decide, e⟩
    · exact Or.inr ⟨4, rfl, by decide, e⟩
    · exact Or.inr ⟨6, rfl, by decide, e⟩
    · exact Or.inr ⟨12, rfl, by decide, e⟩
  have hKs : ∀ n, zym6 n = true → zyκp n ∈ [zyκpe, zyκp 1, zyκp 2, zyκp 3, zyκp 4, zyκp 6, zyκp 12] := by
    intro n hn
    rcases zym6_iff hn with rfl | rfl | rfl | rfl | rfl | rfl <;> simp
  refine zycutC (P := zyPp r c) (J := J) (K := [zyκpe, zyκp 1, zyκp 2, zyκp 3, zyκp 4, zyκp 6, zyκp 12]) (κ0 := zyκpe) (n := 200000) (bt := zybtp (zgNG r c)) (stp := zystp (zyPp r c) (zgNG r c)) hOK (zyno rfl) hJ.1 rfl rfl List.mem_cons_self rfl ?_ (fun _ _ _ _ _ _ _ _ _ _ _ => rfl) ?_ q3 (fun _ _ h => h)
    (fun B AsV κ s ρ H => κ = zyκpe ∨ ∃ n, zym6 n = true ∧ n < 13 ∧ κ = zyκp n ∧ 2147483648 ≤ zB (ρ 2) ∧ zB (ρ 2) ≤ 2147483648 + zgNG r c ∧ n = zgPk (zyres (zyEl (zymr r c) B s.heap)) (zyN1 (ρ 2))) (fun _ _ κ _ ρ _ => if κ.1 = 0 then 5000000000 else 4294967295 - zB (ρ 2)) ?_ ?_ ?_
  · intro κ hκ
    rcases hK κ hκ with e | ⟨n, -, hn, e⟩
    · rw [e]; exact (zand_iff zywfp).1
    · rw [e]; exact zyAll_iff (zand_iff zywfp).2 n hn
  · intro κ hκ
    rcases hK κ hκ with e | ⟨n, hm, hn, e⟩
    · rw [e]; exact q1
    · rw [e]
      have this : zif (zym6 n) (zyrunp r c (zyκp n)) true = true := zyAll_iff q2 n hn
      rcases zif_iff this with ⟨-, h⟩ | ⟨h, -⟩
      · exact h
      · rw [hm] at h
        cases h
  · intro B AsV hA s lsA hKn hI hPk hlv
    exact Or.inl rfl
  · intro B AsV hA κ hκ s ρ H hPk hI hInv ρ2 N2 w pc ls st q m H2 locs2 lsB stA hs hag hR
    obtain ⟨est, hpc, hcase⟩ := zystp_iff hs
    have hκ1 : κ.2.1 = 3 := by
      rcases hK κ hκ with e | ⟨n, -, -, e⟩ <;> rw [e] <;> rfl
    have hN : 3 ≤ N2 := by
      have := hR.1.2.2.1.1
      rw [← hκ1]
      exact this
    have hLs := hR.2.2.2.1
    rcases hcase with ⟨hk0, hin, l2⟩ | ⟨hk0, l2, hhi, hq⟩
    · refine ⟨zyκp 1, by simp, est, hpc, ⟨w, rfl, hR.1.1, hin⟩, Or.inr ⟨1, rfl, by decide, rfl, ?_⟩, ?_⟩
      · have e2 : zyrho (zyPp r c).1 B H2 ((zxi215, 1, 3, 11, 215, 0, 0, 1, 0) : zEn).2.2.1 lsB (zyκp 1).2.2.2.2.1 2 = 0 := zyrho_ag hLs (by decide) (by rw [l2]; decide) (by rw [l2]; exact zyv_zero)
        have z0 : zB (0 : Int32) = 2147483648 := by decide
        have n0 : zyN1 (0 : Int32) = 0 := by decide
        rw [e2, z0, n0]
        exact ⟨by omega, by omega, rfl⟩
      · rw [if_pos hk0, if_neg (show ¬ (zyκp 1).1 = 0 from fun q => by cases q)]
        omega
    · rcases hInv with e | ⟨n, hm, hn, eκ, k1, k2, k3⟩
      · rw [e] at hk0; exact absurd rfl hk0
      have hs2 : ρ2 2 = ρ 2 := hag 2 (by omega)
      have hsv : zyV (B, ρ2, N2, ρ, κ.2.1, (zyEl (zymr r c) B s.heap, fun q => s.heap[q]?), J) (zysym 2) (.int (ρ 2)) := by
        rw [← hs2]
        exact zysym_v (X := (B, ρ2, N2, ρ, κ.2.1, (zyEl (zymr r c) B s.heap, fun q => s.heap[q]?), J)) (show 2 < N2 by omega)
      obtain ⟨x9, lo9, hi9, e9, c1, c2, c3⟩ := zybd_iff hhi hR.1.1 hsv
      have e9 := Value.int.inj e9
      subst e9
      have c3 : hi9 + 1 ≤ 2147483648 + zgNG r c := zbleT c3
      have n3 := zyN1_lo k1
      have hL : ∃ L, zyV (B, ρ2, N2, ρ, κ.2.1, (zyEl (zymr r c) B s.heap, fun q => s.heap[q]?), J) L (.int (zyI (zyres (zyEl (zymr r c) B s.heap)) 75 (40 + min (zyN1 (ρ 2)) 31))) ∧ zypL (zyPp r c) (zynof κ) w ls m L = true := by
        have fin : ∀ (L jx : Nat) (x : Int32), zyV (B, ρ2, N2, ρ, κ.2.1, (zyEl (zymr r c) B s.heap, fun q => s.heap[q]?), J) L (.int x) → jx = zyN1 (ρ 2) + 40 → zyEl (zymr r c) B s.heap 75 jx = some (.int x) → zyV (B, ρ2, N2, ρ, κ.2.1, (zyEl (zymr r c) B s.heap, fun q => s.heap[q]?), J) L (.int (zyI (zyres (zyEl (zymr r c) B s.heap)) 75 (40 + min (zyN1 (ρ 2)) 31))) := by
          intro L jx x p1 hj p4
          rw [zyI_res (by omega), show 40 + min (zyN1 (ρ 2)) 31 = jx by omega]
          unfold zyI
          rw [p4]
          exact p1
        rcases hq with hq | hq
        · obtain ⟨L, jx, x, p1, p2, p3, p4, p5⟩ := zqE_iff hR.1.2.2.2 hq
          have hj := zyix (B := zymr r c) (show 2 < zyN (B, ρ2, N2, ρ, κ.2.1, (zyEl (zymr r c) B s.heap, fun q => s.heap[q]?), J) from (show 2 < N2 by omega)) p2 p3 (by show 2147483648 ≤ zB (ρ2 2); rw [hs2]; exact k1) (by show zB (ρ2 2) + 40 < 4294967296; rw [hs2]; omega) (by decide)
          have hj : jx = zyN1 (ρ2 2) + 40 := hj
          rw [hs2] at hj
          exact ⟨L, fin L jx x p1 hj p4, p5⟩
        · obtain ⟨x8, lo8, hi8, e8, d1, d2, hk⟩ := zybd_iff hq hR.1.1 hsv
          have e8 := Value.int.inj e8
          subst e8
          obtain ⟨d3, d4⟩ := zand_iff hk
          have d3 := zbeqT d3
          obtain ⟨L, jx, x, p1, p2, p3, p4, p5⟩ := zqE_iff hR.1.2.2.2 d4
          have p2 : zyV (B, ρ2, N2, ρ, κ.2.1, (zyEl (zymr r c) B s.heap, fun q => s.heap[q]?), J) (8 * (40 + lo8 - 2147483648)) (.int (Int32.ofNat jx)) := p2
          have e1 := Value.int.inj (zyv_0 p2 (by omega))
          rw [show 8 * (40 + lo8 - 2147483648) / 8 = 40 + lo8 - 2147483648 by omega] at e1
          have e3 : (Int32.ofNat jx).toBitVec.toNat = (Int32.ofNat (40 + lo8 - 2147483648)).toBitVec.toNat := by rw [e1]
          rw [zN_of, zN_of] at e3
          exact ⟨L, fin L jx x p1 (by omega) p4, p5⟩
      obtain ⟨L, hLv, hL⟩ := hL
      obtain ⟨kL, hL⟩ := zand_iff hL
      obtain ⟨xL, lo, hi, eL, b1, b2, hL⟩ := zybd_iff hL hR.1.1 hLv
      have eL := Value.int.inj eL
      obtain ⟨g1, hL⟩ := zand_iff hL
      obtain ⟨g1, g2⟩ := zand_iff g1
      have g1 := zbeqT g1
      have g2 := zbleT g2
      rw [zfr_eq] at hL
      obtain ⟨g3, hin⟩ := zand_iff hL
      have en : zynof κ = n := by rw [eκ]; exact zynof_p
      rw [en] at g3 hin
      rw [← eL] at b1 b2
      have hLn : zyN1 (zyI (zyres (zyEl (zymr r c) B s.heap)) 75 (40 + min (zyN1 (ρ 2)) 31)) = lo - 2147483648 := by
        rw [zyN1_lo (by omega)]
        omega
      have z1 : zB (ρ 2 + 1) = zB (ρ 2) + 1 := by
        have := zB_add2 (x := ρ 2) (y := 1) (by rw [show zB (1 : Int32) = 2147483649 by decide]; omega) (by rw [show zB (1 : Int32) = 2147483649 by decide]; omega)
        rw [this, show zB (1 : Int32) = 2147483649 by decide]
        omega
      have n1 : zyN1 (ρ 2 + 1) = zyN1 (ρ 2) + 1 := by
        rw [zyN1_lo (by omega), zyN1_lo k1, z1]
        omega
      have e2 : zyrho (zyPp r c).1 B H2 ((zxi215, 1, 3, 11, 215, 0, 0, 1, 0) : zEn).2.2.1 lsB (zyκp (Nat.lcm n (lo - 2147483648))).2.2.2.2.1 2 = ρ 2 + 1 := zyrho_ag hLs (by decide) (by rw [l2]; exact zysym_pk) (by
        rw [l2, ← hs2]
        exact zysym_p (X := (B, ρ2, N2, ρ, κ.2.1, (zyEl (zymr r c) B s.heap, fun q => s.heap[q]?), J)) (show 2 < N2 by omega) (by decide))
      have h13 : Nat.lcm n (lo - 2147483648) < 13 := by
        rcases zym6_iff g3 with e | e | e | e | e | e <;> rw [show Nat.lcm n (lo - 2147483648) = _ from e] <;> decide
      refine ⟨zyκp (Nat.lcm n (lo - 2147483648)), hKs _ g3, est, hpc, ⟨w, rfl, hR.1.1, hin⟩, Or.inr ⟨_, g3, h13, rfl, ?_, ?_, ?_⟩, ?_⟩
      · rw [e2, z1]; omega
      · rw [e2, z1]; omega
      · rw [e2, n1]
        show Nat.lcm n (lo - 2147483648) = Nat.lcm (zgPk (zyres (zyEl (zymr r c) B s.heap)) (zyN1 (ρ 2))) (zyN1 (zyI (zyres (zyEl (zymr r c) B s.heap)) 75 (40 + min (zyN1 (ρ 2)) 31)))
        rw [← k3, hLn]
      · rw [if_neg hk0, if_neg (show ¬ (zyκp (Nat.lcm n (lo - 2147483648))).1 = 0 from fun q => by cases q), e2, z1]
        omega
  · intro B AsV hA κ hκ s ρ H hPk hI hInv ρ2 w v m t vo hbt hag hE hF hM hvo
    obtain ⟨c1, hbt⟩ := zand_iff hbt
    obtain ⟨c2, c3⟩ := zand_iff hbt
    have c1 := zbeqT c1
    have ev := zylb_iff c2
    subst ev
    rcases hInv with e | ⟨n, hm, hn, eκ, k1, k2, k3⟩
    · rw [e] at c1; cases c1
    have hκ1 : κ.2.1 = 3 := by rw [eκ]; rfl
    have hN : 3 ≤ w.1 := by have := hag.1; omega
    have hs2 : ρ2 2 = ρ 2 := hag.2 2 (by omega)
    have hsv : zyV (B, ρ2, w.1, ρ, κ.2.1, (zyEl (zymr r c) B s.heap, fun q => s.heap[q]?), J) (zysym 2) (.int (ρ 2)) := by
      rw [← hs2]
      exact zysym_v (X := (B, ρ2, w.1, ρ, κ.2.1, (zyEl (zymr r c) B s.heap, fun q => s.heap[q]?), J)) (show 2 < w.1 by omega)
    obtain ⟨x9, lo9, hi9, e9, d1, d2, d3⟩ := zybd_iff c3 hE hsv
    have e9 := Value.int.inj e9
    subst e9
    have d3 : 2147483648 + zgNG r c ≤ lo9 := zbleT d3
    have n3 := zyN1_lo k1
    have en : zynof κ = n := by rw [eκ]; exact zynof_p
    have hkN : zyN1 (ρ 2) = zgNG r c := by omega
    obtain ⟨rr, cc⟩ := zyrc (show r < 2147483648 by omega) (show c < 2147483648 by omega) hI
    cases vo with
    | none => exact hvo.elim
    | some z =>
      rw [en] at hvo
      have hvo : zyV (B, ρ2, w.1, ρ, κ.2.1, (zyEl (zymr r c) B s.heap, fun q => s.heap[q]?), J) (8 * n) z := hvo
      have ez := zyv_0 hvo (by omega)
      rw [show 8 * n / 8 = n by omega] at ez
      subst ez
      refine ⟨Int32.ofNat n, rfl, ?_, ?_⟩
      · show zyv _ _ _ (8 * ((1 + 2147483648) * 4294967296 + (12 + 2147483648)) + 2) _
        have hn1 : 1 ≤ n := by rcases zym6_iff hm with e | e | e | e | e | e <;> omega
        exact zyv_bd (by rw [zB_of4 (by omega)]; omega) (by rw [zB_of4 (by omega)]; omega) (by decide)
      · rw [hJ.2]
        refine Or.inl ⟨by decide, Or.inr (Or.inr (Or.inr (Or.inr (Or.inr (Or.inr (Or.inl ⟨rfl, ?_⟩))))))⟩
        show Int32.ofNat n = Int32.ofNat (zgPk (zyres (zyEl (zymr r c) B s.heap)) (zgNG (zgr (zyres (zyEl (zymr r c) B s.heap))) (zgc (zyres (zyEl (zymr r c) B s.heap)))))
        rw [zgr_res.1, zgr_res.2, rr, cc, k3, hkN]
