/-! THE REFERENCE: rounded -/
theorem zystr_iff {r c : Nat} {κ : zyKt} {w : zW} {cf : Nat → zT} {y : zY} {pc : Nat} {ls st : List Nat} {q : zQ} {m : zyM} (h : zystr r c κ w cf y pc ls st q [] m = true) : st = [] ∧ pc = 5 ∧ zyincl (zyP2 r c (zyCr r c)) 5 w ls m.1 (zyκrl r c) = true ∧ zyag ls 1 = zysym 1 ∧ zyag ls 2 = zysym 2 ∧ ((κ.1 = 0 ∧ zyag ls 3 = zysym 1 ∧ zyag ls 4 = 0) ∨ (¬ κ.1 = 0 ∧ zyag ls 4 = Nat.add (zysym 4) (Nat.mul 8 1) ∧ zqop 1006 0 0 (fun p => zand (zyk1b p) (zqlt w m.2 (zysym 4) p true false)) m.2 = true ∧ zqop 1 (zysym 2) (zysym 4) (fun t => zand (zyk1b t) (zqop 1005 (zysym 3) t (fun v => zand (zyk1b v) (Nat.beq v (zyag ls 3))) m.2)) m.2 = true)) := by
  cases st with
  | cons a t => cases h
  | nil =>
    obtain ⟨h1, h⟩ := zand_iff (show zand (Nat.beq pc 5) _ = true from h)
    obtain ⟨h2, h⟩ := zand_iff h
    obtain ⟨h3, h⟩ := zand_iff h
    obtain ⟨h3, h3b⟩ := zand_iff h3
    refine ⟨rfl, zbeqT h1, h2, zbeqT h3, zbeqT h3b, ?_⟩
    rcases zif_iff h with ⟨h4, h5⟩ | ⟨h4, h5⟩
    · obtain ⟨h6, h7⟩ := zand_iff h5
      exact Or.inl ⟨zbeqT h4, zbeqT h6, zbeqT h7⟩
    · obtain ⟨h6, h7⟩ := zand_iff h5
      obtain ⟨h7, h8⟩ := zand_iff h7
      exact Or.inr ⟨zbeqF h4, zbeqT h6, h7, h8⟩
theorem zyCr_ok {l : Launch} {J : zyJt} (hJ : zyJr J) {r c : Nat} (h1 : 1 ≤ r) (h2 : r ≤ 4) (h3 : 1 ≤ c) (h4 : c ≤ 5) : ∀ y2 ct en2 me2, ct ∈ zyCr r c y2 → zG zxMeta y2 = some en2 → zG zMeth y2 = some me2 → zyCon l (zymr r c) J en2 me2 ct := by
  intro y2 ct en2 me2 hct hen hme
  unfold zyCr at hct
  by_cases e0 : y2 = 215
  · subst e0
    have hct : ct ∈ [([595], [], [zyc 1 12, 6], 12, [], [])] := hct
    rw [List.mem_singleton.mp hct]
    exact zyperiod hJ h1 h2 h3 h4 hen hme
  rw [zybeq_ne e0, zif_f] at hct
  by_cases e1 : y2 = 212
  · subst e1
    have hct : ct ∈ [([595, zyS r c, 34359738362], [], [zyS r c, 5], 7, [], [])] := hct
    rw [List.mem_singleton.mp hct]
    exact zymapped hJ h1 h2 h3 h4 hen hme
  rw [zybeq_ne e1, zif_f] at hct
  cases hct
theorem zyltB {x y : Int32} : x < y ↔ zB x < zB y := by
  rw [Int32.lt_iff_toInt_lt]
  have e1 := zB_int x
  have e2 := zB_int y
  omega
theorem zyrounded {l : Launch} {J : zyJt} (hJ : zyJr J) {r c : Nat} (h1 : 1 ≤ r) (h2 : r ≤ 4) (h3 : 1 ≤ c) (h4 : c ≤ 5) {en : zEn} {me : zMe} (hen : zG zxMeta 216 = some en) (hme : zG zMeth 216 = some me) : zyCon l (zymr r c) J en me ([595, zyS r c, 34359738362], [], [zyS r c, 7], 13, [], []) := by
  have een : zG zxMeta 216 = some (zxi216, 3, 5, 11, 216, 0, 0, 1, 0) := rfl
  obtain ⟨me1, hme1, hOK⟩ := zall hen
  rw [hme] at hme1
  cases hme1
  rw [een] at hen
  cases hen
  have hrc := zyrc20 h2 h4
  have hNS := zgNS_le h2 h4
  obtain ⟨hw, hr⟩ := zand_iff (zyAllP_iff zyrunr_all h1 h2 h3 h4)
  obtain ⟨q1, hr⟩ := zand_iff hr
  obtain ⟨q2, q3⟩ := zand_iff hr
  have hK : ∀ κ, κ ∈ [zyκre r c, zyκrl r c] → κ = zyκre r c ∨ κ = zyκrl r c := fun κ hκ => by simpa using hκ
  refine zycutC (P := zyP2 r c (zyCr r c)) (J := J) (K := [zyκre r c, zyκrl r c]) (κ0 := zyκre r c) (n := 200000) (bt := zybtr) (stp := zystr r c) hOK (zyCr_ok hJ h1 h2 h3 h4) hJ.1 rfl rfl List.mem_cons_self rfl ?_ (fun _ _ _ _ _ _ _ _ _ _ _ => rfl) ?_ q3 (fun _ _ h => h)
    (fun B AsV κ s ρ H => ∃ x y : Int32, AsV[1]? = some (.int x) ∧ AsV[2]? = some (.int y) ∧ ρ 1 = x ∧ ρ 2 = y ∧ x = Int32.ofNat (zyN1 x) ∧ zyN1 x < zgNS r c ∧ (κ = zyκre r c ∨ (κ = zyκrl r c ∧ ∃ k : Nat, ρ 4 = Int32.ofNat k ∧ k ≤ zgP (zyres (zyEl (zymr r c) B s.heap)) ∧ ρ 3 = Int32.ofNat (zgRk (zyres (zyEl (zymr r c) B s.heap)) y (zyN1 x) k)))) (fun _ _ κ _ ρ _ => if κ.1 = 0 then 5000000000 else 4294967295 - zB (ρ 4)) ?_ ?_ ?_
  · intro κ hκ
    rcases hK κ hκ with e | e
    · rw [e]; exact (zand_iff hw).1
    · rw [e]; exact (zand_iff hw).2
  · intro κ hκ
    rcases hK κ hκ with e | e
    · rw [e]; exact q1
    · rw [e]; exact q2
  · intro B AsV hA s lsA hKn hI hPk hlv
    obtain ⟨v0, t0, rfl, a1, hA1⟩ := zySt_c hA
    obtain ⟨v1, t1, rfl, a2, hA2⟩ := zySt_c hA1
    obtain ⟨v2, t2, rfl, a3, hA3⟩ := zySt_c hA2
    have e0 : v0 = .ref (zad B 74) := zyv_3 (v := 595) a1 (by decide)
    subst e0
    obtain ⟨x, rfl⟩ := zyv_int a2 (by rw [zyS_def]; omega)
    obtain ⟨y, rfl⟩ := zyv_int a3 (by decide)
    obtain ⟨ex, hx⟩ := zyS_iff hrc a2
    exact ⟨x, y, rfl, rfl, zyrho_l (show 1 < 5 by decide) (zyarg1 hlv), zyrho_l (show 2 < 5 by decide) (zyarg2 hlv), ex, hx, Or.inl rfl⟩
  · intro B AsV hA κ hκ s ρ H hPk hI hInv ρ2 N2 w pc ls st q m H2 locs2 lsB stA hs hag hR
    obtain ⟨x, y, hx, hy, r1, r2, ex, hxs, hInv⟩ := hInv
    obtain ⟨est, hpc, hin, l1, l2, hcase⟩ := zystr_iff hs
    obtain ⟨p12a, p12b, -⟩ := zgP_12 h2 h4 hI
    obtain ⟨rr, cc⟩ := zyrc (show r < 2147483648 by omega) (show c < 2147483648 by omega) hI
    have hκ1 : κ.2.1 = 5 := by
      rcases hK κ hκ with e | e <;> rw [e] <;> rfl
    have hN : 5 ≤ N2 := by
      have := hR.1.2.2.1.1
      rw [← hκ1]
      exact this
    have hLs := hR.2.2.2.1
    have hsv : ∀ i, i < 5 → zyV (B, ρ2, N2, ρ, κ.2.1, (zyEl (zymr r c) B s.heap, fun q => s.heap[q]?), J) (zysym i) (.int (ρ i)) := by
      intro i hi
      rw [← hag i (by omega)]
      exact zysym_v (X := (B, ρ2, N2, ρ, κ.2.1, (zyEl (zymr r c) B s.heap, fun q => s.heap[q]?), J)) (show i < N2 by omega)
    have hr1 : zyrho (zyP2 r c (zyCr r c)).1 B H2 ((zxi216, 3, 5, 11, 216, 0, 0, 1, 0) : zEn).2.2.1 lsB (zyκrl r c).2.2.2.2.1 1 = x := zyrho_ag hLs (by decide) (by rw [l1]; exact zysym_k 1) (by rw [l1, ← r1]; exact hsv 1 (by decide))
    have hr2 : zyrho (zyP2 r c (zyCr r c)).1 B H2 ((zxi216, 3, 5, 11, 216, 0, 0, 1, 0) : zEn).2.2.1 lsB (zyκrl r c).2.2.2.2.1 2 = y := zyrho_ag hLs (by decide) (by rw [l2]; exact zysym_k 2) (by rw [l2, ← r2]; exact hsv 2 (by decide))
    rcases hcase with ⟨hk0, l3, l4⟩ | ⟨hk0, l4, hlt, hq⟩
    · have e3 : zyrho (zyP2 r c (zyCr r c)).1 B H2 ((zxi216, 3, 5, 11, 216, 0, 0, 1, 0) : zEn).2.2.1 lsB (zyκrl r c).2.2.2.2.1 3 = x := zyrho_ag hLs (by decide) (by rw [l3]; exact zysym_k 1) (by rw [l3, ← r1]; exact hsv 1 (by decide))
      have e4 : zyrho (zyP2 r c (zyCr r c)).1 B H2 ((zxi216, 3, 5, 11, 216, 0, 0, 1, 0) : zEn).2.2.1 lsB (zyκrl r c).2.2.2.2.1 4 = 0 := zyrho_ag hLs (by decide) (by rw [l4]; decide) (by rw [l4]; exact zyv_zero)
      refine ⟨zyκrl r c, by simp, est, hpc, ⟨w, rfl, hR.1.1, hin⟩, ⟨x, y, hx, hy, hr1, hr2, ex, hxs, Or.inr ⟨rfl, 0, e4, Nat.zero_le _, ?_⟩⟩, ?_⟩
      · rw [e3]; exact ex
      · rw [if_pos hk0, if_neg (show ¬ (zyκrl r c).1 = 0 from fun q => by cases q)]
        omega
    · rcases hInv with e | ⟨eκ, k, hk4, hkP, hk3⟩
      · rw [e] at hk0; exact absurd rfl hk0
      obtain ⟨p, x6, y6, z6, -, -, a3, hrel6, h6⟩ := zqfn_iff (id := 6) hR.1.2.2.2 hlt
      obtain ⟨kp, h6⟩ := zand_iff h6
      have hrel6 : zyRr 6 (zyEl (zymr r c) B s.heap) x6 y6 z6 := by rw [← hJ.2]; exact hrel6
      have hz6 := zyRr0_6 (zyRr_get (by decide) hrel6)
      have hltB : ρ 4 < z6 := by
        rcases zqlt_iff hR.1.1 hR.1.2.2.2 (zysym_k 4) (zbleT kp) (hsv 4 (by decide)) a3 h6 with ⟨q1, -⟩ | ⟨-, q1⟩
        · exact q1
        · cases q1
      rw [zyltB, hk4, hz6, zB_of4 (by omega), zB_of4 (by omega)] at hltB
      obtain ⟨tv, xt, yt, t1, t2, t3, hq⟩ := zqop_iff hR.1.2.2.2 (by decide) hq
      obtain ⟨kt, hq⟩ := zand_iff hq
      obtain ⟨mv, x5, y5, z5, c1, c2, c3, hrel5, hq⟩ := zqfn_iff (id := 5) hR.1.2.2.2 hq
      obtain ⟨km, hq⟩ := zand_iff hq
      have hq := zbeqT hq
      have hrel5 : zyRr 5 (zyEl (zymr r c) B s.heap) x5 y5 z5 := by rw [← hJ.2]; exact hrel5
      have hz5 := zyRr0_5 (zyRr_get (by decide) hrel5)
      have g1 := zyv_one (zysym_k 2) (hsv 2 (by decide)) t1
      have g2 := zyv_one (zysym_k 4) (hsv 4 (by decide)) t2
      have g3 := zyv_one (zysym_k 3) (hsv 3 (by decide)) c1
      have g4 := zyv_one (zbleT kt) t3 c2
      have g4 : xt + yt = y5 := g4
      have hRk := zgRk_lt (t := y) h1 h2 h3 h4 (zgr_res.1.trans rr) (zgr_res.2.trans cc) hxs k
      rw [← g3, ← g4, ← g1, ← g2, hk3, r2, hk4, zyN1_of (by omega)] at hz5
      have e3 : zyrho (zyP2 r c (zyCr r c)).1 B H2 ((zxi216, 3, 5, 11, 216, 0, 0, 1, 0) : zEn).2.2.1 lsB (zyκrl r c).2.2.2.2.1 3 = z5 := zyrho_ag hLs (by decide) (by rw [← hq]; exact zbleT km) (by rw [← hq]; exact c3)
      have e4 : zyrho (zyP2 r c (zyCr r c)).1 B H2 ((zxi216, 3, 5, 11, 216, 0, 0, 1, 0) : zEn).2.2.1 lsB (zyκrl r c).2.2.2.2.1 4 = Int32.ofNat (k + 1) := by
        refine zyrho_ag hLs (by decide) (by rw [l4]; exact zysym_pk) ?_
        have hp := zysym_p (X := (B, ρ2, N2, ρ, κ.2.1, (zyEl (zymr r c) B s.heap, fun q => s.heap[q]?), J)) (i := 4) (c := 1) (show 4 < N2 by omega) (by decide)
        have e9 : zyρ (B, ρ2, N2, ρ, κ.2.1, (zyEl (zymr r c) B s.heap, fun q => s.heap[q]?), J) 4 + Int32.ofNat 1 = Int32.ofNat (k + 1) := by
          show ρ2 4 + Int32.ofNat 1 = _
          rw [hag 4 (by omega), hk4, ← zyofA]
        rw [e9] at hp
        rw [l4]
        exact hp
      refine ⟨zyκrl r c, by simp, est, hpc, ⟨w, rfl, hR.1.1, hin⟩, ⟨x, y, hx, hy, hr1, hr2, ex, hxs, Or.inr ⟨rfl, k + 1, e4, by omega, ?_⟩⟩, ?_⟩
      · rw [e3]
        exact hz5
      · rw [if_neg hk0, if_neg (show ¬ (zyκrl r c).1 = 0 from fun q => by cases q), e4, hk4, zB_of4 (by omega), zB_of4 (by omega)]
        omega
  · intro B AsV hA κ hκ s ρ H hPk hI hInv ρ2 w v m t vo hbt hag hE hF hM hvo
    obtain ⟨x, y, hx, hy, r1, r2, ex, hxs, hInv⟩ := hInv
    obtain ⟨p12a, p12b, -⟩ := zgP_12 h2 h4 hI
    obtain ⟨rr, cc⟩ := zyrc (show r < 2147483648 by omega) (show c < 2147483648 by omega) hI
    obtain ⟨c1, hbt⟩ := zand_iff hbt
    obtain ⟨c2, c3⟩ := zand_iff hbt
    have c1 := zbeqT c1
    have ev := zylb_iff c2
    subst ev
    rcases hInv with e | ⟨eκ, k, hk4, hkP, hk3⟩
    · rw [e] at c1; cases c1
    have hκ1 : κ.2.1 = 5 := by rw [eκ]; rfl
    have hN : 5 ≤ w.1 := by have := hag.1; omega
    have hsv : ∀ i, i < 5 → zyV (B, ρ2, w.1, ρ, κ.2.1, (zyEl (zymr r c) B s.heap, fun q => s.heap[q]?), J) (zysym i) (.int (ρ i)) := by
      intro i hi
      rw [← hag.2 i (by omega)]
      exact zysym_v (X := (B, ρ2, w.1, ρ, κ.2.1, (zyEl (zymr r c) B s.heap, fun q => s.heap[q]?), J)) (show i < w.1 by omega)
    obtain ⟨p, x6, y6, z6, -, -, a3, hrel6, h6⟩ := zqfn_iff (id := 6) hF c3
    obtain ⟨kp, h6⟩ := zand_iff h6
    have hrel6 : zyRr 6 (zyEl (zymr r c) B s.heap) x6 y6 z6 := by rw [← hJ.2]; exact hrel6
    have hz6 := zyRr0_6 (zyRr_get (by decide) hrel6)
    have hge : ¬ ρ 4 < z6 := by
      rcases zqlt_iff hE hF (zysym_k 4) (zbleT kp) (hsv 4 (by decide)) a3 h6 with ⟨-, q1⟩ | ⟨q1, -⟩
      · cases q1
      · exact q1
    rw [zyltB, hk4, hz6, zB_of4 (by omega), zB_of4 (by omega)] at hge
    have hkk : k = zgP (zyres (zyEl (zymr r c) B s.heap)) := by omega
    cases vo with
    | none => exact hvo.elim
    | some z =>
      have hvo : zyV (B, ρ2, w.1, ρ, κ.2.1, (zyEl (zymr r c) B s.heap, fun q => s.heap[q]?), J) (zysym 3) z := hvo
      obtain ⟨z2, rfl⟩ := zyv_int hvo (by have := zysym_k 3; omega)
      have ez := zyv_one (zysym_k 3) (hsv 3 (by decide)) hvo
      have eA1 : zyAi AsV.toArray 1 = x := by
        unfold zyAi
        rw [show AsV.toArray.toList = AsV by simp, hx]
      have eA2 : zyAi AsV.toArray 2 = y := by
        unfold zyAi
        rw [show AsV.toArray.toList = AsV by simp, hy]
      have hRk := zgRk_lt (t := y) h1 h2 h3 h4 (zgr_res.1.trans rr) (zgr_res.2.trans cc) hxs k
      refine ⟨z2, rfl, ?_, ?_⟩
      · rw [← ez, hk3]
        exact zyS_mk hrc hRk _ _ _
      · rw [hJ.2, eA1, eA2]
        refine Or.inl ⟨by decide, Or.inr (Or.inr (Or.inr (Or.inr (Or.inr (Or.inr (Or.inr (Or.inl ⟨rfl, ?_⟩)))))))⟩
        show z2 = Int32.ofNat (zgRk (zyres (zyEl (zymr r c) B s.heap)) y (zyN1 x) (zgP (zyres (zyEl (zymr r c) B s.heap))))
        rw [← ez, hk3, hkk]
