/-! THE REFERENCE: leastOf -/
noncomputable def zyκqe (r c : Nat) : zyKt := (0, 4, [595, zysym 1, 13, 13], [(0, 4294967295), (2147483648, Nat.add 2147483647 (zgNS r c)), (0, 4294967295), (0, 4294967295)], [], [])
noncomputable def zyκql (r c : Nat) : zyKt := (9, 4, [595, zysym 1, zysym 2, zysym 3], [(0, 4294967295), (2147483648, Nat.add 2147483647 (zgNS r c)), (2147483648, Nat.add 2147483647 (zgNS r c)), (2147483648, Nat.add 2147483647 (zgNS r c))], [], [])
noncomputable def zystq (r c : Nat) (κ : zyKt) : zyK := fun w _ _ pc ls st _ fs m => List.rec (motive := fun _ => Bool) (List.rec (motive := fun _ => Bool) (zand (Nat.beq pc 9) (zand (zyincl (zyP2 r c (zyCl1 r c)) 4 w ls m.1 (zyκql r c)) (zand (Nat.beq (zyag ls 1) (zysym 1)) (zif (Nat.beq κ.1 0) (zqop 1007 (zysym 1) 0 (fun v => zand (zyk1b v) (Nat.beq v (zyag ls 3))) m.2)
  (zand (zqeq w m.2 (zysym 3) (zysym 1) false true) (zqop 1007 (zysym 3) 0 (fun v => zand (zyk1b v) (Nat.beq v (zyag ls 3))) m.2)))))) (fun _ _ _ => false) st) (fun _ _ _ => false) fs
noncomputable def zybtq (r c : Nat) (κ : zyKt) : zW → List Nat → zyM → Bool := fun w v _ => zand (Nat.beq κ.1 9) (zand (zylb v [zysym 2]) (zysub w (zysym 2) (zyS r c)))
noncomputable def zyrunq (r c : Nat) (κ : zyKt) : Bool := zyok (fun w v m => zand (zyfitM w (zymr r c) m.1) (zand (zypre w (zymr r c) m.1 []) (zybtq r c κ w v m))) (zyP2 r c (zyCl1 r c)) (zystq r c κ) 200000 (4, κ.2.2.2.1) zxi285 (285, 0, 0, 1, 0) κ.1 κ.2.2.1 [] (14, 0, 0) [] ([], [])
theorem zyrunq_all : zyAllP (fun r c => zand (zand (zywf 4 (zyκqe r c)) (zywf 4 (zyκql r c))) (zand (zyrunq r c (zyκqe r c)) (zand (zyrunq r c (zyκql r c)) (zpad 4 (zexp [595, zyS r c]) (fun l2 => zyincl (zyP2 r c (zyCl1 r c)) 4 (0, []) l2 [] (zyκqe r c)))))) = true := by decide +kernel
theorem zystq_iff {r c : Nat} {κ : zyKt} {w : zW} {cf : Nat → zT} {y : zY} {pc : Nat} {ls st : List Nat} {q : zQ} {m : zyM} (h : zystq r c κ w cf y pc ls st q [] m = true) : st = [] ∧ pc = 9 ∧ zyincl (zyP2 r c (zyCl1 r c)) 4 w ls m.1 (zyκql r c) = true ∧ zyag ls 1 = zysym 1 ∧ ((κ.1 = 0 ∧ zqop 1007 (zysym 1) 0 (fun v => zand (zyk1b v) (Nat.beq v (zyag ls 3))) m.2 = true) ∨
    (¬ κ.1 = 0 ∧ zqeq w m.2 (zysym 3) (zysym 1) false true = true ∧ zqop 1007 (zysym 3) 0 (fun v => zand (zyk1b v) (Nat.beq v (zyag ls 3))) m.2 = true)) := by
  cases st with
  | cons a t => cases h
  | nil =>
    obtain ⟨h1, h⟩ := zand_iff (show zand (Nat.beq pc 9) _ = true from h)
    obtain ⟨h2, h⟩ := zand_iff h
    obtain ⟨h3, h⟩ := zand_iff h
    refine ⟨rfl, zbeqT h1, h2, zbeqT h3, ?_⟩
    rcases zif_iff h with ⟨h4, h5⟩ | ⟨h4, h5⟩
    · exact Or.inl ⟨zbeqT h4, h5⟩
    · obtain ⟨h6, h7⟩ := zand_iff h5
      exact Or.inr ⟨zbeqF h4, h6, h7⟩
theorem zyleastOf {l : Launch} {J : zyJt} (hJ : zyJr J) {r c : Nat} (h1 : 1 ≤ r) (h2 : r ≤ 4) (h3 : 1 ≤ c) (h4 : c ≤ 5) {en : zEn} {me : zMe} (hen : zG zxMeta 285 = some en) (hme : zG zMeth 285 = some me) : zyCon l (zymr r c) J en me ([595, zyS r c], [], [zyS r c], 14, [], []) := by
  have een : zG zxMeta 285 = some (zxi285, 2, 4, 11, 285, 0, 0, 1, 0) := rfl
  obtain ⟨me1, hme1, hOK⟩ := zall hen
  rw [hme] at hme1
  cases hme1
  rw [een] at hen
  cases hen
  have hrc := zyrc20 h2 h4
  have hNS := zgNS_le h2 h4
  obtain ⟨hw, hr⟩ := zand_iff (zyAllP_iff zyrunq_all h1 h2 h3 h4)
  obtain ⟨q1, hr⟩ := zand_iff hr
  obtain ⟨q2, q3⟩ := zand_iff hr
  have hK : ∀ κ, κ ∈ [zyκqe r c, zyκql r c] → κ = zyκqe r c ∨ κ = zyκql r c := fun κ hκ => by simpa using hκ
  refine zycutC (P := zyP2 r c (zyCl1 r c)) (J := J) (K := [zyκqe r c, zyκql r c]) (κ0 := zyκqe r c) (n := 200000) (bt := zybtq r c) (stp := zystq r c) hOK (zyCl1_ok hJ h1 h2 h3 h4) hJ.1 rfl rfl List.mem_cons_self rfl ?_ (fun _ _ _ _ _ _ _ _ _ _ _ => rfl) ?_ q3 (fun _ _ h => h)
    (fun B AsV κ s ρ H => ∃ x : Int32, ρ 1 = x ∧ x = Int32.ofNat (zyN1 x) ∧ zyN1 x < zgNS r c ∧ (κ = zyκqe r c ∨ (κ = zyκql r c ∧ ∃ v : Nat, ρ 3 = Int32.ofNat v ∧ v < zgNS r c ∧ zyit (fun q => zgR (zyres (zyEl (zymr r c) B s.heap)) q 0) (zydst (fun q => zgR (zyres (zyEl (zymr r c) B s.heap)) q 0) (zyN1 x) v) v = zyN1 x ∧ zydst (fun q => zgR (zyres (zyEl (zymr r c) B s.heap)) q 0) (zyN1 x) v ≤ 80)))
    (fun B _ κ s ρ _ => if κ.1 = 0 then 1000 else zydst (fun q => zgR (zyres (zyEl (zymr r c) B s.heap)) q 0) (zyN1 (ρ 1)) (zyN1 (ρ 3))) ?_ ?_ ?_
  · intro κ hκ
    rcases hK κ hκ with e | e
    · rw [e]; exact (zand_iff hw).1
    · rw [e]; exact (zand_iff hw).2
  · intro κ hκ
    rcases hK κ hκ with e | e
    · rw [e]; exact q1
    · rw [e]; exact q2
  · intro B AsV hA s lsA hKn hI hPk hlv
    obtain ⟨v0, t0, rfl, a1, hA1⟩ := zySt_c hA
    obtain ⟨v1, t1, rfl, a2, hA2⟩ := zySt_c hA1
    have e0 : v0 = .ref (zad B 74) := zyv_3 (v := 595) a1 (by decide)
    subst e0
    obtain ⟨x, rfl⟩ := zyv_int a2 (by rw [zyS_def]; omega)
    obtain ⟨ex, hx⟩ := zyS_iff hrc a2
    exact ⟨x, zyrho_l (show 1 < 4 by decide) (zyarg1 hlv), ex, hx, Or.inl rfl⟩
  · intro B AsV hA κ hκ s ρ H hPk hI hInv ρ2 N2 w pc ls st q m H2 locs2 lsB stA hs hag hR
    obtain ⟨x, r1, ex, hxs, hInv⟩ := hInv
    obtain ⟨est, hpc, hin, l1, hcase⟩ := zystq_iff hs
    obtain ⟨rr, cc⟩ := zyrc (show r < 2147483648 by omega) (show c < 2147483648 by omega) hI
    obtain ⟨mlt, minj⟩ := zgR_map (y := 0) h1 h2 h3 h4 (zgr_res.1.trans rr) (zgr_res.2.trans cc)
    have hκ1 : κ.2.1 = 4 := by
      rcases hK κ hκ with e | e <;> rw [e] <;> rfl
    have hN : 4 ≤ N2 := by
      have := hR.1.2.2.1.1
      rw [← hκ1]
      exact this
    have hLs := hR.2.2.2.1
    have hsv : ∀ i, i < 4 → zyV (B, ρ2, N2, ρ, κ.2.1, (zyEl (zymr r c) B s.heap, fun q => s.heap[q]?), J) (zysym i) (.int (ρ i)) := by
      intro i hi
      rw [← hag i (by omega)]
      exact zysym_v (X := (B, ρ2, N2, ρ, κ.2.1, (zyEl (zymr r c) B s.heap, fun q => s.heap[q]?), J)) (show i < N2 by omega)
    have hr1 : zyrho (zyP2 r c (zyCl1 r c)).1 B H2 ((zxi285, 2, 4, 11, 285, 0, 0, 1, 0) : zEn).2.2.1 lsB (zyκql r c).2.2.2.2.1 1 = x := zyrho_ag hLs (by decide) (by rw [l1]; exact zysym_k 1) (by rw [l1, ← r1]; exact hsv 1 (by decide))
    have call : ∀ (a : Nat) (av : Int32), a % 8 ≤ 1 → zyV (B, ρ2, N2, ρ, κ.2.1, (zyEl (zymr r c) B s.heap, fun q => s.heap[q]?), J) a (.int av) → zqop 1007 a 0 (fun v => zand (zyk1b v) (Nat.beq v (zyag ls 3))) m.2 = true → zyrho (zyP2 r c (zyCl1 r c)).1 B H2 ((zxi285, 2, 4, 11, 285, 0, 0, 1, 0) : zEn).2.2.1 lsB (zyκql r c).2.2.2.2.1 3 = Int32.ofNat (zgR (zyres (zyEl (zymr r c) B s.heap)) (zyN1 av) 0) := by
      intro a av ka hav hq
      obtain ⟨mv, x5, y5, z5, c1, c2, c3, hrel5, hq⟩ := zqfn_iff (id := 7) hR.1.2.2.2 hq
      obtain ⟨km, hq⟩ := zand_iff hq
      have hq := zbeqT hq
      have hrel5 : zyRr 7 (zyEl (zymr r c) B s.heap) x5 y5 z5 := by rw [← hJ.2]; exact hrel5
      have hz5 := zyRr0_7 (zyRr_get (by decide) hrel5)
      have g1 := zyv_one ka hav c1
      have g2 : (0 : Int32) = y5 := zyv_one (v := 0) (by decide) zyv_zero c2
      rw [← g1, ← g2] at hz5
      rw [← hz5]
      exact zyrho_ag hLs (by decide) (by rw [← hq]; exact zbleT km) (by rw [← hq]; exact c3)
    rcases hcase with ⟨hk0, hq⟩ | ⟨hk0, hne, hq⟩
    · have e4 := call (zysym 1) x (zysym_k 1) (by rw [← r1]; exact hsv 1 (by decide)) hq
      obtain ⟨mm, m1, m2, m3⟩ := zyorbit mlt minj hxs
      obtain ⟨k, rfl⟩ : ∃ k, mm = k + 1 := ⟨mm - 1, by omega⟩
      rw [← zyit_s] at m3
      obtain ⟨d1, d2⟩ := zydst_of (by omega) m3
      have hlt := mlt _ hxs
      refine ⟨zyκql r c, by simp, est, hpc, ⟨w, rfl, hR.1.1, hin⟩, ⟨x, hr1, ex, hxs, Or.inr ⟨rfl, _, e4, hlt, d1, by omega⟩⟩, ?_⟩
      rw [if_pos hk0, if_neg (show ¬ (zyκql r c).1 = 0 from fun q => by cases q), hr1, e4, zyN1_of (by omega)]
      omega
    · rcases hInv with e | ⟨eκ, v, hv4, hvs, hit, hsum⟩
      · rw [e] at hk0; exact absurd rfl hk0
      have hne2 : ¬ v = zyN1 x := by
        intro q
        rcases zqeq_iff hR.1.1 hR.1.2.2.2 (zysym_k 3) (zysym_k 1) (hsv 3 (by decide)) (hsv 1 (by decide)) hne with ⟨-, g⟩ | ⟨g, -⟩
        · cases g
        · apply g
          rw [hv4, r1, q]
          exact ex.symm
      have e4 := call (zysym 3) (ρ 3) (zysym_k 3) (hsv 3 (by decide)) hq
      rw [hv4, zyN1_of (by omega)] at e4
      obtain ⟨d1, d2⟩ := zydst_step (f := fun q => zgR (zyres (zyEl (zymr r c) B s.heap)) q 0) hne2 hit (by omega)
      have hlt := mlt _ hvs
      refine ⟨zyκql r c, by simp, est, hpc, ⟨w, rfl, hR.1.1, hin⟩, ⟨x, hr1, ex, hxs, Or.inr ⟨rfl, _, e4, hlt, d1, by omega⟩⟩, ?_⟩
      rw [if_neg hk0, if_neg (show ¬ (zyκql r c).1 = 0 from fun q => by cases q), hr1, e4, r1, hv4, zyN1_of (by omega), zyN1_of (by omega)]
      exact d2
  · intro B AsV hA κ hκ s ρ H hPk hI hInv ρ2 w v m t vo hbt hag hE hF hM hvo
    obtain ⟨x, r1, ex, hxs, hInv⟩ := hInv
    obtain ⟨c1, c2⟩ := zand_iff hbt
    obtain ⟨c2, c3⟩ := zand_iff c2
    have ev := zylb_iff c2
    subst ev
    refine zyvr_of ?_
    cases vo with
    | none => exact hvo.elim
    | some z =>
      have hvo : zyV (B, ρ2, w.1, ρ, κ.2.1, (zyEl (zymr r c) B s.heap, fun q => s.heap[q]?), J) (zysym 2) z := hvo
      exact (zysub_iff c3 hE hvo).2
