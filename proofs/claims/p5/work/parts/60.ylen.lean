/-! THE REFERENCE: lengthOf -/
noncomputable def zyκll (r c : Nat) : zyKt := (10, 5, [595, zysym 1, zysym 2, zysym 3, zysym 4], [(0, 4294967295), (2147483648, Nat.add 2147483647 (zgNS r c)), (0, 4294967295), (2147483649, 2147483728), (2147483648, Nat.add 2147483647 (zgNS r c))], [], [])
noncomputable def zyCl1 (r c : Nat) : Nat → List zyCt := fun y => zif (Nat.beq y 216) [([595, zyS r c, 34359738362], [], [zyS r c, 7], 13, [], [])] []
theorem zyCl1_ok {l : Launch} {J : zyJt} (hJ : zyJr J) {r c : Nat} (h1 : 1 ≤ r) (h2 : r ≤ 4) (h3 : 1 ≤ c) (h4 : c ≤ 5) : ∀ y2 ct en2 me2, ct ∈ zyCl1 r c y2 → zG zxMeta y2 = some en2 → zG zMeth y2 = some me2 → zyCon l (zymr r c) J en2 me2 ct := by
  intro y2 ct en2 me2 hct hen hme
  unfold zyCl1 at hct
  by_cases e0 : y2 = 216
  · subst e0
    have hct : ct ∈ [([595, zyS r c, 34359738362], [], [zyS r c, 7], 13, [], [])] := hct
    rw [List.mem_singleton.mp hct]
    exact zyrounded hJ h1 h2 h3 h4 hen hme
  rw [zybeq_ne e0, zif_f] at hct
  cases hct
noncomputable def zystl (r c : Nat) (κ : zyKt) : zyK := fun w _ _ pc ls st _ fs m => List.rec (motive := fun _ => Bool) (List.rec (motive := fun _ => Bool) (zand (Nat.beq pc 10) (zand (zand (Nat.beq (zyag ls 1) (zysym 1)) (Nat.beq (zyag ls 2) (zysym 2))) (zif (Nat.beq κ.1 0) (zand (zyincl (zyP2 r c (zyCl1 r c)) 5 w ls m.1 (zyκll r c)) (zand (Nat.beq (zyag ls 3) 8) (zqop 1007 (zysym 1) (zysym 2) (fun v => zand (zyk1b v) (Nat.beq v (zyag ls 4))) m.2)))
  (zand (zand (zqeq w m.2 (zysym 4) (zysym 1) false true) (Nat.beq (zyag ls 3) (Nat.add (zysym 3) (Nat.mul 8 1)))) (zand (zqop 1007 (zysym 4) (zysym 2) (fun v => zand (zyk1b v) (Nat.beq v (zyag ls 4))) m.2) (zcut w (zyag ls 3) 2147483649 2147483728 (fun w3 => zyincl (zyP2 r c (zyCl1 r c)) 5 w3 ls m.1 (zyκll r c)))))))) (fun _ _ _ => false) st) (fun _ _ _ => false) fs
noncomputable def zybtl (κ : zyKt) : zW → List Nat → zyM → Bool := fun _ v _ => zand (Nat.beq κ.1 10) (zylb v [zysym 3])
noncomputable def zyrunl (r c : Nat) (κ : zyKt) : Bool := zyok (fun w v m => zand (zyfitM w (zymr r c) m.1) (zand (zypre w (zymr r c) m.1 []) (zybtl κ w v m))) (zyP2 r c (zyCl1 r c)) (zystl r c κ) 200000 (5, κ.2.2.2.1) zxi217 (217, 0, 0, 1, 0) κ.1 κ.2.2.1 [] (14, 0, 0) [] ([], [])
theorem zyrunl_all : zyAllP (fun r c => zand (zand (zywf 5 (zyκre r c)) (zywf 5 (zyκll r c))) (zand (zyrunl r c (zyκre r c)) (zand (zyrunl r c (zyκll r c)) (zpad 5 (zexp [595, zyS r c, 34359738362]) (fun l2 => zyincl (zyP2 r c (zyCl1 r c)) 5 (0, []) l2 [] (zyκre r c)))))) = true := by decide +kernel
theorem zystl_iff {r c : Nat} {κ : zyKt} {w : zW} {cf : Nat → zT} {y : zY} {pc : Nat} {ls st : List Nat} {q : zQ} {m : zyM} (h : zystl r c κ w cf y pc ls st q [] m = true) : st = [] ∧ pc = 10 ∧ zyag ls 1 = zysym 1 ∧ zyag ls 2 = zysym 2 ∧ ((κ.1 = 0 ∧ zyincl (zyP2 r c (zyCl1 r c)) 5 w ls m.1 (zyκll r c) = true ∧ zyag ls 3 = 8 ∧ zqop 1007 (zysym 1) (zysym 2) (fun v => zand (zyk1b v) (Nat.beq v (zyag ls 4))) m.2 = true) ∨
    (¬ κ.1 = 0 ∧ zqeq w m.2 (zysym 4) (zysym 1) false true = true ∧ zyag ls 3 = Nat.add (zysym 3) (Nat.mul 8 1) ∧ zqop 1007 (zysym 4) (zysym 2) (fun v => zand (zyk1b v) (Nat.beq v (zyag ls 4))) m.2 = true ∧ zcut w (zyag ls 3) 2147483649 2147483728 (fun w3 => zyincl (zyP2 r c (zyCl1 r c)) 5 w3 ls m.1 (zyκll r c)) = true)) := by
  cases st with
  | cons a t => cases h
  | nil =>
    obtain ⟨h1, h⟩ := zand_iff (show zand (Nat.beq pc 10) _ = true from h)
    obtain ⟨h3, h⟩ := zand_iff h
    obtain ⟨h3, h3b⟩ := zand_iff h3
    refine ⟨rfl, zbeqT h1, zbeqT h3, zbeqT h3b, ?_⟩
    rcases zif_iff h with ⟨h4, h5⟩ | ⟨h4, h5⟩
    · obtain ⟨h6, h7⟩ := zand_iff h5
      obtain ⟨h7, h8⟩ := zand_iff h7
      exact Or.inl ⟨zbeqT h4, h6, zbeqT h7, h8⟩
    · obtain ⟨h6, h7⟩ := zand_iff h5
      obtain ⟨h6, h6b⟩ := zand_iff h6
      obtain ⟨h7, h8⟩ := zand_iff h7
      exact Or.inr ⟨zbeqF h4, h6, zbeqT h6b, h7, h8⟩
/-- rounds of slots -/
theorem zgR_map {E : zyEm} {r c : Nat} {y : Int32} (h1 : 1 ≤ r) (h2 : r ≤ 4) (h3 : 1 ≤ c) (h4 : c ≤ 5) (hr : zgr E = r) (hc : zgc E = c) : (∀ s, s < zgNS r c → zgR E s y < zgNS r c) ∧ (∀ a b, a < zgNS r c → b < zgNS r c → zgR E a y = zgR E b y → a = b) :=
  ⟨fun s hs => zgRk_lt h1 h2 h3 h4 hr hc hs _, fun a b ha hb h => zgRk_inj h1 h2 h3 h4 hr hc ha hb _ h⟩
theorem zylengthOf {l : Launch} {J : zyJt} (hJ : zyJr J) {r c : Nat} (h1 : 1 ≤ r) (h2 : r ≤ 4) (h3 : 1 ≤ c) (h4 : c ≤ 5) {en : zEn} {me : zMe} (hen : zG zxMeta 217 = some en) (hme : zG zMeth 217 = some me) : zyCon l (zymr r c) J en me ([595, zyS r c, 34359738362], [], [zyc 1 80], 14, [], []) := by
  have een : zG zxMeta 217 = some (zxi217, 3, 5, 11, 217, 0, 0, 1, 0) := rfl
  obtain ⟨me1, hme1, hOK⟩ := zall hen
  rw [hme] at hme1
  cases hme1
  rw [een] at hen
  cases hen
  have hrc := zyrc20 h2 h4
  have hNS := zgNS_le h2 h4
  obtain ⟨hw, hr⟩ := zand_iff (zyAllP_iff zyrunl_all h1 h2 h3 h4)
  obtain ⟨q1, hr⟩ := zand_iff hr
  obtain ⟨q2, q3⟩ := zand_iff hr
  have hK : ∀ κ, κ ∈ [zyκre r c, zyκll r c] → κ = zyκre r c ∨ κ = zyκll r c := fun κ hκ => by simpa using hκ
  refine zycutC (P := zyP2 r c (zyCl1 r c)) (J := J) (K := [zyκre r c, zyκll r c]) (κ0 := zyκre r c) (n := 200000) (bt := zybtl) (stp := zystl r c) hOK (zyCl1_ok hJ h1 h2 h3 h4) hJ.1 rfl rfl List.mem_cons_self rfl ?_ (fun _ _ _ _ _ _ _ _ _ _ _ => rfl) ?_ q3 (fun _ _ h => h)
    (fun B AsV κ s ρ H => ∃ x y : Int32, ρ 1 = x ∧ ρ 2 = y ∧ x = Int32.ofNat (zyN1 x) ∧ zyN1 x < zgNS r c ∧ (κ = zyκre r c ∨ (κ = zyκll r c ∧ ∃ n v : Nat, ρ 3 = Int32.ofNat n ∧ ρ 4 = Int32.ofNat v ∧ v < zgNS r c ∧ 1 ≤ n ∧ zyit (fun q => zgR (zyres (zyEl (zymr r c) B s.heap)) q y) (zydst (fun q => zgR (zyres (zyEl (zymr r c) B s.heap)) q y) (zyN1 x) v) v = zyN1 x ∧ n + zydst (fun q => zgR (zyres (zyEl (zymr r c) B s.heap)) q y) (zyN1 x) v ≤ 80)))
    (fun B _ κ s ρ _ => if κ.1 = 0 then 1000 else zydst (fun q => zgR (zyres (zyEl (zymr r c) B s.heap)) q (ρ 2)) (zyN1 (ρ 1)) (zyN1 (ρ 4))) ?_ ?_ ?_
  · intro κ hκ
    rcases hK κ hκ with e | e
    · rw [e]; exact (zand_iff hw).1
    · rw [e]; exact (zand_iff hw).2
  · intro κ hκ
    rcases hK κ hκ with e | e
    · rw [e]; exact q1
    · rw [e]; exact q2
  · intro B AsV hA s lsA hKn hI hPk hlv
    obtain ⟨v0, t0, rfl, a1, hA1⟩ := zySt_c hA
    obtain ⟨v1, t1, rfl, a2, hA2⟩ := zySt_c hA1
    obtain ⟨v2, t2, rfl, a3, hA3⟩ := zySt_c hA2
    have e0 : v0 = .ref (zad B 74) := zyv_3 (v := 595) a1 (by decide)
    subst e0
    obtain ⟨x, rfl⟩ := zyv_int a2 (by rw [zyS_def]; omega)
    obtain ⟨y, rfl⟩ := zyv_int a3 (by decide)
    obtain ⟨ex, hx⟩ := zyS_iff hrc a2
    exact ⟨x, y, zyrho_l (show 1 < 5 by decide) (zyarg1 hlv), zyrho_l (show 2 < 5 by decide) (zyarg2 hlv), ex, hx, Or.inl rfl⟩
  · intro B AsV hA κ hκ s ρ H hPk hI hInv ρ2 N2 w pc ls st q m H2 locs2 lsB stA hs hag hR
    obtain ⟨x, y, r1, r2, ex, hxs, hInv⟩ := hInv
    obtain ⟨est, hpc, l1, l2, hcase⟩ := zystl_iff hs
    obtain ⟨rr, cc⟩ := zyrc (show r < 2147483648 by omega) (show c < 2147483648 by omega) hI
    obtain ⟨mlt, minj⟩ := zgR_map (y := y) h1 h2 h3 h4 (zgr_res.1.trans rr) (zgr_res.2.trans cc)
    have hκ1 : κ.2.1 = 5 := by
      rcases hK κ hκ with e | e <;> rw [e] <;> rfl
    have hN : 5 ≤ N2 := by
      have := hR.1.2.2.1.1
      rw [← hκ1]
      exact this
    have hLs := hR.2.2.2.1
    have hsv : ∀ i, i < 5 → zyV (B, ρ2, N2, ρ, κ.2.1, (zyEl (zymr r c) B s.heap, fun q => s.heap[q]?), J) (zysym i) (.int (ρ i)) := by
      intro i hi
      rw [← hag i (by omega)]
      exact zysym_v (X := (B, ρ2, N2, ρ, κ.2.1, (zyEl (zymr r c) B s.heap, fun q => s.heap[q]?), J)) (show i < N2 by omega)
    have hr1 : zyrho (zyP2 r c (zyCl1 r c)).1 B H2 ((zxi217, 3, 5, 11, 217, 0, 0, 1, 0) : zEn).2.2.1 lsB (zyκll r c).2.2.2.2.1 1 = x := zyrho_ag hLs (by decide) (by rw [l1]; exact zysym_k 1) (by rw [l1, ← r1]; exact hsv 1 (by decide))
    have hr2 : zyrho (zyP2 r c (zyCl1 r c)).1 B H2 ((zxi217, 3, 5, 11, 217, 0, 0, 1, 0) : zEn).2.2.1 lsB (zyκll r c).2.2.2.2.1 2 = y := zyrho_ag hLs (by decide) (by rw [l2]; exact zysym_k 2) (by rw [l2, ← r2]; exact hsv 2 (by decide))
    have call : ∀ (a : Nat) (av : Int32), a % 8 ≤ 1 → zyV (B, ρ2, N2, ρ, κ.2.1, (zyEl (zymr r c) B s.heap, fun q => s.heap[q]?), J) a (.int av) → zqop 1007 a (zysym 2) (fun v => zand (zyk1b v) (Nat.beq v (zyag ls 4))) m.2 = true → zyrho (zyP2 r c (zyCl1 r c)).1 B H2 ((zxi217, 3, 5, 11, 217, 0, 0, 1, 0) : zEn).2.2.1 lsB (zyκll r c).2.2.2.2.1 4 = Int32.ofNat (zgR (zyres (zyEl (zymr r c) B s.heap)) (zyN1 av) y) := by
      intro a av ka hav hq
      obtain ⟨mv, x5, y5, z5, c1, c2, c3, hrel5, hq⟩ := zqfn_iff (id := 7) hR.1.2.2.2 hq
      obtain ⟨km, hq⟩ := zand_iff hq
      have hq := zbeqT hq
      have hrel5 : zyRr 7 (zyEl (zymr r c) B s.heap) x5 y5 z5 := by rw [← hJ.2]; exact hrel5
      have hz5 := zyRr0_7 (zyRr_get (by decide) hrel5)
      have g1 := zyv_one ka hav c1
      have g2 := zyv_one (zysym_k 2) (hsv 2 (by decide)) c2
      rw [← g1, ← g2, r2] at hz5
      rw [← hz5]
      exact zyrho_ag hLs (by decide) (by rw [← hq]; exact zbleT km) (by rw [← hq]; exact c3)
    rcases hcase with ⟨hk0, hin, l3, hq⟩ | ⟨hk0, hne, l3, hq, hcut⟩
    · have e3 : zyrho (zyP2 r c (zyCl1 r c)).1 B H2 ((zxi217, 3, 5, 11, 217, 0, 0, 1, 0) : zEn).2.2.1 lsB (zyκll r c).2.2.2.2.1 3 = Int32.ofNat 1 := zyrho_ag hLs (by decide) (by rw [l3]; decide) (by rw [l3]; exact zyv_mk (u := 1) rfl)
      have e4 := call (zysym 1) x (zysym_k 1) (by rw [← r1]; exact hsv 1 (by decide)) hq
      obtain ⟨mm, m1, m2, m3⟩ := zyorbit mlt minj hxs
      obtain ⟨k, rfl⟩ : ∃ k, mm = k + 1 := ⟨mm - 1, by omega⟩
      rw [← zyit_s] at m3
      obtain ⟨d1, d2⟩ := zydst_of (by omega) m3
      have hlt := mlt _ hxs
      refine ⟨zyκll r c, by simp, est, hpc, ⟨w, rfl, hR.1.1, hin⟩, ⟨x, y, hr1, hr2, ex, hxs, Or.inr ⟨rfl, 1, _, e3, e4, hlt, by decide, d1, by omega⟩⟩, ?_⟩
      rw [if_pos hk0, if_neg (show ¬ (zyκll r c).1 = 0 from fun q => by cases q)]
      have := zylst_le (fun d => Nat.beq (zyit (fun q => zgR (zyres (zyEl (zymr r c) B s.heap)) q (zyrho (zyP2 r c (zyCl1 r c)).1 B H2 ((zxi217, 3, 5, 11, 217, 0, 0, 1, 0) : zEn).2.2.1 lsB (zyκll r c).2.2.2.2.1 2)) d (zyN1 (zyrho (zyP2 r c (zyCl1 r c)).1 B H2 ((zxi217, 3, 5, 11, 217, 0, 0, 1, 0) : zEn).2.2.1 lsB (zyκll r c).2.2.2.2.1 4))) (zyN1 (zyrho (zyP2 r c (zyCl1 r c)).1 B H2 ((zxi217, 3, 5, 11, 217, 0, 0, 1, 0) : zEn).2.2.1 lsB (zyκll r c).2.2.2.2.1 1))) 100
      exact Nat.lt_of_le_of_lt this (by decide)
    · rcases hInv with e | ⟨eκ, n, v, hn3, hv4, hvs, hn1, hit, hsum⟩
      · rw [e] at hk0; exact absurd rfl hk0
      have hne2 : ¬ v = zyN1 x := by
        intro q
        rcases zqeq_iff hR.1.1 hR.1.2.2.2 (zysym_k 4) (zysym_k 1) (hsv 4 (by decide)) (hsv 1 (by decide)) hne with ⟨-, g⟩ | ⟨g, -⟩
        · cases g
        · apply g
          rw [hv4, r1, q]
          exact ex.symm
      have e4 := call (zysym 4) (ρ 4) (zysym_k 4) (hsv 4 (by decide)) hq
      rw [hv4, zyN1_of (by omega)] at e4
      obtain ⟨d1, d2⟩ := zydst_step (f := fun q => zgR (zyres (zyEl (zymr r c) B s.heap)) q y) hne2 hit (by omega)
      have hp : zyV (B, ρ2, N2, ρ, κ.2.1, (zyEl (zymr r c) B s.heap, fun q => s.heap[q]?), J) (zyag ls 3) (.int (Int32.ofNat (n + 1))) := by
        have hp := zysym_p (X := (B, ρ2, N2, ρ, κ.2.1, (zyEl (zymr r c) B s.heap, fun q => s.heap[q]?), J)) (i := 3) (c := 1) (show 3 < N2 by omega) (by decide)
        have e9 : zyρ (B, ρ2, N2, ρ, κ.2.1, (zyEl (zymr r c) B s.heap, fun q => s.heap[q]?), J) 3 + Int32.ofNat 1 = Int32.ofNat (n + 1) := by
          show ρ2 3 + Int32.ofNat 1 = _
          rw [hag 3 (by omega), hn3, ← zyofA]
        rw [e9] at hp
        rw [l3]
        exact hp
      have e3 : zyrho (zyP2 r c (zyCl1 r c)).1 B H2 ((zxi217, 3, 5, 11, 217, 0, 0, 1, 0) : zEn).2.2.1 lsB (zyκll r c).2.2.2.2.1 3 = Int32.ofNat (n + 1) := zyrho_ag hLs (by decide) (by rw [l3]; exact zysym_pk) hp
      obtain ⟨w3, ew, hE3, hin⟩ := zycut_iff hcut hR.1.1 hp (by rw [zB_of4 (by omega)]; omega) (by rw [zB_of4 (by omega)]; omega)
      have hlt := mlt _ hvs
      refine ⟨zyκll r c, by simp, est, hpc, ⟨w3, ew, hE3, hin⟩, ⟨x, y, hr1, hr2, ex, hxs, Or.inr ⟨rfl, n + 1, _, e3, e4, hlt, by omega, d1, by omega⟩⟩, ?_⟩
      rw [if_neg hk0, if_neg (show ¬ (zyκll r c).1 = 0 from fun q => by cases q), hr1, hr2, e4, r1, r2, hv4, zyN1_of (by omega), zyN1_of (by omega)]
      exact d2
  · intro B AsV hA κ hκ s ρ H hPk hI hInv ρ2 w v m t vo hbt hag hE hF hM hvo
    obtain ⟨x, y, r1, r2, ex, hxs, hInv⟩ := hInv
    obtain ⟨c1, c2⟩ := zand_iff hbt
    have c1 := zbeqT c1
    have ev := zylb_iff c2
    subst ev
    rcases hInv with e | ⟨eκ, n, v, hn3, hv4, hvs, hn1, hit, hsum⟩
    · rw [e] at c1; cases c1
    have hκ1 : κ.2.1 = 5 := by rw [eκ]; rfl
    have hN : 5 ≤ w.1 := by have := hag.1; omega
    refine zyvr_of ?_
    cases vo with
    | none => exact hvo.elim
    | some z =>
      have hvo : zyV (B, ρ2, w.1, ρ, κ.2.1, (zyEl (zymr r c) B s.heap, fun q => s.heap[q]?), J) (zysym 3) z := hvo
      obtain ⟨z2, rfl⟩ := zyv_int hvo (by have := zysym_k 3; omega)
      have ez := zyv_one (zysym_k 3) (zysym_v (X := (B, ρ2, w.1, ρ, κ.2.1, (zyEl (zymr r c) B s.heap, fun q => s.heap[q]?), J)) (show 3 < w.1 by omega)) hvo
      have ez : ρ2 3 = z2 := ez
      rw [hag.2 3 (by omega), hn3] at ez
      rw [← ez]
      show zyv _ _ _ (8 * ((1 + 2147483648) * 4294967296 + (80 + 2147483648)) + 2) _
      exact zyv_bd (by rw [zB_of4 (by omega)]; omega) (by rw [zB_of4 (by omega)]; omega) (by decide)
