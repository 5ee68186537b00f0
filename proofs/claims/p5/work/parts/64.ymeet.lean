/-! THE REFERENCE: meetsFrom -/
noncomputable def zyκme (r c : Nat) : zyKt := (0, 10, [595, zysym 1, zysym 2, zysym 3, 13, 13, 13, 13, 13, 13], [(0, 4294967295), (2147483648, Nat.add 2147483647 (zgNS r c)), (2147483648, Nat.add 2147483647 (zgNS r c)), (2147483648, 3221225472), (0, 4294967295), (0, 4294967295), (0, 4294967295), (0, 4294967295), (0, 4294967295), (0, 4294967295)], [], [])
noncomputable def zyκml (r c : Nat) : zyKt := (15, 10, [595, zysym 1, zysym 2, zysym 3, zysym 4, zysym 5, zysym 6, zysym 7, 13, 13], [(0, 4294967295), (2147483648, Nat.add 2147483647 (zgNS r c)), (2147483648, Nat.add 2147483647 (zgNS r c)), (2147483648, 3221225472), (2147483648, Nat.add 2147483647 (zgNS r c)), (2147483648, Nat.add 2147483647 (zgNS r c)), (2147483649, 2147483660), (2147483648, 2147563648), (0, 4294967295), (0, 4294967295)], [], [])
noncomputable def zyCme (r c : Nat) : Nat → List zyCt := fun y => zif (Nat.beq y 215) [([595], [], [zyc 1 12, 6], 12, [], [])] (zif (Nat.beq y 204) [([595, zyS r c], [], [zyS r c, 0], 2, [], [])] (zif (Nat.beq y 202) [([595, zyS r c], [], [zyGq r c, 1], 3, [], [])] (zif (Nat.beq y 203) [([595, zyS r c], [], [zyS1 r c, 2], 5, [], [])] (zif (Nat.beq y 211) [([595, zyS r c, 34359738362], [], [zyS r c, 4], 6, [], [])] []))))
noncomputable def zyPm (r c : Nat) : zyP := (zymr r c, zyCme r c, [(74, 24, 24)], zydr, 0)
noncomputable def zyma (w : zW) (F : List zyF) (v sa : Nat) : Bool := zand (zyk1b v) (zqrs 1004 v (fun x t => zand (zand (zyk1b x) (zyk1b t)) (zand (zqrs 1000 x (fun a _ => Nat.beq a sa) F) (zif (Nat.beq t (zysym 3)) (zqeq w F (zysym 7) 0 true false) (zqrs 1 t (fun a b => zand (Nat.beq a (zysym 3)) (Nat.beq b (zysym 7))) F)))) F)
noncomputable def zymg (w : zW) (F : List zyF) : Bool := zqeq w F (zysym 7) 0 true (zqop 5 (zysym 7) (zysym 6) (fun v => zand (zyk1b v) (zqeq w F v 0 (zqeq w F (zysym 4) (zysym 1) (zqeq w F (zysym 5) (zysym 2) false true) true) true)) F)
noncomputable def zystm (r c : Nat) (κ : zyKt) : zyK := fun w _ _ pc ls st _ fs m => List.rec (motive := fun _ => Bool) (List.rec (motive := fun _ => Bool) (zand (Nat.beq pc 15) (zand (zand (Nat.beq (zyag ls 1) (zysym 1)) (zand (Nat.beq (zyag ls 2) (zysym 2)) (Nat.beq (zyag ls 3) (zysym 3)))) (zif (Nat.beq κ.1 0) (zand (zyincl (zyPm r c) 10 w ls m.1 (zyκml r c)) (zand (zand (Nat.beq (zyag ls 4) (zysym 1)) (zand (Nat.beq (zyag ls 5) (zysym 2)) (Nat.beq (zyag ls 7) 0))) (zqop 1006 0 0 (fun v => zand (zyk1b v) (Nat.beq v (zyag ls 6))) m.2)))
  (zand (zand (Nat.beq (zyag ls 6) (zysym 6)) (Nat.beq (zyag ls 7) (Nat.add (zysym 7) (Nat.mul 8 1)))) (zand (zymg w m.2) (zand (zand (zyma w m.2 (zyag ls 4) (zysym 4)) (zyma w m.2 (zyag ls 5) (zysym 5))) (zcut w (zyag ls 7) 2147483648 2147563648 (fun w3 => zyincl (zyPm r c) 10 w3 ls m.1 (zyκml r c))))))))) (fun _ _ _ => false) st) (fun _ _ _ => false) fs
noncomputable def zybtm (κ : zyKt) : zW → List Nat → zyM → Bool := fun _ v _ => zand (Nat.beq κ.1 15) (zif (zylb v [zysym 7]) true (zylb v [34359738360]))
noncomputable def zyrunm (r c : Nat) (κ : zyKt) : Bool := zyok (fun w v m => zand (zyfitM w (zymr r c) m.1) (zand (zypre w (zymr r c) m.1 []) (zybtm κ w v m))) (zyPm r c) (zystm r c κ) 200000 (10, κ.2.2.2.1) zxi290 (290, 0, 0, 1, 0) κ.1 κ.2.2.1 [] (13, 0, 0) [] ([], [])
noncomputable def zyMA (r c : Nat) : List Nat := [595, zyS r c, zyS r c, zyc 0 1073741824]
theorem zyrunm_all : zyAllP (fun r c => zand (zand (zywf 10 (zyκme r c)) (zywf 10 (zyκml r c))) (zand (zyrunm r c (zyκme r c)) (zand (zyrunm r c (zyκml r c)) (zpad 10 (zexp (zyMA r c)) (fun l2 => zyincl (zyPm r c) 10 (0, []) l2 [] (zyκme r c)))))) = true := by decide +kernel
theorem zyCme_ok {l : Launch} {J : zyJt} (hJ : zyJr J) {r c : Nat} (h1 : 1 ≤ r) (h2 : r ≤ 4) (h3 : 1 ≤ c) (h4 : c ≤ 5) : ∀ y2 ct en2 me2, ct ∈ zyCme r c y2 → zG zxMeta y2 = some en2 → zG zMeth y2 = some me2 → zyCon l (zymr r c) J en2 me2 ct := by
  intro y2 ct en2 me2 hct hen hme
  unfold zyCme at hct
  by_cases e215 : y2 = 215
  · subst e215
    have hct : ct ∈ [([595], [], [zyc 1 12, 6], 12, [], [])] := hct
    rw [List.mem_singleton.mp hct]
    exact zyperiod hJ h1 h2 h3 h4 hen hme
  rw [zybeq_ne e215, zif_f] at hct
  by_cases e204 : y2 = 204
  · subst e204
    have hct : ct ∈ [([595, zyS r c], [], [zyS r c, 0], 2, [], [])] := hct
    rw [List.mem_singleton.mp hct]
    exact zyturned hJ h1 h2 h3 h4 hen hme
  rw [zybeq_ne e204, zif_f] at hct
  by_cases e202 : y2 = 202
  · subst e202
    have hct : ct ∈ [([595, zyS r c], [], [zyGq r c, 1], 3, [], [])] := hct
    rw [List.mem_singleton.mp hct]
    exact zygateAt hJ h1 h2 h3 h4 hen hme
  rw [zybeq_ne e202, zif_f] at hct
  by_cases e203 : y2 = 203
  · subst e203
    have hct : ct ∈ [([595, zyS r c], [], [zyS1 r c, 2], 5, [], [])] := hct
    rw [List.mem_singleton.mp hct]
    exact zyfacing hJ h1 h2 h3 h4 hen hme
  rw [zybeq_ne e203, zif_f] at hct
  by_cases e211 : y2 = 211
  · subst e211
    have hct : ct ∈ [([595, zyS r c, 34359738362], [], [zyS r c, 4], 6, [], [])] := hct
    rw [List.mem_singleton.mp hct]
    exact zyover hJ h1 h2 h3 h4 hen hme
  rw [zybeq_ne e211, zif_f] at hct
  cases hct
theorem zyma_iff {X : zyX} {w : zW} {F : List zyF} {v i : Nat} {s f k : Int32} (hE : zEnv (zyρ X) w.2) (hF : ∀ f ∈ F, zyFm X f) (hJ : (zyJ X).2 = zyRr) (h3 : zyV X (zysym 3) (.int f)) (h7 : zyV X (zysym 7) (.int k)) (hs : zyV X (zysym i) (.int s)) (h : zyma w F v (zysym i) = true) : v % 8 ≤ 1 ∧ ∃ z, zyV X v (.int z) ∧ z = Int32.ofNat (zgV (zyres (zyE X)) (zyN1 (Int32.ofNat (zgT (zgc (zyres (zyE X))) (zyN1 s)))) (f + k)) := by
  obtain ⟨kv, h⟩ := zand_iff h
  obtain ⟨a, b, x, y, z, q1, q2, q3, q4, h⟩ := zqrs_fn (id := 4) hF h
  obtain ⟨h1, h2⟩ := zand_iff h
  obtain ⟨ka, kb⟩ := zand_iff h1
  obtain ⟨h5, h4⟩ := zand_iff h2
  obtain ⟨a2, b2, x2, y2, z2, p1, p2, p3, p4, e⟩ := zqrs_fn (id := 0) hF h5
  have e := zbeqT e
  subst e
  rw [hJ] at q4 p4
  have g4 := zyRr0_4 (zyRr_get (by decide) q4)
  have g0 := zyRr0_0 (zyRr_get (by decide) p4)
  have ex := zyv_one (zbleT ka) p3 q1
  have es := zyv_one (zysym_k i) hs p1
  have ey : y = f + k := by
    rcases zif_iff h4 with ⟨t1, t2⟩ | ⟨-, t2⟩
    · have t1 := zbeqT t1
      subst t1
      have ey := zyv_one (zysym_k 3) h3 q2
      rcases zqeq_iff hE hF (zysym_k 7) (show 0 % 8 ≤ 1 by decide) h7 zyv_zero t2 with ⟨g, -⟩ | ⟨-, g⟩
      · rw [g, ← ey]
        exact (Int32.add_zero f).symm
      · cases g
    · obtain ⟨a3, b3, x3, y3, u1, u2, u3, e3⟩ := zqrs_op hF (by decide) t2
      obtain ⟨e3, e4⟩ := zand_iff e3
      have e3 := zbeqT e3
      have e4 := zbeqT e4
      subst e3
      subst e4
      have w1 := zyv_one (zysym_k 3) h3 u1
      have w2 := zyv_one (zysym_k 7) h7 u2
      have w3 := zyv_one (zbleT kb) u3 q2
      have w3 : x3 + y3 = y := w3
      rw [← w3, w1, w2]
  refine ⟨zbleT kv, z, q3, ?_⟩
  rw [g4, ← ex, g0, es, ey]
theorem zyit_mul {f : Nat → Nat} {m s : Nat} (h : zyit f m s = s) : ∀ j, zyit f (m * j) s = s := by
  intro j
  induction j with
  | zero => rfl
  | succ j ih => rw [Nat.mul_succ, zyit_add, h, ih]
noncomputable def zyMq : Nat := 8 * (2147483647 * 4294967296 + 2147563648) + 2
theorem zystm_iff {r c : Nat} {κ : zyKt} {w : zW} {cf : Nat → zT} {y : zY} {pc : Nat} {ls st : List Nat} {q : zQ} {m : zyM} (h : zystm r c κ w cf y pc ls st q [] m = true) : st = [] ∧ pc = 15 ∧ zyag ls 1 = zysym 1 ∧ zyag ls 2 = zysym 2 ∧ zyag ls 3 = zysym 3 ∧ ((κ.1 = 0 ∧ zyincl (zyPm r c) 10 w ls m.1 (zyκml r c) = true ∧ zyag ls 4 = zysym 1 ∧ zyag ls 5 = zysym 2 ∧ zyag ls 7 = 0 ∧ zqop 1006 0 0 (fun v => zand (zyk1b v) (Nat.beq v (zyag ls 6))) m.2 = true) ∨
    (¬ κ.1 = 0 ∧ zyag ls 6 = zysym 6 ∧ zyag ls 7 = Nat.add (zysym 7) (Nat.mul 8 1) ∧ zymg w m.2 = true ∧ zyma w m.2 (zyag ls 4) (zysym 4) = true ∧ zyma w m.2 (zyag ls 5) (zysym 5) = true ∧ zcut w (zyag ls 7) 2147483648 2147563648 (fun w3 => zyincl (zyPm r c) 10 w3 ls m.1 (zyκml r c)) = true)) := by
  cases st with
  | cons a t => cases h
  | nil =>
    obtain ⟨h1, h⟩ := zand_iff (show zand (Nat.beq pc 15) _ = true from h)
    obtain ⟨h3, h⟩ := zand_iff h
    obtain ⟨h3, h3b⟩ := zand_iff h3
    obtain ⟨h3b, h3c⟩ := zand_iff h3b
    refine ⟨rfl, zbeqT h1, zbeqT h3, zbeqT h3b, zbeqT h3c, ?_⟩
    rcases zif_iff h with ⟨h4, h5⟩ | ⟨h4, h5⟩
    · obtain ⟨h6, h7⟩ := zand_iff h5
      obtain ⟨h7, h8⟩ := zand_iff h7
      obtain ⟨h7, h9⟩ := zand_iff h7
      obtain ⟨h9, h10⟩ := zand_iff h9
      exact Or.inl ⟨zbeqT h4, h6, zbeqT h7, zbeqT h9, zbeqT h10, h8⟩
    · obtain ⟨h6, h7⟩ := zand_iff h5
      obtain ⟨h6, h6b⟩ := zand_iff h6
      obtain ⟨h7, h8⟩ := zand_iff h7
      obtain ⟨h8, h9⟩ := zand_iff h8
      obtain ⟨h8, h8b⟩ := zand_iff h8
      exact Or.inr ⟨zbeqF h4, zbeqT h6, zbeqT h6b, h7, h8, h8b, h9⟩
theorem zymeetsFrom {l : Launch} {J : zyJt} (hJ : zyJr J) {r c : Nat} (h1 : 1 ≤ r) (h2 : r ≤ 4) (h3 : 1 ≤ c) (h4 : c ≤ 5) {en : zEn} {me : zMe} (hen : zG zxMeta 290 = some en) (hme : zG zMeth 290 = some me) : zyCon l (zymr r c) J en me (zyMA r c, [(74, 24, 24)], [zyMq], 13, [], []) := by
  have een : zG zxMeta 290 = some (zxi290, 4, 10, 11, 290, 0, 0, 1, 0) := rfl
  obtain ⟨me1, hme1, hOK⟩ := zall hen
  rw [hme] at hme1
  cases hme1
  rw [een] at hen
  cases hen
  have hrc := zyrc20 h2 h4
  have hNS := zgNS_le h2 h4
  have hNG := zgNG_le h2 h4
  obtain ⟨hw, hr⟩ := zand_iff (zyAllP_iff zyrunm_all h1 h2 h3 h4)
  obtain ⟨q1, hr⟩ := zand_iff hr
  obtain ⟨q2, q3⟩ := zand_iff hr
  have hK : ∀ κ, κ ∈ [zyκme r c, zyκml r c] → κ = zyκme r c ∨ κ = zyκml r c := fun κ hκ => by simpa using hκ
  refine zycutC (P := zyPm r c) (J := J) (K := [zyκme r c, zyκml r c]) (κ0 := zyκme r c) (n := 200000) (bt := zybtm) (stp := zystm r c) hOK (zyCme_ok hJ h1 h2 h3 h4) hJ.1 rfl rfl List.mem_cons_self rfl ?_ (fun _ _ _ _ _ _ _ _ _ _ _ => rfl) ?_ q3 (fun _ _ h => h)
    (fun B AsV κ s ρ H => ∃ (x o : Int32) (f0 : Nat), ρ 1 = x ∧ ρ 2 = o ∧ ρ 3 = Int32.ofNat f0 ∧ f0 ≤ 1073741824 ∧ x = Int32.ofNat (zyN1 x) ∧ zyN1 x < zgNS r c ∧ o = Int32.ofNat (zyN1 o) ∧ zyN1 o < zgNS r c ∧ (κ = zyκme r c ∨ (κ = zyκml r c ∧ ∃ k K : Nat, ρ 7 = Int32.ofNat k ∧ k ≤ K ∧ K ≤ 76800 ∧ 1 ≤ K ∧ zgP (zyres (zyEl (zymr r c) B s.heap)) ∣ K ∧ zgRk (zyres (zyEl (zymr r c) B s.heap)) (Int32.ofNat f0) (zyN1 x) K = zyN1 x ∧ zgRk (zyres (zyEl (zymr r c) B s.heap)) (Int32.ofNat f0) (zyN1 o) K = zyN1 o ∧ ρ 6 = Int32.ofNat (zgP (zyres (zyEl (zymr r c) B s.heap))) ∧ ρ 4 = Int32.ofNat (zgRk (zyres (zyEl (zymr r c) B s.heap)) (Int32.ofNat f0) (zyN1 x) k) ∧ ρ 5 = Int32.ofNat (zgRk (zyres (zyEl (zymr r c) B s.heap)) (Int32.ofNat f0) (zyN1 o) k))))
    (fun _ _ κ _ ρ _ => if κ.1 = 0 then 5000000000 else 4294967295 - zB (ρ 7)) ?_ ?_ ?_
  · intro κ hκ
    rcases hK κ hκ with e | e
    · rw [e]; exact (zand_iff hw).1
    · rw [e]; exact (zand_iff hw).2
  · intro κ hκ
    rcases hK κ hκ with e | e
    · rw [e]; exact q1
    · rw [e]; exact q2
  · intro B AsV hA s lsA hKn hI hPk hlv
    obtain ⟨v0, t0, rfl, a1, hA1⟩ := zySt_c (show zySt _ (595 :: zyS r c :: zyS r c :: zyc 0 1073741824 :: []) _ from hA)
    obtain ⟨v1, t1, rfl, a2, hA2⟩ := zySt_c hA1
    obtain ⟨v2, t2, rfl, a3, hA3⟩ := zySt_c hA2
    obtain ⟨v3, t3, rfl, a4, hA4⟩ := zySt_c hA3
    have e0 : v0 = .ref (zad B 74) := zyv_3 (v := 595) a1 (by decide)
    subst e0
    obtain ⟨x, rfl⟩ := zyv_int a2 (by rw [zyS_def]; omega)
    obtain ⟨o, rfl⟩ := zyv_int a3 (by rw [zyS_def]; omega)
    have hz : zyc 0 1073741824 % 8 = 2 := rfl
    obtain ⟨f, rfl⟩ := zyv_int a4 (by omega)
    obtain ⟨ex, hx⟩ := zyS_iff hrc a2
    obtain ⟨eo, ho⟩ := zyS_iff hrc a3
    obtain ⟨f1, f2⟩ := zyc_iff (by decide) a4
    have hf := zyN1_lo (x := f) (by omega)
    have a5 : lsA[3]? = some (.val (.int f)) := hlv.2.2 (3, .int f) (List.mem_cons_of_mem _ (List.mem_cons_of_mem _ (List.mem_cons_of_mem _ List.mem_cons_self)))
    exact ⟨x, o, zyN1 f, zyrho_l (show 1 < 10 by decide) (zyarg1 hlv), zyrho_l (show 2 < 10 by decide) (zyarg2 hlv), (zyrho_l (show 3 < 10 by decide) a5).trans (zN_self f).symm, by omega, ex, hx, eo, ho, Or.inl rfl⟩
  · intro B AsV hA κ hκ s ρ H hPk hI hInv ρ2 N2 w pc ls st q m H2 locs2 lsB stA hs hag hR
    obtain ⟨x, o, f0, r1, r2, r3, hf0, ex, hxs, eo, hos, hInv⟩ := hInv
    obtain ⟨est, hpc, l1, l2, l3, hcase⟩ := zystm_iff hs
    obtain ⟨rr, cc⟩ := zyrc (show r < 2147483648 by omega) (show c < 2147483648 by omega) hI
    have rr := zgr_res.1.trans rr
    have cc := zgr_res.2.trans cc
    obtain ⟨p12a, p12b, p12c⟩ := zgP_12 h2 h4 hI
    have hκ1 : κ.2.1 = 10 := by
      rcases hK κ hκ with e | e <;> rw [e] <;> rfl
    have hN : 10 ≤ N2 := by
      have := hR.1.2.2.1.1
      rw [← hκ1]
      exact this
    have hLs := hR.2.2.2.1
    have hsv : ∀ i, i < 10 → zyV (B, ρ2, N2, ρ, κ.2.1, (zyEl (zymr r c) B s.heap, fun q => s.heap[q]?), J) (zysym i) (.int (ρ i)) := by
      intro i hi
      rw [← hag i (by omega)]
      exact zysym_v (X := (B, ρ2, N2, ρ, κ.2.1, (zyEl (zymr r c) B s.heap, fun q => s.heap[q]?), J)) (show i < N2 by omega)
    have hr1 : zyrho (zyPm r c).1 B H2 ((zxi290, 4, 10, 11, 290, 0, 0, 1, 0) : zEn).2.2.1 lsB (zyκml r c).2.2.2.2.1 1 = x := zyrho_ag hLs (by decide) (by rw [l1]; exact zysym_k 1) (by rw [l1, ← r1]; exact hsv 1 (by decide))
    have hr2 : zyrho (zyPm r c).1 B H2 ((zxi290, 4, 10, 11, 290, 0, 0, 1, 0) : zEn).2.2.1 lsB (zyκml r c).2.2.2.2.1 2 = o := zyrho_ag hLs (by decide) (by rw [l2]; exact zysym_k 2) (by rw [l2, ← r2]; exact hsv 2 (by decide))
    have hr3 : zyrho (zyPm r c).1 B H2 ((zxi290, 4, 10, 11, 290, 0, 0, 1, 0) : zEn).2.2.1 lsB (zyκml r c).2.2.2.2.1 3 = Int32.ofNat f0 := zyrho_ag hLs (by decide) (by rw [l3]; exact zysym_k 3) (by rw [l3, ← r3]; exact hsv 3 (by decide))
    rcases hcase with ⟨hk0, hin, l4, l5, l7, hq⟩ | ⟨hk0, l6, l7, hg, ha, hb, hcut⟩
    · have e4 : zyrho (zyPm r c).1 B H2 ((zxi290, 4, 10, 11, 290, 0, 0, 1, 0) : zEn).2.2.1 lsB (zyκml r c).2.2.2.2.1 4 = x := zyrho_ag hLs (by decide) (by rw [l4]; exact zysym_k 1) (by rw [l4, ← r1]; exact hsv 1 (by decide))
      have e5 : zyrho (zyPm r c).1 B H2 ((zxi290, 4, 10, 11, 290, 0, 0, 1, 0) : zEn).2.2.1 lsB (zyκml r c).2.2.2.2.1 5 = o := zyrho_ag hLs (by decide) (by rw [l5]; exact zysym_k 2) (by rw [l5, ← r2]; exact hsv 2 (by decide))
      have e7 : zyrho (zyPm r c).1 B H2 ((zxi290, 4, 10, 11, 290, 0, 0, 1, 0) : zEn).2.2.1 lsB (zyκml r c).2.2.2.2.1 7 = 0 := zyrho_ag hLs (by decide) (by rw [l7]; decide) (by rw [l7]; exact zyv_zero)
      obtain ⟨pv, x6, y6, z6, -, -, c3, hrel6, hq⟩ := zqfn_iff (id := 6) hR.1.2.2.2 hq
      obtain ⟨kp, hq⟩ := zand_iff hq
      have hq := zbeqT hq
      have hrel6 : zyRr 6 (zyEl (zymr r c) B s.heap) x6 y6 z6 := by rw [← hJ.2]; exact hrel6
      have hz6 := zyRr0_6 (zyRr_get (by decide) hrel6)
      have e6 : zyrho (zyPm r c).1 B H2 ((zxi290, 4, 10, 11, 290, 0, 0, 1, 0) : zEn).2.2.1 lsB (zyκml r c).2.2.2.2.1 6 = z6 := zyrho_ag hLs (by decide) (by rw [← hq]; exact zbleT kp) (by rw [← hq]; exact c3)
      obtain ⟨mlt, minj⟩ := zgR_map (y := Int32.ofNat f0) h1 h2 h3 h4 rr cc
      obtain ⟨ms, s1, s2, s3⟩ := zyorbit mlt minj hxs
      obtain ⟨mo, o1, o2, o3⟩ := zyorbit mlt minj hos
      have hms : ms * mo ≤ 80 * 80 := Nat.mul_le_mul (by omega) (by omega)
      have hms1 : 1 * 1 ≤ ms * mo := Nat.mul_le_mul s1 o1
      have hPK : zgP (zyres (zyEl (zymr r c) B s.heap)) * (ms * mo) ≤ 12 * 6400 := Nat.mul_le_mul p12b (by omega)
      have hPK1 : 1 * 1 ≤ zgP (zyres (zyEl (zymr r c) B s.heap)) * (ms * mo) := Nat.mul_le_mul p12a (by omega)
      have hL : ∀ g, g < zgNG r c → 1 ≤ zyN1 (zyI (zyres (zyEl (zymr r c) B s.heap)) 75 (40 + g)) ∧ zyN1 (zyI (zyres (zyEl (zymr r c) B s.heap)) 75 (40 + g)) ≤ 4 ∧ zyN1 (zyI (zyres (zyEl (zymr r c) B s.heap)) 75 (40 + g)) ∣ zgP (zyres (zyEl (zymr r c) B s.heap)) := by
        intro g hg
        obtain ⟨b1, b2⟩ := zylong hI (show g ≤ 30 by omega)
        exact ⟨b1, b2, p12c g hg⟩
      have hlim : f0 + zgP (zyres (zyEl (zymr r c) B s.heap)) * (ms * mo + 1) < 2147483648 := by
        rw [Nat.mul_succ]
        omega
      have k1 := (zgRk_rounds (f0 := f0) h1 h2 h3 h4 rr cc hxs hL (ms * mo) hlim).trans (zyit_mul s3 mo)
      have k3 : zyit (fun q => zgR (zyres (zyEl (zymr r c) B s.heap)) q (Int32.ofNat f0)) (ms * mo) (zyN1 o) = zyN1 o := by
        rw [Nat.mul_comm ms mo]
        exact zyit_mul o3 ms
      have k2 := (zgRk_rounds (f0 := f0) h1 h2 h3 h4 rr cc hos hL (ms * mo) hlim).trans k3
      refine ⟨zyκml r c, by simp, est, hpc, ⟨w, rfl, hR.1.1, hin⟩, ⟨x, o, f0, hr1, hr2, hr3, hf0, ex, hxs, eo, hos, Or.inr ⟨rfl, 0, zgP (zyres (zyEl (zymr r c) B s.heap)) * (ms * mo), e7, Nat.zero_le _, by omega, by omega, Nat.dvd_mul_right _ _, k1, k2, e6.trans hz6, e4.trans ex, e5.trans eo⟩⟩, ?_⟩
      rw [if_pos hk0, if_neg (show ¬ (zyκml r c).1 = 0 from fun q => by cases q)]
      omega
    · rcases hInv with e | ⟨eκ, k, K, i7, hkK, hK1, hK2, hPK, hKx, hKo, i6, i4, i5⟩
      · rw [e] at hk0; exact absurd rfl hk0
      have hlt : k < K := by
        rcases Nat.lt_or_ge k K with q | q
        · exact q
        exfalso
        have ekK : k = K := by omega
        rcases zqeq_iff hR.1.1 hR.1.2.2.2 (zysym_k 7) (show 0 % 8 ≤ 1 by decide) (hsv 7 (by decide)) zyv_zero hg with ⟨g, -⟩ | ⟨-, g⟩
        · rw [i7] at g
          have g2 := congrArg zyN1 g
          rw [zyN1_of (by omega), show zyN1 0 = 0 from rfl] at g2
          omega
        obtain ⟨v, xx, yy, t1, t2, t3, g⟩ := zqop_iff hR.1.2.2.2 (by decide) g
        obtain ⟨kv, g⟩ := zand_iff g
        have w1 := zyv_one (zysym_k 7) (hsv 7 (by decide)) t1
        have w2 := zyv_one (zysym_k 6) (hsv 6 (by decide)) t2
        have hrem : zyG 5 xx yy = 0 := by
          have e9 : zyG 5 xx yy = xx - xx / yy * yy := rfl
          have e10 : Int32.ofNat k - Int32.ofNat k / Int32.ofNat (zgP (zyres (zyEl (zymr r c) B s.heap))) * Int32.ofNat (zgP (zyres (zyEl (zymr r c) B s.heap))) = Int32.ofNat (k % zgP (zyres (zyEl (zymr r c) B s.heap))) := pk_rem (a := k) (d := zgP (zyres (zyEl (zymr r c) B s.heap))) (by omega) (by omega) (by omega)
          rw [e9, ← w1, ← w2, i7, i6, e10, ekK, Nat.mod_eq_zero_of_dvd hPK]
          rfl
        rcases zqeq_iff hR.1.1 hR.1.2.2.2 (zbleT kv) (show 0 % 8 ≤ 1 by decide) t3 zyv_zero g with ⟨-, g⟩ | ⟨g, -⟩
        · rcases zqeq_iff hR.1.1 hR.1.2.2.2 (zysym_k 4) (zysym_k 1) (hsv 4 (by decide)) (hsv 1 (by decide)) g with ⟨-, g⟩ | ⟨g, -⟩
          · rcases zqeq_iff hR.1.1 hR.1.2.2.2 (zysym_k 5) (zysym_k 2) (hsv 5 (by decide)) (hsv 2 (by decide)) g with ⟨-, g⟩ | ⟨g, -⟩
            · cases g
            · apply g
              rw [i5, r2, ekK, hKo]
              exact eo.symm
          · apply g
            rw [i4, r1, ekK, hKx]
            exact ex.symm
        · exact g hrem
      have hRx := zgRk_lt (t := Int32.ofNat f0) h1 h2 h3 h4 rr cc hxs k
      have hRo := zgRk_lt (t := Int32.ofNat f0) h1 h2 h3 h4 rr cc hos k
      have step : ∀ (i : Nat) (sl : Nat) (av : Int32), i < 10 → ρ i = Int32.ofNat sl → sl < zgNS r c → zyma w m.2 (zyag ls i) (zysym i) = true → zyrho (zyPm r c).1 B H2 ((zxi290, 4, 10, 11, 290, 0, 0, 1, 0) : zEn).2.2.1 lsB (zyκml r c).2.2.2.2.1 i = Int32.ofNat (zgM (zyres (zyEl (zymr r c) B s.heap)) sl (Int32.ofNat f0 + Int32.ofNat k)) := by
        intro i sl av hi hsl hlt2 hq
        obtain ⟨kz, z, vz, ez⟩ := zyma_iff (X := (B, ρ2, N2, ρ, κ.2.1, (zyEl (zymr r c) B s.heap, fun q => s.heap[q]?), J)) hR.1.1 hR.1.2.2.2 hJ.2 (hsv 3 (by decide)) (hsv 7 (by decide)) (hsv i hi) hq
        have ez : z = Int32.ofNat (zgV (zyres (zyEl (zymr r c) B s.heap)) (zyN1 (Int32.ofNat (zgT (zgc (zyres (zyEl (zymr r c) B s.heap))) (zyN1 (ρ i))))) (ρ 3 + ρ 7)) := ez
        have hT := (zgfacts h1 h2 h3 h4 hlt2).1
        have u1 : zyN1 (Int32.ofNat sl) = sl := zyN1_of (by omega)
        have u2 : zyN1 (Int32.ofNat (zgT c sl)) = zgT c sl := zyN1_of (by omega)
        rw [hsl, u1, cc, u2, r3, i7] at ez
        have e : zyrho (zyPm r c).1 B H2 ((zxi290, 4, 10, 11, 290, 0, 0, 1, 0) : zEn).2.2.1 lsB (zyκml r c).2.2.2.2.1 i = z := zyrho_ag hLs hi kz vz
        rw [e, ez]
        unfold zgM
        rw [cc]
      have e4 := step 4 _ 0 (by decide) i4 hRx ha
      have e5 := step 5 _ 0 (by decide) i5 hRo hb
      have e6 : zyrho (zyPm r c).1 B H2 ((zxi290, 4, 10, 11, 290, 0, 0, 1, 0) : zEn).2.2.1 lsB (zyκml r c).2.2.2.2.1 6 = Int32.ofNat (zgP (zyres (zyEl (zymr r c) B s.heap))) := zyrho_ag hLs (by decide) (by rw [l6]; exact zysym_k 6) (by rw [l6, ← i6]; exact hsv 6 (by decide))
      have hp : zyV (B, ρ2, N2, ρ, κ.2.1, (zyEl (zymr r c) B s.heap, fun q => s.heap[q]?), J) (zyag ls 7) (.int (Int32.ofNat (k + 1))) := by
        have hp := zysym_p (X := (B, ρ2, N2, ρ, κ.2.1, (zyEl (zymr r c) B s.heap, fun q => s.heap[q]?), J)) (i := 7) (c := 1) (show 7 < N2 by omega) (by decide)
        have e9 : zyρ (B, ρ2, N2, ρ, κ.2.1, (zyEl (zymr r c) B s.heap, fun q => s.heap[q]?), J) 7 + Int32.ofNat 1 = Int32.ofNat (k + 1) := by
          show ρ2 7 + Int32.ofNat 1 = _
          rw [hag 7 (by omega), i7, ← zyofA]
        rw [e9] at hp
        rw [l7]
        exact hp
      have e7 : zyrho (zyPm r c).1 B H2 ((zxi290, 4, 10, 11, 290, 0, 0, 1, 0) : zEn).2.2.1 lsB (zyκml r c).2.2.2.2.1 7 = Int32.ofNat (k + 1) := zyrho_ag hLs (by decide) (by rw [l7]; exact zysym_pk) hp
      obtain ⟨w3, ew, hE3, hin⟩ := zycut_iff hcut hR.1.1 hp (by rw [zB_of4 (by omega)]; omega) (by rw [zB_of4 (by omega)]; omega)
      refine ⟨zyκml r c, by simp, est, hpc, ⟨w3, ew, hE3, hin⟩, ⟨x, o, f0, hr1, hr2, hr3, hf0, ex, hxs, eo, hos, Or.inr ⟨rfl, k + 1, K, e7, by omega, hK1, hK2, hPK, hKx, hKo, e6, e4, e5⟩⟩, ?_⟩
      rw [if_neg hk0, if_neg (show ¬ (zyκml r c).1 = 0 from fun q => by cases q), e7, i7, zB_of4 (by omega), zB_of4 (by omega)]
      omega
  · intro B AsV hA κ hκ s ρ H hPk hI hInv ρ2 w v m t vo hbt hag hE hF hM hvo
    obtain ⟨x, o, f0, r1, r2, r3, hf0, ex, hxs, eo, hos, hInv⟩ := hInv
    obtain ⟨c1, c2⟩ := zand_iff hbt
    have c1 := zbeqT c1
    rcases hInv with e | ⟨eκ, k, K, i7, hkK, hK1, -⟩
    · rw [e] at c1; cases c1
    have hκ1 : κ.2.1 = 10 := by rw [eκ]; rfl
    have hN : 10 ≤ w.1 := by have := hag.1; omega
    refine zyvr_of ?_
    rcases zif_iff c2 with ⟨c2, -⟩ | ⟨-, c2⟩
    · have ev := zylb_iff c2
      subst ev
      cases vo with
      | none => exact hvo.elim
      | some z =>
        have hvo : zyV (B, ρ2, w.1, ρ, κ.2.1, (zyEl (zymr r c) B s.heap, fun q => s.heap[q]?), J) (zysym 7) z := hvo
        obtain ⟨z2, rfl⟩ := zyv_int hvo (by have := zysym_k 7; omega)
        have ez := zyv_one (zysym_k 7) (zysym_v (X := (B, ρ2, w.1, ρ, κ.2.1, (zyEl (zymr r c) B s.heap, fun q => s.heap[q]?), J)) (show 7 < w.1 by omega)) hvo
        have ez : ρ2 7 = z2 := ez
        rw [hag.2 7 (by omega), i7] at ez
        rw [← ez]
        show zyv _ _ _ (8 * (2147483647 * 4294967296 + 2147563648) + 2) _
        exact zyv_bd (by rw [zB_of4 (by omega)]; omega) (by rw [zB_of4 (by omega)]; omega) (by decide)
    · have ev := zylb_iff c2
      subst ev
      cases vo with
      | none => exact hvo.elim
      | some z =>
        have hvo : zyV (B, ρ2, w.1, ρ, κ.2.1, (zyEl (zymr r c) B s.heap, fun q => s.heap[q]?), J) 34359738360 z := hvo
        obtain ⟨z2, rfl⟩ := zyv_int hvo (by decide)
        have ez := zyv_one (by decide) (show zyV (B, ρ2, w.1, ρ, κ.2.1, (zyEl (zymr r c) B s.heap, fun q => s.heap[q]?), J) 34359738360 (.int (Int32.ofNat 4294967295)) from zyv_mk (u := 4294967295) rfl) hvo
        have hb : zB (Int32.ofNat 4294967295) = 2147483647 := by decide +kernel
        rw [← ez]
        show zyv _ _ _ (8 * (2147483647 * 4294967296 + 2147563648) + 2) _
        exact zyv_bd (by rw [hb]; omega) (by rw [hb]; omega) (by decide)
