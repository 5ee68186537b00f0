/-! THE REFERENCE: whether a switch is open -/
noncomputable def zyk1b (x : Nat) : Bool := Nat.ble (Nat.mod x 8) 1
noncomputable def zygs (o : Nat) : Nat := Nat.add (zysym 1) (Nat.mul 8 o)
noncomputable def zyqP (w : zW) (v : List Nat) (F : List zyF) : Bool := zqE 75 (zygs 8) (fun p => zand (zyk1b p) (zqE 75 (zygs 40) (fun L => zand (zyk1b L) (zqop 5 (zysym 2) L (fun a => zand (zyk1b a) (zqop 9 p a (fun b => zand (zyk1b b) (zqop 4 b 8 (fun d => zand (zyk1b d) (zqeq w F d 8 (zylb v [8]) (zylb v [0]))) F)) F)) F)) F)) F
noncomputable def zyqS (w : zW) (v : List Nat) (F : List zyF) (st : Nat) : Bool := zqop 1008 (zysym 1) 0 (fun n => zand (zyk1b n) (zqop 9 st n (fun b => zand (zyk1b b) (zqop 4 b 8 (fun d => zand (zyk1b d) (zqeq w F d 8 (zylb v [8]) (zylb v [0]))) F)) F)) F
noncomputable def zyqR (w : zW) (v : List Nat) (F : List zyF) (h : Nat) : Bool := zqlt w F 0 h (zqeq w F h 16 (zylb v [8]) (zylb v [0])) (zqE 74 64 (fun st => zand (zyk1b st) (zqlt w F st 0 (zyqP w v F) (zqE 75 (zygs 104) (fun fr => zand (zyk1b fr) (zqeq w F fr 8 (zyqS w v F st) (zyqP w v F))) F))) F)
noncomputable def zyqO (w : zW) (v : List Nat) (F : List zyF) : Bool := zqE 74 72 (fun ip => zand (zyk1b ip) (zqeq w F ip 0 (zqE 75 (zygs 72) (fun h => zand (zyk1b h) (zyqR w v F h)) F) (zqE 74 32 (fun fs => zand (zyk1b fs) (zqeq w F (zysym 1) fs (zqE 74 40 (fun h => zand (zyk1b h) (zyqR w v F h)) F) (zqE 74 48 (fun os => zand (zyk1b os) (zqeq w F (zysym 1) os (zqE 74 56 (fun h => zand (zyk1b h) (zyqR w v F h)) F) (zyqR w v F 0))) F))) F))) F
noncomputable def zyκo : zyKt := (0, 4, [595, zysym 1, zysym 2, 13], [(0, 4294967295), (2147483648, 2147483678), (0, 4294967295), (0, 4294967295)], [], [])
noncomputable def zyPo (r c : Nat) : zyP := (zymr r c, fun y => zif (Nat.beq y 209) [([595, zyc 0 30], [], [34359738362, 8], 1, [], [])] [], [], zydr, 0)
theorem zyruno_all : zyAllP (fun r c => zand (zyok (fun w v m => zand (zyfitM w (zymr r c) m.1) (zand (zypre w (zymr r c) m.1 []) (zyqO w v m.2))) (zyPo r c) zystop0 200000 (4, zyκo.2.2.2.1) zxi210 (210, 0, 0, 2, 0) 0 zyκo.2.2.1 [] (3, 0, 0) [] ([], [])) (zpad 4 (zexp [595, zyc 0 30, 34359738362]) (fun l2 => zyincl (zyPo r c) 4 (0, []) l2 [] zyκo))) = true := by decide +kernel
section ZYO
variable {X : zyX} {w : zW} {v : List Nat} {F : List zyF} {g t : Int32}
/-- an element behind the switch's number -/
theorem zyix1 {o : Nat} {k : Nat → Bool} (hF : ∀ f ∈ F, zyFm X f) (h1 : 1 < zyN X) (hg : zyρ X 1 = g) (b1 : 2147483648 ≤ zB g) (b2 : zB g ≤ 2147483678) (ho : o = 8 ∨ o = 40 ∨ o = 72 ∨ o = 104) (h : zqE 75 (zygs o) k F = true) : ∃ e, zyV X e (.int (zyI (zyres (zyE X)) 75 (o + min (zyN1 g) 31))) ∧ k e = true := by
  obtain ⟨e, jx, x, p1, p2, p3, p4, p5⟩ := zqE_iff hF h
  have hj := zyix (B := []) h1 p2 p3 (by rw [hg]; exact b1) (by rw [hg]; omega) (by omega)
  rw [hg] at hj
  have n1 := zyN1_lo b1
  refine ⟨e, ?_, p5⟩
  rw [zyI_res (by omega), show o + min (zyN1 g) 31 = jx by omega]
  unfold zyI
  rw [p4]
  exact p1
theorem zyfld {j : Nat} {k : Nat → Bool} (hF : ∀ f ∈ F, zyFm X f) (hj : 4 ≤ j ∧ j ≤ 9) (h : zqE 74 (8 * j) k F = true) : ∃ e, zyV X e (.int (zyI (zyres (zyE X)) 74 j)) ∧ k e = true := by
  obtain ⟨e, jx, x, p1, p2, p3, p4, p5⟩ := zqE_iff hF h
  have e1 := Value.int.inj (zyv_0 p2 (by omega))
  rw [show 8 * j / 8 = j by omega] at e1
  have e3 : (Int32.ofNat jx).toBitVec.toNat = (Int32.ofNat j).toBitVec.toNat := by rw [e1]
  rw [zN_of, zN_of] at e3
  have e4 : jx = j := by omega
  refine ⟨e, ?_, p5⟩
  rw [zyI_res (by omega)]
  unfold zyI
  rw [← e4, p4]
  exact p1
theorem zyans1 {d : Nat} {x : Int32} (hE : zEnv (zyρ X) w.2) (hF : ∀ f ∈ F, zyFm X f) (hd : d % 8 ≤ 1) (hx : zyV X d (.int x)) (h : zqeq w F d 8 (zylb v [8]) (zylb v [0]) = true) : v = [8 * (if x = 1 then 1 else 0)] := by
  rcases zqeq_iff hE hF hd (by decide) hx (zyv_mk (u := 1) rfl) h with ⟨e, h2⟩ | ⟨e, h2⟩
  · have e : x = 1 := e
    rw [if_pos e]
    exact zylb_iff h2
  · have e : ¬ x = 1 := e
    rw [if_neg e]
    exact zylb_iff h2
theorem zyqP_iff (hE : zEnv (zyρ X) w.2) (hF : ∀ f ∈ F, zyFm X f) (h2 : 2 < zyN X) (hg : zyρ X 1 = g) (ht : zyρ X 2 = t) (b1 : 2147483648 ≤ zB g) (b2 : zB g ≤ 2147483678) (h : zyqP w v F = true) : v = [8 * (if (zyI (zyres (zyE X)) 75 (8 + min (zyN1 g) 31) >>> ((t - t / zyI (zyres (zyE X)) 75 (40 + min (zyN1 g) 31) * zyI (zyres (zyE X)) 75 (40 + min (zyN1 g) 31)) &&& 31)) &&& 1 = 1 then 1 else 0)] := by
  obtain ⟨p, hp, h⟩ := zyix1 hF (by omega) hg b1 b2 (Or.inl rfl) h
  obtain ⟨kp, h⟩ := zand_iff h
  obtain ⟨L, hL, h⟩ := zyix1 hF (by omega) hg b1 b2 (Or.inr (Or.inl rfl)) h
  obtain ⟨kL, h⟩ := zand_iff h
  obtain ⟨a, x1, y1, a1, a2, a3, h⟩ := zqop_iff hF (by decide) h
  obtain ⟨ka, h⟩ := zand_iff h
  obtain ⟨b, x3, y3, a4, a5, a6, h⟩ := zqop_iff hF (by decide) h
  obtain ⟨kb, h⟩ := zand_iff h
  obtain ⟨d, x5, y5, a7, a8, a9, h⟩ := zqop_iff hF (by decide) h
  obtain ⟨kd, h⟩ := zand_iff h
  have e1 := zyv_one (zysym_k 2) (zysym_v h2) a1
  rw [ht] at e1
  have e2 := zyv_one (zbleT kL) hL a2
  have e3 := zyv_one (zbleT kp) hp a4
  have e4 := zyv_one (zbleT ka) a3 a5
  have e5 := zyv_one (zbleT kb) a6 a7
  have e6 : (1 : Int32) = y5 := zyv_one (v := 8) (by decide) (zyv_mk (u := 1) rfl) a8
  have hr := zyans1 hE hF (zbleT kd) a9 h
  rw [hr, ← e5, ← e6, ← e3, ← e4, ← e1, ← e2]
  rfl
theorem zyqS_iff {st : Nat} {sv : Int32} (hJ : (zyJ X).2 = zyRr) (hE : zEnv (zyρ X) w.2) (hF : ∀ f ∈ F, zyFm X f) (h2 : 2 < zyN X) (hg : zyρ X 1 = g) (hst : st % 8 ≤ 1) (hsv : zyV X st (.int sv)) (h : zyqS w v F st = true) : v = [8 * (if (sv >>> (zgFn (zyres (zyE X)) (zyN1 g) &&& 31)) &&& 1 = 1 then 1 else 0)] := by
  obtain ⟨n, x1, y1, z1, a1, a2, a3, hrel, h⟩ := zqfn_iff (id := 8) hF h
  obtain ⟨kn, h⟩ := zand_iff h
  obtain ⟨b, x3, y3, a4, a5, a6, h⟩ := zqop_iff hF (by decide) h
  obtain ⟨kb, h⟩ := zand_iff h
  obtain ⟨d, x5, y5, a7, a8, a9, h⟩ := zqop_iff hF (by decide) h
  obtain ⟨kd, h⟩ := zand_iff h
  rw [hJ] at hrel
  have e1 := zyv_one (zysym_k 1) (zysym_v (show 1 < zyN X by omega)) a1
  rw [hg] at e1
  have hz : z1 = zgFn (zyres (zyE X)) (zyN1 g) := by
    have hrel := zyRr_get (by decide) hrel
    rw [← e1] at hrel
    rcases hrel with ⟨q, -⟩ | ⟨q, -⟩ | ⟨q, -⟩ | ⟨q, -⟩ | ⟨q, -⟩ | ⟨q, -⟩ | ⟨q, -⟩ | ⟨q, -⟩ | ⟨-, q⟩
    · omega
    · omega
    · omega
    · omega
    · omega
    · omega
    · omega
    · omega
    · exact q
  have e3 := zyv_one hst hsv a4
  have e4 := zyv_one (zbleT kn) a3 a5
  have e5 := zyv_one (zbleT kb) a6 a7
  have e6 : (1 : Int32) = y5 := zyv_one (v := 8) (by decide) (zyv_mk (u := 1) rfl) a8
  have hr := zyans1 hE hF (zbleT kd) a9 h
  rw [hr, ← e5, ← e6, ← e3, ← e4, hz]
  rfl
theorem zyqR_iff {h0 : Nat} (hJ : (zyJ X).2 = zyRr) (hE : zEnv (zyρ X) w.2) (hF : ∀ f ∈ F, zyFm X f) (h2 : 2 < zyN X) (hg : zyρ X 1 = g) (ht : zyρ X 2 = t) (b1 : 2147483648 ≤ zB g) (b2 : zB g ≤ 2147483678) (hk : h0 % 8 ≤ 1) (hh : zyV X h0 (.int (zgHow (zyres (zyE X)) (zyN1 g)))) (h : zyqR w v F h0 = true) : v = [8 * (if zgO (zyres (zyE X)) (zyN1 g) t = true then 1 else 0)] := by
  unfold zgO
  rcases zqlt_iff hE hF (by decide) hk zyv_zero hh h with ⟨q1, h⟩ | ⟨q1, h⟩
  · rw [if_pos q1]
    rcases zqeq_iff hE hF hk (by decide) hh (zyv_mk (u := 2) rfl) h with ⟨e, h3⟩ | ⟨e, h3⟩
    · have e : zgHow (zyres (zyE X)) (zyN1 g) = 2 := e
      rw [if_pos (by rw [decide_eq_true_eq]; exact e)]
      exact zylb_iff h3
    · have e : ¬ zgHow (zyres (zyE X)) (zyN1 g) = 2 := e
      rw [if_neg (by rw [decide_eq_true_eq]; exact e)]
      exact zylb_iff h3
  · rw [if_neg q1]
    obtain ⟨st, hst, h⟩ := zyfld (j := 8) hF (by decide) h
    obtain ⟨kst, h⟩ := zand_iff h
    rcases zqlt_iff hE hF (zbleT kst) (by decide) hst zyv_zero h with ⟨q2, h⟩ | ⟨q2, h⟩
    · rw [if_neg (show ¬ (¬ zyI (zyres (zyE X)) 74 8 < 0 ∧ zyI (zyres (zyE X)) 75 (104 + min (zyN1 g) 31) = 1) from fun q => q.1 q2), zyqP_iff hE hF h2 hg ht b1 b2 h]
      simp only [decide_eq_true_eq]
    · obtain ⟨fr, hfr, h⟩ := zyix1 hF (by omega) hg b1 b2 (Or.inr (Or.inr (Or.inr rfl))) h
      obtain ⟨kfr, h⟩ := zand_iff h
      rcases zqeq_iff hE hF (zbleT kfr) (by decide) hfr (zyv_mk (u := 1) rfl) h with ⟨e, h3⟩ | ⟨e, h3⟩
      · have e : zyI (zyres (zyE X)) 75 (104 + min (zyN1 g) 31) = 1 := e
        rw [if_pos (show ¬ zyI (zyres (zyE X)) 74 8 < 0 ∧ zyI (zyres (zyE X)) 75 (104 + min (zyN1 g) 31) = 1 from ⟨q2, e⟩), zyqS_iff hJ hE hF h2 hg (zbleT kst) hst h3]
        simp only [decide_eq_true_eq]
      · have e : ¬ zyI (zyres (zyE X)) 75 (104 + min (zyN1 g) 31) = 1 := e
        rw [if_neg (show ¬ (¬ zyI (zyres (zyE X)) 74 8 < 0 ∧ zyI (zyres (zyE X)) 75 (104 + min (zyN1 g) 31) = 1) from fun q => e q.2), zyqP_iff hE hF h2 hg ht b1 b2 h3]
        simp only [decide_eq_true_eq]
theorem zyqO_iff (hJ : (zyJ X).2 = zyRr) (hE : zEnv (zyρ X) w.2) (hF : ∀ f ∈ F, zyFm X f) (h2 : 2 < zyN X) (hg : zyρ X 1 = g) (ht : zyρ X 2 = t) (b1 : 2147483648 ≤ zB g) (b2 : zB g ≤ 2147483678) (h : zyqO w v F = true) : v = [8 * (if zgO (zyres (zyE X)) (zyN1 g) t = true then 1 else 0)] := by
  have hgn : Int32.ofNat (zyN1 g) = g := zN_self g
  have hs1 := zysym_v (show 1 < zyN X by omega)
  rw [hg] at hs1
  obtain ⟨ip, hip, h⟩ := zyfld (j := 9) hF (by decide) h
  obtain ⟨kip, h⟩ := zand_iff h
  rcases zqeq_iff hE hF (zbleT kip) (by decide) hip zyv_zero h with ⟨e, h⟩ | ⟨e, h⟩
  · obtain ⟨h0, hh0, h⟩ := zyix1 hF (by omega) hg b1 b2 (Or.inr (Or.inr (Or.inl rfl))) h
    obtain ⟨kh, h⟩ := zand_iff h
    refine zyqR_iff hJ hE hF h2 hg ht b1 b2 (zbleT kh) ?_ h
    unfold zgHow
    rw [if_pos e]
    exact hh0
  · obtain ⟨fs, hfs, h⟩ := zyfld (j := 4) hF (by decide) h
    obtain ⟨kfs, h⟩ := zand_iff h
    rcases zqeq_iff hE hF (zysym_k 1) (zbleT kfs) hs1 hfs h with ⟨e2, h⟩ | ⟨e2, h⟩
    · obtain ⟨h0, hh0, h⟩ := zyfld (j := 5) hF (by decide) h
      obtain ⟨kh, h⟩ := zand_iff h
      refine zyqR_iff hJ hE hF h2 hg ht b1 b2 (zbleT kh) ?_ h
      unfold zgHow
      rw [if_neg e, if_pos (hgn.trans e2)]
      exact hh0
    · obtain ⟨os, hos, h⟩ := zyfld (j := 6) hF (by decide) h
      obtain ⟨kos, h⟩ := zand_iff h
      rcases zqeq_iff hE hF (zysym_k 1) (zbleT kos) hs1 hos h with ⟨e3, h⟩ | ⟨e3, h⟩
      · obtain ⟨h0, hh0, h⟩ := zyfld (j := 7) hF (by decide) h
        obtain ⟨kh, h⟩ := zand_iff h
        refine zyqR_iff hJ hE hF h2 hg ht b1 b2 (zbleT kh) ?_ h
        unfold zgHow
        rw [if_neg e, if_neg (fun q => e2 (hgn.symm.trans q)), if_pos (hgn.trans e3)]
        exact hh0
      · refine zyqR_iff hJ hE hF h2 hg ht b1 b2 (by decide) ?_ h
        unfold zgHow
        rw [if_neg e, if_neg (fun q => e2 (hgn.symm.trans q)), if_neg (fun q => e3 (hgn.symm.trans q))]
        exact zyv_zero
end ZYO
theorem zyisOpen {l : Launch} {J : zyJt} (hJ : zyJr J) {r c : Nat} (h1 : 1 ≤ r) (h2 : r ≤ 4) (h3 : 1 ≤ c) (h4 : c ≤ 5) {en : zEn} {me : zMe} (hen : zG zxMeta 210 = some en) (hme : zG zMeth 210 = some me) : zyCon l (zymr r c) J en me ([595, zyc 0 30, 34359738362], [], [zyc 0 1, 3], 3, [], []) := by
  have een : zG zxMeta 210 = some (zxi210, 3, 4, 11, 210, 0, 0, 2, 0) := rfl
  obtain ⟨me1, hme1, hOK⟩ := zall hen
  rw [hme] at hme1
  cases hme1
  rw [een] at hen
  cases hen
  obtain ⟨q1, q2⟩ := zand_iff (zyAllP_iff zyruno_all h1 h2 h3 h4)
  have hw : zywf 4 zyκo = true := by decide +kernel
  have hCon : zyCons l (zyPo r c) J := by
    intro y2 ct en2 me2 hct hen2 hme2
    have hct : ct ∈ zif (Nat.beq y2 209) [([595, zyc 0 30], [], [34359738362, 8], 1, [], [])] [] := hct
    by_cases e : y2 = 209
    · subst e
      have hct : ct ∈ [([595, zyc 0 30], [], [34359738362, 8], 1, [], [])] := hct
      rw [List.mem_singleton.mp hct]
      exact zyfreeN hJ h1 h2 h3 h4 hen2 hme2
    · rw [zybeq_ne e] at hct
      cases hct
  refine zycutC (P := zyPo r c) (J := J) (K := [zyκo]) (κ0 := zyκo) (n := 200000) (bt := fun _ w v m => zyqO w v m.2) (stp := fun _ => zystop0) hOK hCon hJ.1 rfl rfl List.mem_cons_self rfl (fun κ hκ => by rw [List.mem_singleton.mp hκ]; exact hw) (fun _ _ _ _ _ _ _ _ _ _ _ => rfl) (fun κ hκ => by rw [List.mem_singleton.mp hκ]; exact q1) q2 (fun _ _ h => h)
    (fun B AsV κ s ρ H => ∃ g t : Int32, AsV[1]? = some (.int g) ∧ AsV[2]? = some (.int t) ∧ ρ 1 = g ∧ ρ 2 = t ∧ 2147483648 ≤ zB g ∧ zB g ≤ 2147483678) (fun _ _ _ _ _ _ => 0) ?_ (fun B AsV hA κ hκ s ρ H _ _ _ ρ2 N2 w pc ls st q m H2 locs2 lsB stA hs => by cases hs) ?_
  · intro B AsV hA s lsA hKn hI hPk hlv
    obtain ⟨v0, t0, rfl, a1, hA1⟩ := zySt_c hA
    obtain ⟨v1, t1, rfl, a2, hA2⟩ := zySt_c hA1
    obtain ⟨v2, t2, rfl, a3, hA3⟩ := zySt_c hA2
    have e0 : v0 = .ref (zad B 74) := zyv_3 (v := 595) a1 (by decide)
    subst e0
    obtain ⟨g, rfl⟩ := zyv_int a2 (by decide)
    obtain ⟨t, rfl⟩ := zyv_int a3 (by decide)
    have hb := zyc_iff (by decide) a2
    exact ⟨g, t, rfl, rfl, zyrho_l (by decide) (zyarg1 hlv), zyrho_l (by decide) (zyarg2 hlv), by omega, by omega⟩
  · intro B AsV hA κ hκ s ρ H hPk hI hInv ρ2 w v m t vo hbt hag hE hF hM hvo
    obtain ⟨g, t0, hg, ht, r1, r2, b1, b2⟩ := hInv
    have hκ1 : κ.2.1 = 4 := by rw [List.mem_singleton.mp hκ]; rfl
    have hv := zyqO_iff (X := (B, ρ2, w.1, ρ, κ.2.1, (zyEl (zymr r c) B s.heap, fun q => s.heap[q]?), J)) hJ.2 hE hF (show 2 < w.1 by have := hag.1; omega) (show ρ2 1 = g by rw [← r1]; exact hag.2 1 (by omega)) (show ρ2 2 = t0 by rw [← r2]; exact hag.2 2 (by omega)) b1 b2 hbt
    subst hv
    cases vo with
    | none => exact hvo.elim
    | some z =>
      have eA1 : zyAi AsV.toArray 1 = g := by
        unfold zyAi
        rw [show AsV.toArray.toList = AsV by simp, hg]
      have eA2 : zyAi AsV.toArray 2 = t0 := by
        unfold zyAi
        rw [show AsV.toArray.toList = AsV by simp, ht]
      have ez := zyv_0 (show zyV (B, ρ2, w.1, ρ, κ.2.1, (zyEl (zymr r c) B s.heap, fun q => s.heap[q]?), J) (8 * (if zgO (zyres (zyEl (zymr r c) B s.heap)) (zyN1 g) t0 = true then 1 else 0)) z from hvo) (by omega)
      rw [Nat.mul_div_cancel_left _ (by decide)] at ez
      subst ez
      refine ⟨_, rfl, ?_, ?_⟩
      · by_cases hq : zgO (zyres (zyEl (zymr r c) B s.heap)) (zyN1 g) t0 = true
        · rw [if_pos hq]
          exact zyv_bd (lo := 2147483648) (hi := 2147483649) (by decide) (by decide) (by decide)
        · rw [if_neg hq]
          exact zyv_bd (lo := 2147483648) (hi := 2147483649) (by decide) (by decide) (by decide)
      · rw [hJ.2, eA1, eA2]
        refine Or.inl ⟨by decide, Or.inr (Or.inr (Or.inr (Or.inl ⟨rfl, ?_⟩)))⟩
        show Int32.ofNat (if zgO (zyres (zyEl (zymr r c) B s.heap)) (zyN1 g) t0 = true then 1 else 0) = if zgO (zyres (zyEl (zymr r c) B s.heap)) (zyN1 g) t0 = true then 1 else 0
        by_cases hq : zgO (zyres (zyEl (zymr r c) B s.heap)) (zyN1 g) t0 = true
        · rw [if_pos hq, if_pos hq]; rfl
        · rw [if_neg hq, if_neg hq]; rfl
