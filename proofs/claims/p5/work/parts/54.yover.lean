/-! THE REFERENCE: over, mapped -/
noncomputable def zyκ2 (r c : Nat) (nL : Nat) (tl : List Nat) : zyKt := (0, nL, 595 :: zysym 1 :: zysym 2 :: tl, (0, 4294967295) :: (2147483648, Nat.add 2147483647 (zgNS r c)) :: Nat.rec (motive := fun _ => List (Nat × Nat)) [] (fun _ ih => (0, 4294967295) :: ih) (Nat.sub nL 2), [], [])
noncomputable def zyP2 (r c : Nat) (C : Nat → List zyCt) : zyP := (zymr r c, C, [], zydr, 0)
noncomputable def zyrun2 (r c : Nat) (C : Nat → List zyCt) (cf : Nat → zT) (y : zY) (nL dep : Nat) (tl : List Nat) (chk : zW → List Nat → List zyF → Bool) : Bool := zand (zywf nL (zyκ2 r c nL tl)) (zand (zyok (fun w v m => zand (zyfitM w (zymr r c) m.1) (zand (zypre w (zymr r c) m.1 []) (chk w v m.2))) (zyP2 r c C) zystop0 200000 (nL, (zyκ2 r c nL tl).2.2.2.1) cf y 0 (zyκ2 r c nL tl).2.2.1 [] (dep, 0, 0) [] ([], [])) (zpad nL (zexp [595, zyS r c, 34359738362]) (fun l2 => zyincl (zyP2 r c C) nL (0, []) l2 [] (zyκ2 r c nL tl))))
theorem zyone2 {l : Launch} {J : zyJt} (hJ : zyJr J) {r c : Nat} (h2 : r ≤ 4) (h4 : c ≤ 5) {y0 : Nat} {en : zEn} {me : zMe} (hen : zG zxMeta y0 = some en) (hme : zG zMeth y0 = some me) (hc0 : en.2.2.2.2.2.1 = 0) (hs0 : en.2.2.2.2.2.2.1 = 0) {C : Nat → List zyCt} (hCon : ∀ y2 ct en2 me2, ct ∈ C y2 → zG zxMeta y2 = some en2 → zG zMeth y2 = some me2 → zyCon l (zymr r c) J en2 me2 ct) {dep id res : Nat} {tl : List Nat} (hnL : 3 ≤ en.2.2.1) (chk : zW → List Nat → List zyF → Bool) (hrun : zyrun2 r c C en.1 en.2.2.2.2 en.2.2.1 dep tl chk = true)
    (hid : id < 100) (hne : ∀ w F, chk w [] F = true → False) (hrel : ∀ (X : zyX) (w : zW) (v : List Nat) (F : List zyF) (x y : Int32) (z : Value), (zyJ X).2 = zyRr → zEnv (zyρ X) w.2 → (∀ f ∈ F, zyFm X f) → 2 < zyN X → zyρ X 1 = x → zyρ X 2 = y → zgr (zyres (zyE X)) = r → zgc (zyres (zyE X)) = c → x = Int32.ofNat (zyN1 x) → zyN1 x < zgNS r c → chk w v F = true → (∀ cd, v = [cd] → zyV X cd z) → (∃ cd, v = [cd]) → ∃ zz : Int32, z = .int zz ∧ (∀ (ρ : Nat → Int32) (N : Nat) (ad : Nat → Nat), zyv ρ N ad res (.int zz)) ∧ zyRr0 id (zyres (zyE X)) x y zz) : zyCon l (zymr r c) J en me ([595, zyS r c, 34359738362], [], [res, id], dep, [], []) := by
  obtain ⟨me1, hme1, hOK⟩ := zall hen
  rw [hme] at hme1
  cases hme1
  obtain ⟨hw, q1⟩ := zand_iff hrun
  obtain ⟨q1, q2⟩ := zand_iff q1
  have hb := zyrc20 h2 h4
  refine zycutC (P := zyP2 r c C) (J := J) (K := [zyκ2 r c en.2.2.1 tl]) (κ0 := zyκ2 r c en.2.2.1 tl) (n := 200000) (bt := fun _ w v m => chk w v m.2) (stp := fun _ => zystop0) hOK hCon hJ.1 hc0 hs0 List.mem_cons_self rfl (fun κ hκ => by rw [List.mem_singleton.mp hκ]; exact hw) (fun _ _ _ _ _ _ _ _ _ _ _ => rfl) (fun κ hκ => by rw [List.mem_singleton.mp hκ]; exact q1) q2 (fun _ _ h => h)
    (fun B AsV κ s ρ H => ∃ x y : Int32, AsV[1]? = some (.int x) ∧ AsV[2]? = some (.int y) ∧ ρ 1 = x ∧ ρ 2 = y ∧ x = Int32.ofNat (zyN1 x) ∧ zyN1 x < zgNS r c) (fun _ _ _ _ _ _ => 0) ?_ (fun B AsV hA κ hκ s ρ H _ _ _ ρ2 N2 w pc ls st q m H2 locs2 lsB stA hs => by cases hs) ?_
  · intro B AsV hA s lsA hKn hI hPk hlv
    obtain ⟨v0, t0, rfl, a1, hA1⟩ := zySt_c hA
    obtain ⟨v1, t1, rfl, a2, hA2⟩ := zySt_c hA1
    obtain ⟨v2, t2, rfl, a3, hA3⟩ := zySt_c hA2
    have e0 : v0 = .ref (zad B 74) := zyv_3 (v := 595) a1 (by decide)
    subst e0
    obtain ⟨x, rfl⟩ := zyv_int a2 (by rw [zyS_def]; omega)
    obtain ⟨y, rfl⟩ := zyv_int a3 (by decide)
    obtain ⟨ex, hx⟩ := zyS_iff hb a2
    exact ⟨x, y, rfl, rfl, zyrho_l (by omega) (zyarg1 hlv), zyrho_l (by omega) (zyarg2 hlv), ex, hx⟩
  · intro B AsV hA κ hκ s ρ H hPk hI hInv ρ2 w v m t vo hbt hag hE hF hM hvo
    obtain ⟨x, y, hx, hy, r1, r2, ex, hxs⟩ := hInv
    have hκ1 : κ.2.1 = en.2.2.1 := by rw [List.mem_singleton.mp hκ]; rfl
    obtain ⟨rr, cc⟩ := zyrc (show r < 2147483648 by omega) (show c < 2147483648 by omega) hI
    have eA1 : zyAi AsV.toArray 1 = x := by
      unfold zyAi
      rw [show AsV.toArray.toList = AsV by simp, hx]
    have eA2 : zyAi AsV.toArray 2 = y := by
      unfold zyAi
      rw [show AsV.toArray.toList = AsV by simp, hy]
    match v, vo, hvo with
    | [], none, _ =>
      exact (hne _ _ hbt).elim
    | [cd], some z, hz =>
      obtain ⟨zz, e, hres, hr0⟩ := hrel (B, ρ2, w.1, ρ, κ.2.1, (zyEl (zymr r c) B s.heap, fun q => s.heap[q]?), J) w [cd] m.2 x y z hJ.2 hE hF (show 2 < w.1 by have := hag.1; omega) (show ρ2 1 = x by rw [← r1]; exact hag.2 1 (by omega)) (show ρ2 2 = y by rw [← r2]; exact hag.2 2 (by omega)) (zgr_res.1.trans rr) (zgr_res.2.trans cc) ex hxs hbt (fun cd2 h => by cases h; exact hz) ⟨cd, rfl⟩
      subst e
      refine ⟨zz, rfl, hres _ _ _, ?_⟩
      rw [hJ.2, eA1, eA2]
      exact Or.inl ⟨hid, hr0⟩
noncomputable def zyone (v : List Nat) : Bool := List.rec (motive := fun _ => Bool) false (fun _ t _ => zynil t) v
theorem zyno1 {A : zW → List zyF → Bool} : ∀ w F, zand (zyone []) (A w F) = true → False := fun w F h => by cases (zand_iff h).1
noncomputable def zyCo2 (r c : Nat) : Nat → List zyCt := fun y => zif (Nat.beq y 202) [([595, zyS r c], [], [zyGq r c, 1], 3, [], [])] (zif (Nat.beq y 210) [([595, zyc 0 30, 34359738362], [], [zyc 0 1, 3], 3, [], [])] (zif (Nat.beq y 203) [([595, zyS r c], [], [zyS1 r c, 2], 5, [], [])] []))
noncomputable def zychO (w : zW) (v : List Nat) (F : List zyF) : Bool := zand (zyone v) (zqop 1001 (zysym 1) 0 (fun g => zand (zyk1b g) (zqlt w F g 0 (zylb v [zysym 1]) (zqop 1003 g (zysym 2) (fun o => zand (zyk1b o) (zqeq w F o 0 (zylb v [zysym 1]) (zqop 1002 (zysym 1) 0 (fun f => zand (zyk1b f) (zylb v [f])) F))) F))) F)
theorem zyrunO_all : zyAllP (fun r c => zyrun2 r c (zyCo2 r c) zxi211 (211, 0, 0, 1, 0) 4 6 [13] zychO) = true := by decide +kernel
theorem zyCo2_ok {l : Launch} {J : zyJt} (hJ : zyJr J) {r c : Nat} (h1 : 1 ≤ r) (h2 : r ≤ 4) (h3 : 1 ≤ c) (h4 : c ≤ 5) : ∀ y2 ct en2 me2, ct ∈ zyCo2 r c y2 → zG zxMeta y2 = some en2 → zG zMeth y2 = some me2 → zyCon l (zymr r c) J en2 me2 ct := by
  intro y2 ct en2 me2 hct hen hme
  unfold zyCo2 at hct
  by_cases e0 : y2 = 202
  · subst e0
    have hct : ct ∈ [([595, zyS r c], [], [zyGq r c, 1], 3, [], [])] := hct
    rw [List.mem_singleton.mp hct]
    exact zygateAt hJ h1 h2 h3 h4 hen hme
  rw [zybeq_ne e0, zif_f] at hct
  by_cases e1 : y2 = 210
  · subst e1
    have hct : ct ∈ [([595, zyc 0 30, 34359738362], [], [zyc 0 1, 3], 3, [], [])] := hct
    rw [List.mem_singleton.mp hct]
    exact zyisOpen hJ h1 h2 h3 h4 hen hme
  rw [zybeq_ne e1, zif_f] at hct
  by_cases e2 : y2 = 203
  · subst e2
    have hct : ct ∈ [([595, zyS r c], [], [zyS1 r c, 2], 5, [], [])] := hct
    rw [List.mem_singleton.mp hct]
    exact zyfacing hJ h1 h2 h3 h4 hen hme
  rw [zybeq_ne e2, zif_f] at hct
  cases hct
theorem zyS_mk {r c n : Nat} (hb : r * c ≤ 20) (h : n < zgNS r c) (ρ : Nat → Int32) (N : Nat) (ad : Nat → Nat) : zyv ρ N ad (zyS r c) (.int (Int32.ofNat n)) := by
  have h : n < 4 * (r * c) := h
  rw [zyS_def]
  exact zyv_bd (by rw [zB_of4 (by omega)]; omega) (by rw [zB_of4 (by omega)]; omega) (by omega)
theorem zyRr0_1 {E : zyEm} {x y z : Int32} (h : zyRr0 1 E x y z) : z = Int32.ofNat (zgG (zgr E) (zgc E) (zyN1 x)) := by
  rcases h with ⟨q, -⟩ | ⟨-, q⟩ | ⟨q, -⟩ | ⟨q, -⟩ | ⟨q, -⟩ | ⟨q, -⟩ | ⟨q, -⟩ | ⟨q, -⟩ | ⟨q, -⟩
  · omega
  · exact q
  · omega
  · omega
  · omega
  · omega
  · omega
  · omega
  · omega
theorem zyRr0_0 {E : zyEm} {x y z : Int32} (h : zyRr0 0 E x y z) : z = Int32.ofNat (zgT (zgc E) (zyN1 x)) := by
  rcases h with ⟨-, q⟩ | ⟨q, -⟩ | ⟨q, -⟩ | ⟨q, -⟩ | ⟨q, -⟩ | ⟨q, -⟩ | ⟨q, -⟩ | ⟨q, -⟩ | ⟨q, -⟩
  · exact q
  · omega
  · omega
  · omega
  · omega
  · omega
  · omega
  · omega
  · omega
theorem zyRr0_2 {E : zyEm} {x y z : Int32} (h : zyRr0 2 E x y z) : z = Int32.ofNat (zgF (zgr E) (zgc E) (zyN1 x)) := by
  rcases h with ⟨q, -⟩ | ⟨q, -⟩ | ⟨-, q⟩ | ⟨q, -⟩ | ⟨q, -⟩ | ⟨q, -⟩ | ⟨q, -⟩ | ⟨q, -⟩ | ⟨q, -⟩
  · omega
  · omega
  · exact q
  · omega
  · omega
  · omega
  · omega
  · omega
  · omega
theorem zyRr0_3 {E : zyEm} {x y z : Int32} (h : zyRr0 3 E x y z) : z = if zgO E (zyN1 x) y = true then 1 else 0 := by
  rcases h with ⟨q, -⟩ | ⟨q, -⟩ | ⟨q, -⟩ | ⟨-, q⟩ | ⟨q, -⟩ | ⟨q, -⟩ | ⟨q, -⟩ | ⟨q, -⟩ | ⟨q, -⟩
  · omega
  · omega
  · omega
  · exact q
  · omega
  · omega
  · omega
  · omega
  · omega
theorem zyRr0_4 {E : zyEm} {x y z : Int32} (h : zyRr0 4 E x y z) : z = Int32.ofNat (zgV E (zyN1 x) y) := by
  rcases h with ⟨q, -⟩ | ⟨q, -⟩ | ⟨q, -⟩ | ⟨q, -⟩ | ⟨-, q⟩ | ⟨q, -⟩ | ⟨q, -⟩ | ⟨q, -⟩ | ⟨q, -⟩
  · omega
  · omega
  · omega
  · omega
  · exact q
  · omega
  · omega
  · omega
  · omega
theorem zyover {l : Launch} {J : zyJt} (hJ : zyJr J) {r c : Nat} (h1 : 1 ≤ r) (h2 : r ≤ 4) (h3 : 1 ≤ c) (h4 : c ≤ 5) {en : zEn} {me : zMe} (hen : zG zxMeta 211 = some en) (hme : zG zMeth 211 = some me) : zyCon l (zymr r c) J en me ([595, zyS r c, 34359738362], [], [zyS r c, 4], 6, [], []) := by
  have een : zG zxMeta 211 = some (zxi211, 3, 4, 11, 211, 0, 0, 1, 0) := rfl
  rw [een] at hen
  cases hen
  have hrc := zyrc20 h2 h4
  have hNG := zgNG_le h2 h4
  have hNS := zgNS_le h2 h4
  refine zyone2 hJ h2 h4 een hme rfl rfl (zyCo2_ok hJ h1 h2 h3 h4) (by decide) zychO (zyAllP_iff zyrunO_all h1 h2 h3 h4) (by decide) zyno1 ?_
  intro X w v F x y z hJ2 hE hF hN hx hy hrr hcc ex hxs hch hz _
  obtain ⟨-, h⟩ := zand_iff hch
  obtain ⟨g, x1, y1, z1, a1, a2, a3, hrel, h⟩ := zqfn_iff (id := 1) hF h
  obtain ⟨kg, h⟩ := zand_iff h
  rw [hJ2] at hrel
  have e1 := zyv_one (zysym_k 1) (zysym_v (show 1 < zyN X by omega)) a1
  rw [hx] at e1
  have hz1 := zyRr0_1 (zyRr_get (by decide) hrel)
  rw [← e1, hrr, hcc] at hz1
  have hgf := zgfacts h1 h2 h3 h4 hxs
  have hsx : zyV X (zysym 1) (.int x) := by rw [← hx]; exact zysym_v (by omega)
  have stay : zylb v [zysym 1] = true → zgV (zyres (zyE X)) (zyN1 x) y = zyN1 x → ∃ zz : Int32, z = .int zz ∧ (∀ (ρ : Nat → Int32) (N : Nat) (ad : Nat → Nat), zyv ρ N ad (zyS r c) (.int zz)) ∧ zyRr0 4 (zyres (zyE X)) x y zz := by
    intro hv hV
    have hzv := hz _ (zylb_iff hv)
    obtain ⟨z2, rfl⟩ := zyv_int hzv (by have := zysym_k 1; omega)
    have e9 := zyv_one (zysym_k 1) hzv hsx
    subst e9
    refine ⟨z2, rfl, fun ρ N ad => ?_, Or.inr (Or.inr (Or.inr (Or.inr (Or.inl ⟨rfl, ?_⟩))))⟩
    · rw [ex]; exact zyS_mk hrc hxs ρ N ad
    · rw [hV]; exact ex
  have hgint : zyV X g (.int (Int32.ofNat (zgG r c (zyN1 x)))) := by rw [← hz1]; exact a3
  rcases zqlt_iff hE hF (zbleT kg) (by decide) hgint zyv_zero h with ⟨q1, h⟩ | ⟨q1, h⟩
  · refine stay h ?_
    unfold zgV
    rw [hrr, hcc]
    rcases hgf.2.2 with e | ⟨e, -⟩
    · rw [if_pos e]
    · exfalso
      rw [Int32.lt_iff_toInt_lt] at q1
      have b := zB_int (Int32.ofNat (zgG r c (zyN1 x)))
      rw [zB_of4 (by omega)] at b
      have e0 : (0 : Int32).toInt = 0 := by decide
      omega
  · rcases hgf.2.2 with e | ⟨e, e2, e3, e4⟩
    · exfalso
      apply q1
      rw [e]
      decide
    obtain ⟨o, x3, y3, z3, b1, b2, b3, hrel3, h⟩ := zqfn_iff (id := 3) hF h
    obtain ⟨ko, h⟩ := zand_iff h
    rw [hJ2] at hrel3
    have e5 := zyv_one (zbleT kg) hgint b1
    have e6 := zyv_one (zysym_k 2) (zysym_v (show 2 < zyN X by omega)) b2
    rw [hy] at e6
    have hz3 := zyRr0_3 (zyRr_get (by decide) hrel3)
    rw [← e5, ← e6, zyN1_of (by omega)] at hz3
    have hVne : ¬ zgG r c (zyN1 x) = 4294967295 := by omega
    rcases zqeq_iff hE hF (zbleT ko) (by decide) b3 zyv_zero h with ⟨q2, h⟩ | ⟨q2, h⟩
    · refine stay h ?_
      unfold zgV
      rw [hrr, hcc, if_neg hVne, if_neg (fun q => by rw [if_pos q] at hz3; rw [hz3] at q2; exact absurd q2 (by decide))]
    · obtain ⟨f, x5, y5, z5, c1, c2, c3, hrel5, h⟩ := zqfn_iff (id := 2) hF h
      obtain ⟨kf, h⟩ := zand_iff h
      rw [hJ2] at hrel5
      have e7 := zyv_one (zysym_k 1) hsx c1
      have hz5 := zyRr0_2 (zyRr_get (by decide) hrel5)
      rw [← e7, hrr, hcc] at hz5
      have hzv := hz _ (zylb_iff h)
      obtain ⟨z2, rfl⟩ := zyv_int hzv (by have : f % 8 ≤ 1 := zbleT kf; omega)
      have e9 := zyv_one (zbleT kf) hzv c3
      subst e9
      refine ⟨z2, rfl, fun ρ N ad => ?_, Or.inr (Or.inr (Or.inr (Or.inr (Or.inl ⟨rfl, ?_⟩))))⟩
      · rw [hz5]; exact zyS_mk hrc e2 ρ N ad
      · have hO : zgO (zyres (zyE X)) (zgG r c (zyN1 x)) y = true := by
          cases hq : zgO (zyres (zyE X)) (zgG r c (zyN1 x)) y with
          | true => rfl
          | false =>
            rw [hq] at hz3
            exact absurd hz3 q2
        unfold zgV
        rw [hrr, hcc, if_neg hVne, if_pos hO]
        exact hz5
