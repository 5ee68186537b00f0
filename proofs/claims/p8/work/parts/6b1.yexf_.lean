section
/-! phases: placeOf (printed by yexf.py) -/
noncomputable def zxplo_ar0 : zyXp := (0, [], [171798691833], [(24, 103079215105, 75, 34359739649), (20, 0, 103079215105, 0), (2, 137438953473, 0, 103079215105)], [(34359738369, 2147483648, 2147483947), (103079215105, 2147483641, 2147483647), (137438953473, 2147483649, 2147483655), (171798691833, 2147483648, 2147483654)], [])
noncomputable def zxplo_ar1 : zyXp := (0, [], [137438953465], [(24, 103079215105, 75, 34359739649), (21, 0, 103079215105, 0)], [(34359738369, 2147483648, 2147483947), (103079215105, 2147483648, 2147483655), (137438953465, 2147483647, 2147483654)], [])
noncomputable def zpplo_a : zyPh := (0, [595, 34359738369, 13], [(0, 4294967295), (2147483648, 2147483947), (0, 4294967295)], [], [])
noncomputable def zpplo (i : Nat) : zyPh := zpplo_a
noncomputable def zXplo (i : Nat) : List zyXp := []
noncomputable def zRplo (i : Nat) : List zyXp := [zxplo_ar0, zxplo_ar1]
noncomputable def zFplo (i : Nat) : zyR := []
noncomputable def zSplo (i : Nat) : Nat := 0
end
section
/-! phases: loops, pair (printed by yexg.py) -/
noncomputable def zxloo_ax0 : zyXp := (6, [595, 0, 13, 13, 13], [], [], [], [])
noncomputable def zploo_a : zyPh := (0, [595, 13, 13, 13, 13], [(0, 4294967295), (0, 4294967295), (0, 4294967295), (0, 4294967295), (0, 4294967295)], [], [])
noncomputable def zxloo_bx0 : zyXp := (19, [595, 34359738369, 13, 13, 13], [34359738369, 595, 595], [(24, 171798691841, 75, 32), (20, 0, 34359738369, 171798691841)], [(34359738369, 2147483648, 2147483947), (171798691841, 2147483649, 2147483948)], [])
noncomputable def zxloo_bx1 : zyXp := (37, [595, 0, 0, 0, 13], [], [(24, 171798691841, 75, 32), (21, 0, 34359738369, 171798691841)], [(34359738369, 2147483648, 2147483948), (171798691841, 2147483648, 2147483948)], [])
noncomputable def zploo_b : zyPh := (6, [595, 34359738369, 13, 13, 13], [(0, 4294967295), (2147483648, 2147483948), (0, 4294967295), (0, 4294967295), (0, 4294967295)], [], [])
noncomputable def zxloo_cx0 : zyXp := (6, [595, 34359738377, 13, 13, 13], [], [], [(34359738369, 2147483648, 2147483947), (34359738377, 2147483649, 2147483948)], [])
noncomputable def zploo_c : zyPh := (22, [595, 34359738369, 13, 13, 13], [(0, 4294967295), (2147483648, 2147483947), (0, 4294967295), (0, 4294967295), (0, 4294967295), (2147483648, 2147483654)], [], [171798691841, 595])
noncomputable def zxloo_dx0 : zyXp := (65, [595, 34359738369, 68719476745, 103079215105, 103079215105], [], [(24, 171798691841, 75, 16), (20, 0, 103079215105, 171798691841), (9, 206158430209, 34359738369, 103079215105), (4, 240518168577, 206158430209, 8), (23, 0, 240518168577, 8)], [(34359738369, 2147483648, 2147483903), (103079215105, 2147483648, 2147483655), (171798691841, 2147483649, 2147483656), (206158430209, 2147483648, 2147483903), (240518168577, 2147483648, 2147483648), (68719476745, 0, 4294967295)], [])
noncomputable def zxloo_dx1 : zyXp := (37, [595, 34359738369, 68719476737, 103079215113, 13], [], [(24, 171798691841, 75, 16), (20, 0, 103079215105, 171798691841), (9, 206158430209, 34359738369, 103079215105), (4, 240518168577, 206158430209, 8), (22, 0, 240518168577, 8)], [(34359738369, 2147483648, 2147483903), (103079215105, 2147483648, 2147483655), (171798691841, 2147483649, 2147483656), (206158430209, 2147483648, 2147483903), (240518168577, 2147483649, 2147483649), (103079215113, 2147483649, 2147483656)], [])
noncomputable def zxloo_dr0 : zyXp := (0, [], [68719476737], [(24, 171798691841, 75, 16), (21, 0, 103079215105, 171798691841)], [(103079215105, 2147483648, 2147483656), (171798691841, 2147483648, 2147483656)], [])
noncomputable def zploo_d : zyPh := (37, [595, 34359738369, 68719476737, 103079215105, 13], [(0, 4294967295), (2147483648, 2147483903), (0, 4294967295), (2147483648, 2147483656), (0, 4294967295)], [], [])
noncomputable def zxloo_ex0 : zyXp := (37, [595, 34359738369, 68719476737, 103079215113, 13], [], [(9, 171798691841, 34359738369, 137438953473), (4, 206158430209, 171798691841, 8), (23, 0, 206158430209, 0)], [(34359738369, 2147483648, 2147483903), (103079215105, 2147483648, 2147483655), (137438953473, 2147483648, 2147483655), (171798691841, 2147483648, 2147483903), (206158430209, 2147483649, 2147483649), (103079215113, 2147483649, 2147483656)], [])
noncomputable def zxloo_ex1 : zyXp := (65, [595, 274877906945, 68719476737, 103079215105, 309237645313], [], [(9, 171798691841, 34359738369, 137438953473), (4, 206158430209, 171798691841, 8), (22, 0, 206158430209, 0), (8, 240518168577, 8, 137438953473), (7, 274877906945, 34359738369, 240518168577), (24, 309237645313, 83, 137438953473)], [(34359738369, 2147483648, 2147483903), (103079215105, 2147483648, 2147483655), (137438953473, 2147483648, 2147483655), (171798691841, 2147483648, 2147483903), (206158430209, 2147483648, 2147483648), (240518168577, 2147483649, 2147483776), (274877906945, 2147483648, 2147483903), (309237645313, 2147483648, 2147483655)], [])
noncomputable def zploo_e : zyPh := (65, [595, 34359738369, 68719476737, 103079215105, 137438953473], [(0, 4294967295), (2147483648, 2147483903), (0, 4294967295), (2147483648, 2147483655), (2147483648, 2147483655)], [], [])
noncomputable def zploo (i : Nat) : zyPh := zif (Nat.beq i 0) (zploo_a) (zif (Nat.beq i 1) (zploo_b) (zif (Nat.beq i 2) (zploo_c) (zif (Nat.beq i 3) (zploo_d) (zploo_e))))
noncomputable def zXloo (i : Nat) : List zyXp := zif (Nat.beq i 0) ([zxloo_ax0]) (zif (Nat.beq i 1) ([zxloo_bx0, zxloo_bx1]) (zif (Nat.beq i 2) ([zxloo_cx0]) (zif (Nat.beq i 3) ([zxloo_dx0, zxloo_dx1]) ([zxloo_ex0, zxloo_ex1]))))
noncomputable def zRloo (i : Nat) : List zyXp := zif (Nat.beq i 0) ([]) (zif (Nat.beq i 1) ([]) (zif (Nat.beq i 2) ([]) (zif (Nat.beq i 3) ([zxloo_dr0]) ([]))))
noncomputable def zFloo (i : Nat) : zyR := zif (Nat.beq i 0) ([(83, 0, 7)]) (zif (Nat.beq i 1) ([]) (zif (Nat.beq i 2) ([(83, 0, 7)]) (zif (Nat.beq i 3) ([]) ([]))))
noncomputable def zSloo (i : Nat) : Nat := zif (Nat.beq i 0) (0) (zif (Nat.beq i 1) (0) (zif (Nat.beq i 2) (0) (zif (Nat.beq i 3) (0) (0))))
noncomputable def zxpai_ax0 : zyXp := (48, [595, 34359738369, 68719476737, 0, 0, 13, 13, 13], [], [], [(34359738369, 2147483649, 2147483656), (68719476737, 2147483649, 2147483656)], [])
noncomputable def zxpai_ar0 : zyXp := (0, [], [34359738360], [], [], [])
noncomputable def zppai_a : zyPh := (0, [595, 34359738369, 68719476737, 13, 13, 13, 13, 13], [(0, 4294967295), (0, 4294967295), (0, 4294967295), (0, 4294967295), (0, 4294967295), (0, 4294967295), (0, 4294967295), (0, 4294967295)], [], [])
noncomputable def zxpai_bx0 : zyXp := (62, [595, 34359738369, 68719476737, 103079215105, 137438953473, 13, 13, 13], [137438953473, 595], [(24, 274877906945, 75, 32), (20, 0, 137438953473, 274877906945)], [(137438953473, 2147483648, 2147483947), (274877906945, 2147483649, 2147483948)], [])
noncomputable def zxpai_br0 : zyXp := (0, [], [103079215105], [(24, 274877906945, 75, 32), (21, 0, 137438953473, 274877906945)], [(137438953473, 2147483648, 2147483948), (274877906945, 2147483648, 2147483948)], [])
noncomputable def zppai_b : zyPh := (48, [595, 34359738369, 68719476737, 103079215105, 137438953473, 13, 13, 13], [(0, 4294967295), (0, 4294967295), (0, 4294967295), (0, 4294967295), (2147483648, 2147483948), (0, 4294967295), (0, 4294967295), (0, 4294967295)], [], [])
noncomputable def zxpai_cx0 : zyXp := (48, [595, 34359738369, 68719476737, 103079215105, 137438953481, 13, 13, 13], [], [], [(137438953473, 2147483648, 2147483947), (137438953481, 2147483649, 2147483948)], [])
noncomputable def zxpai_cx1 : zyXp := (48, [595, 34359738369, 68719476737, 103079215113, 137438953481, 13, 13, 13], [], [], [(137438953473, 2147483648, 2147483947), (103079215113, 0, 4294967295), (137438953481, 2147483649, 2147483948)], [])
noncomputable def zxpai_cx2 : zyXp := (48, [595, 34359738369, 68719476737, 137438953465, 137438953481, 13, 13, 13], [], [], [(137438953473, 2147483648, 2147483947), (137438953465, 0, 4294967295), (137438953481, 2147483649, 2147483948)], [])
noncomputable def zppai_c : zyPh := (65, [595, 34359738369, 68719476737, 103079215105, 137438953473, 13, 13, 13], [(0, 4294967295), (0, 4294967295), (0, 4294967295), (0, 4294967295), (2147483648, 2147483947), (0, 4294967295), (0, 4294967295), (0, 4294967295), (2147483648, 2147483654)], [], [274877906945])
noncomputable def zppai (i : Nat) : zyPh := zif (Nat.beq i 0) (zppai_a) (zif (Nat.beq i 1) (zppai_b) (zppai_c))
noncomputable def zXpai (i : Nat) : List zyXp := zif (Nat.beq i 0) ([zxpai_ax0]) (zif (Nat.beq i 1) ([zxpai_bx0]) ([zxpai_cx0, zxpai_cx1, zxpai_cx2]))
noncomputable def zRpai (i : Nat) : List zyXp := zif (Nat.beq i 0) ([zxpai_ar0]) (zif (Nat.beq i 1) ([zxpai_br0]) ([]))
noncomputable def zFpai (i : Nat) : zyR := zif (Nat.beq i 0) ([(74, 2, 3), (83, 0, 7)]) (zif (Nat.beq i 1) ([]) ([(83, 0, 7)]))
noncomputable def zSpai (i : Nat) : Nat := zif (Nat.beq i 0) (0) (zif (Nat.beq i 1) (0) (0))
end
section
/-! PLACES of letters, loops, pairs -/
theorem zVl_n0 {m : Nat} {x : Int32} (hm : m ≤ 8) (h : zVl m x) : ¬ x = Int32.ofNat 0 := by
  obtain ⟨σ, k, h1, ⟨-, h2⟩ | ⟨-, h2⟩⟩ := h
  · rw [h2]
    exact fun q => by have := zyOi (by omega) (by omega) q; omega
  · rw [h2]
    exact fun q => by have := zyOi (by omega) (by omega) q; omega
theorem zyfrP {E E2 : zyEm} {p lo hi : Nat} (h : ∀ a k, zyin [(p, lo, hi)] a k = false → E2 a k = E a k) : ∀ a k, ¬ a = p → E2 a k = E a k := by
  intro a k hn
  apply h
  cases hq : zyin [(p, lo, hi)] a k with
  | false => rfl
  | true =>
    obtain ⟨p0, g1, g2, g3, g4⟩ := zyin_iff.mp hq
    rw [List.mem_singleton.mp g1] at g2
    exact absurd g2.symm hn
theorem zseen : ∀ s, s < 256 → ∀ a, a < 8 → zyG 4 (zyG 9 (Int32.ofNat s) (Int32.ofNat a)) (Int32.ofNat 1) = Int32.ofNat 0 → s < zyN1 (zyG 7 (Int32.ofNat s) (zyG 8 (Int32.ofNat 1) (Int32.ofNat a))) := by decide +kernel
def zyΦpl (as : List Int32) (E : zyEm) : Prop := ∃ m k : Nat, m ≤ 8 ∧ k < 300 ∧ as = [Int32.ofNat k] ∧ Int32.ofNat k < zyI E 75 4 ∧ zLv E m
def zyΨpl (_ : List Int32) (E E2 : zyEm) (vo : Option Value) : Prop := E2 = E ∧ ∃ z : Int32, vo = some (.int z) ∧ 2147483648 ≤ zB z ∧ zB z ≤ 2147483654
theorem zyplo_run : zyAllP (fun r c => zyrS (zymr r c) zxi249 (249, 0, 0, 1, 0) 1 zpplo (fun _ _ => []) zFplo zSplo zXplo zRplo 1) = true := by decide +kernel
theorem zyplaceOf {l : Launch} {r c : Nat} (h1 : 1 ≤ r) (h2 : r ≤ 4) (h3 : 1 ≤ c) (h4 : c ≤ 5) {en : zEn} {me : zMe} (hen : zG zxMeta 249 = some en) (hme : zG zMeth 249 = some me) : zyHc l (zymr r c) en me 1 1 zyΦpl zyΨpl := by
  have een : zG zxMeta 249 = some (zxi249, 2, 3, 11, 249, 0, 0, 1, 0) := rfl
  obtain ⟨me1, hme1, hOK⟩ := zall hen
  rw [hme] at hme1
  cases hme1
  rw [een] at hen
  cases hen
  have hr := zyAllP_iff zyplo_run h1 h2 h3 h4
  refine zycutS (mi := zymr r c) hOK rfl rfl ⟨_, rfl, rfl⟩ (ι := Fin 1) (fun i => zpplo i.val) (fun _ _ => []) (fun i => zFplo i.val) (fun i => zSplo i.val) (fun i => zXplo i.val) (fun i => zRplo i.val) (fun i y2 ct en2 me2 h => by cases h) 200000 (fun i => zyAll_iff hr i.val i.isLt) ⟨0, by decide⟩ ⟨rfl, rfl, rfl, rfl⟩ ⟨by decide, by decide⟩
    (fun i as E0 ρ E => E = E0 ∧ ∃ m k : Nat, m ≤ 8 ∧ k < 300 ∧ ρ 1 = Int32.ofNat k ∧ Int32.ofNat k < zyI E 75 4 ∧ zLv E m) (fun i as E0 ρ E => 0) ?_ ?_ ?_
  · intro as E hlen hT hΦ
    obtain ⟨m, k, hm, hk, rfl, h5, h6⟩ := hΦ
    exact ⟨zEnv_c (zyfull _) (zEnv_c ⟨show 2147483648 ≤ zB (Int32.ofNat k) by rw [zyBn (by omega)]; omega, show zB (Int32.ofNat k) ≤ 2147483947 by rw [zyBn (by omega)]; omega⟩ (zEnv_c (zyfull _) zEnv_nil)), rfl, m, k, hm, hk, rfl, h5, h6⟩
  · intro as B s Wg hRu hT0 hΦ hlen i ρ H hT hInv hIH x hx ρ2 N2 H2 locs lsB stA hAt hXs hag hfr hT2
    rcases i with ⟨i, hi⟩
    have hi2 : i = 0 := by omega
    rcases hi2 with rfl
    · cases hx
  · intro as E0 E E2 hT0 hΦ hlen i ρ hT hInv x hx ρ2 N2 B vo hXs hag hfr hT2 hvo
    rcases i with ⟨i, hi⟩
    have hi2 : i = 0 := by omega
    rcases hi2 with rfl
    · have hx : x ∈ [zxplo_ar0, zxplo_ar1] := hx
      have hg : ∀ k, k < 3 → ρ2 k = ρ k := hag
      have hI := hInv
      have hI : E = E0 ∧ ∃ m k : Nat, m ≤ 8 ∧ k < 300 ∧ ρ 1 = Int32.ofNat k ∧ Int32.ofNat k < zyI E 75 4 ∧ zLv E m := hI
      obtain ⟨hF, hB, hM⟩ := hXs
      have hEE : E2 = E := zyfr0 hfr
      rcases List.mem_cons.mp hx with ex | hx
      · subst ex
        obtain ⟨i0, m, k, hm, hk, e1, h5, h6⟩ := hI
        have a1 : ρ2 1 = Int32.ofNat k := (hg 1 (by decide)).trans e1
        have b := zyXb hB 3 rfl
        have b : 2147483648 ≤ zB (zyw ρ2 171798691833) ∧ zB (zyw ρ2 171798691833) ≤ 2147483654 := b
        exact ⟨hEE.trans i0, _, zyvo_1 (c := 171798691833) (by decide) (show zyvo (zyXn B ρ2 N2) [171798691833] vo from hvo), b.1, b.2⟩
      · skip
        have ex := List.mem_singleton.mp hx
        subst ex
        obtain ⟨i0, m, k, hm, hk, e1, h5, h6⟩ := hI
        have a1 : ρ2 1 = Int32.ofNat k := (hg 1 (by decide)).trans e1
        obtain ⟨n, u1, u2, u3⟩ := zyXe hF 0 rfl
        have u1 : ρ2 1 + Int32.ofNat 160 = Int32.ofNat n := u1
        have u3 : E 75 n = some (.int (ρ2 3)) := u3
        rw [a1, zyOa] at u1
        have en := zyOi (by omega) (by omega) u1
        have hv := h6 k hk h5
        rw [show 160 + k = n by omega, zyI_s u3] at hv
        have hv := zVl_n0 hm hv
        have b3 := zyXb hB 1 rfl
        have b3 : 2147483648 ≤ zB (ρ2 3) ∧ zB (ρ2 3) ≤ 2147483655 := b3
        obtain ⟨o1, o2⟩ := zyOn b3.1
        have hne : ¬ zyN1 (ρ2 3) = 0 := fun q => hv (by rw [o1, q])
        have e : zyw ρ2 137438953465 = Int32.ofNat (zyN1 (ρ2 3) - 1) := by
          show ρ2 3 + Int32.ofNat 4294967295 = _
          rw [o1, zyOd (by omega), zyN1_of (by omega)]
        refine ⟨hEE.trans i0, _, zyvo_1 (c := 137438953465) (by decide) (show zyvo (zyXn B ρ2 N2) [137438953465] vo from hvo), ?_, ?_⟩
        · rw [e, zyBn (by omega)]
          omega
        · rw [e, zyBn (by omega)]
          omega
def zyΦloo (_ : List Int32) (E : zyEm) : Prop := ∃ m : Nat, m ≤ 8 ∧ E 75 2 = some (.int (Int32.ofNat m)) ∧ zLv E m
def zyΨloo (_ : List Int32) (E E2 : zyEm) (vo : Option Value) : Prop := (∀ a k, ¬ a = 83 → E2 a k = E a k) ∧ ∃ z : Int32, vo = some (.int z)
noncomputable def zyTbt : Nat → List zyCt := fun y => zif (Nat.beq y 248) [([595], [(83, 0, 7)], [], 2, [], [])] []
noncomputable def zyIbt : zyIn := (248, ([595], [(83, 0, 7)], [], 2, [], []), [(0, 2, [595, 13], [(0, 4294967295), (0, 4294967295)], [], [(0, 200000), (0, 0)]), (2, 2, [595, 34359738369], [(0, 4294967295), (2147483648, 2147483656)], [], [(0, 99998), (1, 1)])], 2, 0, [])
noncomputable def zyITb : List (List (List zyIn)) := [[[zyIbt]]]
theorem zybt_run : zyAllP (fun r c => zychk (zymr r c) zydr zyITb 0 zyIbt) = true := by decide +kernel
theorem zyTbt_ok {l : Launch} {J : zyJt} (hJ : zyJp zydr J) {r c : Nat} (h1 : 1 ≤ r) (h2 : r ≤ 4) (h3 : 1 ≤ c) (h4 : c ≤ 5) : ∀ y2 ct en2 me2, ct ∈ zyTbt y2 → zG zxMeta y2 = some en2 → zG zMeth y2 = some me2 → zyCon l (zymr r c) J en2 me2 ct := by
  intro y2 ct en2 me2 hct hen hme
  unfold zyTbt at hct
  by_cases e : y2 = 248
  · subst e
    have hct : ct ∈ [([595], [(83, 0, 7)], [], 2, [], [])] := hct
    rw [List.mem_singleton.mp hct]
    have c0 : zyCo l (zymr r c) J zyITb 0 := zychk_ok (IT := zyITb) (i := 0) (zyAllP_iff zybt_run h1 h2 h3 h4) hJ (fun d hd => absurd hd (Nat.not_lt_zero d))
    exact c0 en2 me2 hen hme
  · rw [zybeq_ne e, zif_f] at hct
    cases hct
theorem zyloo_run : zyAllP (fun r c => zyrS (zymr r c) zxi251 (251, 0, 0, 1, 0) 4 zploo (fun _ => zyTbt) zFloo zSloo zXloo zRloo 5) = true := by decide +kernel
theorem zyloops {l : Launch} {r c : Nat} (h1 : 1 ≤ r) (h2 : r ≤ 4) (h3 : 1 ≤ c) (h4 : c ≤ 5) {en : zEn} {me : zMe} (hen : zG zxMeta 251 = some en) (hme : zG zMeth 251 = some me) : zyHc l (zymr r c) en me 4 0 zyΦloo zyΨloo := by
  have een : zG zxMeta 251 = some (zxi251, 1, 5, 11, 251, 0, 0, 1, 0) := rfl
  obtain ⟨me1, hme1, hOK⟩ := zall hen
  rw [hme] at hme1
  cases hme1
  rw [een] at hen
  cases hen
  have hr := zyAllP_iff zyloo_run h1 h2 h3 h4
  obtain ⟨mepo, hmepo, -⟩ := zall (show zG zxMeta 249 = some (zxi249, 2, 3, 11, 249, 0, 0, 1, 0) from rfl)
  have hpo := zyplaceOf (l := l) h1 h2 h3 h4 (show zG zxMeta 249 = some (zxi249, 2, 3, 11, 249, 0, 0, 1, 0) from rfl) hmepo
  have hCon : ∀ i : Fin 5, zyCons l (zymr r c, zyTbt, zFloo i.val, [], zSloo i.val) zyJ0 := fun _ => zyTbt_ok zyJ0_r.1 h1 h2 h3 h4
  refine zycutS (mi := zymr r c) hOK rfl rfl ⟨_, rfl, rfl⟩ (ι := Fin 5) (fun i => zploo i.val) (fun _ => zyTbt) (fun i => zFloo i.val) (fun i => zSloo i.val) (fun i => zXloo i.val) (fun i => zRloo i.val) hCon 200000 (fun i => zyAll_iff hr i.val i.isLt) ⟨0, by decide⟩ ⟨rfl, rfl, rfl, rfl⟩ ⟨by decide, by decide⟩
    (fun i as E0 ρ E => (∃ m : Nat, m ≤ 8 ∧ E0 75 2 = some (.int (Int32.ofNat m)) ∧ zLv E0 m) ∧ ∀ a k, ¬ a = 83 → E a k = E0 a k) (fun i as E0 ρ E => if i.val = 0 then 1000000 else if i.val = 1 then 900001 + 2 * (301 - zyN1 (ρ 1)) else if i.val = 2 then 900000 + 2 * (301 - zyN1 (ρ 1)) else if i.val = 3 then 1000 * (9 - zyN1 (ρ 3)) + 300 else 1000 * (9 - zyN1 (ρ 3)) + (256 - zyN1 (ρ 1))) ?_ ?_ ?_
  · intro as E hlen hT hΦ
    exact ⟨zEnv_c (zyfull _) (zEnv_c (zyfull _) (zEnv_c (zyfull _) (zEnv_c (zyfull _) (zEnv_c (zyfull _) (zEnv_nil))))), hΦ, fun _ _ _ => rfl⟩
  · intro as B s Wg hRu hT0 hΦ hlen i ρ H hT hInv hIH x hx ρ2 N2 H2 locs lsB stA hAt hXs hag hfr hT2
    rcases i with ⟨i, hi⟩
    have hi2 : i = 0 ∨ i = 1 ∨ i = 2 ∨ i = 3 ∨ i = 4 := by omega
    rcases hi2 with rfl | rfl | rfl | rfl | rfl
    · have hx : x ∈ [zxloo_ax0] := hx
      have hg : ∀ k, k < 5 → ρ2 k = ρ k := hag
      have hI := hInv
      have hI : (∃ m : Nat, m ≤ 8 ∧ (zyEl (zymr r c) B s.heap) 75 2 = some (.int (Int32.ofNat m)) ∧ zLv (zyEl (zymr r c) B s.heap) m) ∧ ∀ a k, ¬ a = 83 → (zyEl (zymr r c) B H) a k = (zyEl (zymr r c) B s.heap) a k := hI
      obtain ⟨hF, hB, hM⟩ := hXs
      have hfr : ∀ a k, zyin [(83, 0, 7)] a k = false → (zyEl (zymr r c) B H2) a k = (zyEl (zymr r c) B H) a k := hfr
      have ex := List.mem_singleton.mp hx
      subst ex
      obtain ⟨hM0, i1⟩ := hI
      have hk := zyfrP hfr
      refine zyGoB hIH hAt hB ⟨1, by decide⟩ [595, 0, 0, 0, 0] rfl rfl rfl rfl ⟨hM0, fun a k n => (hk a k n).trans (i1 a k n)⟩ ?_
      show 900001 + 2 * (301 - zyN1 (Int32.ofNat 0)) < 1000000
      omega
    · have hx : x ∈ [zxloo_bx0, zxloo_bx1] := hx
      have hg : ∀ k, k < 5 → ρ2 k = ρ k := hag
      have hI := hInv
      have hI : (∃ m : Nat, m ≤ 8 ∧ (zyEl (zymr r c) B s.heap) 75 2 = some (.int (Int32.ofNat m)) ∧ zLv (zyEl (zymr r c) B s.heap) m) ∧ ∀ a k, ¬ a = 83 → (zyEl (zymr r c) B H) a k = (zyEl (zymr r c) B s.heap) a k := hI
      obtain ⟨hF, hB, hM⟩ := hXs
      have hEE : (zyEl (zymr r c) B H2) = (zyEl (zymr r c) B H) := zyfr0 hfr
      rcases List.mem_cons.mp hx with ex | hx
      · subst ex
        obtain ⟨hM0, i1⟩ := hI
        have b1 := zyXb hB 0 rfl
        have b1 : 2147483648 ≤ zB (ρ2 1) ∧ zB (ρ2 1) ≤ 2147483947 := b1
        obtain ⟨o1, o2⟩ := zyOn b1.1
        obtain ⟨n, u1, u2, u3⟩ := zyXe hF 0 rfl
        have u1 : Int32.ofNat 4 = Int32.ofNat n := u1
        have u3 : zyEl (zymr r c) B H 75 n = some (.int (ρ2 5)) := u3
        have en := zyOi (by omega) (by omega) u1
        subst en
        have f1 := zyX20 hF 1 rfl
        have f1 : ρ2 1 < ρ2 5 := f1
        have h75 : ∀ k, zyEl (zymr r c) B H 75 k = zyEl (zymr r c) B s.heap 75 k := fun k => i1 75 k (by decide)
        refine zyCaV hRu hIH hAt hB hpo (ix := 271) (ax := 3984) rfl rfl rfl hmepo ⟨rfl, rfl, rfl, rfl⟩ (by decide) [34359738369] [595] rfl (by decide) (by decide) rfl ⟨2, by decide⟩ [595, 34359738369, 0, 0, 0] [(0, 4294967295), (2147483648, 2147483947), (0, 4294967295), (0, 4294967295), (0, 4294967295)] 2147483648 2147483654 rfl (by decide) rfl rfl rfl rfl [595] rfl rfl ?_ ?_
        · obtain ⟨m, hm, h5, h6⟩ := hM0
          show zyΦpl [ρ2 1] _
          refine ⟨m, zyN1 (ρ2 1), hm, by omega, by rw [← o1], ?_, ?_⟩
          · rw [hEE, zyI_s u3, ← o1]
            exact f1
          · rw [hEE]
            exact zLv_fr (h75 4) (fun k _ _ => h75 _) h6
        · intro E3 vo hT3 hΨ
          obtain ⟨ee, z, ev, z1, z2⟩ := hΨ
          refine ⟨z, ev, z1, z2, ⟨hM0, fun a k n => by rw [ee, hEE]; exact i1 a k n⟩, ?_⟩
          show 900000 + 2 * (301 - zyN1 (zyρi (fun k => zyw ρ2 (zyag [595, 34359738369, 0, 0, 0] k)) 5 z 1)) < 900001 + 2 * (301 - zyN1 (ρ 1))
          rw [zyρi_n (by decide)]
          show 900000 + 2 * (301 - zyN1 (ρ2 1)) < 900001 + 2 * (301 - zyN1 (ρ 1))
          rw [← hg 1 (by decide)]
          omega
      · skip
        have ex := List.mem_singleton.mp hx
        subst ex
        obtain ⟨hM0, i1⟩ := hI
        refine zyGoB hIH hAt hB ⟨3, by decide⟩ [595, 0, 0, 0, 0] rfl rfl rfl rfl ⟨hM0, fun a k n => by rw [hEE]; exact i1 a k n⟩ ?_
        show 1000 * (9 - zyN1 (Int32.ofNat 0)) + 300 < 900001 + 2 * (301 - zyN1 (ρ 1))
        omega
    · have hx : x ∈ [zxloo_cx0] := hx
      have hg : ∀ k, k < 6 → ρ2 k = ρ k := hag
      have hI := hInv
      have hI : (∃ m : Nat, m ≤ 8 ∧ (zyEl (zymr r c) B s.heap) 75 2 = some (.int (Int32.ofNat m)) ∧ zLv (zyEl (zymr r c) B s.heap) m) ∧ ∀ a k, ¬ a = 83 → (zyEl (zymr r c) B H) a k = (zyEl (zymr r c) B s.heap) a k := hI
      obtain ⟨hF, hB, hM⟩ := hXs
      have hfr : ∀ a k, zyin [(83, 0, 7)] a k = false → (zyEl (zymr r c) B H2) a k = (zyEl (zymr r c) B H) a k := hfr
      have ex := List.mem_singleton.mp hx
      subst ex
      obtain ⟨hM0, i1⟩ := hI
      have b1 := zyXb hB 0 rfl
      have b1 : 2147483648 ≤ zB (ρ2 1) ∧ zB (ρ2 1) ≤ 2147483947 := b1
      have hk := zyfrP hfr
      obtain ⟨q1, q2, -⟩ := zyStep (b := 299) b1 (by decide)
      refine zyGoB hIH hAt hB ⟨1, by decide⟩ [595, 34359738377, 0, 0, 0] rfl rfl rfl rfl ⟨hM0, fun a k n => (hk a k n).trans (i1 a k n)⟩ ?_
      show 900001 + 2 * (301 - zyN1 (ρ2 1 + Int32.ofNat 1)) < 900000 + 2 * (301 - zyN1 (ρ 1))
      rw [q1, ← hg 1 (by decide)]
      omega
    · have hx : x ∈ [zxloo_dx0, zxloo_dx1] := hx
      have hg : ∀ k, k < 5 → ρ2 k = ρ k := hag
      have hI := hInv
      have hI : (∃ m : Nat, m ≤ 8 ∧ (zyEl (zymr r c) B s.heap) 75 2 = some (.int (Int32.ofNat m)) ∧ zLv (zyEl (zymr r c) B s.heap) m) ∧ ∀ a k, ¬ a = 83 → (zyEl (zymr r c) B H) a k = (zyEl (zymr r c) B s.heap) a k := hI
      obtain ⟨hF, hB, hM⟩ := hXs
      have hEE : (zyEl (zymr r c) B H2) = (zyEl (zymr r c) B H) := zyfr0 hfr
      rcases List.mem_cons.mp hx with ex | hx
      · subst ex
        obtain ⟨hM0, i1⟩ := hI
        refine zyGoB hIH hAt hB ⟨4, by decide⟩ [595, 34359738369, 68719476745, 103079215105, 103079215105] rfl rfl rfl rfl ⟨hM0, fun a k n => by rw [hEE]; exact i1 a k n⟩ ?_
        show 1000 * (9 - zyN1 (ρ2 3)) + (256 - zyN1 (ρ2 1)) < 1000 * (9 - zyN1 (ρ 3)) + 300
        rw [← hg 3 (by decide)]
        omega
      · skip
        have ex := List.mem_singleton.mp hx
        subst ex
        obtain ⟨hM0, i1⟩ := hI
        have b3 := zyXb hB 1 rfl
        have b3 : 2147483648 ≤ zB (ρ2 3) ∧ zB (ρ2 3) ≤ 2147483655 := b3
        obtain ⟨q1, q2, -⟩ := zyStep (b := 7) b3 (by decide)
        refine zyGoB hIH hAt hB ⟨3, by decide⟩ [595, 34359738369, 68719476737, 103079215113, 0] rfl rfl rfl rfl ⟨hM0, fun a k n => by rw [hEE]; exact i1 a k n⟩ ?_
        show 1000 * (9 - zyN1 (ρ2 3 + Int32.ofNat 1)) + 300 < 1000 * (9 - zyN1 (ρ 3)) + 300
        rw [q1, ← hg 3 (by decide)]
        omega
    · have hx : x ∈ [zxloo_ex0, zxloo_ex1] := hx
      have hg : ∀ k, k < 5 → ρ2 k = ρ k := hag
      have hI := hInv
      have hI : (∃ m : Nat, m ≤ 8 ∧ (zyEl (zymr r c) B s.heap) 75 2 = some (.int (Int32.ofNat m)) ∧ zLv (zyEl (zymr r c) B s.heap) m) ∧ ∀ a k, ¬ a = 83 → (zyEl (zymr r c) B H) a k = (zyEl (zymr r c) B s.heap) a k := hI
      obtain ⟨hF, hB, hM⟩ := hXs
      have hEE : (zyEl (zymr r c) B H2) = (zyEl (zymr r c) B H) := zyfr0 hfr
      rcases List.mem_cons.mp hx with ex | hx
      · subst ex
        obtain ⟨hM0, i1⟩ := hI
        have b3 := zyXb hB 1 rfl
        have b3 : 2147483648 ≤ zB (ρ2 3) ∧ zB (ρ2 3) ≤ 2147483655 := b3
        obtain ⟨q1, q2, -⟩ := zyStep (b := 7) b3 (by decide)
        refine zyGoB hIH hAt hB ⟨3, by decide⟩ [595, 34359738369, 68719476737, 103079215113, 0] rfl rfl rfl rfl ⟨hM0, fun a k n => by rw [hEE]; exact i1 a k n⟩ ?_
        show 1000 * (9 - zyN1 (ρ2 3 + Int32.ofNat 1)) + 300 < 1000 * (9 - zyN1 (ρ 3)) + (256 - zyN1 (ρ 1))
        rw [q1, ← hg 3 (by decide)]
        omega
      · skip
        have ex := List.mem_singleton.mp hx
        subst ex
        obtain ⟨hM0, i1⟩ := hI
        have b1 := zyXb hB 0 rfl
        have b1 : 2147483648 ≤ zB (ρ2 1) ∧ zB (ρ2 1) ≤ 2147483903 := b1
        have b3 := zyXb hB 1 rfl
        have b3 : 2147483648 ≤ zB (ρ2 3) ∧ zB (ρ2 3) ≤ 2147483655 := b3
        have b4 := zyXb hB 2 rfl
        have b4 : 2147483648 ≤ zB (ρ2 4) ∧ zB (ρ2 4) ≤ 2147483655 := b4
        obtain ⟨o1, o2⟩ := zyOn b1.1
        obtain ⟨o3, o4⟩ := zyOn b4.1
        have f0 := zyXop hF 0 rfl (by decide)
        have f0 : ρ2 5 = zyG 9 (ρ2 1) (ρ2 4) := f0
        have f1 := zyXop hF 1 rfl (by decide)
        have f1 : ρ2 6 = zyG 4 (ρ2 5) (Int32.ofNat 1) := f1
        have f2 := zyX22 hF 2 rfl
        have f2 : ρ2 6 = Int32.ofNat 0 := f2
        have f3 := zyXop hF 3 rfl (by decide)
        have f3 : ρ2 7 = zyG 8 (Int32.ofNat 1) (ρ2 4) := f3
        have f4 := zyXop hF 4 rfl (by decide)
        have f4 : ρ2 8 = zyG 7 (ρ2 1) (ρ2 7) := f4
        have zs := zseen (zyN1 (ρ2 1)) (by omega) (zyN1 (ρ2 4)) (by omega)
        rw [← o1, ← o3, ← f0, ← f1, ← f3, ← f4] at zs
        have zs := zs f2
        refine zyGoB hIH hAt hB ⟨4, by decide⟩ [595, 274877906945, 68719476737, 103079215105, 309237645313] rfl rfl rfl rfl ⟨hM0, fun a k n => by rw [hEE]; exact i1 a k n⟩ ?_
        show 1000 * (9 - zyN1 (ρ2 3)) + (256 - zyN1 (ρ2 8)) < 1000 * (9 - zyN1 (ρ 3)) + (256 - zyN1 (ρ 1))
        rw [← hg 3 (by decide), ← hg 1 (by decide)]
        omega
  · intro as E0 E E2 hT0 hΦ hlen i ρ hT hInv x hx ρ2 N2 B vo hXs hag hfr hT2 hvo
    rcases i with ⟨i, hi⟩
    have hi2 : i = 0 ∨ i = 1 ∨ i = 2 ∨ i = 3 ∨ i = 4 := by omega
    rcases hi2 with rfl | rfl | rfl | rfl | rfl
    · cases hx
    · cases hx
    · cases hx
    · have hx : x ∈ [zxloo_dr0] := hx
      have hg : ∀ k, k < 5 → ρ2 k = ρ k := hag
      have hI := hInv
      have hI : (∃ m : Nat, m ≤ 8 ∧ E0 75 2 = some (.int (Int32.ofNat m)) ∧ zLv E0 m) ∧ ∀ a k, ¬ a = 83 → E a k = E0 a k := hI
      obtain ⟨hF, hB, hM⟩ := hXs
      have hEE : E2 = E := zyfr0 hfr
      have ex := List.mem_singleton.mp hx
      subst ex
      obtain ⟨hM0, i1⟩ := hI
      exact ⟨fun a k n => by rw [hEE]; exact i1 a k n, ⟨_, zyvo_1 (c := 68719476737) (by decide) (show zyvo (zyXn B ρ2 N2) [68719476737] vo from hvo)⟩⟩
    · cases hx
def zyFpa (E E2 : zyEm) : Prop := ∀ a k, ¬ (a = 74 ∧ 2 ≤ k ∧ k ≤ 3) → ¬ a = 83 → E2 a k = E a k
def zyΦj (_ : List Int32) (E : zyEm) : Prop := zJ1 E
def zyΨpa (_ : List Int32) (E E2 : zyEm) (vo : Option Value) : Prop := zyFpa E E2 ∧ ∃ z : Int32, vo = some (.int z)
theorem zyfrpa {E E2 : zyEm} (h : ∀ a k, zyin [(74, 2, 3), (83, 0, 7)] a k = false → E2 a k = E a k) : zyFpa E E2 := by
  intro a k n1 n2
  apply h
  cases hq : zyin [(74, 2, 3), (83, 0, 7)] a k with
  | false => rfl
  | true =>
    obtain ⟨p0, g1, g2, g3, g4⟩ := zyin_iff.mp hq
    rcases List.mem_cons.mp g1 with rfl | g1
    · dsimp only at g2 g3 g4
      exact absurd ⟨g2.symm, g3, g4⟩ n1
    · rw [List.mem_singleton.mp g1] at g2
      exact absurd g2.symm n2
theorem zypai_run : zyAllP (fun r c => zyrS (zymr r c) zxi256 (256, 0, 0, 1, 0) 4 zppai (fun _ => zyTbt) zFpai zSpai zXpai zRpai 3) = true := by decide +kernel
theorem zypair_H {l : Launch} {r c : Nat} (h1 : 1 ≤ r) (h2 : r ≤ 4) (h3 : 1 ≤ c) (h4 : c ≤ 5) {en : zEn} {me : zMe} (hen : zG zxMeta 256 = some en) (hme : zG zMeth 256 = some me) : zyHc l (zymr r c) en me 4 2 zyΦj zyΨpa := by
  have een : zG zxMeta 256 = some (zxi256, 3, 8, 11, 256, 0, 0, 1, 0) := rfl
  obtain ⟨me1, hme1, hOK⟩ := zall hen
  rw [hme] at hme1
  cases hme1
  rw [een] at hen
  cases hen
  have hr := zyAllP_iff zypai_run h1 h2 h3 h4
  obtain ⟨mepo, hmepo, -⟩ := zall (show zG zxMeta 249 = some (zxi249, 2, 3, 11, 249, 0, 0, 1, 0) from rfl)
  have hpo := zyplaceOf (l := l) h1 h2 h3 h4 (show zG zxMeta 249 = some (zxi249, 2, 3, 11, 249, 0, 0, 1, 0) from rfl) hmepo
  have hCon : ∀ i : Fin 3, zyCons l (zymr r c, zyTbt, zFpai i.val, [], zSpai i.val) zyJ0 := fun _ => zyTbt_ok zyJ0_r.1 h1 h2 h3 h4
  refine zycutS (mi := zymr r c) hOK rfl rfl ⟨_, rfl, rfl⟩ (ι := Fin 3) (fun i => zppai i.val) (fun _ => zyTbt) (fun i => zFpai i.val) (fun i => zSpai i.val) (fun i => zXpai i.val) (fun i => zRpai i.val) hCon 200000 (fun i => zyAll_iff hr i.val i.isLt) ⟨0, by decide⟩ ⟨rfl, rfl, rfl, rfl⟩ ⟨by decide, by decide⟩
    (fun i as E0 ρ E => zJ1 E0 ∧ zyFpa E0 E) (fun i as E0 ρ E => if i.val = 0 then 1000000 else if i.val = 1 then 2 * (301 - zyN1 (ρ 4)) + 1 else 2 * (301 - zyN1 (ρ 4))) ?_ ?_ ?_
  · intro as E hlen hT hΦ
    exact ⟨zEnv_c (zyfull _) (zEnv_c (zyfull _) (zEnv_c (zyfull _) (zEnv_c (zyfull _) (zEnv_c (zyfull _) (zEnv_c (zyfull _) (zEnv_c (zyfull _) (zEnv_c (zyfull _) (zEnv_nil)))))))), hΦ, fun _ _ _ _ => rfl⟩
  · intro as B s Wg hRu hT0 hΦ hlen i ρ H hT hInv hIH x hx ρ2 N2 H2 locs lsB stA hAt hXs hag hfr hT2
    rcases i with ⟨i, hi⟩
    have hi2 : i = 0 ∨ i = 1 ∨ i = 2 := by omega
    rcases hi2 with rfl | rfl | rfl
    · have hx : x ∈ [zxpai_ax0] := hx
      have hg : ∀ k, k < 8 → ρ2 k = ρ k := hag
      have hI := hInv
      have hI : zJ1 (zyEl (zymr r c) B s.heap) ∧ zyFpa (zyEl (zymr r c) B s.heap) (zyEl (zymr r c) B H) := hI
      obtain ⟨hF, hB, hM⟩ := hXs
      have hfr : ∀ a k, zyin [(74, 2, 3), (83, 0, 7)] a k = false → (zyEl (zymr r c) B H2) a k = (zyEl (zymr r c) B H) a k := hfr
      have ex := List.mem_singleton.mp hx
      subst ex
      obtain ⟨hJ, i1⟩ := hI
      have hk := zyfrpa hfr
      refine zyGoB hIH hAt hB ⟨1, by decide⟩ [595, 34359738369, 68719476737, 0, 0, 0, 0, 0] rfl rfl rfl rfl ⟨hJ, fun a k n1 n2 => (hk a k n1 n2).trans (i1 a k n1 n2)⟩ ?_
      show 2 * (301 - zyN1 (Int32.ofNat 0)) + 1 < 1000000
      omega
    · have hx : x ∈ [zxpai_bx0] := hx
      have hg : ∀ k, k < 8 → ρ2 k = ρ k := hag
      have hI := hInv
      have hI : zJ1 (zyEl (zymr r c) B s.heap) ∧ zyFpa (zyEl (zymr r c) B s.heap) (zyEl (zymr r c) B H) := hI
      obtain ⟨hF, hB, hM⟩ := hXs
      have hEE : (zyEl (zymr r c) B H2) = (zyEl (zymr r c) B H) := zyfr0 hfr
      have ex := List.mem_singleton.mp hx
      subst ex
      obtain ⟨hJ, i1⟩ := hI
      have b4 := zyXb hB 0 rfl
      have b4 : 2147483648 ≤ zB (ρ2 4) ∧ zB (ρ2 4) ≤ 2147483947 := b4
      obtain ⟨o1, o2⟩ := zyOn b4.1
      obtain ⟨n, u1, u2, u3⟩ := zyXe hF 0 rfl
      have u1 : Int32.ofNat 4 = Int32.ofNat n := u1
      have u3 : zyEl (zymr r c) B H 75 n = some (.int (ρ2 8)) := u3
      have en := zyOi (by omega) (by omega) u1
      subst en
      have f1 := zyX20 hF 1 rfl
      have f1 : ρ2 4 < ρ2 8 := f1
      have h75 : ∀ k, zyEl (zymr r c) B H 75 k = zyEl (zymr r c) B s.heap 75 k := fun k => i1 75 k (fun z => absurd z.1 (by decide)) (by decide)
      refine zyCa1 hRu hIH hAt hB hpo (ix := 271) (ax := 3984) rfl rfl rfl hmepo ⟨rfl, rfl, rfl, rfl⟩ (by decide) [137438953473] rfl (by decide) rfl ⟨2, by decide⟩ [595, 34359738369, 68719476737, 103079215105, 137438953473, 0, 0, 0] [(0, 4294967295), (0, 4294967295), (0, 4294967295), (0, 4294967295), (2147483648, 2147483947), (0, 4294967295), (0, 4294967295), (0, 4294967295)] 2147483648 2147483654 rfl (by decide) rfl rfl rfl rfl rfl ?_ ?_
      · obtain ⟨m, hm, h5⟩ := zc_m hT0
        obtain ⟨h6, -, -⟩ := hJ m hm h5
        show zyΦpl [ρ2 4] _
        refine ⟨m, zyN1 (ρ2 4), hm, by omega, by rw [← o1], ?_, ?_⟩
        · rw [hEE, zyI_s u3, ← o1]
          exact f1
        · rw [hEE]
          exact zLv_fr (h75 4) (fun k _ _ => h75 _) h6
      · intro E3 vo hT3 hΨ
        obtain ⟨ee, z, ev, z1, z2⟩ := hΨ
        refine ⟨z, ev, z1, z2, ⟨hJ, fun a k n1 n2 => by rw [ee, hEE]; exact i1 a k n1 n2⟩, ?_⟩
        show 2 * (301 - zyN1 (zyρi (fun k => zyw ρ2 (zyag [595, 34359738369, 68719476737, 103079215105, 137438953473, 0, 0, 0] k)) 8 z 4)) < 2 * (301 - zyN1 (ρ 4)) + 1
        rw [zyρi_n (by decide)]
        show 2 * (301 - zyN1 (ρ2 4)) < 2 * (301 - zyN1 (ρ 4)) + 1
        rw [← hg 4 (by decide)]
        omega
    · have hx : x ∈ [zxpai_cx0, zxpai_cx1, zxpai_cx2] := hx
      have hg : ∀ k, k < 9 → ρ2 k = ρ k := hag
      have hI := hInv
      have hI : zJ1 (zyEl (zymr r c) B s.heap) ∧ zyFpa (zyEl (zymr r c) B s.heap) (zyEl (zymr r c) B H) := hI
      obtain ⟨hF, hB, hM⟩ := hXs
      have hfr : ∀ a k, zyin [(83, 0, 7)] a k = false → (zyEl (zymr r c) B H2) a k = (zyEl (zymr r c) B H) a k := hfr
      rcases List.mem_cons.mp hx with ex | hx
      · subst ex
        obtain ⟨hJ, i1⟩ := hI
        have b4 := zyXb hB 0 rfl
        have b4 : 2147483648 ≤ zB (ρ2 4) ∧ zB (ρ2 4) ≤ 2147483947 := b4
        have hk := zyfrP hfr
        obtain ⟨q1, q2, -⟩ := zyStep (b := 299) b4 (by decide)
        refine zyGoB hIH hAt hB ⟨1, by decide⟩ [595, 34359738369, 68719476737, 103079215105, 137438953481, 0, 0, 0] rfl rfl rfl rfl ⟨hJ, fun a k n1 n2 => (hk a k n2).trans (i1 a k n1 n2)⟩ ?_
        show 2 * (301 - zyN1 (ρ2 4 + Int32.ofNat 1)) + 1 < 2 * (301 - zyN1 (ρ 4))
        rw [q1, ← hg 4 (by decide)]
        omega
      · skip
        rcases List.mem_cons.mp hx with ex | hx
        · subst ex
          obtain ⟨hJ, i1⟩ := hI
          have b4 := zyXb hB 0 rfl
          have b4 : 2147483648 ≤ zB (ρ2 4) ∧ zB (ρ2 4) ≤ 2147483947 := b4
          have hk := zyfrP hfr
          obtain ⟨q1, q2, -⟩ := zyStep (b := 299) b4 (by decide)
          refine zyGoB hIH hAt hB ⟨1, by decide⟩ [595, 34359738369, 68719476737, 103079215113, 137438953481, 0, 0, 0] rfl rfl rfl rfl ⟨hJ, fun a k n1 n2 => (hk a k n2).trans (i1 a k n1 n2)⟩ ?_
          show 2 * (301 - zyN1 (ρ2 4 + Int32.ofNat 1)) + 1 < 2 * (301 - zyN1 (ρ 4))
          rw [q1, ← hg 4 (by decide)]
          omega
        · skip
          have ex := List.mem_singleton.mp hx
          subst ex
          obtain ⟨hJ, i1⟩ := hI
          have b4 := zyXb hB 0 rfl
          have b4 : 2147483648 ≤ zB (ρ2 4) ∧ zB (ρ2 4) ≤ 2147483947 := b4
          have hk := zyfrP hfr
          obtain ⟨q1, q2, -⟩ := zyStep (b := 299) b4 (by decide)
          refine zyGoB hIH hAt hB ⟨1, by decide⟩ [595, 34359738369, 68719476737, 137438953465, 137438953481, 0, 0, 0] rfl rfl rfl rfl ⟨hJ, fun a k n1 n2 => (hk a k n2).trans (i1 a k n1 n2)⟩ ?_
          show 2 * (301 - zyN1 (ρ2 4 + Int32.ofNat 1)) + 1 < 2 * (301 - zyN1 (ρ 4))
          rw [q1, ← hg 4 (by decide)]
          omega
  · intro as E0 E E2 hT0 hΦ hlen i ρ hT hInv x hx ρ2 N2 B vo hXs hag hfr hT2 hvo
    rcases i with ⟨i, hi⟩
    have hi2 : i = 0 ∨ i = 1 ∨ i = 2 := by omega
    rcases hi2 with rfl | rfl | rfl
    · have hx : x ∈ [zxpai_ar0] := hx
      have hg : ∀ k, k < 8 → ρ2 k = ρ k := hag
      have hI := hInv
      have hI : zJ1 E0 ∧ zyFpa E0 E := hI
      obtain ⟨hF, hB, hM⟩ := hXs
      have hfr : ∀ a k, zyin [(74, 2, 3), (83, 0, 7)] a k = false → E2 a k = E a k := hfr
      have ex := List.mem_singleton.mp hx
      subst ex
      obtain ⟨hJ, i1⟩ := hI
      have hk := zyfrpa hfr
      exact ⟨fun a k n1 n2 => (hk a k n1 n2).trans (i1 a k n1 n2), ⟨_, zyvo_1 (c := 34359738360) (by decide) (show zyvo (zyXn B ρ2 N2) [34359738360] vo from hvo)⟩⟩
    · have hx : x ∈ [zxpai_br0] := hx
      have hg : ∀ k, k < 8 → ρ2 k = ρ k := hag
      have hI := hInv
      have hI : zJ1 E0 ∧ zyFpa E0 E := hI
      obtain ⟨hF, hB, hM⟩ := hXs
      have hEE : E2 = E := zyfr0 hfr
      have ex := List.mem_singleton.mp hx
      subst ex
      obtain ⟨hJ, i1⟩ := hI
      exact ⟨fun a k n1 n2 => by rw [hEE]; exact i1 a k n1 n2, ⟨_, zyvo_1 (c := 103079215105) (by decide) (show zyvo (zyXn B ρ2 N2) [103079215105] vo from hvo)⟩⟩
    · cases hx
end
section
/-! ALL PUBLIC METHODS ALIKE: what each one keeps -/
def zyJf : zyJt := (zJ1, zyRr)
theorem zydr_in {a k : Nat} (h : (a = 75 ∧ 2 ≤ k ∧ k ≤ 5) ∨ (a = 75 ∧ 160 ≤ k ∧ k ≤ 519)) : zyin zydr a k = true := by
  rw [show zydr = [(75, 2, 5), (75, 160, 519), (81, 0, 10399), (74, 19, 19), (74, 21, 21)] from rfl, zyin_iff]
  rcases h with ⟨rfl, a1, a2⟩ | ⟨rfl, a1, a2⟩
  · exact ⟨(75, 2, 5), by simp, rfl, a1, a2⟩
  · exact ⟨(75, 160, 519), by simp, rfl, a1, a2⟩
theorem zJ1_fr {E E2 : zyEm} (h : ∀ k, (2 ≤ k ∧ k ≤ 5) ∨ (160 ≤ k ∧ k ≤ 519) → E2 75 k = E 75 k) (hJ : zJ1 E) : zJ1 E2 := fun m hm hms => by
  rw [h 2 (by omega)] at hms
  obtain ⟨j1, j2, j3⟩ := hJ m hm hms
  exact ⟨zLv_fr (h 4 (by omega)) (fun k _ _ => h _ (by omega)) j1, zWv_fr (h 5 (by omega)) (fun k _ => h _ (by omega)) j2, zT0_fr (h 3 (by omega)) (h 4 (by omega)) j3⟩
theorem zyJf_r : zyJr zyJf := by
  refine ⟨⟨fun E E2 h hJ => ?_, fun _ _ p hp h0 => ?_, fun _ _ _ _ _ _ h hr => zyRr_congr h hr, fun _ _ _ _ _ h hr => zyRr_grow h hr⟩, rfl⟩
  · exact zJ1_fr (E := E) (E2 := E2) (fun k hk => (h 75 k (zydr_in (by omega))).symm) hJ
  · exfalso
    have hp : p ∈ [(75, 2, 5), (75, 160, 519), (81, 0, 10399), (74, 19, 19), (74, 21, 21)] := hp
    simp only [List.mem_cons, List.not_mem_nil, or_false] at hp
    rcases hp with rfl | rfl | rfl | rfl | rfl <;> exact absurd h0 (by decide)
def zyΦu (_ : List Int32) (E : zyEm) : Prop := zJ1 E ∧ ∃ T : Nat, T + 100 ≤ 1073741824 ∧ E 75 3 = some (.int (Int32.ofNat T))
def zyKu (E E2 : zyEm) : Prop := zJ1 E2 ∧ E2 74 33 = E 74 33 ∧ ∀ T : Nat, T + 100 ≤ 1073741824 → E 75 3 = some (.int (Int32.ofNat T)) → ∃ T' : Nat, T' ≤ T + 100 ∧ E2 75 3 = some (.int (Int32.ofNat T'))
def zyΨu (_ : List Int32) (E E2 : zyEm) (vo : Option Value) : Prop := zyKu E E2 ∧ ∃ z : Int32, vo = some (.int z)
theorem zyKu_3 {E E2 : zyEm} (hJ : zJ1 E2) (h1 : E2 74 33 = E 74 33) (h2 : E2 75 3 = E 75 3) : zyKu E E2 := ⟨hJ, h1, fun T _ h => ⟨T, by omega, h2.trans h⟩⟩
theorem zyHc_mono {l : Launch} {mi : zyB} {en : zEn} {me : zMe} {dep na : Nat} {Φ Φ' : List Int32 → zyEm → Prop} {Ψ Ψ' : List Int32 → zyEm → zyEm → Option Value → Prop} (h : zyHc l mi en me dep na Φ Ψ) (hΦ : ∀ xs E, xs.length = na → zyTy mi E → Φ' xs E → Φ xs E) (hΨ : ∀ xs E E2 vo, zyTy mi E → zyTy mi E2 → Φ' xs E → Ψ xs E E2 vo → Ψ' xs E E2 vo) : zyHc l mi en me dep na Φ' Ψ' := by
  intro B xs hl
  refine zyMet_pt (fun a s hp => ?_)
  obtain ⟨rfl, hK, hI, hφ⟩ := hp
  refine ⟨_, _, h B xs hl, ⟨rfl, hK, hI, hΦ _ _ hl (zyTy_of hI) hφ⟩, fun o t hq => ?_⟩
  obtain ⟨vo, e1, k1, k2, k3, k4⟩ := hq
  exact ⟨vo, e1, k1, k2, hΨ _ _ _ _ (zyTy_of hI) (zyTy_of k2) hφ k3, k4⟩
theorem zyvo_z {B : zCx} {J : zyJt} {cd : Nat} {vo : Option Value} (hc : cd % 8 ≤ 2) (h : zyvo (zyX0 B J) [cd] vo) : ∃ z : Int32, vo = some (.int z) := by
  cases vo with
  | none => exact h.elim
  | some x =>
    have h : zyV (zyX0 B J) cd x := h
    obtain ⟨z, rfl⟩ := zyv_int h hc
    exact ⟨z, rfl⟩
/-- out of a contract with the last J -/
theorem zyHc_c {l : Launch} {mi : zyB} {en : zEn} {me : zMe} {ct : zyCt} (h : zyCon l mi zyJf en me ct) {dep na : Nat} {Φa : List Int32 → Prop} (hd : ct.2.2.2.1 = dep) (hargs : ∀ (B : zCx) (xs : List Int32), xs.length = na → Φa xs → zySt (zyX0 B zyJf) ct.1 (zyAr B xs)) (hpre : ∀ (B : zCx) (H : Heap) (U : State), zyMI mi B zyJ0 U H → (∃ T : Nat, T + 100 ≤ 1073741824 ∧ zyEl mi B H 75 3 = some (.int (Int32.ofNat T))) → zyPk mi B ct.2.2.2.2.1 H) {cd : Nat} (hres : ct.2.2.1 = [cd] ∧ cd % 8 ≤ 2) (hfp : zand (zif (zyin ct.2.1 75 3) false true) (zif (zyin ct.2.1 74 33) false true) = true) : zyHc l mi en me dep na (fun xs E => Φa xs ∧ zyΦu xs E) zyΨu := by
  subst hd
  intro B xs hl
  refine zyMet_pt (fun a s hp => ?_)
  obtain ⟨rfl, hK, hI, hφa, hJ, hT⟩ := hp
  refine ⟨_, _, h B _ (hargs B xs hl hφa), ⟨rfl, hK, ⟨hI.1, hI.2.1, hJ, hI.2.2.2⟩, hpre B s.heap s hI hT⟩, fun o t hq => ?_⟩
  obtain ⟨vo, e1, hv, k1, k2, k3, k4, k5⟩ := hq
  rw [hres.1] at hv
  obtain ⟨f1, f2⟩ := zand_iff hfp
  have g1 : zyin ct.2.1 75 3 = false := by
    cases hq : zyin ct.2.1 75 3 with
    | false => rfl
    | true => rw [hq] at f1; cases f1
  have g2 : zyin ct.2.1 74 33 = false := by
    cases hq : zyin ct.2.1 74 33 with
    | false => rfl
    | true => rw [hq] at f2; cases f2
  exact ⟨vo, e1, k1, ⟨k2.1, k2.2.1, trivial, k2.2.2.2⟩, ⟨zyKu_3 k2.2.2.1 (k4 74 33 g2) (k4 75 3 g1), zyvo_z hres.2 hv⟩, k5⟩
/-- put, take: by T -/
theorem zyHc_T {l : Launch} {r c : Nat} {en : zEn} {me : zMe} {ct1 ct2 : zyCt} (c1 : zyCon l (zymr r c) zyJ0 en me ct1) (c2 : zyCon l (zymr r c) zyJ0 en me ct2) {dep : Nat} (hd : ct1.2.2.2.1 = dep ∧ ct2.2.2.2.1 = dep) (ha : ct1.1 = [595, 34359738362] ∧ ct2.1 = [595, 34359738362]) (hpre : ct1.2.2.2.2.1 = [(1228803, 73786976363557683194)] ∧ ct2.2.2.2.2.1 = [(1228803, 17179869186)]) {cd1 cd2 : Nat} (hres : (ct1.2.2.1 = [cd1] ∧ cd1 % 8 ≤ 2) ∧ ct2.2.2.1 = [cd2] ∧ cd2 % 8 ≤ 2)
    (hf1 : ∀ a k, zyin ct1.2.1 a k = true → a = 74 ∧ 2 ≤ k ∧ k ≤ 3) (hf2 : ∀ a k, zyin ct2.2.1 a k = true → (a = 74 ∧ 2 ≤ k ∧ k ≤ 3) ∨ (a = 75 ∧ (k ≤ 2 ∨ (6 ≤ k ∧ k < 160) ∨ 520 ≤ k))) : zyHc l (zymr r c) en me dep 1 zyΦu zyΨu := by
  intro B xs hl
  have hA : ∀ J, zySt (zyX0 B J) [595, 34359738362] (zyAr B xs) := by
    intro J
    cases xs with
    | nil => cases hl
    | cons x t =>
      cases t with
      | cons y u => cases hl
      | nil => exact ⟨Or.inl ⟨Or.inr (Or.inr (Or.inr (Or.inl ⟨rfl, rfl⟩))), fun q => by omega, fun q => by omega⟩, zyv_bd (lo := 0) (hi := 4294967295) (Nat.zero_le _) (by have := zB_lt x; omega) (by decide), trivial⟩
  refine zyMet_pt (fun a s hp => ?_)
  obtain ⟨rfl, hK, hI, hJ, T, hT1, hT2⟩ := hp
  have hg : zG (zymr r c) (1228803 / 16384) = some (zymr75 r c) := rfl
  have hlen : 1228803 % 16384 < zyLen (zymr75 r c) := by rw [zyL75]; decide
  by_cases hz : T = 0
  · have hA2 : zySt (zyX0 B zyJ0) ct2.1 (zyAr B xs) := by rw [ha.2]; exact hA _
    have hm := c2 B (zyAr B xs) hA2
    rw [hd.2] at hm
    have hpk : zyPk (zymr r c) B ct2.2.2.2.2.1 s.heap := by
      rw [hpre.2]
      intro p hp
      rw [List.mem_singleton.mp hp]
      exact ⟨_, _, hg, hlen, hT2, by decide, zyv_bd (lo := 0) (hi := 2147483648) (Nat.zero_le _) (by rw [zyBn (by omega)]; omega) (by decide)⟩
    refine ⟨_, _, hm, ⟨rfl, hK, hI, hpk⟩, fun o t hq => ?_⟩
    · obtain ⟨vo, e1, hv, k1, k2, k3, k4, k5⟩ := hq
      rw [hres.2.1] at hv
      have nf : ∀ a k, ¬ ((a = 74 ∧ 2 ≤ k ∧ k ≤ 3) ∨ (a = 75 ∧ (k ≤ 2 ∨ (6 ≤ k ∧ k < 160) ∨ 520 ≤ k))) → zyEl (zymr r c) B t.heap a k = zyEl (zymr r c) B s.heap a k := by
        intro a k n
        apply k4
        cases hq : zyin ct2.2.1 a k with
        | false => rfl
        | true => exact absurd (hf2 a k hq) n
      have h3 := nf 75 3 (by omega)
      have h4 := nf 75 4 (by omega)
      have hL : zyI (zyEl (zymr r c) B s.heap) 75 4 = Int32.ofNat 0 := by
        obtain ⟨m, hm, hms⟩ := zc_m (zyTy_of hI)
        refine (hJ m hm hms).2.2 ?_
        rw [zyI_s hT2, zyOl (by omega) (by omega)]
        omega
      refine ⟨vo, e1, k1, k2, ⟨zyKu_3 (fun m hm hms => ?_) (nf 74 33 (by omega)) h3, zyvo_z hres.2.2 hv⟩, k5⟩
      have hW : zWv (zyEl (zymr r c) B s.heap) := by
        obtain ⟨m, hm, hms⟩ := zc_m (zyTy_of hI)
        exact (hJ m hm hms).2.1
      have hL2 : zyI (zyEl (zymr r c) B t.heap) 75 4 = Int32.ofNat 0 := (zyI_eq h4).trans hL
      exact ⟨zLv_0 hL2, zWv_fr (nf 75 5 (by omega)) (fun k hk => nf 75 (460 + k) (by omega)) hW, fun _ => hL2⟩
  · have hA2 : zySt (zyX0 B zyJ0) ct1.1 (zyAr B xs) := by rw [ha.1]; exact hA _
    have hm := c1 B (zyAr B xs) hA2
    rw [hd.1] at hm
    have hpk : zyPk (zymr r c) B ct1.2.2.2.2.1 s.heap := by
      rw [hpre.1]
      intro p hp
      rw [List.mem_singleton.mp hp]
      exact ⟨_, _, hg, hlen, hT2, by decide, zyv_bd (lo := 2147483649) (hi := 4294967295) (by rw [zyBn (by omega)]; omega) (by have := zB_lt (Int32.ofNat T); omega) (by decide)⟩
    refine ⟨_, _, hm, ⟨rfl, hK, hI, hpk⟩, fun o t hq => ?_⟩
    · obtain ⟨vo, e1, hv, k1, k2, k3, k4, k5⟩ := hq
      rw [hres.1.1] at hv
      have nf : ∀ a k, ¬ (a = 74 ∧ 2 ≤ k ∧ k ≤ 3) → zyEl (zymr r c) B t.heap a k = zyEl (zymr r c) B s.heap a k := by
        intro a k n
        apply k4
        cases hq : zyin ct1.2.1 a k with
        | false => rfl
        | true => exact absurd (hf1 a k hq) n
      exact ⟨vo, e1, k1, k2, ⟨zyKu_3 (zJ1_fr (fun k _ => nf 75 k (by omega)) hJ) (nf 74 33 (by omega)) (nf 75 3 (by omega)), zyvo_z hres.1.2 hv⟩, k5⟩
end
section
/-! THE WIDEST BASE: contracts shown over it hold over each pair's, if they don't write c -/
noncomputable def zymw75 : zyCl := (20, 556, [(0, 0, 73786976346377814050), (1, 1, 73786976346377814058), (2, 2, 73786976312018075714), (3, 3, 34359738362), (4, 4, 73786976312018078050), (5, 5, 73786976277658337762), (6, 6, 73786976312018075746), (7, 7, 0), (8, 39, 73786976329197944826), (40, 70, 73786976346377814050), (71, 71, 0), (72, 103, 73786976312018075666), (104, 135, 73786976312018075658), (136, 143, 73786976312018076282), (144, 151, 73786976312018076282), (152, 159, 73786976277658337914), (160, 459, 73786976071499907130), (460, 519, 73786976071499907130), (520, 520, 73786976312018075706), (521, 521, 73786976312018076162), (522, 522, 73786976312018076282), (523, 523, 73786976312018075706), (524, 524, 73786976312018076162), (525, 525, 73786976312018076282), (526, 526, 73786976312018075706), (527, 527, 73786976312018076162), (528, 528, 73786976312018076282), (529, 529, 73786976312018075706), (530, 530, 73786976312018076162), (531, 531, 73786976312018076282), (532, 532, 73786976312018075706), (533, 533, 73786976312018076162), (534, 534, 73786976312018076282), (535, 535, 73786976312018075706), (536, 536, 73786976312018076162), (537, 537, 73786976312018076282), (538, 538, 73786976312018075706), (539, 539, 73786976312018076162), (540, 540, 73786976312018076282), (541, 541, 73786976312018075706), (542, 542, 73786976312018076162), (543, 543, 73786976312018076282), (544, 544, 73786976312018075706), (545, 545, 73786976312018076162), (546, 546, 73786976312018076282), (547, 547, 73786976312018075706), (548, 548, 73786976312018076162), (549, 549, 73786976312018076282), (550, 550, 73786976312018075706), (551, 551, 73786976312018076162), (552, 552, 73786976312018076282), (553, 553, 73786976312018075706), (554, 554, 73786976312018076162), (555, 555, 73786976312018076282), (520, 555, 73786976312018076282)])
noncomputable def zymrX (x : zyCl) : zyB := [[], [[], [(20, 1860, [(0, 1859, 73786976312018108410)]), (20, 12, [(0, 11, 34359738362)]), zymr74, x, (20, 556, [(0, 555, 34359738362)]), (20, 8, [(0, 7, 73786976312018076282)]), (20, 8, [(0, 7, 73786976312018076282)]), (20, 8, [(0, 7, 73786976312018075706)])], [(20, 300, [(0, 299, 73786976071499907130)]), (20, 10400, [(0, 10399, 73786976312018075706)]), (20, 8, [(0, 7, 73786976312018075706)]), (20, 8, [(0, 7, 73786976312018075706)]), (22, 900, [(0, 899, 73786971913971565562)]), (21, 9, [(0, 8, 147573952589676412932)]), (20, 900, [(0, 899, 34359738362)]), (20, 900, [(0, 899, 34359738362)])]]]
noncomputable def zymw : zyB := zymrX zymw75
theorem zymr_X (r c : Nat) : zymr r c = zymrX (zymr75 r c) := rfl
def zGG {α : Type} (c : List (List (List α))) (p q s : Nat) : Option α := c[p]?.bind fun b => b[q]?.bind fun a => a[s]?
theorem zGX1 (x y : zyCl) : ∀ p q s : Nat, ¬ (p = 1 ∧ q = 1 ∧ s = 3) → zGG (zymrX x) p q s = zGG (zymrX y) p q s
  | 0, _, _, _ => rfl
  | 1, 0, _, _ => rfl
  | 1, 1, 0, _ => rfl
  | 1, 1, 1, _ => rfl
  | 1, 1, 2, _ => rfl
  | 1, 1, 3, h => absurd ⟨rfl, rfl, rfl⟩ h
  | 1, 1, _ + 4, _ => rfl
  | 1, 2, _, _ => rfl
  | 1, _ + 3, _, _ => rfl
  | _ + 2, _, _, _ => rfl
theorem zGX (x y : zyCl) (a : Nat) (h : ¬ a = 75) : zG (zymrX x) a = zG (zymrX y) a := zGX1 x y (a / 64) (a / 8 % 8) (a % 8) (fun q => h (by omega))
theorem zGX75 (x : zyCl) : zG (zymrX x) 75 = some x := rfl
theorem zyElX {x y : zyCl} (h1 : x.1 = y.1) (h2 : x.2.1 = y.2.1) (B : zCx) (H : Heap) : zyEl (zymrX x) B H = zyEl (zymrX y) B H := by
  funext a k
  by_cases e : a = 75
  · subst e
    unfold zyEl zyLen
    rw [zGX75, zGX75]
    dsimp only
    rw [h1, h2]
  · unfold zyEl
    rw [zGX x y a e]
/-- rows one by one: those of the second say no more -/
noncomputable def zywk1 (c d : Nat) : Bool := zif (Nat.beq c d) true (zand (Nat.beq (Nat.mod d 8) 2) (zif (Nat.beq (Nat.mod c 8) 2) (zand (Nat.ble (Nat.div d 34359738368) (Nat.div c 34359738368)) (Nat.ble (Nat.mod (Nat.div c 8) 4294967296) (Nat.mod (Nat.div d 8) 4294967296))) (zand (Nat.beq (Nat.mod c 8) 0) (zand (Nat.ble (Nat.div d 34359738368) (Nat.mod (Nat.add (Nat.div c 8) 2147483648) 4294967296)) (Nat.ble (Nat.mod (Nat.add (Nat.div c 8) 2147483648) 4294967296) (Nat.mod (Nat.div d 8) 4294967296))))))
noncomputable def zywk (r1 r2 : List (Nat × Nat × Nat)) : Bool := List.rec (motive := fun _ => List (Nat × Nat × Nat) → Bool) (fun _ => true) (fun b _ ih l => List.rec (motive := fun _ => Bool) false (fun a t _ => zand (zand (Nat.beq a.1 b.1) (zand (Nat.beq a.2.1 b.2.1) (zywk1 a.2.2 b.2.2))) (ih t)) l) r2 r1
theorem zywk_iff : ∀ {r2 r1 : List (Nat × Nat × Nat)}, zywk r1 r2 = true → ∀ b ∈ r2, ∃ a ∈ r1, a.1 = b.1 ∧ a.2.1 = b.2.1 ∧ zywk1 a.2.2 b.2.2 = true := by
  intro r2
  induction r2 with
  | nil => intro r1 _ b hb; cases hb
  | cons b0 t ih =>
    intro r1 h b hb
    cases r1 with
    | nil => cases h
    | cons a u =>
      have h : zand (zand (Nat.beq a.1 b0.1) (zand (Nat.beq a.2.1 b0.2.1) (zywk1 a.2.2 b0.2.2))) (zywk u t) = true := h
      obtain ⟨g1, g2⟩ := zand_iff h
      obtain ⟨g1, g3⟩ := zand_iff g1
      obtain ⟨g3, g4⟩ := zand_iff g3
      rcases List.mem_cons.mp hb with e | e
      · rw [e]
        exact ⟨a, List.mem_cons_self, zbeqT g1, zbeqT g3, g4⟩
      · obtain ⟨a2, q1, q2⟩ := ih g2 b e
        exact ⟨a2, List.mem_cons_of_mem _ q1, q2⟩
theorem zywk1_iff {c d : Nat} {ρ : Nat → Int32} {N : Nat} {ad : Nat → Nat} {w : Value} (h : zywk1 c d = true) (hc : ¬ c % 8 = 1) (hv : zyv ρ N ad c w) : ¬ d % 8 = 1 ∧ zyv ρ N ad d w := by
  rcases zif_iff h with ⟨h1, -⟩ | ⟨-, h1⟩
  · rw [← zbeqT h1]
    exact ⟨hc, hv⟩
  · obtain ⟨h2, h3⟩ := zand_iff h1
    have h2 : d % 8 = 2 := zbeqT h2
    refine ⟨by omega, ?_⟩
    have hd : d = 8 * (d / 34359738368 * 4294967296 + d / 8 % 4294967296) + 2 := by omega
    rcases zif_iff h3 with ⟨h4, h5⟩ | ⟨-, h5⟩
    · have h4 : c % 8 = 2 := zbeqT h4
      obtain ⟨h5, h6⟩ := zand_iff h5
      have h5 : d / 34359738368 ≤ c / 34359738368 := zbleT h5
      have h6 : c / 8 % 4294967296 ≤ d / 8 % 4294967296 := zbleT h6
      obtain ⟨x, rfl, b1, b2⟩ := zv_2 (zyv_zv hv (by omega) (by omega)) h4
      rw [hd]
      exact zyv_bd (by omega) (by omega) (by omega)
    · obtain ⟨h4, h5⟩ := zand_iff h5
      have h4 : c % 8 = 0 := zbeqT h4
      obtain ⟨h5, h6⟩ := zand_iff h5
      have h5 : d / 34359738368 ≤ (c / 8 + 2147483648) % 4294967296 := zbleT h5
      have h6 : (c / 8 + 2147483648) % 4294967296 ≤ d / 8 % 4294967296 := zbleT h6
      rw [zyv_0 hv h4, hd]
      exact zyv_bd (by rw [zB_of, zb_def]; omega) (by rw [zB_of, zb_def]; omega) (by omega)
theorem zywk_all : zyAllP (fun r c => zywk (zymr75 r c).2.2 zymw75.2.2) = true := by decide +kernel
theorem zyElg (r c : Nat) (B : zCx) (H : Heap) : zyEl zymw B H = zyEl (zymr r c) B H := zyElX (x := zymw75) (y := zymr75 r c) rfl rfl B H
theorem zyMI_g {r c : Nat} (h1 : 1 ≤ r) (h2 : r ≤ 4) (h3 : 1 ≤ c) (h4 : c ≤ 5) {B : zCx} {J : zyJt} {U : State} {H : Heap} (hI : zyMI (zymr r c) B J U H) : zyMI zymw B J U H := by
  refine ⟨fun a cl hg => ?_, fun a cl k hg hk => ?_, by rw [zyElg r c]; exact hI.2.2.1, hI.2.2.2⟩
  · by_cases e : a = 75
    · subst e
      have hg : some zymw75 = some cl := hg
      cases hg
      exact hI.1 75 (zymr75 r c) rfl
    · exact hI.1 a cl (by rw [zymr_X, zGX (zymr75 r c) zymw75 a e]; exact hg)
  · by_cases e : a = 75
    · subst e
      have hg : some zymw75 = some cl := hg
      cases hg
      obtain ⟨w, q1, q2⟩ := hI.2.1 75 (zymr75 r c) k rfl hk
      refine ⟨w, by rw [zyElg r c]; exact q1, fun b hb b1 b2 => ?_⟩
      obtain ⟨a0, a1, a2, a3, a4⟩ := zywk_iff (zyAllP_iff zywk_all h1 h2 h3 h4) b hb
      obtain ⟨p1, p2⟩ := q2 a0 a1 (by omega) (by omega)
      exact zywk1_iff a4 p1 p2
    · obtain ⟨w, q1, q2⟩ := hI.2.1 a cl k (by rw [zymr_X, zGX (zymr75 r c) zymw75 a e]; exact hg) hk
      exact ⟨w, by rw [zyElg r c]; exact q1, q2⟩
theorem zyPk_g {r c : Nat} {B : zCx} {l : List (Nat × Nat)} {H : Heap} (h : zyPk (zymr r c) B l H) : zyPk zymw B l H := by
  intro p hp
  obtain ⟨cl, x, q1, q2, q3, q4⟩ := h p hp
  by_cases e : p.1 / 16384 = 75
  · refine ⟨zymw75, x, by rw [e]; rfl, ?_, by rw [zyElg r c]; exact q3, q4⟩
    rw [e] at q1
    have q1 : some (zymr75 r c) = some cl := q1
    cases q1
    exact q2
  · exact ⟨cl, x, by rw [← q1, zymr_X]; exact zGX _ _ _ e, q2, by rw [zyElg r c]; exact q3, q4⟩
theorem zyCon_up {l : Launch} {J : zyJt} {r c : Nat} (h1 : 1 ≤ r) (h2 : r ≤ 4) (h3 : 1 ≤ c) (h4 : c ≤ 5) {en : zEn} {me : zMe} {ct : zyCt} (h : zyCon l zymw J en me ct) (hpost : ct.2.2.2.2.2 = []) (hno : ∀ k, k < 556 → zyin ct.2.1 75 k = false) : zyCon l (zymr r c) J en me ct := by
  intro B AsV hA
  refine zyMet_pt (fun a s hp => ?_)
  obtain ⟨rfl, hK, hI, hPk⟩ := hp
  refine ⟨_, _, h B AsV hA, ⟨rfl, hK, zyMI_g h1 h2 h3 h4 hI, zyPk_g hPk⟩, fun o t hq => ?_⟩
  obtain ⟨vo, e1, hv, k1, k2, k3, k4, k5⟩ := hq
  have hE := zyElg r c
  have k4 : ∀ a k, zyin ct.2.1 a k = false → zyEl (zymr r c) B t.heap a k = zyEl (zymr r c) B s.heap a k := fun a k hz => by
    rw [← hE, ← hE]
    exact k4 a k hz
  refine ⟨vo, e1, ?_, k1, ⟨fun a cl hg => ?_, fun a cl k hg hk => ?_, by rw [← hE]; exact k2.2.2.1, k2.2.2.2⟩, ?_, k4, fun q hq => k5 q (fun a cl hg => ?_)⟩
  · revert hv
    unfold zyvr
    rw [hE, hE]
    exact id
  · by_cases e : a = 75
    · subst e
      have hg : some (zymr75 r c) = some cl := hg
      cases hg
      exact k2.1 75 zymw75 rfl
    · exact k2.1 a cl (by rw [← hg, zymr_X]; exact zGX _ _ a e)
  · by_cases e : a = 75
    · subst e
      obtain ⟨w, q1, q2⟩ := hI.2.1 75 cl k hg hk
      refine ⟨w, ?_, q2⟩
      rw [k4 75 k (hno k ?_)]
      · exact q1
      · have hg : some (zymr75 r c) = some cl := hg
        cases hg
        rw [zyL75] at hk
        exact hk
    · obtain ⟨w, q1, q2⟩ := k2.2.1 a cl k (by rw [← hg, zymr_X]; exact zGX _ _ a e) hk
      exact ⟨w, by rw [← hE]; exact q1, q2⟩
  · rw [hpost]
    exact fun p hp => by cases hp
  · by_cases e : a = 75
    · subst e
      exact hq 75 (zymr75 r c) rfl
    · exact hq a cl (by rw [← hg, zymr_X]; exact zGX _ _ a e)
end
section
/-! phases: tells (printed by yexi.py) -/
noncomputable def zxtel_zx0 : zyXp := (0, [595, 34359738369], [], [], [], [])
noncomputable def zptel_z : zyPh := (0, [595, 34359738369], [(0, 4294967295), (0, 4294967295)], [], [])
noncomputable def zxtel_ar0 : zyXp := (0, [], [], [], [], [(1212464, 68719476745)])
noncomputable def zptel_a : zyPh := (0, [595, 34359738369], [(0, 4294967295), (0, 4294967295), (2147483648, 2148483648)], [(1212464, 68719476737)], [])
noncomputable def zptel (i : Nat) : zyPh := zif (Nat.beq i 0) (zptel_z) (zptel_a)
noncomputable def zXtel (i : Nat) : List zyXp := zif (Nat.beq i 0) ([zxtel_zx0]) ([])
noncomputable def zRtel (i : Nat) : List zyXp := zif (Nat.beq i 0) ([]) ([zxtel_ar0])
noncomputable def zFtel (i : Nat) : zyR := zif (Nat.beq i 0) ([]) ([(74, 48, 48), (87, 0, 899)])
noncomputable def zStel (i : Nat) : Nat := zif (Nat.beq i 0) (0) (0)
end
section
/-! tells, over the widest base; a contract by growth -/
def zyΦte (_ : List Int32) (E : zyEm) : Prop := ∃ q : Nat, q ≤ 1000000 ∧ E 74 48 = some (.int (Int32.ofNat q))
def zyΨte (_ : List Int32) (E E2 : zyEm) (vo : Option Value) : Prop := vo = none ∧ (∃ q : Nat, q ≤ 1000000 ∧ E 74 48 = some (.int (Int32.ofNat q)) ∧ E2 74 48 = some (.int (Int32.ofNat (q + 1)))) ∧ ∀ a k, ¬ (a = 74 ∧ k = 48) → ¬ (a = 87 ∧ k ≤ 899) → E2 a k = E a k
theorem zytel_run : zyrS zymw zxi331 (331, 0, 0, 0, 0) 2 zptel (fun _ _ => []) zFtel zStel zXtel zRtel 2 = true := by decide +kernel
theorem zytells {l : Launch} {en : zEn} {me : zMe} (hen : zG zxMeta 331 = some en) (hme : zG zMeth 331 = some me) : zyHc l zymw en me 2 1 zyΦte zyΨte := by
  have een : zG zxMeta 331 = some (zxi331, 2, 2, 11, 331, 0, 0, 0, 0) := rfl
  obtain ⟨me1, hme1, hOK⟩ := zall hen
  rw [hme] at hme1
  cases hme1
  rw [een] at hen
  cases hen
  have hr := zytel_run
  refine zycutS (mi := zymw) hOK rfl rfl ⟨_, rfl, rfl⟩ (ι := Fin 2) (fun i => zptel i.val) (fun _ _ => []) (fun i => zFtel i.val) (fun i => zStel i.val) (fun i => zXtel i.val) (fun i => zRtel i.val) (fun i y2 ct en2 me2 h => by cases h) 200000 (fun i => zyAll_iff hr i.val i.isLt) ⟨0, by decide⟩ ⟨rfl, rfl, rfl, rfl⟩ ⟨by decide, by decide⟩
    (fun i as E0 ρ E => ∃ q : Nat, q ≤ 1000000 ∧ E0 74 48 = some (.int (Int32.ofNat q)) ∧ E = E0 ∧ (i.val = 1 → ρ 2 = Int32.ofNat q)) (fun i as E0 ρ E => 1 - i.val) ?_ ?_ ?_
  · intro as E hlen hT hΦ
    obtain ⟨q, hq, e⟩ := hΦ
    exact ⟨zEnv_c (zyfull _) (zEnv_c (zyfull _) zEnv_nil), q, hq, e, rfl, fun h => absurd (show 0 = 1 from h) (by decide)⟩
  · intro as B s Wg hRu hT0 hΦ hlen i ρ H hT hInv hIH x hx ρ2 N2 H2 locs lsB stA hAt hXs hag hfr hT2
    rcases i with ⟨i, hi⟩
    have hi2 : i = 0 ∨ i = 1 := by omega
    rcases hi2 with rfl | rfl
    · have hx : x ∈ [zxtel_zx0] := hx
      have hg : ∀ k, k < 2 → ρ2 k = ρ k := hag
      have hI := hInv
      have hI : ∃ q : Nat, q ≤ 1000000 ∧ (zyEl zymw B s.heap) 74 48 = some (.int (Int32.ofNat q)) ∧ (zyEl zymw B H) = (zyEl zymw B s.heap) ∧ (0 = 1 → ρ 2 = Int32.ofNat q) := hI
      obtain ⟨hF, hB, hM⟩ := hXs
      have hEE : (zyEl zymw B H2) = (zyEl zymw B H) := zyfr0 hfr
      have ex := List.mem_singleton.mp hx
      subst ex
      obtain ⟨q, hq, s1, i1, -⟩ := hI
      refine zyGoKi hIH hAt hB ⟨1, by decide⟩ [595, 34359738369] [(0, 4294967295), (0, 4294967295)] 2147483648 2148483648 rfl (by decide) rfl rfl rfl (74 * 16384 + 48) zymr74 rfl rfl (show 48 < 49 by decide) (Int32.ofNat q) ?_ ?_ ⟨q, hq, s1, hEE.trans i1, fun _ => zyρi_e⟩ (show 1 - 1 < 1 - 0 by decide)
      · show zyEl zymw B H2 74 48 = _
        rw [hEE, i1]
        exact s1
      · rw [zyBn (by omega)]
        omega
    · cases hx
  · intro as E0 E E2 hT0 hΦ hlen i ρ hT hInv x hx ρ2 N2 B vo hXs hag hfr hT2 hvo
    rcases i with ⟨i, hi⟩
    have hi2 : i = 0 ∨ i = 1 := by omega
    rcases hi2 with rfl | rfl
    · cases hx
    · have hx : x ∈ [zxtel_ar0] := hx
      have hg : ∀ k, k < 3 → ρ2 k = ρ k := hag
      have hI := hInv
      have hI : ∃ q : Nat, q ≤ 1000000 ∧ E0 74 48 = some (.int (Int32.ofNat q)) ∧ E = E0 ∧ (1 = 1 → ρ 2 = Int32.ofNat q) := hI
      obtain ⟨hF, hB, hM⟩ := hXs
      have hfr : ∀ a k, zyin [(74, 48, 48), (87, 0, 899)] a k = false → E2 a k = E a k := hfr
      have ex := List.mem_singleton.mp hx
      subst ex
      obtain ⟨q, hq, s1, i1, i2⟩ := hI
      have a2 : ρ2 2 = Int32.ofNat q := (hg 2 (by decide)).trans (i2 rfl)
      have m := zyXm hM 0 rfl
      have m : E2 74 48 = some (.int (ρ2 2 + Int32.ofNat 1)) := m
      rw [a2, zyOa] at m
      refine ⟨zyvo_0 (show zyvo _ [] vo from hvo), ⟨q, hq, s1, m⟩, fun a k n1 n2 => ?_⟩
      rw [← i1]
      apply hfr
      cases hq : zyin [(74, 48, 48), (87, 0, 899)] a k with
      | false => rfl
      | true =>
        obtain ⟨p0, g1, g2, g3, g4⟩ := zyin_iff.mp hq
        rcases List.mem_cons.mp g1 with rfl | g1
        · dsimp only at g2 g3 g4
          exact absurd ⟨g2.symm, by omega⟩ n1
        · rw [List.mem_singleton.mp g1] at g2 g3 g4
          exact absurd ⟨g2.symm, g4⟩ n2

theorem zyCon_gr {l : Launch} {mi : zyB} {J : zyJt} {en : zEn} {me : zMe} {dep na : Nat} {Φ : List Int32 → zyEm → Prop} {Ψ : List Int32 → zyEm → zyEm → Option Value → Prop} (h : zyHc l mi en me dep na Φ Ψ) {ct : zyCt} {cd id key : Nat} (hres : ct.2.2.1 = [cd, id, key]) (hd : ct.2.2.2.1 = dep) (hpost : ct.2.2.2.2.2 = []) (hargs : ∀ (B : zCx) (AsV : List Value), zySt (zyX0 B J) ct.1 AsV → ∃ xs : List Int32, AsV = zyAr B xs ∧ xs.length = na ∧ ∀ (U : State) (H : Heap), zyMI mi B J U H → zyPk mi B ct.2.2.2.2.1 H → Φ xs (zyEl mi B H))
    (hΨ : ∀ (B : zCx) (xs : List Int32) (E E2 : zyEm) (vo : Option Value), J.1 E → Φ xs E → Ψ xs E E2 vo → J.1 E2 ∧ (∀ a k, zyin ct.2.1 a k = false → E2 a k = E a k) ∧ vo = none ∧ ∃ z0 z : Int32, E (key / 16384) (key % 16384) = some (.int z0) ∧ E2 (key / 16384) (key % 16384) = some (.int z) ∧ zyV (zyX0 B J) cd (.int z) ∧ J.2 id E z0 (zyAi (zyAr B xs).toArray 1) z) : zyCon l mi J en me ct := by
  intro B AsV hA
  obtain ⟨xs, rfl, hl, hΦ⟩ := hargs B AsV hA
  subst hd
  refine zyMet_pt (fun a s hp => ?_)
  obtain ⟨rfl, hK, hI, hPk⟩ := hp
  have hI0 : zyMI mi B zyJ0 s s.heap := ⟨hI.1, hI.2.1, trivial, hI.2.2.2⟩
  have hφ := hΦ s s.heap hI hPk
  refine ⟨_, _, h B xs hl, ⟨rfl, hK, hI0, hφ⟩, fun o t hq => ?_⟩
  obtain ⟨vo, e1, k1, k2, k3, k4⟩ := hq
  obtain ⟨g1, g2, g3, z0, z, g4, g5, g6, g7⟩ := hΨ B xs _ _ vo hI.2.2.1 hφ k3
  refine ⟨vo, e1, ?_, k1, ⟨k2.1, k2.2.1, g1, k2.2.2.2⟩, ?_, g2, k4⟩
  · rw [hres]
    exact ⟨g3, z0, z, g4, g5, g6, g7⟩
  · rw [hpost]
    exact fun p hp => by cases hp
theorem zytells_G {l : Launch} {J : zyJt} (hJ : zyJr J) {en : zEn} {me : zMe} (hen : zG zxMeta 331 = some en) (hme : zG zMeth 331 = some me) : zyCon l zymw J en me ([595, 73786976312018599930], [(74, 48, 48), (87, 0, 899)], [34359738362, 301, 1212464], 2, [(1212464, 73786976312026075650)], []) := by
  refine zyCon_gr (zytells hen hme) (cd := 34359738362) (id := 301) (key := 1212464) rfl rfl rfl (fun B AsV hA => ?_) (fun B xs E E2 vo hJ1 _ hΨ => ?_)
  · obtain ⟨v0, t0, rfl, a0, hA⟩ := zySt_c hA
    obtain ⟨v1, t1, rfl, a1, hA⟩ := zySt_c hA
    have e := zySt_n hA
    subst e
    have e0 : v0 = .ref (zad B 74) := zyv_3 (v := 595) a0 (by decide)
    obtain ⟨x, rfl⟩ := zyv_int a1 (by decide)
    refine ⟨[x], by rw [e0]; rfl, rfl, fun U H hI hP => ?_⟩
    obtain ⟨c0, w, q1, q2, q3, q4, q5⟩ := hP _ List.mem_cons_self
    obtain ⟨z, rfl, b1, b2⟩ := zv_2 (zyv_zv q5 (by decide) (by decide)) (by decide)
    have b1 : 2147483648 ≤ zB z := b1
    have b2 : zB z ≤ 2148483648 := b2
    obtain ⟨o1, o2⟩ := zyOn b1
    exact ⟨zyN1 z, by omega, by rw [← o1]; exact q3⟩
  · obtain ⟨e1, ⟨q, hq, q1, q2⟩, q3⟩ := hΨ
    have hf : ∀ a k, zyin [(74, 48, 48), (87, 0, 899)] a k = false → E2 a k = E a k := by
      intro a k hz
      refine q3 a k (fun z => ?_) (fun z => ?_)
      · rw [z.1, z.2] at hz
        cases hz
      · have hh : zyin [(74, 48, 48), (87, 0, 899)] a k = true := zyin_iff.mpr ⟨(87, 0, 899), by simp, z.1.symm, Nat.zero_le _, z.2⟩
        rw [hh] at hz
        cases hz
    refine ⟨hJ.1.1 E E2 (fun a k hz => (hf a k ?_).symm) hJ1, hf, e1, Int32.ofNat q, Int32.ofNat (q + 1), q1, q2, zyv_bd (lo := 0) (hi := 4294967295) (Nat.zero_le _) (by have := zB_lt (Int32.ofNat (q + 1)); omega) (by decide), ?_⟩
    · cases hz2 : zyin [(74, 48, 48), (87, 0, 899)] a k with
      | false => rfl
      | true =>
        exfalso
        obtain ⟨p0, g1, g2, g3, g4⟩ := zyin_iff.mp hz2
        rw [show zydr = [(75, 2, 5), (75, 160, 519), (81, 0, 10399), (74, 19, 19), (74, 21, 21)] from rfl] at hz
        obtain ⟨p1, f1, f2, f3, f4⟩ := zyin_iff.mp hz
        simp only [List.mem_cons, List.not_mem_nil, or_false] at g1 f1
        rcases g1 with rfl | rfl <;> rcases f1 with rfl | rfl | rfl | rfl | rfl <;> dsimp only at g2 g3 g4 f2 f3 f4 <;> omega
    · rw [hJ.2]
      refine Or.inr ⟨by decide, ?_, ?_⟩
      · rw [zyBn (by omega), zyBn (by omega)]
        omega
      · rw [zyBn (by omega), zyBn (by omega)]
        omega
end
section
/-! THE REFERENCE's table of contracts, for rows r and columns c (printed by ytr.py, ytrm.py) -/
/-- 0: X11_turned (by hand) -/
noncomputable def zyir0 (r c : Nat) : zyIn := (204, ([595, (zyS r c)], [], [(zyS r c), 0], 2, [], []), [], 0, 0, [])
/-- 1: X11_gateAt (by hand) -/
noncomputable def zyir1 (r c : Nat) : zyIn := (202, ([595, (zyS r c)], [], [(zyGq r c), 1], 3, [], []), [], 0, 0, [])
/-- 2: X11_facing (by hand) -/
noncomputable def zyir2 (r c : Nat) : zyIn := (203, ([595, (zyS r c)], [], [(zyS1 r c), 2], 5, [], []), [], 0, 0, [])
/-- 3: X11_isOpen (by hand) -/
noncomputable def zyir3 (r c : Nat) : zyIn := (210, ([595, 73786976312018075890, 34359738362], [], [73786976312018075658, 3], 3, [], []), [], 0, 0, [])
/-- 4: X11_over (by hand) -/
noncomputable def zyir4 (r c : Nat) : zyIn := (211, ([595, (zyS r c), 34359738362], [], [(zyS r c), 4], 6, [], []), [], 0, 0, [])
/-- 5: X11_mapped (by hand) -/
noncomputable def zyir5 (r c : Nat) : zyIn := (212, ([595, (zyS r c), 34359738362], [], [(zyS r c), 5], 7, [], []), [], 0, 0, [])
/-- 6: X11_period (by hand) -/
noncomputable def zyir6 (r c : Nat) : zyIn := (215, ([595], [], [73786976346377814114, 6], 12, [], []), [], 0, 0, [])
/-- 7: X11_rounded (by hand) -/
noncomputable def zyir7 (r c : Nat) : zyIn := (216, ([595, (zyS r c), 34359738362], [], [(zyS r c), 7], 13, [], []), [], 0, 0, [])
/-- 8: X11_freeNumber (by hand) -/
noncomputable def zyir8 (r c : Nat) : zyIn := (209, ([595, 73786976312018075890], [], [34359738362, 8], 1, [], []), [], 0, 0, [])
/-- 9: X11_lengthOf (by hand) -/
noncomputable def zyir9 (r c : Nat) : zyIn := (217, ([595, (zyS r c), 34359738362], [], [73786976346377814658], 14, [], []), [], 0, 0, [])
/-- 10: X11_leastOf (by hand) -/
noncomputable def zyir10 (r c : Nat) : zyIn := (285, ([595, (zyS r c)], [], [(zyS r c)], 14, [], []), [], 0, 0, [])
/-- 11: X11_meetsFrom (by hand) -/
noncomputable def zyir11 (r c : Nat) : zyIn := (290, ([595, (zyS r c), (zyS r c), 73786976320608010242], [(74, 24, 24)], [73786976277658977282], 13, [], []), [], 0, 0, [])
/-- 12: X11_multiple (by hand) -/
noncomputable def zyir12 (r c : Nat) : zyIn := (214, ([34359738362, 73786976346377814658], [], [34359738362], 90, [], []), [], 0, 0, [])
/-- 13: X11_counted -/
noncomputable def zyir13 (r c : Nat) : zyIn := (261, ([595, 832], [], [34359738362], 3, [], []), [(0, 4, [595, 832, 13, 13], [(0, 4294967295), (0, 4294967295), (0, 4294967295), (0, 4294967295)], [], [(0, 200000), (0, 0)]), (4, 4, [595, 832, 68719476737, 103079215105], [(0, 4294967295), (0, 4294967295), (0, 4294967295), (2147483648, 2147483679)], [], [(0, 99996), (1, 3)])], 2, 0, [])
/-- 14: X11_counted -/
noncomputable def zyir14 (r c : Nat) : zyIn := (261, ([595, 576], [], [34359738362], 3, [], []), [(0, 4, [595, 576, 13, 13], [(0, 4294967295), (0, 4294967295), (0, 4294967295), (0, 4294967295)], [], [(0, 200000), (0, 0)]), (4, 4, [595, 576, 68719476737, 103079215105], [(0, 4294967295), (0, 4294967295), (0, 4294967295), (2147483648, 2147483679)], [], [(0, 99996), (1, 3)])], 2, 0, [])
/-- 15: X11_bobbinIn -/
noncomputable def zyir15 (r c : Nat) : zyIn := (267, ([595, 1088, 34359738362], [], [73786976277658337338], 1, [], []), [(0, 4, [595, 1088, 68719476737, 13], [(0, 4294967295), (0, 4294967295), (0, 4294967295), (0, 4294967295)], [], [(0, 200000), (0, 0)]), (2, 4, [595, 1088, 68719476737, 103079215105], [(0, 4294967295), (0, 4294967295), (0, 4294967295), (2147483648, 2147483656)], [], [(0, 99998), (1, 3)])], 2, 0, [])
/-- 16: X11_isTakenStart -/
noncomputable def zyir16 (r c : Nat) : zyIn := (273, ([595, (zyS r c)], [], [73786976312018075658], 7, [], []), [(0, 2, [595, 34359738369], [(0, 4294967295), (2147483648, (Nat.add 2147483647 (zgNS r c)))], [], [])], 0, 0, [2, 15])
/-- 17: X11_latestSeen -/
noncomputable def zyir17 (r c : Nat) : zyIn := (305, ([595], [], [73786976312018076282], 1, [], []), [(0, 3, [595, 13, 13], [(0, 4294967295), (0, 4294967295), (0, 4294967295)], [], [(0, 200000), (0, 0)]), (4, 3, [595, 34359738369, 68719476737], [(0, 4294967295), (2147483648, 2147483727), (2147483648, 2147483660)], [], [(0, 99996), (1, 2)])], 2, 0, [])
/-- 18: X11_isSeenSo -/
noncomputable def zyir18 (r c : Nat) : zyIn := (304, ([595, 34359738362], [], [73786976312018075658], 1, [], []), [(0, 3, [595, 34359738369, 13], [(0, 4294967295), (0, 4294967295), (0, 4294967295)], [], [(0, 200000), (0, 0)]), (2, 3, [595, 34359738369, 68719476737], [(0, 4294967295), (0, 4294967295), (2147483648, 2147483660)], [], [(0, 99998), (1, 2)])], 2, 12, [])
/-- 19: X11_twist -/
noncomputable def zyir19 (r c : Nat) : zyIn := (252, ([595], [], [34359738362], 1, [], []), [(0, 3, [595, 13, 13], [(0, 4294967295), (0, 4294967295), (0, 4294967295)], [], [(0, 200000), (0, 0)]), (4, 3, [595, 34359738369, 68719476737], [(0, 4294967295), (0, 4294967295), (2147483648, 2147483948)], [], [(0, 99996), (1, 2)])], 2, 0, [])
/-- 20: X11_whyOf (by hand) -/
noncomputable def zyir20 (r c : Nat) : zyIn := (297, ([595, 73786976346377814530, 73786976329197944826], [(74, 8, 8), (74, 14, 17), (74, 19, 21), (74, 25, 27), (77, 0, 7), (78, 0, 7), (79, 0, 7), (80, 0, 299), (81, 0, 10399), (82, 0, 7)], [73786976312018075682], 9, [], []), [], 0, 0, [])
/-- 21: X11_isWishedAgain (by hand) -/
noncomputable def zyir21 (r c : Nat) : zyIn := (245, ([595, 73786976346377814050], [(74, 19, 21), (81, 0, 10399), (82, 0, 7)], [73786976312018075658], 8, [], []), [], 0, 0, [])
/-- 22: X11_doesExplain (by hand) -/
noncomputable def zyir22 (r c : Nat) : zyIn := (306, ([595, 73786976277658337770, 73786976277658337770], [(74, 4, 7), (74, 9, 9), (74, 14, 17), (77, 0, 7), (78, 0, 7)], [73786976312018075658], 9, [], []), [], 0, 0, [])
/-- 23: X11_status -/
noncomputable def zyir23 (r c : Nat) : zyIn := (189, ([595], [(74, 3, 3)], [73786976312018075722], 1, [], []), [(0, 1, [595], [(0, 4294967295)], [], [])], 0, 0, [])
/-- 24: X11_ends -/
noncomputable def zyir24 (r c : Nat) : zyIn := (255, ([595, 34359738362], [(74, 2, 3)], [34359738362], 3, [], []), [(0, 5, [595, 34359738369, 13, 13, 13], [(0, 4294967295), (0, 4294967295), (0, 4294967295), (0, 4294967295), (0, 4294967295)], [], [(0, 200000), (0, 0)]), (28, 7, [595, 34359738369, 68719476737, 103079215105, 13], [(0, 4294967295), (2147483649, 2147483656), (0, 4294967295), (2147483648, 2147483948), (0, 4294967295), (0, 4294967295), (2147483649, 2147483656)], [(1212418, 0), (1228802, 206158430209)], [(0, 99972), (1, 3)])], 2, 0, [])
/-- 25: X11_thread -/
noncomputable def zyir25 (r c : Nat) : zyIn := (257, ([595, 34359738362, 34359738362], [(74, 2, 3)], [34359738362], 3, [], []), [(0, 10, [595, 34359738369, 68719476737, 13, 13, 13, 13, 13, 13, 13], [(0, 4294967295), (0, 4294967295), (0, 4294967295), (0, 4294967295), (0, 4294967295), (0, 4294967295), (0, 4294967295), (0, 4294967295), (0, 4294967295), (0, 4294967295)], [], [(0, 200000), (0, 0), (0, 0), (0, 0)]), (50, 12, [595, 34359738369, 68719476737, 103079215105, 137438953473, 171798691841, 206158430209, 240518168577, 274877906945, 13], [(0, 4294967295), (2147483649, 2147483656), (2147483648, 2147483651), (0, 4294967295), (0, 4294967295), (0, 4294967295), (2147483648, 4294967295), (0, 2147483655), (2147483648, 2147483948), (0, 4294967295), (0, 4294967295), (2147483649, 2147483656)], [(1212418, 0), (1228802, 377957122049)], [(0, 99950), (1, 8), (0, 200000), (0, 0)]), (132, 13, [595, 34359738369, 68719476737, 103079215105, 137438953473, 171798691841, 206158430209, 240518168577, 274877906945, 309237645313], [(0, 4294967295), (2147483649, 2147483656), (2147483648, 2147483651), (0, 4294967295), (0, 4294967295), (0, 4294967295), (2147483648, 4294967295), (0, 2147483655), (2147483648, 2147483947), (2147483647, 2147483654), (0, 4294967295), (2147483649, 2147483656), (2147483649, 2147483948)], [(1212418, 0), (1228802, 377957122049), (1228804, 412316860417)], [(0, 99950), (1, 8), (0, 99868), (1, 1)]), (148, 13, [595, 34359738369, 68719476737, 103079215105, 137438953473, 171798691841, 206158430209, 240518168577, 274877906945, 309237645313], [(0, 4294967295), (2147483649, 2147483656), (2147483648, 2147483651), (0, 4294967295), (0, 4294967295), (0, 4294967295), (2147483648, 4294967295), (0, 2147483655), (2147483648, 2147483947), (2147483647, 2147483654), (0, 4294967295), (2147483649, 2147483656), (2147483649, 2147483948)], [(1212418, 0), (1228802, 377957122049), (1228804, 412316860417)], [(0, 99950), (1, 8), (0, 99852), (1, 1)]), (162, 13, [595, 34359738369, 68719476737, 103079215105, 137438953473, 171798691841, 206158430209, 240518168577, 274877906945, 309237645313], [(0, 4294967295), (2147483649, 2147483656), (2147483648, 2147483651), (0, 4294967295), (0, 4294967295), (0, 4294967295), (2147483648, 4294967295), (0, 2147483655), (2147483648, 2147483947), (2147483647, 2147483654), (0, 4294967295), (2147483649, 2147483656), (2147483649, 2147483948)], [(1212418, 0), (1228802, 377957122049), (1228804, 412316860417)], [(0, 99950), (1, 8), (0, 99838), (1, 1)])], 4, 0, [])
/-- 26: X11_times -/
noncomputable def zyir26 (r c : Nat) : zyIn := (258, ([595, 34359738362], [(74, 2, 3), (74, 19, 21), (81, 0, 10399), (82, 0, 7)], [73786976277658337290], 10, [], []), [(0, 2, [595, 34359738369], [(0, 4294967295), (0, 4294967295)], [], [])], 0, 0, [21])
/-- 27: X11_letter -/
noncomputable def zyir27 (r c : Nat) : zyIn := (259, ([595, 34359738362], [(74, 2, 3)], [73786976071499907130], 2, [], []), [(0, 2, [595, 34359738369], [(0, 4294967295), (0, 4294967295)], [], [])], 0, 0, [])
/-- 28: X11_wished -/
noncomputable def zyir28 (r c : Nat) : zyIn := (260, ([595, 34359738362], [(74, 2, 3)], [73786976071499907130], 2, [], []), [(0, 2, [595, 34359738369], [(0, 4294967295), (0, 4294967295)], [], [])], 0, 0, [])
/-- 29: X11_many -/
noncomputable def zyir29 (r c : Nat) : zyIn := (262, ([595, 34359738362], [(74, 2, 3)], [34359738362], 14, [], []), [(0, 2, [595, 34359738369], [(0, 4294967295), (0, 4294967295)], [], [])], 0, 0, [6, 13, 14])
/-- 30: X11_gate -/
noncomputable def zyir30 (r c : Nat) : zyIn := (263, ([595, 34359738362, 34359738362], [(74, 2, 3)], [73786976277658337914], 5, [], []), [(0, 3, [595, 34359738369, 68719476737], [(0, 4294967295), (0, 4294967295), (0, 4294967295)], [], [])], 0, 0, [3])
/-- 31: X11_bit -/
noncomputable def zyir31 (r c : Nat) : zyIn := (264, ([595, 34359738362, 34359738362], [(74, 2, 3)], [73786976277658337290], 4, [], []), [(0, 3, [595, 34359738369, 68719476737], [(0, 4294967295), (0, 4294967295), (0, 4294967295)], [], [])], 0, 0, [])
/-- 32: X11_xOf -/
noncomputable def zyir32 (r c : Nat) : zyIn := (205, ([595, (zyS r c)], [], [73786976277658337354], 1, [], []), [(0, 2, [595, 34359738369], [(0, 4294967295), (2147483648, (Nat.add 2147483647 (zgNS r c)))], [], [])], 0, 0, [])
/-- 33: X11_yOf -/
noncomputable def zyir33 (r c : Nat) : zyIn := (206, ([595, (zyS r c)], [], [73786976277658337338], 1, [], []), [(0, 2, [595, 34359738369], [(0, 4294967295), (2147483648, (Nat.add 2147483647 (zgNS r c)))], [], [])], 0, 0, [])
/-- 34: X11_isAhead -/
noncomputable def zyir34 (r c : Nat) : zyIn := (207, ([595, (zyS r c), (zyS r c)], [], [73786976312018075658], 3, [], []), [(0, 3, [595, 34359738369, 68719476737], [(0, 4294967295), (2147483648, (Nat.add 2147483647 (zgNS r c))), (2147483648, (Nat.add 2147483647 (zgNS r c)))], [], [])], 0, 0, [32, 33])
/-- 35: X11_standing -/
noncomputable def zyir35 (r c : Nat) : zyIn := (265, ([595, 73786976312018075706], [], [34359738362], 5, [], []), [(0, 4, [595, 34359738369, 13, 13], [(0, 4294967295), (2147483648, 2147483655), (0, 4294967295), (0, 4294967295)], [], [(0, 200000), (0, 0)]), (4, 4, [595, 34359738369, 68719476737, 103079215105], [(0, 4294967295), (2147483648, 2147483655), (0, 4294967295), (2147483648, 2147483656)], [], [(0, 99996), (1, 3)])], 2, 0, [34])
/-- 36: X11_bobbin -/
noncomputable def zyir36 (r c : Nat) : zyIn := (266, ([595, 34359738362, 34359738362], [(74, 2, 3)], [34359738362], 7, [], []), [(0, 3, [595, 34359738369, 68719476737], [(0, 4294967295), (0, 4294967295), (0, 4294967295)], [], [])], 0, 0, [32, 33, 35])
/-- 37: X11_bobbinIn -/
noncomputable def zyir37 (r c : Nat) : zyIn := (267, ([595, 1152, 34359738362], [], [73786976277658337338], 1, [], []), [(0, 4, [595, 1152, 68719476737, 13], [(0, 4294967295), (0, 4294967295), (0, 4294967295), (0, 4294967295)], [], [(0, 200000), (0, 0)]), (2, 4, [595, 1152, 68719476737, 103079215105], [(0, 4294967295), (0, 4294967295), (0, 4294967295), (2147483648, 2147483656)], [], [(0, 99998), (1, 3)])], 2, 0, [])
/-- 38: X11_at -/
noncomputable def zyir38 (r c : Nat) : zyIn := (268, ([595, 34359738362], [(74, 2, 3)], [73786976277658337338], 3, [], []), [(0, 3, [595, 34359738369, 13], [(0, 4294967295), (0, 4294967295), (0, 4294967295)], [], [])], 0, 0, [37])
/-- 39: X11_faces -/
noncomputable def zyir39 (r c : Nat) : zyIn := (269, ([595, 34359738362], [(74, 2, 3)], [(zyS1 r c)], 7, [], []), [(0, 3, [595, 34359738369, 13], [(0, 4294967295), (0, 4294967295), (0, 4294967295)], [], [])], 0, 0, [2])
/-- 40: X11_program -/
noncomputable def zyir40 (r c : Nat) : zyIn := (270, ([595, 34359738362, 34359738362, 34359738362], [(74, 2, 3), (75, 8, 38), (75, 40, 70)], [73786976277658337314], 4, [], []), [(0, 4, [595, 34359738369, 68719476737, 103079215105], [(0, 4294967295), (0, 4294967295), (0, 4294967295), (0, 4294967295)], [], [])], 0, 0, [])
/-- 41: X11_stick -/
noncomputable def zyir41 (r c : Nat) : zyIn := (271, ([595, 34359738362, 34359738362], [(74, 2, 3), (75, 72, 102)], [73786976277658337298], 4, [], []), [(0, 4, [595, 34359738369, 68719476737, 13], [(0, 4294967295), (0, 4294967295), (0, 4294967295), (0, 4294967295)], [], [])], 0, 0, [])
/-- 42: X11_free -/
noncomputable def zyir42 (r c : Nat) : zyIn := (272, ([595, 34359738362, 73786976312018075658], [(74, 2, 3), (75, 104, 134)], [34359738362], 5, [], []), [(0, 3, [595, 34359738369, 68719476737], [(0, 4294967295), (0, 4294967295), (2147483648, 2147483649)], [], [])], 0, 0, [13])
/-- 43: X11_wish -/
noncomputable def zyir43 (r c : Nat) : zyIn := (277, ([595, 34359738362, 34359738362], [(74, 2, 3), (75, 152, 159)], [(zyS1 r c)], 3, [], []), [(0, 4, [595, 34359738369, 68719476737, 13], [(0, 4294967295), (0, 4294967295), (0, 4294967295), (0, 4294967295)], [], [])], 0, 0, [])
/-- 44: X11_map -/
noncomputable def zyir44 (r c : Nat) : zyIn := (282, ([595, 34359738362, 34359738362], [(74, 2, 3)], [(zyS1 r c)], 9, [], []), [(0, 3, [595, 34359738369, 68719476737], [(0, 4294967295), (0, 4294967295), (0, 4294967295)], [], [])], 0, 0, [5])
/-- 45: X11_ride -/
noncomputable def zyir45 (r c : Nat) : zyIn := (283, ([595, 34359738362, 34359738362, 34359738362], [(74, 2, 3)], [(zyS1 r c)], 9, [], []), [(0, 6, [595, 34359738369, 68719476737, 103079215105, 13, 13], [(0, 4294967295), (0, 4294967295), (0, 4294967295), (0, 4294967295), (0, 4294967295), (0, 4294967295)], [], [(0, 200000), (0, 0)]), (54, 7, [595, 34359738369, 68719476737, 103079215105, 137438953473, 171798691841], [(0, 4294967295), (2147483648, (Nat.add 2147483647 (zgNS r c))), (2147483648, 2148483648), (2147483648, 2147493648), (2147483648, (Nat.add 2147483647 (zgNS r c))), (2147483648, 2147493648), (0, 4294967295)], [(1212418, 0)], [(0, 99946), (1, 5)])], 2, 0, [5])
/-- 46: X11_round -/
noncomputable def zyir46 (r c : Nat) : zyIn := (284, ([595, 34359738362], [(74, 2, 3)], [(zyS1 r c)], 15, [], []), [(0, 2, [595, 34359738369], [(0, 4294967295), (0, 4294967295)], [], [])], 0, 0, [7])
/-- 47: X11_startsIn -/
noncomputable def zyir47 (r c : Nat) : zyIn := (286, ([595, (zyS r c)], [], [34359738362], 16, [], []), [(0, 5, [595, 34359738369, 13, 13, 13], [(0, 4294967295), (2147483648, (Nat.add 2147483647 (zgNS r c))), (0, 4294967295), (0, 4294967295), (0, 4294967295)], [], [(0, 200000), (0, 0)]), (11, 5, [595, 34359738369, 68719476737, 103079215105, 137438953473], [(0, 4294967295), (2147483648, (Nat.add 2147483647 (zgNS r c))), (2147483648, (Nat.add 2147483647 (zgNS r c))), (0, 4294967295), (2147483648, 2147483656)], [], [(0, 99989), (1, 4)])], 2, 0, [10])
/-- 48: X11_track -/
noncomputable def zyir48 (r c : Nat) : zyIn := (287, ([595, 34359738362, 34359738362], [(74, 2, 3)], [34359738362], 18, [], []), [(0, 3, [595, 34359738369, 68719476737], [(0, 4294967295), (0, 4294967295), (0, 4294967295)], [], [])], 0, 0, [9, 10, 47])
/-- 49: X11_tracks -/
noncomputable def zyir49 (r c : Nat) : zyIn := (288, ([595, 34359738362], [(74, 2, 3)], [34359738362], 92, [], []), [(0, 7, [595, 34359738369, 13, 13, 13, 13, 13], [(0, 4294967295), (0, 4294967295), (0, 4294967295), (0, 4294967295), (0, 4294967295), (0, 4294967295), (0, 4294967295)], [], [(0, 200000), (0, 0)]), (33, 8, [595, 34359738369, 68719476737, 103079215105, 137438953473, 171798691841, 13], [(0, 4294967295), (2147483648, 2147483650), (0, 4294967295), (2147483648, 2147483728), (0, 4294967295), (2147483648, (Nat.add 2147483648 (zgNS r c))), (0, 4294967295), (0, 4294967295)], [(1212418, 0)], [(0, 99967), (1, 5)])], 2, 0, [9, 10, 12])
/-- 50: X11_ofLength -/
noncomputable def zyir50 (r c : Nat) : zyIn := (289, ([595, 34359738362], [(74, 2, 3)], [34359738362], 16, [], []), [(0, 4, [595, 34359738369, 13, 13], [(0, 4294967295), (0, 4294967295), (0, 4294967295), (0, 4294967295)], [], [(0, 200000), (0, 0)]), (23, 5, [595, 34359738369, 68719476737, 103079215105], [(0, 4294967295), (2147483649, 4294967295), (0, 4294967295), (2147483648, (Nat.add 2147483648 (zgNS r c))), (0, 4294967295)], [(1212418, 0)], [(0, 99977), (1, 3)])], 2, 0, [9, 10])
/-- 51: X11_meets -/
noncomputable def zyir51 (r c : Nat) : zyIn := (291, ([595, 34359738362, 34359738362, 34359738362], [(74, 2, 3), (74, 24, 24)], [34359738362], 15, [], []), [(0, 5, [595, 34359738369, 68719476737, 103079215105, 13], [(0, 4294967295), (0, 4294967295), (0, 4294967295), (0, 4294967295), (0, 4294967295)], [], [])], 0, 0, [2, 11])
/-- 52: X11_crash -/
noncomputable def zyir52 (r c : Nat) : zyIn := (292, ([595, 34359738362], [(74, 2, 3), (74, 24, 24)], [34359738362], 15, [(1228803, 73786976320608010242)], []), [(0, 10, [595, 34359738369, 13, 13, 13, 13, 13, 13, 13], [(0, 4294967295), (0, 4294967295), (0, 4294967295), (0, 4294967295), (0, 4294967295), (0, 4294967295), (0, 4294967295), (0, 4294967295), (0, 4294967295), (2147483648, 3221225472)], [(1228803, 309237645313)], [(0, 200000), (0, 0), (0, 0), (0, 0)]), (36, 11, [595, 34359738369, 68719476737, 103079215105, 137438953473, 171798691841, 206158430209, 13, 13], [(0, 4294967295), (2147483648, 2147483651), (2147483647, 2147563648), (0, 4294967295), (2147483648, 2147483655), (2147483648, 2147483655), (2147483648, 2147483656), (0, 4294967295), (0, 4294967295), (0, 4294967295), (2147483648, 3221225472)], [(1212418, 0), (1228803, 343597383681)], [(0, 99964), (1, 6), (0, 200000), (0, 0)]), (53, 12, [595, 34359738369, 68719476737, 103079215105, 137438953473, 171798691841, 206158430209, 240518168577, 13], [(0, 4294967295), (2147483648, 2147483651), (2147483647, 2147563648), (0, 4294967295), (2147483648, 2147483655), (2147483648, 2147483655), (2147483648, 2147483655), (2147483649, 2147483656), (0, 4294967295), (0, 4294967295), (2147483649, 2147483656), (2147483648, 3221225472)], [(1212418, 0), (1228802, 343597383681), (1228803, 377957122049)], [(0, 99964), (1, 6), (0, 99947), (1, 7)])], 4, 0, [11])
/-- 53: X11_repeat -/
noncomputable def zyir53 (r c : Nat) : zyIn := (293, ([595], [(74, 2, 3)], [34359738362], 92, [(1228803, 73786976320608010242)], []), [(0, 4, [595, 13, 13], [(0, 4294967295), (0, 4294967295), (0, 4294967295), (2147483648, 3221225472)], [(1228803, 103079215105)], [(0, 200000), (0, 0)]), (27, 6, [595, 34359738369, 68719476737], [(0, 4294967295), (0, 4294967295), (2147483648, 2147483656), (0, 4294967295), (2147483649, 2147483656), (2147483648, 3221225472)], [(1212418, 0), (1228802, 137438953473), (1228803, 171798691841)], [(0, 99973), (1, 2)])], 2, 0, [6, 9, 12])
/-- 54: X11_laid -/
noncomputable def zyir54 (r c : Nat) : zyIn := (294, ([595, 34359738362], [(74, 2, 3), (74, 24, 24), (78, 0, 7)], [(zyS1 r c)], 15, [], []), [(0, 6, [595, 34359738369, 13, 13, 13, 13], [(0, 4294967295), (0, 4294967295), (0, 4294967295), (0, 4294967295), (0, 4294967295), (0, 4294967295)], [], [(0, 200000), (0, 0), (0, 0), (0, 0)]), (32, 7, [595, 34359738369, 0, 103079215105, 13, 13], [(0, 4294967295), (2147483648, 2147483655), (0, 4294967295), (2147483648, (Nat.add 2147483648 (zgNS r c))), (0, 4294967295), (0, 4294967295), (0, 4294967295)], [(1212418, 0)], [(0, 99968), (1, 3), (0, 200000), (0, 0)]), (51, 7, [595, 34359738369, 0, 103079215105, 8, 0], [(0, 4294967295), (2147483648, 2147483655), (0, 4294967295), (2147483648, (Nat.add 2147483647 (zgNS r c))), (0, 4294967295), (0, 4294967295), (0, 4294967295)], [(1212418, 0)], [(0, 99968), (1, 3), (0, 99949), (0, 1000000)]), (32, 8, [595, 34359738369, 8, 103079215105, 137438953473, 171798691841], [(0, 4294967295), (2147483648, 2147483655), (0, 4294967295), (2147483648, (Nat.add 2147483648 (zgNS r c))), (2147483648, 2147483649), (2147483648, 2147483649), (0, 4294967295), (2147483648, (Nat.add 2147483647 (zgNS r c)))], [(1212418, 0), (1277952, 240518168577)], [(0, 99968), (1, 3), (0, 200000), (0, 0)]), (51, 8, [595, 34359738369, 8, 103079215105, 8, 0], [(0, 4294967295), (2147483649, 2147483655), (0, 4294967295), (2147483648, (Nat.add 2147483647 (zgNS r c))), (0, 4294967295), (0, 4294967295), (0, 4294967295), (2147483648, (Nat.add 2147483647 (zgNS r c)))], [(1212418, 0), (1277952, 240518168577)], [(0, 99968), (1, 3), (0, 99949), (0, 1000000)]), (51, 8, [595, 34359738369, 8, 103079215105, 137438953473, 8], [(0, 4294967295), (2147483649, 2147483655), (0, 4294967295), (2147483648, (Nat.add 2147483647 (zgNS r c))), (2147483648, 2147483649), (0, 4294967295), (0, 4294967295), (2147483648, (Nat.add 2147483647 (zgNS r c)))], [(1212418, 0), (1277952, 240518168577)], [(0, 99968), (1, 3), (0, 99949), (0, 999999)]), (32, 9, [595, 34359738369, 16, 103079215105, 137438953473, 171798691841], [(0, 4294967295), (2147483649, 2147483655), (0, 4294967295), (2147483648, (Nat.add 2147483648 (zgNS r c))), (2147483648, 2147483649), (2147483649, 2147483650), (0, 4294967295), (2147483648, (Nat.add 2147483647 (zgNS r c))), (2147483648, (Nat.add 2147483647 (zgNS r c)))], [(1212418, 0), (1277952, 240518168577), (1277953, 274877906945)], [(0, 99968), (1, 3), (0, 200000), (0, 0)]), (51, 9, [595, 34359738369, 16, 103079215105, 8, 0], [(0, 4294967295), (2147483650, 2147483655), (0, 4294967295), (2147483648, (Nat.add 2147483647 (zgNS r c))), (0, 4294967295), (0, 4294967295), (0, 4294967295), (2147483648, (Nat.add 2147483647 (zgNS r c))), (2147483648, (Nat.add 2147483647 (zgNS r c)))], [(1212418, 0), (1277952, 240518168577), (1277953, 274877906945)], [(0, 99968), (1, 3), (0, 99949), (0, 1000000)]), (51, 9, [595, 34359738369, 16, 103079215105, 137438953473, 8], [(0, 4294967295), (2147483650, 2147483655), (0, 4294967295), (2147483648, (Nat.add 2147483647 (zgNS r c))), (2147483648, 2147483649), (0, 4294967295), (0, 4294967295), (2147483648, (Nat.add 2147483647 (zgNS r c))), (2147483648, (Nat.add 2147483647 (zgNS r c)))], [(1212418, 0), (1277952, 240518168577), (1277953, 274877906945)], [(0, 99968), (1, 3), (0, 99949), (0, 999999)]), (51, 9, [595, 34359738369, 16, 103079215105, 137438953473, 16], [(0, 4294967295), (2147483650, 2147483655), (0, 4294967295), (2147483648, (Nat.add 2147483647 (zgNS r c))), (2147483648, 2147483649), (0, 4294967295), (0, 4294967295), (2147483648, (Nat.add 2147483647 (zgNS r c))), (2147483648, (Nat.add 2147483647 (zgNS r c)))], [(1212418, 0), (1277952, 240518168577), (1277953, 274877906945)], [(0, 99968), (1, 3), (0, 99949), (0, 999998)]), (32, 10, [595, 34359738369, 24, 103079215105, 137438953473, 171798691841], [(0, 4294967295), (2147483650, 2147483655), (0, 4294967295), (2147483648, (Nat.add 2147483648 (zgNS r c))), (2147483648, 2147483649), (2147483649, 2147483651), (0, 4294967295), (2147483648, (Nat.add 2147483647 (zgNS r c))), (2147483648, (Nat.add 2147483647 (zgNS r c))), (2147483648, (Nat.add 2147483647 (zgNS r c)))], [(1212418, 0), (1277952, 240518168577), (1277953, 274877906945), (1277954, 309237645313)], [(0, 99968), (1, 3), (0, 200000), (0, 0)]), (51, 10, [595, 34359738369, 24, 103079215105, 8, 0], [(0, 4294967295), (2147483651, 2147483655), (0, 4294967295), (2147483648, (Nat.add 2147483647 (zgNS r c))), (0, 4294967295), (0, 4294967295), (0, 4294967295), (2147483648, (Nat.add 2147483647 (zgNS r c))), (2147483648, (Nat.add 2147483647 (zgNS r c))), (2147483648, (Nat.add 2147483647 (zgNS r c)))], [(1212418, 0), (1277952, 240518168577), (1277953, 274877906945), (1277954, 309237645313)], [(0, 99968), (1, 3), (0, 99949), (0, 1000000)]), (51, 10, [595, 34359738369, 24, 103079215105, 137438953473, 8], [(0, 4294967295), (2147483651, 2147483655), (0, 4294967295), (2147483648, (Nat.add 2147483647 (zgNS r c))), (2147483648, 2147483649), (0, 4294967295), (0, 4294967295), (2147483648, (Nat.add 2147483647 (zgNS r c))), (2147483648, (Nat.add 2147483647 (zgNS r c))), (2147483648, (Nat.add 2147483647 (zgNS r c)))], [(1212418, 0), (1277952, 240518168577), (1277953, 274877906945), (1277954, 309237645313)], [(0, 99968), (1, 3), (0, 99949), (0, 999999)]), (51, 10, [595, 34359738369, 24, 103079215105, 137438953473, 16], [(0, 4294967295), (2147483651, 2147483655), (0, 4294967295), (2147483648, (Nat.add 2147483647 (zgNS r c))), (2147483648, 2147483649), (0, 4294967295), (0, 4294967295), (2147483648, (Nat.add 2147483647 (zgNS r c))), (2147483648, (Nat.add 2147483647 (zgNS r c))), (2147483648, (Nat.add 2147483647 (zgNS r c)))], [(1212418, 0), (1277952, 240518168577), (1277953, 274877906945), (1277954, 309237645313)], [(0, 99968), (1, 3), (0, 99949), (0, 999998)]), (51, 10, [595, 34359738369, 24, 103079215105, 137438953473, 24], [(0, 4294967295), (2147483651, 2147483655), (0, 4294967295), (2147483648, (Nat.add 2147483647 (zgNS r c))), (2147483648, 2147483649), (0, 4294967295), (0, 4294967295), (2147483648, (Nat.add 2147483647 (zgNS r c))), (2147483648, (Nat.add 2147483647 (zgNS r c))), (2147483648, (Nat.add 2147483647 (zgNS r c)))], [(1212418, 0), (1277952, 240518168577), (1277953, 274877906945), (1277954, 309237645313)], [(0, 99968), (1, 3), (0, 99949), (0, 999997)]), (32, 11, [595, 34359738369, 32, 103079215105, 137438953473, 171798691841], [(0, 4294967295), (2147483651, 2147483655), (0, 4294967295), (2147483648, (Nat.add 2147483648 (zgNS r c))), (2147483648, 2147483649), (2147483649, 2147483652), (0, 4294967295), (2147483648, (Nat.add 2147483647 (zgNS r c))), (2147483648, (Nat.add 2147483647 (zgNS r c))), (2147483648, (Nat.add 2147483647 (zgNS r c))), (2147483648, (Nat.add 2147483647 (zgNS r c)))], [(1212418, 0), (1277952, 240518168577), (1277953, 274877906945), (1277954, 309237645313), (1277955, 343597383681)], [(0, 99968), (1, 3), (0, 200000), (0, 0)]), (51, 11, [595, 34359738369, 32, 103079215105, 8, 0], [(0, 4294967295), (2147483652, 2147483655), (0, 4294967295), (2147483648, (Nat.add 2147483647 (zgNS r c))), (0, 4294967295), (0, 4294967295), (0, 4294967295), (2147483648, (Nat.add 2147483647 (zgNS r c))), (2147483648, (Nat.add 2147483647 (zgNS r c))), (2147483648, (Nat.add 2147483647 (zgNS r c))), (2147483648, (Nat.add 2147483647 (zgNS r c)))], [(1212418, 0), (1277952, 240518168577), (1277953, 274877906945), (1277954, 309237645313), (1277955, 343597383681)], [(0, 99968), (1, 3), (0, 99949), (0, 1000000)]), (51, 11, [595, 34359738369, 32, 103079215105, 137438953473, 8], [(0, 4294967295), (2147483652, 2147483655), (0, 4294967295), (2147483648, (Nat.add 2147483647 (zgNS r c))), (2147483648, 2147483649), (0, 4294967295), (0, 4294967295), (2147483648, (Nat.add 2147483647 (zgNS r c))), (2147483648, (Nat.add 2147483647 (zgNS r c))), (2147483648, (Nat.add 2147483647 (zgNS r c))), (2147483648, (Nat.add 2147483647 (zgNS r c)))], [(1212418, 0), (1277952, 240518168577), (1277953, 274877906945), (1277954, 309237645313), (1277955, 343597383681)], [(0, 99968), (1, 3), (0, 99949), (0, 999999)]), (51, 11, [595, 34359738369, 32, 103079215105, 137438953473, 16], [(0, 4294967295), (2147483652, 2147483655), (0, 4294967295), (2147483648, (Nat.add 2147483647 (zgNS r c))), (2147483648, 2147483649), (0, 4294967295), (0, 4294967295), (2147483648, (Nat.add 2147483647 (zgNS r c))), (2147483648, (Nat.add 2147483647 (zgNS r c))), (2147483648, (Nat.add 2147483647 (zgNS r c))), (2147483648, (Nat.add 2147483647 (zgNS r c)))], [(1212418, 0), (1277952, 240518168577), (1277953, 274877906945), (1277954, 309237645313), (1277955, 343597383681)], [(0, 99968), (1, 3), (0, 99949), (0, 999998)]), (51, 11, [595, 34359738369, 32, 103079215105, 137438953473, 24], [(0, 4294967295), (2147483652, 2147483655), (0, 4294967295), (2147483648, (Nat.add 2147483647 (zgNS r c))), (2147483648, 2147483649), (0, 4294967295), (0, 4294967295), (2147483648, (Nat.add 2147483647 (zgNS r c))), (2147483648, (Nat.add 2147483647 (zgNS r c))), (2147483648, (Nat.add 2147483647 (zgNS r c))), (2147483648, (Nat.add 2147483647 (zgNS r c)))], [(1212418, 0), (1277952, 240518168577), (1277953, 274877906945), (1277954, 309237645313), (1277955, 343597383681)], [(0, 99968), (1, 3), (0, 99949), (0, 999997)]), (51, 11, [595, 34359738369, 32, 103079215105, 137438953473, 32], [(0, 4294967295), (2147483652, 2147483655), (0, 4294967295), (2147483648, (Nat.add 2147483647 (zgNS r c))), (2147483648, 2147483649), (0, 4294967295), (0, 4294967295), (2147483648, (Nat.add 2147483647 (zgNS r c))), (2147483648, (Nat.add 2147483647 (zgNS r c))), (2147483648, (Nat.add 2147483647 (zgNS r c))), (2147483648, (Nat.add 2147483647 (zgNS r c)))], [(1212418, 0), (1277952, 240518168577), (1277953, 274877906945), (1277954, 309237645313), (1277955, 343597383681)], [(0, 99968), (1, 3), (0, 99949), (0, 999996)]), (32, 12, [595, 34359738369, 40, 103079215105, 137438953473, 171798691841], [(0, 4294967295), (2147483652, 2147483655), (0, 4294967295), (2147483648, (Nat.add 2147483648 (zgNS r c))), (2147483648, 2147483649), (2147483649, 2147483653), (0, 4294967295), (2147483648, (Nat.add 2147483647 (zgNS r c))), (2147483648, (Nat.add 2147483647 (zgNS r c))), (2147483648, (Nat.add 2147483647 (zgNS r c))), (2147483648, (Nat.add 2147483647 (zgNS r c))), (2147483648, (Nat.add 2147483647 (zgNS r c)))], [(1212418, 0), (1277952, 240518168577), (1277953, 274877906945), (1277954, 309237645313), (1277955, 343597383681), (1277956, 377957122049)], [(0, 99968), (1, 3), (0, 200000), (0, 0)]), (51, 12, [595, 34359738369, 40, 103079215105, 8, 0], [(0, 4294967295), (2147483653, 2147483655), (0, 4294967295), (2147483648, (Nat.add 2147483647 (zgNS r c))), (0, 4294967295), (0, 4294967295), (0, 4294967295), (2147483648, (Nat.add 2147483647 (zgNS r c))), (2147483648, (Nat.add 2147483647 (zgNS r c))), (2147483648, (Nat.add 2147483647 (zgNS r c))), (2147483648, (Nat.add 2147483647 (zgNS r c))), (2147483648, (Nat.add 2147483647 (zgNS r c)))], [(1212418, 0), (1277952, 240518168577), (1277953, 274877906945), (1277954, 309237645313), (1277955, 343597383681), (1277956, 377957122049)], [(0, 99968), (1, 3), (0, 99949), (0, 1000000)]), (51, 12, [595, 34359738369, 40, 103079215105, 137438953473, 8], [(0, 4294967295), (2147483653, 2147483655), (0, 4294967295), (2147483648, (Nat.add 2147483647 (zgNS r c))), (2147483648, 2147483649), (0, 4294967295), (0, 4294967295), (2147483648, (Nat.add 2147483647 (zgNS r c))), (2147483648, (Nat.add 2147483647 (zgNS r c))), (2147483648, (Nat.add 2147483647 (zgNS r c))), (2147483648, (Nat.add 2147483647 (zgNS r c))), (2147483648, (Nat.add 2147483647 (zgNS r c)))], [(1212418, 0), (1277952, 240518168577), (1277953, 274877906945), (1277954, 309237645313), (1277955, 343597383681), (1277956, 377957122049)], [(0, 99968), (1, 3), (0, 99949), (0, 999999)]), (51, 12, [595, 34359738369, 40, 103079215105, 137438953473, 16], [(0, 4294967295), (2147483653, 2147483655), (0, 4294967295), (2147483648, (Nat.add 2147483647 (zgNS r c))), (2147483648, 2147483649), (0, 4294967295), (0, 4294967295), (2147483648, (Nat.add 2147483647 (zgNS r c))), (2147483648, (Nat.add 2147483647 (zgNS r c))), (2147483648, (Nat.add 2147483647 (zgNS r c))), (2147483648, (Nat.add 2147483647 (zgNS r c))), (2147483648, (Nat.add 2147483647 (zgNS r c)))], [(1212418, 0), (1277952, 240518168577), (1277953, 274877906945), (1277954, 309237645313), (1277955, 343597383681), (1277956, 377957122049)], [(0, 99968), (1, 3), (0, 99949), (0, 999998)]), (51, 12, [595, 34359738369, 40, 103079215105, 137438953473, 24], [(0, 4294967295), (2147483653, 2147483655), (0, 4294967295), (2147483648, (Nat.add 2147483647 (zgNS r c))), (2147483648, 2147483649), (0, 4294967295), (0, 4294967295), (2147483648, (Nat.add 2147483647 (zgNS r c))), (2147483648, (Nat.add 2147483647 (zgNS r c))), (2147483648, (Nat.add 2147483647 (zgNS r c))), (2147483648, (Nat.add 2147483647 (zgNS r c))), (2147483648, (Nat.add 2147483647 (zgNS r c)))], [(1212418, 0), (1277952, 240518168577), (1277953, 274877906945), (1277954, 309237645313), (1277955, 343597383681), (1277956, 377957122049)], [(0, 99968), (1, 3), (0, 99949), (0, 999997)]), (51, 12, [595, 34359738369, 40, 103079215105, 137438953473, 32], [(0, 4294967295), (2147483653, 2147483655), (0, 4294967295), (2147483648, (Nat.add 2147483647 (zgNS r c))), (2147483648, 2147483649), (0, 4294967295), (0, 4294967295), (2147483648, (Nat.add 2147483647 (zgNS r c))), (2147483648, (Nat.add 2147483647 (zgNS r c))), (2147483648, (Nat.add 2147483647 (zgNS r c))), (2147483648, (Nat.add 2147483647 (zgNS r c))), (2147483648, (Nat.add 2147483647 (zgNS r c)))], [(1212418, 0), (1277952, 240518168577), (1277953, 274877906945), (1277954, 309237645313), (1277955, 343597383681), (1277956, 377957122049)], [(0, 99968), (1, 3), (0, 99949), (0, 999996)]), (51, 12, [595, 34359738369, 40, 103079215105, 137438953473, 40], [(0, 4294967295), (2147483653, 2147483655), (0, 4294967295), (2147483648, (Nat.add 2147483647 (zgNS r c))), (2147483648, 2147483649), (0, 4294967295), (0, 4294967295), (2147483648, (Nat.add 2147483647 (zgNS r c))), (2147483648, (Nat.add 2147483647 (zgNS r c))), (2147483648, (Nat.add 2147483647 (zgNS r c))), (2147483648, (Nat.add 2147483647 (zgNS r c))), (2147483648, (Nat.add 2147483647 (zgNS r c)))], [(1212418, 0), (1277952, 240518168577), (1277953, 274877906945), (1277954, 309237645313), (1277955, 343597383681), (1277956, 377957122049)], [(0, 99968), (1, 3), (0, 99949), (0, 999995)]), (32, 13, [595, 34359738369, 48, 103079215105, 137438953473, 171798691841], [(0, 4294967295), (2147483653, 2147483655), (0, 4294967295), (2147483648, (Nat.add 2147483648 (zgNS r c))), (2147483648, 2147483649), (2147483649, 2147483654), (0, 4294967295), (2147483648, (Nat.add 2147483647 (zgNS r c))), (2147483648, (Nat.add 2147483647 (zgNS r c))), (2147483648, (Nat.add 2147483647 (zgNS r c))), (2147483648, (Nat.add 2147483647 (zgNS r c))), (2147483648, (Nat.add 2147483647 (zgNS r c))), (2147483648, (Nat.add 2147483647 (zgNS r c)))], [(1212418, 0), (1277952, 240518168577), (1277953, 274877906945), (1277954, 309237645313), (1277955, 343597383681), (1277956, 377957122049), (1277957, 412316860417)], [(0, 99968), (1, 3), (0, 200000), (0, 0)]), (51, 13, [595, 34359738369, 48, 103079215105, 8, 0], [(0, 4294967295), (2147483654, 2147483655), (0, 4294967295), (2147483648, (Nat.add 2147483647 (zgNS r c))), (0, 4294967295), (0, 4294967295), (0, 4294967295), (2147483648, (Nat.add 2147483647 (zgNS r c))), (2147483648, (Nat.add 2147483647 (zgNS r c))), (2147483648, (Nat.add 2147483647 (zgNS r c))), (2147483648, (Nat.add 2147483647 (zgNS r c))), (2147483648, (Nat.add 2147483647 (zgNS r c))), (2147483648, (Nat.add 2147483647 (zgNS r c)))], [(1212418, 0), (1277952, 240518168577), (1277953, 274877906945), (1277954, 309237645313), (1277955, 343597383681), (1277956, 377957122049), (1277957, 412316860417)], [(0, 99968), (1, 3), (0, 99949), (0, 1000000)]), (51, 13, [595, 34359738369, 48, 103079215105, 137438953473, 8], [(0, 4294967295), (2147483654, 2147483655), (0, 4294967295), (2147483648, (Nat.add 2147483647 (zgNS r c))), (2147483648, 2147483649), (0, 4294967295), (0, 4294967295), (2147483648, (Nat.add 2147483647 (zgNS r c))), (2147483648, (Nat.add 2147483647 (zgNS r c))), (2147483648, (Nat.add 2147483647 (zgNS r c))), (2147483648, (Nat.add 2147483647 (zgNS r c))), (2147483648, (Nat.add 2147483647 (zgNS r c))), (2147483648, (Nat.add 2147483647 (zgNS r c)))], [(1212418, 0), (1277952, 240518168577), (1277953, 274877906945), (1277954, 309237645313), (1277955, 343597383681), (1277956, 377957122049), (1277957, 412316860417)], [(0, 99968), (1, 3), (0, 99949), (0, 999999)]), (51, 13, [595, 34359738369, 48, 103079215105, 137438953473, 16], [(0, 4294967295), (2147483654, 2147483655), (0, 4294967295), (2147483648, (Nat.add 2147483647 (zgNS r c))), (2147483648, 2147483649), (0, 4294967295), (0, 4294967295), (2147483648, (Nat.add 2147483647 (zgNS r c))), (2147483648, (Nat.add 2147483647 (zgNS r c))), (2147483648, (Nat.add 2147483647 (zgNS r c))), (2147483648, (Nat.add 2147483647 (zgNS r c))), (2147483648, (Nat.add 2147483647 (zgNS r c))), (2147483648, (Nat.add 2147483647 (zgNS r c)))], [(1212418, 0), (1277952, 240518168577), (1277953, 274877906945), (1277954, 309237645313), (1277955, 343597383681), (1277956, 377957122049), (1277957, 412316860417)], [(0, 99968), (1, 3), (0, 99949), (0, 999998)]), (51, 13, [595, 34359738369, 48, 103079215105, 137438953473, 24], [(0, 4294967295), (2147483654, 2147483655), (0, 4294967295), (2147483648, (Nat.add 2147483647 (zgNS r c))), (2147483648, 2147483649), (0, 4294967295), (0, 4294967295), (2147483648, (Nat.add 2147483647 (zgNS r c))), (2147483648, (Nat.add 2147483647 (zgNS r c))), (2147483648, (Nat.add 2147483647 (zgNS r c))), (2147483648, (Nat.add 2147483647 (zgNS r c))), (2147483648, (Nat.add 2147483647 (zgNS r c))), (2147483648, (Nat.add 2147483647 (zgNS r c)))], [(1212418, 0), (1277952, 240518168577), (1277953, 274877906945), (1277954, 309237645313), (1277955, 343597383681), (1277956, 377957122049), (1277957, 412316860417)], [(0, 99968), (1, 3), (0, 99949), (0, 999997)]), (51, 13, [595, 34359738369, 48, 103079215105, 137438953473, 32], [(0, 4294967295), (2147483654, 2147483655), (0, 4294967295), (2147483648, (Nat.add 2147483647 (zgNS r c))), (2147483648, 2147483649), (0, 4294967295), (0, 4294967295), (2147483648, (Nat.add 2147483647 (zgNS r c))), (2147483648, (Nat.add 2147483647 (zgNS r c))), (2147483648, (Nat.add 2147483647 (zgNS r c))), (2147483648, (Nat.add 2147483647 (zgNS r c))), (2147483648, (Nat.add 2147483647 (zgNS r c))), (2147483648, (Nat.add 2147483647 (zgNS r c)))], [(1212418, 0), (1277952, 240518168577), (1277953, 274877906945), (1277954, 309237645313), (1277955, 343597383681), (1277956, 377957122049), (1277957, 412316860417)], [(0, 99968), (1, 3), (0, 99949), (0, 999996)]), (51, 13, [595, 34359738369, 48, 103079215105, 137438953473, 40], [(0, 4294967295), (2147483654, 2147483655), (0, 4294967295), (2147483648, (Nat.add 2147483647 (zgNS r c))), (2147483648, 2147483649), (0, 4294967295), (0, 4294967295), (2147483648, (Nat.add 2147483647 (zgNS r c))), (2147483648, (Nat.add 2147483647 (zgNS r c))), (2147483648, (Nat.add 2147483647 (zgNS r c))), (2147483648, (Nat.add 2147483647 (zgNS r c))), (2147483648, (Nat.add 2147483647 (zgNS r c))), (2147483648, (Nat.add 2147483647 (zgNS r c)))], [(1212418, 0), (1277952, 240518168577), (1277953, 274877906945), (1277954, 309237645313), (1277955, 343597383681), (1277956, 377957122049), (1277957, 412316860417)], [(0, 99968), (1, 3), (0, 99949), (0, 999995)]), (51, 13, [595, 34359738369, 48, 103079215105, 137438953473, 48], [(0, 4294967295), (2147483654, 2147483655), (0, 4294967295), (2147483648, (Nat.add 2147483647 (zgNS r c))), (2147483648, 2147483649), (0, 4294967295), (0, 4294967295), (2147483648, (Nat.add 2147483647 (zgNS r c))), (2147483648, (Nat.add 2147483647 (zgNS r c))), (2147483648, (Nat.add 2147483647 (zgNS r c))), (2147483648, (Nat.add 2147483647 (zgNS r c))), (2147483648, (Nat.add 2147483647 (zgNS r c))), (2147483648, (Nat.add 2147483647 (zgNS r c)))], [(1212418, 0), (1277952, 240518168577), (1277953, 274877906945), (1277954, 309237645313), (1277955, 343597383681), (1277956, 377957122049), (1277957, 412316860417)], [(0, 99968), (1, 3), (0, 99949), (0, 999994)]), (32, 14, [595, 34359738369, 56, 103079215105, 137438953473, 171798691841], [(0, 4294967295), (2147483654, 2147483655), (0, 4294967295), (2147483648, (Nat.add 2147483648 (zgNS r c))), (2147483648, 2147483649), (2147483649, 2147483655), (0, 4294967295), (2147483648, (Nat.add 2147483647 (zgNS r c))), (2147483648, (Nat.add 2147483647 (zgNS r c))), (2147483648, (Nat.add 2147483647 (zgNS r c))), (2147483648, (Nat.add 2147483647 (zgNS r c))), (2147483648, (Nat.add 2147483647 (zgNS r c))), (2147483648, (Nat.add 2147483647 (zgNS r c))), (2147483648, (Nat.add 2147483647 (zgNS r c)))], [(1212418, 0), (1277952, 240518168577), (1277953, 274877906945), (1277954, 309237645313), (1277955, 343597383681), (1277956, 377957122049), (1277957, 412316860417), (1277958, 446676598785)], [(0, 99968), (1, 3), (0, 200000), (0, 0)]), (51, 14, [595, 34359738369, 56, 103079215105, 8, 0], [(0, 4294967295), (2147483655, 2147483655), (0, 4294967295), (2147483648, (Nat.add 2147483647 (zgNS r c))), (0, 4294967295), (0, 4294967295), (0, 4294967295), (2147483648, (Nat.add 2147483647 (zgNS r c))), (2147483648, (Nat.add 2147483647 (zgNS r c))), (2147483648, (Nat.add 2147483647 (zgNS r c))), (2147483648, (Nat.add 2147483647 (zgNS r c))), (2147483648, (Nat.add 2147483647 (zgNS r c))), (2147483648, (Nat.add 2147483647 (zgNS r c))), (2147483648, (Nat.add 2147483647 (zgNS r c)))], [(1212418, 0), (1277952, 240518168577), (1277953, 274877906945), (1277954, 309237645313), (1277955, 343597383681), (1277956, 377957122049), (1277957, 412316860417), (1277958, 446676598785)], [(0, 99968), (1, 3), (0, 99949), (0, 1000000)]), (51, 14, [595, 34359738369, 56, 103079215105, 137438953473, 8], [(0, 4294967295), (2147483655, 2147483655), (0, 4294967295), (2147483648, (Nat.add 2147483647 (zgNS r c))), (2147483648, 2147483649), (0, 4294967295), (0, 4294967295), (2147483648, (Nat.add 2147483647 (zgNS r c))), (2147483648, (Nat.add 2147483647 (zgNS r c))), (2147483648, (Nat.add 2147483647 (zgNS r c))), (2147483648, (Nat.add 2147483647 (zgNS r c))), (2147483648, (Nat.add 2147483647 (zgNS r c))), (2147483648, (Nat.add 2147483647 (zgNS r c))), (2147483648, (Nat.add 2147483647 (zgNS r c)))], [(1212418, 0), (1277952, 240518168577), (1277953, 274877906945), (1277954, 309237645313), (1277955, 343597383681), (1277956, 377957122049), (1277957, 412316860417), (1277958, 446676598785)], [(0, 99968), (1, 3), (0, 99949), (0, 999999)]), (51, 14, [595, 34359738369, 56, 103079215105, 137438953473, 16], [(0, 4294967295), (2147483655, 2147483655), (0, 4294967295), (2147483648, (Nat.add 2147483647 (zgNS r c))), (2147483648, 2147483649), (0, 4294967295), (0, 4294967295), (2147483648, (Nat.add 2147483647 (zgNS r c))), (2147483648, (Nat.add 2147483647 (zgNS r c))), (2147483648, (Nat.add 2147483647 (zgNS r c))), (2147483648, (Nat.add 2147483647 (zgNS r c))), (2147483648, (Nat.add 2147483647 (zgNS r c))), (2147483648, (Nat.add 2147483647 (zgNS r c))), (2147483648, (Nat.add 2147483647 (zgNS r c)))], [(1212418, 0), (1277952, 240518168577), (1277953, 274877906945), (1277954, 309237645313), (1277955, 343597383681), (1277956, 377957122049), (1277957, 412316860417), (1277958, 446676598785)], [(0, 99968), (1, 3), (0, 99949), (0, 999998)]), (51, 14, [595, 34359738369, 56, 103079215105, 137438953473, 24], [(0, 4294967295), (2147483655, 2147483655), (0, 4294967295), (2147483648, (Nat.add 2147483647 (zgNS r c))), (2147483648, 2147483649), (0, 4294967295), (0, 4294967295), (2147483648, (Nat.add 2147483647 (zgNS r c))), (2147483648, (Nat.add 2147483647 (zgNS r c))), (2147483648, (Nat.add 2147483647 (zgNS r c))), (2147483648, (Nat.add 2147483647 (zgNS r c))), (2147483648, (Nat.add 2147483647 (zgNS r c))), (2147483648, (Nat.add 2147483647 (zgNS r c))), (2147483648, (Nat.add 2147483647 (zgNS r c)))], [(1212418, 0), (1277952, 240518168577), (1277953, 274877906945), (1277954, 309237645313), (1277955, 343597383681), (1277956, 377957122049), (1277957, 412316860417), (1277958, 446676598785)], [(0, 99968), (1, 3), (0, 99949), (0, 999997)]), (51, 14, [595, 34359738369, 56, 103079215105, 137438953473, 32], [(0, 4294967295), (2147483655, 2147483655), (0, 4294967295), (2147483648, (Nat.add 2147483647 (zgNS r c))), (2147483648, 2147483649), (0, 4294967295), (0, 4294967295), (2147483648, (Nat.add 2147483647 (zgNS r c))), (2147483648, (Nat.add 2147483647 (zgNS r c))), (2147483648, (Nat.add 2147483647 (zgNS r c))), (2147483648, (Nat.add 2147483647 (zgNS r c))), (2147483648, (Nat.add 2147483647 (zgNS r c))), (2147483648, (Nat.add 2147483647 (zgNS r c))), (2147483648, (Nat.add 2147483647 (zgNS r c)))], [(1212418, 0), (1277952, 240518168577), (1277953, 274877906945), (1277954, 309237645313), (1277955, 343597383681), (1277956, 377957122049), (1277957, 412316860417), (1277958, 446676598785)], [(0, 99968), (1, 3), (0, 99949), (0, 999996)]), (51, 14, [595, 34359738369, 56, 103079215105, 137438953473, 40], [(0, 4294967295), (2147483655, 2147483655), (0, 4294967295), (2147483648, (Nat.add 2147483647 (zgNS r c))), (2147483648, 2147483649), (0, 4294967295), (0, 4294967295), (2147483648, (Nat.add 2147483647 (zgNS r c))), (2147483648, (Nat.add 2147483647 (zgNS r c))), (2147483648, (Nat.add 2147483647 (zgNS r c))), (2147483648, (Nat.add 2147483647 (zgNS r c))), (2147483648, (Nat.add 2147483647 (zgNS r c))), (2147483648, (Nat.add 2147483647 (zgNS r c))), (2147483648, (Nat.add 2147483647 (zgNS r c)))], [(1212418, 0), (1277952, 240518168577), (1277953, 274877906945), (1277954, 309237645313), (1277955, 343597383681), (1277956, 377957122049), (1277957, 412316860417), (1277958, 446676598785)], [(0, 99968), (1, 3), (0, 99949), (0, 999995)]), (51, 14, [595, 34359738369, 56, 103079215105, 137438953473, 48], [(0, 4294967295), (2147483655, 2147483655), (0, 4294967295), (2147483648, (Nat.add 2147483647 (zgNS r c))), (2147483648, 2147483649), (0, 4294967295), (0, 4294967295), (2147483648, (Nat.add 2147483647 (zgNS r c))), (2147483648, (Nat.add 2147483647 (zgNS r c))), (2147483648, (Nat.add 2147483647 (zgNS r c))), (2147483648, (Nat.add 2147483647 (zgNS r c))), (2147483648, (Nat.add 2147483647 (zgNS r c))), (2147483648, (Nat.add 2147483647 (zgNS r c))), (2147483648, (Nat.add 2147483647 (zgNS r c)))], [(1212418, 0), (1277952, 240518168577), (1277953, 274877906945), (1277954, 309237645313), (1277955, 343597383681), (1277956, 377957122049), (1277957, 412316860417), (1277958, 446676598785)], [(0, 99968), (1, 3), (0, 99949), (0, 999994)]), (51, 14, [595, 34359738369, 56, 103079215105, 137438953473, 56], [(0, 4294967295), (2147483655, 2147483655), (0, 4294967295), (2147483648, (Nat.add 2147483647 (zgNS r c))), (2147483648, 2147483649), (0, 4294967295), (0, 4294967295), (2147483648, (Nat.add 2147483647 (zgNS r c))), (2147483648, (Nat.add 2147483647 (zgNS r c))), (2147483648, (Nat.add 2147483647 (zgNS r c))), (2147483648, (Nat.add 2147483647 (zgNS r c))), (2147483648, (Nat.add 2147483647 (zgNS r c))), (2147483648, (Nat.add 2147483647 (zgNS r c))), (2147483648, (Nat.add 2147483647 (zgNS r c)))], [(1212418, 0), (1277952, 240518168577), (1277953, 274877906945), (1277954, 309237645313), (1277955, 343597383681), (1277956, 377957122049), (1277957, 412316860417), (1277958, 446676598785)], [(0, 99968), (1, 3), (0, 99949), (0, 999993)]), (32, 15, [595, 34359738369, 64, 103079215105, 137438953473, 56], [(0, 4294967295), (2147483655, 2147483655), (0, 4294967295), (2147483648, (Nat.add 2147483648 (zgNS r c))), (2147483649, 2147483649), (0, 4294967295), (0, 4294967295), (2147483648, (Nat.add 2147483647 (zgNS r c))), (2147483648, (Nat.add 2147483647 (zgNS r c))), (2147483648, (Nat.add 2147483647 (zgNS r c))), (2147483648, (Nat.add 2147483647 (zgNS r c))), (2147483648, (Nat.add 2147483647 (zgNS r c))), (2147483648, (Nat.add 2147483647 (zgNS r c))), (2147483648, (Nat.add 2147483647 (zgNS r c))), (2147483648, (Nat.add 2147483647 (zgNS r c)))], [(1212418, 0), (1277952, 240518168577), (1277953, 274877906945), (1277954, 309237645313), (1277955, 343597383681), (1277956, 377957122049), (1277957, 412316860417), (1277958, 446676598785), (1277959, 481036337153)], [(0, 99968), (1, 3), (0, 200000), (0, 0)])], 4, 0, [2, 11])
/-- 55: X11_search -/
noncomputable def zyir55 (r c : Nat) : zyIn := (299, ([595, 34359738362], [(74, 2, 3), (74, 8, 8), (74, 14, 17), (74, 19, 21), (74, 25, 27), (77, 0, 7), (78, 0, 7), (79, 0, 7), (80, 0, 299), (81, 0, 10399), (82, 0, 7)], [73786976294838206450], 11, [], []), [(0, 3, [595, 34359738369, 13], [(0, 4294967295), (0, 4294967295), (0, 4294967295)], [], [(0, 200000), (0, 0)]), (23, 4, [595, 34359738369, 68719476737], [(0, 4294967295), (2147483649, 2147483712), (2147483648, 4294967295), (0, 4294967295)], [(1212418, 0)], [(0, 99977), (1, 2)])], 2, 0, [13, 20])
/-- 56: X11_refusal -/
noncomputable def zyir56 (r c : Nat) : zyIn := (300, ([595, 34359738362, 34359738362, 34359738362], [(74, 2, 3), (74, 8, 8), (74, 14, 17), (74, 19, 21), (74, 25, 27), (77, 0, 7), (78, 0, 7), (79, 0, 7), (80, 0, 299), (81, 0, 10399), (82, 0, 7)], [34359738362], 11, [], []), [(0, 5, [595, 34359738369, 68719476737, 103079215105, 13], [(0, 4294967295), (0, 4294967295), (0, 4294967295), (0, 4294967295), (0, 4294967295)], [], [])], 0, 0, [13, 20])
/-- 57: X11_refused -/
noncomputable def zyir57 (r c : Nat) : zyIn := (301, ([595, 34359738362, 34359738362], [(74, 2, 3), (74, 8, 8), (74, 14, 17), (74, 19, 21), (74, 25, 27), (77, 0, 7), (78, 0, 7), (79, 0, 7), (80, 0, 299), (81, 0, 10399), (82, 0, 7)], [34359738362], 11, [], []), [(0, 5, [595, 34359738369, 68719476737, 13, 13], [(0, 4294967295), (0, 4294967295), (0, 4294967295), (0, 4294967295), (0, 4294967295)], [], [(0, 200000), (0, 0)]), (35, 6, [595, 34359738369, 68719476737, 103079215105, 137438953473], [(0, 4294967295), (2147483649, 2147483712), (2147483648, 2147483652), (0, 4294967295), (2147483648, 4294967295), (0, 4294967295)], [(1212418, 0)], [(0, 99965), (1, 4)])], 2, 0, [13, 20])
/-- 58: X11_seen -/
noncomputable def zyir58 (r c : Nat) : zyIn := (302, ([595, 34359738362, 34359738362, 34359738362], [(74, 2, 3), (75, 6, 6), (75, 520, 555)], [73786976277658337378], 3, [], []), [(0, 5, [595, 34359738369, 68719476737, 103079215105, 13], [(0, 4294967295), (0, 4294967295), (0, 4294967295), (0, 4294967295), (0, 4294967295)], [], [(0, 200000), (0, 0)]), (60, 8, [595, 34359738369, 68719476737, 103079215105, 13], [(0, 4294967295), (2147483648, 2147483655), (2147483648, 2147483712), (2147483648, (Nat.add 2147483647 (zgNS r c))), (0, 4294967295), (0, 4294967295), (2147483649, 2147483656), (2147483648, 2147483659)], [(1212418, 0), (1228802, 206158430209), (1228806, 240518168577)], [(0, 99940), (1, 1)])], 2, 12, [])
/-- 59: X11_forget -/
noncomputable def zyir59 (r c : Nat) : zyIn := (303, ([595], [(74, 2, 3), (75, 6, 6)], [73786976312018075746], 2, [], []), [(0, 2, [595, 13], [(0, 4294967295), (0, 4294967295)], [], [])], 0, 0, [])
/-- 60: X11_names -/
noncomputable def zyir60 (r c : Nat) : zyIn := (307, ([595, 73786976277658337770, 73786976277658337770, 34359738362], [(74, 4, 7), (74, 9, 9), (74, 14, 17), (74, 29, 31), (77, 0, 7), (78, 0, 7)], [], 11, [], []), [(0, 4, [595, 34359738369, 68719476737, 103079215105], [(0, 4294967295), (2147483647, 2147483709), (2147483647, 2147483709), (0, 4294967295)], [], [])], 0, 0, [22])
/-- 61: X11_seeks -/
noncomputable def zyir61 (r c : Nat) : zyIn := (308, ([595, 34359738362], [(74, 4, 7), (74, 9, 9), (74, 14, 17), (74, 28, 31), (77, 0, 7), (78, 0, 7)], [], 13, [], []), [(0, 5, [595, 34359738369, 13, 13, 13], [(0, 4294967295), (0, 4294967295), (0, 4294967295), (0, 4294967295), (0, 4294967295)], [], [(0, 200000), (0, 0), (0, 0), (0, 0)]), (39, 6, [595, 34359738369, (Nat.mul 16 (zgNG r c)), 103079215105, 13], [(0, 4294967295), (0, 4294967295), (0, 4294967295), (2147483648, 2147483710), (0, 4294967295), (0, 4294967295)], [(1212444, 8)], [(0, 99961), (1, 3), (0, 200000), (0, 0)]), (72, 6, [595, 34359738369, (Nat.mul 16 (zgNG r c)), 103079215105, 13], [(0, 4294967295), (0, 4294967295), (0, 4294967295), (2147483648, 2147483710), (0, 4294967295), (0, 4294967295)], [(1212444, 16)], [(0, 99928), (1, 3), (0, 200000), (0, 0)]), (86, 6, [595, 34359738369, (Nat.mul 16 (zgNG r c)), 103079215105, 137438953473], [(0, 4294967295), (0, 4294967295), (0, 4294967295), (2147483648, 2147483709), (2147483650, 2147483710), (0, 4294967295)], [(1212444, 16)], [(0, 99928), (1, 3), (0, 99914), (1, 4)])], 4, 0, [60])
/-- 62: X11_name -/
noncomputable def zyir62 (r c : Nat) : zyIn := (309, ([595, 34359738362], [(74, 2, 7), (74, 9, 9), (74, 14, 17), (74, 28, 31), (77, 0, 7), (78, 0, 7)], [34359738362], 15, [], []), [(0, 2, [595, 34359738369], [(0, 4294967295), (0, 4294967295)], [], [])], 0, 0, [61])
/-- 63: X11_named -/
noncomputable def zyir63 (r c : Nat) : zyIn := (310, ([595, 34359738362, 34359738362], [(74, 2, 7), (74, 9, 9), (74, 14, 17), (74, 28, 31), (77, 0, 7), (78, 0, 7)], [34359738362], 15, [], []), [(0, 3, [595, 34359738369, 68719476737], [(0, 4294967295), (0, 4294967295), (0, 4294967295)], [], [])], 0, 0, [61])
/-- 64: X11_fault -/
noncomputable def zyir64 (r c : Nat) : zyIn := (330, ([595, 34359738362], [(74, 3, 3)], [34359738362], 1, [], []), [(0, 2, [595, 34359738369], [(0, 4294967295), (0, 4294967295)], [], [])], 0, 0, [])
/-- 65: X11_out -/
noncomputable def zyir65 (r c : Nat) : zyIn := (339, ([595, 34359738362], [(74, 2, 3)], [34359738362], 2, [], []), [(0, 2, [595, 34359738369], [(0, 4294967295), (0, 4294967295)], [], [])], 0, 0, [])
noncomputable def zyirt0 (r c : Nat) : List zyIn := [zyir0 r c, zyir1 r c, zyir2 r c, zyir3 r c, zyir4 r c, zyir5 r c, zyir6 r c, zyir7 r c]
noncomputable def zyirt1 (r c : Nat) : List zyIn := [zyir8 r c, zyir9 r c, zyir10 r c, zyir11 r c, zyir12 r c, zyir13 r c, zyir14 r c, zyir15 r c]
noncomputable def zyirt2 (r c : Nat) : List zyIn := [zyir16 r c, zyir17 r c, zyir18 r c, zyir19 r c, zyir20 r c, zyir21 r c, zyir22 r c, zyir23 r c]
noncomputable def zyirt3 (r c : Nat) : List zyIn := [zyir24 r c, zyir25 r c, zyir26 r c, zyir27 r c, zyir28 r c, zyir29 r c, zyir30 r c, zyir31 r c]
noncomputable def zyirt4 (r c : Nat) : List zyIn := [zyir32 r c, zyir33 r c, zyir34 r c, zyir35 r c, zyir36 r c, zyir37 r c, zyir38 r c, zyir39 r c]
noncomputable def zyirt5 (r c : Nat) : List zyIn := [zyir40 r c, zyir41 r c, zyir42 r c, zyir43 r c, zyir44 r c, zyir45 r c, zyir46 r c, zyir47 r c]
noncomputable def zyirt6 (r c : Nat) : List zyIn := [zyir48 r c, zyir49 r c, zyir50 r c, zyir51 r c, zyir52 r c, zyir53 r c, zyir54 r c, zyir55 r c]
noncomputable def zyirt7 (r c : Nat) : List zyIn := [zyir56 r c, zyir57 r c, zyir58 r c, zyir59 r c, zyir60 r c, zyir61 r c, zyir62 r c, zyir63 r c]
noncomputable def zyirt8 (r c : Nat) : List zyIn := [zyir64 r c, zyir65 r c]
noncomputable def zyir (r c : Nat) : List (List (List zyIn)) := [[zyirt0 r c, zyirt1 r c, zyirt2 r c, zyirt3 r c, zyirt4 r c, zyirt5 r c, zyirt6 r c, zyirt7 r c], [zyirt8 r c]]
/-! put, take: with nothing kept; first T above 0, then not -/
/-- 0: X11_isTakenStart -/
noncomputable def zyiq0 (r c : Nat) : zyIn := (273, ([595, (zyS r c)], [], [73786976312018075658], 7, [], []), [(0, 2, [595, 34359738369], [(0, 4294967295), (2147483648, (Nat.add 2147483647 (zgNS r c)))], [], [])], 0, 0, [])
/-- 1: X11_put -/
noncomputable def zyiq1 (r c : Nat) : zyIn := (275, ([595, 34359738362], [(74, 2, 3)], [34359738360], 9, [(1228803, 73786976363557683194)], []), [(0, 3, [595, 34359738369], [(0, 4294967295), (0, 4294967295), (2147483649, 4294967295)], [(1228803, 68719476737)], [])], 0, 0, [0])
/-- 2: X11_put -/
noncomputable def zyiq2 (r c : Nat) : zyIn := (275, ([595, 34359738362], [(74, 2, 3), (75, 2, 2), (75, 136, 159)], [73786976277658337338], 9, [(1228803, 17179869186)], []), [(0, 3, [595, 34359738369], [(0, 4294967295), (0, 4294967295), (0, 2147483648)], [(1228803, 68719476737)], [])], 0, 0, [0])
/-- 3: X11_take -/
noncomputable def zyiq3 (r c : Nat) : zyIn := (276, ([595, 34359738362], [(74, 2, 3)], [34359738360], 3, [(1228803, 73786976363557683194)], []), [(0, 6, [595, 34359738369, 13, 13, 13], [(0, 4294967295), (0, 4294967295), (0, 4294967295), (0, 4294967295), (0, 4294967295), (2147483649, 4294967295)], [(1228803, 171798691841)], [(0, 200000), (0, 0)])], 2, 0, [])
/-- 4: X11_take -/
noncomputable def zyiq4 (r c : Nat) : zyIn := (276, ([595, 34359738362], [(74, 2, 3), (75, 2, 2), (75, 6, 6), (75, 136, 142), (75, 144, 150), (75, 152, 158), (75, 520, 555)], [73786976277658337338], 3, [(1228803, 17179869186)], []), [(0, 6, [595, 34359738369, 13, 13, 13], [(0, 4294967295), (0, 4294967295), (0, 4294967295), (0, 4294967295), (0, 4294967295), (0, 2147483648)], [(1228803, 171798691841)], [(0, 200000), (0, 0)]), (48, 8, [595, 34359738369, 68719476737, 13, 13], [(0, 4294967295), (2147483648, 2147483655), (2147483648, 2147483655), (0, 4294967295), (0, 4294967295), (0, 4294967295), (2147483648, 2147483655), (0, 2147483648)], [(1212418, 0), (1228802, 206158430209), (1228803, 240518168577)], [(0, 99952), (1, 2)]), (134, 8, [595, 34359738369, 0, 0, 13], [(0, 4294967295), (2147483648, 2147483655), (0, 4294967295), (0, 4294967295), (0, 4294967295), (0, 4294967295), (2147483648, 2147483655), (0, 2147483648)], [(1212418, 0), (1228802, 206158430209), (1228803, 240518168577)], [(0, 99866), (0, 1000000)]), (134, 9, [595, 34359738369, 8, 8, 137438953473], [(0, 4294967295), (2147483648, 2147483655), (0, 4294967295), (0, 4294967295), (2147483648, 2147483655), (0, 4294967295), (2147483648, 2147483655), (0, 2147483648), (2147483649, 2147483660)], [(1212418, 0), (1228802, 206158430209), (1228803, 240518168577), (1228806, 274877906945)], [(0, 99866), (0, 999999)]), (134, 9, [595, 34359738369, 0, 8, 137438953473], [(0, 4294967295), (2147483648, 2147483655), (0, 4294967295), (0, 4294967295), (2147483648, 2147483655), (0, 4294967295), (2147483648, 2147483655), (0, 2147483648), (2147483649, 2147483660)], [(1212418, 0), (1228802, 206158430209), (1228803, 240518168577), (1228806, 274877906945)], [(0, 99866), (0, 999999)]), (134, 9, [595, 34359738369, 8, 16, 137438953473], [(0, 4294967295), (2147483648, 2147483655), (0, 4294967295), (0, 4294967295), (2147483648, 2147483655), (0, 4294967295), (2147483648, 2147483655), (0, 2147483648), (2147483650, 2147483660)], [(1212418, 0), (1228802, 206158430209), (1228803, 240518168577), (1228806, 274877906945)], [(0, 99866), (0, 999998)]), (134, 9, [595, 34359738369, 0, 16, 137438953473], [(0, 4294967295), (2147483648, 2147483655), (0, 4294967295), (0, 4294967295), (2147483648, 2147483655), (0, 4294967295), (2147483648, 2147483655), (0, 2147483648), (2147483650, 2147483660)], [(1212418, 0), (1228802, 206158430209), (1228803, 240518168577), (1228806, 274877906945)], [(0, 99866), (0, 999998)]), (134, 9, [595, 34359738369, 8, 24, 137438953473], [(0, 4294967295), (2147483648, 2147483655), (0, 4294967295), (0, 4294967295), (2147483648, 2147483655), (0, 4294967295), (2147483648, 2147483655), (0, 2147483648), (2147483651, 2147483660)], [(1212418, 0), (1228802, 206158430209), (1228803, 240518168577), (1228806, 274877906945)], [(0, 99866), (0, 999997)]), (134, 9, [595, 34359738369, 0, 24, 137438953473], [(0, 4294967295), (2147483648, 2147483655), (0, 4294967295), (0, 4294967295), (2147483648, 2147483655), (0, 4294967295), (2147483648, 2147483655), (0, 2147483648), (2147483651, 2147483660)], [(1212418, 0), (1228802, 206158430209), (1228803, 240518168577), (1228806, 274877906945)], [(0, 99866), (0, 999997)]), (134, 9, [595, 34359738369, 8, 32, 137438953473], [(0, 4294967295), (2147483648, 2147483655), (0, 4294967295), (0, 4294967295), (2147483648, 2147483655), (0, 4294967295), (2147483648, 2147483655), (0, 2147483648), (2147483652, 2147483660)], [(1212418, 0), (1228802, 206158430209), (1228803, 240518168577), (1228806, 274877906945)], [(0, 99866), (0, 999996)]), (134, 9, [595, 34359738369, 0, 32, 137438953473], [(0, 4294967295), (2147483648, 2147483655), (0, 4294967295), (0, 4294967295), (2147483648, 2147483655), (0, 4294967295), (2147483648, 2147483655), (0, 2147483648), (2147483652, 2147483660)], [(1212418, 0), (1228802, 206158430209), (1228803, 240518168577), (1228806, 274877906945)], [(0, 99866), (0, 999996)]), (134, 9, [595, 34359738369, 8, 40, 137438953473], [(0, 4294967295), (2147483648, 2147483655), (0, 4294967295), (0, 4294967295), (2147483648, 2147483655), (0, 4294967295), (2147483648, 2147483655), (0, 2147483648), (2147483653, 2147483660)], [(1212418, 0), (1228802, 206158430209), (1228803, 240518168577), (1228806, 274877906945)], [(0, 99866), (0, 999995)]), (134, 9, [595, 34359738369, 0, 40, 137438953473], [(0, 4294967295), (2147483648, 2147483655), (0, 4294967295), (0, 4294967295), (2147483648, 2147483655), (0, 4294967295), (2147483648, 2147483655), (0, 2147483648), (2147483653, 2147483660)], [(1212418, 0), (1228802, 206158430209), (1228803, 240518168577), (1228806, 274877906945)], [(0, 99866), (0, 999995)]), (134, 9, [595, 34359738369, 8, 48, 137438953473], [(0, 4294967295), (2147483648, 2147483655), (0, 4294967295), (0, 4294967295), (2147483648, 2147483655), (0, 4294967295), (2147483648, 2147483655), (0, 2147483648), (2147483654, 2147483660)], [(1212418, 0), (1228802, 206158430209), (1228803, 240518168577), (1228806, 274877906945)], [(0, 99866), (0, 999994)]), (134, 9, [595, 34359738369, 0, 48, 137438953473], [(0, 4294967295), (2147483648, 2147483655), (0, 4294967295), (0, 4294967295), (2147483648, 2147483655), (0, 4294967295), (2147483648, 2147483655), (0, 2147483648), (2147483654, 2147483660)], [(1212418, 0), (1228802, 206158430209), (1228803, 240518168577), (1228806, 274877906945)], [(0, 99866), (0, 999994)]), (134, 9, [595, 34359738369, 8, 56, 137438953473], [(0, 4294967295), (2147483648, 2147483655), (0, 4294967295), (0, 4294967295), (2147483648, 2147483655), (0, 4294967295), (2147483648, 2147483655), (0, 2147483648), (2147483655, 2147483660)], [(1212418, 0), (1228802, 206158430209), (1228803, 240518168577), (1228806, 274877906945)], [(0, 99866), (0, 999993)]), (134, 9, [595, 34359738369, 0, 56, 137438953473], [(0, 4294967295), (2147483648, 2147483655), (0, 4294967295), (0, 4294967295), (2147483648, 2147483655), (0, 4294967295), (2147483648, 2147483655), (0, 2147483648), (2147483655, 2147483660)], [(1212418, 0), (1228802, 206158430209), (1228803, 240518168577), (1228806, 274877906945)], [(0, 99866), (0, 999993)]), (134, 9, [595, 34359738369, 8, 64, 137438953473], [(0, 4294967295), (2147483648, 2147483655), (0, 4294967295), (0, 4294967295), (2147483648, 2147483655), (0, 4294967295), (2147483648, 2147483655), (0, 2147483648), (2147483656, 2147483660)], [(1212418, 0), (1228802, 206158430209), (1228803, 240518168577), (1228806, 274877906945)], [(0, 99866), (0, 999992)]), (134, 9, [595, 34359738369, 0, 64, 137438953473], [(0, 4294967295), (2147483648, 2147483655), (0, 4294967295), (0, 4294967295), (2147483648, 2147483655), (0, 4294967295), (2147483648, 2147483655), (0, 2147483648), (2147483656, 2147483660)], [(1212418, 0), (1228802, 206158430209), (1228803, 240518168577), (1228806, 274877906945)], [(0, 99866), (0, 999992)]), (134, 9, [595, 34359738369, 8, 72, 137438953473], [(0, 4294967295), (2147483648, 2147483655), (0, 4294967295), (0, 4294967295), (2147483648, 2147483655), (0, 4294967295), (2147483648, 2147483655), (0, 2147483648), (2147483657, 2147483660)], [(1212418, 0), (1228802, 206158430209), (1228803, 240518168577), (1228806, 274877906945)], [(0, 99866), (0, 999991)]), (134, 9, [595, 34359738369, 0, 72, 137438953473], [(0, 4294967295), (2147483648, 2147483655), (0, 4294967295), (0, 4294967295), (2147483648, 2147483655), (0, 4294967295), (2147483648, 2147483655), (0, 2147483648), (2147483657, 2147483660)], [(1212418, 0), (1228802, 206158430209), (1228803, 240518168577), (1228806, 274877906945)], [(0, 99866), (0, 999991)]), (134, 9, [595, 34359738369, 8, 80, 137438953473], [(0, 4294967295), (2147483648, 2147483655), (0, 4294967295), (0, 4294967295), (2147483648, 2147483655), (0, 4294967295), (2147483648, 2147483655), (0, 2147483648), (2147483658, 2147483660)], [(1212418, 0), (1228802, 206158430209), (1228803, 240518168577), (1228806, 274877906945)], [(0, 99866), (0, 999990)]), (134, 9, [595, 34359738369, 0, 80, 137438953473], [(0, 4294967295), (2147483648, 2147483655), (0, 4294967295), (0, 4294967295), (2147483648, 2147483655), (0, 4294967295), (2147483648, 2147483655), (0, 2147483648), (2147483658, 2147483660)], [(1212418, 0), (1228802, 206158430209), (1228803, 240518168577), (1228806, 274877906945)], [(0, 99866), (0, 999990)]), (134, 9, [595, 34359738369, 8, 88, 137438953473], [(0, 4294967295), (2147483648, 2147483655), (0, 4294967295), (0, 4294967295), (2147483648, 2147483655), (0, 4294967295), (2147483648, 2147483655), (0, 2147483648), (2147483659, 2147483660)], [(1212418, 0), (1228802, 206158430209), (1228803, 240518168577), (1228806, 274877906945)], [(0, 99866), (0, 999989)]), (134, 9, [595, 34359738369, 0, 88, 137438953473], [(0, 4294967295), (2147483648, 2147483655), (0, 4294967295), (0, 4294967295), (2147483648, 2147483655), (0, 4294967295), (2147483648, 2147483655), (0, 2147483648), (2147483659, 2147483660)], [(1212418, 0), (1228802, 206158430209), (1228803, 240518168577), (1228806, 274877906945)], [(0, 99866), (0, 999989)]), (134, 9, [595, 34359738369, 8, 96, 137438953473], [(0, 4294967295), (2147483648, 2147483655), (0, 4294967295), (0, 4294967295), (2147483648, 2147483655), (0, 4294967295), (2147483648, 2147483655), (0, 2147483648), (2147483660, 2147483660)], [(1212418, 0), (1228802, 206158430209), (1228803, 240518168577), (1228806, 274877906945)], [(0, 99866), (0, 999988)]), (134, 9, [595, 34359738369, 0, 96, 137438953473], [(0, 4294967295), (2147483648, 2147483655), (0, 4294967295), (0, 4294967295), (2147483648, 2147483655), (0, 4294967295), (2147483648, 2147483655), (0, 2147483648), (2147483660, 2147483660)], [(1212418, 0), (1228802, 206158430209), (1228803, 240518168577), (1228806, 274877906945)], [(0, 99866), (0, 999988)]), (134, 9, [595, 34359738369, 16, 16, 137438953473], [(0, 4294967295), (2147483648, 2147483655), (0, 4294967295), (0, 4294967295), (2147483648, 2147483655), (0, 4294967295), (2147483648, 2147483655), (0, 2147483648), (2147483650, 2147483660)], [(1212418, 0), (1228802, 206158430209), (1228803, 240518168577), (1228806, 274877906945)], [(0, 99866), (0, 999998)]), (134, 9, [595, 34359738369, 16, 24, 137438953473], [(0, 4294967295), (2147483648, 2147483655), (0, 4294967295), (0, 4294967295), (2147483648, 2147483655), (0, 4294967295), (2147483648, 2147483655), (0, 2147483648), (2147483651, 2147483660)], [(1212418, 0), (1228802, 206158430209), (1228803, 240518168577), (1228806, 274877906945)], [(0, 99866), (0, 999997)]), (134, 9, [595, 34359738369, 16, 32, 137438953473], [(0, 4294967295), (2147483648, 2147483655), (0, 4294967295), (0, 4294967295), (2147483648, 2147483655), (0, 4294967295), (2147483648, 2147483655), (0, 2147483648), (2147483652, 2147483660)], [(1212418, 0), (1228802, 206158430209), (1228803, 240518168577), (1228806, 274877906945)], [(0, 99866), (0, 999996)]), (134, 9, [595, 34359738369, 16, 40, 137438953473], [(0, 4294967295), (2147483648, 2147483655), (0, 4294967295), (0, 4294967295), (2147483648, 2147483655), (0, 4294967295), (2147483648, 2147483655), (0, 2147483648), (2147483653, 2147483660)], [(1212418, 0), (1228802, 206158430209), (1228803, 240518168577), (1228806, 274877906945)], [(0, 99866), (0, 999995)]), (134, 9, [595, 34359738369, 16, 48, 137438953473], [(0, 4294967295), (2147483648, 2147483655), (0, 4294967295), (0, 4294967295), (2147483648, 2147483655), (0, 4294967295), (2147483648, 2147483655), (0, 2147483648), (2147483654, 2147483660)], [(1212418, 0), (1228802, 206158430209), (1228803, 240518168577), (1228806, 274877906945)], [(0, 99866), (0, 999994)]), (134, 9, [595, 34359738369, 16, 56, 137438953473], [(0, 4294967295), (2147483648, 2147483655), (0, 4294967295), (0, 4294967295), (2147483648, 2147483655), (0, 4294967295), (2147483648, 2147483655), (0, 2147483648), (2147483655, 2147483660)], [(1212418, 0), (1228802, 206158430209), (1228803, 240518168577), (1228806, 274877906945)], [(0, 99866), (0, 999993)]), (134, 9, [595, 34359738369, 16, 64, 137438953473], [(0, 4294967295), (2147483648, 2147483655), (0, 4294967295), (0, 4294967295), (2147483648, 2147483655), (0, 4294967295), (2147483648, 2147483655), (0, 2147483648), (2147483656, 2147483660)], [(1212418, 0), (1228802, 206158430209), (1228803, 240518168577), (1228806, 274877906945)], [(0, 99866), (0, 999992)]), (134, 9, [595, 34359738369, 16, 72, 137438953473], [(0, 4294967295), (2147483648, 2147483655), (0, 4294967295), (0, 4294967295), (2147483648, 2147483655), (0, 4294967295), (2147483648, 2147483655), (0, 2147483648), (2147483657, 2147483660)], [(1212418, 0), (1228802, 206158430209), (1228803, 240518168577), (1228806, 274877906945)], [(0, 99866), (0, 999991)]), (134, 9, [595, 34359738369, 16, 80, 137438953473], [(0, 4294967295), (2147483648, 2147483655), (0, 4294967295), (0, 4294967295), (2147483648, 2147483655), (0, 4294967295), (2147483648, 2147483655), (0, 2147483648), (2147483658, 2147483660)], [(1212418, 0), (1228802, 206158430209), (1228803, 240518168577), (1228806, 274877906945)], [(0, 99866), (0, 999990)]), (134, 9, [595, 34359738369, 16, 88, 137438953473], [(0, 4294967295), (2147483648, 2147483655), (0, 4294967295), (0, 4294967295), (2147483648, 2147483655), (0, 4294967295), (2147483648, 2147483655), (0, 2147483648), (2147483659, 2147483660)], [(1212418, 0), (1228802, 206158430209), (1228803, 240518168577), (1228806, 274877906945)], [(0, 99866), (0, 999989)]), (134, 9, [595, 34359738369, 16, 96, 137438953473], [(0, 4294967295), (2147483648, 2147483655), (0, 4294967295), (0, 4294967295), (2147483648, 2147483655), (0, 4294967295), (2147483648, 2147483655), (0, 2147483648), (2147483660, 2147483660)], [(1212418, 0), (1228802, 206158430209), (1228803, 240518168577), (1228806, 274877906945)], [(0, 99866), (0, 999988)]), (134, 9, [595, 34359738369, 24, 24, 137438953473], [(0, 4294967295), (2147483648, 2147483655), (0, 4294967295), (0, 4294967295), (2147483648, 2147483655), (0, 4294967295), (2147483648, 2147483655), (0, 2147483648), (2147483651, 2147483660)], [(1212418, 0), (1228802, 206158430209), (1228803, 240518168577), (1228806, 274877906945)], [(0, 99866), (0, 999997)]), (134, 9, [595, 34359738369, 24, 32, 137438953473], [(0, 4294967295), (2147483648, 2147483655), (0, 4294967295), (0, 4294967295), (2147483648, 2147483655), (0, 4294967295), (2147483648, 2147483655), (0, 2147483648), (2147483652, 2147483660)], [(1212418, 0), (1228802, 206158430209), (1228803, 240518168577), (1228806, 274877906945)], [(0, 99866), (0, 999996)]), (134, 9, [595, 34359738369, 24, 40, 137438953473], [(0, 4294967295), (2147483648, 2147483655), (0, 4294967295), (0, 4294967295), (2147483648, 2147483655), (0, 4294967295), (2147483648, 2147483655), (0, 2147483648), (2147483653, 2147483660)], [(1212418, 0), (1228802, 206158430209), (1228803, 240518168577), (1228806, 274877906945)], [(0, 99866), (0, 999995)]), (134, 9, [595, 34359738369, 24, 48, 137438953473], [(0, 4294967295), (2147483648, 2147483655), (0, 4294967295), (0, 4294967295), (2147483648, 2147483655), (0, 4294967295), (2147483648, 2147483655), (0, 2147483648), (2147483654, 2147483660)], [(1212418, 0), (1228802, 206158430209), (1228803, 240518168577), (1228806, 274877906945)], [(0, 99866), (0, 999994)]), (134, 9, [595, 34359738369, 24, 56, 137438953473], [(0, 4294967295), (2147483648, 2147483655), (0, 4294967295), (0, 4294967295), (2147483648, 2147483655), (0, 4294967295), (2147483648, 2147483655), (0, 2147483648), (2147483655, 2147483660)], [(1212418, 0), (1228802, 206158430209), (1228803, 240518168577), (1228806, 274877906945)], [(0, 99866), (0, 999993)]), (134, 9, [595, 34359738369, 24, 64, 137438953473], [(0, 4294967295), (2147483648, 2147483655), (0, 4294967295), (0, 4294967295), (2147483648, 2147483655), (0, 4294967295), (2147483648, 2147483655), (0, 2147483648), (2147483656, 2147483660)], [(1212418, 0), (1228802, 206158430209), (1228803, 240518168577), (1228806, 274877906945)], [(0, 99866), (0, 999992)]), (134, 9, [595, 34359738369, 24, 72, 137438953473], [(0, 4294967295), (2147483648, 2147483655), (0, 4294967295), (0, 4294967295), (2147483648, 2147483655), (0, 4294967295), (2147483648, 2147483655), (0, 2147483648), (2147483657, 2147483660)], [(1212418, 0), (1228802, 206158430209), (1228803, 240518168577), (1228806, 274877906945)], [(0, 99866), (0, 999991)]), (134, 9, [595, 34359738369, 24, 80, 137438953473], [(0, 4294967295), (2147483648, 2147483655), (0, 4294967295), (0, 4294967295), (2147483648, 2147483655), (0, 4294967295), (2147483648, 2147483655), (0, 2147483648), (2147483658, 2147483660)], [(1212418, 0), (1228802, 206158430209), (1228803, 240518168577), (1228806, 274877906945)], [(0, 99866), (0, 999990)]), (134, 9, [595, 34359738369, 24, 88, 137438953473], [(0, 4294967295), (2147483648, 2147483655), (0, 4294967295), (0, 4294967295), (2147483648, 2147483655), (0, 4294967295), (2147483648, 2147483655), (0, 2147483648), (2147483659, 2147483660)], [(1212418, 0), (1228802, 206158430209), (1228803, 240518168577), (1228806, 274877906945)], [(0, 99866), (0, 999989)]), (134, 9, [595, 34359738369, 24, 96, 137438953473], [(0, 4294967295), (2147483648, 2147483655), (0, 4294967295), (0, 4294967295), (2147483648, 2147483655), (0, 4294967295), (2147483648, 2147483655), (0, 2147483648), (2147483660, 2147483660)], [(1212418, 0), (1228802, 206158430209), (1228803, 240518168577), (1228806, 274877906945)], [(0, 99866), (0, 999988)]), (134, 9, [595, 34359738369, 32, 32, 137438953473], [(0, 4294967295), (2147483648, 2147483655), (0, 4294967295), (0, 4294967295), (2147483648, 2147483655), (0, 4294967295), (2147483648, 2147483655), (0, 2147483648), (2147483652, 2147483660)], [(1212418, 0), (1228802, 206158430209), (1228803, 240518168577), (1228806, 274877906945)], [(0, 99866), (0, 999996)]), (134, 9, [595, 34359738369, 32, 40, 137438953473], [(0, 4294967295), (2147483648, 2147483655), (0, 4294967295), (0, 4294967295), (2147483648, 2147483655), (0, 4294967295), (2147483648, 2147483655), (0, 2147483648), (2147483653, 2147483660)], [(1212418, 0), (1228802, 206158430209), (1228803, 240518168577), (1228806, 274877906945)], [(0, 99866), (0, 999995)]), (134, 9, [595, 34359738369, 32, 48, 137438953473], [(0, 4294967295), (2147483648, 2147483655), (0, 4294967295), (0, 4294967295), (2147483648, 2147483655), (0, 4294967295), (2147483648, 2147483655), (0, 2147483648), (2147483654, 2147483660)], [(1212418, 0), (1228802, 206158430209), (1228803, 240518168577), (1228806, 274877906945)], [(0, 99866), (0, 999994)]), (134, 9, [595, 34359738369, 32, 56, 137438953473], [(0, 4294967295), (2147483648, 2147483655), (0, 4294967295), (0, 4294967295), (2147483648, 2147483655), (0, 4294967295), (2147483648, 2147483655), (0, 2147483648), (2147483655, 2147483660)], [(1212418, 0), (1228802, 206158430209), (1228803, 240518168577), (1228806, 274877906945)], [(0, 99866), (0, 999993)]), (134, 9, [595, 34359738369, 32, 64, 137438953473], [(0, 4294967295), (2147483648, 2147483655), (0, 4294967295), (0, 4294967295), (2147483648, 2147483655), (0, 4294967295), (2147483648, 2147483655), (0, 2147483648), (2147483656, 2147483660)], [(1212418, 0), (1228802, 206158430209), (1228803, 240518168577), (1228806, 274877906945)], [(0, 99866), (0, 999992)]), (134, 9, [595, 34359738369, 32, 72, 137438953473], [(0, 4294967295), (2147483648, 2147483655), (0, 4294967295), (0, 4294967295), (2147483648, 2147483655), (0, 4294967295), (2147483648, 2147483655), (0, 2147483648), (2147483657, 2147483660)], [(1212418, 0), (1228802, 206158430209), (1228803, 240518168577), (1228806, 274877906945)], [(0, 99866), (0, 999991)]), (134, 9, [595, 34359738369, 32, 80, 137438953473], [(0, 4294967295), (2147483648, 2147483655), (0, 4294967295), (0, 4294967295), (2147483648, 2147483655), (0, 4294967295), (2147483648, 2147483655), (0, 2147483648), (2147483658, 2147483660)], [(1212418, 0), (1228802, 206158430209), (1228803, 240518168577), (1228806, 274877906945)], [(0, 99866), (0, 999990)]), (134, 9, [595, 34359738369, 32, 88, 137438953473], [(0, 4294967295), (2147483648, 2147483655), (0, 4294967295), (0, 4294967295), (2147483648, 2147483655), (0, 4294967295), (2147483648, 2147483655), (0, 2147483648), (2147483659, 2147483660)], [(1212418, 0), (1228802, 206158430209), (1228803, 240518168577), (1228806, 274877906945)], [(0, 99866), (0, 999989)]), (134, 9, [595, 34359738369, 32, 96, 137438953473], [(0, 4294967295), (2147483648, 2147483655), (0, 4294967295), (0, 4294967295), (2147483648, 2147483655), (0, 4294967295), (2147483648, 2147483655), (0, 2147483648), (2147483660, 2147483660)], [(1212418, 0), (1228802, 206158430209), (1228803, 240518168577), (1228806, 274877906945)], [(0, 99866), (0, 999988)]), (134, 9, [595, 34359738369, 40, 40, 137438953473], [(0, 4294967295), (2147483648, 2147483655), (0, 4294967295), (0, 4294967295), (2147483648, 2147483655), (0, 4294967295), (2147483648, 2147483655), (0, 2147483648), (2147483653, 2147483660)], [(1212418, 0), (1228802, 206158430209), (1228803, 240518168577), (1228806, 274877906945)], [(0, 99866), (0, 999995)]), (134, 9, [595, 34359738369, 40, 48, 137438953473], [(0, 4294967295), (2147483648, 2147483655), (0, 4294967295), (0, 4294967295), (2147483648, 2147483655), (0, 4294967295), (2147483648, 2147483655), (0, 2147483648), (2147483654, 2147483660)], [(1212418, 0), (1228802, 206158430209), (1228803, 240518168577), (1228806, 274877906945)], [(0, 99866), (0, 999994)]), (134, 9, [595, 34359738369, 40, 56, 137438953473], [(0, 4294967295), (2147483648, 2147483655), (0, 4294967295), (0, 4294967295), (2147483648, 2147483655), (0, 4294967295), (2147483648, 2147483655), (0, 2147483648), (2147483655, 2147483660)], [(1212418, 0), (1228802, 206158430209), (1228803, 240518168577), (1228806, 274877906945)], [(0, 99866), (0, 999993)]), (134, 9, [595, 34359738369, 40, 64, 137438953473], [(0, 4294967295), (2147483648, 2147483655), (0, 4294967295), (0, 4294967295), (2147483648, 2147483655), (0, 4294967295), (2147483648, 2147483655), (0, 2147483648), (2147483656, 2147483660)], [(1212418, 0), (1228802, 206158430209), (1228803, 240518168577), (1228806, 274877906945)], [(0, 99866), (0, 999992)]), (134, 9, [595, 34359738369, 40, 72, 137438953473], [(0, 4294967295), (2147483648, 2147483655), (0, 4294967295), (0, 4294967295), (2147483648, 2147483655), (0, 4294967295), (2147483648, 2147483655), (0, 2147483648), (2147483657, 2147483660)], [(1212418, 0), (1228802, 206158430209), (1228803, 240518168577), (1228806, 274877906945)], [(0, 99866), (0, 999991)]), (134, 9, [595, 34359738369, 40, 80, 137438953473], [(0, 4294967295), (2147483648, 2147483655), (0, 4294967295), (0, 4294967295), (2147483648, 2147483655), (0, 4294967295), (2147483648, 2147483655), (0, 2147483648), (2147483658, 2147483660)], [(1212418, 0), (1228802, 206158430209), (1228803, 240518168577), (1228806, 274877906945)], [(0, 99866), (0, 999990)]), (134, 9, [595, 34359738369, 40, 88, 137438953473], [(0, 4294967295), (2147483648, 2147483655), (0, 4294967295), (0, 4294967295), (2147483648, 2147483655), (0, 4294967295), (2147483648, 2147483655), (0, 2147483648), (2147483659, 2147483660)], [(1212418, 0), (1228802, 206158430209), (1228803, 240518168577), (1228806, 274877906945)], [(0, 99866), (0, 999989)]), (134, 9, [595, 34359738369, 40, 96, 137438953473], [(0, 4294967295), (2147483648, 2147483655), (0, 4294967295), (0, 4294967295), (2147483648, 2147483655), (0, 4294967295), (2147483648, 2147483655), (0, 2147483648), (2147483660, 2147483660)], [(1212418, 0), (1228802, 206158430209), (1228803, 240518168577), (1228806, 274877906945)], [(0, 99866), (0, 999988)]), (134, 9, [595, 34359738369, 48, 48, 137438953473], [(0, 4294967295), (2147483648, 2147483655), (0, 4294967295), (0, 4294967295), (2147483648, 2147483655), (0, 4294967295), (2147483648, 2147483655), (0, 2147483648), (2147483654, 2147483660)], [(1212418, 0), (1228802, 206158430209), (1228803, 240518168577), (1228806, 274877906945)], [(0, 99866), (0, 999994)]), (134, 9, [595, 34359738369, 48, 56, 137438953473], [(0, 4294967295), (2147483648, 2147483655), (0, 4294967295), (0, 4294967295), (2147483648, 2147483655), (0, 4294967295), (2147483648, 2147483655), (0, 2147483648), (2147483655, 2147483660)], [(1212418, 0), (1228802, 206158430209), (1228803, 240518168577), (1228806, 274877906945)], [(0, 99866), (0, 999993)]), (134, 9, [595, 34359738369, 48, 64, 137438953473], [(0, 4294967295), (2147483648, 2147483655), (0, 4294967295), (0, 4294967295), (2147483648, 2147483655), (0, 4294967295), (2147483648, 2147483655), (0, 2147483648), (2147483656, 2147483660)], [(1212418, 0), (1228802, 206158430209), (1228803, 240518168577), (1228806, 274877906945)], [(0, 99866), (0, 999992)]), (134, 9, [595, 34359738369, 48, 72, 137438953473], [(0, 4294967295), (2147483648, 2147483655), (0, 4294967295), (0, 4294967295), (2147483648, 2147483655), (0, 4294967295), (2147483648, 2147483655), (0, 2147483648), (2147483657, 2147483660)], [(1212418, 0), (1228802, 206158430209), (1228803, 240518168577), (1228806, 274877906945)], [(0, 99866), (0, 999991)]), (134, 9, [595, 34359738369, 48, 80, 137438953473], [(0, 4294967295), (2147483648, 2147483655), (0, 4294967295), (0, 4294967295), (2147483648, 2147483655), (0, 4294967295), (2147483648, 2147483655), (0, 2147483648), (2147483658, 2147483660)], [(1212418, 0), (1228802, 206158430209), (1228803, 240518168577), (1228806, 274877906945)], [(0, 99866), (0, 999990)]), (134, 9, [595, 34359738369, 48, 88, 137438953473], [(0, 4294967295), (2147483648, 2147483655), (0, 4294967295), (0, 4294967295), (2147483648, 2147483655), (0, 4294967295), (2147483648, 2147483655), (0, 2147483648), (2147483659, 2147483660)], [(1212418, 0), (1228802, 206158430209), (1228803, 240518168577), (1228806, 274877906945)], [(0, 99866), (0, 999989)]), (134, 9, [595, 34359738369, 48, 96, 137438953473], [(0, 4294967295), (2147483648, 2147483655), (0, 4294967295), (0, 4294967295), (2147483648, 2147483655), (0, 4294967295), (2147483648, 2147483655), (0, 2147483648), (2147483660, 2147483660)], [(1212418, 0), (1228802, 206158430209), (1228803, 240518168577), (1228806, 274877906945)], [(0, 99866), (0, 999988)]), (134, 9, [595, 34359738369, 56, 56, 137438953473], [(0, 4294967295), (2147483648, 2147483655), (0, 4294967295), (0, 4294967295), (2147483648, 2147483655), (0, 4294967295), (2147483648, 2147483655), (0, 2147483648), (2147483655, 2147483660)], [(1212418, 0), (1228802, 206158430209), (1228803, 240518168577), (1228806, 274877906945)], [(0, 99866), (0, 999993)]), (134, 9, [595, 34359738369, 56, 64, 137438953473], [(0, 4294967295), (2147483648, 2147483655), (0, 4294967295), (0, 4294967295), (2147483648, 2147483655), (0, 4294967295), (2147483648, 2147483655), (0, 2147483648), (2147483656, 2147483660)], [(1212418, 0), (1228802, 206158430209), (1228803, 240518168577), (1228806, 274877906945)], [(0, 99866), (0, 999992)]), (134, 9, [595, 34359738369, 56, 72, 137438953473], [(0, 4294967295), (2147483648, 2147483655), (0, 4294967295), (0, 4294967295), (2147483648, 2147483655), (0, 4294967295), (2147483648, 2147483655), (0, 2147483648), (2147483657, 2147483660)], [(1212418, 0), (1228802, 206158430209), (1228803, 240518168577), (1228806, 274877906945)], [(0, 99866), (0, 999991)]), (134, 9, [595, 34359738369, 56, 80, 137438953473], [(0, 4294967295), (2147483648, 2147483655), (0, 4294967295), (0, 4294967295), (2147483648, 2147483655), (0, 4294967295), (2147483648, 2147483655), (0, 2147483648), (2147483658, 2147483660)], [(1212418, 0), (1228802, 206158430209), (1228803, 240518168577), (1228806, 274877906945)], [(0, 99866), (0, 999990)]), (134, 9, [595, 34359738369, 56, 88, 137438953473], [(0, 4294967295), (2147483648, 2147483655), (0, 4294967295), (0, 4294967295), (2147483648, 2147483655), (0, 4294967295), (2147483648, 2147483655), (0, 2147483648), (2147483659, 2147483660)], [(1212418, 0), (1228802, 206158430209), (1228803, 240518168577), (1228806, 274877906945)], [(0, 99866), (0, 999989)]), (134, 9, [595, 34359738369, 56, 96, 137438953473], [(0, 4294967295), (2147483648, 2147483655), (0, 4294967295), (0, 4294967295), (2147483648, 2147483655), (0, 4294967295), (2147483648, 2147483655), (0, 2147483648), (2147483660, 2147483660)], [(1212418, 0), (1228802, 206158430209), (1228803, 240518168577), (1228806, 274877906945)], [(0, 99866), (0, 999988)]), (134, 9, [595, 34359738369, 64, 64, 137438953473], [(0, 4294967295), (2147483648, 2147483655), (0, 4294967295), (0, 4294967295), (2147483648, 2147483655), (0, 4294967295), (2147483648, 2147483655), (0, 2147483648), (2147483656, 2147483660)], [(1212418, 0), (1228802, 206158430209), (1228803, 240518168577), (1228806, 274877906945)], [(0, 99866), (0, 999992)]), (134, 9, [595, 34359738369, 64, 72, 137438953473], [(0, 4294967295), (2147483648, 2147483655), (0, 4294967295), (0, 4294967295), (2147483648, 2147483655), (0, 4294967295), (2147483648, 2147483655), (0, 2147483648), (2147483657, 2147483660)], [(1212418, 0), (1228802, 206158430209), (1228803, 240518168577), (1228806, 274877906945)], [(0, 99866), (0, 999991)]), (134, 9, [595, 34359738369, 64, 80, 137438953473], [(0, 4294967295), (2147483648, 2147483655), (0, 4294967295), (0, 4294967295), (2147483648, 2147483655), (0, 4294967295), (2147483648, 2147483655), (0, 2147483648), (2147483658, 2147483660)], [(1212418, 0), (1228802, 206158430209), (1228803, 240518168577), (1228806, 274877906945)], [(0, 99866), (0, 999990)]), (134, 9, [595, 34359738369, 64, 88, 137438953473], [(0, 4294967295), (2147483648, 2147483655), (0, 4294967295), (0, 4294967295), (2147483648, 2147483655), (0, 4294967295), (2147483648, 2147483655), (0, 2147483648), (2147483659, 2147483660)], [(1212418, 0), (1228802, 206158430209), (1228803, 240518168577), (1228806, 274877906945)], [(0, 99866), (0, 999989)]), (134, 9, [595, 34359738369, 64, 96, 137438953473], [(0, 4294967295), (2147483648, 2147483655), (0, 4294967295), (0, 4294967295), (2147483648, 2147483655), (0, 4294967295), (2147483648, 2147483655), (0, 2147483648), (2147483660, 2147483660)], [(1212418, 0), (1228802, 206158430209), (1228803, 240518168577), (1228806, 274877906945)], [(0, 99866), (0, 999988)]), (134, 9, [595, 34359738369, 72, 72, 137438953473], [(0, 4294967295), (2147483648, 2147483655), (0, 4294967295), (0, 4294967295), (2147483648, 2147483655), (0, 4294967295), (2147483648, 2147483655), (0, 2147483648), (2147483657, 2147483660)], [(1212418, 0), (1228802, 206158430209), (1228803, 240518168577), (1228806, 274877906945)], [(0, 99866), (0, 999991)]), (134, 9, [595, 34359738369, 72, 80, 137438953473], [(0, 4294967295), (2147483648, 2147483655), (0, 4294967295), (0, 4294967295), (2147483648, 2147483655), (0, 4294967295), (2147483648, 2147483655), (0, 2147483648), (2147483658, 2147483660)], [(1212418, 0), (1228802, 206158430209), (1228803, 240518168577), (1228806, 274877906945)], [(0, 99866), (0, 999990)]), (134, 9, [595, 34359738369, 72, 88, 137438953473], [(0, 4294967295), (2147483648, 2147483655), (0, 4294967295), (0, 4294967295), (2147483648, 2147483655), (0, 4294967295), (2147483648, 2147483655), (0, 2147483648), (2147483659, 2147483660)], [(1212418, 0), (1228802, 206158430209), (1228803, 240518168577), (1228806, 274877906945)], [(0, 99866), (0, 999989)]), (134, 9, [595, 34359738369, 72, 96, 137438953473], [(0, 4294967295), (2147483648, 2147483655), (0, 4294967295), (0, 4294967295), (2147483648, 2147483655), (0, 4294967295), (2147483648, 2147483655), (0, 2147483648), (2147483660, 2147483660)], [(1212418, 0), (1228802, 206158430209), (1228803, 240518168577), (1228806, 274877906945)], [(0, 99866), (0, 999988)]), (134, 9, [595, 34359738369, 80, 80, 137438953473], [(0, 4294967295), (2147483648, 2147483655), (0, 4294967295), (0, 4294967295), (2147483648, 2147483655), (0, 4294967295), (2147483648, 2147483655), (0, 2147483648), (2147483658, 2147483660)], [(1212418, 0), (1228802, 206158430209), (1228803, 240518168577), (1228806, 274877906945)], [(0, 99866), (0, 999990)]), (134, 9, [595, 34359738369, 80, 88, 137438953473], [(0, 4294967295), (2147483648, 2147483655), (0, 4294967295), (0, 4294967295), (2147483648, 2147483655), (0, 4294967295), (2147483648, 2147483655), (0, 2147483648), (2147483659, 2147483660)], [(1212418, 0), (1228802, 206158430209), (1228803, 240518168577), (1228806, 274877906945)], [(0, 99866), (0, 999989)]), (134, 9, [595, 34359738369, 80, 96, 137438953473], [(0, 4294967295), (2147483648, 2147483655), (0, 4294967295), (0, 4294967295), (2147483648, 2147483655), (0, 4294967295), (2147483648, 2147483655), (0, 2147483648), (2147483660, 2147483660)], [(1212418, 0), (1228802, 206158430209), (1228803, 240518168577), (1228806, 274877906945)], [(0, 99866), (0, 999988)]), (134, 9, [595, 34359738369, 88, 88, 137438953473], [(0, 4294967295), (2147483648, 2147483655), (0, 4294967295), (0, 4294967295), (2147483648, 2147483655), (0, 4294967295), (2147483648, 2147483655), (0, 2147483648), (2147483659, 2147483660)], [(1212418, 0), (1228802, 206158430209), (1228803, 240518168577), (1228806, 274877906945)], [(0, 99866), (0, 999989)]), (134, 9, [595, 34359738369, 88, 96, 137438953473], [(0, 4294967295), (2147483648, 2147483655), (0, 4294967295), (0, 4294967295), (2147483648, 2147483655), (0, 4294967295), (2147483648, 2147483655), (0, 2147483648), (2147483660, 2147483660)], [(1212418, 0), (1228802, 206158430209), (1228803, 240518168577), (1228806, 274877906945)], [(0, 99866), (0, 999988)]), (134, 9, [595, 34359738369, 96, 96, 137438953473], [(0, 4294967295), (2147483648, 2147483655), (0, 4294967295), (0, 4294967295), (2147483648, 2147483655), (0, 4294967295), (2147483648, 2147483655), (0, 2147483648), (2147483660, 2147483660)], [(1212418, 0), (1228802, 206158430209), (1228803, 240518168577), (1228806, 274877906945)], [(0, 99866), (0, 999988)])], 2, 0, [])
noncomputable def zyiqt0 (r c : Nat) : List zyIn := [zyiq0 r c, zyiq1 r c, zyiq2 r c, zyiq3 r c, zyiq4 r c]
noncomputable def zyiq (r c : Nat) : List (List (List zyIn)) := [[zyiqt0 r c]]
end
section
/-! the reference's table is checked, for all pairs -/
theorem zyrr13 : zyAllP (fun r c => zychks (zymr r c) zydr (zyir r c) 13 7) = true := by decide +kernel
theorem zyrr23 : zyAllP (fun r c => zychks (zymr r c) zydr (zyir r c) 23 19) = true := by decide +kernel
end
section
/-! the reference's table is checked, for all pairs, from 42 on -/
theorem zyrr42 : zyAllP (fun r c => zychks (zymr r c) zydr (zyir r c) 42 12) = true := by decide +kernel
end
section
/-! the reference's table is checked, for all pairs, from 54 on -/
theorem zyAllP_4 {f : Nat → Nat → Bool} (q1 : zyAll (fun c => f 1 (Nat.succ c)) 5 = true) (q2 : zyAll (fun c => f 2 (Nat.succ c)) 5 = true) (q3 : zyAll (fun c => f 3 (Nat.succ c)) 5 = true) (q4 : zyAll (fun c => f 4 (Nat.succ c)) 5 = true) : zyAllP f = true := by
  show zand (zyAll (fun c => f 4 (Nat.succ c)) 5) (zand (zyAll (fun c => f 3 (Nat.succ c)) 5) (zand (zyAll (fun c => f 2 (Nat.succ c)) 5) (zand (zyAll (fun c => f 1 (Nat.succ c)) 5) true))) = true
  rw [q1, q2, q3, q4]
  rfl
theorem zyrr54_1 : zyAll (fun c => zychks (zymr 1 (Nat.succ c)) zydr (zyir 1 (Nat.succ c)) 54 4) 5 = true := by decide +kernel
theorem zyrr54_2 : zyAll (fun c => zychks (zymr 2 (Nat.succ c)) zydr (zyir 2 (Nat.succ c)) 54 4) 5 = true := by decide +kernel
theorem zyrr54_3 : zyAll (fun c => zychks (zymr 3 (Nat.succ c)) zydr (zyir 3 (Nat.succ c)) 54 4) 5 = true := by decide +kernel
theorem zyrr54_4 : zyAll (fun c => zychks (zymr 4 (Nat.succ c)) zydr (zyir 4 (Nat.succ c)) 54 4) 5 = true := by decide +kernel
theorem zyrr54 : zyAllP (fun r c => zychks (zymr r c) zydr (zyir r c) 54 4) = true := zyAllP_4 zyrr54_1 zyrr54_2 zyrr54_3 zyrr54_4
end
section
/-! the reference's table is checked, for all pairs, from 58 on -/
theorem zyrr58_1 : zyAll (fun c => zychks (zymr 1 (Nat.succ c)) zydr (zyir 1 (Nat.succ c)) 58 8) 5 = true := by decide +kernel
theorem zyrr58_2 : zyAll (fun c => zychks (zymr 2 (Nat.succ c)) zydr (zyir 2 (Nat.succ c)) 58 8) 5 = true := by decide +kernel
theorem zyrr58_3 : zyAll (fun c => zychks (zymr 3 (Nat.succ c)) zydr (zyir 3 (Nat.succ c)) 58 8) 5 = true := by decide +kernel
theorem zyrr58_4 : zyAll (fun c => zychks (zymr 4 (Nat.succ c)) zydr (zyir 4 (Nat.succ c)) 58 8) 5 = true := by decide +kernel
theorem zyrr58 : zyAllP (fun r c => zychks (zymr r c) zydr (zyir r c) 58 8) = true := zyAllP_4 zyrr58_1 zyrr58_2 zyrr58_3 zyrr58_4
end
