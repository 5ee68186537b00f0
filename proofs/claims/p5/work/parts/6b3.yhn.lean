/-! PLACES of letters, loops, pairs -/
theorem zVl_n0 {m : Nat} {x : Int32} (hm : m ≤ 8) (h : zVl m x) : ¬ x = Int32.ofNat 0 := by
  obtain ⟨σ, k, h1, ⟨-, h2⟩ | ⟨-, h2⟩⟩ := h
  · rw [h2]
    exact fun q => by have := zyOi (by omega) (by omega) q; omega
  · rw [h2]
    exact fun q => by have := zyOi (by omega) (by omega) q; omega
theorem zyfrP {E E2 : zyEm} {p lo hi : Nat} (h : ∀ a k, zyin [(p, lo, hi)] a k = false → E2 a k = E a k) : ∀ a k, ¬ a = p → E2 a k = E a k := by
  intro a k hn
  apply h
  cases hq : zyin [(p, lo, hi)] a k with
  | false => rfl
  | true =>
    obtain ⟨p0, g1, g2, g3, g4⟩ := zyin_iff.mp hq
    rw [List.mem_singleton.mp g1] at g2
    exact absurd g2.symm hn
theorem zseen : ∀ s, s < 256 → ∀ a, a < 8 → zyG 4 (zyG 9 (Int32.ofNat s) (Int32.ofNat a)) (Int32.ofNat 1) = Int32.ofNat 0 → s < zyN1 (zyG 7 (Int32.ofNat s) (zyG 8 (Int32.ofNat 1) (Int32.ofNat a))) := by decide +kernel
def zyΦpl (as : List Int32) (E : zyEm) : Prop := ∃ m k : Nat, m ≤ 8 ∧ k < 300 ∧ as = [Int32.ofNat k] ∧ Int32.ofNat k < zyI E 75 4 ∧ zLv E m
def zyΨpl (_ : List Int32) (E E2 : zyEm) (vo : Option Value) : Prop := E2 = E ∧ ∃ z : Int32, vo = some (.int z) ∧ 2147483648 ≤ zB z ∧ zB z ≤ 2147483654
theorem zyplo_run : zyAllP (fun r c => zyrS (zymr r c) zxi249 (249, 0, 0, 1, 0) 1 zpplo (fun _ _ => []) zFplo zSplo zXplo zRplo 1) = true := by decide +kernel
theorem zyplaceOf {l : Launch} {r c : Nat} (h1 : 1 ≤ r) (h2 : r ≤ 4) (h3 : 1 ≤ c) (h4 : c ≤ 5) {en : zEn} {me : zMe} (hen : zG zxMeta 249 = some en) (hme : zG zMeth 249 = some me) : zyHc l (zymr r c) en me 1 1 zyΦpl zyΨpl := by
  have een : zG zxMeta 249 = some (zxi249, 2, 3, 11, 249, 0, 0, 1, 0) := rfl
  obtain ⟨me1, hme1, hOK⟩ := zall hen
  rw [hme] at hme1
  cases hme1
  rw [een] at hen
  cases hen
  have hr := zyAllP_iff zyplo_run h1 h2 h3 h4
  refine zycutS (mi := zymr r c) hOK rfl rfl ⟨_, rfl, rfl⟩ (ι := Fin 1) (fun i => zpplo i.val) (fun _ _ => []) (fun i => zFplo i.val) (fun i => zSplo i.val) (fun i => zXplo i.val) (fun i => zRplo i.val) (fun i y2 ct en2 me2 h => by cases h) 200000 (fun i => zyAll_iff hr i.val i.isLt) ⟨0, by decide⟩ ⟨rfl, rfl, rfl, rfl⟩ ⟨by decide, by decide⟩
    (fun i as E0 ρ E => E = E0 ∧ ∃ m k : Nat, m ≤ 8 ∧ k < 300 ∧ ρ 1 = Int32.ofNat k ∧ Int32.ofNat k < zyI E 75 4 ∧ zLv E m) (fun i as E0 ρ E => 0) ?_ ?_ ?_
  · intro as E hlen hT hΦ
    obtain ⟨m, k, hm, hk, rfl, h5, h6⟩ := hΦ
    exact ⟨zEnv_c (zyfull _) (zEnv_c ⟨show 2147483648 ≤ zB (Int32.ofNat k) by rw [zyBn (by omega)]; omega, show zB (Int32.ofNat k) ≤ 2147483947 by rw [zyBn (by omega)]; omega⟩ (zEnv_c (zyfull _) zEnv_nil)), rfl, m, k, hm, hk, rfl, h5, h6⟩
  · intro as B s Wg hRu hT0 hΦ hlen i ρ H hT hInv hIH x hx ρ2 N2 H2 locs lsB stA hAt hXs hag hfr hT2
    rcases i with ⟨i, hi⟩
    have hi2 : i = 0 := by omega
    rcases hi2 with rfl
    · cases hx
  · intro as E0 E E2 hT0 hΦ hlen i ρ hT hInv x hx ρ2 N2 B vo hXs hag hfr hT2 hvo
    rcases i with ⟨i, hi⟩
    have hi2 : i = 0 := by omega
    rcases hi2 with rfl
    · have hx : x ∈ [zxplo_ar0, zxplo_ar1] := hx
      have hg : ∀ k, k < 3 → ρ2 k = ρ k := hag
      have hI := hInv
      have hI : E = E0 ∧ ∃ m k : Nat, m ≤ 8 ∧ k < 300 ∧ ρ 1 = Int32.ofNat k ∧ Int32.ofNat k < zyI E 75 4 ∧ zLv E m := hI
      obtain ⟨hF, hB, hM⟩ := hXs
      have hEE : E2 = E := zyfr0 hfr
      rcases List.mem_cons.mp hx with ex | hx
      · subst ex
        obtain ⟨i0, m, k, hm, hk, e1, h5, h6⟩ := hI
        have a1 : ρ2 1 = Int32.ofNat k := (hg 1 (by decide)).trans e1
        have b := zyXb hB 3 rfl
        have b : 2147483648 ≤ zB (zyw ρ2 171798691833) ∧ zB (zyw ρ2 171798691833) ≤ 2147483654 := b
        exact ⟨hEE.trans i0, _, zyvo_1 (c := 171798691833) (by decide) (show zyvo (zyXn B ρ2 N2) [171798691833] vo from hvo), b.1, b.2⟩
      · skip
        have ex := List.mem_singleton.mp hx
        subst ex
        obtain ⟨i0, m, k, hm, hk, e1, h5, h6⟩ := hI
        have a1 : ρ2 1 = Int32.ofNat k := (hg 1 (by decide)).trans e1
        obtain ⟨n, u1, u2, u3⟩ := zyXe hF 0 rfl
        have u1 : ρ2 1 + Int32.ofNat 160 = Int32.ofNat n := u1
        have u3 : E 75 n = some (.int (ρ2 3)) := u3
        rw [a1, zyOa] at u1
        have en := zyOi (by omega) (by omega) u1
        have hv := h6 k hk h5
        rw [show 160 + k = n by omega, zyI_s u3] at hv
        have hv := zVl_n0 hm hv
        have b3 := zyXb hB 1 rfl
        have b3 : 2147483648 ≤ zB (ρ2 3) ∧ zB (ρ2 3) ≤ 2147483655 := b3
        obtain ⟨o1, o2⟩ := zyOn b3.1
        have hne : ¬ zyN1 (ρ2 3) = 0 := fun q => hv (by rw [o1, q])
        have e : zyw ρ2 137438953465 = Int32.ofNat (zyN1 (ρ2 3) - 1) := by
          show ρ2 3 + Int32.ofNat 4294967295 = _
          rw [o1, zyOd (by omega), zyN1_of (by omega)]
        refine ⟨hEE.trans i0, _, zyvo_1 (c := 137438953465) (by decide) (show zyvo (zyXn B ρ2 N2) [137438953465] vo from hvo), ?_, ?_⟩
        · rw [e, zyBn (by omega)]
          omega
        · rw [e, zyBn (by omega)]
          omega
def zyΦloo (_ : List Int32) (E : zyEm) : Prop := ∃ m : Nat, m ≤ 8 ∧ E 75 2 = some (.int (Int32.ofNat m)) ∧ zLv E m
def zyΨloo (_ : List Int32) (E E2 : zyEm) (vo : Option Value) : Prop := (∀ a k, ¬ a = 83 → E2 a k = E a k) ∧ ∃ z : Int32, vo = some (.int z)
noncomputable def zyTbt : Nat → List zyCt := fun y => zif (Nat.beq y 248) [([595], [(83, 0, 7)], [], 2, [], [])] []
noncomputable def zyIbt : zyIn := (248, ([595], [(83, 0, 7)], [], 2, [], []), [(0, 2, [595, 13], [(0, 4294967295), (0, 4294967295)], [], [(0, 200000), (0, 0)]), (2, 2, [595, 34359738369], [(0, 4294967295), (2147483648, 2147483656)], [], [(0, 99998), (1, 1)])], 2, 0, [])
noncomputable def zyITb : List (List (List zyIn)) := [[[zyIbt]]]
theorem zybt_run : zyAllP (fun r c => zychk (zymr r c) zydr zyITb 0 zyIbt) = true := by decide +kernel
theorem zyTbt_ok {l : Launch} {J : zyJt} (hJ : zyJp zydr J) {r c : Nat} (h1 : 1 ≤ r) (h2 : r ≤ 4) (h3 : 1 ≤ c) (h4 : c ≤ 5) : ∀ y2 ct en2 me2, ct ∈ zyTbt y2 → zG zxMeta y2 = some en2 → zG zMeth y2 = some me2 → zyCon l (zymr r c) J en2 me2 ct := by
  intro y2 ct en2 me2 hct hen hme
  unfold zyTbt at hct
  by_cases e : y2 = 248
  · subst e
    have hct : ct ∈ [([595], [(83, 0, 7)], [], 2, [], [])] := hct
    rw [List.mem_singleton.mp hct]
    have c0 : zyCo l (zymr r c) J zyITb 0 := zychk_ok (IT := zyITb) (i := 0) (zyAllP_iff zybt_run h1 h2 h3 h4) hJ (fun d hd => absurd hd (Nat.not_lt_zero d))
    exact c0 en2 me2 hen hme
  · rw [zybeq_ne e, zif_f] at hct
    cases hct
theorem zyloo_run : zyAllP (fun r c => zyrS (zymr r c) zxi251 (251, 0, 0, 1, 0) 4 zploo (fun _ => zyTbt) zFloo zSloo zXloo zRloo 5) = true := by decide +kernel
theorem zyloops {l : Launch} {r c : Nat} (h1 : 1 ≤ r) (h2 : r ≤ 4) (h3 : 1 ≤ c) (h4 : c ≤ 5) {en : zEn} {me : zMe} (hen : zG zxMeta 251 = some en) (hme : zG zMeth 251 = some me) : zyHc l (zymr r c) en me 4 0 zyΦloo zyΨloo := by
  have een : zG zxMeta 251 = some (zxi251, 1, 5, 11, 251, 0, 0, 1, 0) := rfl
  obtain ⟨me1, hme1, hOK⟩ := zall hen
  rw [hme] at hme1
  cases hme1
  rw [een] at hen
  cases hen
  have hr := zyAllP_iff zyloo_run h1 h2 h3 h4
  obtain ⟨mepo, hmepo, -⟩ := zall (show zG zxMeta 249 = some (zxi249, 2, 3, 11, 249, 0, 0, 1, 0) from rfl)
  have hpo := zyplaceOf (l := l) h1 h2 h3 h4 (show zG zxMeta 249 = some (zxi249, 2, 3, 11, 249, 0, 0, 1, 0) from rfl) hmepo
  have hCon : ∀ i : Fin 5, zyCons l (zymr r c, zyTbt, zFloo i.val, [], zSloo i.val) zyJ0 := fun _ => zyTbt_ok zyJ0_r.1 h1 h2 h3 h4
  refine zycutS (mi := zymr r c) hOK rfl rfl ⟨_, rfl, rfl⟩ (ι := Fin 5) (fun i => zploo i.val) (fun _ => zyTbt) (fun i => zFloo i.val) (fun i => zSloo i.val) (fun i => zXloo i.val) (fun i => zRloo i.val) hCon 200000 (fun i => zyAll_iff hr i.val i.isLt) ⟨0, by decide⟩ ⟨rfl, rfl, rfl, rfl⟩ ⟨by decide, by decide⟩
    (fun i as E0 ρ E => (∃ m : Nat, m ≤ 8 ∧ E0 75 2 = some (.int (Int32.ofNat m)) ∧ zLv E0 m) ∧ ∀ a k, ¬ a = 83 → E a k = E0 a k) (fun i as E0 ρ E => if i.val = 0 then 1000000 else if i.val = 1 then 900001 + 2 * (301 - zyN1 (ρ 1)) else if i.val = 2 then 900000 + 2 * (301 - zyN1 (ρ 1)) else if i.val = 3 then 1000 * (9 - zyN1 (ρ 3)) + 300 else 1000 * (9 - zyN1 (ρ 3)) + (256 - zyN1 (ρ 1))) ?_ ?_ ?_
  · intro as E hlen hT hΦ
    exact ⟨zEnv_c (zyfull _) (zEnv_c (zyfull _) (zEnv_c (zyfull _) (zEnv_c (zyfull _) (zEnv_c (zyfull _) (zEnv_nil))))), hΦ, fun _ _ _ => rfl⟩
  · intro as B s Wg hRu hT0 hΦ hlen i ρ H hT hInv hIH x hx ρ2 N2 H2 locs lsB stA hAt hXs hag hfr hT2
    rcases i with ⟨i, hi⟩
    have hi2 : i = 0 ∨ i = 1 ∨ i = 2 ∨ i = 3 ∨ i = 4 := by omega
    rcases hi2 with rfl | rfl | rfl | rfl | rfl
    · have hx : x ∈ [zxloo_ax0] := hx
      have hg : ∀ k, k < 5 → ρ2 k = ρ k := hag
      have hI := hInv
      have hI : (∃ m : Nat, m ≤ 8 ∧ (zyEl (zymr r c) B s.heap) 75 2 = some (.int (Int32.ofNat m)) ∧ zLv (zyEl (zymr r c) B s.heap) m) ∧ ∀ a k, ¬ a = 83 → (zyEl (zymr r c) B H) a k = (zyEl (zymr r c) B s.heap) a k := hI
      obtain ⟨hF, hB, hM⟩ := hXs
      have hfr : ∀ a k, zyin [(83, 0, 7)] a k = false → (zyEl (zymr r c) B H2) a k = (zyEl (zymr r c) B H) a k := hfr
      have ex := List.mem_singleton.mp hx
      subst ex
      obtain ⟨hM0, i1⟩ := hI
      have hk := zyfrP hfr
      refine zyGoB hIH hAt hB ⟨1, by decide⟩ [595, 0, 0, 0, 0] rfl rfl rfl rfl ⟨hM0, fun a k n => (hk a k n).trans (i1 a k n)⟩ ?_
      show 900001 + 2 * (301 - zyN1 (Int32.ofNat 0)) < 1000000
      omega
    · have hx : x ∈ [zxloo_bx0, zxloo_bx1] := hx
      have hg : ∀ k, k < 5 → ρ2 k = ρ k := hag
      have hI := hInv
      have hI : (∃ m : Nat, m ≤ 8 ∧ (zyEl (zymr r c) B s.heap) 75 2 = some (.int (Int32.ofNat m)) ∧ zLv (zyEl (zymr r c) B s.heap) m) ∧ ∀ a k, ¬ a = 83 → (zyEl (zymr r c) B H) a k = (zyEl (zymr r c) B s.heap) a k := hI
      obtain ⟨hF, hB, hM⟩ := hXs
      have hEE : (zyEl (zymr r c) B H2) = (zyEl (zymr r c) B H) := zyfr0 hfr
      rcases List.mem_cons.mp hx with ex | hx
      · subst ex
        obtain ⟨hM0, i1⟩ := hI
        have b1 := zyXb hB 0 rfl
        have b1 : 2147483648 ≤ zB (ρ2 1) ∧ zB (ρ2 1) ≤ 2147483947 := b1
        obtain ⟨o1, o2⟩ := zyOn b1.1
        obtain ⟨n, u1, u2, u3⟩ := zyXe hF 0 rfl
        have u1 : Int32.ofNat 4 = Int32.ofNat n := u1
        have u3 : zyEl (zymr r c) B H 75 n = some (.int (ρ2 5)) := u3
        have en := zyOi (by omega) (by omega) u1
        subst en
        have f1 := zyX20 hF 1 rfl
        have f1 : ρ2 1 < ρ2 5 := f1
        have h75 : ∀ k, zyEl (zymr r c) B H 75 k = zyEl (zymr r c) B s.heap 75 k := fun k => i1 75 k (by decide)
        refine zyCaV hRu hIH hAt hB hpo (ix := 271) (ax := 3984) rfl rfl rfl hmepo ⟨rfl, rfl, rfl, rfl⟩ (by decide) [34359738369] [595] rfl (by decide) (by decide) rfl ⟨2, by decide⟩ [595, 34359738369, 0, 0, 0] [(0, 4294967295), (2147483648, 2147483947), (0, 4294967295), (0, 4294967295), (0, 4294967295)] 2147483648 2147483654 rfl (by decide) rfl rfl rfl rfl [595] rfl rfl ?_ ?_
        · obtain ⟨m, hm, h5, h6⟩ := hM0
          show zyΦpl [ρ2 1] _
          refine ⟨m, zyN1 (ρ2 1), hm, by omega, by rw [← o1], ?_, ?_⟩
          · rw [hEE, zyI_s u3, ← o1]
            exact f1
          · rw [hEE]
            exact zLv_fr (h75 4) (fun k _ _ => h75 _) h6
        · intro E3 vo hT3 hΨ
          obtain ⟨ee, z, ev, z1, z2⟩ := hΨ
          refine ⟨z, ev, z1, z2, ⟨hM0, fun a k n => by rw [ee, hEE]; exact i1 a k n⟩, ?_⟩
          show 900000 + 2 * (301 - zyN1 (zyρi (fun k => zyw ρ2 (zyag [595, 34359738369, 0, 0, 0] k)) 5 z 1)) < 900001 + 2 * (301 - zyN1 (ρ 1))
          rw [zyρi_n (by decide)]
          show 900000 + 2 * (301 - zyN1 (ρ2 1)) < 900001 + 2 * (301 - zyN1 (ρ 1))
          rw [← hg 1 (by decide)]
          omega
      · skip
        have ex := List.mem_singleton.mp hx
        subst ex
        obtain ⟨hM0, i1⟩ := hI
        refine zyGoB hIH hAt hB ⟨3, by decide⟩ [595, 0, 0, 0, 0] rfl rfl rfl rfl ⟨hM0, fun a k n => by rw [hEE]; exact i1 a k n⟩ ?_
        show 1000 * (9 - zyN1 (Int32.ofNat 0)) + 300 < 900001 + 2 * (301 - zyN1 (ρ 1))
        omega
    · have hx : x ∈ [zxloo_cx0] := hx
      have hg : ∀ k, k < 6 → ρ2 k = ρ k := hag
      have hI := hInv
      have hI : (∃ m : Nat, m ≤ 8 ∧ (zyEl (zymr r c) B s.heap) 75 2 = some (.int (Int32.ofNat m)) ∧ zLv (zyEl (zymr r c) B s.heap) m) ∧ ∀ a k, ¬ a = 83 → (zyEl (zymr r c) B H) a k = (zyEl (zymr r c) B s.heap) a k := hI
      obtain ⟨hF, hB, hM⟩ := hXs
      have hfr : ∀ a k, zyin [(83, 0, 7)] a k = false → (zyEl (zymr r c) B H2) a k = (zyEl (zymr r c) B H) a k := hfr
      have ex := List.mem_singleton.mp hx
      subst ex
      obtain ⟨hM0, i1⟩ := hI
      have b1 := zyXb hB 0 rfl
      have b1 : 2147483648 ≤ zB (ρ2 1) ∧ zB (ρ2 1) ≤ 2147483947 := b1
      have hk := zyfrP hfr
      obtain ⟨q1, q2, -⟩ := zyStep (b := 299) b1 (by decide)
      refine zyGoB hIH hAt hB ⟨1, by decide⟩ [595, 34359738377, 0, 0, 0] rfl rfl rfl rfl ⟨hM0, fun a k n => (hk a k n).trans (i1 a k n)⟩ ?_
      show 900001 + 2 * (301 - zyN1 (ρ2 1 + Int32.ofNat 1)) < 900000 + 2 * (301 - zyN1 (ρ 1))
      rw [q1, ← hg 1 (by decide)]
      omega
    · have hx : x ∈ [zxloo_dx0, zxloo_dx1] := hx
      have hg : ∀ k, k < 5 → ρ2 k = ρ k := hag
      have hI := hInv
      have hI : (∃ m : Nat, m ≤ 8 ∧ (zyEl (zymr r c) B s.heap) 75 2 = some (.int (Int32.ofNat m)) ∧ zLv (zyEl (zymr r c) B s.heap) m) ∧ ∀ a k, ¬ a = 83 → (zyEl (zymr r c) B H) a k = (zyEl (zymr r c) B s.heap) a k := hI
      obtain ⟨hF, hB, hM⟩ := hXs
      have hEE : (zyEl (zymr r c) B H2) = (zyEl (zymr r c) B H) := zyfr0 hfr
      rcases List.mem_cons.mp hx with ex | hx
      · subst ex
        obtain ⟨hM0, i1⟩ := hI
        refine zyGoB hIH hAt hB ⟨4, by decide⟩ [595, 34359738369, 68719476745, 103079215105, 103079215105] rfl rfl rfl rfl ⟨hM0, fun a k n => by rw [hEE]; exact i1 a k n⟩ ?_
        show 1000 * (9 - zyN1 (ρ2 3)) + (256 - zyN1 (ρ2 1)) < 1000 * (9 - zyN1 (ρ 3)) + 300
        rw [← hg 3 (by decide)]
        omega
      · skip
        have ex := List.mem_singleton.mp hx
        subst ex
        obtain ⟨hM0, i1⟩ := hI
        have b3 := zyXb hB 1 rfl
        have b3 : 2147483648 ≤ zB (ρ2 3) ∧ zB (ρ2 3) ≤ 2147483655 := b3
        obtain ⟨q1, q2, -⟩ := zyStep (b := 7) b3 (by decide)
        refine zyGoB hIH hAt hB ⟨3, by decide⟩ [595, 34359738369, 68719476737, 103079215113, 0] rfl rfl rfl rfl ⟨hM0, fun a k n => by rw [hEE]; exact i1 a k n⟩ ?_
        show 1000 * (9 - zyN1 (ρ2 3 + Int32.ofNat 1)) + 300 < 1000 * (9 - zyN1 (ρ 3)) + 300
        rw [q1, ← hg 3 (by decide)]
        omega
    · have hx : x ∈ [zxloo_ex0, zxloo_ex1] := hx
      have hg : ∀ k, k < 5 → ρ2 k = ρ k := hag
      have hI := hInv
      have hI : (∃ m : Nat, m ≤ 8 ∧ (zyEl (zymr r c) B s.heap) 75 2 = some (.int (Int32.ofNat m)) ∧ zLv (zyEl (zymr r c) B s.heap) m) ∧ ∀ a k, ¬ a = 83 → (zyEl (zymr r c) B H) a k = (zyEl (zymr r c) B s.heap) a k := hI
      obtain ⟨hF, hB, hM⟩ := hXs
      have hEE : (zyEl (zymr r c) B H2) = (zyEl (zymr r c) B H) := zyfr0 hfr
      rcases List.mem_cons.mp hx with ex | hx
      · subst ex
        obtain ⟨hM0, i1⟩ := hI
        have b3 := zyXb hB 1 rfl
        have b3 : 2147483648 ≤ zB (ρ2 3) ∧ zB (ρ2 3) ≤ 2147483655 := b3
        obtain ⟨q1, q2, -⟩ := zyStep (b := 7) b3 (by decide)
        refine zyGoB hIH hAt hB ⟨3, by decide⟩ [595, 34359738369, 68719476737, 103079215113, 0] rfl rfl rfl rfl ⟨hM0, fun a k n => by rw [hEE]; exact i1 a k n⟩ ?_
        show 1000 * (9 - zyN1 (ρ2 3 + Int32.ofNat 1)) + 300 < 1000 * (9 - zyN1 (ρ 3)) + (256 - zyN1 (ρ 1))
        rw [q1, ← hg 3 (by decide)]
        omega
      · skip
        have ex := List.mem_singleton.mp hx
        subst ex
        obtain ⟨hM0, i1⟩ := hI
        have b1 := zyXb hB 0 rfl
        have b1 : 2147483648 ≤ zB (ρ2 1) ∧ zB (ρ2 1) ≤ 2147483903 := b1
        have b3 := zyXb hB 1 rfl
        have b3 : 2147483648 ≤ zB (ρ2 3) ∧ zB (ρ2 3) ≤ 2147483655 := b3
        have b4 := zyXb hB 2 rfl
        have b4 : 2147483648 ≤ zB (ρ2 4) ∧ zB (ρ2 4) ≤ 2147483655 := b4
        obtain ⟨o1, o2⟩ := zyOn b1.1
        obtain ⟨o3, o4⟩ := zyOn b4.1
        have f0 := zyXop hF 0 rfl (by decide)
        have f0 : ρ2 5 = zyG 9 (ρ2 1) (ρ2 4) := f0
        have f1 := zyXop hF 1 rfl (by decide)
        have f1 : ρ2 6 = zyG 4 (ρ2 5) (Int32.ofNat 1) := f1
        have f2 := zyX22 hF 2 rfl
        have f2 : ρ2 6 = Int32.ofNat 0 := f2
        have f3 := zyXop hF 3 rfl (by decide)
        have f3 : ρ2 7 = zyG 8 (Int32.ofNat 1) (ρ2 4) := f3
        have f4 := zyXop hF 4 rfl (by decide)
        have f4 : ρ2 8 = zyG 7 (ρ2 1) (ρ2 7) := f4
        have zs := zseen (zyN1 (ρ2 1)) (by omega) (zyN1 (ρ2 4)) (by omega)
        rw [← o1, ← o3, ← f0, ← f1, ← f3, ← f4] at zs
        have zs := zs f2
        refine zyGoB hIH hAt hB ⟨4, by decide⟩ [595, 274877906945, 68719476737, 103079215105, 309237645313] rfl rfl rfl rfl ⟨hM0, fun a k n => by rw [hEE]; exact i1 a k n⟩ ?_
        show 1000 * (9 - zyN1 (ρ2 3)) + (256 - zyN1 (ρ2 8)) < 1000 * (9 - zyN1 (ρ 3)) + (256 - zyN1 (ρ 1))
        rw [← hg 3 (by decide), ← hg 1 (by decide)]
        omega
  · intro as E0 E E2 hT0 hΦ hlen i ρ hT hInv x hx ρ2 N2 B vo hXs hag hfr hT2 hvo
    rcases i with ⟨i, hi⟩
    have hi2 : i = 0 ∨ i = 1 ∨ i = 2 ∨ i = 3 ∨ i = 4 := by omega
    rcases hi2 with rfl | rfl | rfl | rfl | rfl
    · cases hx
    · cases hx
    · cases hx
    · have hx : x ∈ [zxloo_dr0] := hx
      have hg : ∀ k, k < 5 → ρ2 k = ρ k := hag
      have hI := hInv
      have hI : (∃ m : Nat, m ≤ 8 ∧ E0 75 2 = some (.int (Int32.ofNat m)) ∧ zLv E0 m) ∧ ∀ a k, ¬ a = 83 → E a k = E0 a k := hI
      obtain ⟨hF, hB, hM⟩ := hXs
      have hEE : E2 = E := zyfr0 hfr
      have ex := List.mem_singleton.mp hx
      subst ex
      obtain ⟨hM0, i1⟩ := hI
      exact ⟨fun a k n => by rw [hEE]; exact i1 a k n, ⟨_, zyvo_1 (c := 68719476737) (by decide) (show zyvo (zyXn B ρ2 N2) [68719476737] vo from hvo)⟩⟩
    · cases hx
def zyFpa (E E2 : zyEm) : Prop := ∀ a k, ¬ (a = 74 ∧ 2 ≤ k ∧ k ≤ 3) → ¬ a = 83 → E2 a k = E a k
def zyΦj (_ : List Int32) (E : zyEm) : Prop := zJ1 E
def zyΨpa (_ : List Int32) (E E2 : zyEm) (vo : Option Value) : Prop := zyFpa E E2 ∧ ∃ z : Int32, vo = some (.int z)
theorem zyfrpa {E E2 : zyEm} (h : ∀ a k, zyin [(74, 2, 3), (83, 0, 7)] a k = false → E2 a k = E a k) : zyFpa E E2 := by
  intro a k n1 n2
  apply h
  cases hq : zyin [(74, 2, 3), (83, 0, 7)] a k with
  | false => rfl
  | true =>
    obtain ⟨p0, g1, g2, g3, g4⟩ := zyin_iff.mp hq
    rcases List.mem_cons.mp g1 with rfl | g1
    · dsimp only at g2 g3 g4
      exact absurd ⟨g2.symm, g3, g4⟩ n1
    · rw [List.mem_singleton.mp g1] at g2
      exact absurd g2.symm n2
theorem zypai_run : zyAllP (fun r c => zyrS (zymr r c) zxi256 (256, 0, 0, 1, 0) 4 zppai (fun _ => zyTbt) zFpai zSpai zXpai zRpai 3) = true := by decide +kernel
theorem zypair_H {l : Launch} {r c : Nat} (h1 : 1 ≤ r) (h2 : r ≤ 4) (h3 : 1 ≤ c) (h4 : c ≤ 5) {en : zEn} {me : zMe} (hen : zG zxMeta 256 = some en) (hme : zG zMeth 256 = some me) : zyHc l (zymr r c) en me 4 2 zyΦj zyΨpa := by
  have een : zG zxMeta 256 = some (zxi256, 3, 8, 11, 256, 0, 0, 1, 0) := rfl
  obtain ⟨me1, hme1, hOK⟩ := zall hen
  rw [hme] at hme1
  cases hme1
  rw [een] at hen
  cases hen
  have hr := zyAllP_iff zypai_run h1 h2 h3 h4
  obtain ⟨mepo, hmepo, -⟩ := zall (show zG zxMeta 249 = some (zxi249, 2, 3, 11, 249, 0, 0, 1, 0) from rfl)
  have hpo := zyplaceOf (l := l) h1 h2 h3 h4 (show zG zxMeta 249 = some (zxi249, 2, 3, 11, 249, 0, 0, 1, 0) from rfl) hmepo
  have hCon : ∀ i : Fin 3, zyCons l (zymr r c, zyTbt, zFpai i.val, [], zSpai i.val) zyJ0 := fun _ => zyTbt_ok zyJ0_r.1 h1 h2 h3 h4
  refine zycutS (mi := zymr r c) hOK rfl rfl ⟨_, rfl, rfl⟩ (ι := Fin 3) (fun i => zppai i.val) (fun _ => zyTbt) (fun i => zFpai i.val) (fun i => zSpai i.val) (fun i => zXpai i.val) (fun i => zRpai i.val) hCon 200000 (fun i => zyAll_iff hr i.val i.isLt) ⟨0, by decide⟩ ⟨rfl, rfl, rfl, rfl⟩ ⟨by decide, by decide⟩
    (fun i as E0 ρ E => zJ1 E0 ∧ zyFpa E0 E) (fun i as E0 ρ E => if i.val = 0 then 1000000 else if i.val = 1 then 2 * (301 - zyN1 (ρ 4)) + 1 else 2 * (301 - zyN1 (ρ 4))) ?_ ?_ ?_
  · intro as E hlen hT hΦ
    exact ⟨zEnv_c (zyfull _) (zEnv_c (zyfull _) (zEnv_c (zyfull _) (zEnv_c (zyfull _) (zEnv_c (zyfull _) (zEnv_c (zyfull _) (zEnv_c (zyfull _) (zEnv_c (zyfull _) (zEnv_nil)))))))), hΦ, fun _ _ _ _ => rfl⟩
  · intro as B s Wg hRu hT0 hΦ hlen i ρ H hT hInv hIH x hx ρ2 N2 H2 locs lsB stA hAt hXs hag hfr hT2
    rcases i with ⟨i, hi⟩
    have hi2 : i = 0 ∨ i = 1 ∨ i = 2 := by omega
    rcases hi2 with rfl | rfl | rfl
    · have hx : x ∈ [zxpai_ax0] := hx
      have hg : ∀ k, k < 8 → ρ2 k = ρ k := hag
      have hI := hInv
      have hI : zJ1 (zyEl (zymr r c) B s.heap) ∧ zyFpa (zyEl (zymr r c) B s.heap) (zyEl (zymr r c) B H) := hI
      obtain ⟨hF, hB, hM⟩ := hXs
      have hfr : ∀ a k, zyin [(74, 2, 3), (83, 0, 7)] a k = false → (zyEl (zymr r c) B H2) a k = (zyEl (zymr r c) B H) a k := hfr
      have ex := List.mem_singleton.mp hx
      subst ex
      obtain ⟨hJ, i1⟩ := hI
      have hk := zyfrpa hfr
      refine zyGoB hIH hAt hB ⟨1, by decide⟩ [595, 34359738369, 68719476737, 0, 0, 0, 0, 0] rfl rfl rfl rfl ⟨hJ, fun a k n1 n2 => (hk a k n1 n2).trans (i1 a k n1 n2)⟩ ?_
      show 2 * (301 - zyN1 (Int32.ofNat 0)) + 1 < 1000000
      omega
    · have hx : x ∈ [zxpai_bx0] := hx
      have hg : ∀ k, k < 8 → ρ2 k = ρ k := hag
      have hI := hInv
      have hI : zJ1 (zyEl (zymr r c) B s.heap) ∧ zyFpa (zyEl (zymr r c) B s.heap) (zyEl (zymr r c) B H) := hI
      obtain ⟨hF, hB, hM⟩ := hXs
      have hEE : (zyEl (zymr r c) B H2) = (zyEl (zymr r c) B H) := zyfr0 hfr
      have ex := List.mem_singleton.mp hx
      subst ex
      obtain ⟨hJ, i1⟩ := hI
      have b4 := zyXb hB 0 rfl
      have b4 : 2147483648 ≤ zB (ρ2 4) ∧ zB (ρ2 4) ≤ 2147483947 := b4
      obtain ⟨o1, o2⟩ := zyOn b4.1
      obtain ⟨n, u1, u2, u3⟩ := zyXe hF 0 rfl
      have u1 : Int32.ofNat 4 = Int32.ofNat n := u1
      have u3 : zyEl (zymr r c) B H 75 n = some (.int (ρ2 8)) := u3
      have en := zyOi (by omega) (by omega) u1
      subst en
      have f1 := zyX20 hF 1 rfl
      have f1 : ρ2 4 < ρ2 8 := f1
      have h75 : ∀ k, zyEl (zymr r c) B H 75 k = zyEl (zymr r c) B s.heap 75 k := fun k => i1 75 k (fun z => absurd z.1 (by decide)) (by decide)
      refine zyCa1 hRu hIH hAt hB hpo (ix := 271) (ax := 3984) rfl rfl rfl hmepo ⟨rfl, rfl, rfl, rfl⟩ (by decide) [137438953473] rfl (by decide) rfl ⟨2, by decide⟩ [595, 34359738369, 68719476737, 103079215105, 137438953473, 0, 0, 0] [(0, 4294967295), (0, 4294967295), (0, 4294967295), (0, 4294967295), (2147483648, 2147483947), (0, 4294967295), (0, 4294967295), (0, 4294967295)] 2147483648 2147483654 rfl (by decide) rfl rfl rfl rfl rfl ?_ ?_
      · obtain ⟨m, hm, h5⟩ := zc_m hT0
        obtain ⟨h6, -, -⟩ := hJ m hm h5
        show zyΦpl [ρ2 4] _
        refine ⟨m, zyN1 (ρ2 4), hm, by omega, by rw [← o1], ?_, ?_⟩
        · rw [hEE, zyI_s u3, ← o1]
          exact f1
        · rw [hEE]
          exact zLv_fr (h75 4) (fun k _ _ => h75 _) h6
      · intro E3 vo hT3 hΨ
        obtain ⟨ee, z, ev, z1, z2⟩ := hΨ
        refine ⟨z, ev, z1, z2, ⟨hJ, fun a k n1 n2 => by rw [ee, hEE]; exact i1 a k n1 n2⟩, ?_⟩
        show 2 * (301 - zyN1 (zyρi (fun k => zyw ρ2 (zyag [595, 34359738369, 68719476737, 103079215105, 137438953473, 0, 0, 0] k)) 8 z 4)) < 2 * (301 - zyN1 (ρ 4)) + 1
        rw [zyρi_n (by decide)]
        show 2 * (301 - zyN1 (ρ2 4)) < 2 * (301 - zyN1 (ρ 4)) + 1
        rw [← hg 4 (by decide)]
        omega
    · have hx : x ∈ [zxpai_cx0, zxpai_cx1, zxpai_cx2] := hx
      have hg : ∀ k, k < 9 → ρ2 k = ρ k := hag
      have hI := hInv
      have hI : zJ1 (zyEl (zymr r c) B s.heap) ∧ zyFpa (zyEl (zymr r c) B s.heap) (zyEl (zymr r c) B H) := hI
      obtain ⟨hF, hB, hM⟩ := hXs
      have hfr : ∀ a k, zyin [(83, 0, 7)] a k = false → (zyEl (zymr r c) B H2) a k = (zyEl (zymr r c) B H) a k := hfr
      rcases List.mem_cons.mp hx with ex | hx
      · subst ex
        obtain ⟨hJ, i1⟩ := hI
        have b4 := zyXb hB 0 rfl
        have b4 : 2147483648 ≤ zB (ρ2 4) ∧ zB (ρ2 4) ≤ 2147483947 := b4
        have hk := zyfrP hfr
        obtain ⟨q1, q2, -⟩ := zyStep (b := 299) b4 (by decide)
        refine zyGoB hIH hAt hB ⟨1, by decide⟩ [595, 34359738369, 68719476737, 103079215105, 137438953481, 0, 0, 0] rfl rfl rfl rfl ⟨hJ, fun a k n1 n2 => (hk a k n2).trans (i1 a k n1 n2)⟩ ?_
        show 2 * (301 - zyN1 (ρ2 4 + Int32.ofNat 1)) + 1 < 2 * (301 - zyN1 (ρ 4))
        rw [q1, ← hg 4 (by decide)]
        omega
      · skip
        rcases List.mem_cons.mp hx with ex | hx
        · subst ex
          obtain ⟨hJ, i1⟩ := hI
          have b4 := zyXb hB 0 rfl
          have b4 : 2147483648 ≤ zB (ρ2 4) ∧ zB (ρ2 4) ≤ 2147483947 := b4
          have hk := zyfrP hfr
          obtain ⟨q1, q2, -⟩ := zyStep (b := 299) b4 (by decide)
          refine zyGoB hIH hAt hB ⟨1, by decide⟩ [595, 34359738369, 68719476737, 103079215113, 137438953481, 0, 0, 0] rfl rfl rfl rfl ⟨hJ, fun a k n1 n2 => (hk a k n2).trans (i1 a k n1 n2)⟩ ?_
          show 2 * (301 - zyN1 (ρ2 4 + Int32.ofNat 1)) + 1 < 2 * (301 - zyN1 (ρ 4))
          rw [q1, ← hg 4 (by decide)]
          omega
        · skip
          have ex := List.mem_singleton.mp hx
          subst ex
          obtain ⟨hJ, i1⟩ := hI
          have b4 := zyXb hB 0 rfl
          have b4 : 2147483648 ≤ zB (ρ2 4) ∧ zB (ρ2 4) ≤ 2147483947 := b4
          have hk := zyfrP hfr
          obtain ⟨q1, q2, -⟩ := zyStep (b := 299) b4 (by decide)
          refine zyGoB hIH hAt hB ⟨1, by decide⟩ [595, 34359738369, 68719476737, 137438953465, 137438953481, 0, 0, 0] rfl rfl rfl rfl ⟨hJ, fun a k n1 n2 => (hk a k n2).trans (i1 a k n1 n2)⟩ ?_
          show 2 * (301 - zyN1 (ρ2 4 + Int32.ofNat 1)) + 1 < 2 * (301 - zyN1 (ρ 4))
          rw [q1, ← hg 4 (by decide)]
          omega
  · intro as E0 E E2 hT0 hΦ hlen i ρ hT hInv x hx ρ2 N2 B vo hXs hag hfr hT2 hvo
    rcases i with ⟨i, hi⟩
    have hi2 : i = 0 ∨ i = 1 ∨ i = 2 := by omega
    rcases hi2 with rfl | rfl | rfl
    · have hx : x ∈ [zxpai_ar0] := hx
      have hg : ∀ k, k < 8 → ρ2 k = ρ k := hag
      have hI := hInv
      have hI : zJ1 E0 ∧ zyFpa E0 E := hI
      obtain ⟨hF, hB, hM⟩ := hXs
      have hfr : ∀ a k, zyin [(74, 2, 3), (83, 0, 7)] a k = false → E2 a k = E a k := hfr
      have ex := List.mem_singleton.mp hx
      subst ex
      obtain ⟨hJ, i1⟩ := hI
      have hk := zyfrpa hfr
      exact ⟨fun a k n1 n2 => (hk a k n1 n2).trans (i1 a k n1 n2), ⟨_, zyvo_1 (c := 34359738360) (by decide) (show zyvo (zyXn B ρ2 N2) [34359738360] vo from hvo)⟩⟩
    · have hx : x ∈ [zxpai_br0] := hx
      have hg : ∀ k, k < 8 → ρ2 k = ρ k := hag
      have hI := hInv
      have hI : zJ1 E0 ∧ zyFpa E0 E := hI
      obtain ⟨hF, hB, hM⟩ := hXs
      have hEE : E2 = E := zyfr0 hfr
      have ex := List.mem_singleton.mp hx
      subst ex
      obtain ⟨hJ, i1⟩ := hI
      exact ⟨fun a k n1 n2 => by rw [hEE]; exact i1 a k n1 n2, ⟨_, zyvo_1 (c := 103079215105) (by decide) (show zyvo (zyXn B ρ2 N2) [103079215105] vo from hvo)⟩⟩
    · cases hx
