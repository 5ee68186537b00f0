/-! THE SIMPLE BRAIDS: is one nothing, a half turn; all seen from behind; the first goes out -/
theorem zyStep {x : Int32} {b : Nat} (h : 2147483648 ≤ zB x ∧ zB x ≤ 2147483648 + b) (hb : b < 1000000) : zyN1 (x + Int32.ofNat 1) = zyN1 x + 1 ∧ zyN1 x ≤ b ∧ x = Int32.ofNat (zyN1 x) := by
  obtain ⟨q1, q2⟩ := zyOn h.1
  have e : x + Int32.ofNat 1 = Int32.ofNat (zyN1 x + 1) := by
    rw [← zyOa, ← q1]
  refine ⟨?_, by omega, q1⟩
  rw [e]
  exact zyN1_of (by omega)
theorem zyOd {a : Nat} (h : 1 ≤ a) : Int32.ofNat a + Int32.ofNat 4294967295 = Int32.ofNat (a - 1) := by
  rw [zyOa]
  apply zN_inj
  rw [zN_of, zN_of]
  omega
theorem zyI_of {E : zyEm} {a k n : Nat} (h : E a k = some (.int (Int32.ofNat n))) (hn : n < 4294967296) : zyN1 (zyI E a k) = n := by
  unfold zyI
  rw [h]
  exact zyN1_of hn
section YGO3
variable {l : Launch} {mi : zyB} {en : zEn} {dep : Nat} {B : zCx} {s : State} {ι : Type} {φ : ι → zyPh} {Inv : ι → (Nat → Int32) → zyEm → Prop} {Mu : ι → (Nat → Int32) → zyEm → Nat} {M : Nat} {Wg : zyWt} {x : zyXp} {ρ2 : Nat → Int32} {N : Nat} {H : Heap} {locs : List Loc} {lsB : Array Slot} {stA : List Value}
/-- one element known at the next phase: its symbol k, its code among cs -/
theorem zyGoK1 {nL : Nat} (hIH : zyIH mi nL B s φ Inv Mu M Wg) (hAt : zyAt mi B s nL x ρ2 N H locs lsB stA) (i2 : ι) (cs : List Nat) (hpc : x.1 = (φ i2).1) (hchk : zand (zygoB nL x.2.1 (φ i2) cs) (zand (zynil x.2.2.1) (zynil (φ i2).2.2.2.2)) = true) (key k : Nat) (c : zyCl) (hkc : (φ i2).2.2.2.1 = [(key, zysym k)]) (hg : zG mi (key / 16384) = some c) (hl : key % 16384 < zyLen c) (hkN : k < (φ i2).2.2.1.length) (hel : zyEl mi B H (key / 16384) (key % 16384) = some (.int (zyw ρ2 (zyag cs k)))) (henv : zEnv (fun k => zyw ρ2 (zyag cs k)) (φ i2).2.2.1)
    (hInv : Inv i2 (fun k => zyw ρ2 (zyag cs k)) (zyEl mi B H)) (hMu : Mu i2 (fun k => zyw ρ2 (zyag cs k)) (zyEl mi B H) < M) : Wg H locs x.1 lsB stA := by
  refine zyGoK hIH hAt i2 cs hpc hchk henv (fun p hp => ?_) hInv hMu
  rw [hkc] at hp
  rw [List.mem_singleton.mp hp]
  exact ⟨c, k, hg, hl, rfl, hkN, hel⟩
end YGO3
def zyΦno (as : List Int32) (_ : zyEm) : Prop := ∃ f : Nat, as = [Int32.ofNat f] ∧ f < 1300
theorem zyno_run : zyAllP (fun r c => zyrS (zymr r c) zxi231 (231, 0, 0, 2, 0) 2 zpno (fun _ _ => []) zFno zSno zXno zRno 2) = true := by decide +kernel
theorem zyisNothing {l : Launch} {r c : Nat} (h1 : 1 ≤ r) (h2 : r ≤ 4) (h3 : 1 ≤ c) (h4 : c ≤ 5) {en : zEn} {me : zMe} (hen : zG zxMeta 231 = some en) (hme : zG zMeth 231 = some me) : zyHc l (zymr r c) en me 2 1 zyΦno zyΨie := by
  have een : zG zxMeta 231 = some (zxi231, 2, 3, 11, 231, 0, 0, 2, 0) := rfl
  obtain ⟨me1, hme1, hOK⟩ := zall hen
  rw [hme] at hme1
  cases hme1
  rw [een] at hen
  cases hen
  have hr := zyAllP_iff zyno_run h1 h2 h3 h4
  refine zycutS (mi := zymr r c) hOK rfl rfl ⟨_, rfl, rfl⟩ (ι := Fin 2) (fun i => zpno i.val) (fun _ _ => []) (fun i => zFno i.val) (fun i => zSno i.val) (fun i => zXno i.val) (fun i => zRno i.val) (fun i y2 ct en2 me2 h => by cases h) 200000 (fun i => zyAll_iff hr i.val i.isLt) ⟨0, by decide⟩ ⟨rfl, rfl, rfl, rfl⟩ ⟨by decide, by decide⟩
    (fun i as E0 ρ E => E = E0) (fun i as E0 ρ E => if i.val = 0 then 100 else 8 - zyN1 (ρ 2)) ?_ ?_ ?_
  · intro as E hlen hT hΦ
    obtain ⟨f, rfl, b1⟩ := hΦ
    refine ⟨zEnv_c (zyfull _) (zEnv_c ?_ (zEnv_c (zyfull _) zEnv_nil)), rfl⟩
    show 2147483648 ≤ zB (Int32.ofNat f) ∧ zB (Int32.ofNat f) ≤ 2147484947
    rw [zyBn (by omega)]
    omega
  · intro as B s Wg hRu hT0 hΦ hlen i ρ H hT hInv hIH x hx ρ2 N2 H2 locs lsB stA hAt hXs hag hfr hT2
    rcases i with ⟨i, hi⟩
    have hi2 : i = 0 ∨ i = 1 := by omega
    rcases hi2 with rfl | rfl
    · have hx : x ∈ [zxno_ax0] := hx
      have hg : ∀ k, k < 3 → ρ2 k = ρ k := hag
      have hI := hInv
      have hI : (zyEl (zymr r c) B H) = (zyEl (zymr r c) B s.heap) := hI
      obtain ⟨hF, hB, hM⟩ := hXs
      have hEE : (zyEl (zymr r c) B H2) = (zyEl (zymr r c) B H) := zyfr0 hfr
      have ex := List.mem_singleton.mp hx
      subst ex
      refine zyGoB hIH hAt hB ⟨1, by decide⟩ [595, 34359738369, 0] rfl rfl rfl rfl (hEE.trans hI) ?_
      show 8 - zyN1 (Int32.ofNat 0) < 100
      omega
    · have hx : x ∈ [zxno_bx0] := hx
      have hg : ∀ k, k < 3 → ρ2 k = ρ k := hag
      have hI := hInv
      have hI : (zyEl (zymr r c) B H) = (zyEl (zymr r c) B s.heap) := hI
      obtain ⟨hF, hB, hM⟩ := hXs
      have hEE : (zyEl (zymr r c) B H2) = (zyEl (zymr r c) B H) := zyfr0 hfr
      have ex := List.mem_singleton.mp hx
      subst ex
      refine zyGoB hIH hAt hB ⟨1, by decide⟩ [595, 34359738369, 68719476745] rfl rfl rfl rfl (hEE.trans hI) ?_
      have q : 2147483648 ≤ zB (ρ2 2) ∧ zB (ρ2 2) ≤ 2147483655 := zyXb hB 1 rfl
      obtain ⟨q1, q2, -⟩ := zyStep (b := 7) q (by decide)
      show 8 - zyN1 (ρ2 2 + Int32.ofNat 1) < 8 - zyN1 (ρ 2)
      rw [q1, ← hg 2 (by decide)]
      omega
  · intro as E0 E E2 hT0 hΦ hlen i ρ hT hInv x hx ρ2 N2 B vo hXs hag hfr hT2 hvo
    rcases i with ⟨i, hi⟩
    have hi2 : i = 0 ∨ i = 1 := by omega
    rcases hi2 with rfl | rfl
    · cases hx
    · have hx : x ∈ [zxno_br0, zxno_br1] := hx
      have hg : ∀ k, k < 3 → ρ2 k = ρ k := hag
      have hI := hInv
      have hI : E = E0 := hI
      obtain ⟨hF, hB, hM⟩ := hXs
      have hEE : E2 = E := zyfr0 hfr
      rcases List.mem_cons.mp hx with ex | hx
      · subst ex
        exact ⟨hEE.trans hI, 0, zyvo_1 (c := 0) (by decide) (show zyvo (zyXn B ρ2 N2) [0] vo from hvo), Or.inl rfl⟩
      · skip
        have ex := List.mem_singleton.mp hx
        subst ex
        exact ⟨hEE.trans hI, 1, zyvo_1 (c := 8) (by decide) (show zyvo (zyXn B ρ2 N2) [8] vo from hvo), Or.inr rfl⟩
theorem zyht_run : zyAllP (fun r c => zyrS (zymr r c) zxi232 (232, 0, 0, 2, 0) 2 zpht (fun _ _ => []) zFht zSht zXht zRht 2) = true := by decide +kernel
theorem zyisHalfTurn {l : Launch} {r c : Nat} (h1 : 1 ≤ r) (h2 : r ≤ 4) (h3 : 1 ≤ c) (h4 : c ≤ 5) {en : zEn} {me : zMe} (hen : zG zxMeta 232 = some en) (hme : zG zMeth 232 = some me) : zyHc l (zymr r c) en me 2 1 zyΦno zyΨie := by
  have een : zG zxMeta 232 = some (zxi232, 2, 3, 11, 232, 0, 0, 2, 0) := rfl
  obtain ⟨me1, hme1, hOK⟩ := zall hen
  rw [hme] at hme1
  cases hme1
  rw [een] at hen
  cases hen
  have hr := zyAllP_iff zyht_run h1 h2 h3 h4
  refine zycutS (mi := zymr r c) hOK rfl rfl ⟨_, rfl, rfl⟩ (ι := Fin 2) (fun i => zpht i.val) (fun _ _ => []) (fun i => zFht i.val) (fun i => zSht i.val) (fun i => zXht i.val) (fun i => zRht i.val) (fun i y2 ct en2 me2 h => by cases h) 200000 (fun i => zyAll_iff hr i.val i.isLt) ⟨0, by decide⟩ ⟨rfl, rfl, rfl, rfl⟩ ⟨by decide, by decide⟩
    (fun i as E0 ρ E => E = E0) (fun i as E0 ρ E => if i.val = 0 then 100 else 8 - zyN1 (ρ 2)) ?_ ?_ ?_
  · intro as E hlen hT hΦ
    obtain ⟨f, rfl, b1⟩ := hΦ
    refine ⟨zEnv_c (zyfull _) (zEnv_c ?_ (zEnv_c (zyfull _) zEnv_nil)), rfl⟩
    show 2147483648 ≤ zB (Int32.ofNat f) ∧ zB (Int32.ofNat f) ≤ 2147484947
    rw [zyBn (by omega)]
    omega
  · intro as B s Wg hRu hT0 hΦ hlen i ρ H hT hInv hIH x hx ρ2 N2 H2 locs lsB stA hAt hXs hag hfr hT2
    rcases i with ⟨i, hi⟩
    have hi2 : i = 0 ∨ i = 1 := by omega
    rcases hi2 with rfl | rfl
    · have hx : x ∈ [zxht_ax0] := hx
      have hg : ∀ k, k < 3 → ρ2 k = ρ k := hag
      have hI := hInv
      have hI : (zyEl (zymr r c) B H) = (zyEl (zymr r c) B s.heap) := hI
      obtain ⟨hF, hB, hM⟩ := hXs
      have hEE : (zyEl (zymr r c) B H2) = (zyEl (zymr r c) B H) := zyfr0 hfr
      have ex := List.mem_singleton.mp hx
      subst ex
      refine zyGoB hIH hAt hB ⟨1, by decide⟩ [595, 34359738369, 0] rfl rfl rfl rfl (hEE.trans hI) ?_
      show 8 - zyN1 (Int32.ofNat 0) < 100
      omega
    · have hx : x ∈ [zxht_bx0] := hx
      have hg : ∀ k, k < 3 → ρ2 k = ρ k := hag
      have hI := hInv
      have hI : (zyEl (zymr r c) B H) = (zyEl (zymr r c) B s.heap) := hI
      obtain ⟨hF, hB, hM⟩ := hXs
      have hEE : (zyEl (zymr r c) B H2) = (zyEl (zymr r c) B H) := zyfr0 hfr
      have ex := List.mem_singleton.mp hx
      subst ex
      refine zyGoB hIH hAt hB ⟨1, by decide⟩ [595, 34359738369, 68719476745] rfl rfl rfl rfl (hEE.trans hI) ?_
      have q : 2147483648 ≤ zB (ρ2 2) ∧ zB (ρ2 2) ≤ 2147483655 := zyXb hB 1 rfl
      obtain ⟨q1, q2, -⟩ := zyStep (b := 7) q (by decide)
      show 8 - zyN1 (ρ2 2 + Int32.ofNat 1) < 8 - zyN1 (ρ 2)
      rw [q1, ← hg 2 (by decide)]
      omega
  · intro as E0 E E2 hT0 hΦ hlen i ρ hT hInv x hx ρ2 N2 B vo hXs hag hfr hT2 hvo
    rcases i with ⟨i, hi⟩
    have hi2 : i = 0 ∨ i = 1 := by omega
    rcases hi2 with rfl | rfl
    · cases hx
    · have hx : x ∈ [zxht_br0, zxht_br1] := hx
      have hg : ∀ k, k < 3 → ρ2 k = ρ k := hag
      have hI := hInv
      have hI : E = E0 := hI
      obtain ⟨hF, hB, hM⟩ := hXs
      have hEE : E2 = E := zyfr0 hfr
      rcases List.mem_cons.mp hx with ex | hx
      · subst ex
        exact ⟨hEE.trans hI, 0, zyvo_1 (c := 0) (by decide) (show zyvo (zyXn B ρ2 N2) [0] vo from hvo), Or.inl rfl⟩
      · skip
        have ex := List.mem_singleton.mp hx
        subst ex
        exact ⟨hEE.trans hI, 1, zyvo_1 (c := 8) (by decide) (show zyvo (zyXn B ρ2 N2) [8] vo from hvo), Or.inr rfl⟩
