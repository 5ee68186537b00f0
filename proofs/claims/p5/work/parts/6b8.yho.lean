/-! tells, over the widest base; a contract by growth -/
def zyΦte (_ : List Int32) (E : zyEm) : Prop := ∃ q : Nat, q ≤ 1000000 ∧ E 74 48 = some (.int (Int32.ofNat q))
def zyΨte (_ : List Int32) (E E2 : zyEm) (vo : Option Value) : Prop := vo = none ∧ (∃ q : Nat, q ≤ 1000000 ∧ E 74 48 = some (.int (Int32.ofNat q)) ∧ E2 74 48 = some (.int (Int32.ofNat (q + 1)))) ∧ ∀ a k, ¬ (a = 74 ∧ k = 48) → ¬ (a = 87 ∧ k ≤ 899) → E2 a k = E a k
theorem zytel_run : zyrS zymw zxi331 (331, 0, 0, 0, 0) 2 zptel (fun _ _ => []) zFtel zStel zXtel zRtel 2 = true := by decide +kernel
theorem zytells {l : Launch} {en : zEn} {me : zMe} (hen : zG zxMeta 331 = some en) (hme : zG zMeth 331 = some me) : zyHc l zymw en me 2 1 zyΦte zyΨte := by
  have een : zG zxMeta 331 = some (zxi331, 2, 2, 11, 331, 0, 0, 0, 0) := rfl
  obtain ⟨me1, hme1, hOK⟩ := zall hen
  rw [hme] at hme1
  cases hme1
  rw [een] at hen
  cases hen
  have hr := zytel_run
  refine zycutS (mi := zymw) hOK rfl rfl ⟨_, rfl, rfl⟩ (ι := Fin 2) (fun i => zptel i.val) (fun _ _ => []) (fun i => zFtel i.val) (fun i => zStel i.val) (fun i => zXtel i.val) (fun i => zRtel i.val) (fun i y2 ct en2 me2 h => by cases h) 200000 (fun i => zyAll_iff hr i.val i.isLt) ⟨0, by decide⟩ ⟨rfl, rfl, rfl, rfl⟩ ⟨by decide, by decide⟩
    (fun i as E0 ρ E => ∃ q : Nat, q ≤ 1000000 ∧ E0 74 48 = some (.int (Int32.ofNat q)) ∧ E = E0 ∧ (i.val = 1 → ρ 2 = Int32.ofNat q)) (fun i as E0 ρ E => 1 - i.val) ?_ ?_ ?_
  · intro as E hlen hT hΦ
    obtain ⟨q, hq, e⟩ := hΦ
    exact ⟨zEnv_c (zyfull _) (zEnv_c (zyfull _) zEnv_nil), q, hq, e, rfl, fun h => absurd (show 0 = 1 from h) (by decide)⟩
  · intro as B s Wg hRu hT0 hΦ hlen i ρ H hT hInv hIH x hx ρ2 N2 H2 locs lsB stA hAt hXs hag hfr hT2
    rcases i with ⟨i, hi⟩
    have hi2 : i = 0 ∨ i = 1 := by omega
    rcases hi2 with rfl | rfl
    · have hx : x ∈ [zxtel_zx0] := hx
      have hg : ∀ k, k < 2 → ρ2 k = ρ k := hag
      have hI := hInv
      have hI : ∃ q : Nat, q ≤ 1000000 ∧ (zyEl zymw B s.heap) 74 48 = some (.int (Int32.ofNat q)) ∧ (zyEl zymw B H) = (zyEl zymw B s.heap) ∧ (0 = 1 → ρ 2 = Int32.ofNat q) := hI
      obtain ⟨hF, hB, hM⟩ := hXs
      have hEE : (zyEl zymw B H2) = (zyEl zymw B H) := zyfr0 hfr
      have ex := List.mem_singleton.mp hx
      subst ex
      obtain ⟨q, hq, s1, i1, -⟩ := hI
      refine zyGoKi hIH hAt hB ⟨1, by decide⟩ [595, 34359738369] [(0, 4294967295), (0, 4294967295)] 2147483648 2148483648 rfl (by decide) rfl rfl rfl (74 * 16384 + 48) zymr74 rfl rfl (show 48 < 49 by decide) (Int32.ofNat q) ?_ ?_ ⟨q, hq, s1, hEE.trans i1, fun _ => zyρi_e⟩ (show 1 - 1 < 1 - 0 by decide)
      · show zyEl zymw B H2 74 48 = _
        rw [hEE, i1]
        exact s1
      · rw [zyBn (by omega)]
        omega
    · cases hx
  · intro as E0 E E2 hT0 hΦ hlen i ρ hT hInv x hx ρ2 N2 B vo hXs hag hfr hT2 hvo
    rcases i with ⟨i, hi⟩
    have hi2 : i = 0 ∨ i = 1 := by omega
    rcases hi2 with rfl | rfl
    · cases hx
    · have hx : x ∈ [zxtel_ar0] := hx
      have hg : ∀ k, k < 3 → ρ2 k = ρ k := hag
      have hI := hInv
      have hI : ∃ q : Nat, q ≤ 1000000 ∧ E0 74 48 = some (.int (Int32.ofNat q)) ∧ E = E0 ∧ (1 = 1 → ρ 2 = Int32.ofNat q) := hI
      obtain ⟨hF, hB, hM⟩ := hXs
      have hfr : ∀ a k, zyin [(74, 48, 48), (87, 0, 899)] a k = false → E2 a k = E a k := hfr
      have ex := List.mem_singleton.mp hx
      subst ex
      obtain ⟨q, hq, s1, i1, i2⟩ := hI
      have a2 : ρ2 2 = Int32.ofNat q := (hg 2 (by decide)).trans (i2 rfl)
      have m := zyXm hM 0 rfl
      have m : E2 74 48 = some (.int (ρ2 2 + Int32.ofNat 1)) := m
      rw [a2, zyOa] at m
      refine ⟨zyvo_0 (show zyvo _ [] vo from hvo), ⟨q, hq, s1, m⟩, fun a k n1 n2 => ?_⟩
      rw [← i1]
      apply hfr
      cases hq : zyin [(74, 48, 48), (87, 0, 899)] a k with
      | false => rfl
      | true =>
        obtain ⟨p0, g1, g2, g3, g4⟩ := zyin_iff.mp hq
        rcases List.mem_cons.mp g1 with rfl | g1
        · dsimp only at g2 g3 g4
          exact absurd ⟨g2.symm, by omega⟩ n1
        · rw [List.mem_singleton.mp g1] at g2 g3 g4
          exact absurd ⟨g2.symm, g4⟩ n2

theorem zyCon_gr {l : Launch} {mi : zyB} {J : zyJt} {en : zEn} {me : zMe} {dep na : Nat} {Φ : List Int32 → zyEm → Prop} {Ψ : List Int32 → zyEm → zyEm → Option Value → Prop} (h : zyHc l mi en me dep na Φ Ψ) {ct : zyCt} {cd id key : Nat} (hres : ct.2.2.1 = [cd, id, key]) (hd : ct.2.2.2.1 = dep) (hpost : ct.2.2.2.2.2 = []) (hargs : ∀ (B : zCx) (AsV : List Value), zySt (zyX0 B J) ct.1 AsV → ∃ xs : List Int32, AsV = zyAr B xs ∧ xs.length = na ∧ ∀ (U : State) (H : Heap), zyMI mi B J U H → zyPk mi B ct.2.2.2.2.1 H → Φ xs (zyEl mi B H))
    (hΨ : ∀ (B : zCx) (xs : List Int32) (E E2 : zyEm) (vo : Option Value), J.1 E → Φ xs E → Ψ xs E E2 vo → J.1 E2 ∧ (∀ a k, zyin ct.2.1 a k = false → E2 a k = E a k) ∧ vo = none ∧ ∃ z0 z : Int32, E (key / 16384) (key % 16384) = some (.int z0) ∧ E2 (key / 16384) (key % 16384) = some (.int z) ∧ zyV (zyX0 B J) cd (.int z) ∧ J.2 id E z0 (zyAi (zyAr B xs).toArray 1) z) : zyCon l mi J en me ct := by
  intro B AsV hA
  obtain ⟨xs, rfl, hl, hΦ⟩ := hargs B AsV hA
  subst hd
  refine zyMet_pt (fun a s hp => ?_)
  obtain ⟨rfl, hK, hI, hPk⟩ := hp
  have hI0 : zyMI mi B zyJ0 s s.heap := ⟨hI.1, hI.2.1, trivial, hI.2.2.2⟩
  have hφ := hΦ s s.heap hI hPk
  refine ⟨_, _, h B xs hl, ⟨rfl, hK, hI0, hφ⟩, fun o t hq => ?_⟩
  obtain ⟨vo, e1, k1, k2, k3, k4⟩ := hq
  obtain ⟨g1, g2, g3, z0, z, g4, g5, g6, g7⟩ := hΨ B xs _ _ vo hI.2.2.1 hφ k3
  refine ⟨vo, e1, ?_, k1, ⟨k2.1, k2.2.1, g1, k2.2.2.2⟩, ?_, g2, k4⟩
  · rw [hres]
    exact ⟨g3, z0, z, g4, g5, g6, g7⟩
  · rw [hpost]
    exact fun p hp => by cases hp
theorem zytells_G {l : Launch} {J : zyJt} (hJ : zyJr J) {en : zEn} {me : zMe} (hen : zG zxMeta 331 = some en) (hme : zG zMeth 331 = some me) : zyCon l zymw J en me ([595, 73786976312018599930], [(74, 48, 48), (87, 0, 899)], [34359738362, 301, 1212464], 2, [(1212464, 73786976312026075650)], []) := by
  refine zyCon_gr (zytells hen hme) (cd := 34359738362) (id := 301) (key := 1212464) rfl rfl rfl (fun B AsV hA => ?_) (fun B xs E E2 vo hJ1 _ hΨ => ?_)
  · obtain ⟨v0, t0, rfl, a0, hA⟩ := zySt_c hA
    obtain ⟨v1, t1, rfl, a1, hA⟩ := zySt_c hA
    have e := zySt_n hA
    subst e
    have e0 : v0 = .ref (zad B 74) := zyv_3 (v := 595) a0 (by decide)
    obtain ⟨x, rfl⟩ := zyv_int a1 (by decide)
    refine ⟨[x], by rw [e0]; rfl, rfl, fun U H hI hP => ?_⟩
    obtain ⟨c0, w, q1, q2, q3, q4, q5⟩ := hP _ List.mem_cons_self
    obtain ⟨z, rfl, b1, b2⟩ := zv_2 (zyv_zv q5 (by decide) (by decide)) (by decide)
    have b1 : 2147483648 ≤ zB z := b1
    have b2 : zB z ≤ 2148483648 := b2
    obtain ⟨o1, o2⟩ := zyOn b1
    exact ⟨zyN1 z, by omega, by rw [← o1]; exact q3⟩
  · obtain ⟨e1, ⟨q, hq, q1, q2⟩, q3⟩ := hΨ
    have hf : ∀ a k, zyin [(74, 48, 48), (87, 0, 899)] a k = false → E2 a k = E a k := by
      intro a k hz
      refine q3 a k (fun z => ?_) (fun z => ?_)
      · rw [z.1, z.2] at hz
        cases hz
      · have hh : zyin [(74, 48, 48), (87, 0, 899)] a k = true := zyin_iff.mpr ⟨(87, 0, 899), by simp, z.1.symm, Nat.zero_le _, z.2⟩
        rw [hh] at hz
        cases hz
    refine ⟨hJ.1.1 E E2 (fun a k hz => (hf a k ?_).symm) hJ1, hf, e1, Int32.ofNat q, Int32.ofNat (q + 1), q1, q2, zyv_bd (lo := 0) (hi := 4294967295) (Nat.zero_le _) (by have := zB_lt (Int32.ofNat (q + 1)); omega) (by decide), ?_⟩
    · cases hz2 : zyin [(74, 48, 48), (87, 0, 899)] a k with
      | false => rfl
      | true =>
        exfalso
        obtain ⟨p0, g1, g2, g3, g4⟩ := zyin_iff.mp hz2
        rw [show zydr = [(75, 2, 5), (75, 160, 519), (81, 0, 10399), (74, 19, 19), (74, 21, 21)] from rfl] at hz
        obtain ⟨p1, f1, f2, f3, f4⟩ := zyin_iff.mp hz
        simp only [List.mem_cons, List.not_mem_nil, or_false] at g1 f1
        rcases g1 with rfl | rfl <;> rcases f1 with rfl | rfl | rfl | rfl | rfl <;> dsimp only at g2 g3 g4 f2 f3 f4 <;> omega
    · rw [hJ.2]
      refine Or.inr ⟨by decide, ?_, ?_⟩
      · rw [zyBn (by omega), zyBn (by omega)]
        omega
      · rw [zyBn (by omega), zyBn (by omega)]
        omega
