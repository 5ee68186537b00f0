/-! ALL PUBLIC METHODS ALIKE: what each one keeps -/
def zyJf : zyJt := (zJ1, zyRr)
theorem zydr_in {a k : Nat} (h : (a = 75 ∧ 2 ≤ k ∧ k ≤ 5) ∨ (a = 75 ∧ 160 ≤ k ∧ k ≤ 519)) : zyin zydr a k = true := by
  rw [show zydr = [(75, 2, 5), (75, 160, 519), (81, 0, 10399), (74, 19, 19), (74, 21, 21)] from rfl, zyin_iff]
  rcases h with ⟨rfl, a1, a2⟩ | ⟨rfl, a1, a2⟩
  · exact ⟨(75, 2, 5), by simp, rfl, a1, a2⟩
  · exact ⟨(75, 160, 519), by simp, rfl, a1, a2⟩
theorem zJ1_fr {E E2 : zyEm} (h : ∀ k, (2 ≤ k ∧ k ≤ 5) ∨ (160 ≤ k ∧ k ≤ 519) → E2 75 k = E 75 k) (hJ : zJ1 E) : zJ1 E2 := fun m hm hms => by
  rw [h 2 (by omega)] at hms
  obtain ⟨j1, j2, j3⟩ := hJ m hm hms
  exact ⟨zLv_fr (h 4 (by omega)) (fun k _ _ => h _ (by omega)) j1, zWv_fr (h 5 (by omega)) (fun k _ => h _ (by omega)) j2, zT0_fr (h 3 (by omega)) (h 4 (by omega)) j3⟩
theorem zyJf_r : zyJr zyJf := by
  refine ⟨⟨fun E E2 h hJ => ?_, fun _ _ p hp h0 => ?_, fun _ _ _ _ _ _ h hr => zyRr_congr h hr, fun _ _ _ _ _ h hr => zyRr_grow h hr⟩, rfl⟩
  · exact zJ1_fr (E := E) (E2 := E2) (fun k hk => (h 75 k (zydr_in (by omega))).symm) hJ
  · exfalso
    have hp : p ∈ [(75, 2, 5), (75, 160, 519), (81, 0, 10399), (74, 19, 19), (74, 21, 21)] := hp
    simp only [List.mem_cons, List.not_mem_nil, or_false] at hp
    rcases hp with rfl | rfl | rfl | rfl | rfl <;> exact absurd h0 (by decide)
def zyΦu (_ : List Int32) (E : zyEm) : Prop := zJ1 E ∧ ∃ T : Nat, T + 100 ≤ 1073741824 ∧ E 75 3 = some (.int (Int32.ofNat T))
def zyKu (E E2 : zyEm) : Prop := zJ1 E2 ∧ E2 74 33 = E 74 33 ∧ ∀ T : Nat, T + 100 ≤ 1073741824 → E 75 3 = some (.int (Int32.ofNat T)) → ∃ T' : Nat, T' ≤ T + 100 ∧ E2 75 3 = some (.int (Int32.ofNat T'))
def zyΨu (_ : List Int32) (E E2 : zyEm) (vo : Option Value) : Prop := zyKu E E2 ∧ ∃ z : Int32, vo = some (.int z)
theorem zyKu_3 {E E2 : zyEm} (hJ : zJ1 E2) (h1 : E2 74 33 = E 74 33) (h2 : E2 75 3 = E 75 3) : zyKu E E2 := ⟨hJ, h1, fun T _ h => ⟨T, by omega, h2.trans h⟩⟩
theorem zyHc_mono {l : Launch} {mi : zyB} {en : zEn} {me : zMe} {dep na : Nat} {Φ Φ' : List Int32 → zyEm → Prop} {Ψ Ψ' : List Int32 → zyEm → zyEm → Option Value → Prop} (h : zyHc l mi en me dep na Φ Ψ) (hΦ : ∀ xs E, xs.length = na → zyTy mi E → Φ' xs E → Φ xs E) (hΨ : ∀ xs E E2 vo, zyTy mi E → zyTy mi E2 → Φ' xs E → Ψ xs E E2 vo → Ψ' xs E E2 vo) : zyHc l mi en me dep na Φ' Ψ' := by
  intro B xs hl
  refine zyMet_pt (fun a s hp => ?_)
  obtain ⟨rfl, hK, hI, hφ⟩ := hp
  refine ⟨_, _, h B xs hl, ⟨rfl, hK, hI, hΦ _ _ hl (zyTy_of hI) hφ⟩, fun o t hq => ?_⟩
  obtain ⟨vo, e1, k1, k2, k3, k4⟩ := hq
  exact ⟨vo, e1, k1, k2, hΨ _ _ _ _ (zyTy_of hI) (zyTy_of k2) hφ k3, k4⟩
theorem zyvo_z {B : zCx} {J : zyJt} {cd : Nat} {vo : Option Value} (hc : cd % 8 ≤ 2) (h : zyvo (zyX0 B J) [cd] vo) : ∃ z : Int32, vo = some (.int z) := by
  cases vo with
  | none => exact h.elim
  | some x =>
    have h : zyV (zyX0 B J) cd x := h
    obtain ⟨z, rfl⟩ := zyv_int h hc
    exact ⟨z, rfl⟩
/-- out of a contract with the last J -/
theorem zyHc_c {l : Launch} {mi : zyB} {en : zEn} {me : zMe} {ct : zyCt} (h : zyCon l mi zyJf en me ct) {dep na : Nat} {Φa : List Int32 → Prop} (hd : ct.2.2.2.1 = dep) (hargs : ∀ (B : zCx) (xs : List Int32), xs.length = na → Φa xs → zySt (zyX0 B zyJf) ct.1 (zyAr B xs)) (hpre : ∀ (B : zCx) (H : Heap) (U : State), zyMI mi B zyJ0 U H → (∃ T : Nat, T + 100 ≤ 1073741824 ∧ zyEl mi B H 75 3 = some (.int (Int32.ofNat T))) → zyPk mi B ct.2.2.2.2.1 H) {cd : Nat} (hres : ct.2.2.1 = [cd] ∧ cd % 8 ≤ 2) (hfp : zand (zif (zyin ct.2.1 75 3) false true) (zif (zyin ct.2.1 74 33) false true) = true) : zyHc l mi en me dep na (fun xs E => Φa xs ∧ zyΦu xs E) zyΨu := by
  subst hd
  intro B xs hl
  refine zyMet_pt (fun a s hp => ?_)
  obtain ⟨rfl, hK, hI, hφa, hJ, hT⟩ := hp
  refine ⟨_, _, h B _ (hargs B xs hl hφa), ⟨rfl, hK, ⟨hI.1, hI.2.1, hJ, hI.2.2.2⟩, hpre B s.heap s hI hT⟩, fun o t hq => ?_⟩
  obtain ⟨vo, e1, hv, k1, k2, k3, k4, k5⟩ := hq
  rw [hres.1] at hv
  obtain ⟨f1, f2⟩ := zand_iff hfp
  have g1 : zyin ct.2.1 75 3 = false := by
    cases hq : zyin ct.2.1 75 3 with
    | false => rfl
    | true => rw [hq] at f1; cases f1
  have g2 : zyin ct.2.1 74 33 = false := by
    cases hq : zyin ct.2.1 74 33 with
    | false => rfl
    | true => rw [hq] at f2; cases f2
  exact ⟨vo, e1, k1, ⟨k2.1, k2.2.1, trivial, k2.2.2.2⟩, ⟨zyKu_3 k2.2.2.1 (k4 74 33 g2) (k4 75 3 g1), zyvo_z hres.2 hv⟩, k5⟩
/-- put, take: by T -/
theorem zyHc_T {l : Launch} {r c : Nat} {en : zEn} {me : zMe} {ct1 ct2 : zyCt} (c1 : zyCon l (zymr r c) zyJ0 en me ct1) (c2 : zyCon l (zymr r c) zyJ0 en me ct2) {dep : Nat} (hd : ct1.2.2.2.1 = dep ∧ ct2.2.2.2.1 = dep) (ha : ct1.1 = [595, 34359738362] ∧ ct2.1 = [595, 34359738362]) (hpre : ct1.2.2.2.2.1 = [(1228803, 73786976363557683194)] ∧ ct2.2.2.2.2.1 = [(1228803, 17179869186)]) {cd1 cd2 : Nat} (hres : (ct1.2.2.1 = [cd1] ∧ cd1 % 8 ≤ 2) ∧ ct2.2.2.1 = [cd2] ∧ cd2 % 8 ≤ 2)
    (hf1 : ∀ a k, zyin ct1.2.1 a k = true → a = 74 ∧ 2 ≤ k ∧ k ≤ 3) (hf2 : ∀ a k, zyin ct2.2.1 a k = true → (a = 74 ∧ 2 ≤ k ∧ k ≤ 3) ∨ (a = 75 ∧ (k ≤ 2 ∨ (6 ≤ k ∧ k < 160) ∨ 520 ≤ k))) : zyHc l (zymr r c) en me dep 1 zyΦu zyΨu := by
  intro B xs hl
  have hA : ∀ J, zySt (zyX0 B J) [595, 34359738362] (zyAr B xs) := by
    intro J
    cases xs with
    | nil => cases hl
    | cons x t =>
      cases t with
      | cons y u => cases hl
      | nil => exact ⟨Or.inl ⟨Or.inr (Or.inr (Or.inr (Or.inl ⟨rfl, rfl⟩))), fun q => by omega, fun q => by omega⟩, zyv_bd (lo := 0) (hi := 4294967295) (Nat.zero_le _) (by have := zB_lt x; omega) (by decide), trivial⟩
  refine zyMet_pt (fun a s hp => ?_)
  obtain ⟨rfl, hK, hI, hJ, T, hT1, hT2⟩ := hp
  have hg : zG (zymr r c) (1228803 / 16384) = some (zymr75 r c) := rfl
  have hlen : 1228803 % 16384 < zyLen (zymr75 r c) := by rw [zyL75]; decide
  by_cases hz : T = 0
  · have hA2 : zySt (zyX0 B zyJ0) ct2.1 (zyAr B xs) := by rw [ha.2]; exact hA _
    have hm := c2 B (zyAr B xs) hA2
    rw [hd.2] at hm
    have hpk : zyPk (zymr r c) B ct2.2.2.2.2.1 s.heap := by
      rw [hpre.2]
      intro p hp
      rw [List.mem_singleton.mp hp]
      exact ⟨_, _, hg, hlen, hT2, by decide, zyv_bd (lo := 0) (hi := 2147483648) (Nat.zero_le _) (by rw [zyBn (by omega)]; omega) (by decide)⟩
    refine ⟨_, _, hm, ⟨rfl, hK, hI, hpk⟩, fun o t hq => ?_⟩
    · obtain ⟨vo, e1, hv, k1, k2, k3, k4, k5⟩ := hq
      rw [hres.2.1] at hv
      have nf : ∀ a k, ¬ ((a = 74 ∧ 2 ≤ k ∧ k ≤ 3) ∨ (a = 75 ∧ (k ≤ 2 ∨ (6 ≤ k ∧ k < 160) ∨ 520 ≤ k))) → zyEl (zymr r c) B t.heap a k = zyEl (zymr r c) B s.heap a k := by
        intro a k n
        apply k4
        cases hq : zyin ct2.2.1 a k with
        | false => rfl
        | true => exact absurd (hf2 a k hq) n
      have h3 := nf 75 3 (by omega)
      have h4 := nf 75 4 (by omega)
      have hL : zyI (zyEl (zymr r c) B s.heap) 75 4 = Int32.ofNat 0 := by
        obtain ⟨m, hm, hms⟩ := zc_m (zyTy_of hI)
        refine (hJ m hm hms).2.2 ?_
        rw [zyI_s hT2, zyOl (by omega) (by omega)]
        omega
      refine ⟨vo, e1, k1, k2, ⟨zyKu_3 (fun m hm hms => ?_) (nf 74 33 (by omega)) h3, zyvo_z hres.2.2 hv⟩, k5⟩
      have hW : zWv (zyEl (zymr r c) B s.heap) := by
        obtain ⟨m, hm, hms⟩ := zc_m (zyTy_of hI)
        exact (hJ m hm hms).2.1
      have hL2 : zyI (zyEl (zymr r c) B t.heap) 75 4 = Int32.ofNat 0 := (zyI_eq h4).trans hL
      exact ⟨zLv_0 hL2, zWv_fr (nf 75 5 (by omega)) (fun k hk => nf 75 (460 + k) (by omega)) hW, fun _ => hL2⟩
  · have hA2 : zySt (zyX0 B zyJ0) ct1.1 (zyAr B xs) := by rw [ha.1]; exact hA _
    have hm := c1 B (zyAr B xs) hA2
    rw [hd.1] at hm
    have hpk : zyPk (zymr r c) B ct1.2.2.2.2.1 s.heap := by
      rw [hpre.1]
      intro p hp
      rw [List.mem_singleton.mp hp]
      exact ⟨_, _, hg, hlen, hT2, by decide, zyv_bd (lo := 2147483649) (hi := 4294967295) (by rw [zyBn (by omega)]; omega) (by have := zB_lt (Int32.ofNat T); omega) (by decide)⟩
    refine ⟨_, _, hm, ⟨rfl, hK, hI, hpk⟩, fun o t hq => ?_⟩
    · obtain ⟨vo, e1, hv, k1, k2, k3, k4, k5⟩ := hq
      rw [hres.1.1] at hv
      have nf : ∀ a k, ¬ (a = 74 ∧ 2 ≤ k ∧ k ≤ 3) → zyEl (zymr r c) B t.heap a k = zyEl (zymr r c) B s.heap a k := by
        intro a k n
        apply k4
        cases hq : zyin ct1.2.1 a k with
        | false => rfl
        | true => exact absurd (hf1 a k hq) n
      exact ⟨vo, e1, k1, k2, ⟨zyKu_3 (zJ1_fr (fun k _ => nf 75 k (by omega)) hJ) (nf 74 33 (by omega)) (nf 75 3 (by omega)), zyvo_z hres.1.2 hv⟩, k5⟩
