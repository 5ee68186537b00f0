/-! THE REFERENCE's public methods keep the tape, the words, what a load has told (printed by mlv.py) -/
def zyKv (E E2 : zyEm) : Prop := (∀ k, E2 84 k = E 84 k) ∧ (∀ k, E2 85 k = E 85 k) ∧ ∀ k, 33 ≤ k → k ≤ 46 → E2 74 k = E 74 k
def zyΨv (as : List Int32) (E E2 : zyEm) (vo : Option Value) : Prop := zyΨu as E E2 vo ∧ zyKv E E2
noncomputable def zyvck (fp : zyR) : Bool := List.rec (motive := fun _ => Bool) true (fun p _ ih => zand (zif (Nat.beq p.1 84) false (zif (Nat.beq p.1 85) false (zif (Nat.beq p.1 74) (zif (Nat.ble (Nat.succ p.2.2) 33) true (Nat.ble 47 p.2.1)) true))) ih) fp
theorem zyvck_iff : ∀ {fp : zyR}, zyvck fp = true → ∀ a k, (a = 84 ∨ a = 85 ∨ (a = 74 ∧ 33 ≤ k ∧ k ≤ 46)) → zyin fp a k = false := by
  intro fp h a k ha
  cases hq : zyin fp a k with
  | false => rfl
  | true =>
    exfalso
    obtain ⟨p, hp, g1, g2, g3⟩ := zyin_iff.mp hq
    revert h
    induction fp with
    | nil => cases hp
    | cons b t ih =>
      intro h
      have h : zand (zif (Nat.beq b.1 84) false (zif (Nat.beq b.1 85) false (zif (Nat.beq b.1 74) (zif (Nat.ble (Nat.succ b.2.2) 33) true (Nat.ble 47 b.2.1)) true))) (zyvck t) = true := h
      obtain ⟨h1, h2⟩ := zand_iff h
      rcases List.mem_cons.mp hp with e | e
      · subst e
        rcases zif_iff h1 with ⟨-, q⟩ | ⟨n1, q⟩
        · cases q
        · rcases zif_iff q with ⟨-, q⟩ | ⟨n2, q⟩
          · cases q
          · have m1 : ¬ p.1 = 84 := fun z => by rw [z] at n1; cases n1
            have m2 : ¬ p.1 = 85 := fun z => by rw [z] at n2; cases n2
            rcases zif_iff q with ⟨-, q⟩ | ⟨n3, -⟩
            · rcases zif_iff q with ⟨q, -⟩ | ⟨-, q⟩
              · have := zbleT q
                omega
              · have := zbleT q
                omega
            · have m3 : ¬ p.1 = 74 := fun z => by rw [z] at n3; cases n3
              omega
      · refine ih (zyin_iff.mpr ⟨p, e, g1, g2, g3⟩) e h2
theorem zyKv_c {fp : zyR} {E E2 : zyEm} (h : zyvck fp = true) (hf : ∀ a k, zyin fp a k = false → E2 a k = E a k) : zyKv E E2 := ⟨fun k => hf 84 k (zyvck_iff h _ _ (Or.inl rfl)), fun k => hf 85 k (zyvck_iff h _ _ (Or.inr (Or.inl rfl))), fun k k1 k2 => hf 74 k (zyvck_iff h _ _ (Or.inr (Or.inr ⟨rfl, k1, k2⟩)))⟩
theorem zyHc_cV {l : Launch} {mi : zyB} {en : zEn} {me : zMe} {ct : zyCt} (h : zyCon l mi zyJf en me ct) {dep na : Nat} {Φa : List Int32 → Prop} (hd : ct.2.2.2.1 = dep) (hargs : ∀ (B : zCx) (xs : List Int32), xs.length = na → Φa xs → zySt (zyX0 B zyJf) ct.1 (zyAr B xs)) (hpre : ∀ (B : zCx) (H : Heap) (U : State), zyMI mi B zyJ0 U H → (∃ T : Nat, T + 100 ≤ 1073741824 ∧ zyEl mi B H 75 3 = some (.int (Int32.ofNat T))) → zyPk mi B ct.2.2.2.2.1 H) {cd : Nat} (hres : ct.2.2.1 = [cd] ∧ cd % 8 ≤ 2) (hfp : zand (zif (zyin ct.2.1 75 3) false true) (zif (zyin ct.2.1 74 33) false true) = true) (hv84 : zyvck ct.2.1 = true) : zyHc l mi en me dep na (fun xs E => Φa xs ∧ zyΦu xs E) zyΨv := by
  subst hd
  intro B xs hl
  refine zyMet_pt (fun a s hp => ?_)
  obtain ⟨rfl, hK, hI, hφa, hJ, hT⟩ := hp
  refine ⟨_, _, h B _ (hargs B xs hl hφa), ⟨rfl, hK, ⟨hI.1, hI.2.1, hJ, hI.2.2.2⟩, hpre B s.heap s hI hT⟩, fun o t hq => ?_⟩
  obtain ⟨vo, e1, hv, k1, k2, k3, k4, k5⟩ := hq
  rw [hres.1] at hv
  obtain ⟨f1, f2⟩ := zand_iff hfp
  have g1 : zyin ct.2.1 75 3 = false := by
    cases hq : zyin ct.2.1 75 3 with
    | false => rfl
    | true => rw [hq] at f1; cases f1
  have g2 : zyin ct.2.1 74 33 = false := by
    cases hq : zyin ct.2.1 74 33 with
    | false => rfl
    | true => rw [hq] at f2; cases f2
  exact ⟨vo, e1, k1, ⟨k2.1, k2.2.1, trivial, k2.2.2.2⟩, ⟨⟨zyKu_3 k2.2.2.1 (k4 74 33 g2) (k4 75 3 g1), zyvo_z hres.2 hv⟩, zyKv_c hv84 k4⟩, k5⟩
/-- put, take: by T -/
theorem zyHc_TV {l : Launch} {r c : Nat} {en : zEn} {me : zMe} {ct1 ct2 : zyCt} (c1 : zyCon l (zymr r c) zyJ0 en me ct1) (c2 : zyCon l (zymr r c) zyJ0 en me ct2) {dep : Nat} (hd : ct1.2.2.2.1 = dep ∧ ct2.2.2.2.1 = dep) (ha : ct1.1 = [595, 34359738362] ∧ ct2.1 = [595, 34359738362]) (hpre : ct1.2.2.2.2.1 = [(1228803, 73786976363557683194)] ∧ ct2.2.2.2.2.1 = [(1228803, 17179869186)]) {cd1 cd2 : Nat} (hres : (ct1.2.2.1 = [cd1] ∧ cd1 % 8 ≤ 2) ∧ ct2.2.2.1 = [cd2] ∧ cd2 % 8 ≤ 2)
    (hf1 : ∀ a k, zyin ct1.2.1 a k = true → a = 74 ∧ 2 ≤ k ∧ k ≤ 3) (hf2 : ∀ a k, zyin ct2.2.1 a k = true → (a = 74 ∧ 2 ≤ k ∧ k ≤ 3) ∨ (a = 75 ∧ (k ≤ 2 ∨ (6 ≤ k ∧ k < 160) ∨ 520 ≤ k))) : zyHc l (zymr r c) en me dep 1 zyΦu zyΨv := by
  intro B xs hl
  have hA : ∀ J, zySt (zyX0 B J) [595, 34359738362] (zyAr B xs) := by
    intro J
    cases xs with
    | nil => cases hl
    | cons x t =>
      cases t with
      | cons y u => cases hl
      | nil => exact ⟨Or.inl ⟨Or.inr (Or.inr (Or.inr (Or.inl ⟨rfl, rfl⟩))), fun q => by omega, fun q => by omega⟩, zyv_bd (lo := 0) (hi := 4294967295) (Nat.zero_le _) (by have := zB_lt x; omega) (by decide), trivial⟩
  refine zyMet_pt (fun a s hp => ?_)
  obtain ⟨rfl, hK, hI, hJ, T, hT1, hT2⟩ := hp
  have hg : zG (zymr r c) (1228803 / 16384) = some (zymr75 r c) := rfl
  have hlen : 1228803 % 16384 < zyLen (zymr75 r c) := by rw [zyL75]; decide
  by_cases hz : T = 0
  · have hA2 : zySt (zyX0 B zyJ0) ct2.1 (zyAr B xs) := by rw [ha.2]; exact hA _
    have hm := c2 B (zyAr B xs) hA2
    rw [hd.2] at hm
    have hpk : zyPk (zymr r c) B ct2.2.2.2.2.1 s.heap := by
      rw [hpre.2]
      intro p hp
      rw [List.mem_singleton.mp hp]
      exact ⟨_, _, hg, hlen, hT2, by decide, zyv_bd (lo := 0) (hi := 2147483648) (Nat.zero_le _) (by rw [zyBn (by omega)]; omega) (by decide)⟩
    refine ⟨_, _, hm, ⟨rfl, hK, hI, hpk⟩, fun o t hq => ?_⟩
    · obtain ⟨vo, e1, hv, k1, k2, k3, k4, k5⟩ := hq
      rw [hres.2.1] at hv
      have nf : ∀ a k, ¬ ((a = 74 ∧ 2 ≤ k ∧ k ≤ 3) ∨ (a = 75 ∧ (k ≤ 2 ∨ (6 ≤ k ∧ k < 160) ∨ 520 ≤ k))) → zyEl (zymr r c) B t.heap a k = zyEl (zymr r c) B s.heap a k := by
        intro a k n
        apply k4
        cases hq : zyin ct2.2.1 a k with
        | false => rfl
        | true => exact absurd (hf2 a k hq) n
      have h3 := nf 75 3 (by omega)
      have h4 := nf 75 4 (by omega)
      have hL : zyI (zyEl (zymr r c) B s.heap) 75 4 = Int32.ofNat 0 := by
        obtain ⟨m, hm, hms⟩ := zc_m (zyTy_of hI)
        refine (hJ m hm hms).2.2 ?_
        rw [zyI_s hT2, zyOl (by omega) (by omega)]
        omega
      have kv : zyKv (zyEl (zymr r c) B s.heap) (zyEl (zymr r c) B t.heap) := ⟨fun k => nf 84 k (by omega), fun k => nf 85 k (by omega), fun k k1 k2 => nf 74 k (by omega)⟩
      refine ⟨vo, e1, k1, k2, ⟨⟨zyKu_3 (fun m hm hms => ?_) (nf 74 33 (by omega)) h3, zyvo_z hres.2.2 hv⟩, kv⟩, k5⟩
      have hW : zWv (zyEl (zymr r c) B s.heap) := by
        obtain ⟨m, hm, hms⟩ := zc_m (zyTy_of hI)
        exact (hJ m hm hms).2.1
      have hL2 : zyI (zyEl (zymr r c) B t.heap) 75 4 = Int32.ofNat 0 := (zyI_eq h4).trans hL
      exact ⟨zLv_0 hL2, zWv_fr (nf 75 5 (by omega)) (fun k hk => nf 75 (460 + k) (by omega)) hW, fun _ => hL2⟩
  · have hA2 : zySt (zyX0 B zyJ0) ct1.1 (zyAr B xs) := by rw [ha.1]; exact hA _
    have hm := c1 B (zyAr B xs) hA2
    rw [hd.1] at hm
    have hpk : zyPk (zymr r c) B ct1.2.2.2.2.1 s.heap := by
      rw [hpre.1]
      intro p hp
      rw [List.mem_singleton.mp hp]
      exact ⟨_, _, hg, hlen, hT2, by decide, zyv_bd (lo := 2147483649) (hi := 4294967295) (by rw [zyBn (by omega)]; omega) (by have := zB_lt (Int32.ofNat T); omega) (by decide)⟩
    refine ⟨_, _, hm, ⟨rfl, hK, hI, hpk⟩, fun o t hq => ?_⟩
    · obtain ⟨vo, e1, hv, k1, k2, k3, k4, k5⟩ := hq
      rw [hres.1.1] at hv
      have nf : ∀ a k, ¬ (a = 74 ∧ 2 ≤ k ∧ k ≤ 3) → zyEl (zymr r c) B t.heap a k = zyEl (zymr r c) B s.heap a k := by
        intro a k n
        apply k4
        cases hq : zyin ct1.2.1 a k with
        | false => rfl
        | true => exact absurd (hf1 a k hq) n
      have kv : zyKv (zyEl (zymr r c) B s.heap) (zyEl (zymr r c) B t.heap) := ⟨fun k => nf 84 k (by omega), fun k => nf 85 k (by omega), fun k k1 k2 => nf 74 k (by omega)⟩
      exact ⟨vo, e1, k1, k2, ⟨⟨zyKu_3 (zJ1_fr (fun k _ => nf 75 k (by omega)) hJ) (nf 74 33 (by omega)) (nf 75 3 (by omega)), zyvo_z hres.1.2 hv⟩, kv⟩, k5⟩

section YHV2
variable {l : Launch} {r c : Nat} {en : zEn} {me : zMe}
theorem zyput_V (h1 : 1 ≤ r) (h2 : r ≤ 4) (h3 : 1 ≤ c) (h4 : c ≤ 5) (hen : zG zxMeta 275 = some en) (hme : zG zMeth 275 = some me) : zyHc l (zymr r c) en me 9 1 zyΦu zyΨv := by
  refine zyHc_TV (zyqA h1 h2 h3 h4 1 (by decide) en me hen hme) (zyqA h1 h2 h3 h4 2 (by decide) en me hen hme) ⟨rfl, rfl⟩ ⟨rfl, rfl⟩ ⟨rfl, rfl⟩ (cd1 := 34359738360) (cd2 := 73786976277658337338) ⟨⟨rfl, by decide⟩, rfl, by decide⟩ ?_ ?_
  · intro a k h
    obtain ⟨p0, g1, g2, g3, g4⟩ := zyin_iff.mp h
    have g1 : p0 ∈ [(74, 2, 3)] := g1
    simp only [List.mem_cons, List.not_mem_nil, or_false] at g1
    rcases g1 with rfl <;> dsimp only at g2 g3 g4 <;> omega
  · intro a k h
    obtain ⟨p0, g1, g2, g3, g4⟩ := zyin_iff.mp h
    have g1 : p0 ∈ [(74, 2, 3), (75, 2, 2), (75, 136, 159)] := g1
    simp only [List.mem_cons, List.not_mem_nil, or_false] at g1
    rcases g1 with rfl | rfl | rfl <;> dsimp only at g2 g3 g4 <;> omega
theorem zytake_V (h1 : 1 ≤ r) (h2 : r ≤ 4) (h3 : 1 ≤ c) (h4 : c ≤ 5) (hen : zG zxMeta 276 = some en) (hme : zG zMeth 276 = some me) : zyHc l (zymr r c) en me 3 1 zyΦu zyΨv := by
  refine zyHc_TV (zyqA h1 h2 h3 h4 3 (by decide) en me hen hme) (zyqA h1 h2 h3 h4 4 (by decide) en me hen hme) ⟨rfl, rfl⟩ ⟨rfl, rfl⟩ ⟨rfl, rfl⟩ (cd1 := 34359738360) (cd2 := 73786976277658337338) ⟨⟨rfl, by decide⟩, rfl, by decide⟩ ?_ ?_
  · intro a k h
    obtain ⟨p0, g1, g2, g3, g4⟩ := zyin_iff.mp h
    have g1 : p0 ∈ [(74, 2, 3)] := g1
    simp only [List.mem_cons, List.not_mem_nil, or_false] at g1
    rcases g1 with rfl <;> dsimp only at g2 g3 g4 <;> omega
  · intro a k h
    obtain ⟨p0, g1, g2, g3, g4⟩ := zyin_iff.mp h
    have g1 : p0 ∈ [(74, 2, 3), (75, 2, 2), (75, 6, 6), (75, 136, 142), (75, 144, 150), (75, 152, 158), (75, 520, 555)] := g1
    simp only [List.mem_cons, List.not_mem_nil, or_false] at g1
    rcases g1 with rfl | rfl | rfl | rfl | rfl | rfl | rfl <;> dsimp only at g2 g3 g4 <;> omega
theorem zystep_V (h1 : 1 ≤ r) (h2 : r ≤ 4) (h3 : 1 ≤ c) (h4 : c ≤ 5) (hen : zG zxMeta 279 = some en) (hme : zG zMeth 279 = some me) : zyHc l (zymr r c) en me 8 1 zyΦu zyΨv := by
  refine zyHc_mono (zystep_H h1 h2 h3 h4 hen hme) (fun xs E _ _ h => h) (fun xs E E2 vo _ _ h hΨ => ?_)
  obtain ⟨k1, k2, k3, k4⟩ := hΨ
  refine ⟨⟨⟨k1, k2 74 33 (by omega) (by omega) (by omega), fun T hT e => ?_⟩, k3⟩, ⟨fun k => k2 84 k (by omega) (by omega) (by omega), fun k => k2 85 k (by omega) (by omega) (by omega), fun k q1 q2 => k2 74 k (by omega) (by omega) (by omega)⟩⟩
  obtain ⟨T', -, q2, q3⟩ := k4 T hT e
  exact ⟨T', q2, q3⟩
theorem zyreset_V (h1 : 1 ≤ r) (h2 : r ≤ 4) (h3 : 1 ≤ c) (h4 : c ≤ 5) (hen : zG zxMeta 280 = some en) (hme : zG zMeth 280 = some me) : zyHc l (zymr r c) en me 8 0 zyΦu zyΨv := by
  refine zyHc_mono (zyreset_H h1 h2 h3 h4 hen hme) (fun xs E _ _ h => h.1) (fun xs E E2 vo _ _ h hΨ => ?_)
  obtain ⟨k1, k2, k3, k4⟩ := hΨ
  exact ⟨⟨⟨k1, k2 74 33 (by omega) (by omega) (by omega), fun T hT e => ⟨0, by omega, k3⟩⟩, k4⟩, ⟨fun k => k2 84 k (by omega) (by omega) (by omega), fun k => k2 85 k (by omega) (by omega) (by omega), fun k q1 q2 => k2 74 k (by omega) (by omega) (by omega)⟩⟩
theorem zycut_V (h1 : 1 ≤ r) (h2 : r ≤ 4) (h3 : 1 ≤ c) (h4 : c ≤ 5) (hen : zG zxMeta 281 = some en) (hme : zG zMeth 281 = some me) : zyHc l (zymr r c) en me 8 0 zyΦu zyΨv := by
  refine zyHc_mono (zycut_H h1 h2 h3 h4 hen hme) (fun xs E _ _ h => h.1) (fun xs E E2 vo _ _ h hΨ => ?_)
  obtain ⟨k1, k2, k4⟩ := hΨ
  exact ⟨⟨zyKu_3 k1 (k2 74 33 (by omega) (by omega)) (k2 75 3 (by omega) (by omega)), k4⟩, ⟨fun k => k2 84 k (by omega) (by omega), fun k => k2 85 k (by omega) (by omega), fun k q1 q2 => k2 74 k (by omega) (by omega)⟩⟩
theorem zypair_V (h1 : 1 ≤ r) (h2 : r ≤ 4) (h3 : 1 ≤ c) (h4 : c ≤ 5) (hen : zG zxMeta 256 = some en) (hme : zG zMeth 256 = some me) : zyHc l (zymr r c) en me 4 2 zyΦu zyΨv := by
  refine zyHc_mono (zypair_H h1 h2 h3 h4 hen hme) (fun xs E _ _ h => h.1) (fun xs E E2 vo _ _ h hΨ => ?_)
  obtain ⟨k1, k4⟩ := hΨ
  exact ⟨⟨zyKu_3 (zJ1_fr (fun k _ => k1 75 k (by omega) (by omega)) h.1) (k1 74 33 (by omega) (by omega)) (k1 75 3 (by omega) (by omega)), k4⟩, ⟨fun k => k1 84 k (by omega) (by omega), fun k => k1 85 k (by omega) (by omega), fun k q1 q2 => k1 74 k (by omega) (by omega)⟩⟩
end YHV2
section YHVW
variable {l : Launch} {r c : Nat} {en : zEn} {me : zMe}
theorem zystatus_V (h1 : 1 ≤ r) (h2 : r ≤ 4) (h3 : 1 ≤ c) (h4 : c ≤ 5) (hen : zG zxMeta 189 = some en) (hme : zG zMeth 189 = some me) : zyHc l (zymr r c) en me 1 0 zyΦu zyΨv := zyHc_mono (zyHc_cV (zyrefB h1 h2 h3 h4 23 (by decide) en me hen hme) (Φa := fun _ => True) rfl zyag0 zypre0 (cd := 73786976312018075722) ⟨rfl, by decide⟩ rfl rfl) (fun _ _ _ _ h => ⟨trivial, h⟩) (fun _ _ _ _ _ _ _ h => h)
theorem zyfault_V (h1 : 1 ≤ r) (h2 : r ≤ 4) (h3 : 1 ≤ c) (h4 : c ≤ 5) (hen : zG zxMeta 330 = some en) (hme : zG zMeth 330 = some me) : zyHc l (zymr r c) en me 1 1 zyΦu zyΨv := zyHc_mono (zyHc_cV (zyrefB h1 h2 h3 h4 64 (by decide) en me hen hme) (Φa := fun _ => True) rfl zyag1 zypre0 (cd := 34359738362) ⟨rfl, by decide⟩ rfl rfl) (fun _ _ _ _ h => ⟨trivial, h⟩) (fun _ _ _ _ _ _ _ h => h)
theorem zymany_V (h1 : 1 ≤ r) (h2 : r ≤ 4) (h3 : 1 ≤ c) (h4 : c ≤ 5) (hen : zG zxMeta 262 = some en) (hme : zG zMeth 262 = some me) : zyHc l (zymr r c) en me 14 1 zyΦu zyΨv := zyHc_mono (zyHc_cV (zyrefB h1 h2 h3 h4 29 (by decide) en me hen hme) (Φa := fun _ => True) rfl zyag1 zypre0 (cd := 34359738362) ⟨rfl, by decide⟩ rfl rfl) (fun _ _ _ _ h => ⟨trivial, h⟩) (fun _ _ _ _ _ _ _ h => h)
theorem zygate_V (h1 : 1 ≤ r) (h2 : r ≤ 4) (h3 : 1 ≤ c) (h4 : c ≤ 5) (hen : zG zxMeta 263 = some en) (hme : zG zMeth 263 = some me) : zyHc l (zymr r c) en me 5 2 zyΦu zyΨv := zyHc_mono (zyHc_cV (zyrefB h1 h2 h3 h4 30 (by decide) en me hen hme) (Φa := fun _ => True) rfl zyag2 zypre0 (cd := 73786976277658337914) ⟨rfl, by decide⟩ rfl rfl) (fun _ _ _ _ h => ⟨trivial, h⟩) (fun _ _ _ _ _ _ _ h => h)
theorem zybit_V (h1 : 1 ≤ r) (h2 : r ≤ 4) (h3 : 1 ≤ c) (h4 : c ≤ 5) (hen : zG zxMeta 264 = some en) (hme : zG zMeth 264 = some me) : zyHc l (zymr r c) en me 4 2 zyΦu zyΨv := zyHc_mono (zyHc_cV (zyrefB h1 h2 h3 h4 31 (by decide) en me hen hme) (Φa := fun _ => True) rfl zyag2 zypre0 (cd := 73786976277658337290) ⟨rfl, by decide⟩ rfl rfl) (fun _ _ _ _ h => ⟨trivial, h⟩) (fun _ _ _ _ _ _ _ h => h)
theorem zybobbin_V (h1 : 1 ≤ r) (h2 : r ≤ 4) (h3 : 1 ≤ c) (h4 : c ≤ 5) (hen : zG zxMeta 266 = some en) (hme : zG zMeth 266 = some me) : zyHc l (zymr r c) en me 7 2 zyΦu zyΨv := zyHc_mono (zyHc_cV (zyrefB h1 h2 h3 h4 36 (by decide) en me hen hme) (Φa := fun _ => True) rfl zyag2 zypre0 (cd := 34359738362) ⟨rfl, by decide⟩ rfl rfl) (fun _ _ _ _ h => ⟨trivial, h⟩) (fun _ _ _ _ _ _ _ h => h)
theorem zyat_V (h1 : 1 ≤ r) (h2 : r ≤ 4) (h3 : 1 ≤ c) (h4 : c ≤ 5) (hen : zG zxMeta 268 = some en) (hme : zG zMeth 268 = some me) : zyHc l (zymr r c) en me 3 1 zyΦu zyΨv := zyHc_mono (zyHc_cV (zyrefB h1 h2 h3 h4 38 (by decide) en me hen hme) (Φa := fun _ => True) rfl zyag1 zypre0 (cd := 73786976277658337338) ⟨rfl, by decide⟩ rfl rfl) (fun _ _ _ _ h => ⟨trivial, h⟩) (fun _ _ _ _ _ _ _ h => h)
theorem zyfaces_V (h1 : 1 ≤ r) (h2 : r ≤ 4) (h3 : 1 ≤ c) (h4 : c ≤ 5) (hen : zG zxMeta 269 = some en) (hme : zG zMeth 269 = some me) : zyHc l (zymr r c) en me 7 1 zyΦu zyΨv := zyHc_mono (zyHc_cV (zyrefB h1 h2 h3 h4 39 (by decide) en me hen hme) (Φa := fun _ => True) rfl zyag1 zypre0 (cd := (zyS1 r c)) ⟨rfl, zyS1m⟩ rfl rfl) (fun _ _ _ _ h => ⟨trivial, h⟩) (fun _ _ _ _ _ _ _ h => h)
theorem zyprogram_V (h1 : 1 ≤ r) (h2 : r ≤ 4) (h3 : 1 ≤ c) (h4 : c ≤ 5) (hen : zG zxMeta 270 = some en) (hme : zG zMeth 270 = some me) : zyHc l (zymr r c) en me 4 3 zyΦu zyΨv := zyHc_mono (zyHc_cV (zyrefB h1 h2 h3 h4 40 (by decide) en me hen hme) (Φa := fun _ => True) rfl zyag3 zypre0 (cd := 73786976277658337314) ⟨rfl, by decide⟩ rfl rfl) (fun _ _ _ _ h => ⟨trivial, h⟩) (fun _ _ _ _ _ _ _ h => h)
theorem zystick_V (h1 : 1 ≤ r) (h2 : r ≤ 4) (h3 : 1 ≤ c) (h4 : c ≤ 5) (hen : zG zxMeta 271 = some en) (hme : zG zMeth 271 = some me) : zyHc l (zymr r c) en me 4 2 zyΦu zyΨv := zyHc_mono (zyHc_cV (zyrefB h1 h2 h3 h4 41 (by decide) en me hen hme) (Φa := fun _ => True) rfl zyag2 zypre0 (cd := 73786976277658337298) ⟨rfl, by decide⟩ rfl rfl) (fun _ _ _ _ h => ⟨trivial, h⟩) (fun _ _ _ _ _ _ _ h => h)
theorem zyfree_V (h1 : 1 ≤ r) (h2 : r ≤ 4) (h3 : 1 ≤ c) (h4 : c ≤ 5) (hen : zG zxMeta 272 = some en) (hme : zG zMeth 272 = some me) : zyHc l (zymr r c) en me 5 2 (fun xs E => zyBo xs ∧ zyΦu xs E) zyΨv := zyHc_cV (zyrefB h1 h2 h3 h4 42 (by decide) en me hen hme) (Φa := zyBo) rfl zyagb zypre0 (cd := 34359738362) ⟨rfl, by decide⟩ rfl rfl
theorem zywish_V (h1 : 1 ≤ r) (h2 : r ≤ 4) (h3 : 1 ≤ c) (h4 : c ≤ 5) (hen : zG zxMeta 277 = some en) (hme : zG zMeth 277 = some me) : zyHc l (zymr r c) en me 3 2 zyΦu zyΨv := zyHc_mono (zyHc_cV (zyrefB h1 h2 h3 h4 43 (by decide) en me hen hme) (Φa := fun _ => True) rfl zyag2 zypre0 (cd := (zyS1 r c)) ⟨rfl, zyS1m⟩ rfl rfl) (fun _ _ _ _ h => ⟨trivial, h⟩) (fun _ _ _ _ _ _ _ h => h)
theorem zyout_V (h1 : 1 ≤ r) (h2 : r ≤ 4) (h3 : 1 ≤ c) (h4 : c ≤ 5) (hen : zG zxMeta 339 = some en) (hme : zG zMeth 339 = some me) : zyHc l (zymr r c) en me 2 1 zyΦu zyΨv := zyHc_mono (zyHc_cV (zyrefB h1 h2 h3 h4 65 (by decide) en me hen hme) (Φa := fun _ => True) rfl zyag1 zypre0 (cd := 34359738362) ⟨rfl, by decide⟩ rfl rfl) (fun _ _ _ _ h => ⟨trivial, h⟩) (fun _ _ _ _ _ _ _ h => h)
theorem zymap_V (h1 : 1 ≤ r) (h2 : r ≤ 4) (h3 : 1 ≤ c) (h4 : c ≤ 5) (hen : zG zxMeta 282 = some en) (hme : zG zMeth 282 = some me) : zyHc l (zymr r c) en me 9 2 zyΦu zyΨv := zyHc_mono (zyHc_cV (zyrefB h1 h2 h3 h4 44 (by decide) en me hen hme) (Φa := fun _ => True) rfl zyag2 zypre0 (cd := (zyS1 r c)) ⟨rfl, zyS1m⟩ rfl rfl) (fun _ _ _ _ h => ⟨trivial, h⟩) (fun _ _ _ _ _ _ _ h => h)
theorem zyride_V (h1 : 1 ≤ r) (h2 : r ≤ 4) (h3 : 1 ≤ c) (h4 : c ≤ 5) (hen : zG zxMeta 283 = some en) (hme : zG zMeth 283 = some me) : zyHc l (zymr r c) en me 9 3 zyΦu zyΨv := zyHc_mono (zyHc_cV (zyrefB h1 h2 h3 h4 45 (by decide) en me hen hme) (Φa := fun _ => True) rfl zyag3 zypre0 (cd := (zyS1 r c)) ⟨rfl, zyS1m⟩ rfl rfl) (fun _ _ _ _ h => ⟨trivial, h⟩) (fun _ _ _ _ _ _ _ h => h)
theorem zyround_V (h1 : 1 ≤ r) (h2 : r ≤ 4) (h3 : 1 ≤ c) (h4 : c ≤ 5) (hen : zG zxMeta 284 = some en) (hme : zG zMeth 284 = some me) : zyHc l (zymr r c) en me 15 1 zyΦu zyΨv := zyHc_mono (zyHc_cV (zyrefB h1 h2 h3 h4 46 (by decide) en me hen hme) (Φa := fun _ => True) rfl zyag1 zypre0 (cd := (zyS1 r c)) ⟨rfl, zyS1m⟩ rfl rfl) (fun _ _ _ _ h => ⟨trivial, h⟩) (fun _ _ _ _ _ _ _ h => h)
theorem zytrack_V (h1 : 1 ≤ r) (h2 : r ≤ 4) (h3 : 1 ≤ c) (h4 : c ≤ 5) (hen : zG zxMeta 287 = some en) (hme : zG zMeth 287 = some me) : zyHc l (zymr r c) en me 18 2 zyΦu zyΨv := zyHc_mono (zyHc_cV (zyrefB h1 h2 h3 h4 48 (by decide) en me hen hme) (Φa := fun _ => True) rfl zyag2 zypre0 (cd := 34359738362) ⟨rfl, by decide⟩ rfl rfl) (fun _ _ _ _ h => ⟨trivial, h⟩) (fun _ _ _ _ _ _ _ h => h)
theorem zytracks_V (h1 : 1 ≤ r) (h2 : r ≤ 4) (h3 : 1 ≤ c) (h4 : c ≤ 5) (hen : zG zxMeta 288 = some en) (hme : zG zMeth 288 = some me) : zyHc l (zymr r c) en me 92 1 zyΦu zyΨv := zyHc_mono (zyHc_cV (zyrefB h1 h2 h3 h4 49 (by decide) en me hen hme) (Φa := fun _ => True) rfl zyag1 zypre0 (cd := 34359738362) ⟨rfl, by decide⟩ rfl rfl) (fun _ _ _ _ h => ⟨trivial, h⟩) (fun _ _ _ _ _ _ _ h => h)
theorem zyofLength_V (h1 : 1 ≤ r) (h2 : r ≤ 4) (h3 : 1 ≤ c) (h4 : c ≤ 5) (hen : zG zxMeta 289 = some en) (hme : zG zMeth 289 = some me) : zyHc l (zymr r c) en me 16 1 zyΦu zyΨv := zyHc_mono (zyHc_cV (zyrefB h1 h2 h3 h4 50 (by decide) en me hen hme) (Φa := fun _ => True) rfl zyag1 zypre0 (cd := 34359738362) ⟨rfl, by decide⟩ rfl rfl) (fun _ _ _ _ h => ⟨trivial, h⟩) (fun _ _ _ _ _ _ _ h => h)
theorem zymeets_V (h1 : 1 ≤ r) (h2 : r ≤ 4) (h3 : 1 ≤ c) (h4 : c ≤ 5) (hen : zG zxMeta 291 = some en) (hme : zG zMeth 291 = some me) : zyHc l (zymr r c) en me 15 3 zyΦu zyΨv := zyHc_mono (zyHc_cV (zyrefB h1 h2 h3 h4 51 (by decide) en me hen hme) (Φa := fun _ => True) rfl zyag3 zypre0 (cd := 34359738362) ⟨rfl, by decide⟩ rfl rfl) (fun _ _ _ _ h => ⟨trivial, h⟩) (fun _ _ _ _ _ _ _ h => h)
theorem zycrash_V (h1 : 1 ≤ r) (h2 : r ≤ 4) (h3 : 1 ≤ c) (h4 : c ≤ 5) (hen : zG zxMeta 292 = some en) (hme : zG zMeth 292 = some me) : zyHc l (zymr r c) en me 15 1 zyΦu zyΨv := zyHc_mono (zyHc_cV (zyrefB h1 h2 h3 h4 52 (by decide) en me hen hme) (Φa := fun _ => True) rfl zyag1 zypreT (cd := 34359738362) ⟨rfl, by decide⟩ rfl rfl) (fun _ _ _ _ h => ⟨trivial, h⟩) (fun _ _ _ _ _ _ _ h => h)
theorem zyrepeat_V (h1 : 1 ≤ r) (h2 : r ≤ 4) (h3 : 1 ≤ c) (h4 : c ≤ 5) (hen : zG zxMeta 293 = some en) (hme : zG zMeth 293 = some me) : zyHc l (zymr r c) en me 92 0 zyΦu zyΨv := zyHc_mono (zyHc_cV (zyrefB h1 h2 h3 h4 53 (by decide) en me hen hme) (Φa := fun _ => True) rfl zyag0 zypreT (cd := 34359738362) ⟨rfl, by decide⟩ rfl rfl) (fun _ _ _ _ h => ⟨trivial, h⟩) (fun _ _ _ _ _ _ _ h => h)
theorem zylaid_V (h1 : 1 ≤ r) (h2 : r ≤ 4) (h3 : 1 ≤ c) (h4 : c ≤ 5) (hen : zG zxMeta 294 = some en) (hme : zG zMeth 294 = some me) : zyHc l (zymr r c) en me 15 1 zyΦu zyΨv := zyHc_mono (zyHc_cV (zyrefB h1 h2 h3 h4 54 (by decide) en me hen hme) (Φa := fun _ => True) rfl zyag1 zypre0 (cd := (zyS1 r c)) ⟨rfl, zyS1m⟩ rfl rfl) (fun _ _ _ _ h => ⟨trivial, h⟩) (fun _ _ _ _ _ _ _ h => h)
theorem zyletter_V (h1 : 1 ≤ r) (h2 : r ≤ 4) (h3 : 1 ≤ c) (h4 : c ≤ 5) (hen : zG zxMeta 259 = some en) (hme : zG zMeth 259 = some me) : zyHc l (zymr r c) en me 2 1 zyΦu zyΨv := zyHc_mono (zyHc_cV (zyrefB h1 h2 h3 h4 27 (by decide) en me hen hme) (Φa := fun _ => True) rfl zyag1 zypre0 (cd := 73786976071499907130) ⟨rfl, by decide⟩ rfl rfl) (fun _ _ _ _ h => ⟨trivial, h⟩) (fun _ _ _ _ _ _ _ h => h)
theorem zywished_V (h1 : 1 ≤ r) (h2 : r ≤ 4) (h3 : 1 ≤ c) (h4 : c ≤ 5) (hen : zG zxMeta 260 = some en) (hme : zG zMeth 260 = some me) : zyHc l (zymr r c) en me 2 1 zyΦu zyΨv := zyHc_mono (zyHc_cV (zyrefB h1 h2 h3 h4 28 (by decide) en me hen hme) (Φa := fun _ => True) rfl zyag1 zypre0 (cd := 73786976071499907130) ⟨rfl, by decide⟩ rfl rfl) (fun _ _ _ _ h => ⟨trivial, h⟩) (fun _ _ _ _ _ _ _ h => h)
theorem zyends_V (h1 : 1 ≤ r) (h2 : r ≤ 4) (h3 : 1 ≤ c) (h4 : c ≤ 5) (hen : zG zxMeta 255 = some en) (hme : zG zMeth 255 = some me) : zyHc l (zymr r c) en me 3 1 zyΦu zyΨv := zyHc_mono (zyHc_cV (zyrefB h1 h2 h3 h4 24 (by decide) en me hen hme) (Φa := fun _ => True) rfl zyag1 zypre0 (cd := 34359738362) ⟨rfl, by decide⟩ rfl rfl) (fun _ _ _ _ h => ⟨trivial, h⟩) (fun _ _ _ _ _ _ _ h => h)
theorem zythread_V (h1 : 1 ≤ r) (h2 : r ≤ 4) (h3 : 1 ≤ c) (h4 : c ≤ 5) (hen : zG zxMeta 257 = some en) (hme : zG zMeth 257 = some me) : zyHc l (zymr r c) en me 3 2 zyΦu zyΨv := zyHc_mono (zyHc_cV (zyrefB h1 h2 h3 h4 25 (by decide) en me hen hme) (Φa := fun _ => True) rfl zyag2 zypre0 (cd := 34359738362) ⟨rfl, by decide⟩ rfl rfl) (fun _ _ _ _ h => ⟨trivial, h⟩) (fun _ _ _ _ _ _ _ h => h)
theorem zytimes_V (h1 : 1 ≤ r) (h2 : r ≤ 4) (h3 : 1 ≤ c) (h4 : c ≤ 5) (hen : zG zxMeta 258 = some en) (hme : zG zMeth 258 = some me) : zyHc l (zymr r c) en me 10 1 zyΦu zyΨv := zyHc_mono (zyHc_cV (zyrefB h1 h2 h3 h4 26 (by decide) en me hen hme) (Φa := fun _ => True) rfl zyag1 zypre0 (cd := 73786976277658337290) ⟨rfl, by decide⟩ rfl rfl) (fun _ _ _ _ h => ⟨trivial, h⟩) (fun _ _ _ _ _ _ _ h => h)
theorem zysearch_V (h1 : 1 ≤ r) (h2 : r ≤ 4) (h3 : 1 ≤ c) (h4 : c ≤ 5) (hen : zG zxMeta 299 = some en) (hme : zG zMeth 299 = some me) : zyHc l (zymr r c) en me 11 1 zyΦu zyΨv := zyHc_mono (zyHc_cV (zyrefB h1 h2 h3 h4 55 (by decide) en me hen hme) (Φa := fun _ => True) rfl zyag1 zypre0 (cd := 73786976294838206450) ⟨rfl, by decide⟩ rfl rfl) (fun _ _ _ _ h => ⟨trivial, h⟩) (fun _ _ _ _ _ _ _ h => h)
theorem zyrefusal_V (h1 : 1 ≤ r) (h2 : r ≤ 4) (h3 : 1 ≤ c) (h4 : c ≤ 5) (hen : zG zxMeta 300 = some en) (hme : zG zMeth 300 = some me) : zyHc l (zymr r c) en me 11 3 zyΦu zyΨv := zyHc_mono (zyHc_cV (zyrefB h1 h2 h3 h4 56 (by decide) en me hen hme) (Φa := fun _ => True) rfl zyag3 zypre0 (cd := 34359738362) ⟨rfl, by decide⟩ rfl rfl) (fun _ _ _ _ h => ⟨trivial, h⟩) (fun _ _ _ _ _ _ _ h => h)
theorem zyrefused_V (h1 : 1 ≤ r) (h2 : r ≤ 4) (h3 : 1 ≤ c) (h4 : c ≤ 5) (hen : zG zxMeta 301 = some en) (hme : zG zMeth 301 = some me) : zyHc l (zymr r c) en me 11 2 zyΦu zyΨv := zyHc_mono (zyHc_cV (zyrefB h1 h2 h3 h4 57 (by decide) en me hen hme) (Φa := fun _ => True) rfl zyag2 zypre0 (cd := 34359738362) ⟨rfl, by decide⟩ rfl rfl) (fun _ _ _ _ h => ⟨trivial, h⟩) (fun _ _ _ _ _ _ _ h => h)
theorem zyseen_V (h1 : 1 ≤ r) (h2 : r ≤ 4) (h3 : 1 ≤ c) (h4 : c ≤ 5) (hen : zG zxMeta 302 = some en) (hme : zG zMeth 302 = some me) : zyHc l (zymr r c) en me 3 3 zyΦu zyΨv := zyHc_mono (zyHc_cV (zyrefB h1 h2 h3 h4 58 (by decide) en me hen hme) (Φa := fun _ => True) rfl zyag3 zypre0 (cd := 73786976277658337378) ⟨rfl, by decide⟩ rfl rfl) (fun _ _ _ _ h => ⟨trivial, h⟩) (fun _ _ _ _ _ _ _ h => h)
theorem zyforget_V (h1 : 1 ≤ r) (h2 : r ≤ 4) (h3 : 1 ≤ c) (h4 : c ≤ 5) (hen : zG zxMeta 303 = some en) (hme : zG zMeth 303 = some me) : zyHc l (zymr r c) en me 2 0 zyΦu zyΨv := zyHc_mono (zyHc_cV (zyrefB h1 h2 h3 h4 59 (by decide) en me hen hme) (Φa := fun _ => True) rfl zyag0 zypre0 (cd := 73786976312018075746) ⟨rfl, by decide⟩ rfl rfl) (fun _ _ _ _ h => ⟨trivial, h⟩) (fun _ _ _ _ _ _ _ h => h)
theorem zyname_V (h1 : 1 ≤ r) (h2 : r ≤ 4) (h3 : 1 ≤ c) (h4 : c ≤ 5) (hen : zG zxMeta 309 = some en) (hme : zG zMeth 309 = some me) : zyHc l (zymr r c) en me 15 1 zyΦu zyΨv := zyHc_mono (zyHc_cV (zyrefB h1 h2 h3 h4 62 (by decide) en me hen hme) (Φa := fun _ => True) rfl zyag1 zypre0 (cd := 34359738362) ⟨rfl, by decide⟩ rfl rfl) (fun _ _ _ _ h => ⟨trivial, h⟩) (fun _ _ _ _ _ _ _ h => h)
theorem zynamed_V (h1 : 1 ≤ r) (h2 : r ≤ 4) (h3 : 1 ≤ c) (h4 : c ≤ 5) (hen : zG zxMeta 310 = some en) (hme : zG zMeth 310 = some me) : zyHc l (zymr r c) en me 15 2 zyΦu zyΨv := zyHc_mono (zyHc_cV (zyrefB h1 h2 h3 h4 63 (by decide) en me hen hme) (Φa := fun _ => True) rfl zyag2 zypre0 (cd := 34359738362) ⟨rfl, by decide⟩ rfl rfl) (fun _ _ _ _ h => ⟨trivial, h⟩) (fun _ _ _ _ _ _ _ h => h)
theorem zybraid_V (h1 : 1 ≤ r) (h2 : r ≤ 4) (h3 : 1 ≤ c) (h4 : c ≤ 5) (hen : zG zxMeta 253 = some en) (hme : zG zMeth 253 = some me) : zyHc l (zymr r c) en me 9 1 zyΦu zyΨv := by
  refine zyHc_mono (zybraid_H h1 h2 h3 h4 hen hme) (fun xs E _ _ h => h.1) (fun xs E E2 vo _ _ h hΨ => ?_)
  obtain ⟨k1, k4⟩ := hΨ
  exact ⟨⟨zyKu_3 (zJ1_bd k1 h.1) (k1 74 33 (by omega) (by omega)) (k1 75 3 (by omega) (by omega)), k4⟩, ⟨fun k => k1 84 k (by omega) (by omega), fun k => k1 85 k (by omega) (by omega), fun k q1 q2 => k1 74 k (by omega) (by omega)⟩⟩
end YHVW
/-! print -/
theorem zyprint_V {l : Launch} {r c : Nat} {en : zEn} {me : zMe} (h1 : 1 ≤ r) (h2 : r ≤ 4) (h3 : 1 ≤ c) (h4 : c ≤ 5) (hen : zG zxMeta 338 = some en) (hme : zG zMeth 338 = some me) : zyHc l (zymr r c) en me 10 0 zyΦu zyΨv := by
  have hc := zyCon_up h1 h2 h3 h4 (zyrefG (l := l) zyJf_r 4 (by decide) en me hen hme) rfl (fun k hk => by
    cases hq : zyin (zyIg zyig 4).2.1.2.1 75 k with
    | false => rfl
    | true =>
      obtain ⟨p0, g1, g2, g3, g4⟩ := zyin_iff.mp hq
      have g1 : p0 ∈ [(74, 2, 3), (74, 47, 48), (86, 0, 899), (87, 0, 899)] := g1
      simp only [List.mem_cons, List.not_mem_nil, or_false] at g1
      rcases g1 with rfl | rfl | rfl | rfl <;> exact absurd g2 (by decide))
  exact zyHc_mono (zyHc_cV hc (Φa := fun _ => True) rfl zyag0 zypre0 (cd := 73786976277658344482) ⟨rfl, by decide⟩ rfl rfl) (fun _ _ _ _ h => ⟨trivial, h⟩) (fun _ _ _ _ _ _ _ h => h)
