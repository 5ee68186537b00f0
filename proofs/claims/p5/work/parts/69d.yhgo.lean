/-! from a stop to the next phase: bounds by what is awaited -/
noncomputable def zyenv1 (Bd : List (Nat × Nat × Nat)) (c lo hi : Nat) : Bool := zif (zand (Nat.beq lo 0) (Nat.beq hi 4294967295)) true (List.rec (motive := fun _ => Bool) (zand (Nat.beq (Nat.mod c 8) 0) (zand (Nat.ble lo (Nat.mod (Nat.add (Nat.div c 8) 2147483648) 4294967296)) (Nat.ble (Nat.mod (Nat.add (Nat.div c 8) 2147483648) 4294967296) hi))) (fun b _ ih => zif (zand (Nat.beq b.1 c) (zand (Nat.ble lo b.2.1) (Nat.ble b.2.2 hi))) true ih) Bd)
theorem zyenv1_iff {ρ : Nat → Int32} {c lo hi : Nat} : ∀ {Bd : List (Nat × Nat × Nat)}, (∀ b ∈ Bd, b.2.1 ≤ zB (zyw ρ b.1) ∧ zB (zyw ρ b.1) ≤ b.2.2) → zyenv1 Bd c lo hi = true → lo ≤ zB (zyw ρ c) ∧ zB (zyw ρ c) ≤ hi := by
  intro Bd hB h
  rcases zif_iff h with ⟨h1, -⟩ | ⟨-, h⟩
  · obtain ⟨q1, q2⟩ := zand_iff h1
    rw [zbeqT q1, zbeqT q2]
    exact zyfull _
  induction Bd with
  | nil =>
    have h : zand (Nat.beq (Nat.mod c 8) 0) (zand (Nat.ble lo (Nat.mod (Nat.add (Nat.div c 8) 2147483648) 4294967296)) (Nat.ble (Nat.mod (Nat.add (Nat.div c 8) 2147483648) 4294967296) hi)) = true := h
    obtain ⟨q1, q2⟩ := zand_iff h
    obtain ⟨q2, q3⟩ := zand_iff q2
    have q1 : c % 8 = 0 := zbeqT q1
    have q2 : lo ≤ (c / 8 + 2147483648) % 4294967296 := zbleT q2
    have q3 : (c / 8 + 2147483648) % 4294967296 ≤ hi := zbleT q3
    have e : zyw ρ c = Int32.ofNat (c / 8) := by
      unfold zyw
      rw [if_neg (by omega)]
    rw [e, zB_of, zb_def]
    omega
  | cons b t ih =>
    have h : zif (zand (Nat.beq b.1 c) (zand (Nat.ble lo b.2.1) (Nat.ble b.2.2 hi))) true (List.rec (motive := fun _ => Bool) (zand (Nat.beq (Nat.mod c 8) 0) (zand (Nat.ble lo (Nat.mod (Nat.add (Nat.div c 8) 2147483648) 4294967296)) (Nat.ble (Nat.mod (Nat.add (Nat.div c 8) 2147483648) 4294967296) hi))) (fun b _ ih => zif (zand (Nat.beq b.1 c) (zand (Nat.ble lo b.2.1) (Nat.ble b.2.2 hi))) true ih) t) = true := h
    rcases zif_iff h with ⟨h1, -⟩ | ⟨-, h⟩
    · obtain ⟨q1, q2⟩ := zand_iff h1
      obtain ⟨q2, q3⟩ := zand_iff q2
      have q2 := zbleT q2
      have q3 := zbleT q3
      have := hB b List.mem_cons_self
      rw [zbeqT q1] at this
      omega
    · refine ih (fun b2 hb2 => hB b2 (List.mem_cons_of_mem _ hb2)) ?_ h
      unfold zyenv1
      rw [h]
      cases zand (Nat.beq lo 0) (Nat.beq hi 4294967295) <;> rfl
noncomputable def zyenvB (Bd : List (Nat × Nat × Nat)) (cs : List Nat) (env : List (Nat × Nat)) : Nat → Bool := List.rec (motive := fun _ => Nat → Bool) (fun _ => true) (fun p _ ih i => zand (zyenv1 Bd (zyag cs i) p.1 p.2) (ih (Nat.succ i))) env
theorem zyenvB_iff {ρ : Nat → Int32} {Bd : List (Nat × Nat × Nat)} {cs : List Nat} (hB : ∀ b ∈ Bd, b.2.1 ≤ zB (zyw ρ b.1) ∧ zB (zyw ρ b.1) ≤ b.2.2) : ∀ {env : List (Nat × Nat)} {i : Nat}, zyenvB Bd cs env i = true → ∀ (k : Nat) (p : Nat × Nat), env[k]? = some p → p.1 ≤ zB (zyw ρ (zyag cs (i + k))) ∧ zB (zyw ρ (zyag cs (i + k))) ≤ p.2 := by
  intro env
  induction env with
  | nil => intro i _ k p hp; simp at hp
  | cons a t ih =>
    intro i h k p hp
    have h : zand (zyenv1 Bd (zyag cs i) a.1 a.2) (zyenvB Bd cs t (i + 1)) = true := h
    obtain ⟨g1, g2⟩ := zand_iff h
    cases k with
    | zero =>
      have hp : some a = some p := hp
      cases hp
      exact zyenv1_iff hB g1
    | succ k =>
      rw [List.getElem?_cons_succ] at hp
      have := ih g2 k p hp
      rwa [show i + 1 + k = i + (k + 1) by omega] at this
section YGO2
variable {l : Launch} {mi : zyB} {en : zEn} {dep : Nat} {B : zCx} {s : State} {ι : Type} {φ : ι → zyPh} {Inv : ι → (Nat → Int32) → zyEm → Prop} {Mu : ι → (Nat → Int32) → zyEm → Nat} {M : Nat} {Wg : zyWt} {x : zyXp} {ρ2 : Nat → Int32} {N : Nat} {H : Heap} {locs : List Loc} {lsB : Array Slot} {stA : List Value}
theorem zyGoB {nL : Nat} (hIH : zyIH mi nL B s φ Inv Mu M Wg) (hAt : zyAt mi B s nL x ρ2 N H locs lsB stA) (hB : ∀ b ∈ x.2.2.2.2.1, b.2.1 ≤ zB (zyw ρ2 b.1) ∧ zB (zyw ρ2 b.1) ≤ b.2.2) (i2 : ι) (cs : List Nat) (hpc : x.1 = (φ i2).1) (hchk : zand (zygoB nL x.2.1 (φ i2) cs) (zand (zynil x.2.2.1) (zynil (φ i2).2.2.2.2)) = true) (henv : zyenvB x.2.2.2.2.1 cs (φ i2).2.2.1 0 = true) (hkc : (φ i2).2.2.2.1 = [])
    (hInv : Inv i2 (fun k => zyw ρ2 (zyag cs k)) (zyEl mi B H)) (hMu : Mu i2 (fun k => zyw ρ2 (zyag cs k)) (zyEl mi B H) < M) : Wg H locs x.1 lsB stA := by
  refine zyGo hIH hAt i2 cs hpc hchk hkc (fun k p hp => ?_) hInv hMu
  have := zyenvB_iff hB henv k p hp
  rwa [Nat.zero_add] at this
/-- a call that answers nothing -/
theorem zyCa0 (hRu : zyRu l mi en dep B s Wg) (hIH : zyIH mi en.2.2.1 B s φ Inv Mu M Wg) (hAt : zyAt mi B s en.2.2.1 x ρ2 N H locs lsB stA) (hB : ∀ b ∈ x.2.2.2.2.1, b.2.1 ≤ zB (zyw ρ2 b.1) ∧ zB (zyw ρ2 b.1) ≤ b.2.2) {en2 : zEn} {me2 : zMe} {dep2 na2 : Nat} {Φ2 : List Int32 → zyEm → Prop} {Ψ2 : List Int32 → zyEm → zyEm → Option Value → Prop} (hHc : zyHc l mi en2 me2 dep2 na2 Φ2 Ψ2) {ix ax : Nat} (hrow : en.1 x.1 = (.invokevirtual ix, x.1 + 3, ax)) (hkd : zG zKd (ax / 16) = some 0) (hen2 : zG zxMeta (ax / 16) = some en2) (hme2 : zG zMeth (ax / 16) = some me2) (hsh : en2.2.2.2.1 = 11 ∧ en2.2.1 = na2 + 1 ∧ en2.2.2.2.2.2.1 = 0 ∧ en2.2.2.2.2.2.2.1 = 0) (hdp : dep2 + 1 ≤ dep) (cs2 : List Nat) (hcs2 : x.2.2.1 = cs2.reverse ++ [595]) (hk : ∀ c ∈ cs2, c % 8 ≤ 1) (hlen : cs2.length = na2)
    (i2 : ι) (cs : List Nat) (hpc : (φ i2).1 = x.1 + 3) (hchk : zand (zygoB en.2.2.1 x.2.1 (φ i2) cs) (zynil (φ i2).2.2.2.2) = true) (henv : zyenvB x.2.2.2.2.1 cs (φ i2).2.2.1 0 = true) (hkc : (φ i2).2.2.2.1 = [])
    (hΦ : Φ2 (cs2.map (zyw ρ2)) (zyEl mi B H)) (kk : ∀ (E3 : zyEm) (vo : Option Value), zyTy mi E3 → Ψ2 (cs2.map (zyw ρ2)) (zyEl mi B H) E3 vo → vo = none ∧ Inv i2 (fun k => zyw ρ2 (zyag cs k)) E3 ∧ Mu i2 (fun k => zyw ρ2 (zyag cs k)) E3 < M) : Wg H locs x.1 lsB stA := by
  obtain ⟨c1, c2⟩ := zand_iff hchk
  refine zyCa hRu hIH hAt hrow hkd hen2 hme2 hsh hHc hdp cs2 [] hcs2 hk ⟨Nat.zero_le _, fun c hc => by cases hc⟩ hlen hΦ (fun H3 vo hT3 hΨ => ?_)
  obtain ⟨q1, q2, q3⟩ := kk _ vo hT3 hΨ
  refine ⟨i2, _, cs, hpc, c1, fun _ _ => rfl, (fun k p hp => ?_), hkc, ?_, q2, q3⟩
  · have := zyenvB_iff hB henv k p hp
    rwa [Nat.zero_add] at this
  · rw [q1]
    cases hq : (φ i2).2.2.2.2 with
    | nil => exact zySt_s0
    | cons a t => rw [hq] at c2; cases c2
/-- a call that answers an int: the symbol k0 -/
theorem zyCa1 (hRu : zyRu l mi en dep B s Wg) (hIH : zyIH mi en.2.2.1 B s φ Inv Mu M Wg) (hAt : zyAt mi B s en.2.2.1 x ρ2 N H locs lsB stA) (hB : ∀ b ∈ x.2.2.2.2.1, b.2.1 ≤ zB (zyw ρ2 b.1) ∧ zB (zyw ρ2 b.1) ≤ b.2.2) {en2 : zEn} {me2 : zMe} {dep2 na2 : Nat} {Φ2 : List Int32 → zyEm → Prop} {Ψ2 : List Int32 → zyEm → zyEm → Option Value → Prop} (hHc : zyHc l mi en2 me2 dep2 na2 Φ2 Ψ2) {ix ax : Nat} (hrow : en.1 x.1 = (.invokevirtual ix, x.1 + 3, ax)) (hkd : zG zKd (ax / 16) = some 0) (hen2 : zG zxMeta (ax / 16) = some en2) (hme2 : zG zMeth (ax / 16) = some me2) (hsh : en2.2.2.2.1 = 11 ∧ en2.2.1 = na2 + 1 ∧ en2.2.2.2.2.2.1 = 0 ∧ en2.2.2.2.2.2.2.1 = 0) (hdp : dep2 + 1 ≤ dep) (cs2 : List Nat) (hcs2 : x.2.2.1 = cs2.reverse ++ [595]) (hk : ∀ c ∈ cs2, c % 8 ≤ 1) (hlen : cs2.length = na2)
    (i2 : ι) (cs : List Nat) (env : List (Nat × Nat)) (lo hi : Nat) (he : (φ i2).2.2.1 = env ++ [(lo, hi)]) (hnl : en.2.2.1 ≤ zyln env) (hpc : (φ i2).1 = x.1 + 3) (hchk : zygoB en.2.2.1 x.2.1 (φ i2) cs = true) (henv : zyenvB x.2.2.2.2.1 cs env 0 = true) (hkc : (φ i2).2.2.2.1 = []) (hst : (φ i2).2.2.2.2 = [zysym (zyln env)])
    (hΦ : Φ2 (cs2.map (zyw ρ2)) (zyEl mi B H)) (kk : ∀ (E3 : zyEm) (vo : Option Value), zyTy mi E3 → Ψ2 (cs2.map (zyw ρ2)) (zyEl mi B H) E3 vo → ∃ z : Int32, vo = some (.int z) ∧ lo ≤ zB z ∧ zB z ≤ hi ∧ Inv i2 (zyρi (fun k => zyw ρ2 (zyag cs k)) (zyln env) z) E3 ∧ Mu i2 (zyρi (fun k => zyw ρ2 (zyag cs k)) (zyln env) z) E3 < M) : Wg H locs x.1 lsB stA := by
  refine zyCa hRu hIH hAt hrow hkd hen2 hme2 hsh hHc hdp cs2 [] hcs2 hk ⟨Nat.zero_le _, fun c hc => by cases hc⟩ hlen hΦ (fun H3 vo hT3 hΨ => ?_)
  obtain ⟨z, q1, q2, q3, q4, q5⟩ := kk _ vo hT3 hΨ
  refine ⟨i2, zyρi (fun k => zyw ρ2 (zyag cs k)) (zyln env) z, cs, hpc, hchk, fun i hi => zyρi_n (by omega), ?_, hkc, ?_, q4, q5⟩
  · rw [he]
    refine zEnv_i (zyln_eq env) (fun k p hp => ?_) ⟨q2, q3⟩
    have := zyenvB_iff hB henv k p hp
    rwa [Nat.zero_add] at this
  · rw [q1, hst]
    refine zySt_sc ?_ zyρi_e zySt_s0
    rw [he, List.length_append, zyln_eq, List.length_singleton]
    omega
end YGO2
