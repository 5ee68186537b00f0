/-! A STEP IS TRIED -/
section YGO9
variable {l : Launch} {mi : zyB} {en : zEn} {dep : Nat} {B : zCx} {s : State} {ι : Type} {φ : ι → zyPh} {Inv : ι → (Nat → Int32) → zyEm → Prop} {Mu : ι → (Nat → Int32) → zyEm → Nat} {M : Nat} {Wg : zyWt} {x : zyXp} {ρ2 : Nat → Int32} {N : Nat} {H : Heap} {locs : List Loc} {lsB : Array Slot} {stA : List Value}
/-- a call that answers an int, with any rest of the stack -/
theorem zyCaV (hRu : zyRu l mi en dep B s Wg) (hIH : zyIH mi en.2.2.1 B s φ Inv Mu M Wg) (hAt : zyAt mi B s en.2.2.1 x ρ2 N H locs lsB stA) (hB : ∀ b ∈ x.2.2.2.2.1, b.2.1 ≤ zB (zyw ρ2 b.1) ∧ zB (zyw ρ2 b.1) ≤ b.2.2) {en2 : zEn} {me2 : zMe} {dep2 na2 : Nat} {Φ2 : List Int32 → zyEm → Prop} {Ψ2 : List Int32 → zyEm → zyEm → Option Value → Prop} (hHc : zyHc l mi en2 me2 dep2 na2 Φ2 Ψ2) {ix ax : Nat} (hrow : en.1 x.1 = (.invokevirtual ix, x.1 + 3, ax)) (hkd : zG zKd (ax / 16) = some 0) (hen2 : zG zxMeta (ax / 16) = some en2) (hme2 : zG zMeth (ax / 16) = some me2) (hsh : en2.2.2.2.1 = 11 ∧ en2.2.1 = na2 + 1 ∧ en2.2.2.2.2.2.1 = 0 ∧ en2.2.2.2.2.2.2.1 = 0) (hdp : dep2 + 1 ≤ dep) (cs2 cr : List Nat) (hcs2 : x.2.2.1 = cs2.reverse ++ 595 :: cr) (hk : ∀ c ∈ cs2, c % 8 ≤ 1) (hkr : zwords cr ≤ 8) (hlen : cs2.length = na2)
    (i2 : ι) (cs : List Nat) (env : List (Nat × Nat)) (lo hi : Nat) (he : (φ i2).2.2.1 = env ++ [(lo, hi)]) (hnl : en.2.2.1 ≤ zyln env) (hpc : (φ i2).1 = x.1 + 3) (hchk : zygoB en.2.2.1 x.2.1 (φ i2) cs = true) (henv : zyenvB x.2.2.2.2.1 cs env 0 = true) (hkc : (φ i2).2.2.2.1 = []) (st' : List Nat) (hst : (φ i2).2.2.2.2 = zysym (zyln env) :: st') (hT : zygoT cs (zyln env) st' cr = true)
    (hΦ : Φ2 (cs2.map (zyw ρ2)) (zyEl mi B H)) (kk : ∀ (E3 : zyEm) (vo : Option Value), zyTy mi E3 → Ψ2 (cs2.map (zyw ρ2)) (zyEl mi B H) E3 vo → ∃ z : Int32, vo = some (.int z) ∧ lo ≤ zB z ∧ zB z ≤ hi ∧ Inv i2 (zyρi (fun k => zyw ρ2 (zyag cs k)) (zyln env) z) E3 ∧ Mu i2 (zyρi (fun k => zyw ρ2 (zyag cs k)) (zyln env) z) E3 < M) : Wg H locs x.1 lsB stA := by
  have hs := hAt.2.2.2.2.2
  rw [hcs2] at hs
  obtain ⟨q1, q2, rfl, g1, g2⟩ := zySt_split hs
  have e1 := zySt_ints (fun c hc => hk c (List.mem_reverse.mp hc)) g1
  obtain ⟨b, u, rfl, g3, g4⟩ := zySt_c g2
  have e3 : b = .ref (zad B 74) := zyv_3 (v := 595) g3 (by decide)
  have e4 : q1 ++ b :: u = (zyAr B (cs2.map (zyw ρ2))).reverse ++ u := by
    rw [e1, e3]
    unfold zyAr
    rw [List.reverse_cons, List.map_reverse, List.map_reverse, List.append_assoc]
    rfl
  rw [e4]
  refine hRu.1 x.1 ix ax en2 me2 dep2 na2 Φ2 Ψ2 _ u H locs lsB (by rw [zySt_words g4]; exact hkr) hrow hkd hen2 hme2 hsh.1 hsh.2.1 hsh.2.2.1 hsh.2.2.2 hHc hdp (by rw [List.length_map]; exact hlen) hAt.1 hAt.2.2.1 hAt.2.2.2.1.1 hΦ (fun H3 locs3 vo hI3 hO3 hlo3 hΨ => ?_)
  obtain ⟨z, k1, k2, k3, k4, k5⟩ := kk _ vo (zyTy_of hI3) hΨ
  have hl : (φ i2).2.2.1.length = zyln env + 1 := by rw [he, List.length_append, zyln_eq, List.length_singleton]
  rw [← hpc, k1]
  refine hIH i2 _ H3 locs3 lsB _ hI3 (fun q hq => (hO3 q hq).trans (hAt.2.1 q hq)) k4 (zyAss (ρ' := zyρi (fun k => zyw ρ2 (zyag cs k)) (zyln env) z) hAt hchk (fun i hi => zyρi_n (by omega)) ?_ hlo3 ?_ (fun p hp => by rw [hkc] at hp; cases hp)) k5
  · rw [he]
    refine zEnv_i (zyln_eq env) (fun k p hp => ?_) ⟨k2, k3⟩
    have := zyenvB_iff hB henv k p hp
    rwa [Nat.zero_add] at this
  · rw [hst, hl]
    exact zySt_sc (by omega) zyρi_e (zySt_i (zygoT_iff hT g4) (by omega))
end YGO9
def zyΦs (K : Nat) (as : List Int32) (_ : zyEm) : Prop := ∃ s : Nat, s < K ∧ as = [Int32.ofNat s]
def zyΨs (K : Nat) (f : Nat → Nat) (as : List Int32) (E E2 : zyEm) (vo : Option Value) : Prop := E2 = E ∧ ∀ s : Nat, s < K → as = [Int32.ofNat s] → vo = some (.int (Int32.ofNat (f s)))
theorem zyHc_p2 {l : Launch} {mi : zyB} {en : zEn} {me : zMe} {dep K : Nat} {f : Nat → Nat} (hK8 : K ≤ 80) (h : ∀ s, s < K → zyCon l mi zyJ0 en me ([595, 8 * s], [], [8 * f s], dep, [], [])) : zyHc l mi en me dep 1 (zyΦs K) (zyΨs K f) := by
  intro B xs hx
  refine zyMet_pt (fun a s hp => ?_)
  obtain ⟨rfl, hK, hI, q, hq, rfl⟩ := hp
  have hm := h q hq B (zyAr B [Int32.ofNat q]) ⟨Or.inl ⟨Or.inr (Or.inr (Or.inr (Or.inl ⟨rfl, rfl⟩))), fun q => by omega, fun q => by omega⟩, zyv_mk rfl, trivial⟩
  refine ⟨_, _, hm, ⟨rfl, hK, hI, fun p hp => by cases hp⟩, fun o t hq2 => ?_⟩
  obtain ⟨vo, e1, hv, k1, k2, k3, k4, k5⟩ := hq2
  refine ⟨vo, e1, k1, k2, ⟨?_, fun s' hs' e => ?_⟩, k5⟩
  · funext a k
    exact k4 a k rfl
  · have e := zyOi (by omega) (by omega) (List.cons.inj e).1
    subst e
    cases vo with
    | none => exact hv.elim
    | some w =>
      have e3 := zyv_0 (show zyV (zyX0 B zyJ0) (8 * f q) w from hv) (by omega)
      rw [show 8 * f q / 8 = f q by omega] at e3
      rw [e3]
section YSL
variable {l : Launch} {r c : Nat} {en : zEn} {me : zMe}
theorem zyturnH (h1 : 1 ≤ r) (h2 : r ≤ 4) (h3 : 1 ≤ c) (h4 : c ≤ 5) (hen : zG zxMeta 204 = some en) (hme : zG zMeth 204 = some me) : zyHc l (zymr r c) en me 2 1 (zyΦs (zgNS r c)) (zyΨs (zgNS r c) (zgT c)) := zyHc_p2 (zgNS_le h2 h4) (fun s hs => zyk1_ok zyJ0_r.1 (zyAll_iff (zyAllP_iff zgrunT h1 h2 h3 h4) s hs) hen hme)
theorem zygateH (h1 : 1 ≤ r) (h2 : r ≤ 4) (h3 : 1 ≤ c) (h4 : c ≤ 5) (hen : zG zxMeta 202 = some en) (hme : zG zMeth 202 = some me) : zyHc l (zymr r c) en me 3 1 (zyΦs (zgNS r c)) (zyΨs (zgNS r c) (zgG r c)) := zyHc_p2 (zgNS_le h2 h4) (fun s hs => zyk1_ok zyJ0_r.1 (zyAll_iff (zyAllP_iff zgrunG h1 h2 h3 h4) s hs) hen hme)
theorem zyfaceH (h1 : 1 ≤ r) (h2 : r ≤ 4) (h3 : 1 ≤ c) (h4 : c ≤ 5) (hen : zG zxMeta 203 = some en) (hme : zG zMeth 203 = some me) : zyHc l (zymr r c) en me 5 1 (zyΦs (zgNS r c)) (zyΨs (zgNS r c) (zgF r c)) := zyHc_p2 (zgNS_le h2 h4) (fun s hs => zyk1_ok zyJ0_r.1 (zyAll_iff (zyAllP_iff zgrunF h1 h2 h3 h4) s hs) hen hme)
def zyΦov (K : Nat) (as : List Int32) (_ : zyEm) : Prop := ∃ (s : Nat) (y : Int32), s < K ∧ as = [Int32.ofNat s, y]
def zyΨov (K : Nat) (_ : List Int32) (E E2 : zyEm) (vo : Option Value) : Prop := E2 = E ∧ ∃ s : Nat, s < K ∧ vo = some (.int (Int32.ofNat s))
theorem zyoverH (h1 : 1 ≤ r) (h2 : r ≤ 4) (h3 : 1 ≤ c) (h4 : c ≤ 5) (hen : zG zxMeta 211 = some en) (hme : zG zMeth 211 = some me) : zyHc l (zymr r c) en me 6 2 (zyΦov (zgNS r c)) (zyΨov (zgNS r c)) := by
  intro B xs hx
  refine zyMet_pt (fun a s hp => ?_)
  obtain ⟨rfl, hK, hI, q, y, hq, rfl⟩ := hp
  have hn := zyrc20 h2 h4
  have hq' : q < 4 * (r * c) := hq
  have hm := zyover zyJ0_r h1 h2 h3 h4 hen hme (l := l) B (zyAr B [Int32.ofNat q, y]) ⟨Or.inl ⟨Or.inr (Or.inr (Or.inr (Or.inl ⟨rfl, rfl⟩))), fun q => by omega, fun q => by omega⟩, by
    rw [zyS_def]
    exact zyv_bd (by rw [zyBn (by omega)]; omega) (by rw [zyBn (by omega)]; omega) (by omega), Or.inl ⟨Or.inr (Or.inr (Or.inl ⟨by decide, y, rfl, (zyfull y).1, (zyfull y).2⟩)), fun q => absurd q (by decide), fun q => absurd q (by decide)⟩, trivial⟩
  refine ⟨_, _, hm, ⟨rfl, hK, hI, fun p hp => by cases hp⟩, fun o t hq2 => ?_⟩
  obtain ⟨vo, e1, ⟨z, ez, hz, -⟩, k1, k2, k3, k4, k5⟩ := hq2
  obtain ⟨o1, o2⟩ := zyS_iff hn hz
  refine ⟨vo, e1, k1, k2, ⟨?_, zyN1 z, o2, by rw [← o1]; exact ez⟩, k5⟩
  funext a k
  exact k4 a k rfl
end YSL
def zyΦme (K : Nat) (_ : List Int32) (E : zyEm) : Prop := ∃ m : Nat, m ≤ 8 ∧ E 75 2 = some (.int (Int32.ofNat m)) ∧ ∀ b, b < m → zth E b < K
def zyΨme (_ : List Int32) (E E2 : zyEm) (vo : Option Value) : Prop := (∀ a k, ¬ (a = 74 ∧ 16 ≤ k ∧ k ≤ 17) → E2 a k = E a k) ∧ ∃ z : Int32, vo = some (.int z) ∧ 2147483647 ≤ zB z ∧ zB z ≤ 2147483678
theorem zyfr67 {E E2 : zyEm} (h : ∀ a k, zyin [(74, 16, 17)] a k = false → E2 a k = E a k) : ∀ a k, ¬ (a = 74 ∧ 16 ≤ k ∧ k ≤ 17) → E2 a k = E a k := by
  intro a k hn
  apply h
  cases hq : zyin [(74, 16, 17)] a k with
  | false => rfl
  | true =>
    obtain ⟨p0, g1, g2, g3, g4⟩ := zyin_iff.mp hq
    rw [List.mem_singleton.mp g1] at g2 g3 g4
    exact absurd ⟨g2.symm, g3, g4⟩ hn
theorem zyme_run : zyAllP (fun r c => zyrS (zymr r c) zxi218 (218, 0, 0, 1, 0) 6 zpme (fun _ _ => []) zFme zSme zXme zRme 5) = true := by decide +kernel
theorem zymeeting {l : Launch} {r c : Nat} (h1 : 1 ≤ r) (h2 : r ≤ 4) (h3 : 1 ≤ c) (h4 : c ≤ 5) {en : zEn} {me : zMe} (hen : zG zxMeta 218 = some en) (hme : zG zMeth 218 = some me) : zyHc l (zymr r c) en me 6 0 (zyΦme (zgNS r c)) zyΨme := by
  have een : zG zxMeta 218 = some (zxi218, 1, 5, 11, 218, 0, 0, 1, 0) := rfl
  obtain ⟨me1, hme1, hOK⟩ := zall hen
  rw [hme] at hme1
  cases hme1
  rw [een] at hen
  cases hen
  have hr := zyAllP_iff zyme_run h1 h2 h3 h4
  obtain ⟨mefc, hmefc, -⟩ := zall (show zG zxMeta 203 = some (zxi203, 2, 3, 11, 203, 0, 0, 1, 0) from rfl)
  have hfc := zyfaceH (l := l) h1 h2 h3 h4 (show zG zxMeta 203 = some (zxi203, 2, 3, 11, 203, 0, 0, 1, 0) from rfl) hmefc
  obtain ⟨megt, hmegt, -⟩ := zall (show zG zxMeta 202 = some (zxi202, 2, 5, 11, 202, 0, 0, 1, 0) from rfl)
  have hgt := zygateH (l := l) h1 h2 h3 h4 (show zG zxMeta 202 = some (zxi202, 2, 5, 11, 202, 0, 0, 1, 0) from rfl) hmegt
  refine zycutS (mi := zymr r c) hOK rfl rfl ⟨_, rfl, rfl⟩ (ι := Fin 5) (fun i => zpme i.val) (fun _ _ => []) (fun i => zFme i.val) (fun i => zSme i.val) (fun i => zXme i.val) (fun i => zRme i.val) (fun i y2 ct en2 me2 h => by cases h) 200000 (fun i => zyAll_iff hr i.val i.isLt) ⟨0, by decide⟩ ⟨rfl, rfl, rfl, rfl⟩ ⟨by decide, by decide⟩
    (fun i as E0 ρ E => ∃ m : Nat, m ≤ 8 ∧ E0 75 2 = some (.int (Int32.ofNat m)) ∧ (∀ b, b < m → zth E0 b < zgNS r c) ∧ (∀ a k, ¬ (a = 74 ∧ 16 ≤ k ∧ k ≤ 17) → E a k = E0 a k) ∧ (2 ≤ i.val → 2147483648 ≤ zB (ρ 2) ∧ zB (ρ 2) < 2147483648 + m) ∧ (3 ≤ i.val → 2147483648 ≤ zB (ρ 3) ∧ zB (ρ 3) < 2147483648 + m)) (fun i as E0 ρ E => if i.val = 0 then 10000 else if i.val = 1 then 100 * (8 - zyN1 (ρ 2)) + 99 else 100 * (8 - zyN1 (ρ 2)) + 5 * (8 - zyN1 (ρ 3)) + (5 - i.val)) ?_ ?_ ?_
  · intro as E hlen hT hΦ
    obtain ⟨m, b1, b2, b3⟩ := hΦ
    exact ⟨zEnv_c (zyfull _) (zEnv_c (zyfull _) (zEnv_c (zyfull _) (zEnv_c (zyfull _) (zEnv_c (zyfull _) zEnv_nil)))), m, b1, b2, b3, fun _ _ _ => rfl, fun h => absurd (show 2 ≤ 0 from h) (by decide), fun h => absurd (show 3 ≤ 0 from h) (by decide)⟩
  · intro as B s Wg hRu hT0 hΦ hlen i ρ H hT hInv hIH x hx ρ2 N2 H2 locs lsB stA hAt hXs hag hfr hT2
    rcases i with ⟨i, hi⟩
    have hi2 : i = 0 ∨ i = 1 ∨ i = 2 ∨ i = 3 ∨ i = 4 := by omega
    rcases hi2 with rfl | rfl | rfl | rfl | rfl
    · have hx : x ∈ [zxme_ax0] := hx
      have hg : ∀ k, k < 5 → ρ2 k = ρ k := hag
      have hI := hInv
      have hI : ∃ m : Nat, m ≤ 8 ∧ (zyEl (zymr r c) B s.heap) 75 2 = some (.int (Int32.ofNat m)) ∧ (∀ b, b < m → zth (zyEl (zymr r c) B s.heap) b < zgNS r c) ∧ (∀ a k, ¬ (a = 74 ∧ 16 ≤ k ∧ k ≤ 17) → (zyEl (zymr r c) B H) a k = (zyEl (zymr r c) B s.heap) a k) ∧ (2 ≤ 0 → 2147483648 ≤ zB (ρ 2) ∧ zB (ρ 2) < 2147483648 + m) ∧ (3 ≤ 0 → 2147483648 ≤ zB (ρ 3) ∧ zB (ρ 3) < 2147483648 + m) := hI
      obtain ⟨hF, hB, hM⟩ := hXs
      have hEE : (zyEl (zymr r c) B H2) = (zyEl (zymr r c) B H) := zyfr0 hfr
      have ex := List.mem_singleton.mp hx
      subst ex
      obtain ⟨m, hm, s1, s2, i1, i2, i3⟩ := hI
      have T1 : zyTy (zymr r c) (zyEl (zymr r c) B H) := hT
      have n80 : zgNS r c ≤ 80 := zgNS_le h2 h4
      refine zyGoB hIH hAt hB ⟨1, by decide⟩ [595, 34359738360, 0, 0, 0] rfl rfl rfl rfl ⟨m, hm, s1, s2, by rw [hEE]; exact i1, fun h => absurd (show 2 ≤ 1 from h) (by decide), fun h => absurd (show 3 ≤ 1 from h) (by decide)⟩ ?_
      show 100 * (8 - zyN1 (Int32.ofNat 0)) + 99 < 10000
      omega
    · have hx : x ∈ [zxme_bx0] := hx
      have hg : ∀ k, k < 5 → ρ2 k = ρ k := hag
      have hI := hInv
      have hI : ∃ m : Nat, m ≤ 8 ∧ (zyEl (zymr r c) B s.heap) 75 2 = some (.int (Int32.ofNat m)) ∧ (∀ b, b < m → zth (zyEl (zymr r c) B s.heap) b < zgNS r c) ∧ (∀ a k, ¬ (a = 74 ∧ 16 ≤ k ∧ k ≤ 17) → (zyEl (zymr r c) B H) a k = (zyEl (zymr r c) B s.heap) a k) ∧ (2 ≤ 1 → 2147483648 ≤ zB (ρ 2) ∧ zB (ρ 2) < 2147483648 + m) ∧ (3 ≤ 1 → 2147483648 ≤ zB (ρ 3) ∧ zB (ρ 3) < 2147483648 + m) := hI
      obtain ⟨hF, hB, hM⟩ := hXs
      have hEE : (zyEl (zymr r c) B H2) = (zyEl (zymr r c) B H) := zyfr0 hfr
      have ex := List.mem_singleton.mp hx
      subst ex
      obtain ⟨m, hm, s1, s2, i1, i2, i3⟩ := hI
      have T1 : zyTy (zymr r c) (zyEl (zymr r c) B H) := hT
      have n80 : zgNS r c ≤ 80 := zgNS_le h2 h4
      obtain ⟨n3, w1, w2, w3⟩ := zyXe hF 0 rfl
      have w1 : Int32.ofNat 2 = Int32.ofNat n3 := w1
      have w3 : zyEl (zymr r c) B H 75 n3 = some (.int (ρ2 5)) := w3
      have em : ρ2 5 = Int32.ofNat m := zyEk w1 (by decide) w2 w3 ((i1 75 2 (fun z => absurd z.1 (by decide))).trans s1)
      have f1 := zyX20 hF 1 rfl
      have f1 : ρ2 2 < ρ2 5 := f1
      rw [em, zylt_B, zyBn (by omega)] at f1
      have b2 : 2147483648 ≤ zB (ρ2 2) ∧ zB (ρ2 2) ≤ 2147483655 := zyXb hB 1 rfl
      refine zyGoB hIH hAt hB ⟨2, by decide⟩ [595, 34359738369, 68719476737, 68719476745, 0] rfl rfl rfl rfl ⟨m, hm, s1, s2, by rw [hEE]; exact i1, fun _ => ⟨b2.1, (by show zB (ρ2 2) < _; omega)⟩, fun h => absurd (show 3 ≤ 2 from h) (by decide)⟩ ?_
      show 100 * (8 - zyN1 (ρ2 2)) + 5 * (8 - zyN1 (ρ2 2 + Int32.ofNat 1)) + (5 - 2) < 100 * (8 - zyN1 (ρ 2)) + 99
      rw [hg 2 (by decide)]
      omega
    · have hx : x ∈ [zxme_cx0, zxme_cx1] := hx
      have hg : ∀ k, k < 5 → ρ2 k = ρ k := hag
      have hI := hInv
      have hI : ∃ m : Nat, m ≤ 8 ∧ (zyEl (zymr r c) B s.heap) 75 2 = some (.int (Int32.ofNat m)) ∧ (∀ b, b < m → zth (zyEl (zymr r c) B s.heap) b < zgNS r c) ∧ (∀ a k, ¬ (a = 74 ∧ 16 ≤ k ∧ k ≤ 17) → (zyEl (zymr r c) B H) a k = (zyEl (zymr r c) B s.heap) a k) ∧ (2 ≤ 2 → 2147483648 ≤ zB (ρ 2) ∧ zB (ρ 2) < 2147483648 + m) ∧ (3 ≤ 2 → 2147483648 ≤ zB (ρ 3) ∧ zB (ρ 3) < 2147483648 + m) := hI
      obtain ⟨hF, hB, hM⟩ := hXs
      have hEE : (zyEl (zymr r c) B H2) = (zyEl (zymr r c) B H) := zyfr0 hfr
      rcases List.mem_cons.mp hx with ex | hx
      · subst ex
        obtain ⟨m, hm, s1, s2, i1, i2, i3⟩ := hI
        have T1 : zyTy (zymr r c) (zyEl (zymr r c) B H) := hT
        have n80 : zgNS r c ≤ 80 := zgNS_le h2 h4
        obtain ⟨v1, v2⟩ := i2 (by decide)
        have a2 : ρ2 2 = ρ 2 := hg 2 (by decide)
        have a3 : ρ2 3 = ρ 3 := hg 3 (by decide)
        rw [← a2] at v1 v2
        obtain ⟨o1, o2⟩ := zyOn v1
        obtain ⟨n3, w1, w2, w3⟩ := zyXe hF 0 rfl
        have w1 : Int32.ofNat 2 = Int32.ofNat n3 := w1
        have w3 : zyEl (zymr r c) B H 75 n3 = some (.int (ρ2 5)) := w3
        have em : ρ2 5 = Int32.ofNat m := zyEk w1 (by decide) w2 w3 ((i1 75 2 (fun z => absurd z.1 (by decide))).trans s1)
        have f1 := zyX20 hF 1 rfl
        have f1 : ρ2 3 < ρ2 5 := f1
        rw [em, zylt_B, zyBn (by omega)] at f1
        have b3 : 2147483648 ≤ zB (ρ2 3) ∧ zB (ρ2 3) ≤ 2147483655 := zyXb hB 2 rfl
        have v3 := b3.1
        have v4 : zB (ρ2 3) < 2147483648 + m := by omega
        obtain ⟨na, u1, u2, u3⟩ := zyXe hF 2 rfl
        have u1 : ρ2 2 = Int32.ofNat na := u1
        have u3 : zyEl (zymr r c) B H 78 na = some (.int (ρ2 6)) := u3
        rw [o1] at u1
        have e6 := zyEk u1 (by omega) u2 u3 (zth_el T1 (i := zyN1 (ρ2 2)) (by omega)).1
        have k6 : zth (zyEl (zymr r c) B H) (zyN1 (ρ2 2)) < zgNS r c := by
          rw [zth_eq (i1 78 _ (fun z => absurd z.1 (by decide)))]
          exact s2 _ (by omega)
        refine zyCa1 hRu hIH hAt hB hfc (ix := 145) (ax := 3248) rfl rfl rfl hmefc ⟨rfl, rfl, rfl, rfl⟩ (by decide) [206158430209] rfl (by decide) rfl ⟨3, by decide⟩ [595, 34359738369, 68719476737, 103079215105, 0] [(0, 4294967295), (2147483647, 2147483678), (2147483648, 2147483655), (2147483648, 2147483655), (0, 4294967295)] 2147483647 2147483727 rfl (by decide) rfl rfl rfl rfl rfl ?_ ?_
        · show zyΦs _ [ρ2 6] _
          rw [e6]
          exact ⟨_, k6, rfl⟩
        · intro E3 vo hT3 hΨ
          have hΨ : zyΨs _ _ [ρ2 6] _ E3 vo := hΨ
          rw [e6, hEE] at hΨ
          obtain ⟨e3, hq⟩ := hΨ
          subst e3
          have ez := hq _ k6 rfl
          have fb := (zgfacts h1 h2 h3 h4 k6).2.2
          refine ⟨_, ez, ?_, ?_, ⟨m, hm, s1, s2, i1, fun _ => (by rw [zyρi_n (by decide)]; exact ⟨v1, v2⟩), fun _ => (by rw [zyρi_n (by decide)]; exact ⟨v3, v4⟩)⟩, ?_⟩
          · rcases fb with fb | ⟨-, fb, -⟩
            · rw [zgF_none fb, zB_none]
              omega
            · rw [zyBn (by omega)]
              omega
          · rcases fb with fb | ⟨-, fb, -⟩
            · rw [zgF_none fb, zB_none]
              omega
            · rw [zyBn (by omega)]
              omega
          · show 100 * (8 - zyN1 (ρ2 2)) + 5 * (8 - zyN1 (ρ2 3)) + (5 - 3) < 100 * (8 - zyN1 (ρ 2)) + 5 * (8 - zyN1 (ρ 3)) + (5 - 2)
            rw [a2, a3]
            omega
      · skip
        have ex := List.mem_singleton.mp hx
        subst ex
        obtain ⟨m, hm, s1, s2, i1, i2, i3⟩ := hI
        have T1 : zyTy (zymr r c) (zyEl (zymr r c) B H) := hT
        have n80 : zgNS r c ≤ 80 := zgNS_le h2 h4
        obtain ⟨v1, v2⟩ := i2 (by decide)
        have a2 : ρ2 2 = ρ 2 := hg 2 (by decide)
        have a3 : ρ2 3 = ρ 3 := hg 3 (by decide)
        rw [← a2] at v1 v2
        obtain ⟨o1, o2⟩ := zyOn v1
        refine zyGoB hIH hAt hB ⟨1, by decide⟩ [595, 34359738369, 68719476745, 0, 0] rfl rfl rfl rfl ⟨m, hm, s1, s2, by rw [hEE]; exact i1, fun h => absurd (show 2 ≤ 1 from h) (by decide), fun h => absurd (show 3 ≤ 1 from h) (by decide)⟩ ?_
        obtain ⟨q1, q2, -⟩ := zyStep (b := 7) (x := ρ2 2) ⟨v1, by omega⟩ (by decide)
        show 100 * (8 - zyN1 (ρ2 2 + Int32.ofNat 1)) + 99 < 100 * (8 - zyN1 (ρ 2)) + 5 * (8 - zyN1 (ρ 3)) + (5 - 2)
        rw [q1, ← a2]
        omega
    · have hx : x ∈ [zxme_dx0, zxme_dx1] := hx
      have hg : ∀ k, k < 6 → ρ2 k = ρ k := hag
      have hI := hInv
      have hI : ∃ m : Nat, m ≤ 8 ∧ (zyEl (zymr r c) B s.heap) 75 2 = some (.int (Int32.ofNat m)) ∧ (∀ b, b < m → zth (zyEl (zymr r c) B s.heap) b < zgNS r c) ∧ (∀ a k, ¬ (a = 74 ∧ 16 ≤ k ∧ k ≤ 17) → (zyEl (zymr r c) B H) a k = (zyEl (zymr r c) B s.heap) a k) ∧ (2 ≤ 3 → 2147483648 ≤ zB (ρ 2) ∧ zB (ρ 2) < 2147483648 + m) ∧ (3 ≤ 3 → 2147483648 ≤ zB (ρ 3) ∧ zB (ρ 3) < 2147483648 + m) := hI
      obtain ⟨hF, hB, hM⟩ := hXs
      have hEE : (zyEl (zymr r c) B H2) = (zyEl (zymr r c) B H) := zyfr0 hfr
      rcases List.mem_cons.mp hx with ex | hx
      · subst ex
        obtain ⟨m, hm, s1, s2, i1, i2, i3⟩ := hI
        have T1 : zyTy (zymr r c) (zyEl (zymr r c) B H) := hT
        have n80 : zgNS r c ≤ 80 := zgNS_le h2 h4
        obtain ⟨v1, v2⟩ := i2 (by decide)
        have a2 : ρ2 2 = ρ 2 := hg 2 (by decide)
        have a3 : ρ2 3 = ρ 3 := hg 3 (by decide)
        rw [← a2] at v1 v2
        obtain ⟨o1, o2⟩ := zyOn v1
        obtain ⟨v3, v4⟩ := i3 (by decide)
        rw [← a3] at v3 v4
        obtain ⟨q1, q2, -⟩ := zyStep (b := 7) (x := ρ2 3) ⟨v3, by omega⟩ (by decide)
        refine zyGoB hIH hAt hB ⟨2, by decide⟩ [595, 34359738369, 68719476737, 103079215113, 0] rfl rfl rfl rfl ⟨m, hm, s1, s2, by rw [hEE]; exact i1, fun _ => ⟨v1, v2⟩, fun h => absurd (show 3 ≤ 2 from h) (by decide)⟩ ?_
        show 100 * (8 - zyN1 (ρ2 2)) + 5 * (8 - zyN1 (ρ2 3 + Int32.ofNat 1)) + (5 - 2) < 100 * (8 - zyN1 (ρ 2)) + 5 * (8 - zyN1 (ρ 3)) + (5 - 3)
        rw [q1, a2, ← a3]
        omega
      · skip
        have ex := List.mem_singleton.mp hx
        subst ex
        obtain ⟨m, hm, s1, s2, i1, i2, i3⟩ := hI
        have T1 : zyTy (zymr r c) (zyEl (zymr r c) B H) := hT
        have n31 : zgNG r c ≤ 31 := zgNG_le h2 h4
        have n80 : zgNS r c ≤ 80 := zgNS_le h2 h4
        obtain ⟨v1, v2⟩ := i2 (by decide)
        have a2 : ρ2 2 = ρ 2 := hg 2 (by decide)
        have a3 : ρ2 3 = ρ 3 := hg 3 (by decide)
        rw [← a2] at v1 v2
        obtain ⟨o1, o2⟩ := zyOn v1
        obtain ⟨v3, v4⟩ := i3 (by decide)
        rw [← a3] at v3 v4
        obtain ⟨na, u1, u2, u3⟩ := zyXe hF 2 rfl
        have u1 : ρ2 2 = Int32.ofNat na := u1
        have u3 : zyEl (zymr r c) B H 78 na = some (.int (ρ2 7)) := u3
        rw [o1] at u1
        have e7 := zyEk u1 (by omega) u2 u3 (zth_el T1 (i := zyN1 (ρ2 2)) (by omega)).1
        have k7 : zth (zyEl (zymr r c) B H) (zyN1 (ρ2 2)) < zgNS r c := by
          rw [zth_eq (i1 78 _ (fun z => absurd z.1 (by decide)))]
          exact s2 _ (by omega)
        refine zyCa1 hRu hIH hAt hB hgt (ix := 113) (ax := 3232) rfl rfl rfl hmegt ⟨rfl, rfl, rfl, rfl⟩ (by decide) [240518168577] rfl (by decide) rfl ⟨4, by decide⟩ [595, 34359738369, 68719476737, 103079215105, 0] [(0, 4294967295), (2147483647, 2147483678), (2147483648, 2147483655), (2147483648, 2147483655), (0, 4294967295)] 2147483647 2147483678 rfl (by decide) rfl rfl rfl rfl rfl ?_ ?_
        · show zyΦs _ [ρ2 7] _
          rw [e7]
          exact ⟨_, k7, rfl⟩
        · intro E3 vo hT3 hΨ
          have hΨ : zyΨs _ _ [ρ2 7] _ E3 vo := hΨ
          rw [e7, hEE] at hΨ
          obtain ⟨e3, hq⟩ := hΨ
          subst e3
          have ez := hq _ k7 rfl
          have fb := (zgfacts h1 h2 h3 h4 k7).2.2
          refine ⟨_, ez, ?_, ?_, ⟨m, hm, s1, s2, i1, fun _ => (by rw [zyρi_n (by decide)]; exact ⟨v1, v2⟩), fun _ => (by rw [zyρi_n (by decide)]; exact ⟨v3, v4⟩)⟩, ?_⟩
          · rcases fb with fb | ⟨fb, -, -⟩
            · rw [fb, zB_none]
              omega
            · rw [zyBn (by omega)]
              omega
          · rcases fb with fb | ⟨fb, -, -⟩
            · rw [fb, zB_none]
              omega
            · rw [zyBn (by omega)]
              omega
          · show 100 * (8 - zyN1 (ρ2 2)) + 5 * (8 - zyN1 (ρ2 3)) + (5 - 4) < 100 * (8 - zyN1 (ρ 2)) + 5 * (8 - zyN1 (ρ 3)) + (5 - 3)
            rw [a2, a3]
            omega
    · have hx : x ∈ [zxme_ex0, zxme_ex1, zxme_ex2] := hx
      have hg : ∀ k, k < 6 → ρ2 k = ρ k := hag
      have hI := hInv
      have hI : ∃ m : Nat, m ≤ 8 ∧ (zyEl (zymr r c) B s.heap) 75 2 = some (.int (Int32.ofNat m)) ∧ (∀ b, b < m → zth (zyEl (zymr r c) B s.heap) b < zgNS r c) ∧ (∀ a k, ¬ (a = 74 ∧ 16 ≤ k ∧ k ≤ 17) → (zyEl (zymr r c) B H) a k = (zyEl (zymr r c) B s.heap) a k) ∧ (2 ≤ 4 → 2147483648 ≤ zB (ρ 2) ∧ zB (ρ 2) < 2147483648 + m) ∧ (3 ≤ 4 → 2147483648 ≤ zB (ρ 3) ∧ zB (ρ 3) < 2147483648 + m) := hI
      obtain ⟨hF, hB, hM⟩ := hXs
      have hfr : ∀ a k, zyin [(74, 16, 17)] a k = false → (zyEl (zymr r c) B H2) a k = (zyEl (zymr r c) B H) a k := hfr
      rcases List.mem_cons.mp hx with ex | hx
      · subst ex
        obtain ⟨m, hm, s1, s2, i1, i2, i3⟩ := hI
        have T1 : zyTy (zymr r c) (zyEl (zymr r c) B H) := hT
        have n80 : zgNS r c ≤ 80 := zgNS_le h2 h4
        obtain ⟨v1, v2⟩ := i2 (by decide)
        have a2 : ρ2 2 = ρ 2 := hg 2 (by decide)
        have a3 : ρ2 3 = ρ 3 := hg 3 (by decide)
        rw [← a2] at v1 v2
        obtain ⟨o1, o2⟩ := zyOn v1
        obtain ⟨v3, v4⟩ := i3 (by decide)
        rw [← a3] at v3 v4
        obtain ⟨q1, q2, -⟩ := zyStep (b := 7) (x := ρ2 3) ⟨v3, by omega⟩ (by decide)
        refine zyGoB hIH hAt hB ⟨2, by decide⟩ [595, 171798691841, 68719476737, 103079215113, 0] rfl rfl rfl rfl ⟨m, hm, s1, s2, fun a k q => (zyfr67 hfr a k q).trans (i1 a k q), fun _ => ⟨v1, v2⟩, fun h => absurd (show 3 ≤ 2 from h) (by decide)⟩ ?_
        show 100 * (8 - zyN1 (ρ2 2)) + 5 * (8 - zyN1 (ρ2 3 + Int32.ofNat 1)) + (5 - 2) < 100 * (8 - zyN1 (ρ 2)) + 5 * (8 - zyN1 (ρ 3)) + (5 - 4)
        rw [q1, a2, ← a3]
        omega
      · skip
        rcases List.mem_cons.mp hx with ex | hx
        · subst ex
          obtain ⟨m, hm, s1, s2, i1, i2, i3⟩ := hI
          have T1 : zyTy (zymr r c) (zyEl (zymr r c) B H) := hT
          have n80 : zgNS r c ≤ 80 := zgNS_le h2 h4
          obtain ⟨v1, v2⟩ := i2 (by decide)
          have a2 : ρ2 2 = ρ 2 := hg 2 (by decide)
          have a3 : ρ2 3 = ρ 3 := hg 3 (by decide)
          rw [← a2] at v1 v2
          obtain ⟨o1, o2⟩ := zyOn v1
          obtain ⟨v3, v4⟩ := i3 (by decide)
          rw [← a3] at v3 v4
          obtain ⟨q1, q2, -⟩ := zyStep (b := 7) (x := ρ2 3) ⟨v3, by omega⟩ (by decide)
          refine zyGoB hIH hAt hB ⟨2, by decide⟩ [595, 34359738369, 68719476737, 103079215113, 0] rfl rfl rfl rfl ⟨m, hm, s1, s2, fun a k q => (zyfr67 hfr a k q).trans (i1 a k q), fun _ => ⟨v1, v2⟩, fun h => absurd (show 3 ≤ 2 from h) (by decide)⟩ ?_
          show 100 * (8 - zyN1 (ρ2 2)) + 5 * (8 - zyN1 (ρ2 3 + Int32.ofNat 1)) + (5 - 2) < 100 * (8 - zyN1 (ρ 2)) + 5 * (8 - zyN1 (ρ 3)) + (5 - 4)
          rw [q1, a2, ← a3]
          omega
        · skip
          have ex := List.mem_singleton.mp hx
          subst ex
          obtain ⟨m, hm, s1, s2, i1, i2, i3⟩ := hI
          have T1 : zyTy (zymr r c) (zyEl (zymr r c) B H) := hT
          have n80 : zgNS r c ≤ 80 := zgNS_le h2 h4
          obtain ⟨v1, v2⟩ := i2 (by decide)
          have a2 : ρ2 2 = ρ 2 := hg 2 (by decide)
          have a3 : ρ2 3 = ρ 3 := hg 3 (by decide)
          rw [← a2] at v1 v2
          obtain ⟨o1, o2⟩ := zyOn v1
          obtain ⟨v3, v4⟩ := i3 (by decide)
          rw [← a3] at v3 v4
          obtain ⟨q1, q2, -⟩ := zyStep (b := 7) (x := ρ2 3) ⟨v3, by omega⟩ (by decide)
          refine zyGoB hIH hAt hB ⟨2, by decide⟩ [595, 171798691841, 68719476737, 103079215113, 0] rfl rfl rfl rfl ⟨m, hm, s1, s2, fun a k q => (zyfr67 hfr a k q).trans (i1 a k q), fun _ => ⟨v1, v2⟩, fun h => absurd (show 3 ≤ 2 from h) (by decide)⟩ ?_
          show 100 * (8 - zyN1 (ρ2 2)) + 5 * (8 - zyN1 (ρ2 3 + Int32.ofNat 1)) + (5 - 2) < 100 * (8 - zyN1 (ρ 2)) + 5 * (8 - zyN1 (ρ 3)) + (5 - 4)
          rw [q1, a2, ← a3]
          omega
  · intro as E0 E E2 hT0 hΦ hlen i ρ hT hInv x hx ρ2 N2 B vo hXs hag hfr hT2 hvo
    rcases i with ⟨i, hi⟩
    have hi2 : i = 0 ∨ i = 1 ∨ i = 2 ∨ i = 3 ∨ i = 4 := by omega
    rcases hi2 with rfl | rfl | rfl | rfl | rfl
    · cases hx
    · have hx : x ∈ [zxme_br0] := hx
      have hg : ∀ k, k < 5 → ρ2 k = ρ k := hag
      have hI := hInv
      have hI : ∃ m : Nat, m ≤ 8 ∧ E0 75 2 = some (.int (Int32.ofNat m)) ∧ (∀ b, b < m → zth E0 b < zgNS r c) ∧ (∀ a k, ¬ (a = 74 ∧ 16 ≤ k ∧ k ≤ 17) → E a k = E0 a k) ∧ (2 ≤ 1 → 2147483648 ≤ zB (ρ 2) ∧ zB (ρ 2) < 2147483648 + m) ∧ (3 ≤ 1 → 2147483648 ≤ zB (ρ 3) ∧ zB (ρ 3) < 2147483648 + m) := hI
      obtain ⟨hF, hB, hM⟩ := hXs
      have hEE : E2 = E := zyfr0 hfr
      have ex := List.mem_singleton.mp hx
      subst ex
      obtain ⟨m, hm, s1, s2, i1, i2, i3⟩ := hI
      rw [hEE]
      exact ⟨i1, ρ2 1, zyvo_1 (c := 34359738369) (by decide) (show zyvo (zyXn B ρ2 N2) [34359738369] vo from hvo), zyXb hB 0 rfl⟩
    · cases hx
    · cases hx
    · cases hx
