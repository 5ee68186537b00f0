/-! WHERE A SLOT IS: xOf, yOf at each slot, which one is ahead -/
noncomputable def zgX1 (c s : Nat) : Nat := Nat.add (Nat.mul 2 (Nat.mod (Nat.div s 4) c)) (zif (Nat.beq (Nat.mod s 4) 1) 2 (zif (Nat.beq (Nat.mod s 4) 3) 0 1))
noncomputable def zgY1 (c s : Nat) : Nat := Nat.add (Nat.mul 2 (Nat.div (Nat.div s 4) c)) (zif (Nat.beq (Nat.mod s 4) 2) 2 (zif (Nat.beq (Nat.mod s 4) 0) 0 1))
noncomputable def zgD (v : Nat) : Nat := Nat.mod (Nat.add v 4294967295) 4294967296
theorem zgrunX : zyAllP (fun r c => zyAll (fun s => zand (Nat.ble (zgX1 c s) 10) (zyk1 (zymr r c) 205 2 1 [595, Nat.mul 8 s] [] (Nat.mul 8 (zgD (zgX1 c s))))) 80) = true := by decide +kernel
theorem zgrunY : zyAllP (fun r c => zyAll (fun s => zand (Nat.ble (zgY1 c s) 40) (zyk1 (zymr r c) 206 2 1 [595, Nat.mul 8 s] [] (Nat.mul 8 (zgD (zgY1 c s))))) 80) = true := by decide +kernel
def zyΦx (as : List Int32) (_ : zyEm) : Prop := ∃ s : Nat, s < 80 ∧ as = [Int32.ofNat s]
def zyΨx (f : Nat → Nat) (as : List Int32) (E E2 : zyEm) (vo : Option Value) : Prop := E2 = E ∧ ∀ s : Nat, s < 80 → as = [Int32.ofNat s] → vo = some (.int (Int32.ofNat (zgD (f s))))
theorem zyHc_pt {l : Launch} {mi : zyB} {en : zEn} {me : zMe} {dep : Nat} {f : Nat → Nat} (h : ∀ s, s < 80 → zyCon l mi zyJ0 en me ([595, 8 * s], [], [8 * zgD (f s)], dep, [], [])) : zyHc l mi en me dep 1 zyΦx (zyΨx f) := by
  intro B xs hx
  refine zyMet_pt (fun a s hp => ?_)
  obtain ⟨rfl, hK, hI, q, hq, rfl⟩ := hp
  have hm := h q hq B (zyAr B [Int32.ofNat q]) ⟨Or.inl ⟨Or.inr (Or.inr (Or.inr (Or.inl ⟨rfl, rfl⟩))), fun q => by omega, fun q => by omega⟩, zyv_mk rfl, trivial⟩
  refine ⟨_, _, hm, ⟨rfl, hK, hI, fun p hp => by cases hp⟩, fun o t hq2 => ?_⟩
  obtain ⟨vo, e1, hv, k1, k2, k3, k4, k5⟩ := hq2
  refine ⟨vo, e1, k1, k2, ⟨?_, fun s' hs' e => ?_⟩, k5⟩
  · funext a k
    exact k4 a k rfl
  · have e := zyOi (by omega) (by omega) (List.cons.inj e).1
    subst e
    cases vo with
    | none => exact hv.elim
    | some w =>
      have e3 := zyv_0 (show zyV (zyX0 B zyJ0) (8 * zgD (f q)) w from hv) (by omega)
      rw [show 8 * zgD (f q) / 8 = zgD (f q) by omega] at e3
      rw [e3]
theorem zyxOf {l : Launch} {r c : Nat} (h1 : 1 ≤ r) (h2 : r ≤ 4) (h3 : 1 ≤ c) (h4 : c ≤ 5) {en : zEn} {me : zMe} (hen : zG zxMeta 205 = some en) (hme : zG zMeth 205 = some me) : zyHc l (zymr r c) en me 1 1 zyΦx (zyΨx (zgX1 c)) := zyHc_pt (fun s hs => zyk1_ok zyJ0_r.1 (zand_iff (zyAll_iff (zyAllP_iff zgrunX h1 h2 h3 h4) s hs)).2 hen hme)
theorem zyyOf {l : Launch} {r c : Nat} (h1 : 1 ≤ r) (h2 : r ≤ 4) (h3 : 1 ≤ c) (h4 : c ≤ 5) {en : zEn} {me : zMe} (hen : zG zxMeta 206 = some en) (hme : zG zMeth 206 = some me) : zyHc l (zymr r c) en me 1 1 zyΦx (zyΨx (zgY1 c)) := zyHc_pt (fun s hs => zyk1_ok zyJ0_r.1 (zand_iff (zyAll_iff (zyAllP_iff zgrunY h1 h2 h3 h4) s hs)).2 hen hme)
theorem zgX1_le {r c : Nat} (h1 : 1 ≤ r) (h2 : r ≤ 4) (h3 : 1 ≤ c) (h4 : c ≤ 5) {s : Nat} (hs : s < 80) : zgX1 c s ≤ 10 := zbleT (zand_iff (zyAll_iff (zyAllP_iff zgrunX h1 h2 h3 h4) s hs)).1
theorem zgY1_le {r c : Nat} (h1 : 1 ≤ r) (h2 : r ≤ 4) (h3 : 1 ≤ c) (h4 : c ≤ 5) {s : Nat} (hs : s < 80) : zgY1 c s ≤ 40 := zbleT (zand_iff (zyAll_iff (zyAllP_iff zgrunY h1 h2 h3 h4) s hs)).1
theorem zgD_B {v : Nat} (h : v ≤ 40) : zB (Int32.ofNat (zgD v)) = v + 2147483647 := by
  have e : zgD v = (v + 4294967295) % 4294967296 := rfl
  rw [zB_of, zb_def, e]
  omega
theorem zgD_i {v w : Nat} (h : v ≤ 40) (h' : w ≤ 40) (e : Int32.ofNat (zgD v) = Int32.ofNat (zgD w)) : v = w := by
  have e2 := congrArg zB e
  rw [zgD_B h, zgD_B h'] at e2
  omega
noncomputable def zky (c s : Nat) : Nat := 64 * zgX1 c s + zgY1 c s
section YGO8
variable {l : Launch} {mi : zyB} {en : zEn} {dep : Nat} {B : zCx} {s : State} {ι : Type} {φ : ι → zyPh} {Inv : ι → (Nat → Int32) → zyEm → Prop} {Mu : ι → (Nat → Int32) → zyEm → Nat} {M : Nat} {Wg : zyWt} {x : zyXp} {ρ2 : Nat → Int32} {N : Nat} {H : Heap} {locs : List Loc} {lsB : Array Slot} {stA : List Value}
theorem zySt_i {B : zCx} {ρ : Nat → Int32} {k0 : Nat} {z : Int32} {N : Nat} : ∀ {st : List Nat} {vs : List Value}, zySt (zyXn B ρ k0) st vs → k0 ≤ N → zySt (zyXn B (zyρi ρ k0 z) N) st vs := by
  intro st
  induction st with
  | nil => intro vs h _; rw [zySt_n h]; trivial
  | cons a t ih =>
    intro vs h hN
    obtain ⟨v, u, rfl, g1, g2⟩ := zySt_c h
    exact ⟨zyv_up (N := k0) g1 (fun k hk => zyρi_n (by omega)) hN, ih g2 hN⟩
/-- a call that answers an int, with a rest of the stack -/
theorem zyCa1r (hRu : zyRu l mi en dep B s Wg) (hIH : zyIH mi en.2.2.1 B s φ Inv Mu M Wg) (hAt : zyAt mi B s en.2.2.1 x ρ2 N H locs lsB stA) (hB : ∀ b ∈ x.2.2.2.2.1, b.2.1 ≤ zB (zyw ρ2 b.1) ∧ zB (zyw ρ2 b.1) ≤ b.2.2) {en2 : zEn} {me2 : zMe} {dep2 na2 : Nat} {Φ2 : List Int32 → zyEm → Prop} {Ψ2 : List Int32 → zyEm → zyEm → Option Value → Prop} (hHc : zyHc l mi en2 me2 dep2 na2 Φ2 Ψ2) {ix ax : Nat} (hrow : en.1 x.1 = (.invokevirtual ix, x.1 + 3, ax)) (hkd : zG zKd (ax / 16) = some 0) (hen2 : zG zxMeta (ax / 16) = some en2) (hme2 : zG zMeth (ax / 16) = some me2) (hsh : en2.2.2.2.1 = 11 ∧ en2.2.1 = na2 + 1 ∧ en2.2.2.2.2.2.1 = 0 ∧ en2.2.2.2.2.2.2.1 = 0) (hdp : dep2 + 1 ≤ dep) (cs2 cr : List Nat) (hcs2 : x.2.2.1 = cs2.reverse ++ 595 :: cr) (hk : ∀ c ∈ cs2, c % 8 ≤ 1) (hkr : cr.length ≤ 8 ∧ ∀ c ∈ cr, c % 8 ≤ 1) (hlen : cs2.length = na2)
    (i2 : ι) (cs : List Nat) (env : List (Nat × Nat)) (lo hi : Nat) (he : (φ i2).2.2.1 = env ++ [(lo, hi)]) (hnl : en.2.2.1 ≤ zyln env) (hpc : (φ i2).1 = x.1 + 3) (hchk : zygoB en.2.2.1 x.2.1 (φ i2) cs = true) (henv : zyenvB x.2.2.2.2.1 cs env 0 = true) (hkc : (φ i2).2.2.2.1 = []) (st' : List Nat) (hst : (φ i2).2.2.2.2 = zysym (zyln env) :: st') (hT : zygoT cs (zyln env) st' cr = true)
    (hΦ : Φ2 (cs2.map (zyw ρ2)) (zyEl mi B H)) (kk : ∀ (E3 : zyEm) (vo : Option Value), zyTy mi E3 → Ψ2 (cs2.map (zyw ρ2)) (zyEl mi B H) E3 vo → ∃ z : Int32, vo = some (.int z) ∧ lo ≤ zB z ∧ zB z ≤ hi ∧ Inv i2 (zyρi (fun k => zyw ρ2 (zyag cs k)) (zyln env) z) E3 ∧ Mu i2 (zyρi (fun k => zyw ρ2 (zyag cs k)) (zyln env) z) E3 < M) : Wg H locs x.1 lsB stA := by
  have hsr : zySt (zyXn B ρ2 N) cr ((cr.map (zyw ρ2)).map Value.int) := by
    have h := hAt.2.2.2.2.2
    rw [hcs2] at h
    obtain ⟨q1, q2, e, g1, g2⟩ := zySt_split h
    obtain ⟨b, u, rfl, g3, g4⟩ := zySt_c g2
    have e2 := zySt_ints hkr.2 g4
    rw [e2] at g4
    exact g4
  refine zyCa hRu hIH hAt hrow hkd hen2 hme2 hsh hHc hdp cs2 cr hcs2 hk hkr hlen hΦ (fun H3 vo hT3 hΨ => ?_)
  obtain ⟨z, q1, q2, q3, q4, q5⟩ := kk _ vo hT3 hΨ
  have hl : (φ i2).2.2.1.length = zyln env + 1 := by rw [he, List.length_append, zyln_eq, List.length_singleton]
  refine ⟨i2, zyρi (fun k => zyw ρ2 (zyag cs k)) (zyln env) z, cs, hpc, hchk, fun i hi => zyρi_n (by omega), ?_, hkc, ?_, q4, q5⟩
  · rw [he]
    refine zEnv_i (zyln_eq env) (fun k p hp => ?_) ⟨q2, q3⟩
    have := zyenvB_iff hB henv k p hp
    rwa [Nat.zero_add] at this
  · rw [q1, hst, hl]
    exact zySt_sc (by omega) zyρi_e (zySt_i (zygoT_iff hT hsr) (by omega))
end YGO8
def zyΦah (as : List Int32) (_ : zyEm) : Prop := ∃ s o : Nat, as = [Int32.ofNat s, Int32.ofNat o] ∧ s < 80 ∧ o < 80
def zyΨah (c : Nat) (as : List Int32) (E E2 : zyEm) (vo : Option Value) : Prop := E2 = E ∧ ∃ z : Int32, vo = some (.int z) ∧ (z = 0 ∨ z = 1) ∧ ∀ s o : Nat, as = [Int32.ofNat s, Int32.ofNat o] → s < 80 → o < 80 → (z = 1 ↔ zky c s < zky c o)
theorem zyah_run : zyAllP (fun r c => zyrS (zymr r c) zxi207 (207, 0, 0, 2, 0) 2 zpah (fun _ _ => []) zFah zSah zXah zRah 7) = true := by decide +kernel
theorem zyisAhead {l : Launch} {r c : Nat} (h1 : 1 ≤ r) (h2 : r ≤ 4) (h3 : 1 ≤ c) (h4 : c ≤ 5) {en : zEn} {me : zMe} (hen : zG zxMeta 207 = some en) (hme : zG zMeth 207 = some me) : zyHc l (zymr r c) en me 2 2 zyΦah (zyΨah c) := by
  have een : zG zxMeta 207 = some (zxi207, 3, 3, 11, 207, 0, 0, 2, 0) := rfl
  obtain ⟨me1, hme1, hOK⟩ := zall hen
  rw [hme] at hme1
  cases hme1
  rw [een] at hen
  cases hen
  have hr := zyAllP_iff zyah_run h1 h2 h3 h4
  obtain ⟨mexo, hmexo, -⟩ := zall (show zG zxMeta 205 = some (zxi205, 2, 2, 11, 205, 0, 0, 1, 0) from rfl)
  have hxo := zyxOf (l := l) h1 h2 h3 h4 (show zG zxMeta 205 = some (zxi205, 2, 2, 11, 205, 0, 0, 1, 0) from rfl) hmexo
  obtain ⟨meyo, hmeyo, -⟩ := zall (show zG zxMeta 206 = some (zxi206, 2, 2, 11, 206, 0, 0, 1, 0) from rfl)
  have hyo := zyyOf (l := l) h1 h2 h3 h4 (show zG zxMeta 206 = some (zxi206, 2, 2, 11, 206, 0, 0, 1, 0) from rfl) hmeyo
  refine zycutS (mi := zymr r c) hOK rfl rfl ⟨_, rfl, rfl⟩ (ι := Fin 7) (fun i => zpah i.val) (fun _ _ => []) (fun i => zFah i.val) (fun i => zSah i.val) (fun i => zXah i.val) (fun i => zRah i.val) (fun i y2 ct en2 me2 h => by cases h) 200000 (fun i => zyAll_iff hr i.val i.isLt) ⟨0, by decide⟩ ⟨rfl, rfl, rfl, rfl⟩ ⟨by decide, by decide⟩
    (fun i as E0 ρ E => E = E0 ∧ ∃ s o : Nat, as = [Int32.ofNat s, Int32.ofNat o] ∧ s < 80 ∧ o < 80 ∧ ρ 1 = Int32.ofNat s ∧ ρ 2 = Int32.ofNat o ∧ (1 ≤ i.val ∧ i.val ≤ 4 → ρ 3 = Int32.ofNat (zgD (zgX1 c s))) ∧ (i.val = 2 ∨ i.val = 4 → ρ 4 = Int32.ofNat (zgD (zgX1 c o))) ∧ (i.val = 3 ∨ i.val = 4 → ¬ zgX1 c s = zgX1 c o) ∧ (5 ≤ i.val → zgX1 c s = zgX1 c o ∧ ρ 3 = Int32.ofNat (zgD (zgY1 c s))) ∧ (i.val = 6 → ρ 4 = Int32.ofNat (zgD (zgY1 c o)))) (fun i as E0 ρ E => 10 - i.val) ?_ ?_ ?_
  · intro as E hlen hT hΦ
    obtain ⟨s', o', rfl, b1, b2⟩ := hΦ
    refine ⟨zEnv_c (zyfull _) (zEnv_c ?_ (zEnv_c ?_ zEnv_nil)), rfl, s', o', rfl, b1, b2, rfl, rfl, fun h => absurd (show 1 ≤ 0 ∧ 0 ≤ 4 from h) (by decide), fun h => absurd (show 0 = 2 ∨ 0 = 4 from h) (by decide), fun h => absurd (show 0 = 3 ∨ 0 = 4 from h) (by decide), fun h => absurd (show 5 ≤ 0 from h) (by decide), fun h => absurd (show 0 = 6 from h) (by decide)⟩
    · show 2147483648 ≤ zB (Int32.ofNat s') ∧ zB (Int32.ofNat s') ≤ 2147483727
      rw [zyBn (by omega)]
      omega
    · show 2147483648 ≤ zB (Int32.ofNat o') ∧ zB (Int32.ofNat o') ≤ 2147483727
      rw [zyBn (by omega)]
      omega
  · intro as B s Wg hRu hT0 hΦ hlen i ρ H hT hInv hIH x hx ρ2 N2 H2 locs lsB stA hAt hXs hag hfr hT2
    rcases i with ⟨i, hi⟩
    have hi2 : i = 0 ∨ i = 1 ∨ i = 2 ∨ i = 3 ∨ i = 4 ∨ i = 5 ∨ i = 6 := by omega
    rcases hi2 with rfl | rfl | rfl | rfl | rfl | rfl | rfl
    · have hx : x ∈ [zxah_ax0] := hx
      have hg : ∀ k, k < 3 → ρ2 k = ρ k := hag
      have hI := hInv
      have hI : (zyEl (zymr r c) B H) = (zyEl (zymr r c) B s.heap) ∧ ∃ s o : Nat, as = [Int32.ofNat s, Int32.ofNat o] ∧ s < 80 ∧ o < 80 ∧ ρ 1 = Int32.ofNat s ∧ ρ 2 = Int32.ofNat o ∧ (1 ≤ 0 ∧ 0 ≤ 4 → ρ 3 = Int32.ofNat (zgD (zgX1 c s))) ∧ (0 = 2 ∨ 0 = 4 → ρ 4 = Int32.ofNat (zgD (zgX1 c o))) ∧ (0 = 3 ∨ 0 = 4 → ¬ zgX1 c s = zgX1 c o) ∧ (5 ≤ 0 → zgX1 c s = zgX1 c o ∧ ρ 3 = Int32.ofNat (zgD (zgY1 c s))) ∧ (0 = 6 → ρ 4 = Int32.ofNat (zgD (zgY1 c o))) := hI
      obtain ⟨hF, hB, hM⟩ := hXs
      have hEE : (zyEl (zymr r c) B H2) = (zyEl (zymr r c) B H) := zyfr0 hfr
      have ex := List.mem_singleton.mp hx
      subst ex
      obtain ⟨hE0, s', o', has, l1, l2, r1, r2, j3, j4, j5, j6, j7⟩ := hI
      have a1 : ρ2 1 = Int32.ofNat s' := (hg 1 (by decide)).trans r1
      have a2 : ρ2 2 = Int32.ofNat o' := (hg 2 (by decide)).trans r2
      have bs := zgX1_le h1 h2 h3 h4 l1
      have bo := zgX1_le h1 h2 h3 h4 l2
      have cs := zgY1_le h1 h2 h3 h4 l1
      have co := zgY1_le h1 h2 h3 h4 l2
      refine zyCa1r hRu hIH hAt hB hxo (ix := 119) (ax := 3280) rfl rfl rfl hmexo ⟨rfl, rfl, rfl, rfl⟩ (by decide) [34359738369] [] rfl (by decide) ⟨by decide, by decide⟩ rfl ⟨1, by decide⟩ [595, 34359738369, 68719476737] [(0, 4294967295), (2147483648, 2147483727), (2147483648, 2147483727)] 2147483647 2147483657 rfl (by decide) rfl rfl rfl rfl [] rfl rfl ?_ ?_
      · show zyΦx [ρ2 1] _
        rw [a1]
        exact ⟨s', by omega, rfl⟩
      · intro E3 vo hT3 hΨ
        have hΨ : zyΨx (zgX1 c) [ρ2 1] _ E3 vo := hΨ
        rw [a1, hEE] at hΨ
        obtain ⟨e3, q⟩ := hΨ
        subst e3
        have ez := q s' (by omega) rfl
        refine ⟨_, ez, ?_, ?_, ⟨hE0, s', o', has, l1, l2, (zyρi_n (by decide)).trans a1, (zyρi_n (by decide)).trans a2, fun _ => zyρi_e, fun h => absurd (show 1 = 2 ∨ 1 = 4 from h) (by decide), fun h => absurd (show 1 = 3 ∨ 1 = 4 from h) (by decide), fun h => absurd (show 5 ≤ 1 from h) (by decide), fun h => absurd (show 1 = 6 from h) (by decide)⟩, (show 10 - 1 < 10 - 0 by decide)⟩
        · rw [zgD_B (by omega)]
          omega
        · rw [zgD_B (by omega)]
          omega
    · have hx : x ∈ [zxah_bx0] := hx
      have hg : ∀ k, k < 4 → ρ2 k = ρ k := hag
      have hI := hInv
      have hI : (zyEl (zymr r c) B H) = (zyEl (zymr r c) B s.heap) ∧ ∃ s o : Nat, as = [Int32.ofNat s, Int32.ofNat o] ∧ s < 80 ∧ o < 80 ∧ ρ 1 = Int32.ofNat s ∧ ρ 2 = Int32.ofNat o ∧ (1 ≤ 1 ∧ 1 ≤ 4 → ρ 3 = Int32.ofNat (zgD (zgX1 c s))) ∧ (1 = 2 ∨ 1 = 4 → ρ 4 = Int32.ofNat (zgD (zgX1 c o))) ∧ (1 = 3 ∨ 1 = 4 → ¬ zgX1 c s = zgX1 c o) ∧ (5 ≤ 1 → zgX1 c s = zgX1 c o ∧ ρ 3 = Int32.ofNat (zgD (zgY1 c s))) ∧ (1 = 6 → ρ 4 = Int32.ofNat (zgD (zgY1 c o))) := hI
      obtain ⟨hF, hB, hM⟩ := hXs
      have hEE : (zyEl (zymr r c) B H2) = (zyEl (zymr r c) B H) := zyfr0 hfr
      have ex := List.mem_singleton.mp hx
      subst ex
      obtain ⟨hE0, s', o', has, l1, l2, r1, r2, j3, j4, j5, j6, j7⟩ := hI
      have a1 : ρ2 1 = Int32.ofNat s' := (hg 1 (by decide)).trans r1
      have a2 : ρ2 2 = Int32.ofNat o' := (hg 2 (by decide)).trans r2
      have bs := zgX1_le h1 h2 h3 h4 l1
      have bo := zgX1_le h1 h2 h3 h4 l2
      have cs := zgY1_le h1 h2 h3 h4 l1
      have co := zgY1_le h1 h2 h3 h4 l2
      have a3 := (hg 3 (by decide)).trans (j3 (by decide))
      refine zyCa1r hRu hIH hAt hB hxo (ix := 119) (ax := 3280) rfl rfl rfl hmexo ⟨rfl, rfl, rfl, rfl⟩ (by decide) [68719476737] [103079215105] rfl (by decide) ⟨by decide, by decide⟩ rfl ⟨2, by decide⟩ [595, 34359738369, 68719476737, 103079215105] [(0, 4294967295), (2147483648, 2147483727), (2147483648, 2147483727), (2147483647, 2147483657)] 2147483647 2147483657 rfl (by decide) rfl rfl rfl rfl [103079215105] rfl rfl ?_ ?_
      · show zyΦx [ρ2 2] _
        rw [a2]
        exact ⟨o', by omega, rfl⟩
      · intro E3 vo hT3 hΨ
        have hΨ : zyΨx (zgX1 c) [ρ2 2] _ E3 vo := hΨ
        rw [a2, hEE] at hΨ
        obtain ⟨e3, q⟩ := hΨ
        subst e3
        have ez := q o' (by omega) rfl
        refine ⟨_, ez, ?_, ?_, ⟨hE0, s', o', has, l1, l2, (zyρi_n (by decide)).trans a1, (zyρi_n (by decide)).trans a2, fun _ => (zyρi_n (by decide)).trans a3, fun _ => zyρi_e, fun h => absurd (show 2 = 3 ∨ 2 = 4 from h) (by decide), fun h => absurd (show 5 ≤ 2 from h) (by decide), fun h => absurd (show 2 = 6 from h) (by decide)⟩, (show 10 - 2 < 10 - 1 by decide)⟩
        · rw [zgD_B (by omega)]
          omega
        · rw [zgD_B (by omega)]
          omega
    · have hx : x ∈ [zxah_cx0, zxah_cx1] := hx
      have hg : ∀ k, k < 5 → ρ2 k = ρ k := hag
      have hI := hInv
      have hI : (zyEl (zymr r c) B H) = (zyEl (zymr r c) B s.heap) ∧ ∃ s o : Nat, as = [Int32.ofNat s, Int32.ofNat o] ∧ s < 80 ∧ o < 80 ∧ ρ 1 = Int32.ofNat s ∧ ρ 2 = Int32.ofNat o ∧ (1 ≤ 2 ∧ 2 ≤ 4 → ρ 3 = Int32.ofNat (zgD (zgX1 c s))) ∧ (2 = 2 ∨ 2 = 4 → ρ 4 = Int32.ofNat (zgD (zgX1 c o))) ∧ (2 = 3 ∨ 2 = 4 → ¬ zgX1 c s = zgX1 c o) ∧ (5 ≤ 2 → zgX1 c s = zgX1 c o ∧ ρ 3 = Int32.ofNat (zgD (zgY1 c s))) ∧ (2 = 6 → ρ 4 = Int32.ofNat (zgD (zgY1 c o))) := hI
      obtain ⟨hF, hB, hM⟩ := hXs
      have hEE : (zyEl (zymr r c) B H2) = (zyEl (zymr r c) B H) := zyfr0 hfr
      rcases List.mem_cons.mp hx with ex | hx
      · subst ex
        obtain ⟨hE0, s', o', has, l1, l2, r1, r2, j3, j4, j5, j6, j7⟩ := hI
        have a1 : ρ2 1 = Int32.ofNat s' := (hg 1 (by decide)).trans r1
        have a2 : ρ2 2 = Int32.ofNat o' := (hg 2 (by decide)).trans r2
        have bs := zgX1_le h1 h2 h3 h4 l1
        have bo := zgX1_le h1 h2 h3 h4 l2
        have cs := zgY1_le h1 h2 h3 h4 l1
        have co := zgY1_le h1 h2 h3 h4 l2
        have a3 := (hg 3 (by decide)).trans (j3 (by decide))
        have a4 := (hg 4 (by decide)).trans (j4 (by decide))
        have f0 := zyX23 hF 0 rfl
        have f0 : ¬ ρ2 3 = ρ2 4 := f0
        rw [a3, a4] at f0
        have ne : ¬ zgX1 c s' = zgX1 c o' := fun q => f0 (by rw [q])
        refine zyCa1r hRu hIH hAt hB hxo (ix := 119) (ax := 3280) rfl rfl rfl hmexo ⟨rfl, rfl, rfl, rfl⟩ (by decide) [34359738369] [] rfl (by decide) ⟨by decide, by decide⟩ rfl ⟨3, by decide⟩ [595, 34359738369, 68719476737] [(0, 4294967295), (2147483648, 2147483727), (2147483648, 2147483727)] 2147483647 2147483657 rfl (by decide) rfl rfl rfl rfl [] rfl rfl ?_ ?_
        · show zyΦx [ρ2 1] _
          rw [a1]
          exact ⟨s', by omega, rfl⟩
        · intro E3 vo hT3 hΨ
          have hΨ : zyΨx (zgX1 c) [ρ2 1] _ E3 vo := hΨ
          rw [a1, hEE] at hΨ
          obtain ⟨e3, q⟩ := hΨ
          subst e3
          have ez := q s' (by omega) rfl
          refine ⟨_, ez, ?_, ?_, ⟨hE0, s', o', has, l1, l2, (zyρi_n (by decide)).trans a1, (zyρi_n (by decide)).trans a2, fun _ => zyρi_e, fun h => absurd (show 3 = 2 ∨ 3 = 4 from h) (by decide), fun _ => ne, fun h => absurd (show 5 ≤ 3 from h) (by decide), fun h => absurd (show 3 = 6 from h) (by decide)⟩, (show 10 - 3 < 10 - 2 by decide)⟩
          · rw [zgD_B (by omega)]
            omega
          · rw [zgD_B (by omega)]
            omega
      · skip
        have ex := List.mem_singleton.mp hx
        subst ex
        obtain ⟨hE0, s', o', has, l1, l2, r1, r2, j3, j4, j5, j6, j7⟩ := hI
        have a1 : ρ2 1 = Int32.ofNat s' := (hg 1 (by decide)).trans r1
        have a2 : ρ2 2 = Int32.ofNat o' := (hg 2 (by decide)).trans r2
        have bs := zgX1_le h1 h2 h3 h4 l1
        have bo := zgX1_le h1 h2 h3 h4 l2
        have cs := zgY1_le h1 h2 h3 h4 l1
        have co := zgY1_le h1 h2 h3 h4 l2
        have a3 := (hg 3 (by decide)).trans (j3 (by decide))
        have a4 := (hg 4 (by decide)).trans (j4 (by decide))
        have f0 := zyX22 hF 0 rfl
        have f0 : ρ2 3 = ρ2 4 := f0
        rw [a3, a4] at f0
        have eq := zgD_i (by omega) (by omega) f0
        refine zyCa1r hRu hIH hAt hB hyo (ix := 122) (ax := 3296) rfl rfl rfl hmeyo ⟨rfl, rfl, rfl, rfl⟩ (by decide) [34359738369] [] rfl (by decide) ⟨by decide, by decide⟩ rfl ⟨5, by decide⟩ [595, 34359738369, 68719476737] [(0, 4294967295), (2147483648, 2147483727), (2147483648, 2147483727)] 2147483647 2147483687 rfl (by decide) rfl rfl rfl rfl [] rfl rfl ?_ ?_
        · show zyΦx [ρ2 1] _
          rw [a1]
          exact ⟨s', by omega, rfl⟩
        · intro E3 vo hT3 hΨ
          have hΨ : zyΨx (zgY1 c) [ρ2 1] _ E3 vo := hΨ
          rw [a1, hEE] at hΨ
          obtain ⟨e3, q⟩ := hΨ
          subst e3
          have ez := q s' (by omega) rfl
          refine ⟨_, ez, ?_, ?_, ⟨hE0, s', o', has, l1, l2, (zyρi_n (by decide)).trans a1, (zyρi_n (by decide)).trans a2, fun h => absurd (show 1 ≤ 5 ∧ 5 ≤ 4 from h) (by decide), fun h => absurd (show 5 = 2 ∨ 5 = 4 from h) (by decide), fun h => absurd (show 5 = 3 ∨ 5 = 4 from h) (by decide), fun _ => ⟨eq, zyρi_e⟩, fun h => absurd (show 5 = 6 from h) (by decide)⟩, (show 10 - 5 < 10 - 2 by decide)⟩
          · rw [zgD_B (by omega)]
            omega
          · rw [zgD_B (by omega)]
            omega
    · have hx : x ∈ [zxah_dx0] := hx
      have hg : ∀ k, k < 4 → ρ2 k = ρ k := hag
      have hI := hInv
      have hI : (zyEl (zymr r c) B H) = (zyEl (zymr r c) B s.heap) ∧ ∃ s o : Nat, as = [Int32.ofNat s, Int32.ofNat o] ∧ s < 80 ∧ o < 80 ∧ ρ 1 = Int32.ofNat s ∧ ρ 2 = Int32.ofNat o ∧ (1 ≤ 3 ∧ 3 ≤ 4 → ρ 3 = Int32.ofNat (zgD (zgX1 c s))) ∧ (3 = 2 ∨ 3 = 4 → ρ 4 = Int32.ofNat (zgD (zgX1 c o))) ∧ (3 = 3 ∨ 3 = 4 → ¬ zgX1 c s = zgX1 c o) ∧ (5 ≤ 3 → zgX1 c s = zgX1 c o ∧ ρ 3 = Int32.ofNat (zgD (zgY1 c s))) ∧ (3 = 6 → ρ 4 = Int32.ofNat (zgD (zgY1 c o))) := hI
      obtain ⟨hF, hB, hM⟩ := hXs
      have hEE : (zyEl (zymr r c) B H2) = (zyEl (zymr r c) B H) := zyfr0 hfr
      have ex := List.mem_singleton.mp hx
      subst ex
      obtain ⟨hE0, s', o', has, l1, l2, r1, r2, j3, j4, j5, j6, j7⟩ := hI
      have a1 : ρ2 1 = Int32.ofNat s' := (hg 1 (by decide)).trans r1
      have a2 : ρ2 2 = Int32.ofNat o' := (hg 2 (by decide)).trans r2
      have bs := zgX1_le h1 h2 h3 h4 l1
      have bo := zgX1_le h1 h2 h3 h4 l2
      have cs := zgY1_le h1 h2 h3 h4 l1
      have co := zgY1_le h1 h2 h3 h4 l2
      have a3 := (hg 3 (by decide)).trans (j3 (by decide))
      refine zyCa1r hRu hIH hAt hB hxo (ix := 119) (ax := 3280) rfl rfl rfl hmexo ⟨rfl, rfl, rfl, rfl⟩ (by decide) [68719476737] [103079215105] rfl (by decide) ⟨by decide, by decide⟩ rfl ⟨4, by decide⟩ [595, 34359738369, 68719476737, 103079215105] [(0, 4294967295), (2147483648, 2147483727), (2147483648, 2147483727), (2147483647, 2147483657)] 2147483647 2147483657 rfl (by decide) rfl rfl rfl rfl [103079215105] rfl rfl ?_ ?_
      · show zyΦx [ρ2 2] _
        rw [a2]
        exact ⟨o', by omega, rfl⟩
      · intro E3 vo hT3 hΨ
        have hΨ : zyΨx (zgX1 c) [ρ2 2] _ E3 vo := hΨ
        rw [a2, hEE] at hΨ
        obtain ⟨e3, q⟩ := hΨ
        subst e3
        have ez := q o' (by omega) rfl
        refine ⟨_, ez, ?_, ?_, ⟨hE0, s', o', has, l1, l2, (zyρi_n (by decide)).trans a1, (zyρi_n (by decide)).trans a2, fun _ => (zyρi_n (by decide)).trans a3, fun _ => zyρi_e, fun _ => j5 (by decide), fun h => absurd (show 5 ≤ 4 from h) (by decide), fun h => absurd (show 4 = 6 from h) (by decide)⟩, (show 10 - 4 < 10 - 3 by decide)⟩
        · rw [zgD_B (by omega)]
          omega
        · rw [zgD_B (by omega)]
          omega
    · cases hx
    · have hx : x ∈ [zxah_fx0] := hx
      have hg : ∀ k, k < 4 → ρ2 k = ρ k := hag
      have hI := hInv
      have hI : (zyEl (zymr r c) B H) = (zyEl (zymr r c) B s.heap) ∧ ∃ s o : Nat, as = [Int32.ofNat s, Int32.ofNat o] ∧ s < 80 ∧ o < 80 ∧ ρ 1 = Int32.ofNat s ∧ ρ 2 = Int32.ofNat o ∧ (1 ≤ 5 ∧ 5 ≤ 4 → ρ 3 = Int32.ofNat (zgD (zgX1 c s))) ∧ (5 = 2 ∨ 5 = 4 → ρ 4 = Int32.ofNat (zgD (zgX1 c o))) ∧ (5 = 3 ∨ 5 = 4 → ¬ zgX1 c s = zgX1 c o) ∧ (5 ≤ 5 → zgX1 c s = zgX1 c o ∧ ρ 3 = Int32.ofNat (zgD (zgY1 c s))) ∧ (5 = 6 → ρ 4 = Int32.ofNat (zgD (zgY1 c o))) := hI
      obtain ⟨hF, hB, hM⟩ := hXs
      have hEE : (zyEl (zymr r c) B H2) = (zyEl (zymr r c) B H) := zyfr0 hfr
      have ex := List.mem_singleton.mp hx
      subst ex
      obtain ⟨hE0, s', o', has, l1, l2, r1, r2, j3, j4, j5, j6, j7⟩ := hI
      have a1 : ρ2 1 = Int32.ofNat s' := (hg 1 (by decide)).trans r1
      have a2 : ρ2 2 = Int32.ofNat o' := (hg 2 (by decide)).trans r2
      have bs := zgX1_le h1 h2 h3 h4 l1
      have bo := zgX1_le h1 h2 h3 h4 l2
      have cs := zgY1_le h1 h2 h3 h4 l1
      have co := zgY1_le h1 h2 h3 h4 l2
      obtain ⟨eq, b3⟩ := j6 (by decide)
      have a3 := (hg 3 (by decide)).trans b3
      refine zyCa1r hRu hIH hAt hB hyo (ix := 122) (ax := 3296) rfl rfl rfl hmeyo ⟨rfl, rfl, rfl, rfl⟩ (by decide) [68719476737] [103079215105] rfl (by decide) ⟨by decide, by decide⟩ rfl ⟨6, by decide⟩ [595, 34359738369, 68719476737, 103079215105] [(0, 4294967295), (2147483648, 2147483727), (2147483648, 2147483727), (2147483647, 2147483687)] 2147483647 2147483687 rfl (by decide) rfl rfl rfl rfl [103079215105] rfl rfl ?_ ?_
      · show zyΦx [ρ2 2] _
        rw [a2]
        exact ⟨o', by omega, rfl⟩
      · intro E3 vo hT3 hΨ
        have hΨ : zyΨx (zgY1 c) [ρ2 2] _ E3 vo := hΨ
        rw [a2, hEE] at hΨ
        obtain ⟨e3, q⟩ := hΨ
        subst e3
        have ez := q o' (by omega) rfl
        refine ⟨_, ez, ?_, ?_, ⟨hE0, s', o', has, l1, l2, (zyρi_n (by decide)).trans a1, (zyρi_n (by decide)).trans a2, fun h => absurd (show 1 ≤ 6 ∧ 6 ≤ 4 from h) (by decide), fun h => absurd (show 6 = 2 ∨ 6 = 4 from h) (by decide), fun h => absurd (show 6 = 3 ∨ 6 = 4 from h) (by decide), fun _ => ⟨eq, (zyρi_n (by decide)).trans a3⟩, fun _ => zyρi_e⟩, (show 10 - 6 < 10 - 5 by decide)⟩
        · rw [zgD_B (by omega)]
          omega
        · rw [zgD_B (by omega)]
          omega
    · cases hx
  · intro as E0 E E2 hT0 hΦ hlen i ρ hT hInv x hx ρ2 N2 B vo hXs hag hfr hT2 hvo
    rcases i with ⟨i, hi⟩
    have hi2 : i = 0 ∨ i = 1 ∨ i = 2 ∨ i = 3 ∨ i = 4 ∨ i = 5 ∨ i = 6 := by omega
    rcases hi2 with rfl | rfl | rfl | rfl | rfl | rfl | rfl
    · cases hx
    · cases hx
    · cases hx
    · cases hx
    · have hx : x ∈ [zxah_er0, zxah_er1] := hx
      have hg : ∀ k, k < 5 → ρ2 k = ρ k := hag
      have hI := hInv
      have hI : E = E0 ∧ ∃ s o : Nat, as = [Int32.ofNat s, Int32.ofNat o] ∧ s < 80 ∧ o < 80 ∧ ρ 1 = Int32.ofNat s ∧ ρ 2 = Int32.ofNat o ∧ (1 ≤ 4 ∧ 4 ≤ 4 → ρ 3 = Int32.ofNat (zgD (zgX1 c s))) ∧ (4 = 2 ∨ 4 = 4 → ρ 4 = Int32.ofNat (zgD (zgX1 c o))) ∧ (4 = 3 ∨ 4 = 4 → ¬ zgX1 c s = zgX1 c o) ∧ (5 ≤ 4 → zgX1 c s = zgX1 c o ∧ ρ 3 = Int32.ofNat (zgD (zgY1 c s))) ∧ (4 = 6 → ρ 4 = Int32.ofNat (zgD (zgY1 c o))) := hI
      obtain ⟨hF, hB, hM⟩ := hXs
      have hEE : E2 = E := zyfr0 hfr
      rcases List.mem_cons.mp hx with ex | hx
      · subst ex
        obtain ⟨hE0, s', o', has, l1, l2, r1, r2, j3, j4, j5, j6, j7⟩ := hI
        have a1 : ρ2 1 = Int32.ofNat s' := (hg 1 (by decide)).trans r1
        have a2 : ρ2 2 = Int32.ofNat o' := (hg 2 (by decide)).trans r2
        have bs := zgX1_le h1 h2 h3 h4 l1
        have bo := zgX1_le h1 h2 h3 h4 l2
        have cs := zgY1_le h1 h2 h3 h4 l1
        have co := zgY1_le h1 h2 h3 h4 l2
        have a3 := (hg 3 (by decide)).trans (j3 (by decide))
        have a4 := (hg 4 (by decide)).trans (j4 (by decide))
        have ne := j5 (by decide)
        have f0 := zyX20 hF 0 rfl
        have f0 : ρ2 3 < ρ2 4 := f0
        rw [a3, a4, zylt_B, zgD_B (by omega), zgD_B (by omega)] at f0
        refine ⟨hEE.trans hE0, 1, zyvo_1 (c := 8) (by decide) (show zyvo (zyXn B ρ2 N2) [8] vo from hvo), Or.inr rfl, fun s2 o2 e m1 m2 => ?_⟩
        rw [has] at e
        obtain ⟨e1, e2⟩ := zyas2 e (by omega) (by omega) (by omega) (by omega)
        subst e1
        subst e2
        unfold zky
        exact ⟨fun _ => by omega, fun _ => rfl⟩
      · skip
        have ex := List.mem_singleton.mp hx
        subst ex
        obtain ⟨hE0, s', o', has, l1, l2, r1, r2, j3, j4, j5, j6, j7⟩ := hI
        have a1 : ρ2 1 = Int32.ofNat s' := (hg 1 (by decide)).trans r1
        have a2 : ρ2 2 = Int32.ofNat o' := (hg 2 (by decide)).trans r2
        have bs := zgX1_le h1 h2 h3 h4 l1
        have bo := zgX1_le h1 h2 h3 h4 l2
        have cs := zgY1_le h1 h2 h3 h4 l1
        have co := zgY1_le h1 h2 h3 h4 l2
        have a3 := (hg 3 (by decide)).trans (j3 (by decide))
        have a4 := (hg 4 (by decide)).trans (j4 (by decide))
        have ne := j5 (by decide)
        have f0 := zyX21 hF 0 rfl
        have f0 : ¬ ρ2 3 < ρ2 4 := f0
        rw [a3, a4, zylt_B, zgD_B (by omega), zgD_B (by omega)] at f0
        refine ⟨hEE.trans hE0, 0, zyvo_1 (c := 0) (by decide) (show zyvo (zyXn B ρ2 N2) [0] vo from hvo), Or.inl rfl, fun s2 o2 e m1 m2 => ?_⟩
        rw [has] at e
        obtain ⟨e1, e2⟩ := zyas2 e (by omega) (by omega) (by omega) (by omega)
        subst e1
        subst e2
        unfold zky
        exact ⟨fun h => absurd h (by decide), fun h => by omega⟩
    · cases hx
    · have hx : x ∈ [zxah_gr0, zxah_gr1] := hx
      have hg : ∀ k, k < 5 → ρ2 k = ρ k := hag
      have hI := hInv
      have hI : E = E0 ∧ ∃ s o : Nat, as = [Int32.ofNat s, Int32.ofNat o] ∧ s < 80 ∧ o < 80 ∧ ρ 1 = Int32.ofNat s ∧ ρ 2 = Int32.ofNat o ∧ (1 ≤ 6 ∧ 6 ≤ 4 → ρ 3 = Int32.ofNat (zgD (zgX1 c s))) ∧ (6 = 2 ∨ 6 = 4 → ρ 4 = Int32.ofNat (zgD (zgX1 c o))) ∧ (6 = 3 ∨ 6 = 4 → ¬ zgX1 c s = zgX1 c o) ∧ (5 ≤ 6 → zgX1 c s = zgX1 c o ∧ ρ 3 = Int32.ofNat (zgD (zgY1 c s))) ∧ (6 = 6 → ρ 4 = Int32.ofNat (zgD (zgY1 c o))) := hI
      obtain ⟨hF, hB, hM⟩ := hXs
      have hEE : E2 = E := zyfr0 hfr
      rcases List.mem_cons.mp hx with ex | hx
      · subst ex
        obtain ⟨hE0, s', o', has, l1, l2, r1, r2, j3, j4, j5, j6, j7⟩ := hI
        have a1 : ρ2 1 = Int32.ofNat s' := (hg 1 (by decide)).trans r1
        have a2 : ρ2 2 = Int32.ofNat o' := (hg 2 (by decide)).trans r2
        have bs := zgX1_le h1 h2 h3 h4 l1
        have bo := zgX1_le h1 h2 h3 h4 l2
        have cs := zgY1_le h1 h2 h3 h4 l1
        have co := zgY1_le h1 h2 h3 h4 l2
        obtain ⟨eq, b3⟩ := j6 (by decide)
        have a3 := (hg 3 (by decide)).trans b3
        have a4 := (hg 4 (by decide)).trans (j7 rfl)
        have f0 := zyX20 hF 0 rfl
        have f0 : ρ2 3 < ρ2 4 := f0
        rw [a3, a4, zylt_B, zgD_B (by omega), zgD_B (by omega)] at f0
        refine ⟨hEE.trans hE0, 1, zyvo_1 (c := 8) (by decide) (show zyvo (zyXn B ρ2 N2) [8] vo from hvo), Or.inr rfl, fun s2 o2 e m1 m2 => ?_⟩
        rw [has] at e
        obtain ⟨e1, e2⟩ := zyas2 e (by omega) (by omega) (by omega) (by omega)
        subst e1
        subst e2
        unfold zky
        exact ⟨fun _ => by omega, fun _ => rfl⟩
      · skip
        have ex := List.mem_singleton.mp hx
        subst ex
        obtain ⟨hE0, s', o', has, l1, l2, r1, r2, j3, j4, j5, j6, j7⟩ := hI
        have a1 : ρ2 1 = Int32.ofNat s' := (hg 1 (by decide)).trans r1
        have a2 : ρ2 2 = Int32.ofNat o' := (hg 2 (by decide)).trans r2
        have bs := zgX1_le h1 h2 h3 h4 l1
        have bo := zgX1_le h1 h2 h3 h4 l2
        have cs := zgY1_le h1 h2 h3 h4 l1
        have co := zgY1_le h1 h2 h3 h4 l2
        obtain ⟨eq, b3⟩ := j6 (by decide)
        have a3 := (hg 3 (by decide)).trans b3
        have a4 := (hg 4 (by decide)).trans (j7 rfl)
        have f0 := zyX21 hF 0 rfl
        have f0 : ¬ ρ2 3 < ρ2 4 := f0
        rw [a3, a4, zylt_B, zgD_B (by omega), zgD_B (by omega)] at f0
        refine ⟨hEE.trans hE0, 0, zyvo_1 (c := 0) (by decide) (show zyvo (zyXn B ρ2 N2) [0] vo from hvo), Or.inl rfl, fun s2 o2 e m1 m2 => ?_⟩
        rw [has] at e
        obtain ⟨e1, e2⟩ := zyas2 e (by omega) (by omega) (by omega) (by omega)
        subst e1
        subst e2
        unfold zky
        exact ⟨fun h => absurd h (by decide), fun h => by omega⟩
