/-! WORDS OF LETTERS come behind -/
def zVl (m : Nat) (x : Int32) : Prop := ∃ (σ : Bool) (k : Nat), zLt σ k m x
theorem zVl_neg {m : Nat} {x : Int32} (hm : m ≤ 8) (h : zVl m x) : zVl m (Int32.ofNat 0 - x) := by
  obtain ⟨σ, k, h1, ⟨-, h2⟩ | ⟨-, h2⟩⟩ := h
  · refine ⟨false, k, h1, Or.inr ⟨rfl, ?_⟩⟩
    rw [h2]
    apply zN_inj
    rw [zN_sub, zN_of, zN_of, zN_of]
    omega
  · exact ⟨true, k, h1, Or.inl ⟨rfl, by rw [h2, zyOng (by omega)]⟩⟩
def zBs (E : zyEm) (n m : Nat) : Prop := n ≤ 1299 ∧ m ≤ 8 ∧ E 74 19 = some (.int (Int32.ofNat n)) ∧ E 74 21 = some (.int (Int32.ofNat m)) ∧ E 75 2 = some (.int (Int32.ofNat m)) ∧ zBr E m n
theorem zBs_m {E : zyEm} {n m n' m' : Nat} (h : zBs E n m) (h' : zBs E n' m') : n = n' ∧ m = m' := by
  obtain ⟨h1, h2, h3, h4, -⟩ := h
  obtain ⟨g1, g2, g3, g4, -⟩ := h'
  rw [h3] at g3
  rw [h4] at g4
  exact ⟨zyOi (by omega) (by omega) (Value.int.inj (Option.some.inj g3)), zyOi (by omega) (by omega) (Value.int.inj (Option.some.inj g4))⟩
theorem zBs_jo {E E3 : zyEm} {n m : Nat} {x : Int32} {vo : Option Value} (h : zBs E n m) (hn : n ≤ 1298) (hΨ : zyΨjo [x] E E3 vo) : vo = none ∧ ∃ n', n' ≤ n + 1 ∧ zBs E3 n' m ∧ zyJo E E3 := by
  obtain ⟨h1, h2, h3, h4, h5, h6⟩ := h
  obtain ⟨ev, hq⟩ := hΨ
  obtain ⟨n', q1, q2, q3, q4⟩ := hq n m hn h2 h3 h4
  exact ⟨ev, n', q1, ⟨by omega, h2, q2, (q4 74 21 (by decide) (by decide) (fun z => absurd z.2 (by decide))).trans h4, (q4 75 2 (by decide) (by decide) (fun z => absurd z.1 (by decide))).trans h5, q3⟩, q4⟩
theorem zBs_Φ {E : zyEm} {n m : Nat} {x : Int32} (h : zBs E n m) (hn : n ≤ 1298) (hv : zVl m x) : zyΦjo [x] E := by
  obtain ⟨h1, h2, h3, h4, h5, h6⟩ := h
  obtain ⟨σ, k, hk⟩ := hv
  exact ⟨σ, k, n, m, x, rfl, hk, hn, h2, h3, h4, h6⟩
theorem zyJo_t {E E2 E3 : zyEm} (h1 : zyJo E E2) (h2 : zyJo E2 E3) : zyJo E E3 := fun a k p1 p2 p3 => (h2 a k p1 p2 p3).trans (h1 a k p1 p2 p3)
theorem zyJo_75 {E E2 : zyEm} (h : zyJo E E2) (k : Nat) : zyI E2 75 k = zyI E 75 k := zyI_eq (h 75 k (by decide) (by decide) (fun z => absurd z.1 (by decide)))
theorem zyI_s {E : zyEm} {a k : Nat} {x : Int32} (h : E a k = some (.int x)) : zyI E a k = x := by
  unfold zyI
  rw [h]
theorem zyBd {x : Int32} (h : 1 ≤ zB x) : zB (x + Int32.ofNat 4294967295) = zB x - 1 := by
  have e1 := zB_eq x
  have e2 := zB_eq (x + Int32.ofNat 4294967295)
  rw [zN_add, zN_of] at e2
  have l1 := x.toBitVec.isLt
  omega
/-- letters of the word; of the wished one -/
def zLv (E : zyEm) (m : Nat) : Prop := ∀ k, k < 300 → Int32.ofNat k < zyI E 75 4 → zVl m (zyI E 75 (160 + k))
def zWl (E : zyEm) (m : Nat) : Prop := ∀ k, k < 60 → Int32.ofNat k < zyI E 75 5 → zVl m (zyI E 75 (460 + k))
theorem zLv_jo {E E2 : zyEm} {m : Nat} (h : zyJo E E2) (hv : zLv E m) : zLv E2 m := fun k hk h2 => by
  rw [zyJo_75 h] at h2 ⊢
  exact hv k hk h2
theorem zWl_jo {E E2 : zyEm} {m : Nat} (h : zyJo E E2) (hv : zWl E m) : zWl E2 m := fun k hk h2 => by
  rw [zyJo_75 h] at h2 ⊢
  exact hv k hk h2
def zyΦwd (U : Nat) (V : zyEm → Nat → Prop) (_ : List Int32) (E : zyEm) : Prop := ∃ n m : Nat, zBs E n m ∧ n + U ≤ 1299 ∧ V E m
def zyΨwd (U : Nat) (_ : List Int32) (E E2 : zyEm) (vo : Option Value) : Prop := vo = none ∧ zyJo E E2 ∧ ∀ n m : Nat, zBs E n m → n + U ≤ 1299 → ∃ n', n' ≤ n + U ∧ zBs E2 n' m
section YGO7
variable {l : Launch} {mi : zyB} {en : zEn} {dep : Nat} {B : zCx} {s : State} {ι : Type} {φ : ι → zyPh} {Inv : ι → (Nat → Int32) → zyEm → Prop} {Mu : ι → (Nat → Int32) → zyEm → Nat} {M : Nat} {Wg : zyWt} {x : zyXp} {ρ2 : Nat → Int32} {N : Nat} {H : Heap} {locs : List Loc} {lsB : Array Slot} {stA : List Value}
noncomputable def zygoT (cs : List Nat) (n : Nat) (st2 : List Nat) : List Nat → Bool := List.rec (motive := fun _ => List Nat → Bool) (fun st1 => zynil st1) (fun c2 _ ih st1 => List.rec (motive := fun _ => Bool) false (fun c1 t _ => zand (zif (zand (Nat.beq c1 c2) (zif (Nat.beq (Nat.mod c1 8) 0) true (Nat.beq (Nat.mod c1 8) 3))) true (zand (Nat.beq c2 (zysym (Nat.div c2 34359738368))) (zand (Nat.beq (zyag cs (Nat.div c2 34359738368)) c1) (zand (zyk1b c1) (Nat.ble (Nat.succ (Nat.div c2 34359738368)) n))))) (ih t)) st1) st2
theorem zygoT_iff {cs : List Nat} {n : Nat} {ρ : Nat → Int32} {N : Nat} : ∀ {st2 st1 : List Nat} {vs : List Value}, zygoT cs n st2 st1 = true → zySt (zyXn B ρ N) st1 vs → zySt (zyXn B (fun k => zyw ρ (zyag cs k)) n) st2 vs := by
  intro st2
  induction st2 with
  | nil =>
    intro st1 vs h hs
    cases st1 with
    | nil => rw [zySt_n hs]; trivial
    | cons a t => cases h
  | cons c2 t2 ih =>
    intro st1 vs h hs
    cases st1 with
    | nil => cases h
    | cons c1 t1 =>
      obtain ⟨v, u, rfl, g1, g2⟩ := zySt_c hs
      have h : zand (zif (zand (Nat.beq c1 c2) (zif (Nat.beq (Nat.mod c1 8) 0) true (Nat.beq (Nat.mod c1 8) 3))) true (zand (Nat.beq c2 (zysym (Nat.div c2 34359738368))) (zand (Nat.beq (zyag cs (Nat.div c2 34359738368)) c1) (zand (zyk1b c1) (Nat.ble (Nat.succ (Nat.div c2 34359738368)) n))))) (zygoT cs n t2 t1) = true := h
      obtain ⟨h1, h2⟩ := zand_iff h
      refine ⟨?_, ih h2 g2⟩
      rcases zif_iff h1 with ⟨q, -⟩ | ⟨-, q⟩
      · obtain ⟨q1, q2⟩ := zand_iff q
        have q1 := zbeqT q1
        have q3 : c1 % 8 = 0 ∨ c1 % 8 = 3 := by
          rcases zif_iff q2 with ⟨q, -⟩ | ⟨-, q⟩
          · exact Or.inl (zbeqT q)
          · exact Or.inr (zbeqT q)
        rw [← q1]
        exact zyv_cl (by omega) g1
      · obtain ⟨q1, q⟩ := zand_iff q
        obtain ⟨q2, q⟩ := zand_iff q
        obtain ⟨q3, q4⟩ := zand_iff q
        have q1 := zbeqT q1
        have q2 := zbeqT q2
        have q4 := zbleT q4
        have g1 : zyv ρ N (zad B) c1 v := g1
        obtain ⟨z, rfl⟩ := zyv_int g1 (by have := zbleT q3; have : c1 % 8 ≤ 1 := this; omega)
        rw [q1]
        refine zyv_sym q4 ?_
        show zyw ρ (zyag cs _) = z
        rw [q2]
        exact (zyw_of g1 (zbleT q3)).symm
/-- with a stack -/
theorem zyGoS {nL : Nat} (hIH : zyIH mi nL B s φ Inv Mu M Wg) (hAt : zyAt mi B s nL x ρ2 N H locs lsB stA) (i2 : ι) (cs : List Nat) (hpc : x.1 = (φ i2).1) (hchk : zand (zygoB nL x.2.1 (φ i2) cs) (zygoT cs (zyln (φ i2).2.2.1) (φ i2).2.2.2.2 x.2.2.1) = true) (hkc : (φ i2).2.2.2.1 = []) (henv : zEnv (fun k => zyw ρ2 (zyag cs k)) (φ i2).2.2.1)
    (hInv : Inv i2 (fun k => zyw ρ2 (zyag cs k)) (zyEl mi B H)) (hMu : Mu i2 (fun k => zyw ρ2 (zyag cs k)) (zyEl mi B H) < M) : Wg H locs x.1 lsB stA := by
  obtain ⟨h1, h2⟩ := zand_iff hchk
  rw [hpc]
  refine hIH i2 _ H locs lsB stA hAt.1 hAt.2.1 hInv (zyAss hAt h1 (fun _ _ => rfl) henv hAt.2.2.1 ?_ (fun p hp => by rw [hkc] at hp; cases hp)) hMu
  rw [zyln_eq] at h2
  exact zygoT_iff h2 hAt.2.2.2.2.2
end YGO7
theorem zyjd_run : zyAllP (fun r c => zyrS (zymr r c) zxi241 (241, 0, 0, 0, 0) 7 zpjd (fun _ _ => []) zFjd zSjd zXjd zRjd 3) = true := by decide +kernel
theorem zyjoinsWished {l : Launch} {r c : Nat} (h1 : 1 ≤ r) (h2 : r ≤ 4) (h3 : 1 ≤ c) (h4 : c ≤ 5) {en : zEn} {me : zMe} (hen : zG zxMeta 241 = some en) (hme : zG zMeth 241 = some me) : zyHc l (zymr r c) en me 7 0 (zyΦwd 60 zWl) (zyΨwd 60) := by
  have een : zG zxMeta 241 = some (zxi241, 1, 2, 11, 241, 0, 0, 0, 0) := rfl
  obtain ⟨me1, hme1, hOK⟩ := zall hen
  rw [hme] at hme1
  cases hme1
  rw [een] at hen
  cases hen
  have hr := zyAllP_iff zyjd_run h1 h2 h3 h4
  obtain ⟨mejo, hmejo, -⟩ := zall (show zG zxMeta 237 = some (zxi237, 2, 5, 11, 237, 0, 0, 0, 0) from rfl)
  have hjo := zyjoins (l := l) h1 h2 h3 h4 (show zG zxMeta 237 = some (zxi237, 2, 5, 11, 237, 0, 0, 0, 0) from rfl) hmejo
  refine zycutS (mi := zymr r c) hOK rfl rfl ⟨_, rfl, rfl⟩ (ι := Fin 3) (fun i => zpjd i.val) (fun _ _ => []) (fun i => zFjd i.val) (fun i => zSjd i.val) (fun i => zXjd i.val) (fun i => zRjd i.val) (fun i y2 ct en2 me2 h => by cases h) 200000 (fun i => zyAll_iff hr i.val i.isLt) ⟨0, by decide⟩ ⟨rfl, rfl, rfl, rfl⟩ ⟨by decide, by decide⟩
    (fun i as E0 ρ E => ∃ n0 n m k : Nat, zBs E0 n0 m ∧ n0 + 60 ≤ 1299 ∧ zWl E0 m ∧ zyJo E0 E ∧ zBs E n m ∧ k ≤ 60 ∧ (i.val = 0 → k = 0) ∧ (1 ≤ i.val → ρ 1 = Int32.ofNat k) ∧ (i.val ≤ 1 → n ≤ n0 + k) ∧ (i.val = 2 → k < 60 ∧ n ≤ n0 + k + 1)) (fun i as E0 ρ E => if i.val = 0 then 1000 else 2 * (60 - zyN1 (ρ 1)) + (2 - i.val)) ?_ ?_ ?_
  · intro as E hlen hT hΦ
    obtain ⟨n, m, b1, b2, b3⟩ := hΦ
    exact ⟨zEnv_c (zyfull _) (zEnv_c (zyfull _) zEnv_nil), n, n, m, 0, b1, b2, b3, fun _ _ _ _ _ => rfl, b1, Nat.zero_le _, fun _ => rfl, fun h => absurd (show 1 ≤ 0 from h) (by decide), fun _ => Nat.le_refl _, fun h => absurd (show 0 = 2 from h) (by decide)⟩
  · intro as B s Wg hRu hT0 hΦ hlen i ρ H hT hInv hIH x hx ρ2 N2 H2 locs lsB stA hAt hXs hag hfr hT2
    rcases i with ⟨i, hi⟩
    have hi2 : i = 0 ∨ i = 1 ∨ i = 2 := by omega
    rcases hi2 with rfl | rfl | rfl
    · have hx : x ∈ [zxjd_ax0] := hx
      have hg : ∀ k, k < 2 → ρ2 k = ρ k := hag
      have hI := hInv
      have hI : ∃ n0 n m k : Nat, zBs (zyEl (zymr r c) B s.heap) n0 m ∧ n0 + 60 ≤ 1299 ∧ zWl (zyEl (zymr r c) B s.heap) m ∧ zyJo (zyEl (zymr r c) B s.heap) (zyEl (zymr r c) B H) ∧ zBs (zyEl (zymr r c) B H) n m ∧ k ≤ 60 ∧ (0 = 0 → k = 0) ∧ (1 ≤ 0 → ρ 1 = Int32.ofNat k) ∧ (0 ≤ 1 → n ≤ n0 + k) ∧ (0 = 2 → k < 60 ∧ n ≤ n0 + k + 1) := hI
      obtain ⟨hF, hB, hM⟩ := hXs
      have hEE : (zyEl (zymr r c) B H2) = (zyEl (zymr r c) B H) := zyfr0 hfr
      have ex := List.mem_singleton.mp hx
      subst ex
      obtain ⟨n0, n, m, k, b0, bn, hv, i1, hbs, hk, i2, i3, i4, i5⟩ := hI
      have hm8 : m ≤ 8 := hbs.2.1
      have k0 := i2 rfl
      have nn := i4 (by decide)
      refine zyGoB hIH hAt hB ⟨1, by decide⟩ [595, 0] rfl rfl rfl rfl ⟨n0, n, m, 0, b0, bn, hv, by rw [hEE]; exact i1, by rw [hEE]; exact hbs, Nat.zero_le _, fun h => absurd (show 1 = 0 from h) (by decide), fun _ => rfl, fun _ => by omega, fun h => absurd (show 1 = 2 from h) (by decide)⟩ ?_
      show 2 * (60 - zyN1 (Int32.ofNat 0)) + (2 - 1) < 1000
      omega
    · have hx : x ∈ [zxjd_bx0] := hx
      have hg : ∀ k, k < 2 → ρ2 k = ρ k := hag
      have hI := hInv
      have hI : ∃ n0 n m k : Nat, zBs (zyEl (zymr r c) B s.heap) n0 m ∧ n0 + 60 ≤ 1299 ∧ zWl (zyEl (zymr r c) B s.heap) m ∧ zyJo (zyEl (zymr r c) B s.heap) (zyEl (zymr r c) B H) ∧ zBs (zyEl (zymr r c) B H) n m ∧ k ≤ 60 ∧ (1 = 0 → k = 0) ∧ (1 ≤ 1 → ρ 1 = Int32.ofNat k) ∧ (1 ≤ 1 → n ≤ n0 + k) ∧ (1 = 2 → k < 60 ∧ n ≤ n0 + k + 1) := hI
      obtain ⟨hF, hB, hM⟩ := hXs
      have hEE : (zyEl (zymr r c) B H2) = (zyEl (zymr r c) B H) := zyfr0 hfr
      have ex := List.mem_singleton.mp hx
      subst ex
      obtain ⟨n0, n, m, k, b0, bn, hv, i1, hbs, hk, i2, i3, i4, i5⟩ := hI
      have hm8 : m ≤ 8 := hbs.2.1
      have e75 : ∀ q, zyI (zyEl (zymr r c) B H) 75 q = zyI (zyEl (zymr r c) B s.heap) 75 q := zyJo_75 i1
      have a1 : ρ2 1 = Int32.ofNat k := (hg 1 (by decide)).trans (i3 (by decide))
      have nn := i4 (by decide)
      obtain ⟨n3, w1, w2, w3⟩ := zyXe hF 0 rfl
      have w1 : Int32.ofNat 5 = Int32.ofNat n3 := w1
      have w3 : zyEl (zymr r c) B H 75 n3 = some (.int (ρ2 2)) := w3
      rw [← zyOi (by omega) (by omega) w1] at w3
      have f1 := zyX20 hF 1 rfl
      have f1 : ρ2 1 < ρ2 2 := f1
      rw [a1, ← zyI_s w3, e75] at f1
      have kb : 2147483648 ≤ zB (ρ2 1) ∧ zB (ρ2 1) ≤ 2147483707 := zyXb hB 0 rfl
      rw [a1, zyBn (by omega)] at kb
      obtain ⟨n4, w4, w5, w6⟩ := zyXe hF 2 rfl
      have w4 : ρ2 1 + Int32.ofNat 460 = Int32.ofNat n4 := w4
      have w6 : zyEl (zymr r c) B H 75 n4 = some (.int (ρ2 3)) := w6
      rw [a1, zyOa] at w4
      have e4 := zyOi (by omega) (by omega) w4
      rw [← e4] at w6
      have hval : zVl m (ρ2 3) := by
        have := hv k (by omega) f1
        rw [← e75, Nat.add_comm, zyI_s w6] at this
        exact this
      refine zyCa0 hRu hIH hAt hB hjo (ix := 242) (ax := 3792) rfl rfl rfl hmejo ⟨rfl, rfl, rfl, rfl⟩ (by decide) [103079215105] rfl (by decide) rfl ⟨2, by decide⟩ [595, 34359738369] rfl rfl rfl rfl ?_ ?_
      · show zyΦjo [ρ2 3] _
        rw [hEE]
        exact zBs_Φ hbs (by omega) hval
      · intro E3 vo hT3 hΨ
        have hΨ : zyΨjo [ρ2 3] _ E3 vo := hΨ
        rw [hEE] at hΨ
        obtain ⟨ev, n', q1, q2, q3⟩ := zBs_jo hbs (by omega) hΨ
        refine ⟨ev, ⟨n0, n', m, k, b0, bn, hv, zyJo_t i1 q3, q2, hk, fun h => absurd (show 2 = 0 from h) (by decide), fun _ => a1, fun h => absurd (show 2 ≤ 1 from h) (by decide), fun _ => ⟨by omega, by omega⟩⟩, ?_⟩
        show 2 * (60 - zyN1 (ρ2 1)) + (2 - 2) < 2 * (60 - zyN1 (ρ 1)) + (2 - 1)
        rw [a1, i3 (by decide)]
        omega
    · have hx : x ∈ [zxjd_cx0] := hx
      have hg : ∀ k, k < 2 → ρ2 k = ρ k := hag
      have hI := hInv
      have hI : ∃ n0 n m k : Nat, zBs (zyEl (zymr r c) B s.heap) n0 m ∧ n0 + 60 ≤ 1299 ∧ zWl (zyEl (zymr r c) B s.heap) m ∧ zyJo (zyEl (zymr r c) B s.heap) (zyEl (zymr r c) B H) ∧ zBs (zyEl (zymr r c) B H) n m ∧ k ≤ 60 ∧ (2 = 0 → k = 0) ∧ (1 ≤ 2 → ρ 1 = Int32.ofNat k) ∧ (2 ≤ 1 → n ≤ n0 + k) ∧ (2 = 2 → k < 60 ∧ n ≤ n0 + k + 1) := hI
      obtain ⟨hF, hB, hM⟩ := hXs
      have hEE : (zyEl (zymr r c) B H2) = (zyEl (zymr r c) B H) := zyfr0 hfr
      have ex := List.mem_singleton.mp hx
      subst ex
      obtain ⟨n0, n, m, k, b0, bn, hv, i1, hbs, hk, i2, i3, i4, i5⟩ := hI
      have hm8 : m ≤ 8 := hbs.2.1
      have a1 : ρ2 1 = Int32.ofNat k := (hg 1 (by decide)).trans (i3 (by decide))
      obtain ⟨k6, nn⟩ := i5 rfl
      have a1' : ρ2 1 + Int32.ofNat 1 = Int32.ofNat (k + 1) := by rw [a1, zyOa]
      refine zyGoB hIH hAt hB ⟨1, by decide⟩ [595, 34359738377] rfl rfl rfl rfl ⟨n0, n, m, k + 1, b0, bn, hv, by rw [hEE]; exact i1, by rw [hEE]; exact hbs, by omega, fun h => absurd (show 1 = 0 from h) (by decide), fun _ => a1', fun _ => by omega, fun h => absurd (show 1 = 2 from h) (by decide)⟩ ?_
      show 2 * (60 - zyN1 (ρ2 1 + Int32.ofNat 1)) + (2 - 1) < 2 * (60 - zyN1 (ρ 1)) + (2 - 2)
      rw [a1', i3 (by decide), zyN1_of (by omega), zyN1_of (by omega)]
      omega
  · intro as E0 E E2 hT0 hΦ hlen i ρ hT hInv x hx ρ2 N2 B vo hXs hag hfr hT2 hvo
    rcases i with ⟨i, hi⟩
    have hi2 : i = 0 ∨ i = 1 ∨ i = 2 := by omega
    rcases hi2 with rfl | rfl | rfl
    · cases hx
    · have hx : x ∈ [zxjd_br0] := hx
      have hg : ∀ k, k < 2 → ρ2 k = ρ k := hag
      have hI := hInv
      have hI : ∃ n0 n m k : Nat, zBs E0 n0 m ∧ n0 + 60 ≤ 1299 ∧ zWl E0 m ∧ zyJo E0 E ∧ zBs E n m ∧ k ≤ 60 ∧ (1 = 0 → k = 0) ∧ (1 ≤ 1 → ρ 1 = Int32.ofNat k) ∧ (1 ≤ 1 → n ≤ n0 + k) ∧ (1 = 2 → k < 60 ∧ n ≤ n0 + k + 1) := hI
      obtain ⟨hF, hB, hM⟩ := hXs
      have hEE : E2 = E := zyfr0 hfr
      have ex := List.mem_singleton.mp hx
      subst ex
      obtain ⟨n0, n, m, k, b0, bn, hv, i1, hbs, hk, i2, i3, i4, i5⟩ := hI
      have hm8 : m ≤ 8 := hbs.2.1
      have nn := i4 (by decide)
      refine ⟨zyvo_0 (show zyvo _ [] vo from hvo), by rw [hEE]; exact i1, fun n2 m2 d1 d2 => ?_⟩
      obtain ⟨e1, e2⟩ := zBs_m b0 d1
      subst e1
      subst e2
      rw [hEE]
      exact ⟨n, by omega, hbs⟩
    · cases hx
theorem zyud_run : zyAllP (fun r c => zyrS (zymr r c) zxi242 (242, 0, 0, 0, 0) 7 zpud (fun _ _ => []) zFud zSud zXud zRud 3) = true := by decide +kernel
theorem zyunjoinsWished {l : Launch} {r c : Nat} (h1 : 1 ≤ r) (h2 : r ≤ 4) (h3 : 1 ≤ c) (h4 : c ≤ 5) {en : zEn} {me : zMe} (hen : zG zxMeta 242 = some en) (hme : zG zMeth 242 = some me) : zyHc l (zymr r c) en me 7 0 (zyΦwd 60 zWl) (zyΨwd 61) := by
  have een : zG zxMeta 242 = some (zxi242, 1, 2, 11, 242, 0, 0, 0, 0) := rfl
  obtain ⟨me1, hme1, hOK⟩ := zall hen
  rw [hme] at hme1
  cases hme1
  rw [een] at hen
  cases hen
  have hr := zyAllP_iff zyud_run h1 h2 h3 h4
  obtain ⟨mejo, hmejo, -⟩ := zall (show zG zxMeta 237 = some (zxi237, 2, 5, 11, 237, 0, 0, 0, 0) from rfl)
  have hjo := zyjoins (l := l) h1 h2 h3 h4 (show zG zxMeta 237 = some (zxi237, 2, 5, 11, 237, 0, 0, 0, 0) from rfl) hmejo
  refine zycutS (mi := zymr r c) hOK rfl rfl ⟨_, rfl, rfl⟩ (ι := Fin 3) (fun i => zpud i.val) (fun _ _ => []) (fun i => zFud i.val) (fun i => zSud i.val) (fun i => zXud i.val) (fun i => zRud i.val) (fun i y2 ct en2 me2 h => by cases h) 200000 (fun i => zyAll_iff hr i.val i.isLt) ⟨0, by decide⟩ ⟨rfl, rfl, rfl, rfl⟩ ⟨by decide, by decide⟩
    (fun i as E0 ρ E => ∃ n0 n m : Nat, zBs E0 n0 m ∧ n0 + 60 ≤ 1299 ∧ zWl E0 m ∧ zyJo E0 E ∧ zBs E n m ∧ (i.val = 0 → n = n0) ∧ (1 ≤ i.val → 2147483646 ≤ zB (ρ 1) ∧ zB (ρ 1) ≤ 2147483707 ∧ ρ 1 < zyI E0 75 5) ∧ (i.val = 1 → n + zB (ρ 1) ≤ n0 + 2147483707) ∧ (i.val = 2 → 2147483648 ≤ zB (ρ 1) ∧ n + zB (ρ 1) ≤ n0 + 2147483708)) (fun i as E0 ρ E => if i.val = 0 then 10000 else 2 * (zB (ρ 1) - 2147483646) + (2 - i.val)) ?_ ?_ ?_
  · intro as E hlen hT hΦ
    obtain ⟨n, m, b1, b2, b3⟩ := hΦ
    exact ⟨zEnv_c (zyfull _) (zEnv_c (zyfull _) zEnv_nil), n, n, m, b1, b2, b3, fun _ _ _ _ _ => rfl, b1, fun _ => rfl, fun h => absurd (show 1 ≤ 0 from h) (by decide), fun h => absurd (show 0 = 1 from h) (by decide), fun h => absurd (show 0 = 2 from h) (by decide)⟩
  · intro as B s Wg hRu hT0 hΦ hlen i ρ H hT hInv hIH x hx ρ2 N2 H2 locs lsB stA hAt hXs hag hfr hT2
    rcases i with ⟨i, hi⟩
    have hi2 : i = 0 ∨ i = 1 ∨ i = 2 := by omega
    rcases hi2 with rfl | rfl | rfl
    · have hx : x ∈ [zxud_ax0] := hx
      have hg : ∀ k, k < 2 → ρ2 k = ρ k := hag
      have hI := hInv
      have hI : ∃ n0 n m : Nat, zBs (zyEl (zymr r c) B s.heap) n0 m ∧ n0 + 60 ≤ 1299 ∧ zWl (zyEl (zymr r c) B s.heap) m ∧ zyJo (zyEl (zymr r c) B s.heap) (zyEl (zymr r c) B H) ∧ zBs (zyEl (zymr r c) B H) n m ∧ (0 = 0 → n = n0) ∧ (1 ≤ 0 → 2147483646 ≤ zB (ρ 1) ∧ zB (ρ 1) ≤ 2147483707 ∧ ρ 1 < zyI (zyEl (zymr r c) B s.heap) 75 5) ∧ (0 = 1 → n + zB (ρ 1) ≤ n0 + 2147483707) ∧ (0 = 2 → 2147483648 ≤ zB (ρ 1) ∧ n + zB (ρ 1) ≤ n0 + 2147483708) := hI
      obtain ⟨hF, hB, hM⟩ := hXs
      have hEE : (zyEl (zymr r c) B H2) = (zyEl (zymr r c) B H) := zyfr0 hfr
      have ex := List.mem_singleton.mp hx
      subst ex
      obtain ⟨n0, n, m, b0, bn, hv, i1, hbs, i2, i3, i4, i5⟩ := hI
      have hm8 : m ≤ 8 := hbs.2.1
      have e75 : ∀ q, zyI (zyEl (zymr r c) B H) 75 q = zyI (zyEl (zymr r c) B s.heap) 75 q := zyJo_75 i1
      have k0 := i2 rfl
      obtain ⟨n3, w1, w2, w3⟩ := zyXe hF 0 rfl
      have w1 : Int32.ofNat 5 = Int32.ofNat n3 := w1
      have w3 : zyEl (zymr r c) B H 75 n3 = some (.int (ρ2 2)) := w3
      rw [← zyOi (by omega) (by omega) w1] at w3
      have bd : 2147483647 ≤ zB (ρ2 2) ∧ zB (ρ2 2) ≤ 2147483708 := zyXb hB 0 rfl
      have e1 := zyBd (x := ρ2 2) (by omega)
      have lt : ρ2 2 + Int32.ofNat 4294967295 < zyI (zyEl (zymr r c) B s.heap) 75 5 := by
        rw [← e75, zyI_s w3, zylt_B]
        omega
      refine zyGoB hIH hAt hB ⟨1, by decide⟩ [595, 103079215097] rfl rfl rfl rfl ⟨n0, n, m, b0, bn, hv, by rw [hEE]; exact i1, by rw [hEE]; exact hbs, fun h => absurd (show 1 = 0 from h) (by decide), fun _ => ⟨?_, ?_, lt⟩, fun _ => ?_, fun h => absurd (show 1 = 2 from h) (by decide)⟩ ?_
      · show 2147483646 ≤ zB (ρ2 2 + Int32.ofNat 4294967295)
        omega
      · show zB (ρ2 2 + Int32.ofNat 4294967295) ≤ 2147483707
        omega
      · show n + zB (ρ2 2 + Int32.ofNat 4294967295) ≤ n0 + 2147483707
        omega
      · show 2 * (zB (ρ2 2 + Int32.ofNat 4294967295) - 2147483646) + (2 - 1) < 10000
        omega
    · have hx : x ∈ [zxud_bx0] := hx
      have hg : ∀ k, k < 2 → ρ2 k = ρ k := hag
      have hI := hInv
      have hI : ∃ n0 n m : Nat, zBs (zyEl (zymr r c) B s.heap) n0 m ∧ n0 + 60 ≤ 1299 ∧ zWl (zyEl (zymr r c) B s.heap) m ∧ zyJo (zyEl (zymr r c) B s.heap) (zyEl (zymr r c) B H) ∧ zBs (zyEl (zymr r c) B H) n m ∧ (1 = 0 → n = n0) ∧ (1 ≤ 1 → 2147483646 ≤ zB (ρ 1) ∧ zB (ρ 1) ≤ 2147483707 ∧ ρ 1 < zyI (zyEl (zymr r c) B s.heap) 75 5) ∧ (1 = 1 → n + zB (ρ 1) ≤ n0 + 2147483707) ∧ (1 = 2 → 2147483648 ≤ zB (ρ 1) ∧ n + zB (ρ 1) ≤ n0 + 2147483708) := hI
      obtain ⟨hF, hB, hM⟩ := hXs
      have hEE : (zyEl (zymr r c) B H2) = (zyEl (zymr r c) B H) := zyfr0 hfr
      have ex := List.mem_singleton.mp hx
      subst ex
      obtain ⟨n0, n, m, b0, bn, hv, i1, hbs, i2, i3, i4, i5⟩ := hI
      have hm8 : m ≤ 8 := hbs.2.1
      have e75 : ∀ q, zyI (zyEl (zymr r c) B H) 75 q = zyI (zyEl (zymr r c) B s.heap) 75 q := zyJo_75 i1
      obtain ⟨v1, v2, v3⟩ := i3 (by decide)
      have nn := i4 rfl
      have a1 : ρ2 1 = ρ 1 := hg 1 (by decide)
      have kb : 2147483648 ≤ zB (ρ2 1) ∧ zB (ρ2 1) ≤ 2147483707 := zyXb hB 0 rfl
      rw [← a1] at v1 v2 v3 nn
      obtain ⟨o1, o2⟩ := zyOn kb.1
      obtain ⟨n4, w4, w5, w6⟩ := zyXe hF 1 rfl
      have w4 : ρ2 1 + Int32.ofNat 460 = Int32.ofNat n4 := w4
      have w6 : zyEl (zymr r c) B H 75 n4 = some (.int (ρ2 2)) := w6
      rw [o1, zyOa] at w4
      have e4 := zyOi (by omega) (by omega) w4
      rw [← e4] at w6
      have f3 := zyXop hF 2 rfl (by decide)
      have f3 : ρ2 3 = Int32.ofNat 0 - ρ2 2 := f3
      have hval : zVl m (ρ2 3) := by
        rw [o1] at v3
        have := hv (zyN1 (ρ2 1)) (by omega) v3
        rw [← e75, Nat.add_comm, zyI_s w6] at this
        rw [f3]
        exact zVl_neg hm8 this
      refine zyCa0 hRu hIH hAt hB hjo (ix := 242) (ax := 3792) rfl rfl rfl hmejo ⟨rfl, rfl, rfl, rfl⟩ (by decide) [103079215105] rfl (by decide) rfl ⟨2, by decide⟩ [595, 34359738369] rfl rfl rfl rfl ?_ ?_
      · show zyΦjo [ρ2 3] _
        rw [hEE]
        exact zBs_Φ hbs (by omega) hval
      · intro E3 vo hT3 hΨ
        have hΨ : zyΨjo [ρ2 3] _ E3 vo := hΨ
        rw [hEE] at hΨ
        obtain ⟨ev, n', q1, q2, q3⟩ := zBs_jo hbs (by omega) hΨ
        refine ⟨ev, ⟨n0, n', m, b0, bn, hv, zyJo_t i1 q3, q2, fun h => absurd (show 2 = 0 from h) (by decide), fun _ => ⟨v1, v2, v3⟩, fun h => absurd (show 2 = 1 from h) (by decide), fun _ => ⟨kb.1, ?_⟩⟩, ?_⟩
        · show n' + zB (ρ2 1) ≤ n0 + 2147483708
          omega
        · show 2 * (zB (ρ2 1) - 2147483646) + (2 - 2) < 2 * (zB (ρ 1) - 2147483646) + (2 - 1)
          rw [a1]
          omega
    · have hx : x ∈ [zxud_cx0] := hx
      have hg : ∀ k, k < 2 → ρ2 k = ρ k := hag
      have hI := hInv
      have hI : ∃ n0 n m : Nat, zBs (zyEl (zymr r c) B s.heap) n0 m ∧ n0 + 60 ≤ 1299 ∧ zWl (zyEl (zymr r c) B s.heap) m ∧ zyJo (zyEl (zymr r c) B s.heap) (zyEl (zymr r c) B H) ∧ zBs (zyEl (zymr r c) B H) n m ∧ (2 = 0 → n = n0) ∧ (1 ≤ 2 → 2147483646 ≤ zB (ρ 1) ∧ zB (ρ 1) ≤ 2147483707 ∧ ρ 1 < zyI (zyEl (zymr r c) B s.heap) 75 5) ∧ (2 = 1 → n + zB (ρ 1) ≤ n0 + 2147483707) ∧ (2 = 2 → 2147483648 ≤ zB (ρ 1) ∧ n + zB (ρ 1) ≤ n0 + 2147483708) := hI
      obtain ⟨hF, hB, hM⟩ := hXs
      have hEE : (zyEl (zymr r c) B H2) = (zyEl (zymr r c) B H) := zyfr0 hfr
      have ex := List.mem_singleton.mp hx
      subst ex
      obtain ⟨n0, n, m, b0, bn, hv, i1, hbs, i2, i3, i4, i5⟩ := hI
      have hm8 : m ≤ 8 := hbs.2.1
      obtain ⟨v1, v2, v3⟩ := i3 (by decide)
      obtain ⟨v4, nn⟩ := i5 rfl
      have a1 : ρ2 1 = ρ 1 := hg 1 (by decide)
      rw [← a1] at v1 v2 v3 v4 nn
      have e1 := zyBd (x := ρ2 1) (by omega)
      have lt : ρ2 1 + Int32.ofNat 4294967295 < zyI (zyEl (zymr r c) B s.heap) 75 5 := by
        rw [zylt_B] at v3 ⊢
        omega
      refine zyGoB hIH hAt hB ⟨1, by decide⟩ [595, 68719476729] rfl rfl rfl rfl ⟨n0, n, m, b0, bn, hv, by rw [hEE]; exact i1, by rw [hEE]; exact hbs, fun h => absurd (show 1 = 0 from h) (by decide), fun _ => ⟨?_, ?_, lt⟩, fun _ => ?_, fun h => absurd (show 1 = 2 from h) (by decide)⟩ ?_
      · show 2147483646 ≤ zB (ρ2 1 + Int32.ofNat 4294967295)
        omega
      · show zB (ρ2 1 + Int32.ofNat 4294967295) ≤ 2147483707
        omega
      · show n + zB (ρ2 1 + Int32.ofNat 4294967295) ≤ n0 + 2147483707
        omega
      · show 2 * (zB (ρ2 1 + Int32.ofNat 4294967295) - 2147483646) + (2 - 1) < 2 * (zB (ρ 1) - 2147483646) + (2 - 2)
        rw [← a1]
        omega
  · intro as E0 E E2 hT0 hΦ hlen i ρ hT hInv x hx ρ2 N2 B vo hXs hag hfr hT2 hvo
    rcases i with ⟨i, hi⟩
    have hi2 : i = 0 ∨ i = 1 ∨ i = 2 := by omega
    rcases hi2 with rfl | rfl | rfl
    · cases hx
    · have hx : x ∈ [zxud_br0] := hx
      have hg : ∀ k, k < 2 → ρ2 k = ρ k := hag
      have hI := hInv
      have hI : ∃ n0 n m : Nat, zBs E0 n0 m ∧ n0 + 60 ≤ 1299 ∧ zWl E0 m ∧ zyJo E0 E ∧ zBs E n m ∧ (1 = 0 → n = n0) ∧ (1 ≤ 1 → 2147483646 ≤ zB (ρ 1) ∧ zB (ρ 1) ≤ 2147483707 ∧ ρ 1 < zyI E0 75 5) ∧ (1 = 1 → n + zB (ρ 1) ≤ n0 + 2147483707) ∧ (1 = 2 → 2147483648 ≤ zB (ρ 1) ∧ n + zB (ρ 1) ≤ n0 + 2147483708) := hI
      obtain ⟨hF, hB, hM⟩ := hXs
      have hEE : E2 = E := zyfr0 hfr
      have ex := List.mem_singleton.mp hx
      subst ex
      obtain ⟨n0, n, m, b0, bn, hv, i1, hbs, i2, i3, i4, i5⟩ := hI
      have hm8 : m ≤ 8 := hbs.2.1
      obtain ⟨v1, v2, v3⟩ := i3 (by decide)
      have nn := i4 rfl
      refine ⟨zyvo_0 (show zyvo _ [] vo from hvo), by rw [hEE]; exact i1, fun n2 m2 d1 d2 => ?_⟩
      obtain ⟨e1, e2⟩ := zBs_m b0 d1
      subst e1
      subst e2
      rw [hEE]
      exact ⟨n, by omega, hbs⟩
    · cases hx
theorem zyuw_run : zyAllP (fun r c => zyrS (zymr r c) zxi243 (243, 0, 0, 0, 0) 7 zpuw (fun _ _ => []) zFuw zSuw zXuw zRuw 3) = true := by decide +kernel
theorem zyunjoinsWord {l : Launch} {r c : Nat} (h1 : 1 ≤ r) (h2 : r ≤ 4) (h3 : 1 ≤ c) (h4 : c ≤ 5) {en : zEn} {me : zMe} (hen : zG zxMeta 243 = some en) (hme : zG zMeth 243 = some me) : zyHc l (zymr r c) en me 7 0 (zyΦwd 300 zLv) (zyΨwd 301) := by
  have een : zG zxMeta 243 = some (zxi243, 1, 2, 11, 243, 0, 0, 0, 0) := rfl
  obtain ⟨me1, hme1, hOK⟩ := zall hen
  rw [hme] at hme1
  cases hme1
  rw [een] at hen
  cases hen
  have hr := zyAllP_iff zyuw_run h1 h2 h3 h4
  obtain ⟨mejo, hmejo, -⟩ := zall (show zG zxMeta 237 = some (zxi237, 2, 5, 11, 237, 0, 0, 0, 0) from rfl)
  have hjo := zyjoins (l := l) h1 h2 h3 h4 (show zG zxMeta 237 = some (zxi237, 2, 5, 11, 237, 0, 0, 0, 0) from rfl) hmejo
  refine zycutS (mi := zymr r c) hOK rfl rfl ⟨_, rfl, rfl⟩ (ι := Fin 3) (fun i => zpuw i.val) (fun _ _ => []) (fun i => zFuw i.val) (fun i => zSuw i.val) (fun i => zXuw i.val) (fun i => zRuw i.val) (fun i y2 ct en2 me2 h => by cases h) 200000 (fun i => zyAll_iff hr i.val i.isLt) ⟨0, by decide⟩ ⟨rfl, rfl, rfl, rfl⟩ ⟨by decide, by decide⟩
    (fun i as E0 ρ E => ∃ n0 n m : Nat, zBs E0 n0 m ∧ n0 + 300 ≤ 1299 ∧ zLv E0 m ∧ zyJo E0 E ∧ zBs E n m ∧ (i.val = 0 → n = n0) ∧ (1 ≤ i.val → 2147483646 ≤ zB (ρ 1) ∧ zB (ρ 1) ≤ 2147483947 ∧ ρ 1 < zyI E0 75 4) ∧ (i.val = 1 → n + zB (ρ 1) ≤ n0 + 2147483947) ∧ (i.val = 2 → 2147483648 ≤ zB (ρ 1) ∧ n + zB (ρ 1) ≤ n0 + 2147483948)) (fun i as E0 ρ E => if i.val = 0 then 10000 else 2 * (zB (ρ 1) - 2147483646) + (2 - i.val)) ?_ ?_ ?_
  · intro as E hlen hT hΦ
    obtain ⟨n, m, b1, b2, b3⟩ := hΦ
    exact ⟨zEnv_c (zyfull _) (zEnv_c (zyfull _) zEnv_nil), n, n, m, b1, b2, b3, fun _ _ _ _ _ => rfl, b1, fun _ => rfl, fun h => absurd (show 1 ≤ 0 from h) (by decide), fun h => absurd (show 0 = 1 from h) (by decide), fun h => absurd (show 0 = 2 from h) (by decide)⟩
  · intro as B s Wg hRu hT0 hΦ hlen i ρ H hT hInv hIH x hx ρ2 N2 H2 locs lsB stA hAt hXs hag hfr hT2
    rcases i with ⟨i, hi⟩
    have hi2 : i = 0 ∨ i = 1 ∨ i = 2 := by omega
    rcases hi2 with rfl | rfl | rfl
    · have hx : x ∈ [zxuw_ax0] := hx
      have hg : ∀ k, k < 2 → ρ2 k = ρ k := hag
      have hI := hInv
      have hI : ∃ n0 n m : Nat, zBs (zyEl (zymr r c) B s.heap) n0 m ∧ n0 + 300 ≤ 1299 ∧ zLv (zyEl (zymr r c) B s.heap) m ∧ zyJo (zyEl (zymr r c) B s.heap) (zyEl (zymr r c) B H) ∧ zBs (zyEl (zymr r c) B H) n m ∧ (0 = 0 → n = n0) ∧ (1 ≤ 0 → 2147483646 ≤ zB (ρ 1) ∧ zB (ρ 1) ≤ 2147483947 ∧ ρ 1 < zyI (zyEl (zymr r c) B s.heap) 75 4) ∧ (0 = 1 → n + zB (ρ 1) ≤ n0 + 2147483947) ∧ (0 = 2 → 2147483648 ≤ zB (ρ 1) ∧ n + zB (ρ 1) ≤ n0 + 2147483948) := hI
      obtain ⟨hF, hB, hM⟩ := hXs
      have hEE : (zyEl (zymr r c) B H2) = (zyEl (zymr r c) B H) := zyfr0 hfr
      have ex := List.mem_singleton.mp hx
      subst ex
      obtain ⟨n0, n, m, b0, bn, hv, i1, hbs, i2, i3, i4, i5⟩ := hI
      have hm8 : m ≤ 8 := hbs.2.1
      have e75 : ∀ q, zyI (zyEl (zymr r c) B H) 75 q = zyI (zyEl (zymr r c) B s.heap) 75 q := zyJo_75 i1
      have k0 := i2 rfl
      obtain ⟨n3, w1, w2, w3⟩ := zyXe hF 0 rfl
      have w1 : Int32.ofNat 4 = Int32.ofNat n3 := w1
      have w3 : zyEl (zymr r c) B H 75 n3 = some (.int (ρ2 2)) := w3
      rw [← zyOi (by omega) (by omega) w1] at w3
      have bd : 2147483648 ≤ zB (ρ2 2) ∧ zB (ρ2 2) ≤ 2147483948 := zyXb hB 0 rfl
      have e1 := zyBd (x := ρ2 2) (by omega)
      have lt : ρ2 2 + Int32.ofNat 4294967295 < zyI (zyEl (zymr r c) B s.heap) 75 4 := by
        rw [← e75, zyI_s w3, zylt_B]
        omega
      refine zyGoB hIH hAt hB ⟨1, by decide⟩ [595, 103079215097] rfl rfl rfl rfl ⟨n0, n, m, b0, bn, hv, by rw [hEE]; exact i1, by rw [hEE]; exact hbs, fun h => absurd (show 1 = 0 from h) (by decide), fun _ => ⟨?_, ?_, lt⟩, fun _ => ?_, fun h => absurd (show 1 = 2 from h) (by decide)⟩ ?_
      · show 2147483646 ≤ zB (ρ2 2 + Int32.ofNat 4294967295)
        omega
      · show zB (ρ2 2 + Int32.ofNat 4294967295) ≤ 2147483947
        omega
      · show n + zB (ρ2 2 + Int32.ofNat 4294967295) ≤ n0 + 2147483947
        omega
      · show 2 * (zB (ρ2 2 + Int32.ofNat 4294967295) - 2147483646) + (2 - 1) < 10000
        omega
    · have hx : x ∈ [zxuw_bx0] := hx
      have hg : ∀ k, k < 2 → ρ2 k = ρ k := hag
      have hI := hInv
      have hI : ∃ n0 n m : Nat, zBs (zyEl (zymr r c) B s.heap) n0 m ∧ n0 + 300 ≤ 1299 ∧ zLv (zyEl (zymr r c) B s.heap) m ∧ zyJo (zyEl (zymr r c) B s.heap) (zyEl (zymr r c) B H) ∧ zBs (zyEl (zymr r c) B H) n m ∧ (1 = 0 → n = n0) ∧ (1 ≤ 1 → 2147483646 ≤ zB (ρ 1) ∧ zB (ρ 1) ≤ 2147483947 ∧ ρ 1 < zyI (zyEl (zymr r c) B s.heap) 75 4) ∧ (1 = 1 → n + zB (ρ 1) ≤ n0 + 2147483947) ∧ (1 = 2 → 2147483648 ≤ zB (ρ 1) ∧ n + zB (ρ 1) ≤ n0 + 2147483948) := hI
      obtain ⟨hF, hB, hM⟩ := hXs
      have hEE : (zyEl (zymr r c) B H2) = (zyEl (zymr r c) B H) := zyfr0 hfr
      have ex := List.mem_singleton.mp hx
      subst ex
      obtain ⟨n0, n, m, b0, bn, hv, i1, hbs, i2, i3, i4, i5⟩ := hI
      have hm8 : m ≤ 8 := hbs.2.1
      have e75 : ∀ q, zyI (zyEl (zymr r c) B H) 75 q = zyI (zyEl (zymr r c) B s.heap) 75 q := zyJo_75 i1
      obtain ⟨v1, v2, v3⟩ := i3 (by decide)
      have nn := i4 rfl
      have a1 : ρ2 1 = ρ 1 := hg 1 (by decide)
      have kb : 2147483648 ≤ zB (ρ2 1) ∧ zB (ρ2 1) ≤ 2147483947 := zyXb hB 0 rfl
      rw [← a1] at v1 v2 v3 nn
      obtain ⟨o1, o2⟩ := zyOn kb.1
      obtain ⟨n4, w4, w5, w6⟩ := zyXe hF 1 rfl
      have w4 : ρ2 1 + Int32.ofNat 160 = Int32.ofNat n4 := w4
      have w6 : zyEl (zymr r c) B H 75 n4 = some (.int (ρ2 2)) := w6
      rw [o1, zyOa] at w4
      have e4 := zyOi (by omega) (by omega) w4
      rw [← e4] at w6
      have f3 := zyXop hF 2 rfl (by decide)
      have f3 : ρ2 3 = Int32.ofNat 0 - ρ2 2 := f3
      have hval : zVl m (ρ2 3) := by
        rw [o1] at v3
        have := hv (zyN1 (ρ2 1)) (by omega) v3
        rw [← e75, Nat.add_comm, zyI_s w6] at this
        rw [f3]
        exact zVl_neg hm8 this
      refine zyCa0 hRu hIH hAt hB hjo (ix := 242) (ax := 3792) rfl rfl rfl hmejo ⟨rfl, rfl, rfl, rfl⟩ (by decide) [103079215105] rfl (by decide) rfl ⟨2, by decide⟩ [595, 34359738369] rfl rfl rfl rfl ?_ ?_
      · show zyΦjo [ρ2 3] _
        rw [hEE]
        exact zBs_Φ hbs (by omega) hval
      · intro E3 vo hT3 hΨ
        have hΨ : zyΨjo [ρ2 3] _ E3 vo := hΨ
        rw [hEE] at hΨ
        obtain ⟨ev, n', q1, q2, q3⟩ := zBs_jo hbs (by omega) hΨ
        refine ⟨ev, ⟨n0, n', m, b0, bn, hv, zyJo_t i1 q3, q2, fun h => absurd (show 2 = 0 from h) (by decide), fun _ => ⟨v1, v2, v3⟩, fun h => absurd (show 2 = 1 from h) (by decide), fun _ => ⟨kb.1, ?_⟩⟩, ?_⟩
        · show n' + zB (ρ2 1) ≤ n0 + 2147483948
          omega
        · show 2 * (zB (ρ2 1) - 2147483646) + (2 - 2) < 2 * (zB (ρ 1) - 2147483646) + (2 - 1)
          rw [a1]
          omega
    · have hx : x ∈ [zxuw_cx0] := hx
      have hg : ∀ k, k < 2 → ρ2 k = ρ k := hag
      have hI := hInv
      have hI : ∃ n0 n m : Nat, zBs (zyEl (zymr r c) B s.heap) n0 m ∧ n0 + 300 ≤ 1299 ∧ zLv (zyEl (zymr r c) B s.heap) m ∧ zyJo (zyEl (zymr r c) B s.heap) (zyEl (zymr r c) B H) ∧ zBs (zyEl (zymr r c) B H) n m ∧ (2 = 0 → n = n0) ∧ (1 ≤ 2 → 2147483646 ≤ zB (ρ 1) ∧ zB (ρ 1) ≤ 2147483947 ∧ ρ 1 < zyI (zyEl (zymr r c) B s.heap) 75 4) ∧ (2 = 1 → n + zB (ρ 1) ≤ n0 + 2147483947) ∧ (2 = 2 → 2147483648 ≤ zB (ρ 1) ∧ n + zB (ρ 1) ≤ n0 + 2147483948) := hI
      obtain ⟨hF, hB, hM⟩ := hXs
      have hEE : (zyEl (zymr r c) B H2) = (zyEl (zymr r c) B H) := zyfr0 hfr
      have ex := List.mem_singleton.mp hx
      subst ex
      obtain ⟨n0, n, m, b0, bn, hv, i1, hbs, i2, i3, i4, i5⟩ := hI
      have hm8 : m ≤ 8 := hbs.2.1
      obtain ⟨v1, v2, v3⟩ := i3 (by decide)
      obtain ⟨v4, nn⟩ := i5 rfl
      have a1 : ρ2 1 = ρ 1 := hg 1 (by decide)
      rw [← a1] at v1 v2 v3 v4 nn
      have e1 := zyBd (x := ρ2 1) (by omega)
      have lt : ρ2 1 + Int32.ofNat 4294967295 < zyI (zyEl (zymr r c) B s.heap) 75 4 := by
        rw [zylt_B] at v3 ⊢
        omega
      refine zyGoB hIH hAt hB ⟨1, by decide⟩ [595, 68719476729] rfl rfl rfl rfl ⟨n0, n, m, b0, bn, hv, by rw [hEE]; exact i1, by rw [hEE]; exact hbs, fun h => absurd (show 1 = 0 from h) (by decide), fun _ => ⟨?_, ?_, lt⟩, fun _ => ?_, fun h => absurd (show 1 = 2 from h) (by decide)⟩ ?_
      · show 2147483646 ≤ zB (ρ2 1 + Int32.ofNat 4294967295)
        omega
      · show zB (ρ2 1 + Int32.ofNat 4294967295) ≤ 2147483947
        omega
      · show n + zB (ρ2 1 + Int32.ofNat 4294967295) ≤ n0 + 2147483947
        omega
      · show 2 * (zB (ρ2 1 + Int32.ofNat 4294967295) - 2147483646) + (2 - 1) < 2 * (zB (ρ 1) - 2147483646) + (2 - 2)
        rw [← a1]
        omega
  · intro as E0 E E2 hT0 hΦ hlen i ρ hT hInv x hx ρ2 N2 B vo hXs hag hfr hT2 hvo
    rcases i with ⟨i, hi⟩
    have hi2 : i = 0 ∨ i = 1 ∨ i = 2 := by omega
    rcases hi2 with rfl | rfl | rfl
    · cases hx
    · have hx : x ∈ [zxuw_br0] := hx
      have hg : ∀ k, k < 2 → ρ2 k = ρ k := hag
      have hI := hInv
      have hI : ∃ n0 n m : Nat, zBs E0 n0 m ∧ n0 + 300 ≤ 1299 ∧ zLv E0 m ∧ zyJo E0 E ∧ zBs E n m ∧ (1 = 0 → n = n0) ∧ (1 ≤ 1 → 2147483646 ≤ zB (ρ 1) ∧ zB (ρ 1) ≤ 2147483947 ∧ ρ 1 < zyI E0 75 4) ∧ (1 = 1 → n + zB (ρ 1) ≤ n0 + 2147483947) ∧ (1 = 2 → 2147483648 ≤ zB (ρ 1) ∧ n + zB (ρ 1) ≤ n0 + 2147483948) := hI
      obtain ⟨hF, hB, hM⟩ := hXs
      have hEE : E2 = E := zyfr0 hfr
      have ex := List.mem_singleton.mp hx
      subst ex
      obtain ⟨n0, n, m, b0, bn, hv, i1, hbs, i2, i3, i4, i5⟩ := hI
      have hm8 : m ≤ 8 := hbs.2.1
      obtain ⟨v1, v2, v3⟩ := i3 (by decide)
      have nn := i4 rfl
      refine ⟨zyvo_0 (show zyvo _ [] vo from hvo), by rw [hEE]; exact i1, fun n2 m2 d1 d2 => ?_⟩
      obtain ⟨e1, e2⟩ := zBs_m b0 d1
      subst e1
      subst e2
      rw [hEE]
      exact ⟨n, by omega, hbs⟩
    · cases hx
