/-! THREADS STAND IN LINE; letters are spelled -/
/-- a contract for the executor out of a semantic one -/
theorem zyCon_b {l : Launch} {mi : zyB} {J : zyJt} {en : zEn} {me : zMe} {dep na : Nat} {Φ : List Int32 → zyEm → Prop} {Ψ : List Int32 → zyEm → zyEm → Option Value → Prop} (h : zyHc l mi en me dep na Φ Ψ) {ct : zyCt} (hd : ct.2.2.2.1 = dep) (hpost : ct.2.2.2.2.2 = []) (hargs : ∀ (B : zCx) (AsV : List Value), zySt (zyX0 B J) ct.1 AsV → ∃ xs : List Int32, AsV = zyAr B xs ∧ xs.length = na ∧ ∀ (U : State) (H : Heap), zyMI mi B J U H → zyPk mi B ct.2.2.2.2.1 H → Φ xs (zyEl mi B H))
    (hΨ : ∀ (B : zCx) (xs : List Int32) (E E2 : zyEm) (vo : Option Value), zyTy mi E → J.1 E → zyTy mi E2 → Φ xs E → Ψ xs E E2 vo → J.1 E2 ∧ (∀ a k, zyin ct.2.1 a k = false → E2 a k = E a k) ∧ zyvo (zyX0 B J) ct.2.2.1 vo) : zyCon l mi J en me ct := by
  intro B AsV hA
  obtain ⟨xs, rfl, hl, hΦ⟩ := hargs B AsV hA
  subst hd
  refine zyMet_pt (fun a s hp => ?_)
  obtain ⟨rfl, hK, hI, hPk⟩ := hp
  have hI0 : zyMI mi B zyJ0 s s.heap := ⟨hI.1, hI.2.1, trivial, hI.2.2.2⟩
  have hφ := hΦ s s.heap hI hPk
  refine ⟨_, _, h B xs hl, ⟨rfl, hK, hI0, hφ⟩, fun o t hq => ?_⟩
  obtain ⟨vo, e1, k1, k2, k3, k4⟩ := hq
  obtain ⟨g1, g2, g3⟩ := hΨ B xs _ _ vo (zyTy_of hI) hI.2.2.1 (zyTy_of k2) hφ k3
  refine ⟨vo, e1, zyvr_of g3, k1, ⟨k2.1, k2.2.1, g1, k2.2.2.2⟩, ?_, g2, k4⟩
  rw [hpost]
  exact fun p hp => by cases hp
theorem zyvo_b {B : zCx} {J : zyJt} {vo : Option Value} {z : Int32} (e : vo = some (.int z)) (h : z = 0 ∨ z = 1) : zyvo (zyX0 B J) [73786976312018075658] vo := by
  rw [e]
  refine Or.inl ⟨Or.inr (Or.inr (Or.inl ⟨by decide, z, rfl, ?_, ?_⟩)), fun q => absurd q (by decide), fun q => absurd q (by decide)⟩
  · rcases h with rfl | rfl <;> decide
  · rcases h with rfl | rfl <;> decide
theorem zyar2 {B : zCx} {J : zyJt} {AsV : List Value} {lo hi lo2 hi2 : Nat} (h : zySt (zyX0 B J) [595, 8 * (lo * 4294967296 + hi) + 2, 8 * (lo2 * 4294967296 + hi2) + 2] AsV) (hh : hi < 4294967296) (hh2 : hi2 < 4294967296) : ∃ x y : Int32, AsV = zyAr B [x, y] ∧ lo ≤ zB x ∧ zB x ≤ hi ∧ lo2 ≤ zB y ∧ zB y ≤ hi2 := by
  obtain ⟨v0, t0, rfl, a0, h⟩ := zySt_c h
  obtain ⟨v1, t1, rfl, a1, h⟩ := zySt_c h
  obtain ⟨v2, t2, rfl, a2, h⟩ := zySt_c h
  have e := zySt_n h
  subst e
  have e0 : v0 = .ref (zad B 74) := zyv_3 (v := 595) a0 (by decide)
  obtain ⟨x, rfl, b1, b2⟩ := zv_2 (zyv_zv a1 (by omega) (by omega)) (by omega)
  obtain ⟨y, rfl, b3, b4⟩ := zv_2 (zyv_zv a2 (by omega) (by omega)) (by omega)
  refine ⟨x, y, by rw [e0]; rfl, by omega, by omega, by omega, by omega⟩
noncomputable def zyTah : Nat → List zyCt := fun y => zif (Nat.beq y 207) [([595, 73786976312018076282, 73786976312018076282], [], [73786976312018075658], 2, [], [])] []
theorem zyTah_ok {l : Launch} {r c : Nat} (h1 : 1 ≤ r) (h2 : r ≤ 4) (h3 : 1 ≤ c) (h4 : c ≤ 5) : ∀ y2 ct en2 me2, ct ∈ zyTah y2 → zG zxMeta y2 = some en2 → zG zMeth y2 = some me2 → zyCon l (zymr r c) zyJ0 en2 me2 ct := by
  intro y2 ct en2 me2 hct hen hme
  unfold zyTah at hct
  by_cases e : y2 = 207
  · subst e
    have hct : ct ∈ [([595, 73786976312018076282, 73786976312018076282], [], [73786976312018075658], 2, [], [])] := hct
    rw [List.mem_singleton.mp hct]
    refine zyCon_b (zyisAhead h1 h2 h3 h4 hen hme) rfl rfl (fun B AsV hA => ?_) (fun B xs E E2 vo _ _ _ _ hΨ => ?_)
    · obtain ⟨x, y, e, b1, b2, b3, b4⟩ := zyar2 (lo := 2147483648) (hi := 2147483727) (lo2 := 2147483648) (hi2 := 2147483727) hA (by decide) (by decide)
      obtain ⟨o1, o2⟩ := zyOn b1
      obtain ⟨o3, o4⟩ := zyOn b3
      exact ⟨[x, y], e, rfl, fun _ _ _ _ => ⟨zyN1 x, zyN1 y, by rw [← o1, ← o3], by omega, by omega⟩⟩
    · obtain ⟨e3, z, ez, hz, -⟩ := hΨ
      exact ⟨trivial, fun a k _ => by rw [e3], zyvo_b ez hz⟩
  · rw [zybeq_ne e, zif_f] at hct
    cases hct
def zyΨsd (_ : List Int32) (E E2 : zyEm) (vo : Option Value) : Prop := vo = none ∧ ∀ a k, ¬ a = 79 → E2 a k = E a k
theorem zyfr79 {E E2 : zyEm} (h : ∀ a k, zyin [(79, 0, 7)] a k = false → E2 a k = E a k) : ∀ a k, ¬ a = 79 → E2 a k = E a k := by
  intro a k hn
  apply h
  cases hq : zyin [(79, 0, 7)] a k with
  | false => rfl
  | true =>
    obtain ⟨p0, g1, g2, g3, g4⟩ := zyin_iff.mp hq
    rw [List.mem_singleton.mp g1] at g2
    exact absurd g2.symm hn
theorem zysd_run : zyAllP (fun r c => zyrS (zymr r c) zxi221 (221, 0, 0, 0, 0) 3 zpsd (fun _ => zyTah) zFsd zSsd zXsd zRsd 3) = true := by decide +kernel
theorem zystands {l : Launch} {r c : Nat} (h1 : 1 ≤ r) (h2 : r ≤ 4) (h3 : 1 ≤ c) (h4 : c ≤ 5) {en : zEn} {me : zMe} (hen : zG zxMeta 221 = some en) (hme : zG zMeth 221 = some me) : zyHc l (zymr r c) en me 3 0 zyΦbb zyΨsd := by
  have een : zG zxMeta 221 = some (zxi221, 1, 3, 11, 221, 0, 0, 0, 0) := rfl
  obtain ⟨me1, hme1, hOK⟩ := zall hen
  rw [hme] at hme1
  cases hme1
  rw [een] at hen
  cases hen
  have hr := zyAllP_iff zysd_run h1 h2 h3 h4
  have hCon : ∀ i : Fin 3, zyCons l (zymr r c, zyTah, zFsd i.val, [], zSsd i.val) zyJ0 := fun _ => zyTah_ok h1 h2 h3 h4
  refine zycutS (mi := zymr r c) hOK rfl rfl ⟨_, rfl, rfl⟩ (ι := Fin 3) (fun i => zpsd i.val) (fun _ => zyTah) (fun i => zFsd i.val) (fun i => zSsd i.val) (fun i => zXsd i.val) (fun i => zRsd i.val) hCon 200000 (fun i => zyAll_iff hr i.val i.isLt) ⟨0, by decide⟩ ⟨rfl, rfl, rfl, rfl⟩ ⟨by decide, by decide⟩
    (fun i as E0 ρ E => ∀ a k, ¬ a = 79 → E a k = E0 a k) (fun i as E0 ρ E => if i.val = 0 then 1000 else if i.val = 1 then 20 * (8 - zyN1 (ρ 1)) + 15 else 20 * (8 - zyN1 (ρ 1)) + zyN1 (ρ 2)) ?_ ?_ ?_
  · intro as E hlen hT hΦ
    exact ⟨zEnv_c (zyfull _) (zEnv_c (zyfull _) (zEnv_c (zyfull _) zEnv_nil)), fun _ _ _ => rfl⟩
  · intro as B s Wg hRu hT0 hΦ hlen i ρ H hT hInv hIH x hx ρ2 N2 H2 locs lsB stA hAt hXs hag hfr hT2
    rcases i with ⟨i, hi⟩
    have hi2 : i = 0 ∨ i = 1 ∨ i = 2 := by omega
    rcases hi2 with rfl | rfl | rfl
    · have hx : x ∈ [zxsd_ax0] := hx
      have hg : ∀ k, k < 3 → ρ2 k = ρ k := hag
      have hI := hInv
      have hI : ∀ a k, ¬ a = 79 → (zyEl (zymr r c) B H) a k = (zyEl (zymr r c) B s.heap) a k := hI
      obtain ⟨hF, hB, hM⟩ := hXs
      have hEE : (zyEl (zymr r c) B H2) = (zyEl (zymr r c) B H) := zyfr0 hfr
      have ex := List.mem_singleton.mp hx
      subst ex
      refine zyGoB hIH hAt hB ⟨1, by decide⟩ [595, 0, 0] rfl rfl rfl rfl (by rw [hEE]; exact hI) ?_
      show 20 * (8 - zyN1 (Int32.ofNat 0)) + 15 < 1000
      omega
    · have hx : x ∈ [zxsd_bx0] := hx
      have hg : ∀ k, k < 3 → ρ2 k = ρ k := hag
      have hI := hInv
      have hI : ∀ a k, ¬ a = 79 → (zyEl (zymr r c) B H) a k = (zyEl (zymr r c) B s.heap) a k := hI
      obtain ⟨hF, hB, hM⟩ := hXs
      have hEE : (zyEl (zymr r c) B H2) = (zyEl (zymr r c) B H) := zyfr0 hfr
      have ex := List.mem_singleton.mp hx
      subst ex
      have b1 : 2147483648 ≤ zB (ρ2 1) ∧ zB (ρ2 1) ≤ 2147483655 := zyXb hB 0 rfl
      obtain ⟨q1, q2, -⟩ := zyStep (b := 7) b1 (by decide)
      refine zyGoB hIH hAt hB ⟨2, by decide⟩ [595, 34359738369, 34359738369] rfl rfl rfl rfl (by rw [hEE]; exact hI) ?_
      show 20 * (8 - zyN1 (ρ2 1)) + zyN1 (ρ2 1) < 20 * (8 - zyN1 (ρ 1)) + 15
      rw [← hg 1 (by decide)]
      omega
    · have hx : x ∈ [zxsd_cx0, zxsd_cx1, zxsd_cx2] := hx
      have hg : ∀ k, k < 3 → ρ2 k = ρ k := hag
      have hI := hInv
      have hI : ∀ a k, ¬ a = 79 → (zyEl (zymr r c) B H) a k = (zyEl (zymr r c) B s.heap) a k := hI
      obtain ⟨hF, hB, hM⟩ := hXs
      have hfr : ∀ a k, zyin [(79, 0, 7)] a k = false → (zyEl (zymr r c) B H2) a k = (zyEl (zymr r c) B H) a k := hfr
      rcases List.mem_cons.mp hx with ex | hx
      · subst ex
        have b2 : 2147483649 ≤ zB (ρ2 2) ∧ zB (ρ2 2) ≤ 2147483655 := zyXb hB 1 rfl
        obtain ⟨o1, o2⟩ := zyOn (x := ρ2 2) (by omega)
        have e2 : zyN1 (ρ2 2 + Int32.ofNat 4294967295) = zyN1 (ρ2 2) - 1 := by
          rw [o1, zyOd (by omega), zyN1_of (by omega), zyN1_of (by omega)]
        refine zyGoB hIH hAt hB ⟨2, by decide⟩ [595, 34359738369, 103079215097] rfl rfl rfl rfl (fun a k q => (zyfr79 hfr a k q).trans (hI a k q)) ?_
        show 20 * (8 - zyN1 (ρ2 1)) + zyN1 (ρ2 2 + Int32.ofNat 4294967295) < 20 * (8 - zyN1 (ρ 1)) + zyN1 (ρ 2)
        rw [e2, ← hg 1 (by decide), ← hg 2 (by decide)]
        omega
      · skip
        rcases List.mem_cons.mp hx with ex | hx
        · subst ex
          have b1 : 2147483648 ≤ zB (ρ2 1) ∧ zB (ρ2 1) ≤ 2147483655 := zyXb hB 0 rfl
          obtain ⟨q1, q2, -⟩ := zyStep (b := 7) b1 (by decide)
          refine zyGoB hIH hAt hB ⟨1, by decide⟩ [595, 34359738377, 0] rfl rfl rfl rfl (fun a k q => (zyfr79 hfr a k q).trans (hI a k q)) ?_
          show 20 * (8 - zyN1 (ρ2 1 + Int32.ofNat 1)) + 15 < 20 * (8 - zyN1 (ρ 1)) + zyN1 (ρ 2)
          rw [q1, ← hg 1 (by decide)]
          omega
        · skip
          have ex := List.mem_singleton.mp hx
          subst ex
          have b1 : 2147483648 ≤ zB (ρ2 1) ∧ zB (ρ2 1) ≤ 2147483655 := zyXb hB 0 rfl
          obtain ⟨q1, q2, -⟩ := zyStep (b := 7) b1 (by decide)
          refine zyGoB hIH hAt hB ⟨1, by decide⟩ [595, 34359738377, 0] rfl rfl rfl rfl (fun a k q => (zyfr79 hfr a k q).trans (hI a k q)) ?_
          show 20 * (8 - zyN1 (ρ2 1 + Int32.ofNat 1)) + 15 < 20 * (8 - zyN1 (ρ 1)) + zyN1 (ρ 2)
          rw [q1, ← hg 1 (by decide)]
          omega
  · intro as E0 E E2 hT0 hΦ hlen i ρ hT hInv x hx ρ2 N2 B vo hXs hag hfr hT2 hvo
    rcases i with ⟨i, hi⟩
    have hi2 : i = 0 ∨ i = 1 ∨ i = 2 := by omega
    rcases hi2 with rfl | rfl | rfl
    · cases hx
    · have hx : x ∈ [zxsd_br0] := hx
      have hg : ∀ k, k < 3 → ρ2 k = ρ k := hag
      have hI := hInv
      have hI : ∀ a k, ¬ a = 79 → E a k = E0 a k := hI
      obtain ⟨hF, hB, hM⟩ := hXs
      have hEE : E2 = E := zyfr0 hfr
      have ex := List.mem_singleton.mp hx
      subst ex
      rw [hEE]
      exact ⟨zyvo_0 (show zyvo _ [] vo from hvo), hI⟩
    · cases hx
def zyΦsp (as : List Int32) (E : zyEm) : Prop := ∃ (x : Int32) (q : Nat), as = [x] ∧ 2147483641 ≤ zB x ∧ zB x ≤ 2147483655 ∧ q ≤ 2000 ∧ E 74 14 = some (.int (Int32.ofNat q))
def zyΨsp (as : List Int32) (E E2 : zyEm) (vo : Option Value) : Prop := vo = none ∧ ∀ q : Nat, q ≤ 2000 → E 74 14 = some (.int (Int32.ofNat q)) → E2 74 14 = some (.int (Int32.ofNat (q + 1))) ∧ (∀ x : Int32, as = [x] → q < 300 → E2 80 q = some (.int x)) ∧ ∀ a k, ¬ (a = 74 ∧ k = 14) → ¬ (a = 80 ∧ k = q ∧ q < 300) → E2 a k = E a k
theorem zysp_run : zyAllP (fun r c => zyrS (zymr r c) zxi222 (222, 0, 0, 0, 0) 1 zpsp (fun _ _ => []) zFsp zSsp zXsp zRsp 4) = true := by decide +kernel
theorem zyspells {l : Launch} {r c : Nat} (h1 : 1 ≤ r) (h2 : r ≤ 4) (h3 : 1 ≤ c) (h4 : c ≤ 5) {en : zEn} {me : zMe} (hen : zG zxMeta 222 = some en) (hme : zG zMeth 222 = some me) : zyHc l (zymr r c) en me 1 1 zyΦsp zyΨsp := by
  have een : zG zxMeta 222 = some (zxi222, 2, 2, 11, 222, 0, 0, 0, 0) := rfl
  obtain ⟨me1, hme1, hOK⟩ := zall hen
  rw [hme] at hme1
  cases hme1
  rw [een] at hen
  cases hen
  have hr := zyAllP_iff zysp_run h1 h2 h3 h4
  refine zycutS (mi := zymr r c) hOK rfl rfl ⟨_, rfl, rfl⟩ (ι := Fin 4) (fun i => zpsp i.val) (fun _ _ => []) (fun i => zFsp i.val) (fun i => zSsp i.val) (fun i => zXsp i.val) (fun i => zRsp i.val) (fun i y2 ct en2 me2 h => by cases h) 200000 (fun i => zyAll_iff hr i.val i.isLt) ⟨0, by decide⟩ ⟨rfl, rfl, rfl, rfl⟩ ⟨by decide, by decide⟩
    (fun i as E0 ρ E => ∃ (x : Int32) (q : Nat), as = [x] ∧ q ≤ 2000 ∧ E0 74 14 = some (.int (Int32.ofNat q)) ∧ E 74 14 = some (.int (Int32.ofNat q)) ∧ (i.val ≤ 1 → ρ 1 = x) ∧ (i.val = 1 ∨ i.val = 3 → ρ 2 = Int32.ofNat q) ∧ (i.val ≤ 1 → E = E0) ∧ (2 ≤ i.val → (q < 300 → E 80 q = some (.int x)) ∧ ∀ a k, ¬ (a = 80 ∧ k = q ∧ q < 300) → E a k = E0 a k)) (fun i as E0 ρ E => 5 - i.val) ?_ ?_ ?_
  · intro as E hlen hT hΦ
    obtain ⟨x, q, rfl, b1, b2, b3, b4⟩ := hΦ
    exact ⟨zEnv_c (zyfull _) (zEnv_c ⟨b1, b2⟩ zEnv_nil), x, q, rfl, b3, b4, b4, fun _ => rfl, fun h => absurd (show 0 = 1 ∨ 0 = 3 from h) (by decide), fun _ => rfl, fun h => absurd (show 2 ≤ 0 from h) (by decide)⟩
  · intro as B s Wg hRu hT0 hΦ hlen i ρ H hT hInv hIH x hx ρ2 N2 H2 locs lsB stA hAt hXs hag hfr hT2
    rcases i with ⟨i, hi⟩
    have hi2 : i = 0 ∨ i = 1 ∨ i = 2 ∨ i = 3 := by omega
    rcases hi2 with rfl | rfl | rfl | rfl
    · have hx : x ∈ [zxsp_zx0] := hx
      have hg : ∀ k, k < 2 → ρ2 k = ρ k := hag
      have hI := hInv
      have hI : ∃ (x : Int32) (q : Nat), as = [x] ∧ q ≤ 2000 ∧ (zyEl (zymr r c) B s.heap) 74 14 = some (.int (Int32.ofNat q)) ∧ (zyEl (zymr r c) B H) 74 14 = some (.int (Int32.ofNat q)) ∧ (0 ≤ 1 → ρ 1 = x) ∧ (0 = 1 ∨ 0 = 3 → ρ 2 = Int32.ofNat q) ∧ (0 ≤ 1 → (zyEl (zymr r c) B H) = (zyEl (zymr r c) B s.heap)) ∧ (2 ≤ 0 → (q < 300 → (zyEl (zymr r c) B H) 80 q = some (.int x)) ∧ ∀ a k, ¬ (a = 80 ∧ k = q ∧ q < 300) → (zyEl (zymr r c) B H) a k = (zyEl (zymr r c) B s.heap) a k) := hI
      obtain ⟨hF, hB, hM⟩ := hXs
      have hEE : (zyEl (zymr r c) B H2) = (zyEl (zymr r c) B H) := zyfr0 hfr
      have ex := List.mem_singleton.mp hx
      subst ex
      obtain ⟨x0, q, has, hq, s1, s2, i1, i2, i3, i4⟩ := hI
      have e0 := i3 (by decide)
      have a1 : ρ2 1 = x0 := (hg 1 (by decide)).trans (i1 (by decide))
      refine zyGoKi hIH hAt hB ⟨1, by decide⟩ [595, 34359738369] [(0, 4294967295), (2147483641, 2147483655)] 2147483648 2147485648 rfl (by decide) rfl rfl rfl (74 * 16384 + 14) zymr74 rfl rfl (show 14 < 49 by decide) (Int32.ofNat q) ?_ ?_ ⟨x0, q, has, hq, s1, by rw [hEE]; exact s2, fun _ => (zyρi_n (by decide)).trans a1, fun _ => zyρi_e, fun _ => hEE.trans e0, fun h => absurd (show 2 ≤ 1 from h) (by decide)⟩ (show 5 - 1 < 5 - 0 by decide)
      · show zyEl (zymr r c) B H2 74 14 = _
        rw [hEE]
        exact s2
      · rw [zyBn (by omega)]
        omega
    · have hx : x ∈ [zxsp_ax0, zxsp_ax1] := hx
      have hg : ∀ k, k < 3 → ρ2 k = ρ k := hag
      have hI := hInv
      have hI : ∃ (x : Int32) (q : Nat), as = [x] ∧ q ≤ 2000 ∧ (zyEl (zymr r c) B s.heap) 74 14 = some (.int (Int32.ofNat q)) ∧ (zyEl (zymr r c) B H) 74 14 = some (.int (Int32.ofNat q)) ∧ (1 ≤ 1 → ρ 1 = x) ∧ (1 = 1 ∨ 1 = 3 → ρ 2 = Int32.ofNat q) ∧ (1 ≤ 1 → (zyEl (zymr r c) B H) = (zyEl (zymr r c) B s.heap)) ∧ (2 ≤ 1 → (q < 300 → (zyEl (zymr r c) B H) 80 q = some (.int x)) ∧ ∀ a k, ¬ (a = 80 ∧ k = q ∧ q < 300) → (zyEl (zymr r c) B H) a k = (zyEl (zymr r c) B s.heap) a k) := hI
      obtain ⟨hF, hB, hM⟩ := hXs
      have hEE : (zyEl (zymr r c) B H2) = (zyEl (zymr r c) B H) := zyfr0 hfr
      rcases List.mem_cons.mp hx with ex | hx
      · subst ex
        obtain ⟨x0, q, has, hq, s1, s2, i1, i2, i3, i4⟩ := hI
        have e0 := i3 (by decide)
        have a1 : ρ2 1 = x0 := (hg 1 (by decide)).trans (i1 (by decide))
        have a2 : ρ2 2 = Int32.ofNat q := (hg 2 (by decide)).trans (i2 (Or.inl rfl))
        have f0 := zyX20 hF 0 rfl
        have f0 : ρ2 2 < Int32.ofNat 300 := f0
        rw [a2, zyOl (by omega) (by omega)] at f0
        have bx : 2147483641 ≤ zB (ρ2 1) ∧ zB (ρ2 1) ≤ 2147483655 := zyXb hB 0 rfl
        refine zyAsB hRu hIH hAt hB 80 q (20, 300, [(0, 299, 73786976071499907130)]) rfl rfl rfl (cv := 34359738369) (cj := 68719476737) rfl (by decide) (by decide) ⟨2, by decide⟩ [595, 0] rfl rfl rfl rfl f0 a2 ?_ ?_
        · intro r0 hr0 _ _
          rw [List.mem_singleton.mp hr0]
          exact ⟨rfl, bx⟩
        · intro E3 hT3 e1 e2
          have e1 : E3 80 q = some (.int (ρ2 1)) := e1
          rw [hEE, e0] at e2
          refine ⟨⟨x0, q, has, hq, s1, (e2 74 14 (fun z => absurd z.1 (by decide))).trans s1, fun h => absurd (show 2 ≤ 1 from h) (by decide), fun h => absurd (show 2 = 1 ∨ 2 = 3 from h) (by decide), fun h => absurd (show 2 ≤ 1 from h) (by decide), fun _ => ⟨fun _ => by rw [e1, a1], fun a k n => e2 a k (fun z => n ⟨z.1, z.2, f0⟩)⟩⟩, (show 5 - 2 < 5 - 1 by decide)⟩
      · skip
        have ex := List.mem_singleton.mp hx
        subst ex
        obtain ⟨x0, q, has, hq, s1, s2, i1, i2, i3, i4⟩ := hI
        have e0 := i3 (by decide)
        have a2 : ρ2 2 = Int32.ofNat q := (hg 2 (by decide)).trans (i2 (Or.inl rfl))
        have f0 := zyX21 hF 0 rfl
        have f0 : ¬ ρ2 2 < Int32.ofNat 300 := f0
        rw [a2, zyOl (by omega) (by omega)] at f0
        refine zyGoKi hIH hAt hB ⟨3, by decide⟩ [595, 0] [(0, 4294967295), (0, 4294967295)] 2147483648 2147485648 rfl (by decide) rfl rfl rfl (74 * 16384 + 14) zymr74 rfl rfl (show 14 < 49 by decide) (Int32.ofNat q) ?_ ?_ ⟨x0, q, has, hq, s1, by rw [hEE]; exact s2, fun h => absurd (show 3 ≤ 1 from h) (by decide), fun _ => zyρi_e, fun h => absurd (show 3 ≤ 1 from h) (by decide), fun _ => ⟨fun z => absurd z f0, fun a k _ => by rw [hEE, e0]⟩⟩ (show 5 - 3 < 5 - 1 by decide)
        · show zyEl (zymr r c) B H2 74 14 = _
          rw [hEE]
          exact s2
        · rw [zyBn (by omega)]
          omega
    · have hx : x ∈ [zxsp_bx0] := hx
      have hg : ∀ k, k < 2 → ρ2 k = ρ k := hag
      have hI := hInv
      have hI : ∃ (x : Int32) (q : Nat), as = [x] ∧ q ≤ 2000 ∧ (zyEl (zymr r c) B s.heap) 74 14 = some (.int (Int32.ofNat q)) ∧ (zyEl (zymr r c) B H) 74 14 = some (.int (Int32.ofNat q)) ∧ (2 ≤ 1 → ρ 1 = x) ∧ (2 = 1 ∨ 2 = 3 → ρ 2 = Int32.ofNat q) ∧ (2 ≤ 1 → (zyEl (zymr r c) B H) = (zyEl (zymr r c) B s.heap)) ∧ (2 ≤ 2 → (q < 300 → (zyEl (zymr r c) B H) 80 q = some (.int x)) ∧ ∀ a k, ¬ (a = 80 ∧ k = q ∧ q < 300) → (zyEl (zymr r c) B H) a k = (zyEl (zymr r c) B s.heap) a k) := hI
      obtain ⟨hF, hB, hM⟩ := hXs
      have hEE : (zyEl (zymr r c) B H2) = (zyEl (zymr r c) B H) := zyfr0 hfr
      have ex := List.mem_singleton.mp hx
      subst ex
      obtain ⟨x0, q, has, hq, s1, s2, i1, i2, i3, i4⟩ := hI
      have i5 := i4 (by decide)
      refine zyGoKi hIH hAt hB ⟨3, by decide⟩ [595, 0] [(0, 4294967295), (0, 4294967295)] 2147483648 2147485648 rfl (by decide) rfl rfl rfl (74 * 16384 + 14) zymr74 rfl rfl (show 14 < 49 by decide) (Int32.ofNat q) ?_ ?_ ⟨x0, q, has, hq, s1, by rw [hEE]; exact s2, fun h => absurd (show 3 ≤ 1 from h) (by decide), fun _ => zyρi_e, fun h => absurd (show 3 ≤ 1 from h) (by decide), fun _ => by rw [hEE]; exact i5⟩ (show 5 - 3 < 5 - 2 by decide)
      · show zyEl (zymr r c) B H2 74 14 = _
        rw [hEE]
        exact s2
      · rw [zyBn (by omega)]
        omega
    · cases hx
  · intro as E0 E E2 hT0 hΦ hlen i ρ hT hInv x hx ρ2 N2 B vo hXs hag hfr hT2 hvo
    rcases i with ⟨i, hi⟩
    have hi2 : i = 0 ∨ i = 1 ∨ i = 2 ∨ i = 3 := by omega
    rcases hi2 with rfl | rfl | rfl | rfl
    · cases hx
    · cases hx
    · cases hx
    · have hx : x ∈ [zxsp_cr0] := hx
      have hg : ∀ k, k < 3 → ρ2 k = ρ k := hag
      have hI := hInv
      have hI : ∃ (x : Int32) (q : Nat), as = [x] ∧ q ≤ 2000 ∧ E0 74 14 = some (.int (Int32.ofNat q)) ∧ E 74 14 = some (.int (Int32.ofNat q)) ∧ (3 ≤ 1 → ρ 1 = x) ∧ (3 = 1 ∨ 3 = 3 → ρ 2 = Int32.ofNat q) ∧ (3 ≤ 1 → E = E0) ∧ (2 ≤ 3 → (q < 300 → E 80 q = some (.int x)) ∧ ∀ a k, ¬ (a = 80 ∧ k = q ∧ q < 300) → E a k = E0 a k) := hI
      obtain ⟨hF, hB, hM⟩ := hXs
      have hfr : ∀ a k, zyin [(74, 14, 14)] a k = false → E2 a k = E a k := hfr
      have ex := List.mem_singleton.mp hx
      subst ex
      obtain ⟨x0, q, has, hq, s1, s2, i1, i2, i3, i4⟩ := hI
      have a2 : ρ2 2 = Int32.ofNat q := (hg 2 (by decide)).trans (i2 (Or.inr rfl))
      obtain ⟨i5, i6⟩ := i4 (by decide)
      have m2 := zyXm hM 0 rfl
      have m2 : E2 74 14 = some (.int (ρ2 2 + Int32.ofNat 1)) := m2
      rw [a2, zyOa] at m2
      have hk := zyfr1 hfr
      refine ⟨zyvo_0 (show zyvo _ [] vo from hvo), fun q' c1 c2 => ?_⟩
      rw [s1] at c2
      have e1 := zyOi (by omega) (by omega) (Value.int.inj (Option.some.inj c2))
      subst e1
      refine ⟨m2, fun x e hx => ?_, fun a k n1 n2 => (hk a k n1).trans (i6 a k n2)⟩
      rw [has] at e
      have e := (List.cons.inj e).1
      rw [← e]
      exact (hk 80 q (fun z => absurd z.1 (by decide))).trans (i5 hx)
