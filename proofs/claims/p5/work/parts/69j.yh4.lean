/-! THE SIMPLE BRAIDS: all seen from behind; the first goes out -/
section YGO4
variable {l : Launch} {mi : zyB} {en : zEn} {dep : Nat} {B : zCx} {s : State} {ι : Type} {φ : ι → zyPh} {Inv : ι → (Nat → Int32) → zyEm → Prop} {Mu : ι → (Nat → Int32) → zyEm → Nat} {M : Nat} {Wg : zyWt} {x : zyXp} {ρ2 : Nat → Int32} {N : Nat} {H : Heap} {locs : List Loc} {lsB : Array Slot} {stA : List Value}
theorem zyAsB (hRu : zyRu l mi en dep B s Wg) (hIH : zyIH mi en.2.2.1 B s φ Inv Mu M Wg) (hAt : zyAt mi B s en.2.2.1 x ρ2 N H locs lsB stA) (hB : ∀ b ∈ x.2.2.2.2.1, b.2.1 ≤ zB (zyw ρ2 b.1) ∧ zB (zyw ρ2 b.1) ≤ b.2.2) (a n : Nat) {ax : Nat} (c : zyCl) (hrow : en.1 x.1 = (.iastore, x.1 + 1, ax)) (hg : zG mi a = some c) (h20 : c.1 = 20) {cv cj : Nat} (hst : x.2.2.1 = [cv, cj, 8 * a + 3]) (hkv : cv % 8 ≤ 1) (hkj : cj % 8 ≤ 1) (i2 : ι) (cs : List Nat) (hpc : (φ i2).1 = x.1 + 1) (hchk : zand (zygoB en.2.2.1 x.2.1 (φ i2) cs) (zynil (φ i2).2.2.2.2) = true) (henv : zyenvB x.2.2.2.2.1 cs (φ i2).2.2.1 0 = true) (hkc : (φ i2).2.2.2.1 = []) (hn : n < c.2.1) (hj : zyw ρ2 cj = Int32.ofNat n) (hrows : ∀ r ∈ c.2.2, r.1 ≤ n → n ≤ r.2.1 → r.2.2 % 8 = 2 ∧ r.2.2 / 34359738368 ≤ zB (zyw ρ2 cv) ∧ zB (zyw ρ2 cv) ≤ r.2.2 / 8 % 4294967296)
    (kk : ∀ (E3 : zyEm), zyTy mi E3 → E3 a n = some (.int (zyw ρ2 cv)) → (∀ a2 k2, ¬ (a2 = a ∧ k2 = n) → E3 a2 k2 = zyEl mi B H a2 k2) → Inv i2 (fun k => zyw ρ2 (zyag cs k)) E3 ∧ Mu i2 (fun k => zyw ρ2 (zyag cs k)) E3 < M) : Wg H locs x.1 lsB stA := by
  obtain ⟨c1, c2⟩ := zand_iff hchk
  refine zyAs hRu hIH hAt hrow hg h20 hn hst hkv hkj hj hrows (fun H3 hT3 e1 e2 => ?_)
  obtain ⟨q2, q3⟩ := kk _ hT3 e1 e2
  refine ⟨i2, cs, hpc, c1, (fun k p hp => ?_), hkc, ?_, q2, q3⟩
  · have := zyenvB_iff hB henv k p hp
    rwa [Nat.zero_add] at this
  · cases hq : (φ i2).2.2.2.2 with
    | nil => rfl
    | cons a t => rw [hq] at c2; cases c2
end YGO4
def zmv (E : zyEm) (j : Nat) : Nat := zyN1 (zyI E 82 j)
theorem zmv_el {r c : Nat} {E : zyEm} (hT : zyTy (zymr r c) E) {i : Nat} (hi : i < 8) : E 82 i = some (.int (Int32.ofNat (zmv E i))) ∧ zmv E i < 8 := by
  obtain ⟨x, h1, h2, h3⟩ := (hT 82 (20, 8, [(0, 7, 73786976312018075706)]) i rfl (show i < 8 from hi) (0, 7, 73786976312018075706) List.mem_cons_self (Nat.zero_le _) (by dsimp only; omega)).1 rfl
  have h2 : 2147483648 ≤ zB x := h2
  have h3 : zB x ≤ 2147483655 := h3
  have e : zmv E i = zyN1 x := by
    unfold zmv zyI
    rw [h1]
  obtain ⟨q1, q2⟩ := zyOn h2
  rw [e]
  exact ⟨by rw [h1, ← q1], by omega⟩
theorem zmv_eq {E E2 : zyEm} {j : Nat} (h : E2 82 j = E 82 j) : zmv E2 j = zmv E j := by
  unfold zmv
  rw [zyI_eq h]
theorem zyrow_eq {E E2 : zyEm} {f j : Nat} (h : E2 81 (8 * f + j) = E 81 (8 * f + j)) : zyrow E2 f j = zyrow E f j := by
  unfold zyrow zfv
  rw [zyI_eq h]
theorem zyEk {E : zyEm} {a j n : Nat} {x : Int32} {v : Int32} (h1 : Int32.ofNat j = Int32.ofNat n) (hj : j < 4294967296) (h2 : n < 2147483648) (h3 : E a n = some (.int x)) (h4 : E a j = some (.int v)) : x = v := by
  have e := zyOi hj (by omega) h1
  subst e
  rw [h4] at h3
  exact (Value.int.inj (Option.some.inj h3)).symm
def zyFm1 (f : Nat) (E E2 : zyEm) : Prop := ∀ a2 k2, ¬ (a2 = 81 ∧ 8 * f ≤ k2 ∧ k2 < 8 * f + 8) → ¬ a2 = 82 → E2 a2 k2 = E a2 k2
def zyΦmi (as : List Int32) (E : zyEm) : Prop := ∃ f m : Nat, as = [Int32.ofNat f] ∧ f < 1300 ∧ m ≤ 8 ∧ E 74 21 = some (.int (Int32.ofNat m)) ∧ zPm (zyrow E f) m
def zyΨmi (as : List Int32) (E E2 : zyEm) (vo : Option Value) : Prop := vo = none ∧ ∀ f m : Nat, as = [Int32.ofNat f] → f < 1300 → m ≤ 8 → E 74 21 = some (.int (Int32.ofNat m)) → zyFm1 f E E2 ∧ zPm (zyrow E2 f) m
def zyImi (i f m k : Nat) (E0 : zyEm) (ρ : Nat → Int32) (E : zyEm) : Prop := ρ 1 = Int32.ofNat f ∧ zyFm1 f E0 E ∧ (1 ≤ i → ρ 3 = Int32.ofNat k) ∧ (i ≤ 2 → ∀ j, j < 8 → zyrow E f j = zyrow E0 f j) ∧ (i = 1 → k ≤ m ∧ ∀ j, j < k → zmv E j = zyrow E0 f j) ∧ (i = 2 → k < m ∧ ∀ j, j ≤ k → zmv E j = zyrow E0 f j) ∧ (3 ≤ i → ∀ j, j < m → zmv E j = zyrow E0 f j) ∧ (i = 3 → k ≤ m ∧ ∀ j, j < k → zyrow E f (m - 1 - j) = m - 1 - zyrow E0 f j) ∧ (i = 4 → k < m ∧ ∀ j, j ≤ k → zyrow E f (m - 1 - j) = m - 1 - zyrow E0 f j)
theorem zymi_run : zyAllP (fun r c => zyrS (zymr r c) zxi235 (235, 0, 0, 0, 0) 2 zpmi (fun _ _ => []) zFmi zSmi zXmi zRmi 5) = true := by decide +kernel
theorem zymirrors {l : Launch} {r c : Nat} (h1 : 1 ≤ r) (h2 : r ≤ 4) (h3 : 1 ≤ c) (h4 : c ≤ 5) {en : zEn} {me : zMe} (hen : zG zxMeta 235 = some en) (hme : zG zMeth 235 = some me) : zyHc l (zymr r c) en me 2 1 zyΦmi zyΨmi := by
  have een : zG zxMeta 235 = some (zxi235, 2, 4, 11, 235, 0, 0, 0, 0) := rfl
  obtain ⟨me1, hme1, hOK⟩ := zall hen
  rw [hme] at hme1
  cases hme1
  rw [een] at hen
  cases hen
  have hr := zyAllP_iff zymi_run h1 h2 h3 h4
  obtain ⟨mela, hmela, -⟩ := zall (show zG zxMeta 227 = some (zxi227, 4, 4, 11, 227, 0, 0, 0, 0) from rfl)
  have hla := zylays (l := l) h1 h2 h3 h4 (show zG zxMeta 227 = some (zxi227, 4, 4, 11, 227, 0, 0, 0, 0) from rfl) hmela
  refine zycutS (mi := zymr r c) hOK rfl rfl ⟨_, rfl, rfl⟩ (ι := Fin 5) (fun i => zpmi i.val) (fun _ _ => []) (fun i => zFmi i.val) (fun i => zSmi i.val) (fun i => zXmi i.val) (fun i => zRmi i.val) (fun i y2 ct en2 me2 h => by cases h) 200000 (fun i => zyAll_iff hr i.val i.isLt) ⟨0, by decide⟩ ⟨rfl, rfl, rfl, rfl⟩ ⟨by decide, by decide⟩
    (fun i as E0 ρ E => ∃ f m k : Nat, as = [Int32.ofNat f] ∧ f < 1300 ∧ m ≤ 8 ∧ E0 74 21 = some (.int (Int32.ofNat m)) ∧ zPm (zyrow E0 f) m ∧ zyImi i.val f m k E0 ρ E) (fun i as E0 ρ E => if i.val = 0 then 100 else (if i.val ≤ 2 then 60 else 0) + 2 * (8 - zyN1 (ρ 3)) + i.val % 2) ?_ ?_ ?_
  · intro as E hlen hT hΦ
    obtain ⟨f, m, rfl, b1, b2, b3, b4⟩ := hΦ
    refine ⟨zEnv_c (zyfull _) (zEnv_c ?_ (zEnv_c (zyfull _) (zEnv_c (zyfull _) zEnv_nil))), f, m, 0, rfl, b1, b2, b3, b4, rfl, fun _ _ _ _ => rfl, fun h => absurd (show 1 ≤ 0 from h) (by decide), fun _ _ _ => rfl, fun h => absurd (show 0 = 1 from h) (by decide), fun h => absurd (show 0 = 2 from h) (by decide), fun h => absurd (show 3 ≤ 0 from h) (by decide), fun h => absurd (show 0 = 3 from h) (by decide), fun h => absurd (show 0 = 4 from h) (by decide)⟩
    show 2147483648 ≤ zB (Int32.ofNat f) ∧ zB (Int32.ofNat f) ≤ 2147484947
    rw [zyBn (by omega)]
    omega
  · intro as B s Wg hRu hT0 hΦ hlen i ρ H hT hInv hIH x hx ρ2 N2 H2 locs lsB stA hAt hXs hag hfr hT2
    rcases i with ⟨i, hi⟩
    have hi2 : i = 0 ∨ i = 1 ∨ i = 2 ∨ i = 3 ∨ i = 4 := by omega
    rcases hi2 with rfl | rfl | rfl | rfl | rfl
    · have hx : x ∈ [zxmi_ax0] := hx
      have hg : ∀ k, k < 4 → ρ2 k = ρ k := hag
      have hI := hInv
      have hI : ∃ f m k : Nat, as = [Int32.ofNat f] ∧ f < 1300 ∧ m ≤ 8 ∧ (zyEl (zymr r c) B s.heap) 74 21 = some (.int (Int32.ofNat m)) ∧ zPm (zyrow (zyEl (zymr r c) B s.heap) f) m ∧ zyImi 0 f m k (zyEl (zymr r c) B s.heap) ρ (zyEl (zymr r c) B H) := hI
      obtain ⟨hF, hB, hM⟩ := hXs
      have hEE : (zyEl (zymr r c) B H2) = (zyEl (zymr r c) B H) := zyfr0 hfr
      have ex := List.mem_singleton.mp hx
      subst ex
      obtain ⟨f, m, k, has, hf, hm, hst, hpm, hI⟩ := hI
      obtain ⟨i1, i2, i3, i4, i5, i6, i7, i8, i9⟩ := hI
      have a1 : ρ2 1 = Int32.ofNat f := (hg 1 (by decide)).trans i1
      refine zyGoB hIH hAt hB ⟨1, by decide⟩ [595, 34359738369, 659, 0] rfl rfl rfl rfl ⟨f, m, 0, has, hf, hm, hst, hpm, a1, by rw [hEE]; exact i2, fun _ => rfl, fun _ => by rw [hEE]; exact i4 (by decide), fun _ => ⟨Nat.zero_le _, fun j hj => absurd hj (Nat.not_lt_zero j)⟩, fun h => absurd (show 1 = 2 from h) (by decide), fun h => absurd (show 3 ≤ 1 from h) (by decide), fun h => absurd (show 1 = 3 from h) (by decide), fun h => absurd (show 1 = 4 from h) (by decide)⟩ ?_
      show 60 + 2 * (8 - zyN1 (Int32.ofNat 0)) + 1 < 100
      omega
    · have hx : x ∈ [zxmi_bx0, zxmi_bx1] := hx
      have hg : ∀ k, k < 4 → ρ2 k = ρ k := hag
      have hI := hInv
      have hI : ∃ f m k : Nat, as = [Int32.ofNat f] ∧ f < 1300 ∧ m ≤ 8 ∧ (zyEl (zymr r c) B s.heap) 74 21 = some (.int (Int32.ofNat m)) ∧ zPm (zyrow (zyEl (zymr r c) B s.heap) f) m ∧ zyImi 1 f m k (zyEl (zymr r c) B s.heap) ρ (zyEl (zymr r c) B H) := hI
      obtain ⟨hF, hB, hM⟩ := hXs
      have hEE : (zyEl (zymr r c) B H2) = (zyEl (zymr r c) B H) := zyfr0 hfr
      rcases List.mem_cons.mp hx with ex | hx
      · subst ex
        obtain ⟨f, m, k, has, hf, hm, hst, hpm, hI⟩ := hI
        obtain ⟨i1, i2, i3, i4, i5, i6, i7, i8, i9⟩ := hI
        have a1 : ρ2 1 = Int32.ofNat f := (hg 1 (by decide)).trans i1
        have a3 : ρ2 3 = Int32.ofNat k := (hg 3 (by decide)).trans (i3 (by decide))
        have hms : zyEl (zymr r c) B H 74 21 = some (.int (Int32.ofNat m)) := (i2 74 21 (fun q => absurd q.1 (by decide)) (by decide)).trans hst
        obtain ⟨n0, w1, w2, w3⟩ := zyXe hF 0 rfl
        have w1 : Int32.ofNat 21 = Int32.ofNat n0 := w1
        have w3 : zyEl (zymr r c) B H 74 n0 = some (.int (ρ2 4)) := w3
        have em : ρ2 4 = Int32.ofNat m := zyEk w1 (by decide) w2 w3 hms
        have f1 := zyX20 hF 1 rfl
        have f1 : ρ2 3 < ρ2 4 := f1
        have k8 : 2147483648 ≤ zB (ρ2 3) ∧ zB (ρ2 3) ≤ 2147483655 := zyXb hB 1 rfl
        have k8 : k < 8 := by
          obtain ⟨km, -⟩ := i5 rfl
          rw [a3, zyBn (by omega)] at k8
          omega
        rw [a3, em, zyOl (by omega) (by omega)] at f1
        have w1 := zyXop hF 2 rfl (by decide)
        have w1 : ρ2 5 = Int32.ofNat 8 * ρ2 1 := w1
        have w2 := zyXop hF 3 rfl (by decide)
        have w2 : ρ2 6 = ρ2 5 + ρ2 3 := w2
        have T1 : zyTy (zymr r c) (zyEl (zymr r c) B H) := hT
        have v1 := zfv_rd T1 (f := f) (k := k) (by omega) (w1.trans (by rw [a1])) (w2.trans (by rw [a3])) (zyXe hF 4 rfl)
        have v1 : ρ2 7 = Int32.ofNat (zyrow (zyEl (zymr r c) B H) f k) := v1
        have l1 := zyrow_lt T1 (f := f) (p := k) (by omega)
        refine zyAsB hRu hIH hAt hB 82 k (20, 8, [(0, 7, 73786976312018075706)]) rfl rfl rfl (cv := 240518168577) (cj := 103079215105) rfl (by decide) (by decide) ⟨2, by decide⟩ [595, 34359738369, 659, 103079215105] rfl rfl rfl rfl k8 a3 ?_ ?_
        · intro r0 hr0 _ _
          rw [List.mem_singleton.mp hr0]
          refine ⟨rfl, ?_⟩
          show 2147483648 ≤ zB (ρ2 7) ∧ zB (ρ2 7) ≤ 2147483655
          rw [v1, zyBn (by omega)]
          omega
        · intro E3 hT3 e1 e2
          have e1 : E3 82 k = some (.int (ρ2 7)) := e1
          rw [hEE] at e2
          refine ⟨⟨f, m, k, has, hf, hm, hst, hpm, a1, fun a2 k2 q1 q2 => (e2 a2 k2 (fun z => q2 z.1)).trans (i2 a2 k2 q1 q2), fun _ => a3, fun _ j hj => (zyrow_eq (e2 81 _ (fun z => absurd z.1 (by decide)))).trans (i4 (by decide) j hj), fun h => absurd (show 2 = 1 from h) (by decide), fun _ => ⟨f1, fun j hj => ?_⟩, fun h => absurd (show 3 ≤ 2 from h) (by decide), fun h => absurd (show 2 = 3 from h) (by decide), fun h => absurd (show 2 = 4 from h) (by decide)⟩, ?_⟩
          · by_cases e : j = k
            · subst e
              have : zmv E3 j = zyrow (zyEl (zymr r c) B H) f j := by
                unfold zmv zyI
                rw [e1, v1]
                exact zyN1_of (by omega)
              rw [this]
              exact i4 (by decide) j (by omega)
            · rw [zmv_eq (e2 82 j (fun z => e z.2))]
              exact (i5 rfl).2 j (by omega)
          · show 60 + 2 * (8 - zyN1 (ρ2 3)) + 0 < 60 + 2 * (8 - zyN1 (ρ 3)) + 1
            rw [hg 3 (by decide)]
            omega
      · skip
        have ex := List.mem_singleton.mp hx
        subst ex
        obtain ⟨f, m, k, has, hf, hm, hst, hpm, hI⟩ := hI
        obtain ⟨i1, i2, i3, i4, i5, i6, i7, i8, i9⟩ := hI
        have a1 : ρ2 1 = Int32.ofNat f := (hg 1 (by decide)).trans i1
        have a3 : ρ2 3 = Int32.ofNat k := (hg 3 (by decide)).trans (i3 (by decide))
        have hms : zyEl (zymr r c) B H 74 21 = some (.int (Int32.ofNat m)) := (i2 74 21 (fun q => absurd q.1 (by decide)) (by decide)).trans hst
        obtain ⟨n0, w1, w2, w3⟩ := zyXe hF 0 rfl
        have w1 : Int32.ofNat 21 = Int32.ofNat n0 := w1
        have w3 : zyEl (zymr r c) B H 74 n0 = some (.int (ρ2 4)) := w3
        have em : ρ2 4 = Int32.ofNat m := zyEk w1 (by decide) w2 w3 hms
        have f1 := zyX21 hF 1 rfl
        have f1 : ¬ ρ2 3 < ρ2 4 := f1
        obtain ⟨km, kv⟩ := i5 rfl
        rw [a3, em, zyOl (by omega) (by omega)] at f1
        refine zyGoB hIH hAt hB ⟨3, by decide⟩ [595, 34359738369, 659, 0] rfl rfl rfl rfl ⟨f, m, 0, has, hf, hm, hst, hpm, a1, by rw [hEE]; exact i2, fun _ => rfl, fun h => absurd (show 3 ≤ 2 from h) (by decide), fun h => absurd (show 3 = 1 from h) (by decide), fun h => absurd (show 3 = 2 from h) (by decide), fun _ j hj => by rw [hEE]; exact kv j (by omega), fun _ => ⟨Nat.zero_le _, fun j hj => absurd hj (Nat.not_lt_zero j)⟩, fun h => absurd (show 3 = 4 from h) (by decide)⟩ ?_
        show 0 + 2 * (8 - zyN1 (Int32.ofNat 0)) + 1 < 60 + 2 * (8 - zyN1 (ρ 3)) + 1
        omega
    · have hx : x ∈ [zxmi_cx0] := hx
      have hg : ∀ k, k < 4 → ρ2 k = ρ k := hag
      have hI := hInv
      have hI : ∃ f m k : Nat, as = [Int32.ofNat f] ∧ f < 1300 ∧ m ≤ 8 ∧ (zyEl (zymr r c) B s.heap) 74 21 = some (.int (Int32.ofNat m)) ∧ zPm (zyrow (zyEl (zymr r c) B s.heap) f) m ∧ zyImi 2 f m k (zyEl (zymr r c) B s.heap) ρ (zyEl (zymr r c) B H) := hI
      obtain ⟨hF, hB, hM⟩ := hXs
      have hEE : (zyEl (zymr r c) B H2) = (zyEl (zymr r c) B H) := zyfr0 hfr
      have ex := List.mem_singleton.mp hx
      subst ex
      obtain ⟨f, m, k, has, hf, hm, hst, hpm, hI⟩ := hI
      obtain ⟨i1, i2, i3, i4, i5, i6, i7, i8, i9⟩ := hI
      have a1 : ρ2 1 = Int32.ofNat f := (hg 1 (by decide)).trans i1
      have a3 : ρ2 3 = Int32.ofNat k := (hg 3 (by decide)).trans (i3 (by decide))
      have a3' : ρ2 3 + Int32.ofNat 1 = Int32.ofNat (k + 1) := by rw [a3, zyOa]
      obtain ⟨km, kv⟩ := i6 rfl
      refine zyGoB hIH hAt hB ⟨1, by decide⟩ [595, 34359738369, 659, 103079215113] rfl rfl rfl rfl ⟨f, m, k + 1, has, hf, hm, hst, hpm, a1, by rw [hEE]; exact i2, fun _ => a3', fun _ => by rw [hEE]; exact i4 (by decide), fun _ => ⟨by omega, fun j hj => by rw [hEE]; exact kv j (by omega)⟩, fun h => absurd (show 1 = 2 from h) (by decide), fun h => absurd (show 3 ≤ 1 from h) (by decide), fun h => absurd (show 1 = 3 from h) (by decide), fun h => absurd (show 1 = 4 from h) (by decide)⟩ ?_
      show 60 + 2 * (8 - zyN1 (ρ2 3 + Int32.ofNat 1)) + 1 % 2 < 60 + 2 * (8 - zyN1 (ρ 3)) + 2 % 2
      rw [a3', i3 (by decide), zyN1_of (by omega), zyN1_of (by omega)]
      omega
    · have hx : x ∈ [zxmi_dx0] := hx
      have hg : ∀ k, k < 4 → ρ2 k = ρ k := hag
      have hI := hInv
      have hI : ∃ f m k : Nat, as = [Int32.ofNat f] ∧ f < 1300 ∧ m ≤ 8 ∧ (zyEl (zymr r c) B s.heap) 74 21 = some (.int (Int32.ofNat m)) ∧ zPm (zyrow (zyEl (zymr r c) B s.heap) f) m ∧ zyImi 3 f m k (zyEl (zymr r c) B s.heap) ρ (zyEl (zymr r c) B H) := hI
      obtain ⟨hF, hB, hM⟩ := hXs
      have hEE : (zyEl (zymr r c) B H2) = (zyEl (zymr r c) B H) := zyfr0 hfr
      have ex := List.mem_singleton.mp hx
      subst ex
      obtain ⟨f, m, k, has, hf, hm, hst, hpm, hI⟩ := hI
      obtain ⟨i1, i2, i3, i4, i5, i6, i7, i8, i9⟩ := hI
      have a1 : ρ2 1 = Int32.ofNat f := (hg 1 (by decide)).trans i1
      have a3 : ρ2 3 = Int32.ofNat k := (hg 3 (by decide)).trans (i3 (by decide))
      have hms : zyEl (zymr r c) B H 74 21 = some (.int (Int32.ofNat m)) := (i2 74 21 (fun q => absurd q.1 (by decide)) (by decide)).trans hst
      obtain ⟨n0, w1, w2, w3⟩ := zyXe hF 0 rfl
      have w1 : Int32.ofNat 21 = Int32.ofNat n0 := w1
      have w3 : zyEl (zymr r c) B H 74 n0 = some (.int (ρ2 4)) := w3
      have em : ρ2 4 = Int32.ofNat m := zyEk w1 (by decide) w2 w3 hms
      have f1 := zyX20 hF 1 rfl
      have f1 : ρ2 3 < ρ2 4 := f1
      obtain ⟨km, kv⟩ := i8 rfl
      rw [a3, em, zyOl (by omega) (by omega)] at f1
      have T1 : zyTy (zymr r c) (zyEl (zymr r c) B H) := hT
      have w1 := zyXop hF 2 rfl (by decide)
      have w1 : ρ2 5 = ρ2 4 + Int32.ofNat 4294967295 - ρ2 3 := w1
      rw [em, zyOd (by omega), a3, zyOs (by omega)] at w1
      obtain ⟨n1, u1, u2, u3⟩ := zyXe hF 3 rfl
      have u1 : ρ2 3 = Int32.ofNat n1 := u1
      have u3 : zyEl (zymr r c) B H 82 n1 = some (.int (ρ2 6)) := u3
      rw [a3] at u1
      have v6 := zyEk u1 (by omega) u2 u3 (zmv_el T1 (i := k) (by omega)).1
      rw [i7 (by decide) k f1] at v6
      have gk : zyrow (zyEl (zymr r c) B s.heap) f k < m := (hpm k f1).1
      have w2 := zyXop hF 4 rfl (by decide)
      have w2 : ρ2 7 = ρ2 4 + Int32.ofNat 4294967295 - ρ2 6 := w2
      rw [em, zyOd (by omega), v6, zyOs (by omega)] at w2
      refine zyCa0 hRu hIH hAt hB hla (ix := 213) (ax := 3632) rfl rfl rfl hmela ⟨rfl, rfl, rfl, rfl⟩ (by decide) [34359738369, 171798691841, 240518168577] rfl (by decide) rfl ⟨4, by decide⟩ [595, 34359738369, 659, 103079215105] rfl rfl rfl rfl ?_ ?_
      · show zyΦla [ρ2 1, ρ2 5, ρ2 7] _
        rw [a1, w1, w2]
        exact ⟨f, _, _, rfl, hf, by omega, by omega⟩
      · intro E3 vo hT3 hΨ
        have hΨ : zyΨla [ρ2 1, ρ2 5, ρ2 7] _ E3 vo := hΨ
        rw [a1, w1, w2, hEE] at hΨ
        obtain ⟨ev, hu⟩ := hΨ
        have hu := hu f (m - 1 - k) (m - 1 - zyrow (zyEl (zymr r c) B s.heap) f k) rfl hf (by omega) (by omega)
        refine ⟨ev, ⟨f, m, k, has, hf, hm, hst, hpm, a1, fun a2 k2 q1 q2 => (hu.2 a2 k2 (fun z => q1 ⟨z.1, by omega, by omega⟩)).trans (i2 a2 k2 q1 q2), fun _ => a3, fun h => absurd (show 4 ≤ 2 from h) (by decide), fun h => absurd (show 4 = 1 from h) (by decide), fun h => absurd (show 4 = 2 from h) (by decide), fun _ j hj => (zmv_eq (hu.2 82 j (fun z => absurd z.1 (by decide)))).trans (i7 (by decide) j hj), fun h => absurd (show 4 = 3 from h) (by decide), fun _ => ⟨f1, fun j hj => ?_⟩⟩, ?_⟩
        · rw [zyrow_up hu (by omega) (by omega) (by omega)]
          by_cases e : j = k
          · rw [if_pos ⟨rfl, by rw [e]⟩, e]
          · rw [if_neg (fun z => e (by omega))]
            exact kv j (by omega)
        · show 0 + 2 * (8 - zyN1 (ρ2 3)) + 4 % 2 < 0 + 2 * (8 - zyN1 (ρ 3)) + 3 % 2
          rw [hg 3 (by decide)]
          omega
    · have hx : x ∈ [zxmi_ex0] := hx
      have hg : ∀ k, k < 4 → ρ2 k = ρ k := hag
      have hI := hInv
      have hI : ∃ f m k : Nat, as = [Int32.ofNat f] ∧ f < 1300 ∧ m ≤ 8 ∧ (zyEl (zymr r c) B s.heap) 74 21 = some (.int (Int32.ofNat m)) ∧ zPm (zyrow (zyEl (zymr r c) B s.heap) f) m ∧ zyImi 4 f m k (zyEl (zymr r c) B s.heap) ρ (zyEl (zymr r c) B H) := hI
      obtain ⟨hF, hB, hM⟩ := hXs
      have hEE : (zyEl (zymr r c) B H2) = (zyEl (zymr r c) B H) := zyfr0 hfr
      have ex := List.mem_singleton.mp hx
      subst ex
      obtain ⟨f, m, k, has, hf, hm, hst, hpm, hI⟩ := hI
      obtain ⟨i1, i2, i3, i4, i5, i6, i7, i8, i9⟩ := hI
      have a1 : ρ2 1 = Int32.ofNat f := (hg 1 (by decide)).trans i1
      have a3 : ρ2 3 = Int32.ofNat k := (hg 3 (by decide)).trans (i3 (by decide))
      have a3' : ρ2 3 + Int32.ofNat 1 = Int32.ofNat (k + 1) := by rw [a3, zyOa]
      obtain ⟨km, kv⟩ := i9 rfl
      refine zyGoB hIH hAt hB ⟨3, by decide⟩ [595, 34359738369, 659, 103079215113] rfl rfl rfl rfl ⟨f, m, k + 1, has, hf, hm, hst, hpm, a1, by rw [hEE]; exact i2, fun _ => a3', fun h => absurd (show 3 ≤ 2 from h) (by decide), fun h => absurd (show 3 = 1 from h) (by decide), fun h => absurd (show 3 = 2 from h) (by decide), fun _ j hj => by rw [hEE]; exact i7 (by decide) j hj, fun _ => ⟨by omega, fun j hj => by rw [hEE]; exact kv j (by omega)⟩, fun h => absurd (show 3 = 4 from h) (by decide)⟩ ?_
      show 0 + 2 * (8 - zyN1 (ρ2 3 + Int32.ofNat 1)) + 3 % 2 < 0 + 2 * (8 - zyN1 (ρ 3)) + 4 % 2
      rw [a3', i3 (by decide), zyN1_of (by omega), zyN1_of (by omega)]
      omega
  · intro as E0 E E2 hT0 hΦ hlen i ρ hT hInv x hx ρ2 N2 B vo hXs hag hfr hT2 hvo
    rcases i with ⟨i, hi⟩
    have hi2 : i = 0 ∨ i = 1 ∨ i = 2 ∨ i = 3 ∨ i = 4 := by omega
    rcases hi2 with rfl | rfl | rfl | rfl | rfl
    · cases hx
    · cases hx
    · cases hx
    · have hx : x ∈ [zxmi_dr0] := hx
      have hg : ∀ k, k < 4 → ρ2 k = ρ k := hag
      have hI := hInv
      have hI : ∃ f m k : Nat, as = [Int32.ofNat f] ∧ f < 1300 ∧ m ≤ 8 ∧ E0 74 21 = some (.int (Int32.ofNat m)) ∧ zPm (zyrow E0 f) m ∧ zyImi 3 f m k E0 ρ E := hI
      obtain ⟨hF, hB, hM⟩ := hXs
      have hEE : E2 = E := zyfr0 hfr
      have ex := List.mem_singleton.mp hx
      subst ex
      obtain ⟨f, m, k, has, hf, hm, hst, hpm, hI⟩ := hI
      obtain ⟨i1, i2, i3, i4, i5, i6, i7, i8, i9⟩ := hI
      have a1 : ρ2 1 = Int32.ofNat f := (hg 1 (by decide)).trans i1
      have a3 : ρ2 3 = Int32.ofNat k := (hg 3 (by decide)).trans (i3 (by decide))
      have hms : E 74 21 = some (.int (Int32.ofNat m)) := (i2 74 21 (fun q => absurd q.1 (by decide)) (by decide)).trans hst
      obtain ⟨n0, w1, w2, w3⟩ := zyXe hF 0 rfl
      have w1 : Int32.ofNat 21 = Int32.ofNat n0 := w1
      have w3 : E 74 n0 = some (.int (ρ2 4)) := w3
      have em : ρ2 4 = Int32.ofNat m := zyEk w1 (by decide) w2 w3 hms
      have f1 := zyX21 hF 1 rfl
      have f1 : ¬ ρ2 3 < ρ2 4 := f1
      obtain ⟨km, kv⟩ := i8 rfl
      rw [a3, em, zyOl (by omega) (by omega)] at f1
      refine ⟨zyvo_0 (show zyvo _ [] vo from hvo), fun f' m' e c1 c2 c3 => ?_⟩
      rw [has] at e
      have e1 := zyOi (by omega) (by omega) (List.cons.inj e).1
      rw [hst] at c3
      have e2 := zyOi (by omega) (by omega) (Value.int.inj (Option.some.inj c3))
      subst e1
      subst e2
      rw [hEE]
      exact ⟨i2, zPm_mi hpm (fun j hj => kv j (by omega))⟩
    · cases hx
