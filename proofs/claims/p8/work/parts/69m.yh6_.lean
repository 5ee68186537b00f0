section
/-! THE SIMPLE BRAIDS: the last comes into its place -/
section YGO5
variable {l : Launch} {mi : zyB} {en : zEn} {dep : Nat} {B : zCx} {s : State} {ι : Type} {φ : ι → zyPh} {Inv : ι → (Nat → Int32) → zyEm → Prop} {Mu : ι → (Nat → Int32) → zyEm → Nat} {M : Nat} {Wg : zyWt} {x : zyXp} {ρ2 : Nat → Int32} {N : Nat} {H : Heap} {locs : List Loc} {lsB : Array Slot} {stA : List Value}
/-- an element known at the next phase, whose code isn't known: z -/
theorem zyGoKi {nL : Nat} (hIH : zyIH mi nL B s φ Inv Mu M Wg) (hAt : zyAt mi B s nL x ρ2 N H locs lsB stA) (hB : ∀ b ∈ x.2.2.2.2.1, b.2.1 ≤ zB (zyw ρ2 b.1) ∧ zB (zyw ρ2 b.1) ≤ b.2.2) (i2 : ι) (cs : List Nat) (env : List (Nat × Nat)) (lo hi : Nat) (he : (φ i2).2.2.1 = env ++ [(lo, hi)]) (hnl : nL ≤ zyln env) (hpc : x.1 = (φ i2).1) (hchk : zand (zygoB nL x.2.1 (φ i2) cs) (zand (zynil x.2.2.1) (zynil (φ i2).2.2.2.2)) = true) (henv : zyenvB x.2.2.2.2.1 cs env 0 = true) (key : Nat) (c : zyCl) (hkc : (φ i2).2.2.2.1 = [(key, zysym (zyln env))]) (hg : zG mi (key / 16384) = some c) (hl : key % 16384 < zyLen c) (z : Int32) (hel : zyEl mi B H (key / 16384) (key % 16384) = some (.int z)) (hz : lo ≤ zB z ∧ zB z ≤ hi)
    (hInv : Inv i2 (zyρi (fun k => zyw ρ2 (zyag cs k)) (zyln env) z) (zyEl mi B H)) (hMu : Mu i2 (zyρi (fun k => zyw ρ2 (zyag cs k)) (zyln env) z) (zyEl mi B H) < M) : Wg H locs x.1 lsB stA := by
  obtain ⟨h1, h2⟩ := zand_iff hchk
  obtain ⟨h2, h3⟩ := zand_iff h2
  rw [hpc]
  refine hIH i2 _ H locs lsB stA hAt.1 hAt.2.1 hInv (zyAss (ρ' := zyρi (fun k => zyw ρ2 (zyag cs k)) (zyln env) z) hAt h1 (fun i hi => zyρi_n (by omega)) ?_ hAt.2.2.1 ?_ ?_) hMu
  · rw [he]
    refine zEnv_i (zyln_eq env) (fun k p hp => ?_) hz
    have := zyenvB_iff hB henv k p hp
    rwa [Nat.zero_add] at this
  · have e1 : x.2.2.1 = [] := by
      cases hq : x.2.2.1 with
      | nil => rfl
      | cons a t => rw [hq] at h2; cases h2
    have e2 : (φ i2).2.2.2.2 = [] := by
      cases hq : (φ i2).2.2.2.2 with
      | nil => rfl
      | cons a t => rw [hq] at h3; cases h3
    have h5 := hAt.2.2.2.2.2
    rw [e1] at h5
    rw [e2, zySt_n h5]
    trivial
  · intro p hp
    rw [hkc] at hp
    rw [List.mem_singleton.mp hp]
    refine ⟨c, _, hg, hl, hel, zyv_sym ?_ zyρi_e⟩
    rw [he, List.length_append, zyln_eq, List.length_singleton]
    omega
end YGO5
theorem zyfr1 {E E2 : zyEm} {p q : Nat} (h : ∀ a k, zyin [(p, q, q)] a k = false → E2 a k = E a k) : ∀ a k, ¬ (a = p ∧ k = q) → E2 a k = E a k := by
  intro a k hn
  apply h
  cases hq : zyin [(p, q, q)] a k with
  | false => rfl
  | true =>
    obtain ⟨p0, g1, g2, g3, g4⟩ := zyin_iff.mp hq
    rw [List.mem_singleton.mp g1] at g2 g3 g4
    exact absurd ⟨g2.symm, by dsimp only at g3 g4; omega⟩ hn
def zBr (E : zyEm) (m n : Nat) : Prop := ∀ f, f < n → zPm (zyrow E f) m
def zySe (E E2 : zyEm) : Prop := ∀ a2 k2, ¬ a2 = 81 → ¬ (a2 = 74 ∧ (k2 = 19 ∨ k2 = 20)) → E2 a2 k2 = E a2 k2
def zyΦse (as : List Int32) (E : zyEm) : Prop := as = [] ∧ ∃ n m : Nat, n ≤ 1299 ∧ m ≤ 8 ∧ E 74 19 = some (.int (Int32.ofNat n)) ∧ E 74 21 = some (.int (Int32.ofNat m)) ∧ zBr E m n
def zyΨse (_ : List Int32) (E E2 : zyEm) (vo : Option Value) : Prop := vo = none ∧ ∀ n m : Nat, n ≤ 1299 → m ≤ 8 → E 74 19 = some (.int (Int32.ofNat n)) → E 74 21 = some (.int (Int32.ofNat m)) → ∃ n', n' ≤ n ∧ E2 74 19 = some (.int (Int32.ofNat n')) ∧ zBr E2 m n' ∧ zySe E E2
def zyIse (i n m : Nat) (E0 : zyEm) (ρ : Nat → Int32) (E : zyEm) : Prop := E 74 19 = some (.int (Int32.ofNat n)) ∧ E 74 21 = some (.int (Int32.ofNat m)) ∧ zBr E m n ∧ zySe E0 E ∧ (i = 1 → ∃ b, b ≤ n ∧ ρ 1 = Int32.ofNat (b + 4294967294)) ∧ (i = 2 → ∃ a, a + 1 < n ∧ ρ 1 = Int32.ofNat a) ∧ ((i = 4 ∨ i = 5 ∨ i = 7) → 1 ≤ n) ∧ (i = 5 → ρ 2 = Int32.ofNat n)
def zyMse (i b n : Nat) : Nat := if i = 0 then 100000 else if i ≤ 2 then 50000 + 4 * b + (4 - i) else if i ≤ 5 then 20000 + 4 * n + (6 - i) else if i = 8 then 4 * n + 4 else 4 * n + (9 - i)
theorem zyO3 (a : Nat) : Int32.ofNat a + Int32.ofNat 4294967295 = Int32.ofNat (a + 1 + 4294967294) := (zyOa a 4294967295).trans (congrArg Int32.ofNat (Nat.add_assoc a 1 4294967294).symm)
theorem zyO2 {b : Nat} (h : b < 4294967294) : zyN1 (Int32.ofNat (b + 4294967294) + Int32.ofNat 2) = b := by
  rw [zyOa]
  unfold zyN1
  rw [zN_of]
  omega
theorem zyse_run : zyAllP (fun r c => zyrS (zymr r c) zxi236 (236, 0, 0, 0, 0) 5 zpse (fun _ _ => []) zFse zSse zXse zRse 9) = true := by decide +kernel
theorem zysettles {l : Launch} {r c : Nat} (h1 : 1 ≤ r) (h2 : r ≤ 4) (h3 : 1 ≤ c) (h4 : c ≤ 5) {en : zEn} {me : zMe} (hen : zG zxMeta 236 = some en) (hme : zG zMeth 236 = some me) : zyHc l (zymr r c) en me 5 0 zyΦse zyΨse := by
  have een : zG zxMeta 236 = some (zxi236, 1, 2, 11, 236, 0, 0, 0, 0) := rfl
  obtain ⟨me1, hme1, hOK⟩ := zall hen
  rw [hme] at hme1
  cases hme1
  rw [een] at hen
  cases hen
  have hr := zyAllP_iff zyse_run h1 h2 h3 h4
  obtain ⟨mesh, hmesh, -⟩ := zall (show zG zxMeta 233 = some (zxi233, 2, 8, 11, 233, 0, 0, 2, 0) from rfl)
  have hsh := zyshares (l := l) h1 h2 h3 h4 (show zG zxMeta 233 = some (zxi233, 2, 8, 11, 233, 0, 0, 2, 0) from rfl) hmesh
  obtain ⟨meno, hmeno, -⟩ := zall (show zG zxMeta 231 = some (zxi231, 2, 3, 11, 231, 0, 0, 2, 0) from rfl)
  have hno := zyisNothing (l := l) h1 h2 h3 h4 (show zG zxMeta 231 = some (zxi231, 2, 3, 11, 231, 0, 0, 2, 0) from rfl) hmeno
  obtain ⟨meht, hmeht, -⟩ := zall (show zG zxMeta 232 = some (zxi232, 2, 3, 11, 232, 0, 0, 2, 0) from rfl)
  have hht := zyisHalfTurn (l := l) h1 h2 h3 h4 (show zG zxMeta 232 = some (zxi232, 2, 3, 11, 232, 0, 0, 2, 0) from rfl) hmeht
  obtain ⟨melo, hmelo, -⟩ := zall (show zG zxMeta 234 = some (zxi234, 2, 3, 11, 234, 0, 0, 0, 0) from rfl)
  have hlo := zyleavesOut (l := l) h1 h2 h3 h4 (show zG zxMeta 234 = some (zxi234, 2, 3, 11, 234, 0, 0, 0, 0) from rfl) hmelo
  refine zycutS (mi := zymr r c) hOK rfl rfl ⟨_, rfl, rfl⟩ (ι := Fin 9) (fun i => zpse i.val) (fun _ _ => []) (fun i => zFse i.val) (fun i => zSse i.val) (fun i => zXse i.val) (fun i => zRse i.val) (fun i y2 ct en2 me2 h => by cases h) 200000 (fun i => zyAll_iff hr i.val i.isLt) ⟨0, by decide⟩ ⟨rfl, rfl, rfl, rfl⟩ ⟨by decide, by decide⟩
    (fun i as E0 ρ E => ∃ n0 n m : Nat, n0 ≤ 1299 ∧ m ≤ 8 ∧ E0 74 19 = some (.int (Int32.ofNat n0)) ∧ E0 74 21 = some (.int (Int32.ofNat m)) ∧ n ≤ n0 ∧ zyIse i.val n m E0 ρ E) (fun i as E0 ρ E => zyMse i.val (zyN1 (ρ 1 + Int32.ofNat 2)) (zyN1 (zyI E 74 19))) ?_ ?_ ?_
  · intro as E hlen hT hΦ
    obtain ⟨rfl, n, m, b1, b2, b3, b4, b5⟩ := hΦ
    exact ⟨zEnv_c (zyfull _) (zEnv_c (zyfull _) zEnv_nil), n, n, m, b1, b2, b3, b4, Nat.le_refl _, b3, b4, b5, fun _ _ _ _ => rfl, fun h => absurd (show 0 = 1 from h) (by decide), fun h => absurd (show 0 = 2 from h) (by decide), fun h => absurd (show 0 = 4 ∨ 0 = 5 ∨ 0 = 7 from h) (by decide), fun h => absurd (show 0 = 5 from h) (by decide)⟩
  · intro as B s Wg hRu hT0 hΦ hlen i ρ H hT hInv hIH x hx ρ2 N2 H2 locs lsB stA hAt hXs hag hfr hT2
    rcases i with ⟨i, hi⟩
    have hi2 : i = 0 ∨ i = 1 ∨ i = 2 ∨ i = 3 ∨ i = 4 ∨ i = 5 ∨ i = 6 ∨ i = 7 ∨ i = 8 := by omega
    rcases hi2 with rfl | rfl | rfl | rfl | rfl | rfl | rfl | rfl | rfl
    · have hx : x ∈ [zxse_ax0] := hx
      have hg : ∀ k, k < 2 → ρ2 k = ρ k := hag
      have hI := hInv
      have hI : ∃ n0 n m : Nat, n0 ≤ 1299 ∧ m ≤ 8 ∧ (zyEl (zymr r c) B s.heap) 74 19 = some (.int (Int32.ofNat n0)) ∧ (zyEl (zymr r c) B s.heap) 74 21 = some (.int (Int32.ofNat m)) ∧ n ≤ n0 ∧ zyIse 0 n m (zyEl (zymr r c) B s.heap) ρ (zyEl (zymr r c) B H) := hI
      obtain ⟨hF, hB, hM⟩ := hXs
      have hEE : (zyEl (zymr r c) B H2) = (zyEl (zymr r c) B H) := zyfr0 hfr
      have ex := List.mem_singleton.mp hx
      subst ex
      obtain ⟨n0, n, m, n1, m1, s1, s2, nn, i1, i2, i3, i4, i5, i6, i7, i8⟩ := hI
      have hn2 : zyN1 (zyI (zyEl (zymr r c) B H) 74 19) = n := zyI_of i1 (by omega)
      obtain ⟨n3, w1, w2, w3⟩ := zyXe hF 0 rfl
      have w1 : Int32.ofNat 19 = Int32.ofNat n3 := w1
      have w3 : zyEl (zymr r c) B H 74 n3 = some (.int (ρ2 2)) := w3
      have em : ρ2 2 = Int32.ofNat n := zyEk w1 (by decide) w2 w3 i1
      have e1 : ρ2 2 + Int32.ofNat 4294967294 = Int32.ofNat (n + 4294967294) := by rw [em, zyOa]
      refine zyGoB hIH hAt hB ⟨1, by decide⟩ [595, 103079215089] rfl rfl rfl rfl ⟨n0, n, m, n1, m1, s1, s2, nn, by rw [hEE]; exact i1, by rw [hEE]; exact i2, by rw [hEE]; exact i3, by rw [hEE]; exact i4, fun _ => ⟨n, Nat.le_refl _, e1⟩, fun h => absurd (show 1 = 2 from h) (by decide), fun h => absurd (show 1 = 4 ∨ 1 = 5 ∨ 1 = 7 from h) (by decide), fun h => absurd (show 1 = 5 from h) (by decide)⟩ ?_
      show zyMse 1 (zyN1 (ρ2 2 + Int32.ofNat 4294967294 + Int32.ofNat 2)) _ < 100000
      rw [e1, zyO2 (by omega)]
      show 50000 + 4 * n + (4 - 1) < 100000
      omega
    · have hx : x ∈ [zxse_bx0, zxse_bx1] := hx
      have hg : ∀ k, k < 2 → ρ2 k = ρ k := hag
      have hI := hInv
      have hI : ∃ n0 n m : Nat, n0 ≤ 1299 ∧ m ≤ 8 ∧ (zyEl (zymr r c) B s.heap) 74 19 = some (.int (Int32.ofNat n0)) ∧ (zyEl (zymr r c) B s.heap) 74 21 = some (.int (Int32.ofNat m)) ∧ n ≤ n0 ∧ zyIse 1 n m (zyEl (zymr r c) B s.heap) ρ (zyEl (zymr r c) B H) := hI
      obtain ⟨hF, hB, hM⟩ := hXs
      have hEE : (zyEl (zymr r c) B H2) = (zyEl (zymr r c) B H) := zyfr0 hfr
      rcases List.mem_cons.mp hx with ex | hx
      · subst ex
        obtain ⟨n0, n, m, n1, m1, s1, s2, nn, i1, i2, i3, i4, i5, i6, i7, i8⟩ := hI
        have hn2 : zyN1 (zyI (zyEl (zymr r c) B H) 74 19) = n := zyI_of i1 (by omega)
        refine zyGoB hIH hAt hB ⟨3, by decide⟩ [595, 0] rfl rfl rfl rfl ⟨n0, n, m, n1, m1, s1, s2, nn, by rw [hEE]; exact i1, by rw [hEE]; exact i2, by rw [hEE]; exact i3, by rw [hEE]; exact i4, fun h => absurd (show 3 = 1 from h) (by decide), fun h => absurd (show 3 = 2 from h) (by decide), fun h => absurd (show 3 = 4 ∨ 3 = 5 ∨ 3 = 7 from h) (by decide), fun h => absurd (show 3 = 5 from h) (by decide)⟩ ?_
        obtain ⟨b, b1, b2⟩ := i5 rfl
        show zyMse 3 _ (zyN1 (zyI (zyEl (zymr r c) B H2) 74 19)) < zyMse 1 _ _
        rw [hEE, hn2]
        show 20000 + 4 * n + (6 - 3) < 50000 + 4 * _ + (4 - 1)
        omega
      · skip
        have ex := List.mem_singleton.mp hx
        subst ex
        obtain ⟨n0, n, m, n1, m1, s1, s2, nn, i1, i2, i3, i4, i5, i6, i7, i8⟩ := hI
        have hn2 : zyN1 (zyI (zyEl (zymr r c) B H) 74 19) = n := zyI_of i1 (by omega)
        obtain ⟨b, b1, b2⟩ := i5 rfl
        have a1 : ρ2 1 = Int32.ofNat (b + 4294967294) := (hg 1 (by decide)).trans b2
        have q : 2147483648 ≤ zB (ρ2 1) ∧ zB (ρ2 1) ≤ 2147484945 := zyXb hB 0 rfl
        have b3 : 2 ≤ b := by
          rw [a1, zB_of, zb_def] at q
          omega
        have a2 : ρ2 1 = Int32.ofNat (b - 2) := by
          rw [a1]
          apply zN_inj
          rw [zN_of, zN_of]
          omega
        refine zyCa1 hRu hIH hAt hB hsh (ix := 220) (ax := 3728) rfl rfl rfl hmesh ⟨rfl, rfl, rfl, rfl⟩ (by decide) [34359738369] rfl (by decide) rfl ⟨2, by decide⟩ [595, 34359738369] [(0, 4294967295), (2147483648, 2147484945)] 2147483648 2147483649 rfl (by decide) rfl rfl rfl rfl rfl ?_ ?_
        · show zyΦsh [ρ2 1] _
          rw [a2, hEE]
          exact ⟨b - 2, m, rfl, by omega, m1, i2, i3 _ (by omega), i3 _ (by omega)⟩
        · intro E3 vo hT3 hΨ
          have hΨ : zyΨsh [ρ2 1] _ E3 vo := hΨ
          rw [a2, hEE] at hΨ
          obtain ⟨⟨z, ez, hz⟩, hq⟩ := hΨ
          obtain ⟨q1, q2, q3⟩ := hq (b - 2) m rfl (by omega) m1 i2
          have e19 : E3 74 19 = some (.int (Int32.ofNat n)) := (q1 74 19 (fun z => absurd z.1 (by decide))).trans i1
          refine ⟨z, ez, ?_, ?_, ⟨n0, n, m, n1, m1, s1, s2, nn, e19, (q1 74 21 (fun z => absurd z.1 (by decide))).trans i2, fun f hf => ?_, fun a2 k2 p1 p2 => (q1 a2 k2 (fun z => p1 z.1)).trans (i4 a2 k2 p1 p2), fun h => absurd (show 2 = 1 from h) (by decide), fun _ => ⟨b - 2, by omega, (zyρi_n (by decide)).trans a2⟩, fun h => absurd (show 2 = 4 ∨ 2 = 5 ∨ 2 = 7 from h) (by decide), fun h => absurd (show 2 = 5 from h) (by decide)⟩, ?_⟩
          · rcases hz with rfl | rfl <;> decide
          · rcases hz with rfl | rfl <;> decide
          · by_cases e1 : f = b - 2
            · rw [e1]
              exact q2
            · by_cases e2 : f = b - 2 + 1
              · rw [e2]
                exact q3
              · exact zPm_congr (fun j hj => zyrow_eq (q1 81 _ (fun z => by omega))) (i3 f hf)
          · show zyMse 2 (zyN1 (zyρi _ 2 z 1 + Int32.ofNat 2)) (zyN1 (zyI E3 74 19)) < zyMse 1 (zyN1 (ρ 1 + Int32.ofNat 2)) _
            rw [zyρi_n (by decide), zyI_of e19 (by omega), b2, zyO2 (by omega)]
            show 50000 + 4 * (zyN1 (ρ2 1 + Int32.ofNat 2)) + (4 - 2) < 50000 + 4 * b + (4 - 1)
            rw [a1, zyO2 (by omega)]
            omega
    · have hx : x ∈ [zxse_cx0, zxse_cx1] := hx
      have hg : ∀ k, k < 3 → ρ2 k = ρ k := hag
      have hI := hInv
      have hI : ∃ n0 n m : Nat, n0 ≤ 1299 ∧ m ≤ 8 ∧ (zyEl (zymr r c) B s.heap) 74 19 = some (.int (Int32.ofNat n0)) ∧ (zyEl (zymr r c) B s.heap) 74 21 = some (.int (Int32.ofNat m)) ∧ n ≤ n0 ∧ zyIse 2 n m (zyEl (zymr r c) B s.heap) ρ (zyEl (zymr r c) B H) := hI
      obtain ⟨hF, hB, hM⟩ := hXs
      have hEE : (zyEl (zymr r c) B H2) = (zyEl (zymr r c) B H) := zyfr0 hfr
      rcases List.mem_cons.mp hx with ex | hx
      · subst ex
        obtain ⟨n0, n, m, n1, m1, s1, s2, nn, i1, i2, i3, i4, i5, i6, i7, i8⟩ := hI
        have hn2 : zyN1 (zyI (zyEl (zymr r c) B H) 74 19) = n := zyI_of i1 (by omega)
        obtain ⟨a, a0, a1⟩ := i6 rfl
        have a1' : ρ2 1 = Int32.ofNat a := (hg 1 (by decide)).trans a1
        have e1 : ρ2 1 + Int32.ofNat 4294967295 = Int32.ofNat (a + 1 + 4294967294) := by rw [a1']; exact zyO3 a
        refine zyGoB hIH hAt hB ⟨1, by decide⟩ [595, 68719476729] rfl rfl rfl rfl ⟨n0, n, m, n1, m1, s1, s2, nn, by rw [hEE]; exact i1, by rw [hEE]; exact i2, by rw [hEE]; exact i3, by rw [hEE]; exact i4, fun _ => ⟨a + 1, by omega, e1⟩, fun h => absurd (show 1 = 2 from h) (by decide), fun h => absurd (show 1 = 4 ∨ 1 = 5 ∨ 1 = 7 from h) (by decide), fun h => absurd (show 1 = 5 from h) (by decide)⟩ ?_
        show zyMse 1 (zyN1 (ρ2 1 + Int32.ofNat 4294967295 + Int32.ofNat 2)) _ < zyMse 2 (zyN1 (ρ 1 + Int32.ofNat 2)) _
        rw [e1, zyO2 (by omega), a1, zyOa, zyN1_of (by omega)]
        show 50000 + 4 * (a + 1) + (4 - 1) < 50000 + 4 * (a + 2) + (4 - 2)
        omega
      · skip
        have ex := List.mem_singleton.mp hx
        subst ex
        obtain ⟨n0, n, m, n1, m1, s1, s2, nn, i1, i2, i3, i4, i5, i6, i7, i8⟩ := hI
        have hn2 : zyN1 (zyI (zyEl (zymr r c) B H) 74 19) = n := zyI_of i1 (by omega)
        refine zyGoB hIH hAt hB ⟨3, by decide⟩ [595, 0] rfl rfl rfl rfl ⟨n0, n, m, n1, m1, s1, s2, nn, by rw [hEE]; exact i1, by rw [hEE]; exact i2, by rw [hEE]; exact i3, by rw [hEE]; exact i4, fun h => absurd (show 3 = 1 from h) (by decide), fun h => absurd (show 3 = 2 from h) (by decide), fun h => absurd (show 3 = 4 ∨ 3 = 5 ∨ 3 = 7 from h) (by decide), fun h => absurd (show 3 = 5 from h) (by decide)⟩ ?_
        show zyMse 3 _ (zyN1 (zyI (zyEl (zymr r c) B H2) 74 19)) < zyMse 2 _ _
        rw [hEE, hn2]
        show 20000 + 4 * n + (6 - 3) < 50000 + 4 * _ + (4 - 2)
        omega
    · have hx : x ∈ [zxse_dx0, zxse_dx1] := hx
      have hg : ∀ k, k < 2 → ρ2 k = ρ k := hag
      have hI := hInv
      have hI : ∃ n0 n m : Nat, n0 ≤ 1299 ∧ m ≤ 8 ∧ (zyEl (zymr r c) B s.heap) 74 19 = some (.int (Int32.ofNat n0)) ∧ (zyEl (zymr r c) B s.heap) 74 21 = some (.int (Int32.ofNat m)) ∧ n ≤ n0 ∧ zyIse 3 n m (zyEl (zymr r c) B s.heap) ρ (zyEl (zymr r c) B H) := hI
      obtain ⟨hF, hB, hM⟩ := hXs
      have hEE : (zyEl (zymr r c) B H2) = (zyEl (zymr r c) B H) := zyfr0 hfr
      rcases List.mem_cons.mp hx with ex | hx
      · subst ex
        obtain ⟨n0, n, m, n1, m1, s1, s2, nn, i1, i2, i3, i4, i5, i6, i7, i8⟩ := hI
        have hn2 : zyN1 (zyI (zyEl (zymr r c) B H) 74 19) = n := zyI_of i1 (by omega)
        obtain ⟨n3, w1, w2, w3⟩ := zyXe hF 0 rfl
        have w1 : Int32.ofNat 19 = Int32.ofNat n3 := w1
        have w3 : zyEl (zymr r c) B H 74 n3 = some (.int (ρ2 2)) := w3
        have em : ρ2 2 = Int32.ofNat n := zyEk w1 (by decide) w2 w3 i1
        have f1 := zyX20 hF 1 rfl
        have f1 : Int32.ofNat 0 < ρ2 2 := f1
        rw [em, zyOl (by omega) (by omega)] at f1
        have e9 : ρ2 2 + Int32.ofNat 4294967295 = Int32.ofNat (n - 1) := by rw [em, zyOd f1]
        refine zyCa1 hRu hIH hAt hB hno (ix := 224) (ax := 3696) rfl rfl rfl hmeno ⟨rfl, rfl, rfl, rfl⟩ (by decide) [103079215097] rfl (by decide) rfl ⟨4, by decide⟩ [595, 0] [(0, 4294967295), (0, 4294967295)] 2147483648 2147483649 rfl (by decide) rfl rfl rfl rfl rfl ?_ ?_
        · show zyΦno [ρ2 2 + Int32.ofNat 4294967295] _
          rw [e9]
          exact ⟨n - 1, rfl, by omega⟩
        · intro E3 vo hT3 hΨ
          obtain ⟨e3, z, ez, hz⟩ := (show zyΨie [ρ2 2 + Int32.ofNat 4294967295] _ E3 vo from hΨ)
          rw [hEE] at e3
          subst e3
          refine ⟨z, ez, ?_, ?_, ⟨n0, n, m, n1, m1, s1, s2, nn, i1, i2, i3, i4, fun h => absurd (show 4 = 1 from h) (by decide), fun h => absurd (show 4 = 2 from h) (by decide), fun _ => f1, fun h => absurd (show 4 = 5 from h) (by decide)⟩, ?_⟩
          · rcases hz with rfl | rfl <;> decide
          · rcases hz with rfl | rfl <;> decide
          · show zyMse 4 _ (zyN1 (zyI (zyEl (zymr r c) B H) 74 19)) < zyMse 3 _ (zyN1 (zyI (zyEl (zymr r c) B H) 74 19))
            rw [hn2]
            show 20000 + 4 * n + (6 - 4) < 20000 + 4 * n + (6 - 3)
            omega
      · skip
        have ex := List.mem_singleton.mp hx
        subst ex
        obtain ⟨n0, n, m, n1, m1, s1, s2, nn, i1, i2, i3, i4, i5, i6, i7, i8⟩ := hI
        have hn2 : zyN1 (zyI (zyEl (zymr r c) B H) 74 19) = n := zyI_of i1 (by omega)
        refine zyGoB hIH hAt hB ⟨6, by decide⟩ [595, 0] rfl rfl rfl rfl ⟨n0, n, m, n1, m1, s1, s2, nn, by rw [hEE]; exact i1, by rw [hEE]; exact i2, by rw [hEE]; exact i3, by rw [hEE]; exact i4, fun h => absurd (show 6 = 1 from h) (by decide), fun h => absurd (show 6 = 2 from h) (by decide), fun h => absurd (show 6 = 4 ∨ 6 = 5 ∨ 6 = 7 from h) (by decide), fun h => absurd (show 6 = 5 from h) (by decide)⟩ ?_
        show zyMse 6 _ (zyN1 (zyI (zyEl (zymr r c) B H2) 74 19)) < zyMse 3 _ (zyN1 (zyI (zyEl (zymr r c) B H) 74 19))
        rw [hEE, hn2]
        show 4 * n + (9 - 6) < 20000 + 4 * n + (6 - 3)
        omega
    · have hx : x ∈ [zxse_ex0, zxse_ex1] := hx
      have hg : ∀ k, k < 3 → ρ2 k = ρ k := hag
      have hI := hInv
      have hI : ∃ n0 n m : Nat, n0 ≤ 1299 ∧ m ≤ 8 ∧ (zyEl (zymr r c) B s.heap) 74 19 = some (.int (Int32.ofNat n0)) ∧ (zyEl (zymr r c) B s.heap) 74 21 = some (.int (Int32.ofNat m)) ∧ n ≤ n0 ∧ zyIse 4 n m (zyEl (zymr r c) B s.heap) ρ (zyEl (zymr r c) B H) := hI
      obtain ⟨hF, hB, hM⟩ := hXs
      have hEE : (zyEl (zymr r c) B H2) = (zyEl (zymr r c) B H) := zyfr0 hfr
      rcases List.mem_cons.mp hx with ex | hx
      · subst ex
        obtain ⟨n0, n, m, n1, m1, s1, s2, nn, i1, i2, i3, i4, i5, i6, i7, i8⟩ := hI
        have hn2 : zyN1 (zyI (zyEl (zymr r c) B H) 74 19) = n := zyI_of i1 (by omega)
        have k1 := i7 (Or.inl rfl)
        refine zyGoKi hIH hAt hB ⟨5, by decide⟩ [595, 0] [(0, 4294967295), (0, 4294967295)] 2147483649 2147484947 rfl (by decide) rfl rfl rfl (74 * 16384 + 19) zymr74 rfl rfl (show 19 < 49 by decide) (Int32.ofNat n) ?_ ?_ ⟨n0, n, m, n1, m1, s1, s2, nn, by rw [hEE]; exact i1, by rw [hEE]; exact i2, by rw [hEE]; exact i3, by rw [hEE]; exact i4, fun h => absurd (show 5 = 1 from h) (by decide), fun h => absurd (show 5 = 2 from h) (by decide), fun _ => k1, fun _ => zyρi_e⟩ ?_
        · show zyEl (zymr r c) B H2 74 19 = _
          rw [hEE]
          exact i1
        · rw [zyBn (by omega)]
          omega
        · show zyMse 5 _ (zyN1 (zyI (zyEl (zymr r c) B H2) 74 19)) < zyMse 4 _ (zyN1 (zyI (zyEl (zymr r c) B H) 74 19))
          rw [hEE, hn2]
          show 20000 + 4 * n + (6 - 5) < 20000 + 4 * n + (6 - 4)
          omega
      · skip
        have ex := List.mem_singleton.mp hx
        subst ex
        obtain ⟨n0, n, m, n1, m1, s1, s2, nn, i1, i2, i3, i4, i5, i6, i7, i8⟩ := hI
        have hn2 : zyN1 (zyI (zyEl (zymr r c) B H) 74 19) = n := zyI_of i1 (by omega)
        refine zyGoB hIH hAt hB ⟨6, by decide⟩ [595, 0] rfl rfl rfl rfl ⟨n0, n, m, n1, m1, s1, s2, nn, by rw [hEE]; exact i1, by rw [hEE]; exact i2, by rw [hEE]; exact i3, by rw [hEE]; exact i4, fun h => absurd (show 6 = 1 from h) (by decide), fun h => absurd (show 6 = 2 from h) (by decide), fun h => absurd (show 6 = 4 ∨ 6 = 5 ∨ 6 = 7 from h) (by decide), fun h => absurd (show 6 = 5 from h) (by decide)⟩ ?_
        show zyMse 6 _ (zyN1 (zyI (zyEl (zymr r c) B H2) 74 19)) < zyMse 4 _ (zyN1 (zyI (zyEl (zymr r c) B H) 74 19))
        rw [hEE, hn2]
        show 4 * n + (9 - 6) < 20000 + 4 * n + (6 - 4)
        omega
    · have hx : x ∈ [zxse_fx0] := hx
      have hg : ∀ k, k < 3 → ρ2 k = ρ k := hag
      have hI := hInv
      have hI : ∃ n0 n m : Nat, n0 ≤ 1299 ∧ m ≤ 8 ∧ (zyEl (zymr r c) B s.heap) 74 19 = some (.int (Int32.ofNat n0)) ∧ (zyEl (zymr r c) B s.heap) 74 21 = some (.int (Int32.ofNat m)) ∧ n ≤ n0 ∧ zyIse 5 n m (zyEl (zymr r c) B s.heap) ρ (zyEl (zymr r c) B H) := hI
      obtain ⟨hF, hB, hM⟩ := hXs
      have hfr : ∀ a k, zyin [(74, 19, 19)] a k = false → (zyEl (zymr r c) B H2) a k = (zyEl (zymr r c) B H) a k := hfr
      have ex := List.mem_singleton.mp hx
      subst ex
      obtain ⟨n0, n, m, n1, m1, s1, s2, nn, i1, i2, i3, i4, i5, i6, i7, i8⟩ := hI
      have hn2 : zyN1 (zyI (zyEl (zymr r c) B H) 74 19) = n := zyI_of i1 (by omega)
      have k1 := i7 (Or.inr (Or.inl rfl))
      have a2 : ρ2 2 = Int32.ofNat n := (hg 2 (by decide)).trans (i8 rfl)
      have m2 := zyXm hM 0 rfl
      have m2 : zyEl (zymr r c) B H2 74 19 = some (.int (ρ2 2 + Int32.ofNat 4294967295)) := m2
      rw [a2, zyOd k1] at m2
      have hk := zyfr1 hfr
      refine zyGoB hIH hAt hB ⟨3, by decide⟩ [595, 0] rfl rfl rfl rfl ⟨n0, n - 1, m, n1, m1, s1, s2, by omega, m2, (hk 74 21 (fun z => absurd z.2 (by decide))).trans i2, fun f hf => zPm_congr (fun j hj => zyrow_eq (hk 81 _ (fun z => absurd z.1 (by decide)))) (i3 f (by omega)), fun a2 k2 p1 p2 => (hk a2 k2 (fun z => p2 ⟨z.1, Or.inl z.2⟩)).trans (i4 a2 k2 p1 p2), fun h => absurd (show 3 = 1 from h) (by decide), fun h => absurd (show 3 = 2 from h) (by decide), fun h => absurd (show 3 = 4 ∨ 3 = 5 ∨ 3 = 7 from h) (by decide), fun h => absurd (show 3 = 5 from h) (by decide)⟩ ?_
      show zyMse 3 _ (zyN1 (zyI (zyEl (zymr r c) B H2) 74 19)) < zyMse 5 _ (zyN1 (zyI (zyEl (zymr r c) B H) 74 19))
      rw [hn2, zyI_of m2 (by omega)]
      show 20000 + 4 * (n - 1) + (6 - 3) < 20000 + 4 * n + (6 - 5)
      omega
    · have hx : x ∈ [zxse_gx0] := hx
      have hg : ∀ k, k < 2 → ρ2 k = ρ k := hag
      have hI := hInv
      have hI : ∃ n0 n m : Nat, n0 ≤ 1299 ∧ m ≤ 8 ∧ (zyEl (zymr r c) B s.heap) 74 19 = some (.int (Int32.ofNat n0)) ∧ (zyEl (zymr r c) B s.heap) 74 21 = some (.int (Int32.ofNat m)) ∧ n ≤ n0 ∧ zyIse 6 n m (zyEl (zymr r c) B s.heap) ρ (zyEl (zymr r c) B H) := hI
      obtain ⟨hF, hB, hM⟩ := hXs
      have hEE : (zyEl (zymr r c) B H2) = (zyEl (zymr r c) B H) := zyfr0 hfr
      have ex := List.mem_singleton.mp hx
      subst ex
      obtain ⟨n0, n, m, n1, m1, s1, s2, nn, i1, i2, i3, i4, i5, i6, i7, i8⟩ := hI
      have hn2 : zyN1 (zyI (zyEl (zymr r c) B H) 74 19) = n := zyI_of i1 (by omega)
      obtain ⟨n3, w1, w2, w3⟩ := zyXe hF 0 rfl
      have w1 : Int32.ofNat 19 = Int32.ofNat n3 := w1
      have w3 : zyEl (zymr r c) B H 74 n3 = some (.int (ρ2 2)) := w3
      have em : ρ2 2 = Int32.ofNat n := zyEk w1 (by decide) w2 w3 i1
      have f1 := zyX20 hF 1 rfl
      have f1 : Int32.ofNat 0 < ρ2 2 := f1
      rw [em, zyOl (by omega) (by omega)] at f1
      have e9 : Int32.ofNat 0 = Int32.ofNat 0 := rfl
      refine zyCa1 hRu hIH hAt hB hht (ix := 227) (ax := 3712) rfl rfl rfl hmeht ⟨rfl, rfl, rfl, rfl⟩ (by decide) [0] rfl (by decide) rfl ⟨7, by decide⟩ [595, 0] [(0, 4294967295), (0, 4294967295)] 2147483648 2147483649 rfl (by decide) rfl rfl rfl rfl rfl ?_ ?_
      · show zyΦno [Int32.ofNat 0] _
        exact ⟨0, rfl, by omega⟩
      · intro E3 vo hT3 hΨ
        obtain ⟨e3, z, ez, hz⟩ := (show zyΨie [Int32.ofNat 0] _ E3 vo from hΨ)
        rw [hEE] at e3
        subst e3
        refine ⟨z, ez, ?_, ?_, ⟨n0, n, m, n1, m1, s1, s2, nn, i1, i2, i3, i4, fun h => absurd (show 7 = 1 from h) (by decide), fun h => absurd (show 7 = 2 from h) (by decide), fun _ => f1, fun h => absurd (show 7 = 5 from h) (by decide)⟩, ?_⟩
        · rcases hz with rfl | rfl <;> decide
        · rcases hz with rfl | rfl <;> decide
        · show zyMse 7 _ (zyN1 (zyI (zyEl (zymr r c) B H) 74 19)) < zyMse 6 _ (zyN1 (zyI (zyEl (zymr r c) B H) 74 19))
          rw [hn2]
          show 4 * n + (9 - 7) < 4 * n + (9 - 6)
          omega
    · have hx : x ∈ [zxse_hx0] := hx
      have hg : ∀ k, k < 3 → ρ2 k = ρ k := hag
      have hI := hInv
      have hI : ∃ n0 n m : Nat, n0 ≤ 1299 ∧ m ≤ 8 ∧ (zyEl (zymr r c) B s.heap) 74 19 = some (.int (Int32.ofNat n0)) ∧ (zyEl (zymr r c) B s.heap) 74 21 = some (.int (Int32.ofNat m)) ∧ n ≤ n0 ∧ zyIse 7 n m (zyEl (zymr r c) B s.heap) ρ (zyEl (zymr r c) B H) := hI
      obtain ⟨hF, hB, hM⟩ := hXs
      have hEE : (zyEl (zymr r c) B H2) = (zyEl (zymr r c) B H) := zyfr0 hfr
      have ex := List.mem_singleton.mp hx
      subst ex
      obtain ⟨n0, n, m, n1, m1, s1, s2, nn, i1, i2, i3, i4, i5, i6, i7, i8⟩ := hI
      have hn2 : zyN1 (zyI (zyEl (zymr r c) B H) 74 19) = n := zyI_of i1 (by omega)
      have k1 := i7 (Or.inr (Or.inr rfl))
      refine zyCa0 hRu hIH hAt hB hlo (ix := 230) (ax := 3744) rfl rfl rfl hmelo ⟨rfl, rfl, rfl, rfl⟩ (by decide) [0] rfl (by decide) rfl ⟨8, by decide⟩ [595, 0] rfl rfl rfl rfl ?_ ?_
      · show zyΦlo [Int32.ofNat 0] _
        rw [hEE]
        exact ⟨rfl, n, k1, by omega, i1⟩
      · intro E3 vo hT3 hΨ
        have hΨ : zyΨlo [Int32.ofNat 0] _ E3 vo := hΨ
        rw [hEE] at hΨ
        obtain ⟨ev, hq⟩ := hΨ
        obtain ⟨q1, q2, q3⟩ := hq n k1 (by omega) i1
        refine ⟨ev, ⟨n0, n - 1, m, n1, m1, s1, s2, by omega, q1, (q3 74 21 (by decide) (fun z => absurd z.2 (by decide))).trans i2, fun f hf => zPm_congr (fun j hj => ?_) (i3 (f + 1) (by omega)), fun a2 k2 p1 p2 => (q3 a2 k2 p1 (fun z => p2 ⟨z.1, Or.inl z.2⟩)).trans (i4 a2 k2 p1 p2), fun h => absurd (show 8 = 1 from h) (by decide), fun h => absurd (show 8 = 2 from h) (by decide), fun h => absurd (show 8 = 4 ∨ 8 = 5 ∨ 8 = 7 from h) (by decide), fun h => absurd (show 8 = 5 from h) (by decide)⟩, ?_⟩
        · show zfv E3 (8 * f + j) = zfv (zyEl (zymr r c) B H) (8 * (f + 1) + j)
          rw [q2 _ (by omega), show 8 * f + j + 8 = 8 * (f + 1) + j by omega]
        · show zyMse 8 _ (zyN1 (zyI E3 74 19)) < zyMse 7 _ (zyN1 (zyI (zyEl (zymr r c) B H) 74 19))
          rw [hn2, zyI_of q1 (by omega)]
          show 4 * (n - 1) + 4 < 4 * n + (9 - 7)
          omega
    · have hx : x ∈ [zxse_ix0] := hx
      have hg : ∀ k, k < 2 → ρ2 k = ρ k := hag
      have hI := hInv
      have hI : ∃ n0 n m : Nat, n0 ≤ 1299 ∧ m ≤ 8 ∧ (zyEl (zymr r c) B s.heap) 74 19 = some (.int (Int32.ofNat n0)) ∧ (zyEl (zymr r c) B s.heap) 74 21 = some (.int (Int32.ofNat m)) ∧ n ≤ n0 ∧ zyIse 8 n m (zyEl (zymr r c) B s.heap) ρ (zyEl (zymr r c) B H) := hI
      obtain ⟨hF, hB, hM⟩ := hXs
      have hfr : ∀ a k, zyin [(74, 20, 20)] a k = false → (zyEl (zymr r c) B H2) a k = (zyEl (zymr r c) B H) a k := hfr
      have ex := List.mem_singleton.mp hx
      subst ex
      obtain ⟨n0, n, m, n1, m1, s1, s2, nn, i1, i2, i3, i4, i5, i6, i7, i8⟩ := hI
      have hn2 : zyN1 (zyI (zyEl (zymr r c) B H) 74 19) = n := zyI_of i1 (by omega)
      have hk := zyfr1 hfr
      have e19 : zyEl (zymr r c) B H2 74 19 = some (.int (Int32.ofNat n)) := (hk 74 19 (fun z => absurd z.2 (by decide))).trans i1
      refine zyGoB hIH hAt hB ⟨6, by decide⟩ [595, 0] rfl rfl rfl rfl ⟨n0, n, m, n1, m1, s1, s2, nn, e19, (hk 74 21 (fun z => absurd z.2 (by decide))).trans i2, fun f hf => zPm_congr (fun j hj => zyrow_eq (hk 81 _ (fun z => absurd z.1 (by decide)))) (i3 f hf), fun a2 k2 p1 p2 => (hk a2 k2 (fun z => p2 ⟨z.1, Or.inr z.2⟩)).trans (i4 a2 k2 p1 p2), fun h => absurd (show 6 = 1 from h) (by decide), fun h => absurd (show 6 = 2 from h) (by decide), fun h => absurd (show 6 = 4 ∨ 6 = 5 ∨ 6 = 7 from h) (by decide), fun h => absurd (show 6 = 5 from h) (by decide)⟩ ?_
      show zyMse 6 _ (zyN1 (zyI (zyEl (zymr r c) B H2) 74 19)) < zyMse 8 _ (zyN1 (zyI (zyEl (zymr r c) B H) 74 19))
      rw [hn2, zyI_of e19 (by omega)]
      show 4 * n + (9 - 6) < 4 * n + 4
      omega
  · intro as E0 E E2 hT0 hΦ hlen i ρ hT hInv x hx ρ2 N2 B vo hXs hag hfr hT2 hvo
    rcases i with ⟨i, hi⟩
    have hi2 : i = 0 ∨ i = 1 ∨ i = 2 ∨ i = 3 ∨ i = 4 ∨ i = 5 ∨ i = 6 ∨ i = 7 ∨ i = 8 := by omega
    rcases hi2 with rfl | rfl | rfl | rfl | rfl | rfl | rfl | rfl | rfl
    · cases hx
    · cases hx
    · cases hx
    · cases hx
    · cases hx
    · cases hx
    · have hx : x ∈ [zxse_gr0] := hx
      have hg : ∀ k, k < 2 → ρ2 k = ρ k := hag
      have hI := hInv
      have hI : ∃ n0 n m : Nat, n0 ≤ 1299 ∧ m ≤ 8 ∧ E0 74 19 = some (.int (Int32.ofNat n0)) ∧ E0 74 21 = some (.int (Int32.ofNat m)) ∧ n ≤ n0 ∧ zyIse 6 n m E0 ρ E := hI
      obtain ⟨hF, hB, hM⟩ := hXs
      have hEE : E2 = E := zyfr0 hfr
      have ex := List.mem_singleton.mp hx
      subst ex
      obtain ⟨n0, n, m, n1, m1, s1, s2, nn, i1, i2, i3, i4, i5, i6, i7, i8⟩ := hI
      refine ⟨zyvo_0 (show zyvo _ [] vo from hvo), fun n' m' c1 c2 c3 c4 => ?_⟩
      rw [s1] at c3
      rw [s2] at c4
      have e1 := zyOi (by omega) (by omega) (Value.int.inj (Option.some.inj c3))
      have e2 := zyOi (by omega) (by omega) (Value.int.inj (Option.some.inj c4))
      subst e1
      subst e2
      rw [hEE]
      exact ⟨n, nn, i1, i3, i4⟩
    · have hx : x ∈ [zxse_hr0] := hx
      have hg : ∀ k, k < 3 → ρ2 k = ρ k := hag
      have hI := hInv
      have hI : ∃ n0 n m : Nat, n0 ≤ 1299 ∧ m ≤ 8 ∧ E0 74 19 = some (.int (Int32.ofNat n0)) ∧ E0 74 21 = some (.int (Int32.ofNat m)) ∧ n ≤ n0 ∧ zyIse 7 n m E0 ρ E := hI
      obtain ⟨hF, hB, hM⟩ := hXs
      have hEE : E2 = E := zyfr0 hfr
      have ex := List.mem_singleton.mp hx
      subst ex
      obtain ⟨n0, n, m, n1, m1, s1, s2, nn, i1, i2, i3, i4, i5, i6, i7, i8⟩ := hI
      refine ⟨zyvo_0 (show zyvo _ [] vo from hvo), fun n' m' c1 c2 c3 c4 => ?_⟩
      rw [s1] at c3
      rw [s2] at c4
      have e1 := zyOi (by omega) (by omega) (Value.int.inj (Option.some.inj c3))
      have e2 := zyOi (by omega) (by omega) (Value.int.inj (Option.some.inj c4))
      subst e1
      subst e2
      rw [hEE]
      exact ⟨n, nn, i1, i3, i4⟩
    · cases hx
end
section
/-! THE SIMPLE BRAIDS: a letter comes behind all -/
section YGO6
variable {l : Launch} {mi : zyB} {en : zEn} {dep : Nat} {B : zCx} {s : State} {ι : Type} {φ : ι → zyPh} {Inv : ι → (Nat → Int32) → zyEm → Prop} {Mu : ι → (Nat → Int32) → zyEm → Nat} {M : Nat} {Wg : zyWt} {x : zyXp} {ρ2 : Nat → Int32} {N : Nat} {H : Heap} {locs : List Loc} {lsB : Array Slot} {stA : List Value}
/-- a call that answers nothing, an element known behind it -/
theorem zyCaK (hRu : zyRu l mi en dep B s Wg) (hIH : zyIH mi en.2.2.1 B s φ Inv Mu M Wg) (hAt : zyAt mi B s en.2.2.1 x ρ2 N H locs lsB stA) (hB : ∀ b ∈ x.2.2.2.2.1, b.2.1 ≤ zB (zyw ρ2 b.1) ∧ zB (zyw ρ2 b.1) ≤ b.2.2) {en2 : zEn} {me2 : zMe} {dep2 na2 : Nat} {Φ2 : List Int32 → zyEm → Prop} {Ψ2 : List Int32 → zyEm → zyEm → Option Value → Prop} (hHc : zyHc l mi en2 me2 dep2 na2 Φ2 Ψ2) {ix ax : Nat} (hrow : en.1 x.1 = (.invokevirtual ix, x.1 + 3, ax)) (hkd : zG zKd (ax / 16) = some 0) (hen2 : zG zxMeta (ax / 16) = some en2) (hme2 : zG zMeth (ax / 16) = some me2) (hsh : en2.2.2.2.1 = 11 ∧ en2.2.1 = na2 + 1 ∧ en2.2.2.2.2.2.1 = 0 ∧ en2.2.2.2.2.2.2.1 = 0) (hdp : dep2 + 1 ≤ dep) (cs2 : List Nat) (hcs2 : x.2.2.1 = cs2.reverse ++ [595]) (hk : ∀ c ∈ cs2, c % 8 ≤ 1) (hlen : cs2.length = na2)
    (i2 : ι) (cs : List Nat) (env : List (Nat × Nat)) (lo hi : Nat) (he : (φ i2).2.2.1 = env ++ [(lo, hi)]) (hnl : en.2.2.1 ≤ zyln env) (hpc : (φ i2).1 = x.1 + 3) (hchk : zand (zygoB en.2.2.1 x.2.1 (φ i2) cs) (zynil (φ i2).2.2.2.2) = true) (henv : zyenvB x.2.2.2.2.1 cs env 0 = true) (key : Nat) (c : zyCl) (hkc : (φ i2).2.2.2.1 = [(key, zysym (zyln env))]) (hg : zG mi (key / 16384) = some c) (hl : key % 16384 < zyLen c)
    (hΦ : Φ2 (cs2.map (zyw ρ2)) (zyEl mi B H)) (kk : ∀ (E3 : zyEm) (vo : Option Value), zyTy mi E3 → Ψ2 (cs2.map (zyw ρ2)) (zyEl mi B H) E3 vo → vo = none ∧ ∃ z : Int32, E3 (key / 16384) (key % 16384) = some (.int z) ∧ (lo ≤ zB z ∧ zB z ≤ hi) ∧ Inv i2 (zyρi (fun k => zyw ρ2 (zyag cs k)) (zyln env) z) E3 ∧ Mu i2 (zyρi (fun k => zyw ρ2 (zyag cs k)) (zyln env) z) E3 < M) : Wg H locs x.1 lsB stA := by
  obtain ⟨c1, c2⟩ := zand_iff hchk
  have hst := hAt.2.2.2.2.2
  rw [hcs2] at hst
  obtain ⟨q1, q2, rfl, g1, g2⟩ := zySt_split hst
  have e1 := zySt_ints (fun c hc => hk c (List.mem_reverse.mp hc)) g1
  obtain ⟨b, u, rfl, g3, g4⟩ := zySt_c g2
  have e2 := zySt_n g4
  have e3 : b = .ref (zad B 74) := zyv_3 (v := 595) g3 (by decide)
  have e4 : q1 ++ b :: u = (zyAr B (cs2.map (zyw ρ2))).reverse ++ ([] : List Value) := by
    rw [e1, e2, e3]
    unfold zyAr
    rw [List.reverse_cons, List.map_reverse, List.map_reverse, List.append_assoc]
    rfl
  rw [e4]
  refine hRu.1 x.1 ix ax en2 me2 dep2 na2 Φ2 Ψ2 _ _ H locs lsB (Nat.zero_le 8) hrow hkd hen2 hme2 hsh.1 hsh.2.1 hsh.2.2.1 hsh.2.2.2 hHc hdp (by rw [List.length_map]; exact hlen) hAt.1 hAt.2.2.1 hAt.2.2.2.1.1 hΦ (fun H3 locs3 vo hI3 hO3 hlo3 hΨ => ?_)
  obtain ⟨k1, z, k2, k3, k4, k5⟩ := kk _ vo (zyTy_of hI3) hΨ
  rw [← hpc, k1]
  refine hIH i2 _ H3 locs3 lsB _ hI3 (fun q hq => (hO3 q hq).trans (hAt.2.1 q hq)) k4 (zyAss (ρ' := zyρi (fun k => zyw ρ2 (zyag cs k)) (zyln env) z) hAt c1 (fun i hi => zyρi_n (by omega)) ?_ hlo3 ?_ ?_) k5
  · rw [he]
    refine zEnv_i (zyln_eq env) (fun k p hp => ?_) k3
    have := zyenvB_iff hB henv k p hp
    rwa [Nat.zero_add] at this
  · cases hq : (φ i2).2.2.2.2 with
    | nil => exact zySt_s0
    | cons a t => rw [hq] at c2; cases c2
  · intro p hp
    rw [hkc] at hp
    rw [List.mem_singleton.mp hp]
    refine ⟨c, _, hg, hl, k2, zyv_sym ?_ zyρi_e⟩
    rw [he, List.length_append, zyln_eq, List.length_singleton]
    omega
end YGO6
theorem zylt_B {x y : Int32} : x < y ↔ zB x < zB y := by
  have e1 := zB_int x
  have e2 := zB_int y
  rw [Int32.lt_iff_toInt_lt]
  omega
theorem zyBng {k : Nat} (h : k < 2147483647) : zB (Int32.ofNat (4294967295 - k)) = 2147483647 - k := by
  rw [zB_of, zb_def]
  omega
theorem zyOng {k : Nat} (h : k < 2147483647) : Int32.ofNat 0 - Int32.ofNat (4294967295 - k) = Int32.ofNat (k + 1) := by
  apply zN_inj
  rw [zN_sub, zN_of, zN_of, zN_of]
  omega
/-- a letter of m threads: k and the one behind cross; σ: in front -/
def zLt (σ : Bool) (k m : Nat) (x : Int32) : Prop := k + 1 < m ∧ ((σ = true ∧ x = Int32.ofNat (k + 1)) ∨ (σ = false ∧ x = Int32.ofNat (4294967295 - k)))
theorem zLt_pos {σ : Bool} {k m : Nat} {x : Int32} (hm : m ≤ 8) (h : zLt σ k m x) (hp : Int32.ofNat 0 < x) : σ = true ∧ x = Int32.ofNat (k + 1) := by
  obtain ⟨h1, h2 | ⟨-, h2⟩⟩ := h
  · exact h2
  · rw [h2, zylt_B, zyBng (by omega), zyBn (by omega)] at hp
    omega
theorem zLt_neg {σ : Bool} {k m : Nat} {x : Int32} (hm : m ≤ 8) (h : zLt σ k m x) (hp : ¬ Int32.ofNat 0 < x) : σ = false ∧ x = Int32.ofNat (4294967295 - k) := by
  obtain ⟨h1, ⟨-, h2⟩ | h2⟩ := h
  · exfalso
    apply hp
    rw [h2, zyOl (by omega) (by omega)]
    omega
  · exact h2
def zjr (σ : Bool) (m j : Nat) : Nat := if σ = true then j else m - 1 - j
theorem zjr_pm {σ : Bool} {m : Nat} {h : Nat → Nat} (hh : ∀ j, j < m → h j = zjr σ m j) : zPm h m := by
  cases σ with
  | true => exact zPm_id hh
  | false => exact zPm_rev hh
theorem zjr_lt {σ : Bool} {m j : Nat} (hj : j < m) : zjr σ m j < m := by
  unfold zjr
  split <;> omega
def zyJo (E E2 : zyEm) : Prop := ∀ a2 k2, ¬ a2 = 81 → ¬ a2 = 82 → ¬ (a2 = 74 ∧ (k2 = 19 ∨ k2 = 20)) → E2 a2 k2 = E a2 k2
def zyΦjo (as : List Int32) (E : zyEm) : Prop := ∃ (σ : Bool) (k n m : Nat) (x : Int32), as = [x] ∧ zLt σ k m x ∧ n ≤ 1298 ∧ m ≤ 8 ∧ E 74 19 = some (.int (Int32.ofNat n)) ∧ E 74 21 = some (.int (Int32.ofNat m)) ∧ zBr E m n
def zyΨjo (_ : List Int32) (E E2 : zyEm) (vo : Option Value) : Prop := vo = none ∧ ∀ n m : Nat, n ≤ 1298 → m ≤ 8 → E 74 19 = some (.int (Int32.ofNat n)) → E 74 21 = some (.int (Int32.ofNat m)) → ∃ n', n' ≤ n + 1 ∧ E2 74 19 = some (.int (Int32.ofNat n')) ∧ zBr E2 m n' ∧ zyJo E E2
def zyIjo (i : Nat) (σ : Bool) (k n m : Nat) (x : Int32) (E0 : zyEm) (ρ : Nat → Int32) (E : zyEm) : Prop := zyJo E0 E ∧ (i ≤ 11 → E 74 19 = some (.int (Int32.ofNat n)) ∧ E 74 21 = some (.int (Int32.ofNat m)) ∧ zBr E m n) ∧ (i ≤ 6 ∨ (8 ≤ i ∧ i ≤ 10) → ρ 1 = x) ∧ ((1 ≤ i ∧ i ≤ 6) ∨ (8 ≤ i ∧ i ≤ 10) → ρ 2 = Int32.ofNat k) ∧ (1 ≤ i ∧ i ≤ 2 → ∃ f, ρ 3 = Int32.ofNat f ∧ f ≤ n ∧ (i = 2 → f < n)) ∧ (i ≤ 3 → 1 ≤ i → σ = false) ∧
  (i = 4 → ∃ p, p ≤ m ∧ ρ 3 = Int32.ofNat p ∧ ∀ j, j < p → zyrow E n j = zjr σ m j) ∧ (i = 5 → ∃ p, p < m ∧ ρ 3 = Int32.ofNat p ∧ ∀ j, j ≤ p → zyrow E n j = zjr σ m j) ∧ (i = 6 → σ = true ∧ ∀ j, j < m → zyrow E n j = if j = k then k + 1 else j) ∧ ((i = 7 ∨ i = 11) → zPm (zyrow E n) m) ∧
  (i = 8 → zPm (zyrow E n) m ∧ ∃ p, ρ 5 = Int32.ofNat p ∧ p < m ∧ zyrow E n p = k) ∧ (i = 9 → zPm (zyrow E n) m ∧ ∃ p q, ρ 3 = Int32.ofNat p ∧ ρ 5 = Int32.ofNat q ∧ p < m ∧ q < m ∧ zyrow E n p = k ∧ zyrow E n q = k + 1) ∧
  (i = 10 → ∃ p q g, ρ 4 = Int32.ofNat q ∧ p < m ∧ q < m ∧ g p = k ∧ g q = k + 1 ∧ zPm g m ∧ ∀ j, j < m → zyrow E n j = if j = p then k + 1 else g j) ∧ (i = 11 → ρ 5 = Int32.ofNat n) ∧ (i = 12 → ∃ n', n' ≤ n + 1 ∧ E 74 19 = some (.int (Int32.ofNat n')) ∧ zBr E m n')
def zyMjo (i v : Nat) : Nat := if i = 0 then 100000 else if i ≤ 2 then 50000 + 4 * (1300 - v) + (2 - i) else if i = 3 then 40000 else if i ≤ 5 then 20000 + 4 * (8 - v) + (5 - i) else 16 - i
theorem zyjo_run : zyAllP (fun r c => zyrS (zymr r c) zxi237 (237, 0, 0, 0, 0) 6 zpjo (fun _ _ => []) zFjo zSjo zXjo zRjo 13) = true := by decide +kernel
theorem zyjoins {l : Launch} {r c : Nat} (h1 : 1 ≤ r) (h2 : r ≤ 4) (h3 : 1 ≤ c) (h4 : c ≤ 5) {en : zEn} {me : zMe} (hen : zG zxMeta 237 = some en) (hme : zG zMeth 237 = some me) : zyHc l (zymr r c) en me 6 1 zyΦjo zyΨjo := by
  have een : zG zxMeta 237 = some (zxi237, 2, 5, 11, 237, 0, 0, 0, 0) := rfl
  obtain ⟨me1, hme1, hOK⟩ := zall hen
  rw [hme] at hme1
  cases hme1
  rw [een] at hen
  cases hen
  have hr := zyAllP_iff zyjo_run h1 h2 h3 h4
  obtain ⟨mela, hmela, -⟩ := zall (show zG zxMeta 227 = some (zxi227, 4, 4, 11, 227, 0, 0, 0, 0) from rfl)
  have hla := zylays (l := l) h1 h2 h3 h4 (show zG zxMeta 227 = some (zxi227, 4, 4, 11, 227, 0, 0, 0, 0) from rfl) hmela
  obtain ⟨mecf, hmecf, -⟩ := zall (show zG zxMeta 229 = some (zxi229, 3, 4, 11, 229, 0, 0, 1, 0) from rfl)
  have hcf := zycomesFrom (l := l) h1 h2 h3 h4 (show zG zxMeta 229 = some (zxi229, 3, 4, 11, 229, 0, 0, 1, 0) from rfl) hmecf
  obtain ⟨memi, hmemi, -⟩ := zall (show zG zxMeta 235 = some (zxi235, 2, 4, 11, 235, 0, 0, 0, 0) from rfl)
  have hmi := zymirrors (l := l) h1 h2 h3 h4 (show zG zxMeta 235 = some (zxi235, 2, 4, 11, 235, 0, 0, 0, 0) from rfl) hmemi
  obtain ⟨mese, hmese, -⟩ := zall (show zG zxMeta 236 = some (zxi236, 1, 2, 11, 236, 0, 0, 0, 0) from rfl)
  have hse := zysettles (l := l) h1 h2 h3 h4 (show zG zxMeta 236 = some (zxi236, 1, 2, 11, 236, 0, 0, 0, 0) from rfl) hmese
  refine zycutS (mi := zymr r c) hOK rfl rfl ⟨_, rfl, rfl⟩ (ι := Fin 13) (fun i => zpjo i.val) (fun _ _ => []) (fun i => zFjo i.val) (fun i => zSjo i.val) (fun i => zXjo i.val) (fun i => zRjo i.val) (fun i y2 ct en2 me2 h => by cases h) 200000 (fun i => zyAll_iff hr i.val i.isLt) ⟨0, by decide⟩ ⟨rfl, rfl, rfl, rfl⟩ ⟨by decide, by decide⟩
    (fun i as E0 ρ E => ∃ (σ : Bool) (k n m : Nat) (x : Int32), as = [x] ∧ zLt σ k m x ∧ n ≤ 1298 ∧ m ≤ 8 ∧ E0 74 19 = some (.int (Int32.ofNat n)) ∧ E0 74 21 = some (.int (Int32.ofNat m)) ∧ zyIjo i.val σ k n m x E0 ρ E) (fun i as E0 ρ E => zyMjo i.val (zyN1 (ρ 3))) ?_ ?_ ?_
  · intro as E hlen hT hΦ
    obtain ⟨σ, k, n, m, x, rfl, hlt, b1, b2, b3, b4, b5⟩ := hΦ
    refine ⟨zEnv_c (zyfull _) (zEnv_c ?_ (zEnv_c (zyfull _) (zEnv_c (zyfull _) (zEnv_c (zyfull _) zEnv_nil)))), σ, k, n, m, x, rfl, hlt, b1, b2, b3, b4, fun _ _ _ _ _ => rfl, fun _ => ⟨b3, b4, b5⟩, fun _ => rfl, fun h => absurd (show (1 ≤ 0 ∧ 0 ≤ 6) ∨ (8 ≤ 0 ∧ 0 ≤ 10) from h) (by decide), fun h => absurd (show 1 ≤ 0 ∧ 0 ≤ 2 from h) (by decide), fun _ h => absurd (show 1 ≤ 0 from h) (by decide), fun h => absurd (show 0 = 4 from h) (by decide), fun h => absurd (show 0 = 5 from h) (by decide), fun h => absurd (show 0 = 6 from h) (by decide), fun h => absurd (show 0 = 7 ∨ 0 = 11 from h) (by decide), fun h => absurd (show 0 = 8 from h) (by decide), fun h => absurd (show 0 = 9 from h) (by decide), fun h => absurd (show 0 = 10 from h) (by decide), fun h => absurd (show 0 = 11 from h) (by decide), fun h => absurd (show 0 = 12 from h) (by decide)⟩
    show 2147483641 ≤ zB x ∧ zB x ≤ 2147483655
    obtain ⟨q1, ⟨-, q2⟩ | ⟨-, q2⟩⟩ := hlt
    · rw [q2, zyBn (by omega)]
      omega
    · rw [q2, zyBng (by omega)]
      omega
  · intro as B s Wg hRu hT0 hΦ hlen i ρ H hT hInv hIH x hx ρ2 N2 H2 locs lsB stA hAt hXs hag hfr hT2
    rcases i with ⟨i, hi⟩
    have hi2 : i = 0 ∨ i = 1 ∨ i = 2 ∨ i = 3 ∨ i = 4 ∨ i = 5 ∨ i = 6 ∨ i = 7 ∨ i = 8 ∨ i = 9 ∨ i = 10 ∨ i = 11 ∨ i = 12 := by omega
    rcases hi2 with rfl | rfl | rfl | rfl | rfl | rfl | rfl | rfl | rfl | rfl | rfl | rfl | rfl
    · have hx : x ∈ [zxjo_ax0, zxjo_ax1] := hx
      have hg : ∀ k, k < 5 → ρ2 k = ρ k := hag
      have hI := hInv
      have hI : ∃ (σ : Bool) (k n m : Nat) (x : Int32), as = [x] ∧ zLt σ k m x ∧ n ≤ 1298 ∧ m ≤ 8 ∧ (zyEl (zymr r c) B s.heap) 74 19 = some (.int (Int32.ofNat n)) ∧ (zyEl (zymr r c) B s.heap) 74 21 = some (.int (Int32.ofNat m)) ∧ zyIjo 0 σ k n m x (zyEl (zymr r c) B s.heap) ρ (zyEl (zymr r c) B H) := hI
      obtain ⟨hF, hB, hM⟩ := hXs
      have hEE : (zyEl (zymr r c) B H2) = (zyEl (zymr r c) B H) := zyfr0 hfr
      rcases List.mem_cons.mp hx with ex | hx
      · subst ex
        obtain ⟨σ, k, n, m, x0, has, hlt, n1, m1, s1, s2, i1, i2, i3, i4, i5, i6, i7, i8, i9, i10, i11, i12, i13, i14, i15⟩ := hI
        have hlt1 : k + 1 < m := hlt.1
        obtain ⟨c1, c2, c3⟩ := i2 (by decide)
        have a1 : ρ2 1 = x0 := (hg 1 (by decide)).trans (i3 (by decide))
        have f0 := zyX20 hF 0 rfl
        have f0 : ρ2 1 < Int32.ofNat 0 := f0
        obtain ⟨q1, q2⟩ := zLt_neg m1 hlt (fun q => by
          rw [← a1] at q
          rw [zylt_B] at f0 q
          omega)
        have f1 := zyXop hF 1 rfl (by decide)
        have f1 : ρ2 5 = Int32.ofNat 0 - ρ2 1 := f1
        rw [a1, q2, zyOng (by omega)] at f1
        have b2 : ρ2 5 + Int32.ofNat 4294967295 = Int32.ofNat k := by rw [f1, zyOd (by omega), Nat.add_sub_cancel]
        refine zyGoB hIH hAt hB ⟨1, by decide⟩ [595, 34359738369, 206158430201, 0, 0] rfl rfl rfl rfl ⟨σ, k, n, m, x0, has, hlt, n1, m1, s1, s2, by rw [hEE]; exact i1, fun _ => ⟨by rw [hEE]; exact c1, by rw [hEE]; exact c2, by rw [hEE]; exact c3⟩, fun _ => a1, fun _ => b2, fun _ => ⟨0, rfl, Nat.zero_le _, fun h => absurd h (by decide)⟩, fun _ _ => q1, fun h => absurd (show 1 = 4 from h) (by decide), fun h => absurd (show 1 = 5 from h) (by decide), fun h => absurd (show 1 = 6 from h) (by decide), fun h => absurd (show 1 = 7 ∨ 1 = 11 from h) (by decide), fun h => absurd (show 1 = 8 from h) (by decide), fun h => absurd (show 1 = 9 from h) (by decide), fun h => absurd (show 1 = 10 from h) (by decide), fun h => absurd (show 1 = 11 from h) (by decide), fun h => absurd (show 1 = 12 from h) (by decide)⟩ ?_
        show zyMjo 1 (zyN1 (Int32.ofNat 0)) < 100000
        rw [zyN1_of (by omega)]
        show 50000 + 4 * (1300 - 0) + (2 - 1) < 100000
        omega
      · skip
        have ex := List.mem_singleton.mp hx
        subst ex
        obtain ⟨σ, k, n, m, x0, has, hlt, n1, m1, s1, s2, i1, i2, i3, i4, i5, i6, i7, i8, i9, i10, i11, i12, i13, i14, i15⟩ := hI
        have hlt1 : k + 1 < m := hlt.1
        obtain ⟨c1, c2, c3⟩ := i2 (by decide)
        have a1 : ρ2 1 = x0 := (hg 1 (by decide)).trans (i3 (by decide))
        have f0 := zyX21 hF 0 rfl
        have f0 : ¬ ρ2 1 < Int32.ofNat 0 := f0
        have q : σ = true ∧ x0 = Int32.ofNat (k + 1) := by
          obtain ⟨-, q | ⟨-, q⟩⟩ := hlt
          · exact q
          · exfalso
            apply f0
            rw [a1, q, zylt_B, zyBng (by omega), zyBn (by omega)]
            omega
        obtain ⟨q1, q2⟩ := q
        have b2 : ρ2 1 + Int32.ofNat 4294967295 = Int32.ofNat k := by rw [a1, q2, zyOd (by omega), Nat.add_sub_cancel]
        refine zyGo hIH hAt ⟨4, by decide⟩ [595, 34359738369, 68719476729, 0, 0] rfl rfl rfl (zEnv_c (zyfull _) (zEnv_c ?_ (zEnv_c ?_ (zEnv_c ?_ (zEnv_c (zyfull _) zEnv_nil))))) ⟨σ, k, n, m, x0, has, hlt, n1, m1, s1, s2, by rw [hEE]; exact i1, fun _ => ⟨by rw [hEE]; exact c1, by rw [hEE]; exact c2, by rw [hEE]; exact c3⟩, fun _ => a1, fun _ => b2, fun h => absurd (show 1 ≤ 4 ∧ 4 ≤ 2 from h) (by decide), fun h => absurd (show 4 ≤ 3 from h) (by decide), fun _ => ⟨0, Nat.zero_le _, rfl, fun j hj => absurd hj (Nat.not_lt_zero j)⟩, fun h => absurd (show 4 = 5 from h) (by decide), fun h => absurd (show 4 = 6 from h) (by decide), fun h => absurd (show 4 = 7 ∨ 4 = 11 from h) (by decide), fun h => absurd (show 4 = 8 from h) (by decide), fun h => absurd (show 4 = 9 from h) (by decide), fun h => absurd (show 4 = 10 from h) (by decide), fun h => absurd (show 4 = 11 from h) (by decide), fun h => absurd (show 4 = 12 from h) (by decide)⟩ ?_
        · show 2147483641 ≤ zB (ρ2 1) ∧ zB (ρ2 1) ≤ 2147483655
          rw [a1, q2, zyBn (by omega)]
          omega
        · show 2147483648 ≤ zB (ρ2 1 + Int32.ofNat 4294967295) ∧ zB (ρ2 1 + Int32.ofNat 4294967295) ≤ 2147483654
          rw [b2, zyBn (by omega)]
          omega
        · show 2147483648 ≤ zB (Int32.ofNat 0) ∧ zB (Int32.ofNat 0) ≤ 2147483656
          decide
        · show zyMjo 4 (zyN1 (Int32.ofNat 0)) < 100000
          rw [zyN1_of (by omega)]
          show 20000 + 4 * (8 - 0) + (5 - 4) < 100000
          omega
    · have hx : x ∈ [zxjo_bx0, zxjo_bx1] := hx
      have hg : ∀ k, k < 5 → ρ2 k = ρ k := hag
      have hI := hInv
      have hI : ∃ (σ : Bool) (k n m : Nat) (x : Int32), as = [x] ∧ zLt σ k m x ∧ n ≤ 1298 ∧ m ≤ 8 ∧ (zyEl (zymr r c) B s.heap) 74 19 = some (.int (Int32.ofNat n)) ∧ (zyEl (zymr r c) B s.heap) 74 21 = some (.int (Int32.ofNat m)) ∧ zyIjo 1 σ k n m x (zyEl (zymr r c) B s.heap) ρ (zyEl (zymr r c) B H) := hI
      obtain ⟨hF, hB, hM⟩ := hXs
      have hEE : (zyEl (zymr r c) B H2) = (zyEl (zymr r c) B H) := zyfr0 hfr
      rcases List.mem_cons.mp hx with ex | hx
      · subst ex
        obtain ⟨σ, k, n, m, x0, has, hlt, n1, m1, s1, s2, i1, i2, i3, i4, i5, i6, i7, i8, i9, i10, i11, i12, i13, i14, i15⟩ := hI
        have hlt1 : k + 1 < m := hlt.1
        obtain ⟨c1, c2, c3⟩ := i2 (by decide)
        have a1 : ρ2 1 = x0 := (hg 1 (by decide)).trans (i3 (by decide))
        have a2 : ρ2 2 = Int32.ofNat k := (hg 2 (by decide)).trans (i4 (by decide))
        obtain ⟨f, f1, f2, f3⟩ := i5 (by decide)
        have a3 : ρ2 3 = Int32.ofNat f := (hg 3 (by decide)).trans f1
        obtain ⟨n3, w1, w2, w3⟩ := zyXe hF 0 rfl
        have w1 : Int32.ofNat 19 = Int32.ofNat n3 := w1
        have w3 : zyEl (zymr r c) B H 74 n3 = some (.int (ρ2 5)) := w3
        have en : ρ2 5 = Int32.ofNat n := zyEk w1 (by decide) w2 w3 c1
        have g1 := zyX20 hF 1 rfl
        have g1 : ρ2 3 < ρ2 5 := g1
        rw [a3, en, zyOl (by omega) (by omega)] at g1
        refine zyCa0 hRu hIH hAt hB hmi (ix := 236) (ax := 3760) rfl rfl rfl hmemi ⟨rfl, rfl, rfl, rfl⟩ (by decide) [103079215105] rfl (by decide) rfl ⟨2, by decide⟩ [595, 34359738369, 68719476737, 103079215105, 0] rfl rfl rfl rfl ?_ ?_
        · show zyΦmi [ρ2 3] _
          rw [a3, hEE]
          exact ⟨f, m, rfl, by omega, m1, c2, c3 f g1⟩
        · intro E3 vo hT3 hΨ
          have hΨ : zyΨmi [ρ2 3] _ E3 vo := hΨ
          rw [a3, hEE] at hΨ
          obtain ⟨ev, hq⟩ := hΨ
          obtain ⟨q1, q2⟩ := hq f m rfl (by omega) m1 c2
          have e19 := (q1 74 19 (fun z => absurd z.1 (by decide)) (by decide)).trans c1
          have e21 := (q1 74 21 (fun z => absurd z.1 (by decide)) (by decide)).trans c2
          have br : zBr E3 m n := fun g hg => by
            by_cases e : g = f
            · rw [e]
              exact q2
            · exact zPm_congr (fun j hj => zyrow_eq (q1 81 _ (fun z => by omega) (by decide))) (c3 g hg)
          refine ⟨ev, ⟨σ, k, n, m, x0, has, hlt, n1, m1, s1, s2, fun a2 k2 p1 p2 p3 => (q1 a2 k2 (fun z => p1 z.1) p2).trans (i1 a2 k2 p1 p2 p3), fun _ => ⟨e19, e21, br⟩, fun _ => a1, fun _ => a2, fun _ => ⟨f, a3, f2, fun _ => g1⟩, fun _ _ => i6 (by decide) (by decide), fun h => absurd (show 2 = 4 from h) (by decide), fun h => absurd (show 2 = 5 from h) (by decide), fun h => absurd (show 2 = 6 from h) (by decide), fun h => absurd (show 2 = 7 ∨ 2 = 11 from h) (by decide), fun h => absurd (show 2 = 8 from h) (by decide), fun h => absurd (show 2 = 9 from h) (by decide), fun h => absurd (show 2 = 10 from h) (by decide), fun h => absurd (show 2 = 11 from h) (by decide), fun h => absurd (show 2 = 12 from h) (by decide)⟩, ?_⟩
          show zyMjo 2 (zyN1 (ρ2 3)) < zyMjo 1 (zyN1 (ρ 3))
          rw [a3, f1, zyN1_of (by omega)]
          show 50000 + 4 * (1300 - f) + (2 - 2) < 50000 + 4 * (1300 - f) + (2 - 1)
          omega
      · skip
        have ex := List.mem_singleton.mp hx
        subst ex
        obtain ⟨σ, k, n, m, x0, has, hlt, n1, m1, s1, s2, i1, i2, i3, i4, i5, i6, i7, i8, i9, i10, i11, i12, i13, i14, i15⟩ := hI
        have hlt1 : k + 1 < m := hlt.1
        obtain ⟨c1, c2, c3⟩ := i2 (by decide)
        have a1 : ρ2 1 = x0 := (hg 1 (by decide)).trans (i3 (by decide))
        have a2 : ρ2 2 = Int32.ofNat k := (hg 2 (by decide)).trans (i4 (by decide))
        obtain ⟨f, f1, f2, f3⟩ := i5 (by decide)
        have a3 : ρ2 3 = Int32.ofNat f := (hg 3 (by decide)).trans f1
        refine zyGoB hIH hAt hB ⟨3, by decide⟩ [595, 34359738369, 68719476737, 0, 0] rfl rfl rfl rfl ⟨σ, k, n, m, x0, has, hlt, n1, m1, s1, s2, by rw [hEE]; exact i1, fun _ => ⟨by rw [hEE]; exact c1, by rw [hEE]; exact c2, by rw [hEE]; exact c3⟩, fun _ => a1, fun _ => a2, fun h => absurd (show 1 ≤ 3 ∧ 3 ≤ 2 from h) (by decide), fun _ _ => i6 (by decide) (by decide), fun h => absurd (show 3 = 4 from h) (by decide), fun h => absurd (show 3 = 5 from h) (by decide), fun h => absurd (show 3 = 6 from h) (by decide), fun h => absurd (show 3 = 7 ∨ 3 = 11 from h) (by decide), fun h => absurd (show 3 = 8 from h) (by decide), fun h => absurd (show 3 = 9 from h) (by decide), fun h => absurd (show 3 = 10 from h) (by decide), fun h => absurd (show 3 = 11 from h) (by decide), fun h => absurd (show 3 = 12 from h) (by decide)⟩ ?_
        show 40000 < zyMjo 1 (zyN1 (ρ 3))
        rw [f1, zyN1_of (by omega)]
        show 40000 < 50000 + 4 * (1300 - f) + (2 - 1)
        omega
    · have hx : x ∈ [zxjo_cx0] := hx
      have hg : ∀ k, k < 5 → ρ2 k = ρ k := hag
      have hI := hInv
      have hI : ∃ (σ : Bool) (k n m : Nat) (x : Int32), as = [x] ∧ zLt σ k m x ∧ n ≤ 1298 ∧ m ≤ 8 ∧ (zyEl (zymr r c) B s.heap) 74 19 = some (.int (Int32.ofNat n)) ∧ (zyEl (zymr r c) B s.heap) 74 21 = some (.int (Int32.ofNat m)) ∧ zyIjo 2 σ k n m x (zyEl (zymr r c) B s.heap) ρ (zyEl (zymr r c) B H) := hI
      obtain ⟨hF, hB, hM⟩ := hXs
      have hEE : (zyEl (zymr r c) B H2) = (zyEl (zymr r c) B H) := zyfr0 hfr
      have ex := List.mem_singleton.mp hx
      subst ex
      obtain ⟨σ, k, n, m, x0, has, hlt, n1, m1, s1, s2, i1, i2, i3, i4, i5, i6, i7, i8, i9, i10, i11, i12, i13, i14, i15⟩ := hI
      have hlt1 : k + 1 < m := hlt.1
      obtain ⟨c1, c2, c3⟩ := i2 (by decide)
      have a1 : ρ2 1 = x0 := (hg 1 (by decide)).trans (i3 (by decide))
      have a2 : ρ2 2 = Int32.ofNat k := (hg 2 (by decide)).trans (i4 (by decide))
      obtain ⟨f, f1, f2, f3⟩ := i5 (by decide)
      have a3 : ρ2 3 = Int32.ofNat f := (hg 3 (by decide)).trans f1
      have a3' : ρ2 3 + Int32.ofNat 1 = Int32.ofNat (f + 1) := by rw [a3, zyOa]
      have f4 := f3 rfl
      refine zyGoB hIH hAt hB ⟨1, by decide⟩ [595, 34359738369, 68719476737, 103079215113, 0] rfl rfl rfl rfl ⟨σ, k, n, m, x0, has, hlt, n1, m1, s1, s2, by rw [hEE]; exact i1, fun _ => ⟨by rw [hEE]; exact c1, by rw [hEE]; exact c2, by rw [hEE]; exact c3⟩, fun _ => a1, fun _ => a2, fun _ => ⟨f + 1, a3', f4, fun h => absurd h (by decide)⟩, fun _ _ => i6 (by decide) (by decide), fun h => absurd (show 1 = 4 from h) (by decide), fun h => absurd (show 1 = 5 from h) (by decide), fun h => absurd (show 1 = 6 from h) (by decide), fun h => absurd (show 1 = 7 ∨ 1 = 11 from h) (by decide), fun h => absurd (show 1 = 8 from h) (by decide), fun h => absurd (show 1 = 9 from h) (by decide), fun h => absurd (show 1 = 10 from h) (by decide), fun h => absurd (show 1 = 11 from h) (by decide), fun h => absurd (show 1 = 12 from h) (by decide)⟩ ?_
      show zyMjo 1 (zyN1 (ρ2 3 + Int32.ofNat 1)) < zyMjo 2 (zyN1 (ρ 3))
      rw [a3', f1, zyN1_of (by omega), zyN1_of (by omega)]
      show 50000 + 4 * (1300 - (f + 1)) + (2 - 1) < 50000 + 4 * (1300 - f) + (2 - 2)
      omega
    · have hx : x ∈ [zxjo_dx0] := hx
      have hg : ∀ k, k < 5 → ρ2 k = ρ k := hag
      have hI := hInv
      have hI : ∃ (σ : Bool) (k n m : Nat) (x : Int32), as = [x] ∧ zLt σ k m x ∧ n ≤ 1298 ∧ m ≤ 8 ∧ (zyEl (zymr r c) B s.heap) 74 19 = some (.int (Int32.ofNat n)) ∧ (zyEl (zymr r c) B s.heap) 74 21 = some (.int (Int32.ofNat m)) ∧ zyIjo 3 σ k n m x (zyEl (zymr r c) B s.heap) ρ (zyEl (zymr r c) B H) := hI
      obtain ⟨hF, hB, hM⟩ := hXs
      have hfr : ∀ a k, zyin [(74, 20, 20)] a k = false → (zyEl (zymr r c) B H2) a k = (zyEl (zymr r c) B H) a k := hfr
      have ex := List.mem_singleton.mp hx
      subst ex
      obtain ⟨σ, k, n, m, x0, has, hlt, n1, m1, s1, s2, i1, i2, i3, i4, i5, i6, i7, i8, i9, i10, i11, i12, i13, i14, i15⟩ := hI
      have hlt1 : k + 1 < m := hlt.1
      obtain ⟨c1, c2, c3⟩ := i2 (by decide)
      have a1 : ρ2 1 = x0 := (hg 1 (by decide)).trans (i3 (by decide))
      have a2 : ρ2 2 = Int32.ofNat k := (hg 2 (by decide)).trans (i4 (by decide))
      have hk := zyfr1 hfr
      have e19 := (hk 74 19 (fun z => absurd z.2 (by decide))).trans c1
      have e21 := (hk 74 21 (fun z => absurd z.2 (by decide))).trans c2
      refine zyGoB hIH hAt hB ⟨4, by decide⟩ [595, 34359738369, 68719476737, 0, 0] rfl rfl rfl rfl ⟨σ, k, n, m, x0, has, hlt, n1, m1, s1, s2, fun a2 k2 p1 p2 p3 => (hk a2 k2 (fun z => p3 ⟨z.1, Or.inr z.2⟩)).trans (i1 a2 k2 p1 p2 p3), fun _ => ⟨e19, e21, fun f hf => zPm_congr (fun j hj => zyrow_eq (hk 81 _ (fun z => absurd z.1 (by decide)))) (c3 f hf)⟩, fun _ => a1, fun _ => a2, fun h => absurd (show 1 ≤ 4 ∧ 4 ≤ 2 from h) (by decide), fun h => absurd (show 4 ≤ 3 from h) (by decide), fun _ => ⟨0, Nat.zero_le _, rfl, fun j hj => absurd hj (Nat.not_lt_zero j)⟩, fun h => absurd (show 4 = 5 from h) (by decide), fun h => absurd (show 4 = 6 from h) (by decide), fun h => absurd (show 4 = 7 ∨ 4 = 11 from h) (by decide), fun h => absurd (show 4 = 8 from h) (by decide), fun h => absurd (show 4 = 9 from h) (by decide), fun h => absurd (show 4 = 10 from h) (by decide), fun h => absurd (show 4 = 11 from h) (by decide), fun h => absurd (show 4 = 12 from h) (by decide)⟩ ?_
      show zyMjo 4 (zyN1 (Int32.ofNat 0)) < 40000
      rw [zyN1_of (by omega)]
      show 20000 + 4 * (8 - 0) + (5 - 4) < 40000
      omega
    · have hx : x ∈ [zxjo_ex0, zxjo_ex1, zxjo_ex2, zxjo_ex3] := hx
      have hg : ∀ k, k < 5 → ρ2 k = ρ k := hag
      have hI := hInv
      have hI : ∃ (σ : Bool) (k n m : Nat) (x : Int32), as = [x] ∧ zLt σ k m x ∧ n ≤ 1298 ∧ m ≤ 8 ∧ (zyEl (zymr r c) B s.heap) 74 19 = some (.int (Int32.ofNat n)) ∧ (zyEl (zymr r c) B s.heap) 74 21 = some (.int (Int32.ofNat m)) ∧ zyIjo 4 σ k n m x (zyEl (zymr r c) B s.heap) ρ (zyEl (zymr r c) B H) := hI
      obtain ⟨hF, hB, hM⟩ := hXs
      have hEE : (zyEl (zymr r c) B H2) = (zyEl (zymr r c) B H) := zyfr0 hfr
      rcases List.mem_cons.mp hx with ex | hx
      · subst ex
        obtain ⟨σ, k, n, m, x0, has, hlt, n1, m1, s1, s2, i1, i2, i3, i4, i5, i6, i7, i8, i9, i10, i11, i12, i13, i14, i15⟩ := hI
        have hlt1 : k + 1 < m := hlt.1
        obtain ⟨c1, c2, c3⟩ := i2 (by decide)
        have a1 : ρ2 1 = x0 := (hg 1 (by decide)).trans (i3 (by decide))
        have a2 : ρ2 2 = Int32.ofNat k := (hg 2 (by decide)).trans (i4 (by decide))
        obtain ⟨p, p1, p2, p3⟩ := i7 rfl
        have a3 : ρ2 3 = Int32.ofNat p := (hg 3 (by decide)).trans p2
        obtain ⟨n4, w4, w5, w6⟩ := zyXe hF 0 rfl
        have w4 : Int32.ofNat 21 = Int32.ofNat n4 := w4
        have w6 : zyEl (zymr r c) B H 74 n4 = some (.int (ρ2 5)) := w6
        have em : ρ2 5 = Int32.ofNat m := zyEk w4 (by decide) w5 w6 c2
        obtain ⟨n3, w1, w2, w3⟩ := zyXe hF 2 rfl
        have w1 : Int32.ofNat 19 = Int32.ofNat n3 := w1
        have w3 : zyEl (zymr r c) B H 74 n3 = some (.int (ρ2 6)) := w3
        have en : ρ2 6 = Int32.ofNat n := zyEk w1 (by decide) w2 w3 c1
        have g1 := zyX20 hF 1 rfl
        have g1 : ρ2 3 < ρ2 5 := g1
        rw [a3, em, zyOl (by omega) (by omega)] at g1
        have g2 := zyX20 hF 3 rfl
        have g2 : Int32.ofNat 0 < ρ2 1 := g2
        rw [a1] at g2
        obtain ⟨q1, q2⟩ := zLt_pos m1 hlt g2
        have hz : zjr σ m p = p := by
          unfold zjr
          rw [if_pos q1]
        have hv : zjr σ m p < m := zjr_lt g1
        refine zyCa0 hRu hIH hAt hB hla (ix := 213) (ax := 3632) rfl rfl rfl hmela ⟨rfl, rfl, rfl, rfl⟩ (by decide) [206158430209, 103079215105, 103079215105] rfl (by decide) rfl ⟨5, by decide⟩ [595, 34359738369, 68719476737, 103079215105, 0] rfl rfl rfl rfl ?_ ?_
        · show zyΦla [ρ2 6, ρ2 3, ρ2 3] _
          rw [en, a3]
          exact ⟨n, p, zjr σ m p, by rw [hz], by omega, by omega, by omega⟩
        · intro E3 vo hT3 hΨ
          have hΨ : zyΨla [ρ2 6, ρ2 3, ρ2 3] _ E3 vo := hΨ
          rw [en, a3, hEE] at hΨ
          obtain ⟨ev, hu⟩ := hΨ
          have hu := hu n p (zjr σ m p) (by rw [hz]) (by omega) (by omega) (by omega)
          have e19 := (hu.2 74 19 (fun z => absurd z.1 (by decide))).trans c1
          have e21 := (hu.2 74 21 (fun z => absurd z.1 (by decide))).trans c2
          have br : zBr E3 m n := fun g hg => zPm_congr (fun j hj => by rw [zyrow_up hu (by omega) (by omega) (by omega), if_neg (fun z => absurd z.1 (by omega))]) (c3 g hg)
          refine ⟨ev, ⟨σ, k, n, m, x0, has, hlt, n1, m1, s1, s2, fun a2 k2 p1 p2 p3 => (hu.2 a2 k2 (fun z => p1 z.1)).trans (i1 a2 k2 p1 p2 p3), fun _ => ⟨e19, e21, br⟩, fun _ => a1, fun _ => a2, fun h => absurd (show 1 ≤ 5 ∧ 5 ≤ 2 from h) (by decide), fun h => absurd (show 5 ≤ 3 from h) (by decide), fun h => absurd (show 5 = 4 from h) (by decide), fun _ => ⟨p, g1, a3, fun j hj => ?_⟩, fun h => absurd (show 5 = 6 from h) (by decide), fun h => absurd (show 5 = 7 ∨ 5 = 11 from h) (by decide), fun h => absurd (show 5 = 8 from h) (by decide), fun h => absurd (show 5 = 9 from h) (by decide), fun h => absurd (show 5 = 10 from h) (by decide), fun h => absurd (show 5 = 11 from h) (by decide), fun h => absurd (show 5 = 12 from h) (by decide)⟩, ?_⟩
          · rw [zyrow_up hu (by omega) (by omega) (by omega)]
            by_cases e : j = p
            · rw [if_pos ⟨rfl, e⟩, e]
            · rw [if_neg (fun z => e z.2)]
              exact p3 j (by omega)
          · show zyMjo 5 (zyN1 (ρ2 3)) < zyMjo 4 (zyN1 (ρ 3))
            rw [a3, p2, zyN1_of (by omega)]
            show 20000 + 4 * (8 - p) + (5 - 5) < 20000 + 4 * (8 - p) + (5 - 4)
            omega
      · skip
        rcases List.mem_cons.mp hx with ex | hx
        · subst ex
          obtain ⟨σ, k, n, m, x0, has, hlt, n1, m1, s1, s2, i1, i2, i3, i4, i5, i6, i7, i8, i9, i10, i11, i12, i13, i14, i15⟩ := hI
          have hlt1 : k + 1 < m := hlt.1
          obtain ⟨c1, c2, c3⟩ := i2 (by decide)
          have a1 : ρ2 1 = x0 := (hg 1 (by decide)).trans (i3 (by decide))
          have a2 : ρ2 2 = Int32.ofNat k := (hg 2 (by decide)).trans (i4 (by decide))
          obtain ⟨p, p1, p2, p3⟩ := i7 rfl
          have a3 : ρ2 3 = Int32.ofNat p := (hg 3 (by decide)).trans p2
          obtain ⟨n4, w4, w5, w6⟩ := zyXe hF 0 rfl
          have w4 : Int32.ofNat 21 = Int32.ofNat n4 := w4
          have w6 : zyEl (zymr r c) B H 74 n4 = some (.int (ρ2 5)) := w6
          have em : ρ2 5 = Int32.ofNat m := zyEk w4 (by decide) w5 w6 c2
          obtain ⟨n3, w1, w2, w3⟩ := zyXe hF 2 rfl
          have w1 : Int32.ofNat 19 = Int32.ofNat n3 := w1
          have w3 : zyEl (zymr r c) B H 74 n3 = some (.int (ρ2 6)) := w3
          have en : ρ2 6 = Int32.ofNat n := zyEk w1 (by decide) w2 w3 c1
          have g1 := zyX20 hF 1 rfl
          have g1 : ρ2 3 < ρ2 5 := g1
          rw [a3, em, zyOl (by omega) (by omega)] at g1
          have g2 := zyX21 hF 3 rfl
          have g2 : ¬ Int32.ofNat 0 < ρ2 1 := g2
          rw [a1] at g2
          obtain ⟨q1, q2⟩ := zLt_neg m1 hlt g2
          have g3 := zyXop hF 4 rfl (by decide)
          have g3 : ρ2 7 = ρ2 5 + Int32.ofNat 4294967295 - ρ2 3 := g3
          have hz : zjr σ m p = m - 1 - p := by
            unfold zjr
            rw [if_neg (by rw [q1]; decide)]
          rw [em, zyOd (by omega), a3, zyOs (by omega), ← hz] at g3
          have hv : zjr σ m p < m := zjr_lt g1
          refine zyCa0 hRu hIH hAt hB hla (ix := 213) (ax := 3632) rfl rfl rfl hmela ⟨rfl, rfl, rfl, rfl⟩ (by decide) [206158430209, 103079215105, 240518168577] rfl (by decide) rfl ⟨5, by decide⟩ [595, 34359738369, 68719476737, 103079215105, 0] rfl rfl rfl rfl ?_ ?_
          · show zyΦla [ρ2 6, ρ2 3, ρ2 7] _
            rw [en, a3, g3]
            exact ⟨n, p, zjr σ m p, rfl, by omega, by omega, by omega⟩
          · intro E3 vo hT3 hΨ
            have hΨ : zyΨla [ρ2 6, ρ2 3, ρ2 7] _ E3 vo := hΨ
            rw [en, a3, g3, hEE] at hΨ
            obtain ⟨ev, hu⟩ := hΨ
            have hu := hu n p (zjr σ m p) rfl (by omega) (by omega) (by omega)
            have e19 := (hu.2 74 19 (fun z => absurd z.1 (by decide))).trans c1
            have e21 := (hu.2 74 21 (fun z => absurd z.1 (by decide))).trans c2
            have br : zBr E3 m n := fun g hg => zPm_congr (fun j hj => by rw [zyrow_up hu (by omega) (by omega) (by omega), if_neg (fun z => absurd z.1 (by omega))]) (c3 g hg)
            refine ⟨ev, ⟨σ, k, n, m, x0, has, hlt, n1, m1, s1, s2, fun a2 k2 p1 p2 p3 => (hu.2 a2 k2 (fun z => p1 z.1)).trans (i1 a2 k2 p1 p2 p3), fun _ => ⟨e19, e21, br⟩, fun _ => a1, fun _ => a2, fun h => absurd (show 1 ≤ 5 ∧ 5 ≤ 2 from h) (by decide), fun h => absurd (show 5 ≤ 3 from h) (by decide), fun h => absurd (show 5 = 4 from h) (by decide), fun _ => ⟨p, g1, a3, fun j hj => ?_⟩, fun h => absurd (show 5 = 6 from h) (by decide), fun h => absurd (show 5 = 7 ∨ 5 = 11 from h) (by decide), fun h => absurd (show 5 = 8 from h) (by decide), fun h => absurd (show 5 = 9 from h) (by decide), fun h => absurd (show 5 = 10 from h) (by decide), fun h => absurd (show 5 = 11 from h) (by decide), fun h => absurd (show 5 = 12 from h) (by decide)⟩, ?_⟩
            · rw [zyrow_up hu (by omega) (by omega) (by omega)]
              by_cases e : j = p
              · rw [if_pos ⟨rfl, e⟩, e]
              · rw [if_neg (fun z => e z.2)]
                exact p3 j (by omega)
            · show zyMjo 5 (zyN1 (ρ2 3)) < zyMjo 4 (zyN1 (ρ 3))
              rw [a3, p2, zyN1_of (by omega)]
              show 20000 + 4 * (8 - p) + (5 - 5) < 20000 + 4 * (8 - p) + (5 - 4)
              omega
        · skip
          rcases List.mem_cons.mp hx with ex | hx
          · subst ex
            obtain ⟨σ, k, n, m, x0, has, hlt, n1, m1, s1, s2, i1, i2, i3, i4, i5, i6, i7, i8, i9, i10, i11, i12, i13, i14, i15⟩ := hI
            have hlt1 : k + 1 < m := hlt.1
            obtain ⟨c1, c2, c3⟩ := i2 (by decide)
            have a1 : ρ2 1 = x0 := (hg 1 (by decide)).trans (i3 (by decide))
            have a2 : ρ2 2 = Int32.ofNat k := (hg 2 (by decide)).trans (i4 (by decide))
            obtain ⟨p, p1, p2, p3⟩ := i7 rfl
            have a3 : ρ2 3 = Int32.ofNat p := (hg 3 (by decide)).trans p2
            obtain ⟨n4, w4, w5, w6⟩ := zyXe hF 0 rfl
            have w4 : Int32.ofNat 21 = Int32.ofNat n4 := w4
            have w6 : zyEl (zymr r c) B H 74 n4 = some (.int (ρ2 5)) := w6
            have em : ρ2 5 = Int32.ofNat m := zyEk w4 (by decide) w5 w6 c2
            obtain ⟨n3, w1, w2, w3⟩ := zyXe hF 3 rfl
            have w1 : Int32.ofNat 19 = Int32.ofNat n3 := w1
            have w3 : zyEl (zymr r c) B H 74 n3 = some (.int (ρ2 6)) := w3
            have en : ρ2 6 = Int32.ofNat n := zyEk w1 (by decide) w2 w3 c1
            have g1 := zyX21 hF 1 rfl
            have g1 : ¬ ρ2 3 < ρ2 5 := g1
            rw [a3, em, zyOl (by omega) (by omega)] at g1
            have g2 := zyX20 hF 2 rfl
            have g2 : Int32.ofNat 0 < ρ2 1 := g2
            rw [a1] at g2
            obtain ⟨q1, q2⟩ := zLt_pos m1 hlt g2
            have b2 : ρ2 2 + Int32.ofNat 1 = Int32.ofNat (k + 1) := by rw [a2, zyOa]
            refine zyCa0 hRu hIH hAt hB hla (ix := 213) (ax := 3632) rfl rfl rfl hmela ⟨rfl, rfl, rfl, rfl⟩ (by decide) [206158430209, 68719476737, 68719476745] rfl (by decide) rfl ⟨6, by decide⟩ [595, 34359738369, 68719476737, 0, 0] rfl rfl rfl rfl ?_ ?_
            · show zyΦla [ρ2 6, ρ2 2, ρ2 2 + Int32.ofNat 1] _
              rw [b2, en, a2]
              exact ⟨n, k, k + 1, rfl, by omega, by omega, by omega⟩
            · intro E3 vo hT3 hΨ
              have hΨ : zyΨla [ρ2 6, ρ2 2, ρ2 2 + Int32.ofNat 1] _ E3 vo := hΨ
              rw [b2, en, a2, hEE] at hΨ
              obtain ⟨ev, hu⟩ := hΨ
              have hu := hu n k (k + 1) rfl (by omega) (by omega) (by omega)
              have e19 := (hu.2 74 19 (fun z => absurd z.1 (by decide))).trans c1
              have e21 := (hu.2 74 21 (fun z => absurd z.1 (by decide))).trans c2
              have br : zBr E3 m n := fun g hg => zPm_congr (fun j hj => by rw [zyrow_up hu (by omega) (by omega) (by omega), if_neg (fun z => absurd z.1 (by omega))]) (c3 g hg)
              refine ⟨ev, ⟨σ, k, n, m, x0, has, hlt, n1, m1, s1, s2, fun a2 k2 p1 p2 p3 => (hu.2 a2 k2 (fun z => p1 z.1)).trans (i1 a2 k2 p1 p2 p3), fun _ => ⟨e19, e21, br⟩, fun _ => a1, fun _ => a2, fun h => absurd (show 1 ≤ 6 ∧ 6 ≤ 2 from h) (by decide), fun h => absurd (show 6 ≤ 3 from h) (by decide), fun h => absurd (show 6 = 4 from h) (by decide), fun h => absurd (show 6 = 5 from h) (by decide), fun _ => ⟨q1, fun j hj => ?_⟩, fun h => absurd (show 6 = 7 ∨ 6 = 11 from h) (by decide), fun h => absurd (show 6 = 8 from h) (by decide), fun h => absurd (show 6 = 9 from h) (by decide), fun h => absurd (show 6 = 10 from h) (by decide), fun h => absurd (show 6 = 11 from h) (by decide), fun h => absurd (show 6 = 12 from h) (by decide)⟩, ?_⟩
              · rw [zyrow_up hu (by omega) (by omega) (by omega)]
                by_cases e : j = k
                · rw [if_pos ⟨rfl, e⟩, if_pos e]
                · rw [if_neg (fun z => e z.2), if_neg e, p3 j (by omega)]
                  unfold zjr
                  rw [if_pos q1]
              · show 16 - 6 < zyMjo 4 (zyN1 (ρ 3))
                rw [p2, zyN1_of (by omega)]
                show 16 - 6 < 20000 + 4 * (8 - p) + (5 - 4)
                omega
          · skip
            have ex := List.mem_singleton.mp hx
            subst ex
            obtain ⟨σ, k, n, m, x0, has, hlt, n1, m1, s1, s2, i1, i2, i3, i4, i5, i6, i7, i8, i9, i10, i11, i12, i13, i14, i15⟩ := hI
            have hlt1 : k + 1 < m := hlt.1
            obtain ⟨c1, c2, c3⟩ := i2 (by decide)
            have a1 : ρ2 1 = x0 := (hg 1 (by decide)).trans (i3 (by decide))
            have a2 : ρ2 2 = Int32.ofNat k := (hg 2 (by decide)).trans (i4 (by decide))
            obtain ⟨p, p1, p2, p3⟩ := i7 rfl
            have a3 : ρ2 3 = Int32.ofNat p := (hg 3 (by decide)).trans p2
            obtain ⟨n4, w4, w5, w6⟩ := zyXe hF 0 rfl
            have w4 : Int32.ofNat 21 = Int32.ofNat n4 := w4
            have w6 : zyEl (zymr r c) B H 74 n4 = some (.int (ρ2 5)) := w6
            have em : ρ2 5 = Int32.ofNat m := zyEk w4 (by decide) w5 w6 c2
            obtain ⟨n3, w1, w2, w3⟩ := zyXe hF 3 rfl
            have w1 : Int32.ofNat 19 = Int32.ofNat n3 := w1
            have w3 : zyEl (zymr r c) B H 74 n3 = some (.int (ρ2 6)) := w3
            have en : ρ2 6 = Int32.ofNat n := zyEk w1 (by decide) w2 w3 c1
            have g1 := zyX21 hF 1 rfl
            have g1 : ¬ ρ2 3 < ρ2 5 := g1
            rw [a3, em, zyOl (by omega) (by omega)] at g1
            have pm : zPm (zyrow (zyEl (zymr r c) B H) n) m := zjr_pm (σ := σ) (fun j hj => p3 j (by omega))
            refine zyCa1 hRu hIH hAt hB hcf (ix := 201) (ax := 3664) rfl rfl rfl hmecf ⟨rfl, rfl, rfl, rfl⟩ (by decide) [206158430209, 68719476737] rfl (by decide) rfl ⟨8, by decide⟩ [595, 34359738369, 68719476737, 0, 0] [(0, 4294967295), (2147483641, 2147483655), (2147483648, 2147483654), (0, 4294967295), (0, 4294967295)] 2147483648 2147483655 rfl (by decide) rfl rfl rfl rfl rfl ?_ ?_
            · show zyΦcf [ρ2 6, ρ2 2] _
              rw [en, a2, hEE]
              obtain ⟨p0, q1, q2⟩ := (pm k (by omega)).2
              exact ⟨n, k, rfl, by omega, by omega, p0, by omega, q2⟩
            · intro E3 vo hT3 hΨ
              have hΨ : zyΨcf [ρ2 6, ρ2 2] _ E3 vo := hΨ
              rw [en, a2, hEE] at hΨ
              obtain ⟨e3, q⟩ := hΨ
              subst e3
              obtain ⟨pp, u1, ez, u2, u3⟩ := q n k rfl (by omega) (by omega)
              obtain ⟨p0, q1, q2⟩ := (pm k (by omega)).2
              have ppm : pp < m := by
                apply Classical.byContradiction
                intro hn
                exact u3 p0 (by omega) q2
              refine ⟨_, ez, ?_, ?_, ⟨σ, k, n, m, x0, has, hlt, n1, m1, s1, s2, i1, fun _ => ⟨c1, c2, c3⟩, fun _ => (zyρi_n (by decide)).trans a1, fun _ => (zyρi_n (by decide)).trans a2, fun h => absurd (show 1 ≤ 8 ∧ 8 ≤ 2 from h) (by decide), fun h => absurd (show 8 ≤ 3 from h) (by decide), fun h => absurd (show 8 = 4 from h) (by decide), fun h => absurd (show 8 = 5 from h) (by decide), fun h => absurd (show 8 = 6 from h) (by decide), fun h => absurd (show 8 = 7 ∨ 8 = 11 from h) (by decide), fun _ => ⟨pm, pp, zyρi_e, ppm, u2⟩, fun h => absurd (show 8 = 9 from h) (by decide), fun h => absurd (show 8 = 10 from h) (by decide), fun h => absurd (show 8 = 11 from h) (by decide), fun h => absurd (show 8 = 12 from h) (by decide)⟩, ?_⟩
              · rw [zyBn (by omega)]
                omega
              · rw [zyBn (by omega)]
                omega
              · show 16 - 8 < zyMjo 4 (zyN1 (ρ 3))
                rw [p2, zyN1_of (by omega)]
                show 16 - 8 < 20000 + 4 * (8 - p) + (5 - 4)
                omega
    · have hx : x ∈ [zxjo_fx0] := hx
      have hg : ∀ k, k < 5 → ρ2 k = ρ k := hag
      have hI := hInv
      have hI : ∃ (σ : Bool) (k n m : Nat) (x : Int32), as = [x] ∧ zLt σ k m x ∧ n ≤ 1298 ∧ m ≤ 8 ∧ (zyEl (zymr r c) B s.heap) 74 19 = some (.int (Int32.ofNat n)) ∧ (zyEl (zymr r c) B s.heap) 74 21 = some (.int (Int32.ofNat m)) ∧ zyIjo 5 σ k n m x (zyEl (zymr r c) B s.heap) ρ (zyEl (zymr r c) B H) := hI
      obtain ⟨hF, hB, hM⟩ := hXs
      have hEE : (zyEl (zymr r c) B H2) = (zyEl (zymr r c) B H) := zyfr0 hfr
      have ex := List.mem_singleton.mp hx
      subst ex
      obtain ⟨σ, k, n, m, x0, has, hlt, n1, m1, s1, s2, i1, i2, i3, i4, i5, i6, i7, i8, i9, i10, i11, i12, i13, i14, i15⟩ := hI
      have hlt1 : k + 1 < m := hlt.1
      obtain ⟨c1, c2, c3⟩ := i2 (by decide)
      have a1 : ρ2 1 = x0 := (hg 1 (by decide)).trans (i3 (by decide))
      have a2 : ρ2 2 = Int32.ofNat k := (hg 2 (by decide)).trans (i4 (by decide))
      obtain ⟨p, p1, p2, p3⟩ := i8 rfl
      have a3 : ρ2 3 = Int32.ofNat p := (hg 3 (by decide)).trans p2
      have a3' : ρ2 3 + Int32.ofNat 1 = Int32.ofNat (p + 1) := by rw [a3, zyOa]
      refine zyGoB hIH hAt hB ⟨4, by decide⟩ [595, 34359738369, 68719476737, 103079215113, 0] rfl rfl rfl rfl ⟨σ, k, n, m, x0, has, hlt, n1, m1, s1, s2, by rw [hEE]; exact i1, fun _ => ⟨by rw [hEE]; exact c1, by rw [hEE]; exact c2, by rw [hEE]; exact c3⟩, fun _ => a1, fun _ => a2, fun h => absurd (show 1 ≤ 4 ∧ 4 ≤ 2 from h) (by decide), fun h => absurd (show 4 ≤ 3 from h) (by decide), fun _ => ⟨p + 1, p1, a3', fun j hj => by rw [hEE]; exact p3 j (by omega)⟩, fun h => absurd (show 4 = 5 from h) (by decide), fun h => absurd (show 4 = 6 from h) (by decide), fun h => absurd (show 4 = 7 ∨ 4 = 11 from h) (by decide), fun h => absurd (show 4 = 8 from h) (by decide), fun h => absurd (show 4 = 9 from h) (by decide), fun h => absurd (show 4 = 10 from h) (by decide), fun h => absurd (show 4 = 11 from h) (by decide), fun h => absurd (show 4 = 12 from h) (by decide)⟩ ?_
      show zyMjo 4 (zyN1 (ρ2 3 + Int32.ofNat 1)) < zyMjo 5 (zyN1 (ρ 3))
      rw [a3', p2, zyN1_of (by omega), zyN1_of (by omega)]
      show 20000 + 4 * (8 - (p + 1)) + (5 - 4) < 20000 + 4 * (8 - p) + (5 - 5)
      omega
    · have hx : x ∈ [zxjo_gx0] := hx
      have hg : ∀ k, k < 5 → ρ2 k = ρ k := hag
      have hI := hInv
      have hI : ∃ (σ : Bool) (k n m : Nat) (x : Int32), as = [x] ∧ zLt σ k m x ∧ n ≤ 1298 ∧ m ≤ 8 ∧ (zyEl (zymr r c) B s.heap) 74 19 = some (.int (Int32.ofNat n)) ∧ (zyEl (zymr r c) B s.heap) 74 21 = some (.int (Int32.ofNat m)) ∧ zyIjo 6 σ k n m x (zyEl (zymr r c) B s.heap) ρ (zyEl (zymr r c) B H) := hI
      obtain ⟨hF, hB, hM⟩ := hXs
      have hEE : (zyEl (zymr r c) B H2) = (zyEl (zymr r c) B H) := zyfr0 hfr
      have ex := List.mem_singleton.mp hx
      subst ex
      obtain ⟨σ, k, n, m, x0, has, hlt, n1, m1, s1, s2, i1, i2, i3, i4, i5, i6, i7, i8, i9, i10, i11, i12, i13, i14, i15⟩ := hI
      have hlt1 : k + 1 < m := hlt.1
      obtain ⟨c1, c2, c3⟩ := i2 (by decide)
      have a1 : ρ2 1 = x0 := (hg 1 (by decide)).trans (i3 (by decide))
      have a2 : ρ2 2 = Int32.ofNat k := (hg 2 (by decide)).trans (i4 (by decide))
      obtain ⟨q1, p3⟩ := i9 rfl
      obtain ⟨n3, w1, w2, w3⟩ := zyXe hF 0 rfl
      have w1 : Int32.ofNat 19 = Int32.ofNat n3 := w1
      have w3 : zyEl (zymr r c) B H 74 n3 = some (.int (ρ2 5)) := w3
      have en : ρ2 5 = Int32.ofNat n := zyEk w1 (by decide) w2 w3 c1
      have b2 : ρ2 2 + Int32.ofNat 1 = Int32.ofNat (k + 1) := by rw [a2, zyOa]
      refine zyCa0 hRu hIH hAt hB hla (ix := 213) (ax := 3632) rfl rfl rfl hmela ⟨rfl, rfl, rfl, rfl⟩ (by decide) [171798691841, 68719476745, 68719476737] rfl (by decide) rfl ⟨7, by decide⟩ [595, 34359738369, 68719476737, 0, 0] rfl rfl rfl rfl ?_ ?_
      · show zyΦla [ρ2 5, ρ2 2 + Int32.ofNat 1, ρ2 2] _
        rw [b2, en, a2]
        exact ⟨n, k + 1, k, rfl, by omega, by omega, by omega⟩
      · intro E3 vo hT3 hΨ
        have hΨ : zyΨla [ρ2 5, ρ2 2 + Int32.ofNat 1, ρ2 2] _ E3 vo := hΨ
        rw [b2, en, a2, hEE] at hΨ
        obtain ⟨ev, hu⟩ := hΨ
        have hu := hu n (k + 1) k rfl (by omega) (by omega) (by omega)
        have e19 := (hu.2 74 19 (fun z => absurd z.1 (by decide))).trans c1
        have e21 := (hu.2 74 21 (fun z => absurd z.1 (by decide))).trans c2
        have br : zBr E3 m n := fun g hg => zPm_congr (fun j hj => by rw [zyrow_up hu (by omega) (by omega) (by omega), if_neg (fun z => absurd z.1 (by omega))]) (c3 g hg)
        have pm : zPm (zyrow E3 n) m := zPm_ch (g := fun j => j) (p := k) (q := k + 1) (a := k) (b := k + 1) (by omega) (by omega) (by omega) (by omega) (by omega) rfl rfl (zPm_id (fun _ _ => rfl)) (fun j hj => by
          rw [zyrow_up hu (by omega) (by omega) (by omega), p3 j hj]
          by_cases e : j = k + 1
          · rw [if_pos ⟨rfl, e⟩, if_pos e]
          · rw [if_neg (fun z => e z.2), if_neg e])
        refine ⟨ev, ⟨σ, k, n, m, x0, has, hlt, n1, m1, s1, s2, fun a2 k2 p1 p2 p3 => (hu.2 a2 k2 (fun z => p1 z.1)).trans (i1 a2 k2 p1 p2 p3), fun _ => ⟨e19, e21, br⟩, fun h => absurd (show 7 ≤ 6 ∨ (8 ≤ 7 ∧ 7 ≤ 10) from h) (by decide), fun h => absurd (show (1 ≤ 7 ∧ 7 ≤ 6) ∨ (8 ≤ 7 ∧ 7 ≤ 10) from h) (by decide), fun h => absurd (show 1 ≤ 7 ∧ 7 ≤ 2 from h) (by decide), fun h => absurd (show 7 ≤ 3 from h) (by decide), fun h => absurd (show 7 = 4 from h) (by decide), fun h => absurd (show 7 = 5 from h) (by decide), fun h => absurd (show 7 = 6 from h) (by decide), fun _ => pm, fun h => absurd (show 7 = 8 from h) (by decide), fun h => absurd (show 7 = 9 from h) (by decide), fun h => absurd (show 7 = 10 from h) (by decide), fun h => absurd (show 7 = 11 from h) (by decide), fun h => absurd (show 7 = 12 from h) (by decide)⟩, ?_⟩
        show 16 - 7 < 16 - 6
        decide
    · have hx : x ∈ [zxjo_hx0] := hx
      have hg : ∀ k, k < 5 → ρ2 k = ρ k := hag
      have hI := hInv
      have hI : ∃ (σ : Bool) (k n m : Nat) (x : Int32), as = [x] ∧ zLt σ k m x ∧ n ≤ 1298 ∧ m ≤ 8 ∧ (zyEl (zymr r c) B s.heap) 74 19 = some (.int (Int32.ofNat n)) ∧ (zyEl (zymr r c) B s.heap) 74 21 = some (.int (Int32.ofNat m)) ∧ zyIjo 7 σ k n m x (zyEl (zymr r c) B s.heap) ρ (zyEl (zymr r c) B H) := hI
      obtain ⟨hF, hB, hM⟩ := hXs
      have hEE : (zyEl (zymr r c) B H2) = (zyEl (zymr r c) B H) := zyfr0 hfr
      have ex := List.mem_singleton.mp hx
      subst ex
      obtain ⟨σ, k, n, m, x0, has, hlt, n1, m1, s1, s2, i1, i2, i3, i4, i5, i6, i7, i8, i9, i10, i11, i12, i13, i14, i15⟩ := hI
      have hlt1 : k + 1 < m := hlt.1
      obtain ⟨c1, c2, c3⟩ := i2 (by decide)
      refine zyGoKi hIH hAt hB ⟨11, by decide⟩ [595, 0, 0, 0, 0] [(0, 4294967295), (0, 4294967295), (0, 4294967295), (0, 4294967295), (0, 4294967295)] 2147483648 2147484946 rfl (by decide) rfl rfl rfl (74 * 16384 + 19) zymr74 rfl rfl (show 19 < 49 by decide) (Int32.ofNat n) ?_ ?_ ⟨σ, k, n, m, x0, has, hlt, n1, m1, s1, s2, by rw [hEE]; exact i1, fun _ => ⟨by rw [hEE]; exact c1, by rw [hEE]; exact c2, by rw [hEE]; exact c3⟩, fun h => absurd (show 11 ≤ 6 ∨ (8 ≤ 11 ∧ 11 ≤ 10) from h) (by decide), fun h => absurd (show (1 ≤ 11 ∧ 11 ≤ 6) ∨ (8 ≤ 11 ∧ 11 ≤ 10) from h) (by decide), fun h => absurd (show 1 ≤ 11 ∧ 11 ≤ 2 from h) (by decide), fun h => absurd (show 11 ≤ 3 from h) (by decide), fun h => absurd (show 11 = 4 from h) (by decide), fun h => absurd (show 11 = 5 from h) (by decide), fun h => absurd (show 11 = 6 from h) (by decide), fun _ => by rw [hEE]; exact i10 (Or.inl rfl), fun h => absurd (show 11 = 8 from h) (by decide), fun h => absurd (show 11 = 9 from h) (by decide), fun h => absurd (show 11 = 10 from h) (by decide), fun _ => zyρi_e, fun h => absurd (show 11 = 12 from h) (by decide)⟩ ?_
      · show zyEl (zymr r c) B H2 74 19 = _
        rw [hEE]
        exact c1
      · rw [zyBn (by omega)]
        omega
      · show 16 - 11 < 16 - 7
        decide
    · have hx : x ∈ [zxjo_ix0] := hx
      have hg : ∀ k, k < 6 → ρ2 k = ρ k := hag
      have hI := hInv
      have hI : ∃ (σ : Bool) (k n m : Nat) (x : Int32), as = [x] ∧ zLt σ k m x ∧ n ≤ 1298 ∧ m ≤ 8 ∧ (zyEl (zymr r c) B s.heap) 74 19 = some (.int (Int32.ofNat n)) ∧ (zyEl (zymr r c) B s.heap) 74 21 = some (.int (Int32.ofNat m)) ∧ zyIjo 8 σ k n m x (zyEl (zymr r c) B s.heap) ρ (zyEl (zymr r c) B H) := hI
      obtain ⟨hF, hB, hM⟩ := hXs
      have hEE : (zyEl (zymr r c) B H2) = (zyEl (zymr r c) B H) := zyfr0 hfr
      have ex := List.mem_singleton.mp hx
      subst ex
      obtain ⟨σ, k, n, m, x0, has, hlt, n1, m1, s1, s2, i1, i2, i3, i4, i5, i6, i7, i8, i9, i10, i11, i12, i13, i14, i15⟩ := hI
      have hlt1 : k + 1 < m := hlt.1
      obtain ⟨c1, c2, c3⟩ := i2 (by decide)
      have a1 : ρ2 1 = x0 := (hg 1 (by decide)).trans (i3 (by decide))
      have a2 : ρ2 2 = Int32.ofNat k := (hg 2 (by decide)).trans (i4 (by decide))
      obtain ⟨n3, w1, w2, w3⟩ := zyXe hF 0 rfl
      have w1 : Int32.ofNat 19 = Int32.ofNat n3 := w1
      have w3 : zyEl (zymr r c) B H 74 n3 = some (.int (ρ2 6)) := w3
      have en : ρ2 6 = Int32.ofNat n := zyEk w1 (by decide) w2 w3 c1
      obtain ⟨pm, p, r1, r2, r3⟩ := i11 rfl
      have a5 : ρ2 5 = Int32.ofNat p := (hg 5 (by decide)).trans r1
      have b2 : ρ2 2 + Int32.ofNat 1 = Int32.ofNat (k + 1) := by rw [a2, zyOa]
      refine zyCa1 hRu hIH hAt hB hcf (ix := 201) (ax := 3664) rfl rfl rfl hmecf ⟨rfl, rfl, rfl, rfl⟩ (by decide) [206158430209, 68719476745] rfl (by decide) rfl ⟨9, by decide⟩ [595, 34359738369, 68719476737, 171798691841, 0] [(0, 4294967295), (2147483641, 2147483655), (2147483648, 2147483654), (2147483648, 2147483655), (0, 4294967295)] 2147483648 2147483655 rfl (by decide) rfl rfl rfl rfl rfl ?_ ?_
      · show zyΦcf [ρ2 6, ρ2 2 + Int32.ofNat 1] _
        rw [en, b2, hEE]
        obtain ⟨p0, q1, q2⟩ := (pm (k + 1) (by omega)).2
        exact ⟨n, k + 1, rfl, by omega, by omega, p0, by omega, q2⟩
      · intro E3 vo hT3 hΨ
        have hΨ : zyΨcf [ρ2 6, ρ2 2 + Int32.ofNat 1] _ E3 vo := hΨ
        rw [en, b2, hEE] at hΨ
        obtain ⟨e3, q⟩ := hΨ
        subst e3
        obtain ⟨pp, u1, ez, u2, u3⟩ := q n (k + 1) rfl (by omega) (by omega)
        obtain ⟨p0, q1, q2⟩ := (pm (k + 1) (by omega)).2
        have ppm : pp < m := by
          apply Classical.byContradiction
          intro hn
          exact u3 p0 (by omega) q2
        refine ⟨_, ez, ?_, ?_, ⟨σ, k, n, m, x0, has, hlt, n1, m1, s1, s2, i1, fun _ => ⟨c1, c2, c3⟩, fun _ => (zyρi_n (by decide)).trans a1, fun _ => (zyρi_n (by decide)).trans a2, fun h => absurd (show 1 ≤ 9 ∧ 9 ≤ 2 from h) (by decide), fun h => absurd (show 9 ≤ 3 from h) (by decide), fun h => absurd (show 9 = 4 from h) (by decide), fun h => absurd (show 9 = 5 from h) (by decide), fun h => absurd (show 9 = 6 from h) (by decide), fun h => absurd (show 9 = 7 ∨ 9 = 11 from h) (by decide), fun h => absurd (show 9 = 8 from h) (by decide), fun _ => ⟨pm, p, pp, (zyρi_n (by decide)).trans a5, zyρi_e, r2, ppm, r3, u2⟩, fun h => absurd (show 9 = 10 from h) (by decide), fun h => absurd (show 9 = 11 from h) (by decide), fun h => absurd (show 9 = 12 from h) (by decide)⟩, ?_⟩
        · rw [zyBn (by omega)]
          omega
        · rw [zyBn (by omega)]
          omega
        · show 16 - 9 < 16 - 8
          decide
    · have hx : x ∈ [zxjo_jx0] := hx
      have hg : ∀ k, k < 6 → ρ2 k = ρ k := hag
      have hI := hInv
      have hI : ∃ (σ : Bool) (k n m : Nat) (x : Int32), as = [x] ∧ zLt σ k m x ∧ n ≤ 1298 ∧ m ≤ 8 ∧ (zyEl (zymr r c) B s.heap) 74 19 = some (.int (Int32.ofNat n)) ∧ (zyEl (zymr r c) B s.heap) 74 21 = some (.int (Int32.ofNat m)) ∧ zyIjo 9 σ k n m x (zyEl (zymr r c) B s.heap) ρ (zyEl (zymr r c) B H) := hI
      obtain ⟨hF, hB, hM⟩ := hXs
      have hEE : (zyEl (zymr r c) B H2) = (zyEl (zymr r c) B H) := zyfr0 hfr
      have ex := List.mem_singleton.mp hx
      subst ex
      obtain ⟨σ, k, n, m, x0, has, hlt, n1, m1, s1, s2, i1, i2, i3, i4, i5, i6, i7, i8, i9, i10, i11, i12, i13, i14, i15⟩ := hI
      have hlt1 : k + 1 < m := hlt.1
      obtain ⟨c1, c2, c3⟩ := i2 (by decide)
      have a1 : ρ2 1 = x0 := (hg 1 (by decide)).trans (i3 (by decide))
      have a2 : ρ2 2 = Int32.ofNat k := (hg 2 (by decide)).trans (i4 (by decide))
      obtain ⟨n3, w1, w2, w3⟩ := zyXe hF 0 rfl
      have w1 : Int32.ofNat 19 = Int32.ofNat n3 := w1
      have w3 : zyEl (zymr r c) B H 74 n3 = some (.int (ρ2 6)) := w3
      have en : ρ2 6 = Int32.ofNat n := zyEk w1 (by decide) w2 w3 c1
      obtain ⟨pm, p, q, r1, r2, r3, r4, r5, r6⟩ := i12 rfl
      have a3 : ρ2 3 = Int32.ofNat p := (hg 3 (by decide)).trans r1
      have a5 : ρ2 5 = Int32.ofNat q := (hg 5 (by decide)).trans r2
      have b2 : ρ2 2 + Int32.ofNat 1 = Int32.ofNat (k + 1) := by rw [a2, zyOa]
      refine zyCa0 hRu hIH hAt hB hla (ix := 213) (ax := 3632) rfl rfl rfl hmela ⟨rfl, rfl, rfl, rfl⟩ (by decide) [206158430209, 103079215105, 68719476745] rfl (by decide) rfl ⟨10, by decide⟩ [595, 34359738369, 68719476737, 103079215105, 171798691841] rfl rfl rfl rfl ?_ ?_
      · show zyΦla [ρ2 6, ρ2 3, ρ2 2 + Int32.ofNat 1] _
        rw [b2, en, a3]
        exact ⟨n, p, k + 1, rfl, by omega, by omega, by omega⟩
      · intro E3 vo hT3 hΨ
        have hΨ : zyΨla [ρ2 6, ρ2 3, ρ2 2 + Int32.ofNat 1] _ E3 vo := hΨ
        rw [b2, en, a3, hEE] at hΨ
        obtain ⟨ev, hu⟩ := hΨ
        have hu := hu n p (k + 1) rfl (by omega) (by omega) (by omega)
        have e19 := (hu.2 74 19 (fun z => absurd z.1 (by decide))).trans c1
        have e21 := (hu.2 74 21 (fun z => absurd z.1 (by decide))).trans c2
        have br : zBr E3 m n := fun g hg => zPm_congr (fun j hj => by rw [zyrow_up hu (by omega) (by omega) (by omega), if_neg (fun z => absurd z.1 (by omega))]) (c3 g hg)
        refine ⟨ev, ⟨σ, k, n, m, x0, has, hlt, n1, m1, s1, s2, fun a2 k2 p1 p2 p3 => (hu.2 a2 k2 (fun z => p1 z.1)).trans (i1 a2 k2 p1 p2 p3), fun _ => ⟨e19, e21, br⟩, fun _ => a1, fun _ => a2, fun h => absurd (show 1 ≤ 10 ∧ 10 ≤ 2 from h) (by decide), fun h => absurd (show 10 ≤ 3 from h) (by decide), fun h => absurd (show 10 = 4 from h) (by decide), fun h => absurd (show 10 = 5 from h) (by decide), fun h => absurd (show 10 = 6 from h) (by decide), fun h => absurd (show 10 = 7 ∨ 10 = 11 from h) (by decide), fun h => absurd (show 10 = 8 from h) (by decide), fun h => absurd (show 10 = 9 from h) (by decide), fun _ => ⟨p, q, zyrow (zyEl (zymr r c) B H) n, a5, r3, r4, r5, r6, pm, fun j hj => ?_⟩, fun h => absurd (show 10 = 11 from h) (by decide), fun h => absurd (show 10 = 12 from h) (by decide)⟩, ?_⟩
        · rw [zyrow_up hu (by omega) (by omega) (by omega)]
          by_cases e : j = p
          · rw [if_pos ⟨rfl, e⟩, if_pos e]
          · rw [if_neg (fun z => e z.2), if_neg e]
        · show 16 - 10 < 16 - 9
          decide
    · have hx : x ∈ [zxjo_kx0] := hx
      have hg : ∀ k, k < 5 → ρ2 k = ρ k := hag
      have hI := hInv
      have hI : ∃ (σ : Bool) (k n m : Nat) (x : Int32), as = [x] ∧ zLt σ k m x ∧ n ≤ 1298 ∧ m ≤ 8 ∧ (zyEl (zymr r c) B s.heap) 74 19 = some (.int (Int32.ofNat n)) ∧ (zyEl (zymr r c) B s.heap) 74 21 = some (.int (Int32.ofNat m)) ∧ zyIjo 10 σ k n m x (zyEl (zymr r c) B s.heap) ρ (zyEl (zymr r c) B H) := hI
      obtain ⟨hF, hB, hM⟩ := hXs
      have hEE : (zyEl (zymr r c) B H2) = (zyEl (zymr r c) B H) := zyfr0 hfr
      have ex := List.mem_singleton.mp hx
      subst ex
      obtain ⟨σ, k, n, m, x0, has, hlt, n1, m1, s1, s2, i1, i2, i3, i4, i5, i6, i7, i8, i9, i10, i11, i12, i13, i14, i15⟩ := hI
      have hlt1 : k + 1 < m := hlt.1
      obtain ⟨c1, c2, c3⟩ := i2 (by decide)
      have a1 : ρ2 1 = x0 := (hg 1 (by decide)).trans (i3 (by decide))
      have a2 : ρ2 2 = Int32.ofNat k := (hg 2 (by decide)).trans (i4 (by decide))
      obtain ⟨n3, w1, w2, w3⟩ := zyXe hF 0 rfl
      have w1 : Int32.ofNat 19 = Int32.ofNat n3 := w1
      have w3 : zyEl (zymr r c) B H 74 n3 = some (.int (ρ2 5)) := w3
      have en : ρ2 5 = Int32.ofNat n := zyEk w1 (by decide) w2 w3 c1
      obtain ⟨p, q, g, r1, r2, r3, r4, r5, r6, r7⟩ := i13 rfl
      have a4 : ρ2 4 = Int32.ofNat q := (hg 4 (by decide)).trans r1
      refine zyCaK hRu hIH hAt hB hla (ix := 213) (ax := 3632) rfl rfl rfl hmela ⟨rfl, rfl, rfl, rfl⟩ (by decide) [171798691841, 137438953473, 68719476737] rfl (by decide) rfl ⟨11, by decide⟩ [595, 0, 0, 0, 0] [(0, 4294967295), (0, 4294967295), (0, 4294967295), (0, 4294967295), (0, 4294967295)] 2147483648 2147484946 rfl (by decide) rfl rfl rfl (74 * 16384 + 19) zymr74 rfl rfl (show 19 < 49 by decide) ?_ ?_
      · show zyΦla [ρ2 5, ρ2 4, ρ2 2] _
        rw [en, a4, a2]
        exact ⟨n, q, k, rfl, by omega, by omega, by omega⟩
      · intro E3 vo hT3 hΨ
        have hΨ : zyΨla [ρ2 5, ρ2 4, ρ2 2] _ E3 vo := hΨ
        rw [en, a4, a2, hEE] at hΨ
        obtain ⟨ev, hu⟩ := hΨ
        have hu := hu n q k rfl (by omega) (by omega) (by omega)
        have e19 := (hu.2 74 19 (fun z => absurd z.1 (by decide))).trans c1
        have e21 := (hu.2 74 21 (fun z => absurd z.1 (by decide))).trans c2
        have br : zBr E3 m n := fun g hg => zPm_congr (fun j hj => by rw [zyrow_up hu (by omega) (by omega) (by omega), if_neg (fun z => absurd z.1 (by omega))]) (c3 g hg)
        have pm : zPm (zyrow E3 n) m := zPm_ch (g := g) (p := p) (q := q) (a := k) (b := k + 1) r2 r3 (by omega) (by omega) (by omega) r4 r5 r6 (fun j hj => by
          rw [zyrow_up hu (by omega) (by omega) (by omega), r7 j hj]
          by_cases e : j = q
          · rw [if_pos ⟨rfl, e⟩, if_pos e]
          · rw [if_neg (fun z => e z.2), if_neg e])
        refine ⟨ev, Int32.ofNat n, e19, ?_, ⟨σ, k, n, m, x0, has, hlt, n1, m1, s1, s2, fun a2 k2 p1 p2 p3 => (hu.2 a2 k2 (fun z => p1 z.1)).trans (i1 a2 k2 p1 p2 p3), fun _ => ⟨e19, e21, br⟩, fun h => absurd (show 11 ≤ 6 ∨ (8 ≤ 11 ∧ 11 ≤ 10) from h) (by decide), fun h => absurd (show (1 ≤ 11 ∧ 11 ≤ 6) ∨ (8 ≤ 11 ∧ 11 ≤ 10) from h) (by decide), fun h => absurd (show 1 ≤ 11 ∧ 11 ≤ 2 from h) (by decide), fun h => absurd (show 11 ≤ 3 from h) (by decide), fun h => absurd (show 11 = 4 from h) (by decide), fun h => absurd (show 11 = 5 from h) (by decide), fun h => absurd (show 11 = 6 from h) (by decide), fun _ => pm, fun h => absurd (show 11 = 8 from h) (by decide), fun h => absurd (show 11 = 9 from h) (by decide), fun h => absurd (show 11 = 10 from h) (by decide), fun _ => zyρi_e, fun h => absurd (show 11 = 12 from h) (by decide)⟩, ?_⟩
        · rw [zyBn (by omega)]
          omega
        · show 16 - 11 < 16 - 10
          decide
    · have hx : x ∈ [zxjo_lx0] := hx
      have hg : ∀ k, k < 6 → ρ2 k = ρ k := hag
      have hI := hInv
      have hI : ∃ (σ : Bool) (k n m : Nat) (x : Int32), as = [x] ∧ zLt σ k m x ∧ n ≤ 1298 ∧ m ≤ 8 ∧ (zyEl (zymr r c) B s.heap) 74 19 = some (.int (Int32.ofNat n)) ∧ (zyEl (zymr r c) B s.heap) 74 21 = some (.int (Int32.ofNat m)) ∧ zyIjo 11 σ k n m x (zyEl (zymr r c) B s.heap) ρ (zyEl (zymr r c) B H) := hI
      obtain ⟨hF, hB, hM⟩ := hXs
      have hfr : ∀ a k, zyin [(74, 19, 19)] a k = false → (zyEl (zymr r c) B H2) a k = (zyEl (zymr r c) B H) a k := hfr
      have ex := List.mem_singleton.mp hx
      subst ex
      obtain ⟨σ, k, n, m, x0, has, hlt, n1, m1, s1, s2, i1, i2, i3, i4, i5, i6, i7, i8, i9, i10, i11, i12, i13, i14, i15⟩ := hI
      have hlt1 : k + 1 < m := hlt.1
      obtain ⟨c1, c2, c3⟩ := i2 (by decide)
      have a5 : ρ2 5 = Int32.ofNat n := (hg 5 (by decide)).trans (i14 rfl)
      have m2 := zyXm hM 0 rfl
      have m2 : zyEl (zymr r c) B H2 74 19 = some (.int (ρ2 5 + Int32.ofNat 1)) := m2
      rw [a5, zyOa] at m2
      have hk := zyfr1 hfr
      have e21 := (hk 74 21 (fun z => absurd z.2 (by decide))).trans c2
      have br : zBr (zyEl (zymr r c) B H2) m (n + 1) := fun f hf => zPm_congr (fun j hj => zyrow_eq (hk 81 _ (fun z => absurd z.1 (by decide)))) (by
        by_cases e : f = n
        · rw [e]
          exact i10 (Or.inr rfl)
        · exact c3 f (by omega))
      refine zyCa0 hRu hIH hAt hB hse (ix := 239) (ax := 3776) rfl rfl rfl hmese ⟨rfl, rfl, rfl, rfl⟩ (by decide) [] rfl (by decide) rfl ⟨12, by decide⟩ [595, 0, 0, 0, 0] rfl rfl rfl rfl ?_ ?_
      · show zyΦse [] _
        exact ⟨rfl, n + 1, m, by omega, m1, m2, e21, br⟩
      · intro E3 vo hT3 hΨ
        obtain ⟨ev, hq⟩ := (show zyΨse [] _ E3 vo from hΨ)
        obtain ⟨n', q1, q2, q3, q4⟩ := hq (n + 1) m (by omega) m1 m2 e21
        refine ⟨ev, ⟨σ, k, n, m, x0, has, hlt, n1, m1, s1, s2, fun a2 k2 p1 p2 p3 => (q4 a2 k2 p1 p3).trans ((hk a2 k2 (fun z => p3 ⟨z.1, Or.inl z.2⟩)).trans (i1 a2 k2 p1 p2 p3)), fun h => absurd (show 12 ≤ 11 from h) (by decide), fun h => absurd (show 12 ≤ 6 ∨ (8 ≤ 12 ∧ 12 ≤ 10) from h) (by decide), fun h => absurd (show (1 ≤ 12 ∧ 12 ≤ 6) ∨ (8 ≤ 12 ∧ 12 ≤ 10) from h) (by decide), fun h => absurd (show 1 ≤ 12 ∧ 12 ≤ 2 from h) (by decide), fun h => absurd (show 12 ≤ 3 from h) (by decide), fun h => absurd (show 12 = 4 from h) (by decide), fun h => absurd (show 12 = 5 from h) (by decide), fun h => absurd (show 12 = 6 from h) (by decide), fun h => absurd (show 12 = 7 ∨ 12 = 11 from h) (by decide), fun h => absurd (show 12 = 8 from h) (by decide), fun h => absurd (show 12 = 9 from h) (by decide), fun h => absurd (show 12 = 10 from h) (by decide), fun h => absurd (show 12 = 11 from h) (by decide), fun _ => ⟨n', q1, q2, q3⟩⟩, ?_⟩
        show 16 - 12 < 16 - 11
        decide
    · cases hx
  · intro as E0 E E2 hT0 hΦ hlen i ρ hT hInv x hx ρ2 N2 B vo hXs hag hfr hT2 hvo
    rcases i with ⟨i, hi⟩
    have hi2 : i = 0 ∨ i = 1 ∨ i = 2 ∨ i = 3 ∨ i = 4 ∨ i = 5 ∨ i = 6 ∨ i = 7 ∨ i = 8 ∨ i = 9 ∨ i = 10 ∨ i = 11 ∨ i = 12 := by omega
    rcases hi2 with rfl | rfl | rfl | rfl | rfl | rfl | rfl | rfl | rfl | rfl | rfl | rfl | rfl
    · cases hx
    · cases hx
    · cases hx
    · cases hx
    · cases hx
    · cases hx
    · cases hx
    · cases hx
    · cases hx
    · cases hx
    · cases hx
    · cases hx
    · have hx : x ∈ [zxjo_mr0] := hx
      have hg : ∀ k, k < 5 → ρ2 k = ρ k := hag
      have hI := hInv
      have hI : ∃ (σ : Bool) (k n m : Nat) (x : Int32), as = [x] ∧ zLt σ k m x ∧ n ≤ 1298 ∧ m ≤ 8 ∧ E0 74 19 = some (.int (Int32.ofNat n)) ∧ E0 74 21 = some (.int (Int32.ofNat m)) ∧ zyIjo 12 σ k n m x E0 ρ E := hI
      obtain ⟨hF, hB, hM⟩ := hXs
      have hEE : E2 = E := zyfr0 hfr
      have ex := List.mem_singleton.mp hx
      subst ex
      obtain ⟨σ, k, n, m, x0, has, hlt, n1, m1, s1, s2, i1, i2, i3, i4, i5, i6, i7, i8, i9, i10, i11, i12, i13, i14, i15⟩ := hI
      have hlt1 : k + 1 < m := hlt.1
      obtain ⟨n', q1, q2, q3⟩ := i15 rfl
      refine ⟨zyvo_0 (show zyvo _ [] vo from hvo), fun n2 m2 d1 d2 d3 d4 => ?_⟩
      rw [s1] at d3
      rw [s2] at d4
      have e1 := zyOi (by omega) (by omega) (Value.int.inj (Option.some.inj d3))
      have e2 := zyOi (by omega) (by omega) (Value.int.inj (Option.some.inj d4))
      subst e1
      subst e2
      rw [hEE]
      exact ⟨n', q1, q2, q3, i1⟩
end
section
/-! phases: joinsWord .. canBeWished (printed by yex5.py) -/
noncomputable def zxjw_ax0 : zyXp := (2, [595, 34359738369, 68719476737, 0, 13], [], [], [], [])
noncomputable def zpjw_a : zyPh := (0, [595, 34359738369, 68719476737, 13, 13], [(0, 4294967295), (0, 4294967295), (0, 4294967295), (0, 4294967295), (0, 4294967295)], [], [])
noncomputable def zxjw_bx0 : zyXp := (37, [595, 34359738369, 68719476737, 103079215105, 13], [206158430209, 1280, 603], [(24, 171798691841, 75, 32), (20, 0, 103079215105, 171798691841), (23, 0, 34359738369, 0), (2, 206158430209, 206158430201, 103079215105)], [(34359738369, 2147483649, 4294967295), (103079215105, 2147483648, 2147483947), (171798691841, 2147483649, 2147483948), (206158430209, 2147483349, 2147483947)], [])
noncomputable def zxjw_bx1 : zyXp := (37, [595, 34359738369, 68719476737, 103079215105, 13], [206158430209, 1280, 603], [(24, 171798691841, 75, 32), (20, 0, 103079215105, 171798691841), (23, 0, 34359738369, 0), (2, 206158430209, 206158430201, 103079215105)], [(34359738369, 0, 2147483647), (103079215105, 2147483648, 2147483947), (171798691841, 2147483649, 2147483948), (206158430209, 2147483349, 2147483947)], [])
noncomputable def zxjw_bx2 : zyXp := (37, [595, 34359738369, 68719476737, 103079215105, 13], [103079215105, 1280, 603], [(24, 171798691841, 75, 32), (20, 0, 103079215105, 171798691841), (22, 0, 34359738369, 0)], [(34359738369, 2147483648, 2147483648), (103079215105, 2147483648, 2147483947), (171798691841, 2147483649, 2147483948)], [])
noncomputable def zxjw_br0 : zyXp := (0, [], [], [(24, 171798691841, 75, 32), (21, 0, 103079215105, 171798691841)], [(103079215105, 2147483648, 2147483948), (171798691841, 2147483648, 2147483948)], [])
noncomputable def zpjw_b : zyPh := (2, [595, 34359738369, 68719476737, 103079215105, 13], [(0, 4294967295), (0, 4294967295), (0, 4294967295), (2147483648, 2147483948), (0, 4294967295)], [], [])
noncomputable def zxjw_dx0 : zyXp := (55, [595, 34359738369, 68719476737, 103079215105, 13], [240518168577, 595], [(24, 206158430209, 75, 171798693121), (23, 0, 68719476737, 0), (2, 240518168577, 0, 206158430209)], [(68719476737, 2147483649, 4294967295), (103079215105, 2147483648, 2147483947), (171798691841, 2147483648, 2147483947), (206158430209, 2147483641, 2147483655), (240518168577, 2147483641, 2147483655)], [])
noncomputable def zxjw_dx1 : zyXp := (55, [595, 34359738369, 68719476737, 103079215105, 13], [240518168577, 595], [(24, 206158430209, 75, 171798693121), (23, 0, 68719476737, 0), (2, 240518168577, 0, 206158430209)], [(68719476737, 0, 2147483647), (103079215105, 2147483648, 2147483947), (171798691841, 2147483648, 2147483947), (206158430209, 2147483641, 2147483655), (240518168577, 2147483641, 2147483655)], [])
noncomputable def zxjw_dx2 : zyXp := (55, [595, 34359738369, 68719476737, 103079215105, 13], [206158430209, 595], [(24, 206158430209, 75, 171798693121), (22, 0, 68719476737, 0)], [(68719476737, 2147483648, 2147483648), (103079215105, 2147483648, 2147483947), (171798691841, 2147483648, 2147483947), (206158430209, 2147483641, 2147483655)], [])
noncomputable def zpjw_d : zyPh := (37, [595, 34359738369, 68719476737, 103079215105, 13], [(0, 4294967295), (0, 4294967295), (0, 4294967295), (2147483648, 2147483947), (0, 4294967295), (2147483648, 2147483947)], [], [171798691841, 1280, 603])
noncomputable def zxjw_cx0 : zyXp := (2, [595, 34359738369, 68719476737, 103079215113, 13], [], [], [(103079215105, 2147483648, 2147483947), (103079215113, 2147483649, 2147483948)], [])
noncomputable def zpjw_c : zyPh := (58, [595, 34359738369, 68719476737, 103079215105, 13], [(0, 4294967295), (0, 4294967295), (0, 4294967295), (2147483648, 2147483947), (0, 4294967295)], [], [])
noncomputable def zpjw (i : Nat) : zyPh := zif (Nat.beq i 0) (zpjw_a) (zif (Nat.beq i 1) (zpjw_b) (zif (Nat.beq i 2) (zpjw_d) (zpjw_c)))
noncomputable def zXjw (i : Nat) : List zyXp := zif (Nat.beq i 0) ([zxjw_ax0]) (zif (Nat.beq i 1) ([zxjw_bx0, zxjw_bx1, zxjw_bx2]) (zif (Nat.beq i 2) ([zxjw_dx0, zxjw_dx1, zxjw_dx2]) ([zxjw_cx0])))
noncomputable def zRjw (i : Nat) : List zyXp := zif (Nat.beq i 0) ([]) (zif (Nat.beq i 1) ([zxjw_br0]) (zif (Nat.beq i 2) ([]) ([])))
noncomputable def zFjw (i : Nat) : zyR := zif (Nat.beq i 0) ([]) (zif (Nat.beq i 1) ([]) (zif (Nat.beq i 2) ([]) ([])))
noncomputable def zSjw (i : Nat) : Nat := zif (Nat.beq i 0) (0) (zif (Nat.beq i 1) (0) (zif (Nat.beq i 2) (0) (0)))
noncomputable def zxjd_ax0 : zyXp := (2, [595, 0], [], [], [], [])
noncomputable def zpjd_a : zyPh := (0, [595, 13], [(0, 4294967295), (0, 4294967295)], [], [])
noncomputable def zxjd_bx0 : zyXp := (23, [595, 34359738369], [103079215105, 595], [(24, 68719476737, 75, 40), (20, 0, 34359738369, 68719476737), (24, 103079215105, 75, 34359742049)], [(34359738369, 2147483648, 2147483707), (68719476737, 2147483649, 2147483708), (103079215105, 2147483641, 2147483655)], [])
noncomputable def zxjd_br0 : zyXp := (0, [], [], [(24, 68719476737, 75, 40), (21, 0, 34359738369, 68719476737)], [(34359738369, 2147483648, 2147483708), (68719476737, 2147483647, 2147483708)], [])
noncomputable def zpjd_b : zyPh := (2, [595, 34359738369], [(0, 4294967295), (2147483648, 2147483708)], [], [])
noncomputable def zxjd_cx0 : zyXp := (2, [595, 34359738377], [], [], [(34359738369, 2147483648, 2147483707), (34359738377, 2147483649, 2147483708)], [])
noncomputable def zpjd_c : zyPh := (26, [595, 34359738369], [(0, 4294967295), (2147483648, 2147483707)], [], [])
noncomputable def zpjd (i : Nat) : zyPh := zif (Nat.beq i 0) (zpjd_a) (zif (Nat.beq i 1) (zpjd_b) (zpjd_c))
noncomputable def zXjd (i : Nat) : List zyXp := zif (Nat.beq i 0) ([zxjd_ax0]) (zif (Nat.beq i 1) ([zxjd_bx0]) ([zxjd_cx0]))
noncomputable def zRjd (i : Nat) : List zyXp := zif (Nat.beq i 0) ([]) (zif (Nat.beq i 1) ([zxjd_br0]) ([]))
noncomputable def zFjd (i : Nat) : zyR := zif (Nat.beq i 0) ([]) (zif (Nat.beq i 1) ([]) ([]))
noncomputable def zSjd (i : Nat) : Nat := zif (Nat.beq i 0) (0) (zif (Nat.beq i 1) (0) (0))
noncomputable def zxud_ax0 : zyXp := (9, [595, 103079215097], [], [(24, 68719476737, 75, 40)], [(68719476737, 2147483647, 2147483708), (103079215097, 2147483646, 2147483707)], [])
noncomputable def zpud_a : zyPh := (0, [595, 13], [(0, 4294967295), (0, 4294967295)], [], [])
noncomputable def zxud_bx0 : zyXp := (26, [595, 34359738369], [103079215105, 595], [(21, 0, 34359738369, 0), (24, 68719476737, 75, 34359742049), (2, 103079215105, 0, 68719476737)], [(34359738369, 2147483648, 2147483707), (68719476737, 2147483641, 2147483655), (103079215105, 2147483641, 2147483655)], [])
noncomputable def zxud_br0 : zyXp := (0, [], [], [(20, 0, 34359738369, 0)], [(34359738369, 2147483646, 2147483647)], [])
noncomputable def zpud_b : zyPh := (9, [595, 34359738369], [(0, 4294967295), (2147483646, 2147483707)], [], [])
noncomputable def zxud_cx0 : zyXp := (9, [595, 68719476729], [], [], [(34359738369, 2147483648, 2147483707), (68719476729, 2147483647, 2147483706)], [])
noncomputable def zpud_c : zyPh := (29, [595, 34359738369], [(0, 4294967295), (2147483648, 2147483707)], [], [])
noncomputable def zpud (i : Nat) : zyPh := zif (Nat.beq i 0) (zpud_a) (zif (Nat.beq i 1) (zpud_b) (zpud_c))
noncomputable def zXud (i : Nat) : List zyXp := zif (Nat.beq i 0) ([zxud_ax0]) (zif (Nat.beq i 1) ([zxud_bx0]) ([zxud_cx0]))
noncomputable def zRud (i : Nat) : List zyXp := zif (Nat.beq i 0) ([]) (zif (Nat.beq i 1) ([zxud_br0]) ([]))
noncomputable def zFud (i : Nat) : zyR := zif (Nat.beq i 0) ([]) (zif (Nat.beq i 1) ([]) ([]))
noncomputable def zSud (i : Nat) : Nat := zif (Nat.beq i 0) (0) (zif (Nat.beq i 1) (0) (0))
noncomputable def zxuw_ax0 : zyXp := (9, [595, 103079215097], [], [(24, 68719476737, 75, 32)], [(68719476737, 2147483648, 2147483948), (103079215097, 2147483647, 2147483947)], [])
noncomputable def zpuw_a : zyPh := (0, [595, 13], [(0, 4294967295), (0, 4294967295)], [], [])
noncomputable def zxuw_bx0 : zyXp := (26, [595, 34359738369], [103079215105, 595], [(21, 0, 34359738369, 0), (24, 68719476737, 75, 34359739649), (2, 103079215105, 0, 68719476737)], [(34359738369, 2147483648, 2147483947), (68719476737, 2147483641, 2147483655), (103079215105, 2147483641, 2147483655)], [])
noncomputable def zxuw_br0 : zyXp := (0, [], [], [(20, 0, 34359738369, 0)], [(34359738369, 2147483647, 2147483647)], [])
noncomputable def zpuw_b : zyPh := (9, [595, 34359738369], [(0, 4294967295), (2147483647, 2147483947)], [], [])
noncomputable def zxuw_cx0 : zyXp := (9, [595, 68719476729], [], [], [(34359738369, 2147483648, 2147483947), (68719476729, 2147483647, 2147483946)], [])
noncomputable def zpuw_c : zyPh := (29, [595, 34359738369], [(0, 4294967295), (2147483648, 2147483947)], [], [])
noncomputable def zpuw (i : Nat) : zyPh := zif (Nat.beq i 0) (zpuw_a) (zif (Nat.beq i 1) (zpuw_b) (zpuw_c))
noncomputable def zXuw (i : Nat) : List zyXp := zif (Nat.beq i 0) ([zxuw_ax0]) (zif (Nat.beq i 1) ([zxuw_bx0]) ([zxuw_cx0]))
noncomputable def zRuw (i : Nat) : List zyXp := zif (Nat.beq i 0) ([]) (zif (Nat.beq i 1) ([zxuw_br0]) ([]))
noncomputable def zFuw (i : Nat) : zyR := zif (Nat.beq i 0) ([]) (zif (Nat.beq i 1) ([]) ([]))
noncomputable def zSuw (i : Nat) : Nat := zif (Nat.beq i 0) (0) (zif (Nat.beq i 1) (0) (0))
noncomputable def zxcw_ax0 : zyXp := (2, [595, 0, 13], [], [], [], [])
noncomputable def zpcw_a : zyPh := (0, [595, 13, 13], [(0, 4294967295), (0, 4294967295), (0, 4294967295)], [], [])
noncomputable def zxcw_bx0 : zyXp := (2, [595, 34359738377, 13], [], [(24, 103079215105, 75, 40), (20, 0, 34359738369, 103079215105), (24, 137438953473, 75, 34359742049), (20, 0, 137438953473, 0), (2, 171798691841, 0, 137438953473), (24, 206158430209, 75, 16), (20, 0, 171798691841, 206158430209)], [(34359738369, 2147483648, 2147483707), (103079215105, 2147483649, 2147483708), (137438953473, 2147483641, 2147483647), (171798691841, 2147483649, 2147483655), (206158430209, 2147483650, 2147483656), (34359738377, 2147483649, 2147483708)], [])
noncomputable def zxcw_bx1 : zyXp := (2, [595, 34359738377, 13], [], [(24, 103079215105, 75, 40), (20, 0, 34359738369, 103079215105), (24, 137438953473, 75, 34359742049), (21, 0, 137438953473, 0), (24, 171798691841, 75, 16), (20, 0, 137438953473, 171798691841)], [(34359738369, 2147483648, 2147483707), (103079215105, 2147483649, 2147483708), (137438953473, 2147483648, 2147483655), (171798691841, 2147483649, 2147483656), (34359738377, 2147483649, 2147483708)], [])
noncomputable def zxcw_br0 : zyXp := (0, [], [0], [(24, 103079215105, 75, 40), (20, 0, 34359738369, 103079215105), (24, 137438953473, 75, 34359742049), (20, 0, 137438953473, 0), (2, 171798691841, 0, 137438953473), (24, 206158430209, 75, 16), (21, 0, 171798691841, 206158430209)], [(34359738369, 2147483648, 2147483707), (103079215105, 2147483649, 2147483708), (137438953473, 2147483641, 2147483647), (171798691841, 2147483649, 2147483655), (206158430209, 2147483648, 2147483655)], [])
noncomputable def zxcw_br1 : zyXp := (0, [], [0], [(24, 103079215105, 75, 40), (20, 0, 34359738369, 103079215105), (24, 137438953473, 75, 34359742049), (21, 0, 137438953473, 0), (24, 171798691841, 75, 16), (21, 0, 137438953473, 171798691841)], [(34359738369, 2147483648, 2147483707), (103079215105, 2147483649, 2147483708), (137438953473, 2147483648, 2147483655), (171798691841, 2147483648, 2147483655)], [])
noncomputable def zxcw_br2 : zyXp := (0, [], [8], [(24, 103079215105, 75, 40), (21, 0, 34359738369, 103079215105)], [(34359738369, 2147483648, 2147483708), (103079215105, 2147483647, 2147483708)], [])
noncomputable def zpcw_b : zyPh := (2, [595, 34359738369, 13], [(0, 4294967295), (2147483648, 2147483708), (0, 4294967295)], [], [])
noncomputable def zpcw (i : Nat) : zyPh := zif (Nat.beq i 0) (zpcw_a) (zpcw_b)
noncomputable def zXcw (i : Nat) : List zyXp := zif (Nat.beq i 0) ([zxcw_ax0]) ([zxcw_bx0, zxcw_bx1])
noncomputable def zRcw (i : Nat) : List zyXp := zif (Nat.beq i 0) ([]) ([zxcw_br0, zxcw_br1, zxcw_br2])
noncomputable def zFcw (i : Nat) : zyR := zif (Nat.beq i 0) ([]) ([])
noncomputable def zScw (i : Nat) : Nat := zif (Nat.beq i 0) (0) (0)
end
section
/-! WORDS OF LETTERS come behind -/
def zVl (m : Nat) (x : Int32) : Prop := ∃ (σ : Bool) (k : Nat), zLt σ k m x
theorem zVl_neg {m : Nat} {x : Int32} (hm : m ≤ 8) (h : zVl m x) : zVl m (Int32.ofNat 0 - x) := by
  obtain ⟨σ, k, h1, ⟨-, h2⟩ | ⟨-, h2⟩⟩ := h
  · refine ⟨false, k, h1, Or.inr ⟨rfl, ?_⟩⟩
    rw [h2]
    apply zN_inj
    rw [zN_sub, zN_of, zN_of, zN_of]
    omega
  · exact ⟨true, k, h1, Or.inl ⟨rfl, by rw [h2, zyOng (by omega)]⟩⟩
def zBs (E : zyEm) (n m : Nat) : Prop := n ≤ 1299 ∧ m ≤ 8 ∧ E 74 19 = some (.int (Int32.ofNat n)) ∧ E 74 21 = some (.int (Int32.ofNat m)) ∧ E 75 2 = some (.int (Int32.ofNat m)) ∧ zBr E m n
theorem zBs_m {E : zyEm} {n m n' m' : Nat} (h : zBs E n m) (h' : zBs E n' m') : n = n' ∧ m = m' := by
  obtain ⟨h1, h2, h3, h4, -⟩ := h
  obtain ⟨g1, g2, g3, g4, -⟩ := h'
  rw [h3] at g3
  rw [h4] at g4
  exact ⟨zyOi (by omega) (by omega) (Value.int.inj (Option.some.inj g3)), zyOi (by omega) (by omega) (Value.int.inj (Option.some.inj g4))⟩
theorem zBs_jo {E E3 : zyEm} {n m : Nat} {x : Int32} {vo : Option Value} (h : zBs E n m) (hn : n ≤ 1298) (hΨ : zyΨjo [x] E E3 vo) : vo = none ∧ ∃ n', n' ≤ n + 1 ∧ zBs E3 n' m ∧ zyJo E E3 := by
  obtain ⟨h1, h2, h3, h4, h5, h6⟩ := h
  obtain ⟨ev, hq⟩ := hΨ
  obtain ⟨n', q1, q2, q3, q4⟩ := hq n m hn h2 h3 h4
  exact ⟨ev, n', q1, ⟨by omega, h2, q2, (q4 74 21 (by decide) (by decide) (fun z => absurd z.2 (by decide))).trans h4, (q4 75 2 (by decide) (by decide) (fun z => absurd z.1 (by decide))).trans h5, q3⟩, q4⟩
theorem zBs_Φ {E : zyEm} {n m : Nat} {x : Int32} (h : zBs E n m) (hn : n ≤ 1298) (hv : zVl m x) : zyΦjo [x] E := by
  obtain ⟨h1, h2, h3, h4, h5, h6⟩ := h
  obtain ⟨σ, k, hk⟩ := hv
  exact ⟨σ, k, n, m, x, rfl, hk, hn, h2, h3, h4, h6⟩
theorem zyJo_t {E E2 E3 : zyEm} (h1 : zyJo E E2) (h2 : zyJo E2 E3) : zyJo E E3 := fun a k p1 p2 p3 => (h2 a k p1 p2 p3).trans (h1 a k p1 p2 p3)
theorem zyJo_75 {E E2 : zyEm} (h : zyJo E E2) (k : Nat) : zyI E2 75 k = zyI E 75 k := zyI_eq (h 75 k (by decide) (by decide) (fun z => absurd z.1 (by decide)))
theorem zyI_s {E : zyEm} {a k : Nat} {x : Int32} (h : E a k = some (.int x)) : zyI E a k = x := by
  unfold zyI
  rw [h]
theorem zyBd {x : Int32} (h : 1 ≤ zB x) : zB (x + Int32.ofNat 4294967295) = zB x - 1 := by
  have e1 := zB_eq x
  have e2 := zB_eq (x + Int32.ofNat 4294967295)
  rw [zN_add, zN_of] at e2
  have l1 := x.toBitVec.isLt
  omega
/-- letters of the word; of the wished one -/
def zLv (E : zyEm) (m : Nat) : Prop := ∀ k, k < 300 → Int32.ofNat k < zyI E 75 4 → zVl m (zyI E 75 (160 + k))
def zWl (E : zyEm) (m : Nat) : Prop := ∀ k, k < 60 → Int32.ofNat k < zyI E 75 5 → zVl m (zyI E 75 (460 + k))
theorem zLv_jo {E E2 : zyEm} {m : Nat} (h : zyJo E E2) (hv : zLv E m) : zLv E2 m := fun k hk h2 => by
  rw [zyJo_75 h] at h2 ⊢
  exact hv k hk h2
theorem zWl_jo {E E2 : zyEm} {m : Nat} (h : zyJo E E2) (hv : zWl E m) : zWl E2 m := fun k hk h2 => by
  rw [zyJo_75 h] at h2 ⊢
  exact hv k hk h2
def zyΦwd (U : Nat) (V : zyEm → Nat → Prop) (_ : List Int32) (E : zyEm) : Prop := ∃ n m : Nat, zBs E n m ∧ n + U ≤ 1299 ∧ V E m
def zyΨwd (U : Nat) (_ : List Int32) (E E2 : zyEm) (vo : Option Value) : Prop := vo = none ∧ zyJo E E2 ∧ ∀ n m : Nat, zBs E n m → n + U ≤ 1299 → ∃ n', n' ≤ n + U ∧ zBs E2 n' m
section YGO7
variable {l : Launch} {mi : zyB} {en : zEn} {dep : Nat} {B : zCx} {s : State} {ι : Type} {φ : ι → zyPh} {Inv : ι → (Nat → Int32) → zyEm → Prop} {Mu : ι → (Nat → Int32) → zyEm → Nat} {M : Nat} {Wg : zyWt} {x : zyXp} {ρ2 : Nat → Int32} {N : Nat} {H : Heap} {locs : List Loc} {lsB : Array Slot} {stA : List Value}
noncomputable def zygoT (cs : List Nat) (n : Nat) (st2 : List Nat) : List Nat → Bool := List.rec (motive := fun _ => List Nat → Bool) (fun st1 => zynil st1) (fun c2 _ ih st1 => List.rec (motive := fun _ => Bool) false (fun c1 t _ => zand (zif (zand (Nat.beq c1 c2) (zif (Nat.beq (Nat.mod c1 8) 0) true (Nat.beq (Nat.mod c1 8) 3))) true (zand (Nat.beq c2 (zysym (Nat.div c2 34359738368))) (zand (Nat.beq (zyag cs (Nat.div c2 34359738368)) c1) (zand (zyk1b c1) (Nat.ble (Nat.succ (Nat.div c2 34359738368)) n))))) (ih t)) st1) st2
theorem zygoT_iff {cs : List Nat} {n : Nat} {ρ : Nat → Int32} {N : Nat} : ∀ {st2 st1 : List Nat} {vs : List Value}, zygoT cs n st2 st1 = true → zySt (zyXn B ρ N) st1 vs → zySt (zyXn B (fun k => zyw ρ (zyag cs k)) n) st2 vs := by
  intro st2
  induction st2 with
  | nil =>
    intro st1 vs h hs
    cases st1 with
    | nil => rw [zySt_n hs]; trivial
    | cons a t => cases h
  | cons c2 t2 ih =>
    intro st1 vs h hs
    cases st1 with
    | nil => cases h
    | cons c1 t1 =>
      obtain ⟨v, u, rfl, g1, g2⟩ := zySt_c hs
      have h : zand (zif (zand (Nat.beq c1 c2) (zif (Nat.beq (Nat.mod c1 8) 0) true (Nat.beq (Nat.mod c1 8) 3))) true (zand (Nat.beq c2 (zysym (Nat.div c2 34359738368))) (zand (Nat.beq (zyag cs (Nat.div c2 34359738368)) c1) (zand (zyk1b c1) (Nat.ble (Nat.succ (Nat.div c2 34359738368)) n))))) (zygoT cs n t2 t1) = true := h
      obtain ⟨h1, h2⟩ := zand_iff h
      refine ⟨?_, ih h2 g2⟩
      rcases zif_iff h1 with ⟨q, -⟩ | ⟨-, q⟩
      · obtain ⟨q1, q2⟩ := zand_iff q
        have q1 := zbeqT q1
        have q3 : c1 % 8 = 0 ∨ c1 % 8 = 3 := by
          rcases zif_iff q2 with ⟨q, -⟩ | ⟨-, q⟩
          · exact Or.inl (zbeqT q)
          · exact Or.inr (zbeqT q)
        rw [← q1]
        exact zyv_cl (by omega) g1
      · obtain ⟨q1, q⟩ := zand_iff q
        obtain ⟨q2, q⟩ := zand_iff q
        obtain ⟨q3, q4⟩ := zand_iff q
        have q1 := zbeqT q1
        have q2 := zbeqT q2
        have q4 := zbleT q4
        have g1 : zyv ρ N (zad B) c1 v := g1
        obtain ⟨z, rfl⟩ := zyv_int g1 (by have := zbleT q3; have : c1 % 8 ≤ 1 := this; omega)
        rw [q1]
        refine zyv_sym q4 ?_
        show zyw ρ (zyag cs _) = z
        rw [q2]
        exact (zyw_of g1 (zbleT q3)).symm
/-- with a stack -/
theorem zyGoS {nL : Nat} (hIH : zyIH mi nL B s φ Inv Mu M Wg) (hAt : zyAt mi B s nL x ρ2 N H locs lsB stA) (i2 : ι) (cs : List Nat) (hpc : x.1 = (φ i2).1) (hchk : zand (zygoB nL x.2.1 (φ i2) cs) (zygoT cs (zyln (φ i2).2.2.1) (φ i2).2.2.2.2 x.2.2.1) = true) (hkc : (φ i2).2.2.2.1 = []) (henv : zEnv (fun k => zyw ρ2 (zyag cs k)) (φ i2).2.2.1)
    (hInv : Inv i2 (fun k => zyw ρ2 (zyag cs k)) (zyEl mi B H)) (hMu : Mu i2 (fun k => zyw ρ2 (zyag cs k)) (zyEl mi B H) < M) : Wg H locs x.1 lsB stA := by
  obtain ⟨h1, h2⟩ := zand_iff hchk
  rw [hpc]
  refine hIH i2 _ H locs lsB stA hAt.1 hAt.2.1 hInv (zyAss hAt h1 (fun _ _ => rfl) henv hAt.2.2.1 ?_ (fun p hp => by rw [hkc] at hp; cases hp)) hMu
  rw [zyln_eq] at h2
  exact zygoT_iff h2 hAt.2.2.2.2.2
end YGO7
theorem zyjd_run : zyAllP (fun r c => zyrS (zymr r c) zxi241 (241, 0, 0, 0, 0) 7 zpjd (fun _ _ => []) zFjd zSjd zXjd zRjd 3) = true := by decide +kernel
theorem zyjoinsWished {l : Launch} {r c : Nat} (h1 : 1 ≤ r) (h2 : r ≤ 4) (h3 : 1 ≤ c) (h4 : c ≤ 5) {en : zEn} {me : zMe} (hen : zG zxMeta 241 = some en) (hme : zG zMeth 241 = some me) : zyHc l (zymr r c) en me 7 0 (zyΦwd 60 zWl) (zyΨwd 60) := by
  have een : zG zxMeta 241 = some (zxi241, 1, 2, 11, 241, 0, 0, 0, 0) := rfl
  obtain ⟨me1, hme1, hOK⟩ := zall hen
  rw [hme] at hme1
  cases hme1
  rw [een] at hen
  cases hen
  have hr := zyAllP_iff zyjd_run h1 h2 h3 h4
  obtain ⟨mejo, hmejo, -⟩ := zall (show zG zxMeta 237 = some (zxi237, 2, 5, 11, 237, 0, 0, 0, 0) from rfl)
  have hjo := zyjoins (l := l) h1 h2 h3 h4 (show zG zxMeta 237 = some (zxi237, 2, 5, 11, 237, 0, 0, 0, 0) from rfl) hmejo
  refine zycutS (mi := zymr r c) hOK rfl rfl ⟨_, rfl, rfl⟩ (ι := Fin 3) (fun i => zpjd i.val) (fun _ _ => []) (fun i => zFjd i.val) (fun i => zSjd i.val) (fun i => zXjd i.val) (fun i => zRjd i.val) (fun i y2 ct en2 me2 h => by cases h) 200000 (fun i => zyAll_iff hr i.val i.isLt) ⟨0, by decide⟩ ⟨rfl, rfl, rfl, rfl⟩ ⟨by decide, by decide⟩
    (fun i as E0 ρ E => ∃ n0 n m k : Nat, zBs E0 n0 m ∧ n0 + 60 ≤ 1299 ∧ zWl E0 m ∧ zyJo E0 E ∧ zBs E n m ∧ k ≤ 60 ∧ (i.val = 0 → k = 0) ∧ (1 ≤ i.val → ρ 1 = Int32.ofNat k) ∧ (i.val ≤ 1 → n ≤ n0 + k) ∧ (i.val = 2 → k < 60 ∧ n ≤ n0 + k + 1)) (fun i as E0 ρ E => if i.val = 0 then 1000 else 2 * (60 - zyN1 (ρ 1)) + (2 - i.val)) ?_ ?_ ?_
  · intro as E hlen hT hΦ
    obtain ⟨n, m, b1, b2, b3⟩ := hΦ
    exact ⟨zEnv_c (zyfull _) (zEnv_c (zyfull _) zEnv_nil), n, n, m, 0, b1, b2, b3, fun _ _ _ _ _ => rfl, b1, Nat.zero_le _, fun _ => rfl, fun h => absurd (show 1 ≤ 0 from h) (by decide), fun _ => Nat.le_refl _, fun h => absurd (show 0 = 2 from h) (by decide)⟩
  · intro as B s Wg hRu hT0 hΦ hlen i ρ H hT hInv hIH x hx ρ2 N2 H2 locs lsB stA hAt hXs hag hfr hT2
    rcases i with ⟨i, hi⟩
    have hi2 : i = 0 ∨ i = 1 ∨ i = 2 := by omega
    rcases hi2 with rfl | rfl | rfl
    · have hx : x ∈ [zxjd_ax0] := hx
      have hg : ∀ k, k < 2 → ρ2 k = ρ k := hag
      have hI := hInv
      have hI : ∃ n0 n m k : Nat, zBs (zyEl (zymr r c) B s.heap) n0 m ∧ n0 + 60 ≤ 1299 ∧ zWl (zyEl (zymr r c) B s.heap) m ∧ zyJo (zyEl (zymr r c) B s.heap) (zyEl (zymr r c) B H) ∧ zBs (zyEl (zymr r c) B H) n m ∧ k ≤ 60 ∧ (0 = 0 → k = 0) ∧ (1 ≤ 0 → ρ 1 = Int32.ofNat k) ∧ (0 ≤ 1 → n ≤ n0 + k) ∧ (0 = 2 → k < 60 ∧ n ≤ n0 + k + 1) := hI
      obtain ⟨hF, hB, hM⟩ := hXs
      have hEE : (zyEl (zymr r c) B H2) = (zyEl (zymr r c) B H) := zyfr0 hfr
      have ex := List.mem_singleton.mp hx
      subst ex
      obtain ⟨n0, n, m, k, b0, bn, hv, i1, hbs, hk, i2, i3, i4, i5⟩ := hI
      have hm8 : m ≤ 8 := hbs.2.1
      have k0 := i2 rfl
      have nn := i4 (by decide)
      refine zyGoB hIH hAt hB ⟨1, by decide⟩ [595, 0] rfl rfl rfl rfl ⟨n0, n, m, 0, b0, bn, hv, by rw [hEE]; exact i1, by rw [hEE]; exact hbs, Nat.zero_le _, fun h => absurd (show 1 = 0 from h) (by decide), fun _ => rfl, fun _ => by omega, fun h => absurd (show 1 = 2 from h) (by decide)⟩ ?_
      show 2 * (60 - zyN1 (Int32.ofNat 0)) + (2 - 1) < 1000
      omega
    · have hx : x ∈ [zxjd_bx0] := hx
      have hg : ∀ k, k < 2 → ρ2 k = ρ k := hag
      have hI := hInv
      have hI : ∃ n0 n m k : Nat, zBs (zyEl (zymr r c) B s.heap) n0 m ∧ n0 + 60 ≤ 1299 ∧ zWl (zyEl (zymr r c) B s.heap) m ∧ zyJo (zyEl (zymr r c) B s.heap) (zyEl (zymr r c) B H) ∧ zBs (zyEl (zymr r c) B H) n m ∧ k ≤ 60 ∧ (1 = 0 → k = 0) ∧ (1 ≤ 1 → ρ 1 = Int32.ofNat k) ∧ (1 ≤ 1 → n ≤ n0 + k) ∧ (1 = 2 → k < 60 ∧ n ≤ n0 + k + 1) := hI
      obtain ⟨hF, hB, hM⟩ := hXs
      have hEE : (zyEl (zymr r c) B H2) = (zyEl (zymr r c) B H) := zyfr0 hfr
      have ex := List.mem_singleton.mp hx
      subst ex
      obtain ⟨n0, n, m, k, b0, bn, hv, i1, hbs, hk, i2, i3, i4, i5⟩ := hI
      have hm8 : m ≤ 8 := hbs.2.1
      have e75 : ∀ q, zyI (zyEl (zymr r c) B H) 75 q = zyI (zyEl (zymr r c) B s.heap) 75 q := zyJo_75 i1
      have a1 : ρ2 1 = Int32.ofNat k := (hg 1 (by decide)).trans (i3 (by decide))
      have nn := i4 (by decide)
      obtain ⟨n3, w1, w2, w3⟩ := zyXe hF 0 rfl
      have w1 : Int32.ofNat 5 = Int32.ofNat n3 := w1
      have w3 : zyEl (zymr r c) B H 75 n3 = some (.int (ρ2 2)) := w3
      rw [← zyOi (by omega) (by omega) w1] at w3
      have f1 := zyX20 hF 1 rfl
      have f1 : ρ2 1 < ρ2 2 := f1
      rw [a1, ← zyI_s w3, e75] at f1
      have kb : 2147483648 ≤ zB (ρ2 1) ∧ zB (ρ2 1) ≤ 2147483707 := zyXb hB 0 rfl
      rw [a1, zyBn (by omega)] at kb
      obtain ⟨n4, w4, w5, w6⟩ := zyXe hF 2 rfl
      have w4 : ρ2 1 + Int32.ofNat 460 = Int32.ofNat n4 := w4
      have w6 : zyEl (zymr r c) B H 75 n4 = some (.int (ρ2 3)) := w6
      rw [a1, zyOa] at w4
      have e4 := zyOi (by omega) (by omega) w4
      rw [← e4] at w6
      have hval : zVl m (ρ2 3) := by
        have := hv k (by omega) f1
        rw [← e75, Nat.add_comm, zyI_s w6] at this
        exact this
      refine zyCa0 hRu hIH hAt hB hjo (ix := 242) (ax := 3792) rfl rfl rfl hmejo ⟨rfl, rfl, rfl, rfl⟩ (by decide) [103079215105] rfl (by decide) rfl ⟨2, by decide⟩ [595, 34359738369] rfl rfl rfl rfl ?_ ?_
      · show zyΦjo [ρ2 3] _
        rw [hEE]
        exact zBs_Φ hbs (by omega) hval
      · intro E3 vo hT3 hΨ
        have hΨ : zyΨjo [ρ2 3] _ E3 vo := hΨ
        rw [hEE] at hΨ
        obtain ⟨ev, n', q1, q2, q3⟩ := zBs_jo hbs (by omega) hΨ
        refine ⟨ev, ⟨n0, n', m, k, b0, bn, hv, zyJo_t i1 q3, q2, hk, fun h => absurd (show 2 = 0 from h) (by decide), fun _ => a1, fun h => absurd (show 2 ≤ 1 from h) (by decide), fun _ => ⟨by omega, by omega⟩⟩, ?_⟩
        show 2 * (60 - zyN1 (ρ2 1)) + (2 - 2) < 2 * (60 - zyN1 (ρ 1)) + (2 - 1)
        rw [a1, i3 (by decide)]
        omega
    · have hx : x ∈ [zxjd_cx0] := hx
      have hg : ∀ k, k < 2 → ρ2 k = ρ k := hag
      have hI := hInv
      have hI : ∃ n0 n m k : Nat, zBs (zyEl (zymr r c) B s.heap) n0 m ∧ n0 + 60 ≤ 1299 ∧ zWl (zyEl (zymr r c) B s.heap) m ∧ zyJo (zyEl (zymr r c) B s.heap) (zyEl (zymr r c) B H) ∧ zBs (zyEl (zymr r c) B H) n m ∧ k ≤ 60 ∧ (2 = 0 → k = 0) ∧ (1 ≤ 2 → ρ 1 = Int32.ofNat k) ∧ (2 ≤ 1 → n ≤ n0 + k) ∧ (2 = 2 → k < 60 ∧ n ≤ n0 + k + 1) := hI
      obtain ⟨hF, hB, hM⟩ := hXs
      have hEE : (zyEl (zymr r c) B H2) = (zyEl (zymr r c) B H) := zyfr0 hfr
      have ex := List.mem_singleton.mp hx
      subst ex
      obtain ⟨n0, n, m, k, b0, bn, hv, i1, hbs, hk, i2, i3, i4, i5⟩ := hI
      have hm8 : m ≤ 8 := hbs.2.1
      have a1 : ρ2 1 = Int32.ofNat k := (hg 1 (by decide)).trans (i3 (by decide))
      obtain ⟨k6, nn⟩ := i5 rfl
      have a1' : ρ2 1 + Int32.ofNat 1 = Int32.ofNat (k + 1) := by rw [a1, zyOa]
      refine zyGoB hIH hAt hB ⟨1, by decide⟩ [595, 34359738377] rfl rfl rfl rfl ⟨n0, n, m, k + 1, b0, bn, hv, by rw [hEE]; exact i1, by rw [hEE]; exact hbs, by omega, fun h => absurd (show 1 = 0 from h) (by decide), fun _ => a1', fun _ => by omega, fun h => absurd (show 1 = 2 from h) (by decide)⟩ ?_
      show 2 * (60 - zyN1 (ρ2 1 + Int32.ofNat 1)) + (2 - 1) < 2 * (60 - zyN1 (ρ 1)) + (2 - 2)
      rw [a1', i3 (by decide), zyN1_of (by omega), zyN1_of (by omega)]
      omega
  · intro as E0 E E2 hT0 hΦ hlen i ρ hT hInv x hx ρ2 N2 B vo hXs hag hfr hT2 hvo
    rcases i with ⟨i, hi⟩
    have hi2 : i = 0 ∨ i = 1 ∨ i = 2 := by omega
    rcases hi2 with rfl | rfl | rfl
    · cases hx
    · have hx : x ∈ [zxjd_br0] := hx
      have hg : ∀ k, k < 2 → ρ2 k = ρ k := hag
      have hI := hInv
      have hI : ∃ n0 n m k : Nat, zBs E0 n0 m ∧ n0 + 60 ≤ 1299 ∧ zWl E0 m ∧ zyJo E0 E ∧ zBs E n m ∧ k ≤ 60 ∧ (1 = 0 → k = 0) ∧ (1 ≤ 1 → ρ 1 = Int32.ofNat k) ∧ (1 ≤ 1 → n ≤ n0 + k) ∧ (1 = 2 → k < 60 ∧ n ≤ n0 + k + 1) := hI
      obtain ⟨hF, hB, hM⟩ := hXs
      have hEE : E2 = E := zyfr0 hfr
      have ex := List.mem_singleton.mp hx
      subst ex
      obtain ⟨n0, n, m, k, b0, bn, hv, i1, hbs, hk, i2, i3, i4, i5⟩ := hI
      have hm8 : m ≤ 8 := hbs.2.1
      have nn := i4 (by decide)
      refine ⟨zyvo_0 (show zyvo _ [] vo from hvo), by rw [hEE]; exact i1, fun n2 m2 d1 d2 => ?_⟩
      obtain ⟨e1, e2⟩ := zBs_m b0 d1
      subst e1
      subst e2
      rw [hEE]
      exact ⟨n, by omega, hbs⟩
    · cases hx
theorem zyud_run : zyAllP (fun r c => zyrS (zymr r c) zxi242 (242, 0, 0, 0, 0) 7 zpud (fun _ _ => []) zFud zSud zXud zRud 3) = true := by decide +kernel
theorem zyunjoinsWished {l : Launch} {r c : Nat} (h1 : 1 ≤ r) (h2 : r ≤ 4) (h3 : 1 ≤ c) (h4 : c ≤ 5) {en : zEn} {me : zMe} (hen : zG zxMeta 242 = some en) (hme : zG zMeth 242 = some me) : zyHc l (zymr r c) en me 7 0 (zyΦwd 60 zWl) (zyΨwd 61) := by
  have een : zG zxMeta 242 = some (zxi242, 1, 2, 11, 242, 0, 0, 0, 0) := rfl
  obtain ⟨me1, hme1, hOK⟩ := zall hen
  rw [hme] at hme1
  cases hme1
  rw [een] at hen
  cases hen
  have hr := zyAllP_iff zyud_run h1 h2 h3 h4
  obtain ⟨mejo, hmejo, -⟩ := zall (show zG zxMeta 237 = some (zxi237, 2, 5, 11, 237, 0, 0, 0, 0) from rfl)
  have hjo := zyjoins (l := l) h1 h2 h3 h4 (show zG zxMeta 237 = some (zxi237, 2, 5, 11, 237, 0, 0, 0, 0) from rfl) hmejo
  refine zycutS (mi := zymr r c) hOK rfl rfl ⟨_, rfl, rfl⟩ (ι := Fin 3) (fun i => zpud i.val) (fun _ _ => []) (fun i => zFud i.val) (fun i => zSud i.val) (fun i => zXud i.val) (fun i => zRud i.val) (fun i y2 ct en2 me2 h => by cases h) 200000 (fun i => zyAll_iff hr i.val i.isLt) ⟨0, by decide⟩ ⟨rfl, rfl, rfl, rfl⟩ ⟨by decide, by decide⟩
    (fun i as E0 ρ E => ∃ n0 n m : Nat, zBs E0 n0 m ∧ n0 + 60 ≤ 1299 ∧ zWl E0 m ∧ zyJo E0 E ∧ zBs E n m ∧ (i.val = 0 → n = n0) ∧ (1 ≤ i.val → 2147483646 ≤ zB (ρ 1) ∧ zB (ρ 1) ≤ 2147483707 ∧ ρ 1 < zyI E0 75 5) ∧ (i.val = 1 → n + zB (ρ 1) ≤ n0 + 2147483707) ∧ (i.val = 2 → 2147483648 ≤ zB (ρ 1) ∧ n + zB (ρ 1) ≤ n0 + 2147483708)) (fun i as E0 ρ E => if i.val = 0 then 10000 else 2 * (zB (ρ 1) - 2147483646) + (2 - i.val)) ?_ ?_ ?_
  · intro as E hlen hT hΦ
    obtain ⟨n, m, b1, b2, b3⟩ := hΦ
    exact ⟨zEnv_c (zyfull _) (zEnv_c (zyfull _) zEnv_nil), n, n, m, b1, b2, b3, fun _ _ _ _ _ => rfl, b1, fun _ => rfl, fun h => absurd (show 1 ≤ 0 from h) (by decide), fun h => absurd (show 0 = 1 from h) (by decide), fun h => absurd (show 0 = 2 from h) (by decide)⟩
  · intro as B s Wg hRu hT0 hΦ hlen i ρ H hT hInv hIH x hx ρ2 N2 H2 locs lsB stA hAt hXs hag hfr hT2
    rcases i with ⟨i, hi⟩
    have hi2 : i = 0 ∨ i = 1 ∨ i = 2 := by omega
    rcases hi2 with rfl | rfl | rfl
    · have hx : x ∈ [zxud_ax0] := hx
      have hg : ∀ k, k < 2 → ρ2 k = ρ k := hag
      have hI := hInv
      have hI : ∃ n0 n m : Nat, zBs (zyEl (zymr r c) B s.heap) n0 m ∧ n0 + 60 ≤ 1299 ∧ zWl (zyEl (zymr r c) B s.heap) m ∧ zyJo (zyEl (zymr r c) B s.heap) (zyEl (zymr r c) B H) ∧ zBs (zyEl (zymr r c) B H) n m ∧ (0 = 0 → n = n0) ∧ (1 ≤ 0 → 2147483646 ≤ zB (ρ 1) ∧ zB (ρ 1) ≤ 2147483707 ∧ ρ 1 < zyI (zyEl (zymr r c) B s.heap) 75 5) ∧ (0 = 1 → n + zB (ρ 1) ≤ n0 + 2147483707) ∧ (0 = 2 → 2147483648 ≤ zB (ρ 1) ∧ n + zB (ρ 1) ≤ n0 + 2147483708) := hI
      obtain ⟨hF, hB, hM⟩ := hXs
      have hEE : (zyEl (zymr r c) B H2) = (zyEl (zymr r c) B H) := zyfr0 hfr
      have ex := List.mem_singleton.mp hx
      subst ex
      obtain ⟨n0, n, m, b0, bn, hv, i1, hbs, i2, i3, i4, i5⟩ := hI
      have hm8 : m ≤ 8 := hbs.2.1
      have e75 : ∀ q, zyI (zyEl (zymr r c) B H) 75 q = zyI (zyEl (zymr r c) B s.heap) 75 q := zyJo_75 i1
      have k0 := i2 rfl
      obtain ⟨n3, w1, w2, w3⟩ := zyXe hF 0 rfl
      have w1 : Int32.ofNat 5 = Int32.ofNat n3 := w1
      have w3 : zyEl (zymr r c) B H 75 n3 = some (.int (ρ2 2)) := w3
      rw [← zyOi (by omega) (by omega) w1] at w3
      have bd : 2147483647 ≤ zB (ρ2 2) ∧ zB (ρ2 2) ≤ 2147483708 := zyXb hB 0 rfl
      have e1 := zyBd (x := ρ2 2) (by omega)
      have lt : ρ2 2 + Int32.ofNat 4294967295 < zyI (zyEl (zymr r c) B s.heap) 75 5 := by
        rw [← e75, zyI_s w3, zylt_B]
        omega
      refine zyGoB hIH hAt hB ⟨1, by decide⟩ [595, 103079215097] rfl rfl rfl rfl ⟨n0, n, m, b0, bn, hv, by rw [hEE]; exact i1, by rw [hEE]; exact hbs, fun h => absurd (show 1 = 0 from h) (by decide), fun _ => ⟨?_, ?_, lt⟩, fun _ => ?_, fun h => absurd (show 1 = 2 from h) (by decide)⟩ ?_
      · show 2147483646 ≤ zB (ρ2 2 + Int32.ofNat 4294967295)
        omega
      · show zB (ρ2 2 + Int32.ofNat 4294967295) ≤ 2147483707
        omega
      · show n + zB (ρ2 2 + Int32.ofNat 4294967295) ≤ n0 + 2147483707
        omega
      · show 2 * (zB (ρ2 2 + Int32.ofNat 4294967295) - 2147483646) + (2 - 1) < 10000
        omega
    · have hx : x ∈ [zxud_bx0] := hx
      have hg : ∀ k, k < 2 → ρ2 k = ρ k := hag
      have hI := hInv
      have hI : ∃ n0 n m : Nat, zBs (zyEl (zymr r c) B s.heap) n0 m ∧ n0 + 60 ≤ 1299 ∧ zWl (zyEl (zymr r c) B s.heap) m ∧ zyJo (zyEl (zymr r c) B s.heap) (zyEl (zymr r c) B H) ∧ zBs (zyEl (zymr r c) B H) n m ∧ (1 = 0 → n = n0) ∧ (1 ≤ 1 → 2147483646 ≤ zB (ρ 1) ∧ zB (ρ 1) ≤ 2147483707 ∧ ρ 1 < zyI (zyEl (zymr r c) B s.heap) 75 5) ∧ (1 = 1 → n + zB (ρ 1) ≤ n0 + 2147483707) ∧ (1 = 2 → 2147483648 ≤ zB (ρ 1) ∧ n + zB (ρ 1) ≤ n0 + 2147483708) := hI
      obtain ⟨hF, hB, hM⟩ := hXs
      have hEE : (zyEl (zymr r c) B H2) = (zyEl (zymr r c) B H) := zyfr0 hfr
      have ex := List.mem_singleton.mp hx
      subst ex
      obtain ⟨n0, n, m, b0, bn, hv, i1, hbs, i2, i3, i4, i5⟩ := hI
      have hm8 : m ≤ 8 := hbs.2.1
      have e75 : ∀ q, zyI (zyEl (zymr r c) B H) 75 q = zyI (zyEl (zymr r c) B s.heap) 75 q := zyJo_75 i1
      obtain ⟨v1, v2, v3⟩ := i3 (by decide)
      have nn := i4 rfl
      have a1 : ρ2 1 = ρ 1 := hg 1 (by decide)
      have kb : 2147483648 ≤ zB (ρ2 1) ∧ zB (ρ2 1) ≤ 2147483707 := zyXb hB 0 rfl
      rw [← a1] at v1 v2 v3 nn
      obtain ⟨o1, o2⟩ := zyOn kb.1
      obtain ⟨n4, w4, w5, w6⟩ := zyXe hF 1 rfl
      have w4 : ρ2 1 + Int32.ofNat 460 = Int32.ofNat n4 := w4
      have w6 : zyEl (zymr r c) B H 75 n4 = some (.int (ρ2 2)) := w6
      rw [o1, zyOa] at w4
      have e4 := zyOi (by omega) (by omega) w4
      rw [← e4] at w6
      have f3 := zyXop hF 2 rfl (by decide)
      have f3 : ρ2 3 = Int32.ofNat 0 - ρ2 2 := f3
      have hval : zVl m (ρ2 3) := by
        rw [o1] at v3
        have := hv (zyN1 (ρ2 1)) (by omega) v3
        rw [← e75, Nat.add_comm, zyI_s w6] at this
        rw [f3]
        exact zVl_neg hm8 this
      refine zyCa0 hRu hIH hAt hB hjo (ix := 242) (ax := 3792) rfl rfl rfl hmejo ⟨rfl, rfl, rfl, rfl⟩ (by decide) [103079215105] rfl (by decide) rfl ⟨2, by decide⟩ [595, 34359738369] rfl rfl rfl rfl ?_ ?_
      · show zyΦjo [ρ2 3] _
        rw [hEE]
        exact zBs_Φ hbs (by omega) hval
      · intro E3 vo hT3 hΨ
        have hΨ : zyΨjo [ρ2 3] _ E3 vo := hΨ
        rw [hEE] at hΨ
        obtain ⟨ev, n', q1, q2, q3⟩ := zBs_jo hbs (by omega) hΨ
        refine ⟨ev, ⟨n0, n', m, b0, bn, hv, zyJo_t i1 q3, q2, fun h => absurd (show 2 = 0 from h) (by decide), fun _ => ⟨v1, v2, v3⟩, fun h => absurd (show 2 = 1 from h) (by decide), fun _ => ⟨kb.1, ?_⟩⟩, ?_⟩
        · show n' + zB (ρ2 1) ≤ n0 + 2147483708
          omega
        · show 2 * (zB (ρ2 1) - 2147483646) + (2 - 2) < 2 * (zB (ρ 1) - 2147483646) + (2 - 1)
          rw [a1]
          omega
    · have hx : x ∈ [zxud_cx0] := hx
      have hg : ∀ k, k < 2 → ρ2 k = ρ k := hag
      have hI := hInv
      have hI : ∃ n0 n m : Nat, zBs (zyEl (zymr r c) B s.heap) n0 m ∧ n0 + 60 ≤ 1299 ∧ zWl (zyEl (zymr r c) B s.heap) m ∧ zyJo (zyEl (zymr r c) B s.heap) (zyEl (zymr r c) B H) ∧ zBs (zyEl (zymr r c) B H) n m ∧ (2 = 0 → n = n0) ∧ (1 ≤ 2 → 2147483646 ≤ zB (ρ 1) ∧ zB (ρ 1) ≤ 2147483707 ∧ ρ 1 < zyI (zyEl (zymr r c) B s.heap) 75 5) ∧ (2 = 1 → n + zB (ρ 1) ≤ n0 + 2147483707) ∧ (2 = 2 → 2147483648 ≤ zB (ρ 1) ∧ n + zB (ρ 1) ≤ n0 + 2147483708) := hI
      obtain ⟨hF, hB, hM⟩ := hXs
      have hEE : (zyEl (zymr r c) B H2) = (zyEl (zymr r c) B H) := zyfr0 hfr
      have ex := List.mem_singleton.mp hx
      subst ex
      obtain ⟨n0, n, m, b0, bn, hv, i1, hbs, i2, i3, i4, i5⟩ := hI
      have hm8 : m ≤ 8 := hbs.2.1
      obtain ⟨v1, v2, v3⟩ := i3 (by decide)
      obtain ⟨v4, nn⟩ := i5 rfl
      have a1 : ρ2 1 = ρ 1 := hg 1 (by decide)
      rw [← a1] at v1 v2 v3 v4 nn
      have e1 := zyBd (x := ρ2 1) (by omega)
      have lt : ρ2 1 + Int32.ofNat 4294967295 < zyI (zyEl (zymr r c) B s.heap) 75 5 := by
        rw [zylt_B] at v3 ⊢
        omega
      refine zyGoB hIH hAt hB ⟨1, by decide⟩ [595, 68719476729] rfl rfl rfl rfl ⟨n0, n, m, b0, bn, hv, by rw [hEE]; exact i1, by rw [hEE]; exact hbs, fun h => absurd (show 1 = 0 from h) (by decide), fun _ => ⟨?_, ?_, lt⟩, fun _ => ?_, fun h => absurd (show 1 = 2 from h) (by decide)⟩ ?_
      · show 2147483646 ≤ zB (ρ2 1 + Int32.ofNat 4294967295)
        omega
      · show zB (ρ2 1 + Int32.ofNat 4294967295) ≤ 2147483707
        omega
      · show n + zB (ρ2 1 + Int32.ofNat 4294967295) ≤ n0 + 2147483707
        omega
      · show 2 * (zB (ρ2 1 + Int32.ofNat 4294967295) - 2147483646) + (2 - 1) < 2 * (zB (ρ 1) - 2147483646) + (2 - 2)
        rw [← a1]
        omega
  · intro as E0 E E2 hT0 hΦ hlen i ρ hT hInv x hx ρ2 N2 B vo hXs hag hfr hT2 hvo
    rcases i with ⟨i, hi⟩
    have hi2 : i = 0 ∨ i = 1 ∨ i = 2 := by omega
    rcases hi2 with rfl | rfl | rfl
    · cases hx
    · have hx : x ∈ [zxud_br0] := hx
      have hg : ∀ k, k < 2 → ρ2 k = ρ k := hag
      have hI := hInv
      have hI : ∃ n0 n m : Nat, zBs E0 n0 m ∧ n0 + 60 ≤ 1299 ∧ zWl E0 m ∧ zyJo E0 E ∧ zBs E n m ∧ (1 = 0 → n = n0) ∧ (1 ≤ 1 → 2147483646 ≤ zB (ρ 1) ∧ zB (ρ 1) ≤ 2147483707 ∧ ρ 1 < zyI E0 75 5) ∧ (1 = 1 → n + zB (ρ 1) ≤ n0 + 2147483707) ∧ (1 = 2 → 2147483648 ≤ zB (ρ 1) ∧ n + zB (ρ 1) ≤ n0 + 2147483708) := hI
      obtain ⟨hF, hB, hM⟩ := hXs
      have hEE : E2 = E := zyfr0 hfr
      have ex := List.mem_singleton.mp hx
      subst ex
      obtain ⟨n0, n, m, b0, bn, hv, i1, hbs, i2, i3, i4, i5⟩ := hI
      have hm8 : m ≤ 8 := hbs.2.1
      obtain ⟨v1, v2, v3⟩ := i3 (by decide)
      have nn := i4 rfl
      refine ⟨zyvo_0 (show zyvo _ [] vo from hvo), by rw [hEE]; exact i1, fun n2 m2 d1 d2 => ?_⟩
      obtain ⟨e1, e2⟩ := zBs_m b0 d1
      subst e1
      subst e2
      rw [hEE]
      exact ⟨n, by omega, hbs⟩
    · cases hx
theorem zyuw_run : zyAllP (fun r c => zyrS (zymr r c) zxi243 (243, 0, 0, 0, 0) 7 zpuw (fun _ _ => []) zFuw zSuw zXuw zRuw 3) = true := by decide +kernel
theorem zyunjoinsWord {l : Launch} {r c : Nat} (h1 : 1 ≤ r) (h2 : r ≤ 4) (h3 : 1 ≤ c) (h4 : c ≤ 5) {en : zEn} {me : zMe} (hen : zG zxMeta 243 = some en) (hme : zG zMeth 243 = some me) : zyHc l (zymr r c) en me 7 0 (zyΦwd 300 zLv) (zyΨwd 301) := by
  have een : zG zxMeta 243 = some (zxi243, 1, 2, 11, 243, 0, 0, 0, 0) := rfl
  obtain ⟨me1, hme1, hOK⟩ := zall hen
  rw [hme] at hme1
  cases hme1
  rw [een] at hen
  cases hen
  have hr := zyAllP_iff zyuw_run h1 h2 h3 h4
  obtain ⟨mejo, hmejo, -⟩ := zall (show zG zxMeta 237 = some (zxi237, 2, 5, 11, 237, 0, 0, 0, 0) from rfl)
  have hjo := zyjoins (l := l) h1 h2 h3 h4 (show zG zxMeta 237 = some (zxi237, 2, 5, 11, 237, 0, 0, 0, 0) from rfl) hmejo
  refine zycutS (mi := zymr r c) hOK rfl rfl ⟨_, rfl, rfl⟩ (ι := Fin 3) (fun i => zpuw i.val) (fun _ _ => []) (fun i => zFuw i.val) (fun i => zSuw i.val) (fun i => zXuw i.val) (fun i => zRuw i.val) (fun i y2 ct en2 me2 h => by cases h) 200000 (fun i => zyAll_iff hr i.val i.isLt) ⟨0, by decide⟩ ⟨rfl, rfl, rfl, rfl⟩ ⟨by decide, by decide⟩
    (fun i as E0 ρ E => ∃ n0 n m : Nat, zBs E0 n0 m ∧ n0 + 300 ≤ 1299 ∧ zLv E0 m ∧ zyJo E0 E ∧ zBs E n m ∧ (i.val = 0 → n = n0) ∧ (1 ≤ i.val → 2147483646 ≤ zB (ρ 1) ∧ zB (ρ 1) ≤ 2147483947 ∧ ρ 1 < zyI E0 75 4) ∧ (i.val = 1 → n + zB (ρ 1) ≤ n0 + 2147483947) ∧ (i.val = 2 → 2147483648 ≤ zB (ρ 1) ∧ n + zB (ρ 1) ≤ n0 + 2147483948)) (fun i as E0 ρ E => if i.val = 0 then 10000 else 2 * (zB (ρ 1) - 2147483646) + (2 - i.val)) ?_ ?_ ?_
  · intro as E hlen hT hΦ
    obtain ⟨n, m, b1, b2, b3⟩ := hΦ
    exact ⟨zEnv_c (zyfull _) (zEnv_c (zyfull _) zEnv_nil), n, n, m, b1, b2, b3, fun _ _ _ _ _ => rfl, b1, fun _ => rfl, fun h => absurd (show 1 ≤ 0 from h) (by decide), fun h => absurd (show 0 = 1 from h) (by decide), fun h => absurd (show 0 = 2 from h) (by decide)⟩
  · intro as B s Wg hRu hT0 hΦ hlen i ρ H hT hInv hIH x hx ρ2 N2 H2 locs lsB stA hAt hXs hag hfr hT2
    rcases i with ⟨i, hi⟩
    have hi2 : i = 0 ∨ i = 1 ∨ i = 2 := by omega
    rcases hi2 with rfl | rfl | rfl
    · have hx : x ∈ [zxuw_ax0] := hx
      have hg : ∀ k, k < 2 → ρ2 k = ρ k := hag
      have hI := hInv
      have hI : ∃ n0 n m : Nat, zBs (zyEl (zymr r c) B s.heap) n0 m ∧ n0 + 300 ≤ 1299 ∧ zLv (zyEl (zymr r c) B s.heap) m ∧ zyJo (zyEl (zymr r c) B s.heap) (zyEl (zymr r c) B H) ∧ zBs (zyEl (zymr r c) B H) n m ∧ (0 = 0 → n = n0) ∧ (1 ≤ 0 → 2147483646 ≤ zB (ρ 1) ∧ zB (ρ 1) ≤ 2147483947 ∧ ρ 1 < zyI (zyEl (zymr r c) B s.heap) 75 4) ∧ (0 = 1 → n + zB (ρ 1) ≤ n0 + 2147483947) ∧ (0 = 2 → 2147483648 ≤ zB (ρ 1) ∧ n + zB (ρ 1) ≤ n0 + 2147483948) := hI
      obtain ⟨hF, hB, hM⟩ := hXs
      have hEE : (zyEl (zymr r c) B H2) = (zyEl (zymr r c) B H) := zyfr0 hfr
      have ex := List.mem_singleton.mp hx
      subst ex
      obtain ⟨n0, n, m, b0, bn, hv, i1, hbs, i2, i3, i4, i5⟩ := hI
      have hm8 : m ≤ 8 := hbs.2.1
      have e75 : ∀ q, zyI (zyEl (zymr r c) B H) 75 q = zyI (zyEl (zymr r c) B s.heap) 75 q := zyJo_75 i1
      have k0 := i2 rfl
      obtain ⟨n3, w1, w2, w3⟩ := zyXe hF 0 rfl
      have w1 : Int32.ofNat 4 = Int32.ofNat n3 := w1
      have w3 : zyEl (zymr r c) B H 75 n3 = some (.int (ρ2 2)) := w3
      rw [← zyOi (by omega) (by omega) w1] at w3
      have bd : 2147483648 ≤ zB (ρ2 2) ∧ zB (ρ2 2) ≤ 2147483948 := zyXb hB 0 rfl
      have e1 := zyBd (x := ρ2 2) (by omega)
      have lt : ρ2 2 + Int32.ofNat 4294967295 < zyI (zyEl (zymr r c) B s.heap) 75 4 := by
        rw [← e75, zyI_s w3, zylt_B]
        omega
      refine zyGoB hIH hAt hB ⟨1, by decide⟩ [595, 103079215097] rfl rfl rfl rfl ⟨n0, n, m, b0, bn, hv, by rw [hEE]; exact i1, by rw [hEE]; exact hbs, fun h => absurd (show 1 = 0 from h) (by decide), fun _ => ⟨?_, ?_, lt⟩, fun _ => ?_, fun h => absurd (show 1 = 2 from h) (by decide)⟩ ?_
      · show 2147483646 ≤ zB (ρ2 2 + Int32.ofNat 4294967295)
        omega
      · show zB (ρ2 2 + Int32.ofNat 4294967295) ≤ 2147483947
        omega
      · show n + zB (ρ2 2 + Int32.ofNat 4294967295) ≤ n0 + 2147483947
        omega
      · show 2 * (zB (ρ2 2 + Int32.ofNat 4294967295) - 2147483646) + (2 - 1) < 10000
        omega
    · have hx : x ∈ [zxuw_bx0] := hx
      have hg : ∀ k, k < 2 → ρ2 k = ρ k := hag
      have hI := hInv
      have hI : ∃ n0 n m : Nat, zBs (zyEl (zymr r c) B s.heap) n0 m ∧ n0 + 300 ≤ 1299 ∧ zLv (zyEl (zymr r c) B s.heap) m ∧ zyJo (zyEl (zymr r c) B s.heap) (zyEl (zymr r c) B H) ∧ zBs (zyEl (zymr r c) B H) n m ∧ (1 = 0 → n = n0) ∧ (1 ≤ 1 → 2147483646 ≤ zB (ρ 1) ∧ zB (ρ 1) ≤ 2147483947 ∧ ρ 1 < zyI (zyEl (zymr r c) B s.heap) 75 4) ∧ (1 = 1 → n + zB (ρ 1) ≤ n0 + 2147483947) ∧ (1 = 2 → 2147483648 ≤ zB (ρ 1) ∧ n + zB (ρ 1) ≤ n0 + 2147483948) := hI
      obtain ⟨hF, hB, hM⟩ := hXs
      have hEE : (zyEl (zymr r c) B H2) = (zyEl (zymr r c) B H) := zyfr0 hfr
      have ex := List.mem_singleton.mp hx
      subst ex
      obtain ⟨n0, n, m, b0, bn, hv, i1, hbs, i2, i3, i4, i5⟩ := hI
      have hm8 : m ≤ 8 := hbs.2.1
      have e75 : ∀ q, zyI (zyEl (zymr r c) B H) 75 q = zyI (zyEl (zymr r c) B s.heap) 75 q := zyJo_75 i1
      obtain ⟨v1, v2, v3⟩ := i3 (by decide)
      have nn := i4 rfl
      have a1 : ρ2 1 = ρ 1 := hg 1 (by decide)
      have kb : 2147483648 ≤ zB (ρ2 1) ∧ zB (ρ2 1) ≤ 2147483947 := zyXb hB 0 rfl
      rw [← a1] at v1 v2 v3 nn
      obtain ⟨o1, o2⟩ := zyOn kb.1
      obtain ⟨n4, w4, w5, w6⟩ := zyXe hF 1 rfl
      have w4 : ρ2 1 + Int32.ofNat 160 = Int32.ofNat n4 := w4
      have w6 : zyEl (zymr r c) B H 75 n4 = some (.int (ρ2 2)) := w6
      rw [o1, zyOa] at w4
      have e4 := zyOi (by omega) (by omega) w4
      rw [← e4] at w6
      have f3 := zyXop hF 2 rfl (by decide)
      have f3 : ρ2 3 = Int32.ofNat 0 - ρ2 2 := f3
      have hval : zVl m (ρ2 3) := by
        rw [o1] at v3
        have := hv (zyN1 (ρ2 1)) (by omega) v3
        rw [← e75, Nat.add_comm, zyI_s w6] at this
        rw [f3]
        exact zVl_neg hm8 this
      refine zyCa0 hRu hIH hAt hB hjo (ix := 242) (ax := 3792) rfl rfl rfl hmejo ⟨rfl, rfl, rfl, rfl⟩ (by decide) [103079215105] rfl (by decide) rfl ⟨2, by decide⟩ [595, 34359738369] rfl rfl rfl rfl ?_ ?_
      · show zyΦjo [ρ2 3] _
        rw [hEE]
        exact zBs_Φ hbs (by omega) hval
      · intro E3 vo hT3 hΨ
        have hΨ : zyΨjo [ρ2 3] _ E3 vo := hΨ
        rw [hEE] at hΨ
        obtain ⟨ev, n', q1, q2, q3⟩ := zBs_jo hbs (by omega) hΨ
        refine ⟨ev, ⟨n0, n', m, b0, bn, hv, zyJo_t i1 q3, q2, fun h => absurd (show 2 = 0 from h) (by decide), fun _ => ⟨v1, v2, v3⟩, fun h => absurd (show 2 = 1 from h) (by decide), fun _ => ⟨kb.1, ?_⟩⟩, ?_⟩
        · show n' + zB (ρ2 1) ≤ n0 + 2147483948
          omega
        · show 2 * (zB (ρ2 1) - 2147483646) + (2 - 2) < 2 * (zB (ρ 1) - 2147483646) + (2 - 1)
          rw [a1]
          omega
    · have hx : x ∈ [zxuw_cx0] := hx
      have hg : ∀ k, k < 2 → ρ2 k = ρ k := hag
      have hI := hInv
      have hI : ∃ n0 n m : Nat, zBs (zyEl (zymr r c) B s.heap) n0 m ∧ n0 + 300 ≤ 1299 ∧ zLv (zyEl (zymr r c) B s.heap) m ∧ zyJo (zyEl (zymr r c) B s.heap) (zyEl (zymr r c) B H) ∧ zBs (zyEl (zymr r c) B H) n m ∧ (2 = 0 → n = n0) ∧ (1 ≤ 2 → 2147483646 ≤ zB (ρ 1) ∧ zB (ρ 1) ≤ 2147483947 ∧ ρ 1 < zyI (zyEl (zymr r c) B s.heap) 75 4) ∧ (2 = 1 → n + zB (ρ 1) ≤ n0 + 2147483947) ∧ (2 = 2 → 2147483648 ≤ zB (ρ 1) ∧ n + zB (ρ 1) ≤ n0 + 2147483948) := hI
      obtain ⟨hF, hB, hM⟩ := hXs
      have hEE : (zyEl (zymr r c) B H2) = (zyEl (zymr r c) B H) := zyfr0 hfr
      have ex := List.mem_singleton.mp hx
      subst ex
      obtain ⟨n0, n, m, b0, bn, hv, i1, hbs, i2, i3, i4, i5⟩ := hI
      have hm8 : m ≤ 8 := hbs.2.1
      obtain ⟨v1, v2, v3⟩ := i3 (by decide)
      obtain ⟨v4, nn⟩ := i5 rfl
      have a1 : ρ2 1 = ρ 1 := hg 1 (by decide)
      rw [← a1] at v1 v2 v3 v4 nn
      have e1 := zyBd (x := ρ2 1) (by omega)
      have lt : ρ2 1 + Int32.ofNat 4294967295 < zyI (zyEl (zymr r c) B s.heap) 75 4 := by
        rw [zylt_B] at v3 ⊢
        omega
      refine zyGoB hIH hAt hB ⟨1, by decide⟩ [595, 68719476729] rfl rfl rfl rfl ⟨n0, n, m, b0, bn, hv, by rw [hEE]; exact i1, by rw [hEE]; exact hbs, fun h => absurd (show 1 = 0 from h) (by decide), fun _ => ⟨?_, ?_, lt⟩, fun _ => ?_, fun h => absurd (show 1 = 2 from h) (by decide)⟩ ?_
      · show 2147483646 ≤ zB (ρ2 1 + Int32.ofNat 4294967295)
        omega
      · show zB (ρ2 1 + Int32.ofNat 4294967295) ≤ 2147483947
        omega
      · show n + zB (ρ2 1 + Int32.ofNat 4294967295) ≤ n0 + 2147483947
        omega
      · show 2 * (zB (ρ2 1 + Int32.ofNat 4294967295) - 2147483646) + (2 - 1) < 2 * (zB (ρ 1) - 2147483646) + (2 - 2)
        rw [← a1]
        omega
  · intro as E0 E E2 hT0 hΦ hlen i ρ hT hInv x hx ρ2 N2 B vo hXs hag hfr hT2 hvo
    rcases i with ⟨i, hi⟩
    have hi2 : i = 0 ∨ i = 1 ∨ i = 2 := by omega
    rcases hi2 with rfl | rfl | rfl
    · cases hx
    · have hx : x ∈ [zxuw_br0] := hx
      have hg : ∀ k, k < 2 → ρ2 k = ρ k := hag
      have hI := hInv
      have hI : ∃ n0 n m : Nat, zBs E0 n0 m ∧ n0 + 300 ≤ 1299 ∧ zLv E0 m ∧ zyJo E0 E ∧ zBs E n m ∧ (1 = 0 → n = n0) ∧ (1 ≤ 1 → 2147483646 ≤ zB (ρ 1) ∧ zB (ρ 1) ≤ 2147483947 ∧ ρ 1 < zyI E0 75 4) ∧ (1 = 1 → n + zB (ρ 1) ≤ n0 + 2147483947) ∧ (1 = 2 → 2147483648 ≤ zB (ρ 1) ∧ n + zB (ρ 1) ≤ n0 + 2147483948) := hI
      obtain ⟨hF, hB, hM⟩ := hXs
      have hEE : E2 = E := zyfr0 hfr
      have ex := List.mem_singleton.mp hx
      subst ex
      obtain ⟨n0, n, m, b0, bn, hv, i1, hbs, i2, i3, i4, i5⟩ := hI
      have hm8 : m ≤ 8 := hbs.2.1
      obtain ⟨v1, v2, v3⟩ := i3 (by decide)
      have nn := i4 rfl
      refine ⟨zyvo_0 (show zyvo _ [] vo from hvo), by rw [hEE]; exact i1, fun n2 m2 d1 d2 => ?_⟩
      obtain ⟨e1, e2⟩ := zBs_m b0 d1
      subst e1
      subst e2
      rw [hEE]
      exact ⟨n, by omega, hbs⟩
    · cases hx
end
section
/-! THE WORD, forward or back, mirrored or not; can the wished one be -/
theorem zyjw_run : zyAllP (fun r c => zyrS (zymr r c) zxi240 (240, 0, 0, 0, 0) 7 zpjw (fun _ _ => []) zFjw zSjw zXjw zRjw 4) = true := by decide +kernel
theorem zyjoinsWord {l : Launch} {r c : Nat} (h1 : 1 ≤ r) (h2 : r ≤ 4) (h3 : 1 ≤ c) (h4 : c ≤ 5) {en : zEn} {me : zMe} (hen : zG zxMeta 240 = some en) (hme : zG zMeth 240 = some me) : zyHc l (zymr r c) en me 7 2 (zyΦwd 300 zLv) (zyΨwd 300) := by
  have een : zG zxMeta 240 = some (zxi240, 3, 5, 11, 240, 0, 0, 0, 0) := rfl
  obtain ⟨me1, hme1, hOK⟩ := zall hen
  rw [hme] at hme1
  cases hme1
  rw [een] at hen
  cases hen
  have hr := zyAllP_iff zyjw_run h1 h2 h3 h4
  obtain ⟨mejo, hmejo, -⟩ := zall (show zG zxMeta 237 = some (zxi237, 2, 5, 11, 237, 0, 0, 0, 0) from rfl)
  have hjo := zyjoins (l := l) h1 h2 h3 h4 (show zG zxMeta 237 = some (zxi237, 2, 5, 11, 237, 0, 0, 0, 0) from rfl) hmejo
  refine zycutS (mi := zymr r c) hOK rfl rfl ⟨_, rfl, rfl⟩ (ι := Fin 4) (fun i => zpjw i.val) (fun _ _ => []) (fun i => zFjw i.val) (fun i => zSjw i.val) (fun i => zXjw i.val) (fun i => zRjw i.val) (fun i y2 ct en2 me2 h => by cases h) 200000 (fun i => zyAll_iff hr i.val i.isLt) ⟨0, by decide⟩ ⟨rfl, rfl, rfl, rfl⟩ ⟨by decide, by decide⟩
    (fun i as E0 ρ E => ∃ n0 n m k : Nat, zBs E0 n0 m ∧ n0 + 300 ≤ 1299 ∧ zLv E0 m ∧ zyJo E0 E ∧ zBs E n m ∧ k ≤ 300 ∧ (i.val = 0 → k = 0) ∧ (1 ≤ i.val → ρ 3 = Int32.ofNat k) ∧ (i.val ≤ 2 → n ≤ n0 + k) ∧ (i.val = 2 → k < 300 ∧ ∃ d, d < 300 ∧ ρ 5 = Int32.ofNat d ∧ Int32.ofNat d < zyI E0 75 4) ∧ (i.val = 3 → k < 300 ∧ n ≤ n0 + k + 1)) (fun i as E0 ρ E => if i.val = 0 then 10000 else 3 * (300 - zyN1 (ρ 3)) + (3 - i.val)) ?_ ?_ ?_
  · intro as E hlen hT hΦ
    obtain ⟨n, m, b1, b2, b3⟩ := hΦ
    exact ⟨zEnv_c (zyfull _) (zEnv_c (zyfull _) (zEnv_c (zyfull _) (zEnv_c (zyfull _) (zEnv_c (zyfull _) zEnv_nil)))), n, n, m, 0, b1, b2, b3, fun _ _ _ _ _ => rfl, b1, Nat.zero_le _, fun _ => rfl, fun h => absurd (show 1 ≤ 0 from h) (by decide), fun _ => Nat.le_refl _, fun h => absurd (show 0 = 2 from h) (by decide), fun h => absurd (show 0 = 3 from h) (by decide)⟩
  · intro as B s Wg hRu hT0 hΦ hlen i ρ H hT hInv hIH x hx ρ2 N2 H2 locs lsB stA hAt hXs hag hfr hT2
    rcases i with ⟨i, hi⟩
    have hi2 : i = 0 ∨ i = 1 ∨ i = 2 ∨ i = 3 := by omega
    rcases hi2 with rfl | rfl | rfl | rfl
    · have hx : x ∈ [zxjw_ax0] := hx
      have hg : ∀ k, k < 5 → ρ2 k = ρ k := hag
      have hI := hInv
      have hI : ∃ n0 n m k : Nat, zBs (zyEl (zymr r c) B s.heap) n0 m ∧ n0 + 300 ≤ 1299 ∧ zLv (zyEl (zymr r c) B s.heap) m ∧ zyJo (zyEl (zymr r c) B s.heap) (zyEl (zymr r c) B H) ∧ zBs (zyEl (zymr r c) B H) n m ∧ k ≤ 300 ∧ (0 = 0 → k = 0) ∧ (1 ≤ 0 → ρ 3 = Int32.ofNat k) ∧ (0 ≤ 2 → n ≤ n0 + k) ∧ (0 = 2 → k < 300 ∧ ∃ d, d < 300 ∧ ρ 5 = Int32.ofNat d ∧ Int32.ofNat d < zyI (zyEl (zymr r c) B s.heap) 75 4) ∧ (0 = 3 → k < 300 ∧ n ≤ n0 + k + 1) := hI
      obtain ⟨hF, hB, hM⟩ := hXs
      have hEE : (zyEl (zymr r c) B H2) = (zyEl (zymr r c) B H) := zyfr0 hfr
      have ex := List.mem_singleton.mp hx
      subst ex
      obtain ⟨n0, n, m, k, b0, bn, hv, i1, hbs, hk, i2, i3, i4, i5, i6⟩ := hI
      have hm8 : m ≤ 8 := hbs.2.1
      have k0 := i2 rfl
      have nn := i4 (by decide)
      refine zyGoB hIH hAt hB ⟨1, by decide⟩ [595, 34359738369, 68719476737, 0, 0] rfl rfl rfl rfl ⟨n0, n, m, 0, b0, bn, hv, by rw [hEE]; exact i1, by rw [hEE]; exact hbs, Nat.zero_le _, fun h => absurd (show 1 = 0 from h) (by decide), fun _ => rfl, fun _ => by omega, fun h => absurd (show 1 = 2 from h) (by decide), fun h => absurd (show 1 = 3 from h) (by decide)⟩ ?_
      show 3 * (300 - zyN1 (Int32.ofNat 0)) + (3 - 1) < 10000
      omega
    · have hx : x ∈ [zxjw_bx0, zxjw_bx1, zxjw_bx2] := hx
      have hg : ∀ k, k < 5 → ρ2 k = ρ k := hag
      have hI := hInv
      have hI : ∃ n0 n m k : Nat, zBs (zyEl (zymr r c) B s.heap) n0 m ∧ n0 + 300 ≤ 1299 ∧ zLv (zyEl (zymr r c) B s.heap) m ∧ zyJo (zyEl (zymr r c) B s.heap) (zyEl (zymr r c) B H) ∧ zBs (zyEl (zymr r c) B H) n m ∧ k ≤ 300 ∧ (1 = 0 → k = 0) ∧ (1 ≤ 1 → ρ 3 = Int32.ofNat k) ∧ (1 ≤ 2 → n ≤ n0 + k) ∧ (1 = 2 → k < 300 ∧ ∃ d, d < 300 ∧ ρ 5 = Int32.ofNat d ∧ Int32.ofNat d < zyI (zyEl (zymr r c) B s.heap) 75 4) ∧ (1 = 3 → k < 300 ∧ n ≤ n0 + k + 1) := hI
      obtain ⟨hF, hB, hM⟩ := hXs
      have hEE : (zyEl (zymr r c) B H2) = (zyEl (zymr r c) B H) := zyfr0 hfr
      rcases List.mem_cons.mp hx with ex | hx
      · subst ex
        obtain ⟨n0, n, m, k, b0, bn, hv, i1, hbs, hk, i2, i3, i4, i5, i6⟩ := hI
        have hm8 : m ≤ 8 := hbs.2.1
        have e75 : ∀ q, zyI (zyEl (zymr r c) B H) 75 q = zyI (zyEl (zymr r c) B s.heap) 75 q := zyJo_75 i1
        have a3 : ρ2 3 = Int32.ofNat k := (hg 3 (by decide)).trans (i3 (by decide))
        have nn := i4 (by decide)
        obtain ⟨n3, w1, w2, w3⟩ := zyXe hF 0 rfl
        have w1 : Int32.ofNat 4 = Int32.ofNat n3 := w1
        have w3 : zyEl (zymr r c) B H 75 n3 = some (.int (ρ2 5)) := w3
        rw [← zyOi (by omega) (by omega) w1] at w3
        have f1 := zyX20 hF 1 rfl
        have f1 : ρ2 3 < ρ2 5 := f1
        have lb : 2147483649 ≤ zB (ρ2 5) ∧ zB (ρ2 5) ≤ 2147483948 := zyXb hB 2 rfl
        obtain ⟨o1, o2⟩ := zyOn (x := ρ2 5) (by omega)
        rw [a3, o1, zyOl (by omega) (by omega)] at f1
        have eL : zyI (zyEl (zymr r c) B s.heap) 75 4 = Int32.ofNat (zyN1 (ρ2 5)) := by
          rw [← e75, zyI_s w3]
          exact o1
        have f3 := zyXop hF 3 rfl (by decide)
        have f3 : ρ2 6 = ρ2 5 + Int32.ofNat 4294967295 - ρ2 3 := f3
        rw [o1, zyOd (by omega), a3, zyOs (by omega)] at f3
        obtain ⟨d, de, dl, dl2⟩ : ∃ d, ρ2 6 = Int32.ofNat d ∧ d < 300 ∧ d < zyN1 (ρ2 5) := ⟨_, f3, by omega, by omega⟩
        refine zyGoS hIH hAt ⟨2, by decide⟩ [595, 34359738369, 68719476737, 103079215105, 0, 206158430209] rfl rfl rfl (zEnv_c (zyfull _) (zEnv_c (zyfull _) (zEnv_c (zyfull _) (zEnv_c ?_ (zEnv_c (zyfull _) (zEnv_c ?_ zEnv_nil)))))) ⟨n0, n, m, k, b0, bn, hv, by rw [hEE]; exact i1, by rw [hEE]; exact hbs, hk, fun h => absurd (show 2 = 0 from h) (by decide), fun _ => a3, fun _ => nn, fun _ => ⟨by omega, d, dl, de, by rw [eL, zyOl (by omega) (by omega)]; omega⟩, fun h => absurd (show 2 = 3 from h) (by decide)⟩ ?_
        · show 2147483648 ≤ zB (ρ2 3) ∧ zB (ρ2 3) ≤ 2147483947
          rw [a3, zyBn (by omega)]
          omega
        · show 2147483648 ≤ zB (ρ2 6) ∧ zB (ρ2 6) ≤ 2147483947
          rw [de, zyBn (by omega)]
          omega
        · show 3 * (300 - zyN1 (ρ2 3)) + (3 - 2) < 3 * (300 - zyN1 (ρ 3)) + (3 - 1)
          rw [hg 3 (by decide)]
          omega
      · skip
        rcases List.mem_cons.mp hx with ex | hx
        · subst ex
          obtain ⟨n0, n, m, k, b0, bn, hv, i1, hbs, hk, i2, i3, i4, i5, i6⟩ := hI
          have hm8 : m ≤ 8 := hbs.2.1
          have e75 : ∀ q, zyI (zyEl (zymr r c) B H) 75 q = zyI (zyEl (zymr r c) B s.heap) 75 q := zyJo_75 i1
          have a3 : ρ2 3 = Int32.ofNat k := (hg 3 (by decide)).trans (i3 (by decide))
          have nn := i4 (by decide)
          obtain ⟨n3, w1, w2, w3⟩ := zyXe hF 0 rfl
          have w1 : Int32.ofNat 4 = Int32.ofNat n3 := w1
          have w3 : zyEl (zymr r c) B H 75 n3 = some (.int (ρ2 5)) := w3
          rw [← zyOi (by omega) (by omega) w1] at w3
          have f1 := zyX20 hF 1 rfl
          have f1 : ρ2 3 < ρ2 5 := f1
          have lb : 2147483649 ≤ zB (ρ2 5) ∧ zB (ρ2 5) ≤ 2147483948 := zyXb hB 2 rfl
          obtain ⟨o1, o2⟩ := zyOn (x := ρ2 5) (by omega)
          rw [a3, o1, zyOl (by omega) (by omega)] at f1
          have eL : zyI (zyEl (zymr r c) B s.heap) 75 4 = Int32.ofNat (zyN1 (ρ2 5)) := by
            rw [← e75, zyI_s w3]
            exact o1
          have f3 := zyXop hF 3 rfl (by decide)
          have f3 : ρ2 6 = ρ2 5 + Int32.ofNat 4294967295 - ρ2 3 := f3
          rw [o1, zyOd (by omega), a3, zyOs (by omega)] at f3
          obtain ⟨d, de, dl, dl2⟩ : ∃ d, ρ2 6 = Int32.ofNat d ∧ d < 300 ∧ d < zyN1 (ρ2 5) := ⟨_, f3, by omega, by omega⟩
          refine zyGoS hIH hAt ⟨2, by decide⟩ [595, 34359738369, 68719476737, 103079215105, 0, 206158430209] rfl rfl rfl (zEnv_c (zyfull _) (zEnv_c (zyfull _) (zEnv_c (zyfull _) (zEnv_c ?_ (zEnv_c (zyfull _) (zEnv_c ?_ zEnv_nil)))))) ⟨n0, n, m, k, b0, bn, hv, by rw [hEE]; exact i1, by rw [hEE]; exact hbs, hk, fun h => absurd (show 2 = 0 from h) (by decide), fun _ => a3, fun _ => nn, fun _ => ⟨by omega, d, dl, de, by rw [eL, zyOl (by omega) (by omega)]; omega⟩, fun h => absurd (show 2 = 3 from h) (by decide)⟩ ?_
          · show 2147483648 ≤ zB (ρ2 3) ∧ zB (ρ2 3) ≤ 2147483947
            rw [a3, zyBn (by omega)]
            omega
          · show 2147483648 ≤ zB (ρ2 6) ∧ zB (ρ2 6) ≤ 2147483947
            rw [de, zyBn (by omega)]
            omega
          · show 3 * (300 - zyN1 (ρ2 3)) + (3 - 2) < 3 * (300 - zyN1 (ρ 3)) + (3 - 1)
            rw [hg 3 (by decide)]
            omega
        · skip
          have ex := List.mem_singleton.mp hx
          subst ex
          obtain ⟨n0, n, m, k, b0, bn, hv, i1, hbs, hk, i2, i3, i4, i5, i6⟩ := hI
          have hm8 : m ≤ 8 := hbs.2.1
          have e75 : ∀ q, zyI (zyEl (zymr r c) B H) 75 q = zyI (zyEl (zymr r c) B s.heap) 75 q := zyJo_75 i1
          have a3 : ρ2 3 = Int32.ofNat k := (hg 3 (by decide)).trans (i3 (by decide))
          have nn := i4 (by decide)
          obtain ⟨n3, w1, w2, w3⟩ := zyXe hF 0 rfl
          have w1 : Int32.ofNat 4 = Int32.ofNat n3 := w1
          have w3 : zyEl (zymr r c) B H 75 n3 = some (.int (ρ2 5)) := w3
          rw [← zyOi (by omega) (by omega) w1] at w3
          have f1 := zyX20 hF 1 rfl
          have f1 : ρ2 3 < ρ2 5 := f1
          have lb : 2147483649 ≤ zB (ρ2 5) ∧ zB (ρ2 5) ≤ 2147483948 := zyXb hB 2 rfl
          obtain ⟨o1, o2⟩ := zyOn (x := ρ2 5) (by omega)
          rw [a3, o1, zyOl (by omega) (by omega)] at f1
          have eL : zyI (zyEl (zymr r c) B s.heap) 75 4 = Int32.ofNat (zyN1 (ρ2 5)) := by
            rw [← e75, zyI_s w3]
            exact o1
          obtain ⟨d, de, dl, dl2⟩ : ∃ d, ρ2 3 = Int32.ofNat d ∧ d < 300 ∧ d < zyN1 (ρ2 5) := ⟨k, a3, by omega, f1⟩
          refine zyGoS hIH hAt ⟨2, by decide⟩ [595, 34359738369, 68719476737, 103079215105, 0, 103079215105] rfl rfl rfl (zEnv_c (zyfull _) (zEnv_c (zyfull _) (zEnv_c (zyfull _) (zEnv_c ?_ (zEnv_c (zyfull _) (zEnv_c ?_ zEnv_nil)))))) ⟨n0, n, m, k, b0, bn, hv, by rw [hEE]; exact i1, by rw [hEE]; exact hbs, hk, fun h => absurd (show 2 = 0 from h) (by decide), fun _ => a3, fun _ => nn, fun _ => ⟨by omega, d, dl, de, by rw [eL, zyOl (by omega) (by omega)]; omega⟩, fun h => absurd (show 2 = 3 from h) (by decide)⟩ ?_
          · show 2147483648 ≤ zB (ρ2 3) ∧ zB (ρ2 3) ≤ 2147483947
            rw [a3, zyBn (by omega)]
            omega
          · show 2147483648 ≤ zB (ρ2 3) ∧ zB (ρ2 3) ≤ 2147483947
            rw [de, zyBn (by omega)]
            omega
          · show 3 * (300 - zyN1 (ρ2 3)) + (3 - 2) < 3 * (300 - zyN1 (ρ 3)) + (3 - 1)
            rw [hg 3 (by decide)]
            omega
    · have hx : x ∈ [zxjw_dx0, zxjw_dx1, zxjw_dx2] := hx
      have hg : ∀ k, k < 6 → ρ2 k = ρ k := hag
      have hI := hInv
      have hI : ∃ n0 n m k : Nat, zBs (zyEl (zymr r c) B s.heap) n0 m ∧ n0 + 300 ≤ 1299 ∧ zLv (zyEl (zymr r c) B s.heap) m ∧ zyJo (zyEl (zymr r c) B s.heap) (zyEl (zymr r c) B H) ∧ zBs (zyEl (zymr r c) B H) n m ∧ k ≤ 300 ∧ (2 = 0 → k = 0) ∧ (1 ≤ 2 → ρ 3 = Int32.ofNat k) ∧ (2 ≤ 2 → n ≤ n0 + k) ∧ (2 = 2 → k < 300 ∧ ∃ d, d < 300 ∧ ρ 5 = Int32.ofNat d ∧ Int32.ofNat d < zyI (zyEl (zymr r c) B s.heap) 75 4) ∧ (2 = 3 → k < 300 ∧ n ≤ n0 + k + 1) := hI
      obtain ⟨hF, hB, hM⟩ := hXs
      have hEE : (zyEl (zymr r c) B H2) = (zyEl (zymr r c) B H) := zyfr0 hfr
      rcases List.mem_cons.mp hx with ex | hx
      · subst ex
        obtain ⟨n0, n, m, k, b0, bn, hv, i1, hbs, hk, i2, i3, i4, i5, i6⟩ := hI
        have hm8 : m ≤ 8 := hbs.2.1
        have e75 : ∀ q, zyI (zyEl (zymr r c) B H) 75 q = zyI (zyEl (zymr r c) B s.heap) 75 q := zyJo_75 i1
        have a3 : ρ2 3 = Int32.ofNat k := (hg 3 (by decide)).trans (i3 (by decide))
        have nn := i4 (by decide)
        obtain ⟨k3, d, dl, de, dv⟩ := i5 rfl
        have a5 : ρ2 5 = Int32.ofNat d := (hg 5 (by decide)).trans de
        obtain ⟨n4, w4, w5, w6⟩ := zyXe hF 0 rfl
        have w4 : ρ2 5 + Int32.ofNat 160 = Int32.ofNat n4 := w4
        have w6 : zyEl (zymr r c) B H 75 n4 = some (.int (ρ2 6)) := w6
        rw [a5, zyOa] at w4
        have e4 := zyOi (by omega) (by omega) w4
        rw [← e4] at w6
        have hv6 : zVl m (ρ2 6) := by
          have := hv d dl dv
          rw [← e75, Nat.add_comm, zyI_s w6] at this
          exact this
        have f2 := zyXop hF 2 rfl (by decide)
        have f2 : ρ2 7 = Int32.ofNat 0 - ρ2 6 := f2
        have hval : zVl m (ρ2 7) := by
          rw [f2]
          exact zVl_neg hm8 hv6
        refine zyCa0 hRu hIH hAt hB hjo (ix := 242) (ax := 3792) rfl rfl rfl hmejo ⟨rfl, rfl, rfl, rfl⟩ (by decide) [240518168577] rfl (by decide) rfl ⟨3, by decide⟩ [595, 34359738369, 68719476737, 103079215105, 0] rfl rfl rfl rfl ?_ ?_
        · show zyΦjo [ρ2 7] _
          rw [hEE]
          exact zBs_Φ hbs (by omega) hval
        · intro E3 vo hT3 hΨ
          have hΨ : zyΨjo [ρ2 7] _ E3 vo := hΨ
          rw [hEE] at hΨ
          obtain ⟨ev, n', q1, q2, q3⟩ := zBs_jo hbs (by omega) hΨ
          refine ⟨ev, ⟨n0, n', m, k, b0, bn, hv, zyJo_t i1 q3, q2, hk, fun h => absurd (show 3 = 0 from h) (by decide), fun _ => a3, fun h => absurd (show 3 ≤ 2 from h) (by decide), fun h => absurd (show 3 = 2 from h) (by decide), fun _ => ⟨k3, by omega⟩⟩, ?_⟩
          show 3 * (300 - zyN1 (ρ2 3)) + (3 - 3) < 3 * (300 - zyN1 (ρ 3)) + (3 - 2)
          rw [hg 3 (by decide)]
          omega
      · skip
        rcases List.mem_cons.mp hx with ex | hx
        · subst ex
          obtain ⟨n0, n, m, k, b0, bn, hv, i1, hbs, hk, i2, i3, i4, i5, i6⟩ := hI
          have hm8 : m ≤ 8 := hbs.2.1
          have e75 : ∀ q, zyI (zyEl (zymr r c) B H) 75 q = zyI (zyEl (zymr r c) B s.heap) 75 q := zyJo_75 i1
          have a3 : ρ2 3 = Int32.ofNat k := (hg 3 (by decide)).trans (i3 (by decide))
          have nn := i4 (by decide)
          obtain ⟨k3, d, dl, de, dv⟩ := i5 rfl
          have a5 : ρ2 5 = Int32.ofNat d := (hg 5 (by decide)).trans de
          obtain ⟨n4, w4, w5, w6⟩ := zyXe hF 0 rfl
          have w4 : ρ2 5 + Int32.ofNat 160 = Int32.ofNat n4 := w4
          have w6 : zyEl (zymr r c) B H 75 n4 = some (.int (ρ2 6)) := w6
          rw [a5, zyOa] at w4
          have e4 := zyOi (by omega) (by omega) w4
          rw [← e4] at w6
          have hv6 : zVl m (ρ2 6) := by
            have := hv d dl dv
            rw [← e75, Nat.add_comm, zyI_s w6] at this
            exact this
          have f2 := zyXop hF 2 rfl (by decide)
          have f2 : ρ2 7 = Int32.ofNat 0 - ρ2 6 := f2
          have hval : zVl m (ρ2 7) := by
            rw [f2]
            exact zVl_neg hm8 hv6
          refine zyCa0 hRu hIH hAt hB hjo (ix := 242) (ax := 3792) rfl rfl rfl hmejo ⟨rfl, rfl, rfl, rfl⟩ (by decide) [240518168577] rfl (by decide) rfl ⟨3, by decide⟩ [595, 34359738369, 68719476737, 103079215105, 0] rfl rfl rfl rfl ?_ ?_
          · show zyΦjo [ρ2 7] _
            rw [hEE]
            exact zBs_Φ hbs (by omega) hval
          · intro E3 vo hT3 hΨ
            have hΨ : zyΨjo [ρ2 7] _ E3 vo := hΨ
            rw [hEE] at hΨ
            obtain ⟨ev, n', q1, q2, q3⟩ := zBs_jo hbs (by omega) hΨ
            refine ⟨ev, ⟨n0, n', m, k, b0, bn, hv, zyJo_t i1 q3, q2, hk, fun h => absurd (show 3 = 0 from h) (by decide), fun _ => a3, fun h => absurd (show 3 ≤ 2 from h) (by decide), fun h => absurd (show 3 = 2 from h) (by decide), fun _ => ⟨k3, by omega⟩⟩, ?_⟩
            show 3 * (300 - zyN1 (ρ2 3)) + (3 - 3) < 3 * (300 - zyN1 (ρ 3)) + (3 - 2)
            rw [hg 3 (by decide)]
            omega
        · skip
          have ex := List.mem_singleton.mp hx
          subst ex
          obtain ⟨n0, n, m, k, b0, bn, hv, i1, hbs, hk, i2, i3, i4, i5, i6⟩ := hI
          have hm8 : m ≤ 8 := hbs.2.1
          have e75 : ∀ q, zyI (zyEl (zymr r c) B H) 75 q = zyI (zyEl (zymr r c) B s.heap) 75 q := zyJo_75 i1
          have a3 : ρ2 3 = Int32.ofNat k := (hg 3 (by decide)).trans (i3 (by decide))
          have nn := i4 (by decide)
          obtain ⟨k3, d, dl, de, dv⟩ := i5 rfl
          have a5 : ρ2 5 = Int32.ofNat d := (hg 5 (by decide)).trans de
          obtain ⟨n4, w4, w5, w6⟩ := zyXe hF 0 rfl
          have w4 : ρ2 5 + Int32.ofNat 160 = Int32.ofNat n4 := w4
          have w6 : zyEl (zymr r c) B H 75 n4 = some (.int (ρ2 6)) := w6
          rw [a5, zyOa] at w4
          have e4 := zyOi (by omega) (by omega) w4
          rw [← e4] at w6
          have hv6 : zVl m (ρ2 6) := by
            have := hv d dl dv
            rw [← e75, Nat.add_comm, zyI_s w6] at this
            exact this
          have hval := hv6
          refine zyCa0 hRu hIH hAt hB hjo (ix := 242) (ax := 3792) rfl rfl rfl hmejo ⟨rfl, rfl, rfl, rfl⟩ (by decide) [206158430209] rfl (by decide) rfl ⟨3, by decide⟩ [595, 34359738369, 68719476737, 103079215105, 0] rfl rfl rfl rfl ?_ ?_
          · show zyΦjo [ρ2 6] _
            rw [hEE]
            exact zBs_Φ hbs (by omega) hval
          · intro E3 vo hT3 hΨ
            have hΨ : zyΨjo [ρ2 6] _ E3 vo := hΨ
            rw [hEE] at hΨ
            obtain ⟨ev, n', q1, q2, q3⟩ := zBs_jo hbs (by omega) hΨ
            refine ⟨ev, ⟨n0, n', m, k, b0, bn, hv, zyJo_t i1 q3, q2, hk, fun h => absurd (show 3 = 0 from h) (by decide), fun _ => a3, fun h => absurd (show 3 ≤ 2 from h) (by decide), fun h => absurd (show 3 = 2 from h) (by decide), fun _ => ⟨k3, by omega⟩⟩, ?_⟩
            show 3 * (300 - zyN1 (ρ2 3)) + (3 - 3) < 3 * (300 - zyN1 (ρ 3)) + (3 - 2)
            rw [hg 3 (by decide)]
            omega
    · have hx : x ∈ [zxjw_cx0] := hx
      have hg : ∀ k, k < 5 → ρ2 k = ρ k := hag
      have hI := hInv
      have hI : ∃ n0 n m k : Nat, zBs (zyEl (zymr r c) B s.heap) n0 m ∧ n0 + 300 ≤ 1299 ∧ zLv (zyEl (zymr r c) B s.heap) m ∧ zyJo (zyEl (zymr r c) B s.heap) (zyEl (zymr r c) B H) ∧ zBs (zyEl (zymr r c) B H) n m ∧ k ≤ 300 ∧ (3 = 0 → k = 0) ∧ (1 ≤ 3 → ρ 3 = Int32.ofNat k) ∧ (3 ≤ 2 → n ≤ n0 + k) ∧ (3 = 2 → k < 300 ∧ ∃ d, d < 300 ∧ ρ 5 = Int32.ofNat d ∧ Int32.ofNat d < zyI (zyEl (zymr r c) B s.heap) 75 4) ∧ (3 = 3 → k < 300 ∧ n ≤ n0 + k + 1) := hI
      obtain ⟨hF, hB, hM⟩ := hXs
      have hEE : (zyEl (zymr r c) B H2) = (zyEl (zymr r c) B H) := zyfr0 hfr
      have ex := List.mem_singleton.mp hx
      subst ex
      obtain ⟨n0, n, m, k, b0, bn, hv, i1, hbs, hk, i2, i3, i4, i5, i6⟩ := hI
      have hm8 : m ≤ 8 := hbs.2.1
      have a3 : ρ2 3 = Int32.ofNat k := (hg 3 (by decide)).trans (i3 (by decide))
      obtain ⟨k6, nn⟩ := i6 rfl
      have a3' : ρ2 3 + Int32.ofNat 1 = Int32.ofNat (k + 1) := by rw [a3, zyOa]
      refine zyGoB hIH hAt hB ⟨1, by decide⟩ [595, 34359738369, 68719476737, 103079215113, 0] rfl rfl rfl rfl ⟨n0, n, m, k + 1, b0, bn, hv, by rw [hEE]; exact i1, by rw [hEE]; exact hbs, by omega, fun h => absurd (show 1 = 0 from h) (by decide), fun _ => a3', fun _ => by omega, fun h => absurd (show 1 = 2 from h) (by decide), fun h => absurd (show 1 = 3 from h) (by decide)⟩ ?_
      show 3 * (300 - zyN1 (ρ2 3 + Int32.ofNat 1)) + (3 - 1) < 3 * (300 - zyN1 (ρ 3)) + (3 - 3)
      rw [a3', i3 (by decide), zyN1_of (by omega), zyN1_of (by omega)]
      omega
  · intro as E0 E E2 hT0 hΦ hlen i ρ hT hInv x hx ρ2 N2 B vo hXs hag hfr hT2 hvo
    rcases i with ⟨i, hi⟩
    have hi2 : i = 0 ∨ i = 1 ∨ i = 2 ∨ i = 3 := by omega
    rcases hi2 with rfl | rfl | rfl | rfl
    · cases hx
    · have hx : x ∈ [zxjw_br0] := hx
      have hg : ∀ k, k < 5 → ρ2 k = ρ k := hag
      have hI := hInv
      have hI : ∃ n0 n m k : Nat, zBs E0 n0 m ∧ n0 + 300 ≤ 1299 ∧ zLv E0 m ∧ zyJo E0 E ∧ zBs E n m ∧ k ≤ 300 ∧ (1 = 0 → k = 0) ∧ (1 ≤ 1 → ρ 3 = Int32.ofNat k) ∧ (1 ≤ 2 → n ≤ n0 + k) ∧ (1 = 2 → k < 300 ∧ ∃ d, d < 300 ∧ ρ 5 = Int32.ofNat d ∧ Int32.ofNat d < zyI E0 75 4) ∧ (1 = 3 → k < 300 ∧ n ≤ n0 + k + 1) := hI
      obtain ⟨hF, hB, hM⟩ := hXs
      have hEE : E2 = E := zyfr0 hfr
      have ex := List.mem_singleton.mp hx
      subst ex
      obtain ⟨n0, n, m, k, b0, bn, hv, i1, hbs, hk, i2, i3, i4, i5, i6⟩ := hI
      have hm8 : m ≤ 8 := hbs.2.1
      have nn := i4 (by decide)
      refine ⟨zyvo_0 (show zyvo _ [] vo from hvo), by rw [hEE]; exact i1, fun n2 m2 d1 d2 => ?_⟩
      obtain ⟨e1, e2⟩ := zBs_m b0 d1
      subst e1
      subst e2
      rw [hEE]
      exact ⟨n, by omega, hbs⟩
    · cases hx
    · cases hx
def zWv (E : zyEm) : Prop := ∀ k, k < 60 → Int32.ofNat k < zyI E 75 5 → ¬ zyI E 75 (460 + k) = Int32.ofNat 0
def zyΦcw (_ : List Int32) (E : zyEm) : Prop := ∃ m : Nat, m ≤ 8 ∧ E 75 2 = some (.int (Int32.ofNat m)) ∧ zWv E
def zyΨcw (_ : List Int32) (E E2 : zyEm) (vo : Option Value) : Prop := E2 = E ∧ ∃ z : Int32, vo = some (.int z) ∧ (z = 0 ∨ (z = 1 ∧ ∀ m : Nat, m ≤ 8 → E 75 2 = some (.int (Int32.ofNat m)) → zWl E m))
theorem zVl_p {m : Nat} {x : Int32} (hm : m ≤ 8) (h0 : 2147483648 ≤ zB x) (hn : ¬ x = Int32.ofNat 0) (hl : x < Int32.ofNat m) : zVl m x := by
  obtain ⟨o1, o2⟩ := zyOn h0
  have hl2 : zB x < zB (Int32.ofNat m) := zylt_B.mp hl
  rw [zyBn (by omega)] at hl2
  rw [o1, zyOl (by omega) (by omega)] at hl
  have h1 : ¬ zyN1 x = 0 := fun q => hn (by rw [o1, q])
  refine ⟨true, zyN1 x - 1, by omega, Or.inl ⟨rfl, ?_⟩⟩
  rw [show zyN1 x - 1 + 1 = zyN1 x by omega]
  exact o1
theorem zycw_run : zyAllP (fun r c => zyrS (zymr r c) zxi244 (244, 0, 0, 2, 0) 2 zpcw (fun _ _ => []) zFcw zScw zXcw zRcw 2) = true := by decide +kernel
theorem zycanBeWished {l : Launch} {r c : Nat} (h1 : 1 ≤ r) (h2 : r ≤ 4) (h3 : 1 ≤ c) (h4 : c ≤ 5) {en : zEn} {me : zMe} (hen : zG zxMeta 244 = some en) (hme : zG zMeth 244 = some me) : zyHc l (zymr r c) en me 2 0 zyΦcw zyΨcw := by
  have een : zG zxMeta 244 = some (zxi244, 1, 3, 11, 244, 0, 0, 2, 0) := rfl
  obtain ⟨me1, hme1, hOK⟩ := zall hen
  rw [hme] at hme1
  cases hme1
  rw [een] at hen
  cases hen
  have hr := zyAllP_iff zycw_run h1 h2 h3 h4
  refine zycutS (mi := zymr r c) hOK rfl rfl ⟨_, rfl, rfl⟩ (ι := Fin 2) (fun i => zpcw i.val) (fun _ _ => []) (fun i => zFcw i.val) (fun i => zScw i.val) (fun i => zXcw i.val) (fun i => zRcw i.val) (fun i y2 ct en2 me2 h => by cases h) 200000 (fun i => zyAll_iff hr i.val i.isLt) ⟨0, by decide⟩ ⟨rfl, rfl, rfl, rfl⟩ ⟨by decide, by decide⟩
    (fun i as E0 ρ E => E = E0 ∧ ∃ k : Nat, k ≤ 60 ∧ (i.val = 0 → k = 0) ∧ (i.val = 1 → ρ 1 = Int32.ofNat k) ∧ ∀ m : Nat, m ≤ 8 → E0 75 2 = some (.int (Int32.ofNat m)) → ∀ j, j < k → zVl m (zyI E0 75 (460 + j))) (fun i as E0 ρ E => if i.val = 0 then 100 else 60 - zyN1 (ρ 1)) ?_ ?_ ?_
  · intro as E hlen hT hΦ
    exact ⟨zEnv_c (zyfull _) (zEnv_c (zyfull _) (zEnv_c (zyfull _) zEnv_nil)), rfl, 0, Nat.zero_le _, fun _ => rfl, fun h => absurd (show 0 = 1 from h) (by decide), fun _ _ _ j hj => absurd hj (Nat.not_lt_zero j)⟩
  · intro as B s Wg hRu hT0 hΦ hlen i ρ H hT hInv hIH x hx ρ2 N2 H2 locs lsB stA hAt hXs hag hfr hT2
    rcases i with ⟨i, hi⟩
    have hi2 : i = 0 ∨ i = 1 := by omega
    rcases hi2 with rfl | rfl
    · have hx : x ∈ [zxcw_ax0] := hx
      have hg : ∀ k, k < 3 → ρ2 k = ρ k := hag
      have hI := hInv
      have hI : (zyEl (zymr r c) B H) = (zyEl (zymr r c) B s.heap) ∧ ∃ k : Nat, k ≤ 60 ∧ (0 = 0 → k = 0) ∧ (0 = 1 → ρ 1 = Int32.ofNat k) ∧ ∀ m : Nat, m ≤ 8 → (zyEl (zymr r c) B s.heap) 75 2 = some (.int (Int32.ofNat m)) → ∀ j, j < k → zVl m (zyI (zyEl (zymr r c) B s.heap) 75 (460 + j)) := hI
      obtain ⟨hF, hB, hM⟩ := hXs
      have hEE : (zyEl (zymr r c) B H2) = (zyEl (zymr r c) B H) := zyfr0 hfr
      have ex := List.mem_singleton.mp hx
      subst ex
      obtain ⟨e0, k, hk, i2, i3, i4⟩ := hI
      refine zyGoB hIH hAt hB ⟨1, by decide⟩ [595, 0, 0] rfl rfl rfl rfl ⟨hEE.trans e0, 0, Nat.zero_le _, fun h => absurd (show 1 = 0 from h) (by decide), fun _ => rfl, fun _ _ _ j hj => absurd hj (Nat.not_lt_zero j)⟩ ?_
      show 60 - zyN1 (Int32.ofNat 0) < 100
      omega
    · have hx : x ∈ [zxcw_bx0, zxcw_bx1] := hx
      have hg : ∀ k, k < 3 → ρ2 k = ρ k := hag
      have hI := hInv
      have hI : (zyEl (zymr r c) B H) = (zyEl (zymr r c) B s.heap) ∧ ∃ k : Nat, k ≤ 60 ∧ (1 = 0 → k = 0) ∧ (1 = 1 → ρ 1 = Int32.ofNat k) ∧ ∀ m : Nat, m ≤ 8 → (zyEl (zymr r c) B s.heap) 75 2 = some (.int (Int32.ofNat m)) → ∀ j, j < k → zVl m (zyI (zyEl (zymr r c) B s.heap) 75 (460 + j)) := hI
      obtain ⟨hF, hB, hM⟩ := hXs
      have hEE : (zyEl (zymr r c) B H2) = (zyEl (zymr r c) B H) := zyfr0 hfr
      rcases List.mem_cons.mp hx with ex | hx
      · subst ex
        obtain ⟨e0, k, hk, i2, i3, i4⟩ := hI
        have a1 : ρ2 1 = Int32.ofNat k := (hg 1 (by decide)).trans (i3 rfl)
        have a1' : ρ2 1 + Int32.ofNat 1 = Int32.ofNat (k + 1) := by rw [a1, zyOa]
        obtain ⟨m0, m1, m2, hw⟩ := hΦ
        rw [e0] at hF
        have kb : 2147483648 ≤ zB (ρ2 1) ∧ zB (ρ2 1) ≤ 2147483707 := zyXb hB 0 rfl
        rw [a1, zyBn (by omega)] at kb
        obtain ⟨n3, w1, w2, w3⟩ := zyXe hF 0 rfl
        have w1 : Int32.ofNat 5 = Int32.ofNat n3 := w1
        have w3 : zyEl (zymr r c) B s.heap 75 n3 = some (.int (ρ2 3)) := w3
        rw [← zyOi (by omega) (by omega) w1] at w3
        have f1 := zyX20 hF 1 rfl
        have f1 : ρ2 1 < ρ2 3 := f1
        rw [a1, ← zyI_s w3] at f1
        obtain ⟨n4, w4, w5, w6⟩ := zyXe hF 2 rfl
        have w4 : ρ2 1 + Int32.ofNat 460 = Int32.ofNat n4 := w4
        have w6 : zyEl (zymr r c) B s.heap 75 n4 = some (.int (ρ2 4)) := w6
        rw [a1, zyOa] at w4
        rw [← zyOi (by omega) (by omega) w4] at w6
        have hne := hw k (by omega) f1
        rw [Nat.add_comm, zyI_s w6] at hne
        have f4 := zyXop hF 4 rfl (by decide)
        have f4 : ρ2 5 = Int32.ofNat 0 - ρ2 4 := f4
        obtain ⟨n5, u1, u2, u3⟩ := zyXe hF 5 rfl
        have u1 : Int32.ofNat 2 = Int32.ofNat n5 := u1
        have u3 : zyEl (zymr r c) B s.heap 75 n5 = some (.int (ρ2 6)) := u3
        have em : ρ2 6 = Int32.ofNat m0 := zyEk u1 (by omega) u2 u3 m2
        have f6 := zyX20 hF 6 rfl
        have f6 : ρ2 5 < ρ2 6 := f6
        rw [em] at f6
        have b5 : 2147483649 ≤ zB (ρ2 5) ∧ zB (ρ2 5) ≤ 2147483655 := zyXb hB 3 rfl
        have hval : zVl m0 (ρ2 4) := by
          have h5 := zVl_p m1 (by omega) (fun q => by rw [q, zyBn (by omega)] at b5; omega) f6
          have h6 := zVl_neg m1 h5
          have e5 : Int32.ofNat 0 - ρ2 5 = ρ2 4 := by
            rw [f4]
            apply zN_inj
            rw [zN_sub, zN_sub, zN_of]
            have := (ρ2 4).toBitVec.isLt
            omega
          rw [e5] at h6
          exact h6
        refine zyGoB hIH hAt hB ⟨1, by decide⟩ [595, 34359738377, 0] rfl rfl rfl rfl ⟨hEE.trans e0, k + 1, by omega, fun h => absurd (show 1 = 0 from h) (by decide), fun _ => a1', fun m hm hms j hj => ?_⟩ ?_
        · by_cases e : j = k
          · rw [e, Nat.add_comm, zyI_s w6]
            rw [m2] at hms
            rw [← zyOi (by omega) (by omega) (Value.int.inj (Option.some.inj hms))]
            exact hval
          · exact i4 m hm hms j (by omega)
        · show 60 - zyN1 (ρ2 1 + Int32.ofNat 1) < 60 - zyN1 (ρ 1)
          rw [a1', i3 rfl, zyN1_of (by omega), zyN1_of (by omega)]
          omega
      · skip
        have ex := List.mem_singleton.mp hx
        subst ex
        obtain ⟨e0, k, hk, i2, i3, i4⟩ := hI
        have a1 : ρ2 1 = Int32.ofNat k := (hg 1 (by decide)).trans (i3 rfl)
        have a1' : ρ2 1 + Int32.ofNat 1 = Int32.ofNat (k + 1) := by rw [a1, zyOa]
        obtain ⟨m0, m1, m2, hw⟩ := hΦ
        rw [e0] at hF
        have kb : 2147483648 ≤ zB (ρ2 1) ∧ zB (ρ2 1) ≤ 2147483707 := zyXb hB 0 rfl
        rw [a1, zyBn (by omega)] at kb
        obtain ⟨n3, w1, w2, w3⟩ := zyXe hF 0 rfl
        have w1 : Int32.ofNat 5 = Int32.ofNat n3 := w1
        have w3 : zyEl (zymr r c) B s.heap 75 n3 = some (.int (ρ2 3)) := w3
        rw [← zyOi (by omega) (by omega) w1] at w3
        have f1 := zyX20 hF 1 rfl
        have f1 : ρ2 1 < ρ2 3 := f1
        rw [a1, ← zyI_s w3] at f1
        obtain ⟨n4, w4, w5, w6⟩ := zyXe hF 2 rfl
        have w4 : ρ2 1 + Int32.ofNat 460 = Int32.ofNat n4 := w4
        have w6 : zyEl (zymr r c) B s.heap 75 n4 = some (.int (ρ2 4)) := w6
        rw [a1, zyOa] at w4
        rw [← zyOi (by omega) (by omega) w4] at w6
        have hne := hw k (by omega) f1
        rw [Nat.add_comm, zyI_s w6] at hne
        obtain ⟨n5, u1, u2, u3⟩ := zyXe hF 4 rfl
        have u1 : Int32.ofNat 2 = Int32.ofNat n5 := u1
        have u3 : zyEl (zymr r c) B s.heap 75 n5 = some (.int (ρ2 5)) := u3
        have em : ρ2 5 = Int32.ofNat m0 := zyEk u1 (by omega) u2 u3 m2
        have f6 := zyX20 hF 5 rfl
        have f6 : ρ2 4 < ρ2 5 := f6
        rw [em] at f6
        have b4 : 2147483648 ≤ zB (ρ2 4) ∧ zB (ρ2 4) ≤ 2147483655 := zyXb hB 2 rfl
        have hval : zVl m0 (ρ2 4) := zVl_p m1 b4.1 hne f6
        refine zyGoB hIH hAt hB ⟨1, by decide⟩ [595, 34359738377, 0] rfl rfl rfl rfl ⟨hEE.trans e0, k + 1, by omega, fun h => absurd (show 1 = 0 from h) (by decide), fun _ => a1', fun m hm hms j hj => ?_⟩ ?_
        · by_cases e : j = k
          · rw [e, Nat.add_comm, zyI_s w6]
            rw [m2] at hms
            rw [← zyOi (by omega) (by omega) (Value.int.inj (Option.some.inj hms))]
            exact hval
          · exact i4 m hm hms j (by omega)
        · show 60 - zyN1 (ρ2 1 + Int32.ofNat 1) < 60 - zyN1 (ρ 1)
          rw [a1', i3 rfl, zyN1_of (by omega), zyN1_of (by omega)]
          omega
  · intro as E0 E E2 hT0 hΦ hlen i ρ hT hInv x hx ρ2 N2 B vo hXs hag hfr hT2 hvo
    rcases i with ⟨i, hi⟩
    have hi2 : i = 0 ∨ i = 1 := by omega
    rcases hi2 with rfl | rfl
    · cases hx
    · have hx : x ∈ [zxcw_br0, zxcw_br1, zxcw_br2] := hx
      have hg : ∀ k, k < 3 → ρ2 k = ρ k := hag
      have hI := hInv
      have hI : E = E0 ∧ ∃ k : Nat, k ≤ 60 ∧ (1 = 0 → k = 0) ∧ (1 = 1 → ρ 1 = Int32.ofNat k) ∧ ∀ m : Nat, m ≤ 8 → E0 75 2 = some (.int (Int32.ofNat m)) → ∀ j, j < k → zVl m (zyI E0 75 (460 + j)) := hI
      obtain ⟨hF, hB, hM⟩ := hXs
      have hEE : E2 = E := zyfr0 hfr
      rcases List.mem_cons.mp hx with ex | hx
      · subst ex
        exact ⟨hEE.trans hI.1, 0, zyvo_1 (c := 0) (by decide) (show zyvo (zyXn B ρ2 N2) [0] vo from hvo), Or.inl rfl⟩
      · skip
        rcases List.mem_cons.mp hx with ex | hx
        · subst ex
          exact ⟨hEE.trans hI.1, 0, zyvo_1 (c := 0) (by decide) (show zyvo (zyXn B ρ2 N2) [0] vo from hvo), Or.inl rfl⟩
        · skip
          have ex := List.mem_singleton.mp hx
          subst ex
          obtain ⟨e0, k, hk, i2, i3, i4⟩ := hI
          have a1 : ρ2 1 = Int32.ofNat k := (hg 1 (by decide)).trans (i3 rfl)
          rw [e0] at hF
          obtain ⟨n3, w1, w2, w3⟩ := zyXe hF 0 rfl
          have w1 : Int32.ofNat 5 = Int32.ofNat n3 := w1
          have w3 : E0 75 n3 = some (.int (ρ2 3)) := w3
          rw [← zyOi (by omega) (by omega) w1] at w3
          have f1 := zyX21 hF 1 rfl
          have f1 : ¬ ρ2 1 < ρ2 3 := f1
          rw [a1, ← zyI_s w3] at f1
          refine ⟨hEE.trans e0, 1, zyvo_1 (c := 8) (by decide) (show zyvo (zyXn B ρ2 N2) [8] vo from hvo), Or.inr ⟨rfl, fun m hm hms j hj hj2 => i4 m hm hms j ?_⟩⟩
          rw [zylt_B, zyBn (by omega)] at f1 hj2
          omega
end
section
/-! phases: beginsBraid .. isSpelledWished (printed by yex6.py) -/
noncomputable def zxbb_ar0 : zyXp := (0, [], [], [(24, 34359738369, 75, 16)], [(34359738369, 2147483648, 2147483656)], [(1212435, 0), (1212437, 34359738369)])
noncomputable def zpbb_a : zyPh := (0, [595], [(0, 4294967295)], [], [])
noncomputable def zpbb (i : Nat) : zyPh := zpbb_a
noncomputable def zXbb (i : Nat) : List zyXp := []
noncomputable def zRbb (i : Nat) : List zyXp := [zxbb_ar0]
noncomputable def zFbb (i : Nat) : zyR := [(74, 19, 21)]
noncomputable def zSbb (i : Nat) : Nat := 0
noncomputable def zxnb_ar0 : zyXp := (0, [], [0], [(24, 34359738369, 74, 152), (23, 0, 34359738369, 0)], [(34359738369, 2147483649, 2147484947)], [])
noncomputable def zxnb_ar1 : zyXp := (0, [], [0], [(24, 34359738369, 74, 152), (22, 0, 34359738369, 0), (24, 68719476737, 74, 160), (23, 0, 68719476737, 0)], [(34359738369, 2147483648, 2147483648), (68719476737, 2147483649, 4294967295)], [])
noncomputable def zxnb_ar2 : zyXp := (0, [], [0], [(24, 34359738369, 74, 152), (22, 0, 34359738369, 0), (24, 68719476737, 74, 160), (23, 0, 68719476737, 0)], [(34359738369, 2147483648, 2147483648), (68719476737, 0, 2147483647)], [])
noncomputable def zxnb_ar3 : zyXp := (0, [], [8], [(24, 34359738369, 74, 152), (22, 0, 34359738369, 0), (24, 68719476737, 74, 160), (22, 0, 68719476737, 0)], [(34359738369, 2147483648, 2147483648), (68719476737, 2147483648, 2147483648)], [])
noncomputable def zpnb_a : zyPh := (0, [595], [(0, 4294967295)], [], [])
noncomputable def zpnb (i : Nat) : zyPh := zpnb_a
noncomputable def zXnb (i : Nat) : List zyXp := []
noncomputable def zRnb (i : Nat) : List zyXp := [zxnb_ar0, zxnb_ar1, zxnb_ar2, zxnb_ar3]
noncomputable def zFnb (i : Nat) : zyR := []
noncomputable def zSnb (i : Nat) : Nat := 0
noncomputable def zxwa_ax0 : zyXp := (1, [595, 34359738369, 13], [595], [], [(34359738369, 0, 2147483652)], [])
noncomputable def zpwa_a : zyPh := (0, [595, 34359738369, 13], [(0, 4294967295), (0, 2147483652), (0, 4294967295)], [], [])
noncomputable def zxwa_bx0 : zyXp := (10, [595, 34359738369, 13], [595], [(23, 0, 103079215105, 0)], [(34359738369, 0, 2147483652), (103079215105, 2147483649, 2147483649)], [])
noncomputable def zxwa_br0 : zyXp := (0, [], [0], [(22, 0, 103079215105, 0)], [(103079215105, 2147483648, 2147483648)], [])
noncomputable def zpwa_b : zyPh := (4, [595, 34359738369, 13], [(0, 4294967295), (0, 2147483652), (0, 4294967295), (2147483648, 2147483649)], [], [103079215105])
noncomputable def zxwa_cx0 : zyXp := (15, [595, 34359738369, 0], [], [], [(34359738369, 0, 2147483652)], [])
noncomputable def zpwa_c : zyPh := (13, [595, 34359738369, 13], [(0, 4294967295), (0, 2147483652), (0, 4294967295)], [], [])
noncomputable def zxwa_dx0 : zyXp := (23, [595, 34359738369, 68719476737], [0, 0, 595], [(20, 0, 68719476737, 34359738369)], [(34359738369, 2147483649, 2147483652), (68719476737, 2147483648, 2147483651)], [])
noncomputable def zxwa_dx1 : zyXp := (33, [595, 13, 13], [595], [(21, 0, 68719476737, 34359738369)], [(34359738369, 0, 2147483652), (68719476737, 2147483648, 2147483652)], [])
noncomputable def zpwa_d : zyPh := (15, [595, 34359738369, 68719476737], [(0, 4294967295), (0, 2147483652), (2147483648, 2147483652)], [], [])
noncomputable def zxwa_ex0 : zyXp := (15, [595, 34359738369, 68719476745], [], [], [(34359738369, 0, 2147483652), (68719476737, 2147483648, 2147483651), (68719476745, 2147483649, 2147483652)], [])
noncomputable def zpwa_e : zyPh := (26, [595, 34359738369, 68719476737], [(0, 4294967295), (0, 2147483652), (2147483648, 2147483651)], [], [])
noncomputable def zxwa_fx0 : zyXp := (37, [595, 13, 13], [595], [], [], [])
noncomputable def zpwa_f : zyPh := (36, [595, 13, 13], [(0, 4294967295), (0, 4294967295), (0, 4294967295)], [], [])
noncomputable def zxwa_gr0 : zyXp := (0, [], [103079215105], [], [(103079215105, 2147483648, 2147483649)], [])
noncomputable def zpwa_g : zyPh := (40, [595, 13, 13], [(0, 4294967295), (0, 4294967295), (0, 4294967295), (2147483648, 2147483649)], [], [103079215105])
noncomputable def zpwa (i : Nat) : zyPh := zif (Nat.beq i 0) (zpwa_a) (zif (Nat.beq i 1) (zpwa_b) (zif (Nat.beq i 2) (zpwa_c) (zif (Nat.beq i 3) (zpwa_d) (zif (Nat.beq i 4) (zpwa_e) (zif (Nat.beq i 5) (zpwa_f) (zpwa_g))))))
noncomputable def zXwa (i : Nat) : List zyXp := zif (Nat.beq i 0) ([zxwa_ax0]) (zif (Nat.beq i 1) ([zxwa_bx0]) (zif (Nat.beq i 2) ([zxwa_cx0]) (zif (Nat.beq i 3) ([zxwa_dx0, zxwa_dx1]) (zif (Nat.beq i 4) ([zxwa_ex0]) (zif (Nat.beq i 5) ([zxwa_fx0]) ([]))))))
noncomputable def zRwa (i : Nat) : List zyXp := zif (Nat.beq i 0) ([]) (zif (Nat.beq i 1) ([zxwa_br0]) (zif (Nat.beq i 2) ([]) (zif (Nat.beq i 3) ([]) (zif (Nat.beq i 4) ([]) (zif (Nat.beq i 5) ([]) ([zxwa_gr0]))))))
noncomputable def zFwa (i : Nat) : zyR := zif (Nat.beq i 0) ([]) (zif (Nat.beq i 1) ([]) (zif (Nat.beq i 2) ([]) (zif (Nat.beq i 3) ([]) (zif (Nat.beq i 4) ([]) (zif (Nat.beq i 5) ([]) ([]))))))
noncomputable def zSwa (i : Nat) : Nat := zif (Nat.beq i 0) (0) (zif (Nat.beq i 1) (0) (zif (Nat.beq i 2) (0) (zif (Nat.beq i 3) (0) (zif (Nat.beq i 4) (0) (zif (Nat.beq i 5) (0) (0))))))
noncomputable def zxso_ax0 : zyXp := (1, [595, 34359738369, 68719476737], [595], [], [], [])
noncomputable def zpso_a : zyPh := (0, [595, 34359738369, 68719476737], [(0, 4294967295), (0, 4294967295), (0, 4294967295)], [], [])
noncomputable def zxso_bx0 : zyXp := (7, [595, 13, 13], [68719476737, 34359738369, 595], [], [], [])
noncomputable def zpso_b : zyPh := (4, [595, 34359738369, 68719476737], [(0, 4294967295), (0, 4294967295), (0, 4294967295)], [], [])
noncomputable def zxso_cx0 : zyXp := (11, [595, 13, 13], [595], [], [], [])
noncomputable def zpso_c : zyPh := (10, [595, 13, 13], [(0, 4294967295), (0, 4294967295), (0, 4294967295)], [], [])
noncomputable def zxso_dx0 : zyXp := (15, [595, 13, 13], [595], [], [], [])
noncomputable def zpso_d : zyPh := (14, [595, 13, 13], [(0, 4294967295), (0, 4294967295), (0, 4294967295)], [], [])
noncomputable def zxso_er0 : zyXp := (0, [], [103079215105], [], [(103079215105, 2147483648, 2147483649)], [])
noncomputable def zpso_e : zyPh := (18, [595, 13, 13], [(0, 4294967295), (0, 4294967295), (0, 4294967295), (2147483648, 2147483649)], [], [103079215105])
noncomputable def zpso (i : Nat) : zyPh := zif (Nat.beq i 0) (zpso_a) (zif (Nat.beq i 1) (zpso_b) (zif (Nat.beq i 2) (zpso_c) (zif (Nat.beq i 3) (zpso_d) (zpso_e))))
noncomputable def zXso (i : Nat) : List zyXp := zif (Nat.beq i 0) ([zxso_ax0]) (zif (Nat.beq i 1) ([zxso_bx0]) (zif (Nat.beq i 2) ([zxso_cx0]) (zif (Nat.beq i 3) ([zxso_dx0]) ([]))))
noncomputable def zRso (i : Nat) : List zyXp := zif (Nat.beq i 0) ([]) (zif (Nat.beq i 1) ([]) (zif (Nat.beq i 2) ([]) (zif (Nat.beq i 3) ([]) ([zxso_er0]))))
noncomputable def zFso (i : Nat) : zyR := zif (Nat.beq i 0) ([]) (zif (Nat.beq i 1) ([]) (zif (Nat.beq i 2) ([]) (zif (Nat.beq i 3) ([]) ([]))))
noncomputable def zSso (i : Nat) : Nat := zif (Nat.beq i 0) (0) (zif (Nat.beq i 1) (0) (zif (Nat.beq i 2) (0) (zif (Nat.beq i 3) (0) (0))))
noncomputable def zxge_ax0 : zyXp := (1, [595], [595], [], [], [])
noncomputable def zpge_a : zyPh := (0, [595], [(0, 4294967295)], [], [])
noncomputable def zxge_bx0 : zyXp := (10, [595], [595], [(23, 0, 34359738369, 0)], [(34359738369, 2147483649, 2147483649)], [])
noncomputable def zxge_br0 : zyXp := (0, [], [0], [(22, 0, 34359738369, 0)], [(34359738369, 2147483648, 2147483648)], [])
noncomputable def zpge_b : zyPh := (4, [595], [(0, 4294967295), (2147483648, 2147483649)], [], [34359738369])
noncomputable def zxge_cx0 : zyXp := (16, [595], [0, 0, 595], [], [], [])
noncomputable def zpge_c : zyPh := (13, [595], [(0, 4294967295)], [], [])
noncomputable def zxge_dx0 : zyXp := (20, [595], [595], [], [], [])
noncomputable def zpge_d : zyPh := (19, [595], [(0, 4294967295)], [], [])
noncomputable def zxge_ex0 : zyXp := (24, [595], [595], [], [], [])
noncomputable def zpge_e : zyPh := (23, [595], [(0, 4294967295)], [], [])
noncomputable def zxge_fx0 : zyXp := (28, [595], [595], [], [], [])
noncomputable def zpge_f : zyPh := (27, [595], [(0, 4294967295)], [], [])
noncomputable def zxge_gx0 : zyXp := (32, [595], [595], [], [], [])
noncomputable def zpge_g : zyPh := (31, [595], [(0, 4294967295)], [], [])
noncomputable def zxge_hr0 : zyXp := (0, [], [34359738369], [], [(34359738369, 2147483648, 2147483649)], [])
noncomputable def zpge_h : zyPh := (35, [595], [(0, 4294967295), (2147483648, 2147483649)], [], [34359738369])
noncomputable def zpge (i : Nat) : zyPh := zif (Nat.beq i 0) (zpge_a) (zif (Nat.beq i 1) (zpge_b) (zif (Nat.beq i 2) (zpge_c) (zif (Nat.beq i 3) (zpge_d) (zif (Nat.beq i 4) (zpge_e) (zif (Nat.beq i 5) (zpge_f) (zif (Nat.beq i 6) (zpge_g) (zpge_h)))))))
noncomputable def zXge (i : Nat) : List zyXp := zif (Nat.beq i 0) ([zxge_ax0]) (zif (Nat.beq i 1) ([zxge_bx0]) (zif (Nat.beq i 2) ([zxge_cx0]) (zif (Nat.beq i 3) ([zxge_dx0]) (zif (Nat.beq i 4) ([zxge_ex0]) (zif (Nat.beq i 5) ([zxge_fx0]) (zif (Nat.beq i 6) ([zxge_gx0]) ([])))))))
noncomputable def zRge (i : Nat) : List zyXp := zif (Nat.beq i 0) ([]) (zif (Nat.beq i 1) ([zxge_br0]) (zif (Nat.beq i 2) ([]) (zif (Nat.beq i 3) ([]) (zif (Nat.beq i 4) ([]) (zif (Nat.beq i 5) ([]) (zif (Nat.beq i 6) ([]) ([zxge_hr0])))))))
noncomputable def zFge (i : Nat) : zyR := zif (Nat.beq i 0) ([]) (zif (Nat.beq i 1) ([]) (zif (Nat.beq i 2) ([]) (zif (Nat.beq i 3) ([]) (zif (Nat.beq i 4) ([]) (zif (Nat.beq i 5) ([]) (zif (Nat.beq i 6) ([]) ([])))))))
noncomputable def zSge (i : Nat) : Nat := zif (Nat.beq i 0) (0) (zif (Nat.beq i 1) (0) (zif (Nat.beq i 2) (0) (zif (Nat.beq i 3) (0) (zif (Nat.beq i 4) (0) (zif (Nat.beq i 5) (0) (zif (Nat.beq i 6) (0) (0)))))))
noncomputable def zxsw_ax0 : zyXp := (1, [595, 13], [595], [], [], [])
noncomputable def zpsw_a : zyPh := (0, [595, 13], [(0, 4294967295), (0, 4294967295)], [], [])
noncomputable def zxsw_bx0 : zyXp := (10, [595, 13], [595], [(23, 0, 68719476737, 0)], [(68719476737, 2147483649, 2147483649)], [])
noncomputable def zxsw_br0 : zyXp := (0, [], [0], [(22, 0, 68719476737, 0)], [(68719476737, 2147483648, 2147483648)], [])
noncomputable def zpsw_b : zyPh := (4, [595, 13], [(0, 4294967295), (0, 4294967295), (2147483648, 2147483649)], [], [68719476737])
noncomputable def zxsw_cx0 : zyXp := (15, [595, 0], [], [], [], [])
noncomputable def zpsw_c : zyPh := (13, [595, 13], [(0, 4294967295), (0, 4294967295)], [], [])
noncomputable def zxsw_dx0 : zyXp := (30, [595, 34359738369], [103079215105, 595], [(20, 0, 34359738369, 68719476737), (24, 103079215105, 80, 34359738369)], [(34359738369, 2147483648, 2147483947), (68719476737, 2147483649, 2147483948), (103079215105, 2147483641, 2147483655)], [])
noncomputable def zxsw_dx1 : zyXp := (40, [595, 13], [595], [(21, 0, 34359738369, 68719476737)], [(34359738369, 2147483648, 2147483948), (68719476737, 2147483648, 2147483948)], [])
noncomputable def zpsw_d : zyPh := (15, [595, 34359738369], [(0, 4294967295), (2147483648, 2147483948), (2147483648, 2147483948)], [(1212430, 68719476737)], [])
noncomputable def zxsw_ex0 : zyXp := (15, [595, 34359738377], [], [], [(34359738369, 2147483648, 2147483947), (34359738377, 2147483649, 2147483948)], [])
noncomputable def zpsw_e : zyPh := (33, [595, 34359738369], [(0, 4294967295), (2147483648, 2147483947)], [], [])
noncomputable def zxsw_fx0 : zyXp := (44, [595, 13], [595], [], [], [])
noncomputable def zpsw_f : zyPh := (43, [595, 13], [(0, 4294967295), (0, 4294967295)], [], [])
noncomputable def zxsw_gr0 : zyXp := (0, [], [68719476737], [], [(68719476737, 2147483648, 2147483649)], [])
noncomputable def zpsw_g : zyPh := (47, [595, 13], [(0, 4294967295), (0, 4294967295), (2147483648, 2147483649)], [], [68719476737])
noncomputable def zpsw (i : Nat) : zyPh := zif (Nat.beq i 0) (zpsw_a) (zif (Nat.beq i 1) (zpsw_b) (zif (Nat.beq i 2) (zpsw_c) (zif (Nat.beq i 3) (zpsw_d) (zif (Nat.beq i 4) (zpsw_e) (zif (Nat.beq i 5) (zpsw_f) (zpsw_g))))))
noncomputable def zXsw (i : Nat) : List zyXp := zif (Nat.beq i 0) ([zxsw_ax0]) (zif (Nat.beq i 1) ([zxsw_bx0]) (zif (Nat.beq i 2) ([zxsw_cx0]) (zif (Nat.beq i 3) ([zxsw_dx0, zxsw_dx1]) (zif (Nat.beq i 4) ([zxsw_ex0]) (zif (Nat.beq i 5) ([zxsw_fx0]) ([]))))))
noncomputable def zRsw (i : Nat) : List zyXp := zif (Nat.beq i 0) ([]) (zif (Nat.beq i 1) ([zxsw_br0]) (zif (Nat.beq i 2) ([]) (zif (Nat.beq i 3) ([]) (zif (Nat.beq i 4) ([]) (zif (Nat.beq i 5) ([]) ([zxsw_gr0]))))))
noncomputable def zFsw (i : Nat) : zyR := zif (Nat.beq i 0) ([]) (zif (Nat.beq i 1) ([]) (zif (Nat.beq i 2) ([]) (zif (Nat.beq i 3) ([]) (zif (Nat.beq i 4) ([]) (zif (Nat.beq i 5) ([]) ([]))))))
noncomputable def zSsw (i : Nat) : Nat := zif (Nat.beq i 0) (0) (zif (Nat.beq i 1) (0) (zif (Nat.beq i 2) (0) (zif (Nat.beq i 3) (0) (zif (Nat.beq i 4) (0) (zif (Nat.beq i 5) (0) (0))))))
end
