/-! THE SIMPLE BRAIDS: the last comes into its place -/
section YGO5
variable {l : Launch} {mi : zyB} {en : zEn} {dep : Nat} {B : zCx} {s : State} {ι : Type} {φ : ι → zyPh} {Inv : ι → (Nat → Int32) → zyEm → Prop} {Mu : ι → (Nat → Int32) → zyEm → Nat} {M : Nat} {Wg : zyWt} {x : zyXp} {ρ2 : Nat → Int32} {N : Nat} {H : Heap} {locs : List Loc} {lsB : Array Slot} {stA : List Value}
/-- an element known at the next phase, whose code isn't known: z -/
theorem zyGoKi {nL : Nat} (hIH : zyIH mi nL B s φ Inv Mu M Wg) (hAt : zyAt mi B s nL x ρ2 N H locs lsB stA) (hB : ∀ b ∈ x.2.2.2.2.1, b.2.1 ≤ zB (zyw ρ2 b.1) ∧ zB (zyw ρ2 b.1) ≤ b.2.2) (i2 : ι) (cs : List Nat) (env : List (Nat × Nat)) (lo hi : Nat) (he : (φ i2).2.2.1 = env ++ [(lo, hi)]) (hnl : nL ≤ zyln env) (hpc : x.1 = (φ i2).1) (hchk : zand (zygoB nL x.2.1 (φ i2) cs) (zand (zynil x.2.2.1) (zynil (φ i2).2.2.2.2)) = true) (henv : zyenvB x.2.2.2.2.1 cs env 0 = true) (key : Nat) (c : zyCl) (hkc : (φ i2).2.2.2.1 = [(key, zysym (zyln env))]) (hg : zG mi (key / 16384) = some c) (hl : key % 16384 < zyLen c) (z : Int32) (hel : zyEl mi B H (key / 16384) (key % 16384) = some (.int z)) (hz : lo ≤ zB z ∧ zB z ≤ hi)
    (hInv : Inv i2 (zyρi (fun k => zyw ρ2 (zyag cs k)) (zyln env) z) (zyEl mi B H)) (hMu : Mu i2 (zyρi (fun k => zyw ρ2 (zyag cs k)) (zyln env) z) (zyEl mi B H) < M) : Wg H locs x.1 lsB stA := by
  obtain ⟨h1, h2⟩ := zand_iff hchk
  obtain ⟨h2, h3⟩ := zand_iff h2
  rw [hpc]
  refine hIH i2 _ H locs lsB stA hAt.1 hAt.2.1 hInv (zyAss (ρ' := zyρi (fun k => zyw ρ2 (zyag cs k)) (zyln env) z) hAt h1 (fun i hi => zyρi_n (by omega)) ?_ hAt.2.2.1 ?_ ?_) hMu
  · rw [he]
    refine zEnv_i (zyln_eq env) (fun k p hp => ?_) hz
    have := zyenvB_iff hB henv k p hp
    rwa [Nat.zero_add] at this
  · have e1 : x.2.2.1 = [] := by
      cases hq : x.2.2.1 with
      | nil => rfl
      | cons a t => rw [hq] at h2; cases h2
    have e2 : (φ i2).2.2.2.2 = [] := by
      cases hq : (φ i2).2.2.2.2 with
      | nil => rfl
      | cons a t => rw [hq] at h3; cases h3
    have h5 := hAt.2.2.2.2.2
    rw [e1] at h5
    rw [e2, zySt_n h5]
    trivial
  · intro p hp
    rw [hkc] at hp
    rw [List.mem_singleton.mp hp]
    refine ⟨c, _, hg, hl, hel, zyv_sym ?_ zyρi_e⟩
    rw [he, List.length_append, zyln_eq, List.length_singleton]
    omega
end YGO5
theorem zyfr1 {E E2 : zyEm} {p q : Nat} (h : ∀ a k, zyin [(p, q, q)] a k = false → E2 a k = E a k) : ∀ a k, ¬ (a = p ∧ k = q) → E2 a k = E a k := by
  intro a k hn
  apply h
  cases hq : zyin [(p, q, q)] a k with
  | false => rfl
  | true =>
    obtain ⟨p0, g1, g2, g3, g4⟩ := zyin_iff.mp hq
    rw [List.mem_singleton.mp g1] at g2 g3 g4
    exact absurd ⟨g2.symm, by dsimp only at g3 g4; omega⟩ hn
def zBr (E : zyEm) (m n : Nat) : Prop := ∀ f, f < n → zPm (zyrow E f) m
def zySe (E E2 : zyEm) : Prop := ∀ a2 k2, ¬ a2 = 81 → ¬ (a2 = 74 ∧ (k2 = 19 ∨ k2 = 20)) → E2 a2 k2 = E a2 k2
def zyΦse (as : List Int32) (E : zyEm) : Prop := as = [] ∧ ∃ n m : Nat, n ≤ 1299 ∧ m ≤ 8 ∧ E 74 19 = some (.int (Int32.ofNat n)) ∧ E 74 21 = some (.int (Int32.ofNat m)) ∧ zBr E m n
def zyΨse (_ : List Int32) (E E2 : zyEm) (vo : Option Value) : Prop := vo = none ∧ ∀ n m : Nat, n ≤ 1299 → m ≤ 8 → E 74 19 = some (.int (Int32.ofNat n)) → E 74 21 = some (.int (Int32.ofNat m)) → ∃ n', n' ≤ n ∧ E2 74 19 = some (.int (Int32.ofNat n')) ∧ zBr E2 m n' ∧ zySe E E2
def zyIse (i n m : Nat) (E0 : zyEm) (ρ : Nat → Int32) (E : zyEm) : Prop := E 74 19 = some (.int (Int32.ofNat n)) ∧ E 74 21 = some (.int (Int32.ofNat m)) ∧ zBr E m n ∧ zySe E0 E ∧ (i = 1 → ∃ b, b ≤ n ∧ ρ 1 = Int32.ofNat (b + 4294967294)) ∧ (i = 2 → ∃ a, a + 1 < n ∧ ρ 1 = Int32.ofNat a) ∧ ((i = 4 ∨ i = 5 ∨ i = 7) → 1 ≤ n) ∧ (i = 5 → ρ 2 = Int32.ofNat n)
def zyMse (i b n : Nat) : Nat := if i = 0 then 100000 else if i ≤ 2 then 50000 + 4 * b + (4 - i) else if i ≤ 5 then 20000 + 4 * n + (6 - i) else if i = 8 then 4 * n + 4 else 4 * n + (9 - i)
theorem zyO3 (a : Nat) : Int32.ofNat a + Int32.ofNat 4294967295 = Int32.ofNat (a + 1 + 4294967294) := (zyOa a 4294967295).trans (congrArg Int32.ofNat (Nat.add_assoc a 1 4294967294).symm)
theorem zyO2 {b : Nat} (h : b < 4294967294) : zyN1 (Int32.ofNat (b + 4294967294) + Int32.ofNat 2) = b := by
  rw [zyOa]
  unfold zyN1
  rw [zN_of]
  omega
theorem zyse_run : zyAllP (fun r c => zyrS (zymr r c) zxi236 (236, 0, 0, 0, 0) 5 zpse (fun _ _ => []) zFse zSse zXse zRse 9) = true := by decide +kernel
theorem zysettles {l : Launch} {r c : Nat} (h1 : 1 ≤ r) (h2 : r ≤ 4) (h3 : 1 ≤ c) (h4 : c ≤ 5) {en : zEn} {me : zMe} (hen : zG zxMeta 236 = some en) (hme : zG zMeth 236 = some me) : zyHc l (zymr r c) en me 5 0 zyΦse zyΨse := by
  have een : zG zxMeta 236 = some (zxi236, 1, 2, 11, 236, 0, 0, 0, 0) := rfl
  obtain ⟨me1, hme1, hOK⟩ := zall hen
  rw [hme] at hme1
  cases hme1
  rw [een] at hen
  cases hen
  have hr := zyAllP_iff zyse_run h1 h2 h3 h4
  obtain ⟨mesh, hmesh, -⟩ := zall (show zG zxMeta 233 = some (zxi233, 2, 8, 11, 233, 0, 0, 2, 0) from rfl)
  have hsh := zyshares (l := l) h1 h2 h3 h4 (show zG zxMeta 233 = some (zxi233, 2, 8, 11, 233, 0, 0, 2, 0) from rfl) hmesh
  obtain ⟨meno, hmeno, -⟩ := zall (show zG zxMeta 231 = some (zxi231, 2, 3, 11, 231, 0, 0, 2, 0) from rfl)
  have hno := zyisNothing (l := l) h1 h2 h3 h4 (show zG zxMeta 231 = some (zxi231, 2, 3, 11, 231, 0, 0, 2, 0) from rfl) hmeno
  obtain ⟨meht, hmeht, -⟩ := zall (show zG zxMeta 232 = some (zxi232, 2, 3, 11, 232, 0, 0, 2, 0) from rfl)
  have hht := zyisHalfTurn (l := l) h1 h2 h3 h4 (show zG zxMeta 232 = some (zxi232, 2, 3, 11, 232, 0, 0, 2, 0) from rfl) hmeht
  obtain ⟨melo, hmelo, -⟩ := zall (show zG zxMeta 234 = some (zxi234, 2, 3, 11, 234, 0, 0, 0, 0) from rfl)
  have hlo := zyleavesOut (l := l) h1 h2 h3 h4 (show zG zxMeta 234 = some (zxi234, 2, 3, 11, 234, 0, 0, 0, 0) from rfl) hmelo
  refine zycutS (mi := zymr r c) hOK rfl rfl ⟨_, rfl, rfl⟩ (ι := Fin 9) (fun i => zpse i.val) (fun _ _ => []) (fun i => zFse i.val) (fun i => zSse i.val) (fun i => zXse i.val) (fun i => zRse i.val) (fun i y2 ct en2 me2 h => by cases h) 200000 (fun i => zyAll_iff hr i.val i.isLt) ⟨0, by decide⟩ ⟨rfl, rfl, rfl, rfl⟩ ⟨by decide, by decide⟩
    (fun i as E0 ρ E => ∃ n0 n m : Nat, n0 ≤ 1299 ∧ m ≤ 8 ∧ E0 74 19 = some (.int (Int32.ofNat n0)) ∧ E0 74 21 = some (.int (Int32.ofNat m)) ∧ n ≤ n0 ∧ zyIse i.val n m E0 ρ E) (fun i as E0 ρ E => zyMse i.val (zyN1 (ρ 1 + Int32.ofNat 2)) (zyN1 (zyI E 74 19))) ?_ ?_ ?_
  · intro as E hlen hT hΦ
    obtain ⟨rfl, n, m, b1, b2, b3, b4, b5⟩ := hΦ
    exact ⟨zEnv_c (zyfull _) (zEnv_c (zyfull _) zEnv_nil), n, n, m, b1, b2, b3, b4, Nat.le_refl _, b3, b4, b5, fun _ _ _ _ => rfl, fun h => absurd (show 0 = 1 from h) (by decide), fun h => absurd (show 0 = 2 from h) (by decide), fun h => absurd (show 0 = 4 ∨ 0 = 5 ∨ 0 = 7 from h) (by decide), fun h => absurd (show 0 = 5 from h) (by decide)⟩
  · intro as B s Wg hRu hT0 hΦ hlen i ρ H hT hInv hIH x hx ρ2 N2 H2 locs lsB stA hAt hXs hag hfr hT2
    rcases i with ⟨i, hi⟩
    have hi2 : i = 0 ∨ i = 1 ∨ i = 2 ∨ i = 3 ∨ i = 4 ∨ i = 5 ∨ i = 6 ∨ i = 7 ∨ i = 8 := by omega
    rcases hi2 with rfl | rfl | rfl | rfl | rfl | rfl | rfl | rfl | rfl
    · have hx : x ∈ [zxse_ax0] := hx
      have hg : ∀ k, k < 2 → ρ2 k = ρ k := hag
      have hI := hInv
      have hI : ∃ n0 n m : Nat, n0 ≤ 1299 ∧ m ≤ 8 ∧ (zyEl (zymr r c) B s.heap) 74 19 = some (.int (Int32.ofNat n0)) ∧ (zyEl (zymr r c) B s.heap) 74 21 = some (.int (Int32.ofNat m)) ∧ n ≤ n0 ∧ zyIse 0 n m (zyEl (zymr r c) B s.heap) ρ (zyEl (zymr r c) B H) := hI
      obtain ⟨hF, hB, hM⟩ := hXs
      have hEE : (zyEl (zymr r c) B H2) = (zyEl (zymr r c) B H) := zyfr0 hfr
      have ex := List.mem_singleton.mp hx
      subst ex
      obtain ⟨n0, n, m, n1, m1, s1, s2, nn, i1, i2, i3, i4, i5, i6, i7, i8⟩ := hI
      have hn2 : zyN1 (zyI (zyEl (zymr r c) B H) 74 19) = n := zyI_of i1 (by omega)
      obtain ⟨n3, w1, w2, w3⟩ := zyXe hF 0 rfl
      have w1 : Int32.ofNat 19 = Int32.ofNat n3 := w1
      have w3 : zyEl (zymr r c) B H 74 n3 = some (.int (ρ2 2)) := w3
      have em : ρ2 2 = Int32.ofNat n := zyEk w1 (by decide) w2 w3 i1
      have e1 : ρ2 2 + Int32.ofNat 4294967294 = Int32.ofNat (n + 4294967294) := by rw [em, zyOa]
      refine zyGoB hIH hAt hB ⟨1, by decide⟩ [595, 103079215089] rfl rfl rfl rfl ⟨n0, n, m, n1, m1, s1, s2, nn, by rw [hEE]; exact i1, by rw [hEE]; exact i2, by rw [hEE]; exact i3, by rw [hEE]; exact i4, fun _ => ⟨n, Nat.le_refl _, e1⟩, fun h => absurd (show 1 = 2 from h) (by decide), fun h => absurd (show 1 = 4 ∨ 1 = 5 ∨ 1 = 7 from h) (by decide), fun h => absurd (show 1 = 5 from h) (by decide)⟩ ?_
      show zyMse 1 (zyN1 (ρ2 2 + Int32.ofNat 4294967294 + Int32.ofNat 2)) _ < 100000
      rw [e1, zyO2 (by omega)]
      show 50000 + 4 * n + (4 - 1) < 100000
      omega
    · have hx : x ∈ [zxse_bx0, zxse_bx1] := hx
      have hg : ∀ k, k < 2 → ρ2 k = ρ k := hag
      have hI := hInv
      have hI : ∃ n0 n m : Nat, n0 ≤ 1299 ∧ m ≤ 8 ∧ (zyEl (zymr r c) B s.heap) 74 19 = some (.int (Int32.ofNat n0)) ∧ (zyEl (zymr r c) B s.heap) 74 21 = some (.int (Int32.ofNat m)) ∧ n ≤ n0 ∧ zyIse 1 n m (zyEl (zymr r c) B s.heap) ρ (zyEl (zymr r c) B H) := hI
      obtain ⟨hF, hB, hM⟩ := hXs
      have hEE : (zyEl (zymr r c) B H2) = (zyEl (zymr r c) B H) := zyfr0 hfr
      rcases List.mem_cons.mp hx with ex | hx
      · subst ex
        obtain ⟨n0, n, m, n1, m1, s1, s2, nn, i1, i2, i3, i4, i5, i6, i7, i8⟩ := hI
        have hn2 : zyN1 (zyI (zyEl (zymr r c) B H) 74 19) = n := zyI_of i1 (by omega)
        refine zyGoB hIH hAt hB ⟨3, by decide⟩ [595, 0] rfl rfl rfl rfl ⟨n0, n, m, n1, m1, s1, s2, nn, by rw [hEE]; exact i1, by rw [hEE]; exact i2, by rw [hEE]; exact i3, by rw [hEE]; exact i4, fun h => absurd (show 3 = 1 from h) (by decide), fun h => absurd (show 3 = 2 from h) (by decide), fun h => absurd (show 3 = 4 ∨ 3 = 5 ∨ 3 = 7 from h) (by decide), fun h => absurd (show 3 = 5 from h) (by decide)⟩ ?_
        obtain ⟨b, b1, b2⟩ := i5 rfl
        show zyMse 3 _ (zyN1 (zyI (zyEl (zymr r c) B H2) 74 19)) < zyMse 1 _ _
        rw [hEE, hn2]
        show 20000 + 4 * n + (6 - 3) < 50000 + 4 * _ + (4 - 1)
        omega
      · skip
        have ex := List.mem_singleton.mp hx
        subst ex
        obtain ⟨n0, n, m, n1, m1, s1, s2, nn, i1, i2, i3, i4, i5, i6, i7, i8⟩ := hI
        have hn2 : zyN1 (zyI (zyEl (zymr r c) B H) 74 19) = n := zyI_of i1 (by omega)
        obtain ⟨b, b1, b2⟩ := i5 rfl
        have a1 : ρ2 1 = Int32.ofNat (b + 4294967294) := (hg 1 (by decide)).trans b2
        have q : 2147483648 ≤ zB (ρ2 1) ∧ zB (ρ2 1) ≤ 2147484945 := zyXb hB 0 rfl
        have b3 : 2 ≤ b := by
          rw [a1, zB_of, zb_def] at q
          omega
        have a2 : ρ2 1 = Int32.ofNat (b - 2) := by
          rw [a1]
          apply zN_inj
          rw [zN_of, zN_of]
          omega
        refine zyCa1 hRu hIH hAt hB hsh (ix := 220) (ax := 3728) rfl rfl rfl hmesh ⟨rfl, rfl, rfl, rfl⟩ (by decide) [34359738369] rfl (by decide) rfl ⟨2, by decide⟩ [595, 34359738369] [(0, 4294967295), (2147483648, 2147484945)] 2147483648 2147483649 rfl (by decide) rfl rfl rfl rfl rfl ?_ ?_
        · show zyΦsh [ρ2 1] _
          rw [a2, hEE]
          exact ⟨b - 2, m, rfl, by omega, m1, i2, i3 _ (by omega), i3 _ (by omega)⟩
        · intro E3 vo hT3 hΨ
          have hΨ : zyΨsh [ρ2 1] _ E3 vo := hΨ
          rw [a2, hEE] at hΨ
          obtain ⟨⟨z, ez, hz⟩, hq⟩ := hΨ
          obtain ⟨q1, q2, q3⟩ := hq (b - 2) m rfl (by omega) m1 i2
          have e19 : E3 74 19 = some (.int (Int32.ofNat n)) := (q1 74 19 (fun z => absurd z.1 (by decide))).trans i1
          refine ⟨z, ez, ?_, ?_, ⟨n0, n, m, n1, m1, s1, s2, nn, e19, (q1 74 21 (fun z => absurd z.1 (by decide))).trans i2, fun f hf => ?_, fun a2 k2 p1 p2 => (q1 a2 k2 (fun z => p1 z.1)).trans (i4 a2 k2 p1 p2), fun h => absurd (show 2 = 1 from h) (by decide), fun _ => ⟨b - 2, by omega, (zyρi_n (by decide)).trans a2⟩, fun h => absurd (show 2 = 4 ∨ 2 = 5 ∨ 2 = 7 from h) (by decide), fun h => absurd (show 2 = 5 from h) (by decide)⟩, ?_⟩
          · rcases hz with rfl | rfl <;> decide
          · rcases hz with rfl | rfl <;> decide
          · by_cases e1 : f = b - 2
            · rw [e1]
              exact q2
            · by_cases e2 : f = b - 2 + 1
              · rw [e2]
                exact q3
              · exact zPm_congr (fun j hj => zyrow_eq (q1 81 _ (fun z => by omega))) (i3 f hf)
          · show zyMse 2 (zyN1 (zyρi _ 2 z 1 + Int32.ofNat 2)) (zyN1 (zyI E3 74 19)) < zyMse 1 (zyN1 (ρ 1 + Int32.ofNat 2)) _
            rw [zyρi_n (by decide), zyI_of e19 (by omega), b2, zyO2 (by omega)]
            show 50000 + 4 * (zyN1 (ρ2 1 + Int32.ofNat 2)) + (4 - 2) < 50000 + 4 * b + (4 - 1)
            rw [a1, zyO2 (by omega)]
            omega
    · have hx : x ∈ [zxse_cx0, zxse_cx1] := hx
      have hg : ∀ k, k < 3 → ρ2 k = ρ k := hag
      have hI := hInv
      have hI : ∃ n0 n m : Nat, n0 ≤ 1299 ∧ m ≤ 8 ∧ (zyEl (zymr r c) B s.heap) 74 19 = some (.int (Int32.ofNat n0)) ∧ (zyEl (zymr r c) B s.heap) 74 21 = some (.int (Int32.ofNat m)) ∧ n ≤ n0 ∧ zyIse 2 n m (zyEl (zymr r c) B s.heap) ρ (zyEl (zymr r c) B H) := hI
      obtain ⟨hF, hB, hM⟩ := hXs
      have hEE : (zyEl (zymr r c) B H2) = (zyEl (zymr r c) B H) := zyfr0 hfr
      rcases List.mem_cons.mp hx with ex | hx
      · subst ex
        obtain ⟨n0, n, m, n1, m1, s1, s2, nn, i1, i2, i3, i4, i5, i6, i7, i8⟩ := hI
        have hn2 : zyN1 (zyI (zyEl (zymr r c) B H) 74 19) = n := zyI_of i1 (by omega)
        obtain ⟨a, a0, a1⟩ := i6 rfl
        have a1' : ρ2 1 = Int32.ofNat a := (hg 1 (by decide)).trans a1
        have e1 : ρ2 1 + Int32.ofNat 4294967295 = Int32.ofNat (a + 1 + 4294967294) := by rw [a1']; exact zyO3 a
        refine zyGoB hIH hAt hB ⟨1, by decide⟩ [595, 68719476729] rfl rfl rfl rfl ⟨n0, n, m, n1, m1, s1, s2, nn, by rw [hEE]; exact i1, by rw [hEE]; exact i2, by rw [hEE]; exact i3, by rw [hEE]; exact i4, fun _ => ⟨a + 1, by omega, e1⟩, fun h => absurd (show 1 = 2 from h) (by decide), fun h => absurd (show 1 = 4 ∨ 1 = 5 ∨ 1 = 7 from h) (by decide), fun h => absurd (show 1 = 5 from h) (by decide)⟩ ?_
        show zyMse 1 (zyN1 (ρ2 1 + Int32.ofNat 4294967295 + Int32.ofNat 2)) _ < zyMse 2 (zyN1 (ρ 1 + Int32.ofNat 2)) _
        rw [e1, zyO2 (by omega), a1, zyOa, zyN1_of (by omega)]
        show 50000 + 4 * (a + 1) + (4 - 1) < 50000 + 4 * (a + 2) + (4 - 2)
        omega
      · skip
        have ex := List.mem_singleton.mp hx
        subst ex
        obtain ⟨n0, n, m, n1, m1, s1, s2, nn, i1, i2, i3, i4, i5, i6, i7, i8⟩ := hI
        have hn2 : zyN1 (zyI (zyEl (zymr r c) B H) 74 19) = n := zyI_of i1 (by omega)
        refine zyGoB hIH hAt hB ⟨3, by decide⟩ [595, 0] rfl rfl rfl rfl ⟨n0, n, m, n1, m1, s1, s2, nn, by rw [hEE]; exact i1, by rw [hEE]; exact i2, by rw [hEE]; exact i3, by rw [hEE]; exact i4, fun h => absurd (show 3 = 1 from h) (by decide), fun h => absurd (show 3 = 2 from h) (by decide), fun h => absurd (show 3 = 4 ∨ 3 = 5 ∨ 3 = 7 from h) (by decide), fun h => absurd (show 3 = 5 from h) (by decide)⟩ ?_
        show zyMse 3 _ (zyN1 (zyI (zyEl (zymr r c) B H2) 74 19)) < zyMse 2 _ _
        rw [hEE, hn2]
        show 20000 + 4 * n + (6 - 3) < 50000 + 4 * _ + (4 - 2)
        omega
    · have hx : x ∈ [zxse_dx0, zxse_dx1] := hx
      have hg : ∀ k, k < 2 → ρ2 k = ρ k := hag
      have hI := hInv
      have hI : ∃ n0 n m : Nat, n0 ≤ 1299 ∧ m ≤ 8 ∧ (zyEl (zymr r c) B s.heap) 74 19 = some (.int (Int32.ofNat n0)) ∧ (zyEl (zymr r c) B s.heap) 74 21 = some (.int (Int32.ofNat m)) ∧ n ≤ n0 ∧ zyIse 3 n m (zyEl (zymr r c) B s.heap) ρ (zyEl (zymr r c) B H) := hI
      obtain ⟨hF, hB, hM⟩ := hXs
      have hEE : (zyEl (zymr r c) B H2) = (zyEl (zymr r c) B H) := zyfr0 hfr
      rcases List.mem_cons.mp hx with ex | hx
      · subst ex
        obtain ⟨n0, n, m, n1, m1, s1, s2, nn, i1, i2, i3, i4, i5, i6, i7, i8⟩ := hI
        have hn2 : zyN1 (zyI (zyEl (zymr r c) B H) 74 19) = n := zyI_of i1 (by omega)
        obtain ⟨n3, w1, w2, w3⟩ := zyXe hF 0 rfl
        have w1 : Int32.ofNat 19 = Int32.ofNat n3 := w1
        have w3 : zyEl (zymr r c) B H 74 n3 = some (.int (ρ2 2)) := w3
        have em : ρ2 2 = Int32.ofNat n := zyEk w1 (by decide) w2 w3 i1
        have f1 := zyX20 hF 1 rfl
        have f1 : Int32.ofNat 0 < ρ2 2 := f1
        rw [em, zyOl (by omega) (by omega)] at f1
        have e9 : ρ2 2 + Int32.ofNat 4294967295 = Int32.ofNat (n - 1) := by rw [em, zyOd f1]
        refine zyCa1 hRu hIH hAt hB hno (ix := 224) (ax := 3696) rfl rfl rfl hmeno ⟨rfl, rfl, rfl, rfl⟩ (by decide) [103079215097] rfl (by decide) rfl ⟨4, by decide⟩ [595, 0] [(0, 4294967295), (0, 4294967295)] 2147483648 2147483649 rfl (by decide) rfl rfl rfl rfl rfl ?_ ?_
        · show zyΦno [ρ2 2 + Int32.ofNat 4294967295] _
          rw [e9]
          exact ⟨n - 1, rfl, by omega⟩
        · intro E3 vo hT3 hΨ
          obtain ⟨e3, z, ez, hz⟩ := (show zyΨie [ρ2 2 + Int32.ofNat 4294967295] _ E3 vo from hΨ)
          rw [hEE] at e3
          subst e3
          refine ⟨z, ez, ?_, ?_, ⟨n0, n, m, n1, m1, s1, s2, nn, i1, i2, i3, i4, fun h => absurd (show 4 = 1 from h) (by decide), fun h => absurd (show 4 = 2 from h) (by decide), fun _ => f1, fun h => absurd (show 4 = 5 from h) (by decide)⟩, ?_⟩
          · rcases hz with rfl | rfl <;> decide
          · rcases hz with rfl | rfl <;> decide
          · show zyMse 4 _ (zyN1 (zyI (zyEl (zymr r c) B H) 74 19)) < zyMse 3 _ (zyN1 (zyI (zyEl (zymr r c) B H) 74 19))
            rw [hn2]
            show 20000 + 4 * n + (6 - 4) < 20000 + 4 * n + (6 - 3)
            omega
      · skip
        have ex := List.mem_singleton.mp hx
        subst ex
        obtain ⟨n0, n, m, n1, m1, s1, s2, nn, i1, i2, i3, i4, i5, i6, i7, i8⟩ := hI
        have hn2 : zyN1 (zyI (zyEl (zymr r c) B H) 74 19) = n := zyI_of i1 (by omega)
        refine zyGoB hIH hAt hB ⟨6, by decide⟩ [595, 0] rfl rfl rfl rfl ⟨n0, n, m, n1, m1, s1, s2, nn, by rw [hEE]; exact i1, by rw [hEE]; exact i2, by rw [hEE]; exact i3, by rw [hEE]; exact i4, fun h => absurd (show 6 = 1 from h) (by decide), fun h => absurd (show 6 = 2 from h) (by decide), fun h => absurd (show 6 = 4 ∨ 6 = 5 ∨ 6 = 7 from h) (by decide), fun h => absurd (show 6 = 5 from h) (by decide)⟩ ?_
        show zyMse 6 _ (zyN1 (zyI (zyEl (zymr r c) B H2) 74 19)) < zyMse 3 _ (zyN1 (zyI (zyEl (zymr r c) B H) 74 19))
        rw [hEE, hn2]
        show 4 * n + (9 - 6) < 20000 + 4 * n + (6 - 3)
        omega
    · have hx : x ∈ [zxse_ex0, zxse_ex1] := hx
      have hg : ∀ k, k < 3 → ρ2 k = ρ k := hag
      have hI := hInv
      have hI : ∃ n0 n m : Nat, n0 ≤ 1299 ∧ m ≤ 8 ∧ (zyEl (zymr r c) B s.heap) 74 19 = some (.int (Int32.ofNat n0)) ∧ (zyEl (zymr r c) B s.heap) 74 21 = some (.int (Int32.ofNat m)) ∧ n ≤ n0 ∧ zyIse 4 n m (zyEl (zymr r c) B s.heap) ρ (zyEl (zymr r c) B H) := hI
      obtain ⟨hF, hB, hM⟩ := hXs
      have hEE : (zyEl (zymr r c) B H2) = (zyEl (zymr r c) B H) := zyfr0 hfr
      rcases List.mem_cons.mp hx with ex | hx
      · subst ex
        obtain ⟨n0, n, m, n1, m1, s1, s2, nn, i1, i2, i3, i4, i5, i6, i7, i8⟩ := hI
        have hn2 : zyN1 (zyI (zyEl (zymr r c) B H) 74 19) = n := zyI_of i1 (by omega)
        have k1 := i7 (Or.inl rfl)
        refine zyGoKi hIH hAt hB ⟨5, by decide⟩ [595, 0] [(0, 4294967295), (0, 4294967295)] 2147483649 2147484947 rfl (by decide) rfl rfl rfl (74 * 16384 + 19) zymr74 rfl rfl (show 19 < 49 by decide) (Int32.ofNat n) ?_ ?_ ⟨n0, n, m, n1, m1, s1, s2, nn, by rw [hEE]; exact i1, by rw [hEE]; exact i2, by rw [hEE]; exact i3, by rw [hEE]; exact i4, fun h => absurd (show 5 = 1 from h) (by decide), fun h => absurd (show 5 = 2 from h) (by decide), fun _ => k1, fun _ => zyρi_e⟩ ?_
        · show zyEl (zymr r c) B H2 74 19 = _
          rw [hEE]
          exact i1
        · rw [zyBn (by omega)]
          omega
        · show zyMse 5 _ (zyN1 (zyI (zyEl (zymr r c) B H2) 74 19)) < zyMse 4 _ (zyN1 (zyI (zyEl (zymr r c) B H) 74 19))
          rw [hEE, hn2]
          show 20000 + 4 * n + (6 - 5) < 20000 + 4 * n + (6 - 4)
          omega
      · skip
        have ex := List.mem_singleton.mp hx
        subst ex
        obtain ⟨n0, n, m, n1, m1, s1, s2, nn, i1, i2, i3, i4, i5, i6, i7, i8⟩ := hI
        have hn2 : zyN1 (zyI (zyEl (zymr r c) B H) 74 19) = n := zyI_of i1 (by omega)
        refine zyGoB hIH hAt hB ⟨6, by decide⟩ [595, 0] rfl rfl rfl rfl ⟨n0, n, m, n1, m1, s1, s2, nn, by rw [hEE]; exact i1, by rw [hEE]; exact i2, by rw [hEE]; exact i3, by rw [hEE]; exact i4, fun h => absurd (show 6 = 1 from h) (by decide), fun h => absurd (show 6 = 2 from h) (by decide), fun h => absurd (show 6 = 4 ∨ 6 = 5 ∨ 6 = 7 from h) (by decide), fun h => absurd (show 6 = 5 from h) (by decide)⟩ ?_
        show zyMse 6 _ (zyN1 (zyI (zyEl (zymr r c) B H2) 74 19)) < zyMse 4 _ (zyN1 (zyI (zyEl (zymr r c) B H) 74 19))
        rw [hEE, hn2]
        show 4 * n + (9 - 6) < 20000 + 4 * n + (6 - 4)
        omega
    · have hx : x ∈ [zxse_fx0] := hx
      have hg : ∀ k, k < 3 → ρ2 k = ρ k := hag
      have hI := hInv
      have hI : ∃ n0 n m : Nat, n0 ≤ 1299 ∧ m ≤ 8 ∧ (zyEl (zymr r c) B s.heap) 74 19 = some (.int (Int32.ofNat n0)) ∧ (zyEl (zymr r c) B s.heap) 74 21 = some (.int (Int32.ofNat m)) ∧ n ≤ n0 ∧ zyIse 5 n m (zyEl (zymr r c) B s.heap) ρ (zyEl (zymr r c) B H) := hI
      obtain ⟨hF, hB, hM⟩ := hXs
      have hfr : ∀ a k, zyin [(74, 19, 19)] a k = false → (zyEl (zymr r c) B H2) a k = (zyEl (zymr r c) B H) a k := hfr
      have ex := List.mem_singleton.mp hx
      subst ex
      obtain ⟨n0, n, m, n1, m1, s1, s2, nn, i1, i2, i3, i4, i5, i6, i7, i8⟩ := hI
      have hn2 : zyN1 (zyI (zyEl (zymr r c) B H) 74 19) = n := zyI_of i1 (by omega)
      have k1 := i7 (Or.inr (Or.inl rfl))
      have a2 : ρ2 2 = Int32.ofNat n := (hg 2 (by decide)).trans (i8 rfl)
      have m2 := zyXm hM 0 rfl
      have m2 : zyEl (zymr r c) B H2 74 19 = some (.int (ρ2 2 + Int32.ofNat 4294967295)) := m2
      rw [a2, zyOd k1] at m2
      have hk := zyfr1 hfr
      refine zyGoB hIH hAt hB ⟨3, by decide⟩ [595, 0] rfl rfl rfl rfl ⟨n0, n - 1, m, n1, m1, s1, s2, by omega, m2, (hk 74 21 (fun z => absurd z.2 (by decide))).trans i2, fun f hf => zPm_congr (fun j hj => zyrow_eq (hk 81 _ (fun z => absurd z.1 (by decide)))) (i3 f (by omega)), fun a2 k2 p1 p2 => (hk a2 k2 (fun z => p2 ⟨z.1, Or.inl z.2⟩)).trans (i4 a2 k2 p1 p2), fun h => absurd (show 3 = 1 from h) (by decide), fun h => absurd (show 3 = 2 from h) (by decide), fun h => absurd (show 3 = 4 ∨ 3 = 5 ∨ 3 = 7 from h) (by decide), fun h => absurd (show 3 = 5 from h) (by decide)⟩ ?_
      show zyMse 3 _ (zyN1 (zyI (zyEl (zymr r c) B H2) 74 19)) < zyMse 5 _ (zyN1 (zyI (zyEl (zymr r c) B H) 74 19))
      rw [hn2, zyI_of m2 (by omega)]
      show 20000 + 4 * (n - 1) + (6 - 3) < 20000 + 4 * n + (6 - 5)
      omega
    · have hx : x ∈ [zxse_gx0] := hx
      have hg : ∀ k, k < 2 → ρ2 k = ρ k := hag
      have hI := hInv
      have hI : ∃ n0 n m : Nat, n0 ≤ 1299 ∧ m ≤ 8 ∧ (zyEl (zymr r c) B s.heap) 74 19 = some (.int (Int32.ofNat n0)) ∧ (zyEl (zymr r c) B s.heap) 74 21 = some (.int (Int32.ofNat m)) ∧ n ≤ n0 ∧ zyIse 6 n m (zyEl (zymr r c) B s.heap) ρ (zyEl (zymr r c) B H) := hI
      obtain ⟨hF, hB, hM⟩ := hXs
      have hEE : (zyEl (zymr r c) B H2) = (zyEl (zymr r c) B H) := zyfr0 hfr
      have ex := List.mem_singleton.mp hx
      subst ex
      obtain ⟨n0, n, m, n1, m1, s1, s2, nn, i1, i2, i3, i4, i5, i6, i7, i8⟩ := hI
      have hn2 : zyN1 (zyI (zyEl (zymr r c) B H) 74 19) = n := zyI_of i1 (by omega)
      obtain ⟨n3, w1, w2, w3⟩ := zyXe hF 0 rfl
      have w1 : Int32.ofNat 19 = Int32.ofNat n3 := w1
      have w3 : zyEl (zymr r c) B H 74 n3 = some (.int (ρ2 2)) := w3
      have em : ρ2 2 = Int32.ofNat n := zyEk w1 (by decide) w2 w3 i1
      have f1 := zyX20 hF 1 rfl
      have f1 : Int32.ofNat 0 < ρ2 2 := f1
      rw [em, zyOl (by omega) (by omega)] at f1
      have e9 : Int32.ofNat 0 = Int32.ofNat 0 := rfl
      refine zyCa1 hRu hIH hAt hB hht (ix := 227) (ax := 3712) rfl rfl rfl hmeht ⟨rfl, rfl, rfl, rfl⟩ (by decide) [0] rfl (by decide) rfl ⟨7, by decide⟩ [595, 0] [(0, 4294967295), (0, 4294967295)] 2147483648 2147483649 rfl (by decide) rfl rfl rfl rfl rfl ?_ ?_
      · show zyΦno [Int32.ofNat 0] _
        exact ⟨0, rfl, by omega⟩
      · intro E3 vo hT3 hΨ
        obtain ⟨e3, z, ez, hz⟩ := (show zyΨie [Int32.ofNat 0] _ E3 vo from hΨ)
        rw [hEE] at e3
        subst e3
        refine ⟨z, ez, ?_, ?_, ⟨n0, n, m, n1, m1, s1, s2, nn, i1, i2, i3, i4, fun h => absurd (show 7 = 1 from h) (by decide), fun h => absurd (show 7 = 2 from h) (by decide), fun _ => f1, fun h => absurd (show 7 = 5 from h) (by decide)⟩, ?_⟩
        · rcases hz with rfl | rfl <;> decide
        · rcases hz with rfl | rfl <;> decide
        · show zyMse 7 _ (zyN1 (zyI (zyEl (zymr r c) B H) 74 19)) < zyMse 6 _ (zyN1 (zyI (zyEl (zymr r c) B H) 74 19))
          rw [hn2]
          show 4 * n + (9 - 7) < 4 * n + (9 - 6)
          omega
    · have hx : x ∈ [zxse_hx0] := hx
      have hg : ∀ k, k < 3 → ρ2 k = ρ k := hag
      have hI := hInv
      have hI : ∃ n0 n m : Nat, n0 ≤ 1299 ∧ m ≤ 8 ∧ (zyEl (zymr r c) B s.heap) 74 19 = some (.int (Int32.ofNat n0)) ∧ (zyEl (zymr r c) B s.heap) 74 21 = some (.int (Int32.ofNat m)) ∧ n ≤ n0 ∧ zyIse 7 n m (zyEl (zymr r c) B s.heap) ρ (zyEl (zymr r c) B H) := hI
      obtain ⟨hF, hB, hM⟩ := hXs
      have hEE : (zyEl (zymr r c) B H2) = (zyEl (zymr r c) B H) := zyfr0 hfr
      have ex := List.mem_singleton.mp hx
      subst ex
      obtain ⟨n0, n, m, n1, m1, s1, s2, nn, i1, i2, i3, i4, i5, i6, i7, i8⟩ := hI
      have hn2 : zyN1 (zyI (zyEl (zymr r c) B H) 74 19) = n := zyI_of i1 (by omega)
      have k1 := i7 (Or.inr (Or.inr rfl))
      refine zyCa0 hRu hIH hAt hB hlo (ix := 230) (ax := 3744) rfl rfl rfl hmelo ⟨rfl, rfl, rfl, rfl⟩ (by decide) [0] rfl (by decide) rfl ⟨8, by decide⟩ [595, 0] rfl rfl rfl rfl ?_ ?_
      · show zyΦlo [Int32.ofNat 0] _
        rw [hEE]
        exact ⟨rfl, n, k1, by omega, i1⟩
      · intro E3 vo hT3 hΨ
        have hΨ : zyΨlo [Int32.ofNat 0] _ E3 vo := hΨ
        rw [hEE] at hΨ
        obtain ⟨ev, hq⟩ := hΨ
        obtain ⟨q1, q2, q3⟩ := hq n k1 (by omega) i1
        refine ⟨ev, ⟨n0, n - 1, m, n1, m1, s1, s2, by omega, q1, (q3 74 21 (by decide) (fun z => absurd z.2 (by decide))).trans i2, fun f hf => zPm_congr (fun j hj => ?_) (i3 (f + 1) (by omega)), fun a2 k2 p1 p2 => (q3 a2 k2 p1 (fun z => p2 ⟨z.1, Or.inl z.2⟩)).trans (i4 a2 k2 p1 p2), fun h => absurd (show 8 = 1 from h) (by decide), fun h => absurd (show 8 = 2 from h) (by decide), fun h => absurd (show 8 = 4 ∨ 8 = 5 ∨ 8 = 7 from h) (by decide), fun h => absurd (show 8 = 5 from h) (by decide)⟩, ?_⟩
        · show zfv E3 (8 * f + j) = zfv (zyEl (zymr r c) B H) (8 * (f + 1) + j)
          rw [q2 _ (by omega), show 8 * f + j + 8 = 8 * (f + 1) + j by omega]
        · show zyMse 8 _ (zyN1 (zyI E3 74 19)) < zyMse 7 _ (zyN1 (zyI (zyEl (zymr r c) B H) 74 19))
          rw [hn2, zyI_of q1 (by omega)]
          show 4 * (n - 1) + 4 < 4 * n + (9 - 7)
          omega
    · have hx : x ∈ [zxse_ix0] := hx
      have hg : ∀ k, k < 2 → ρ2 k = ρ k := hag
      have hI := hInv
      have hI : ∃ n0 n m : Nat, n0 ≤ 1299 ∧ m ≤ 8 ∧ (zyEl (zymr r c) B s.heap) 74 19 = some (.int (Int32.ofNat n0)) ∧ (zyEl (zymr r c) B s.heap) 74 21 = some (.int (Int32.ofNat m)) ∧ n ≤ n0 ∧ zyIse 8 n m (zyEl (zymr r c) B s.heap) ρ (zyEl (zymr r c) B H) := hI
      obtain ⟨hF, hB, hM⟩ := hXs
      have hfr : ∀ a k, zyin [(74, 20, 20)] a k = false → (zyEl (zymr r c) B H2) a k = (zyEl (zymr r c) B H) a k := hfr
      have ex := List.mem_singleton.mp hx
      subst ex
      obtain ⟨n0, n, m, n1, m1, s1, s2, nn, i1, i2, i3, i4, i5, i6, i7, i8⟩ := hI
      have hn2 : zyN1 (zyI (zyEl (zymr r c) B H) 74 19) = n := zyI_of i1 (by omega)
      have hk := zyfr1 hfr
      have e19 : zyEl (zymr r c) B H2 74 19 = some (.int (Int32.ofNat n)) := (hk 74 19 (fun z => absurd z.2 (by decide))).trans i1
      refine zyGoB hIH hAt hB ⟨6, by decide⟩ [595, 0] rfl rfl rfl rfl ⟨n0, n, m, n1, m1, s1, s2, nn, e19, (hk 74 21 (fun z => absurd z.2 (by decide))).trans i2, fun f hf => zPm_congr (fun j hj => zyrow_eq (hk 81 _ (fun z => absurd z.1 (by decide)))) (i3 f hf), fun a2 k2 p1 p2 => (hk a2 k2 (fun z => p2 ⟨z.1, Or.inr z.2⟩)).trans (i4 a2 k2 p1 p2), fun h => absurd (show 6 = 1 from h) (by decide), fun h => absurd (show 6 = 2 from h) (by decide), fun h => absurd (show 6 = 4 ∨ 6 = 5 ∨ 6 = 7 from h) (by decide), fun h => absurd (show 6 = 5 from h) (by decide)⟩ ?_
      show zyMse 6 _ (zyN1 (zyI (zyEl (zymr r c) B H2) 74 19)) < zyMse 8 _ (zyN1 (zyI (zyEl (zymr r c) B H) 74 19))
      rw [hn2, zyI_of e19 (by omega)]
      show 4 * n + (9 - 6) < 4 * n + 4
      omega
  · intro as E0 E E2 hT0 hΦ hlen i ρ hT hInv x hx ρ2 N2 B vo hXs hag hfr hT2 hvo
    rcases i with ⟨i, hi⟩
    have hi2 : i = 0 ∨ i = 1 ∨ i = 2 ∨ i = 3 ∨ i = 4 ∨ i = 5 ∨ i = 6 ∨ i = 7 ∨ i = 8 := by omega
    rcases hi2 with rfl | rfl | rfl | rfl | rfl | rfl | rfl | rfl | rfl
    · cases hx
    · cases hx
    · cases hx
    · cases hx
    · cases hx
    · cases hx
    · have hx : x ∈ [zxse_gr0] := hx
      have hg : ∀ k, k < 2 → ρ2 k = ρ k := hag
      have hI := hInv
      have hI : ∃ n0 n m : Nat, n0 ≤ 1299 ∧ m ≤ 8 ∧ E0 74 19 = some (.int (Int32.ofNat n0)) ∧ E0 74 21 = some (.int (Int32.ofNat m)) ∧ n ≤ n0 ∧ zyIse 6 n m E0 ρ E := hI
      obtain ⟨hF, hB, hM⟩ := hXs
      have hEE : E2 = E := zyfr0 hfr
      have ex := List.mem_singleton.mp hx
      subst ex
      obtain ⟨n0, n, m, n1, m1, s1, s2, nn, i1, i2, i3, i4, i5, i6, i7, i8⟩ := hI
      refine ⟨zyvo_0 (show zyvo _ [] vo from hvo), fun n' m' c1 c2 c3 c4 => ?_⟩
      rw [s1] at c3
      rw [s2] at c4
      have e1 := zyOi (by omega) (by omega) (Value.int.inj (Option.some.inj c3))
      have e2 := zyOi (by omega) (by omega) (Value.int.inj (Option.some.inj c4))
      subst e1
      subst e2
      rw [hEE]
      exact ⟨n, nn, i1, i3, i4⟩
    · have hx : x ∈ [zxse_hr0] := hx
      have hg : ∀ k, k < 3 → ρ2 k = ρ k := hag
      have hI := hInv
      have hI : ∃ n0 n m : Nat, n0 ≤ 1299 ∧ m ≤ 8 ∧ E0 74 19 = some (.int (Int32.ofNat n0)) ∧ E0 74 21 = some (.int (Int32.ofNat m)) ∧ n ≤ n0 ∧ zyIse 7 n m E0 ρ E := hI
      obtain ⟨hF, hB, hM⟩ := hXs
      have hEE : E2 = E := zyfr0 hfr
      have ex := List.mem_singleton.mp hx
      subst ex
      obtain ⟨n0, n, m, n1, m1, s1, s2, nn, i1, i2, i3, i4, i5, i6, i7, i8⟩ := hI
      refine ⟨zyvo_0 (show zyvo _ [] vo from hvo), fun n' m' c1 c2 c3 c4 => ?_⟩
      rw [s1] at c3
      rw [s2] at c4
      have e1 := zyOi (by omega) (by omega) (Value.int.inj (Option.some.inj c3))
      have e2 := zyOi (by omega) (by omega) (Value.int.inj (Option.some.inj c4))
      subst e1
      subst e2
      rw [hEE]
      exact ⟨n, nn, i1, i3, i4⟩
    · cases hx
