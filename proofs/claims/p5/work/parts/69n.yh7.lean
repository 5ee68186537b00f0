/-! THE SIMPLE BRAIDS: a letter comes behind all -/
section YGO6
variable {l : Launch} {mi : zyB} {en : zEn} {dep : Nat} {B : zCx} {s : State} {ι : Type} {φ : ι → zyPh} {Inv : ι → (Nat → Int32) → zyEm → Prop} {Mu : ι → (Nat → Int32) → zyEm → Nat} {M : Nat} {Wg : zyWt} {x : zyXp} {ρ2 : Nat → Int32} {N : Nat} {H : Heap} {locs : List Loc} {lsB : Array Slot} {stA : List Value}
/-- a call that answers nothing, an element known behind it -/
theorem zyCaK (hRu : zyRu l mi en dep B s Wg) (hIH : zyIH mi en.2.2.1 B s φ Inv Mu M Wg) (hAt : zyAt mi B s en.2.2.1 x ρ2 N H locs lsB stA) (hB : ∀ b ∈ x.2.2.2.2.1, b.2.1 ≤ zB (zyw ρ2 b.1) ∧ zB (zyw ρ2 b.1) ≤ b.2.2) {en2 : zEn} {me2 : zMe} {dep2 na2 : Nat} {Φ2 : List Int32 → zyEm → Prop} {Ψ2 : List Int32 → zyEm → zyEm → Option Value → Prop} (hHc : zyHc l mi en2 me2 dep2 na2 Φ2 Ψ2) {ix ax : Nat} (hrow : en.1 x.1 = (.invokevirtual ix, x.1 + 3, ax)) (hkd : zG zKd (ax / 16) = some 0) (hen2 : zG zxMeta (ax / 16) = some en2) (hme2 : zG zMeth (ax / 16) = some me2) (hsh : en2.2.2.2.1 = 11 ∧ en2.2.1 = na2 + 1 ∧ en2.2.2.2.2.2.1 = 0 ∧ en2.2.2.2.2.2.2.1 = 0) (hdp : dep2 + 1 ≤ dep) (cs2 : List Nat) (hcs2 : x.2.2.1 = cs2.reverse ++ [595]) (hk : ∀ c ∈ cs2, c % 8 ≤ 1) (hlen : cs2.length = na2)
    (i2 : ι) (cs : List Nat) (env : List (Nat × Nat)) (lo hi : Nat) (he : (φ i2).2.2.1 = env ++ [(lo, hi)]) (hnl : en.2.2.1 ≤ zyln env) (hpc : (φ i2).1 = x.1 + 3) (hchk : zand (zygoB en.2.2.1 x.2.1 (φ i2) cs) (zynil (φ i2).2.2.2.2) = true) (henv : zyenvB x.2.2.2.2.1 cs env 0 = true) (key : Nat) (c : zyCl) (hkc : (φ i2).2.2.2.1 = [(key, zysym (zyln env))]) (hg : zG mi (key / 16384) = some c) (hl : key % 16384 < zyLen c)
    (hΦ : Φ2 (cs2.map (zyw ρ2)) (zyEl mi B H)) (kk : ∀ (E3 : zyEm) (vo : Option Value), zyTy mi E3 → Ψ2 (cs2.map (zyw ρ2)) (zyEl mi B H) E3 vo → vo = none ∧ ∃ z : Int32, E3 (key / 16384) (key % 16384) = some (.int z) ∧ (lo ≤ zB z ∧ zB z ≤ hi) ∧ Inv i2 (zyρi (fun k => zyw ρ2 (zyag cs k)) (zyln env) z) E3 ∧ Mu i2 (zyρi (fun k => zyw ρ2 (zyag cs k)) (zyln env) z) E3 < M) : Wg H locs x.1 lsB stA := by
  obtain ⟨c1, c2⟩ := zand_iff hchk
  have hst := hAt.2.2.2.2.2
  rw [hcs2] at hst
  obtain ⟨q1, q2, rfl, g1, g2⟩ := zySt_split hst
  have e1 := zySt_ints (fun c hc => hk c (List.mem_reverse.mp hc)) g1
  obtain ⟨b, u, rfl, g3, g4⟩ := zySt_c g2
  have e2 := zySt_n g4
  have e3 : b = .ref (zad B 74) := zyv_3 (v := 595) g3 (by decide)
  have e4 : q1 ++ b :: u = (zyAr B (cs2.map (zyw ρ2))).reverse ++ ([] : List Value) := by
    rw [e1, e2, e3]
    unfold zyAr
    rw [List.reverse_cons, List.map_reverse, List.map_reverse, List.append_assoc]
    rfl
  rw [e4]
  refine hRu.1 x.1 ix ax en2 me2 dep2 na2 Φ2 Ψ2 _ _ H locs lsB (Nat.zero_le 8) hrow hkd hen2 hme2 hsh.1 hsh.2.1 hsh.2.2.1 hsh.2.2.2 hHc hdp (by rw [List.length_map]; exact hlen) hAt.1 hAt.2.2.1 hAt.2.2.2.1.1 hΦ (fun H3 locs3 vo hI3 hO3 hlo3 hΨ => ?_)
  obtain ⟨k1, z, k2, k3, k4, k5⟩ := kk _ vo (zyTy_of hI3) hΨ
  rw [← hpc, k1]
  refine hIH i2 _ H3 locs3 lsB _ hI3 (fun q hq => (hO3 q hq).trans (hAt.2.1 q hq)) k4 (zyAss (ρ' := zyρi (fun k => zyw ρ2 (zyag cs k)) (zyln env) z) hAt c1 (fun i hi => zyρi_n (by omega)) ?_ hlo3 ?_ ?_) k5
  · rw [he]
    refine zEnv_i (zyln_eq env) (fun k p hp => ?_) k3
    have := zyenvB_iff hB henv k p hp
    rwa [Nat.zero_add] at this
  · cases hq : (φ i2).2.2.2.2 with
    | nil => exact zySt_s0
    | cons a t => rw [hq] at c2; cases c2
  · intro p hp
    rw [hkc] at hp
    rw [List.mem_singleton.mp hp]
    refine ⟨c, _, hg, hl, k2, zyv_sym ?_ zyρi_e⟩
    rw [he, List.length_append, zyln_eq, List.length_singleton]
    omega
end YGO6
theorem zylt_B {x y : Int32} : x < y ↔ zB x < zB y := by
  have e1 := zB_int x
  have e2 := zB_int y
  rw [Int32.lt_iff_toInt_lt]
  omega
theorem zyBng {k : Nat} (h : k < 2147483647) : zB (Int32.ofNat (4294967295 - k)) = 2147483647 - k := by
  rw [zB_of, zb_def]
  omega
theorem zyOng {k : Nat} (h : k < 2147483647) : Int32.ofNat 0 - Int32.ofNat (4294967295 - k) = Int32.ofNat (k + 1) := by
  apply zN_inj
  rw [zN_sub, zN_of, zN_of, zN_of]
  omega
/-- a letter of m threads: k and the one behind cross; σ: in front -/
def zLt (σ : Bool) (k m : Nat) (x : Int32) : Prop := k + 1 < m ∧ ((σ = true ∧ x = Int32.ofNat (k + 1)) ∨ (σ = false ∧ x = Int32.ofNat (4294967295 - k)))
theorem zLt_pos {σ : Bool} {k m : Nat} {x : Int32} (hm : m ≤ 8) (h : zLt σ k m x) (hp : Int32.ofNat 0 < x) : σ = true ∧ x = Int32.ofNat (k + 1) := by
  obtain ⟨h1, h2 | ⟨-, h2⟩⟩ := h
  · exact h2
  · rw [h2, zylt_B, zyBng (by omega), zyBn (by omega)] at hp
    omega
theorem zLt_neg {σ : Bool} {k m : Nat} {x : Int32} (hm : m ≤ 8) (h : zLt σ k m x) (hp : ¬ Int32.ofNat 0 < x) : σ = false ∧ x = Int32.ofNat (4294967295 - k) := by
  obtain ⟨h1, ⟨-, h2⟩ | h2⟩ := h
  · exfalso
    apply hp
    rw [h2, zyOl (by omega) (by omega)]
    omega
  · exact h2
def zjr (σ : Bool) (m j : Nat) : Nat := if σ = true then j else m - 1 - j
theorem zjr_pm {σ : Bool} {m : Nat} {h : Nat → Nat} (hh : ∀ j, j < m → h j = zjr σ m j) : zPm h m := by
  cases σ with
  | true => exact zPm_id hh
  | false => exact zPm_rev hh
theorem zjr_lt {σ : Bool} {m j : Nat} (hj : j < m) : zjr σ m j < m := by
  unfold zjr
  split <;> omega
def zyJo (E E2 : zyEm) : Prop := ∀ a2 k2, ¬ a2 = 81 → ¬ a2 = 82 → ¬ (a2 = 74 ∧ (k2 = 19 ∨ k2 = 20)) → E2 a2 k2 = E a2 k2
def zyΦjo (as : List Int32) (E : zyEm) : Prop := ∃ (σ : Bool) (k n m : Nat) (x : Int32), as = [x] ∧ zLt σ k m x ∧ n ≤ 1298 ∧ m ≤ 8 ∧ E 74 19 = some (.int (Int32.ofNat n)) ∧ E 74 21 = some (.int (Int32.ofNat m)) ∧ zBr E m n
def zyΨjo (_ : List Int32) (E E2 : zyEm) (vo : Option Value) : Prop := vo = none ∧ ∀ n m : Nat, n ≤ 1298 → m ≤ 8 → E 74 19 = some (.int (Int32.ofNat n)) → E 74 21 = some (.int (Int32.ofNat m)) → ∃ n', n' ≤ n + 1 ∧ E2 74 19 = some (.int (Int32.ofNat n')) ∧ zBr E2 m n' ∧ zyJo E E2
def zyIjo (i : Nat) (σ : Bool) (k n m : Nat) (x : Int32) (E0 : zyEm) (ρ : Nat → Int32) (E : zyEm) : Prop := zyJo E0 E ∧ (i ≤ 11 → E 74 19 = some (.int (Int32.ofNat n)) ∧ E 74 21 = some (.int (Int32.ofNat m)) ∧ zBr E m n) ∧ (i ≤ 6 ∨ (8 ≤ i ∧ i ≤ 10) → ρ 1 = x) ∧ ((1 ≤ i ∧ i ≤ 6) ∨ (8 ≤ i ∧ i ≤ 10) → ρ 2 = Int32.ofNat k) ∧ (1 ≤ i ∧ i ≤ 2 → ∃ f, ρ 3 = Int32.ofNat f ∧ f ≤ n ∧ (i = 2 → f < n)) ∧ (i ≤ 3 → 1 ≤ i → σ = false) ∧
  (i = 4 → ∃ p, p ≤ m ∧ ρ 3 = Int32.ofNat p ∧ ∀ j, j < p → zyrow E n j = zjr σ m j) ∧ (i = 5 → ∃ p, p < m ∧ ρ 3 = Int32.ofNat p ∧ ∀ j, j ≤ p → zyrow E n j = zjr σ m j) ∧ (i = 6 → σ = true ∧ ∀ j, j < m → zyrow E n j = if j = k then k + 1 else j) ∧ ((i = 7 ∨ i = 11) → zPm (zyrow E n) m) ∧
  (i = 8 → zPm (zyrow E n) m ∧ ∃ p, ρ 5 = Int32.ofNat p ∧ p < m ∧ zyrow E n p = k) ∧ (i = 9 → zPm (zyrow E n) m ∧ ∃ p q, ρ 3 = Int32.ofNat p ∧ ρ 5 = Int32.ofNat q ∧ p < m ∧ q < m ∧ zyrow E n p = k ∧ zyrow E n q = k + 1) ∧
  (i = 10 → ∃ p q g, ρ 4 = Int32.ofNat q ∧ p < m ∧ q < m ∧ g p = k ∧ g q = k + 1 ∧ zPm g m ∧ ∀ j, j < m → zyrow E n j = if j = p then k + 1 else g j) ∧ (i = 11 → ρ 5 = Int32.ofNat n) ∧ (i = 12 → ∃ n', n' ≤ n + 1 ∧ E 74 19 = some (.int (Int32.ofNat n')) ∧ zBr E m n')
def zyMjo (i v : Nat) : Nat := if i = 0 then 100000 else if i ≤ 2 then 50000 + 4 * (1300 - v) + (2 - i) else if i = 3 then 40000 else if i ≤ 5 then 20000 + 4 * (8 - v) + (5 - i) else 16 - i
theorem zyjo_run : zyAllP (fun r c => zyrS (zymr r c) zxi237 (237, 0, 0, 0, 0) 6 zpjo (fun _ _ => []) zFjo zSjo zXjo zRjo 13) = true := by decide +kernel
theorem zyjoins {l : Launch} {r c : Nat} (h1 : 1 ≤ r) (h2 : r ≤ 4) (h3 : 1 ≤ c) (h4 : c ≤ 5) {en : zEn} {me : zMe} (hen : zG zxMeta 237 = some en) (hme : zG zMeth 237 = some me) : zyHc l (zymr r c) en me 6 1 zyΦjo zyΨjo := by
  have een : zG zxMeta 237 = some (zxi237, 2, 5, 11, 237, 0, 0, 0, 0) := rfl
  obtain ⟨me1, hme1, hOK⟩ := zall hen
  rw [hme] at hme1
  cases hme1
  rw [een] at hen
  cases hen
  have hr := zyAllP_iff zyjo_run h1 h2 h3 h4
  obtain ⟨mela, hmela, -⟩ := zall (show zG zxMeta 227 = some (zxi227, 4, 4, 11, 227, 0, 0, 0, 0) from rfl)
  have hla := zylays (l := l) h1 h2 h3 h4 (show zG zxMeta 227 = some (zxi227, 4, 4, 11, 227, 0, 0, 0, 0) from rfl) hmela
  obtain ⟨mecf, hmecf, -⟩ := zall (show zG zxMeta 229 = some (zxi229, 3, 4, 11, 229, 0, 0, 1, 0) from rfl)
  have hcf := zycomesFrom (l := l) h1 h2 h3 h4 (show zG zxMeta 229 = some (zxi229, 3, 4, 11, 229, 0, 0, 1, 0) from rfl) hmecf
  obtain ⟨memi, hmemi, -⟩ := zall (show zG zxMeta 235 = some (zxi235, 2, 4, 11, 235, 0, 0, 0, 0) from rfl)
  have hmi := zymirrors (l := l) h1 h2 h3 h4 (show zG zxMeta 235 = some (zxi235, 2, 4, 11, 235, 0, 0, 0, 0) from rfl) hmemi
  obtain ⟨mese, hmese, -⟩ := zall (show zG zxMeta 236 = some (zxi236, 1, 2, 11, 236, 0, 0, 0, 0) from rfl)
  have hse := zysettles (l := l) h1 h2 h3 h4 (show zG zxMeta 236 = some (zxi236, 1, 2, 11, 236, 0, 0, 0, 0) from rfl) hmese
  refine zycutS (mi := zymr r c) hOK rfl rfl ⟨_, rfl, rfl⟩ (ι := Fin 13) (fun i => zpjo i.val) (fun _ _ => []) (fun i => zFjo i.val) (fun i => zSjo i.val) (fun i => zXjo i.val) (fun i => zRjo i.val) (fun i y2 ct en2 me2 h => by cases h) 200000 (fun i => zyAll_iff hr i.val i.isLt) ⟨0, by decide⟩ ⟨rfl, rfl, rfl, rfl⟩ ⟨by decide, by decide⟩
    (fun i as E0 ρ E => ∃ (σ : Bool) (k n m : Nat) (x : Int32), as = [x] ∧ zLt σ k m x ∧ n ≤ 1298 ∧ m ≤ 8 ∧ E0 74 19 = some (.int (Int32.ofNat n)) ∧ E0 74 21 = some (.int (Int32.ofNat m)) ∧ zyIjo i.val σ k n m x E0 ρ E) (fun i as E0 ρ E => zyMjo i.val (zyN1 (ρ 3))) ?_ ?_ ?_
  · intro as E hlen hT hΦ
    obtain ⟨σ, k, n, m, x, rfl, hlt, b1, b2, b3, b4, b5⟩ := hΦ
    refine ⟨zEnv_c (zyfull _) (zEnv_c ?_ (zEnv_c (zyfull _) (zEnv_c (zyfull _) (zEnv_c (zyfull _) zEnv_nil)))), σ, k, n, m, x, rfl, hlt, b1, b2, b3, b4, fun _ _ _ _ _ => rfl, fun _ => ⟨b3, b4, b5⟩, fun _ => rfl, fun h => absurd (show (1 ≤ 0 ∧ 0 ≤ 6) ∨ (8 ≤ 0 ∧ 0 ≤ 10) from h) (by decide), fun h => absurd (show 1 ≤ 0 ∧ 0 ≤ 2 from h) (by decide), fun _ h => absurd (show 1 ≤ 0 from h) (by decide), fun h => absurd (show 0 = 4 from h) (by decide), fun h => absurd (show 0 = 5 from h) (by decide), fun h => absurd (show 0 = 6 from h) (by decide), fun h => absurd (show 0 = 7 ∨ 0 = 11 from h) (by decide), fun h => absurd (show 0 = 8 from h) (by decide), fun h => absurd (show 0 = 9 from h) (by decide), fun h => absurd (show 0 = 10 from h) (by decide), fun h => absurd (show 0 = 11 from h) (by decide), fun h => absurd (show 0 = 12 from h) (by decide)⟩
    show 2147483641 ≤ zB x ∧ zB x ≤ 2147483655
    obtain ⟨q1, ⟨-, q2⟩ | ⟨-, q2⟩⟩ := hlt
    · rw [q2, zyBn (by omega)]
      omega
    · rw [q2, zyBng (by omega)]
      omega
  · intro as B s Wg hRu hT0 hΦ hlen i ρ H hT hInv hIH x hx ρ2 N2 H2 locs lsB stA hAt hXs hag hfr hT2
    rcases i with ⟨i, hi⟩
    have hi2 : i = 0 ∨ i = 1 ∨ i = 2 ∨ i = 3 ∨ i = 4 ∨ i = 5 ∨ i = 6 ∨ i = 7 ∨ i = 8 ∨ i = 9 ∨ i = 10 ∨ i = 11 ∨ i = 12 := by omega
    rcases hi2 with rfl | rfl | rfl | rfl | rfl | rfl | rfl | rfl | rfl | rfl | rfl | rfl | rfl
    · have hx : x ∈ [zxjo_ax0, zxjo_ax1] := hx
      have hg : ∀ k, k < 5 → ρ2 k = ρ k := hag
      have hI := hInv
      have hI : ∃ (σ : Bool) (k n m : Nat) (x : Int32), as = [x] ∧ zLt σ k m x ∧ n ≤ 1298 ∧ m ≤ 8 ∧ (zyEl (zymr r c) B s.heap) 74 19 = some (.int (Int32.ofNat n)) ∧ (zyEl (zymr r c) B s.heap) 74 21 = some (.int (Int32.ofNat m)) ∧ zyIjo 0 σ k n m x (zyEl (zymr r c) B s.heap) ρ (zyEl (zymr r c) B H) := hI
      obtain ⟨hF, hB, hM⟩ := hXs
      have hEE : (zyEl (zymr r c) B H2) = (zyEl (zymr r c) B H) := zyfr0 hfr
      rcases List.mem_cons.mp hx with ex | hx
      · subst ex
        obtain ⟨σ, k, n, m, x0, has, hlt, n1, m1, s1, s2, i1, i2, i3, i4, i5, i6, i7, i8, i9, i10, i11, i12, i13, i14, i15⟩ := hI
        have hlt1 : k + 1 < m := hlt.1
        obtain ⟨c1, c2, c3⟩ := i2 (by decide)
        have a1 : ρ2 1 = x0 := (hg 1 (by decide)).trans (i3 (by decide))
        have f0 := zyX20 hF 0 rfl
        have f0 : ρ2 1 < Int32.ofNat 0 := f0
        obtain ⟨q1, q2⟩ := zLt_neg m1 hlt (fun q => by
          rw [← a1] at q
          rw [zylt_B] at f0 q
          omega)
        have f1 := zyXop hF 1 rfl (by decide)
        have f1 : ρ2 5 = Int32.ofNat 0 - ρ2 1 := f1
        rw [a1, q2, zyOng (by omega)] at f1
        have b2 : ρ2 5 + Int32.ofNat 4294967295 = Int32.ofNat k := by rw [f1, zyOd (by omega), Nat.add_sub_cancel]
        refine zyGoB hIH hAt hB ⟨1, by decide⟩ [595, 34359738369, 206158430201, 0, 0] rfl rfl rfl rfl ⟨σ, k, n, m, x0, has, hlt, n1, m1, s1, s2, by rw [hEE]; exact i1, fun _ => ⟨by rw [hEE]; exact c1, by rw [hEE]; exact c2, by rw [hEE]; exact c3⟩, fun _ => a1, fun _ => b2, fun _ => ⟨0, rfl, Nat.zero_le _, fun h => absurd h (by decide)⟩, fun _ _ => q1, fun h => absurd (show 1 = 4 from h) (by decide), fun h => absurd (show 1 = 5 from h) (by decide), fun h => absurd (show 1 = 6 from h) (by decide), fun h => absurd (show 1 = 7 ∨ 1 = 11 from h) (by decide), fun h => absurd (show 1 = 8 from h) (by decide), fun h => absurd (show 1 = 9 from h) (by decide), fun h => absurd (show 1 = 10 from h) (by decide), fun h => absurd (show 1 = 11 from h) (by decide), fun h => absurd (show 1 = 12 from h) (by decide)⟩ ?_
        show zyMjo 1 (zyN1 (Int32.ofNat 0)) < 100000
        rw [zyN1_of (by omega)]
        show 50000 + 4 * (1300 - 0) + (2 - 1) < 100000
        omega
      · skip
        have ex := List.mem_singleton.mp hx
        subst ex
        obtain ⟨σ, k, n, m, x0, has, hlt, n1, m1, s1, s2, i1, i2, i3, i4, i5, i6, i7, i8, i9, i10, i11, i12, i13, i14, i15⟩ := hI
        have hlt1 : k + 1 < m := hlt.1
        obtain ⟨c1, c2, c3⟩ := i2 (by decide)
        have a1 : ρ2 1 = x0 := (hg 1 (by decide)).trans (i3 (by decide))
        have f0 := zyX21 hF 0 rfl
        have f0 : ¬ ρ2 1 < Int32.ofNat 0 := f0
        have q : σ = true ∧ x0 = Int32.ofNat (k + 1) := by
          obtain ⟨-, q | ⟨-, q⟩⟩ := hlt
          · exact q
          · exfalso
            apply f0
            rw [a1, q, zylt_B, zyBng (by omega), zyBn (by omega)]
            omega
        obtain ⟨q1, q2⟩ := q
        have b2 : ρ2 1 + Int32.ofNat 4294967295 = Int32.ofNat k := by rw [a1, q2, zyOd (by omega), Nat.add_sub_cancel]
        refine zyGo hIH hAt ⟨4, by decide⟩ [595, 34359738369, 68719476729, 0, 0] rfl rfl rfl (zEnv_c (zyfull _) (zEnv_c ?_ (zEnv_c ?_ (zEnv_c ?_ (zEnv_c (zyfull _) zEnv_nil))))) ⟨σ, k, n, m, x0, has, hlt, n1, m1, s1, s2, by rw [hEE]; exact i1, fun _ => ⟨by rw [hEE]; exact c1, by rw [hEE]; exact c2, by rw [hEE]; exact c3⟩, fun _ => a1, fun _ => b2, fun h => absurd (show 1 ≤ 4 ∧ 4 ≤ 2 from h) (by decide), fun h => absurd (show 4 ≤ 3 from h) (by decide), fun _ => ⟨0, Nat.zero_le _, rfl, fun j hj => absurd hj (Nat.not_lt_zero j)⟩, fun h => absurd (show 4 = 5 from h) (by decide), fun h => absurd (show 4 = 6 from h) (by decide), fun h => absurd (show 4 = 7 ∨ 4 = 11 from h) (by decide), fun h => absurd (show 4 = 8 from h) (by decide), fun h => absurd (show 4 = 9 from h) (by decide), fun h => absurd (show 4 = 10 from h) (by decide), fun h => absurd (show 4 = 11 from h) (by decide), fun h => absurd (show 4 = 12 from h) (by decide)⟩ ?_
        · show 2147483641 ≤ zB (ρ2 1) ∧ zB (ρ2 1) ≤ 2147483655
          rw [a1, q2, zyBn (by omega)]
          omega
        · show 2147483648 ≤ zB (ρ2 1 + Int32.ofNat 4294967295) ∧ zB (ρ2 1 + Int32.ofNat 4294967295) ≤ 2147483654
          rw [b2, zyBn (by omega)]
          omega
        · show 2147483648 ≤ zB (Int32.ofNat 0) ∧ zB (Int32.ofNat 0) ≤ 2147483656
          decide
        · show zyMjo 4 (zyN1 (Int32.ofNat 0)) < 100000
          rw [zyN1_of (by omega)]
          show 20000 + 4 * (8 - 0) + (5 - 4) < 100000
          omega
    · have hx : x ∈ [zxjo_bx0, zxjo_bx1] := hx
      have hg : ∀ k, k < 5 → ρ2 k = ρ k := hag
      have hI := hInv
      have hI : ∃ (σ : Bool) (k n m : Nat) (x : Int32), as = [x] ∧ zLt σ k m x ∧ n ≤ 1298 ∧ m ≤ 8 ∧ (zyEl (zymr r c) B s.heap) 74 19 = some (.int (Int32.ofNat n)) ∧ (zyEl (zymr r c) B s.heap) 74 21 = some (.int (Int32.ofNat m)) ∧ zyIjo 1 σ k n m x (zyEl (zymr r c) B s.heap) ρ (zyEl (zymr r c) B H) := hI
      obtain ⟨hF, hB, hM⟩ := hXs
      have hEE : (zyEl (zymr r c) B H2) = (zyEl (zymr r c) B H) := zyfr0 hfr
      rcases List.mem_cons.mp hx with ex | hx
      · subst ex
        obtain ⟨σ, k, n, m, x0, has, hlt, n1, m1, s1, s2, i1, i2, i3, i4, i5, i6, i7, i8, i9, i10, i11, i12, i13, i14, i15⟩ := hI
        have hlt1 : k + 1 < m := hlt.1
        obtain ⟨c1, c2, c3⟩ := i2 (by decide)
        have a1 : ρ2 1 = x0 := (hg 1 (by decide)).trans (i3 (by decide))
        have a2 : ρ2 2 = Int32.ofNat k := (hg 2 (by decide)).trans (i4 (by decide))
        obtain ⟨f, f1, f2, f3⟩ := i5 (by decide)
        have a3 : ρ2 3 = Int32.ofNat f := (hg 3 (by decide)).trans f1
        obtain ⟨n3, w1, w2, w3⟩ := zyXe hF 0 rfl
        have w1 : Int32.ofNat 19 = Int32.ofNat n3 := w1
        have w3 : zyEl (zymr r c) B H 74 n3 = some (.int (ρ2 5)) := w3
        have en : ρ2 5 = Int32.ofNat n := zyEk w1 (by decide) w2 w3 c1
        have g1 := zyX20 hF 1 rfl
        have g1 : ρ2 3 < ρ2 5 := g1
        rw [a3, en, zyOl (by omega) (by omega)] at g1
        refine zyCa0 hRu hIH hAt hB hmi (ix := 236) (ax := 3760) rfl rfl rfl hmemi ⟨rfl, rfl, rfl, rfl⟩ (by decide) [103079215105] rfl (by decide) rfl ⟨2, by decide⟩ [595, 34359738369, 68719476737, 103079215105, 0] rfl rfl rfl rfl ?_ ?_
        · show zyΦmi [ρ2 3] _
          rw [a3, hEE]
          exact ⟨f, m, rfl, by omega, m1, c2, c3 f g1⟩
        · intro E3 vo hT3 hΨ
          have hΨ : zyΨmi [ρ2 3] _ E3 vo := hΨ
          rw [a3, hEE] at hΨ
          obtain ⟨ev, hq⟩ := hΨ
          obtain ⟨q1, q2⟩ := hq f m rfl (by omega) m1 c2
          have e19 := (q1 74 19 (fun z => absurd z.1 (by decide)) (by decide)).trans c1
          have e21 := (q1 74 21 (fun z => absurd z.1 (by decide)) (by decide)).trans c2
          have br : zBr E3 m n := fun g hg => by
            by_cases e : g = f
            · rw [e]
              exact q2
            · exact zPm_congr (fun j hj => zyrow_eq (q1 81 _ (fun z => by omega) (by decide))) (c3 g hg)
          refine ⟨ev, ⟨σ, k, n, m, x0, has, hlt, n1, m1, s1, s2, fun a2 k2 p1 p2 p3 => (q1 a2 k2 (fun z => p1 z.1) p2).trans (i1 a2 k2 p1 p2 p3), fun _ => ⟨e19, e21, br⟩, fun _ => a1, fun _ => a2, fun _ => ⟨f, a3, f2, fun _ => g1⟩, fun _ _ => i6 (by decide) (by decide), fun h => absurd (show 2 = 4 from h) (by decide), fun h => absurd (show 2 = 5 from h) (by decide), fun h => absurd (show 2 = 6 from h) (by decide), fun h => absurd (show 2 = 7 ∨ 2 = 11 from h) (by decide), fun h => absurd (show 2 = 8 from h) (by decide), fun h => absurd (show 2 = 9 from h) (by decide), fun h => absurd (show 2 = 10 from h) (by decide), fun h => absurd (show 2 = 11 from h) (by decide), fun h => absurd (show 2 = 12 from h) (by decide)⟩, ?_⟩
          show zyMjo 2 (zyN1 (ρ2 3)) < zyMjo 1 (zyN1 (ρ 3))
          rw [a3, f1, zyN1_of (by omega)]
          show 50000 + 4 * (1300 - f) + (2 - 2) < 50000 + 4 * (1300 - f) + (2 - 1)
          omega
      · skip
        have ex := List.mem_singleton.mp hx
        subst ex
        obtain ⟨σ, k, n, m, x0, has, hlt, n1, m1, s1, s2, i1, i2, i3, i4, i5, i6, i7, i8, i9, i10, i11, i12, i13, i14, i15⟩ := hI
        have hlt1 : k + 1 < m := hlt.1
        obtain ⟨c1, c2, c3⟩ := i2 (by decide)
        have a1 : ρ2 1 = x0 := (hg 1 (by decide)).trans (i3 (by decide))
        have a2 : ρ2 2 = Int32.ofNat k := (hg 2 (by decide)).trans (i4 (by decide))
        obtain ⟨f, f1, f2, f3⟩ := i5 (by decide)
        have a3 : ρ2 3 = Int32.ofNat f := (hg 3 (by decide)).trans f1
        refine zyGoB hIH hAt hB ⟨3, by decide⟩ [595, 34359738369, 68719476737, 0, 0] rfl rfl rfl rfl ⟨σ, k, n, m, x0, has, hlt, n1, m1, s1, s2, by rw [hEE]; exact i1, fun _ => ⟨by rw [hEE]; exact c1, by rw [hEE]; exact c2, by rw [hEE]; exact c3⟩, fun _ => a1, fun _ => a2, fun h => absurd (show 1 ≤ 3 ∧ 3 ≤ 2 from h) (by decide), fun _ _ => i6 (by decide) (by decide), fun h => absurd (show 3 = 4 from h) (by decide), fun h => absurd (show 3 = 5 from h) (by decide), fun h => absurd (show 3 = 6 from h) (by decide), fun h => absurd (show 3 = 7 ∨ 3 = 11 from h) (by decide), fun h => absurd (show 3 = 8 from h) (by decide), fun h => absurd (show 3 = 9 from h) (by decide), fun h => absurd (show 3 = 10 from h) (by decide), fun h => absurd (show 3 = 11 from h) (by decide), fun h => absurd (show 3 = 12 from h) (by decide)⟩ ?_
        show 40000 < zyMjo 1 (zyN1 (ρ 3))
        rw [f1, zyN1_of (by omega)]
        show 40000 < 50000 + 4 * (1300 - f) + (2 - 1)
        omega
    · have hx : x ∈ [zxjo_cx0] := hx
      have hg : ∀ k, k < 5 → ρ2 k = ρ k := hag
      have hI := hInv
      have hI : ∃ (σ : Bool) (k n m : Nat) (x : Int32), as = [x] ∧ zLt σ k m x ∧ n ≤ 1298 ∧ m ≤ 8 ∧ (zyEl (zymr r c) B s.heap) 74 19 = some (.int (Int32.ofNat n)) ∧ (zyEl (zymr r c) B s.heap) 74 21 = some (.int (Int32.ofNat m)) ∧ zyIjo 2 σ k n m x (zyEl (zymr r c) B s.heap) ρ (zyEl (zymr r c) B H) := hI
      obtain ⟨hF, hB, hM⟩ := hXs
      have hEE : (zyEl (zymr r c) B H2) = (zyEl (zymr r c) B H) := zyfr0 hfr
      have ex := List.mem_singleton.mp hx
      subst ex
      obtain ⟨σ, k, n, m, x0, has, hlt, n1, m1, s1, s2, i1, i2, i3, i4, i5, i6, i7, i8, i9, i10, i11, i12, i13, i14, i15⟩ := hI
      have hlt1 : k + 1 < m := hlt.1
      obtain ⟨c1, c2, c3⟩ := i2 (by decide)
      have a1 : ρ2 1 = x0 := (hg 1 (by decide)).trans (i3 (by decide))
      have a2 : ρ2 2 = Int32.ofNat k := (hg 2 (by decide)).trans (i4 (by decide))
      obtain ⟨f, f1, f2, f3⟩ := i5 (by decide)
      have a3 : ρ2 3 = Int32.ofNat f := (hg 3 (by decide)).trans f1
      have a3' : ρ2 3 + Int32.ofNat 1 = Int32.ofNat (f + 1) := by rw [a3, zyOa]
      have f4 := f3 rfl
      refine zyGoB hIH hAt hB ⟨1, by decide⟩ [595, 34359738369, 68719476737, 103079215113, 0] rfl rfl rfl rfl ⟨σ, k, n, m, x0, has, hlt, n1, m1, s1, s2, by rw [hEE]; exact i1, fun _ => ⟨by rw [hEE]; exact c1, by rw [hEE]; exact c2, by rw [hEE]; exact c3⟩, fun _ => a1, fun _ => a2, fun _ => ⟨f + 1, a3', f4, fun h => absurd h (by decide)⟩, fun _ _ => i6 (by decide) (by decide), fun h => absurd (show 1 = 4 from h) (by decide), fun h => absurd (show 1 = 5 from h) (by decide), fun h => absurd (show 1 = 6 from h) (by decide), fun h => absurd (show 1 = 7 ∨ 1 = 11 from h) (by decide), fun h => absurd (show 1 = 8 from h) (by decide), fun h => absurd (show 1 = 9 from h) (by decide), fun h => absurd (show 1 = 10 from h) (by decide), fun h => absurd (show 1 = 11 from h) (by decide), fun h => absurd (show 1 = 12 from h) (by decide)⟩ ?_
      show zyMjo 1 (zyN1 (ρ2 3 + Int32.ofNat 1)) < zyMjo 2 (zyN1 (ρ 3))
      rw [a3', f1, zyN1_of (by omega), zyN1_of (by omega)]
      show 50000 + 4 * (1300 - (f + 1)) + (2 - 1) < 50000 + 4 * (1300 - f) + (2 - 2)
      omega
    · have hx : x ∈ [zxjo_dx0] := hx
      have hg : ∀ k, k < 5 → ρ2 k = ρ k := hag
      have hI := hInv
      have hI : ∃ (σ : Bool) (k n m : Nat) (x : Int32), as = [x] ∧ zLt σ k m x ∧ n ≤ 1298 ∧ m ≤ 8 ∧ (zyEl (zymr r c) B s.heap) 74 19 = some (.int (Int32.ofNat n)) ∧ (zyEl (zymr r c) B s.heap) 74 21 = some (.int (Int32.ofNat m)) ∧ zyIjo 3 σ k n m x (zyEl (zymr r c) B s.heap) ρ (zyEl (zymr r c) B H) := hI
      obtain ⟨hF, hB, hM⟩ := hXs
      have hfr : ∀ a k, zyin [(74, 20, 20)] a k = false → (zyEl (zymr r c) B H2) a k = (zyEl (zymr r c) B H) a k := hfr
      have ex := List.mem_singleton.mp hx
      subst ex
      obtain ⟨σ, k, n, m, x0, has, hlt, n1, m1, s1, s2, i1, i2, i3, i4, i5, i6, i7, i8, i9, i10, i11, i12, i13, i14, i15⟩ := hI
      have hlt1 : k + 1 < m := hlt.1
      obtain ⟨c1, c2, c3⟩ := i2 (by decide)
      have a1 : ρ2 1 = x0 := (hg 1 (by decide)).trans (i3 (by decide))
      have a2 : ρ2 2 = Int32.ofNat k := (hg 2 (by decide)).trans (i4 (by decide))
      have hk := zyfr1 hfr
      have e19 := (hk 74 19 (fun z => absurd z.2 (by decide))).trans c1
      have e21 := (hk 74 21 (fun z => absurd z.2 (by decide))).trans c2
      refine zyGoB hIH hAt hB ⟨4, by decide⟩ [595, 34359738369, 68719476737, 0, 0] rfl rfl rfl rfl ⟨σ, k, n, m, x0, has, hlt, n1, m1, s1, s2, fun a2 k2 p1 p2 p3 => (hk a2 k2 (fun z => p3 ⟨z.1, Or.inr z.2⟩)).trans (i1 a2 k2 p1 p2 p3), fun _ => ⟨e19, e21, fun f hf => zPm_congr (fun j hj => zyrow_eq (hk 81 _ (fun z => absurd z.1 (by decide)))) (c3 f hf)⟩, fun _ => a1, fun _ => a2, fun h => absurd (show 1 ≤ 4 ∧ 4 ≤ 2 from h) (by decide), fun h => absurd (show 4 ≤ 3 from h) (by decide), fun _ => ⟨0, Nat.zero_le _, rfl, fun j hj => absurd hj (Nat.not_lt_zero j)⟩, fun h => absurd (show 4 = 5 from h) (by decide), fun h => absurd (show 4 = 6 from h) (by decide), fun h => absurd (show 4 = 7 ∨ 4 = 11 from h) (by decide), fun h => absurd (show 4 = 8 from h) (by decide), fun h => absurd (show 4 = 9 from h) (by decide), fun h => absurd (show 4 = 10 from h) (by decide), fun h => absurd (show 4 = 11 from h) (by decide), fun h => absurd (show 4 = 12 from h) (by decide)⟩ ?_
      show zyMjo 4 (zyN1 (Int32.ofNat 0)) < 40000
      rw [zyN1_of (by omega)]
      show 20000 + 4 * (8 - 0) + (5 - 4) < 40000
      omega
    · have hx : x ∈ [zxjo_ex0, zxjo_ex1, zxjo_ex2, zxjo_ex3] := hx
      have hg : ∀ k, k < 5 → ρ2 k = ρ k := hag
      have hI := hInv
      have hI : ∃ (σ : Bool) (k n m : Nat) (x : Int32), as = [x] ∧ zLt σ k m x ∧ n ≤ 1298 ∧ m ≤ 8 ∧ (zyEl (zymr r c) B s.heap) 74 19 = some (.int (Int32.ofNat n)) ∧ (zyEl (zymr r c) B s.heap) 74 21 = some (.int (Int32.ofNat m)) ∧ zyIjo 4 σ k n m x (zyEl (zymr r c) B s.heap) ρ (zyEl (zymr r c) B H) := hI
      obtain ⟨hF, hB, hM⟩ := hXs
      have hEE : (zyEl (zymr r c) B H2) = (zyEl (zymr r c) B H) := zyfr0 hfr
      rcases List.mem_cons.mp hx with ex | hx
      · subst ex
        obtain ⟨σ, k, n, m, x0, has, hlt, n1, m1, s1, s2, i1, i2, i3, i4, i5, i6, i7, i8, i9, i10, i11, i12, i13, i14, i15⟩ := hI
        have hlt1 : k + 1 < m := hlt.1
        obtain ⟨c1, c2, c3⟩ := i2 (by decide)
        have a1 : ρ2 1 = x0 := (hg 1 (by decide)).trans (i3 (by decide))
        have a2 : ρ2 2 = Int32.ofNat k := (hg 2 (by decide)).trans (i4 (by decide))
        obtain ⟨p, p1, p2, p3⟩ := i7 rfl
        have a3 : ρ2 3 = Int32.ofNat p := (hg 3 (by decide)).trans p2
        obtain ⟨n4, w4, w5, w6⟩ := zyXe hF 0 rfl
        have w4 : Int32.ofNat 21 = Int32.ofNat n4 := w4
        have w6 : zyEl (zymr r c) B H 74 n4 = some (.int (ρ2 5)) := w6
        have em : ρ2 5 = Int32.ofNat m := zyEk w4 (by decide) w5 w6 c2
        obtain ⟨n3, w1, w2, w3⟩ := zyXe hF 2 rfl
        have w1 : Int32.ofNat 19 = Int32.ofNat n3 := w1
        have w3 : zyEl (zymr r c) B H 74 n3 = some (.int (ρ2 6)) := w3
        have en : ρ2 6 = Int32.ofNat n := zyEk w1 (by decide) w2 w3 c1
        have g1 := zyX20 hF 1 rfl
        have g1 : ρ2 3 < ρ2 5 := g1
        rw [a3, em, zyOl (by omega) (by omega)] at g1
        have g2 := zyX20 hF 3 rfl
        have g2 : Int32.ofNat 0 < ρ2 1 := g2
        rw [a1] at g2
        obtain ⟨q1, q2⟩ := zLt_pos m1 hlt g2
        have hz : zjr σ m p = p := by
          unfold zjr
          rw [if_pos q1]
        have hv : zjr σ m p < m := zjr_lt g1
        refine zyCa0 hRu hIH hAt hB hla (ix := 213) (ax := 3632) rfl rfl rfl hmela ⟨rfl, rfl, rfl, rfl⟩ (by decide) [206158430209, 103079215105, 103079215105] rfl (by decide) rfl ⟨5, by decide⟩ [595, 34359738369, 68719476737, 103079215105, 0] rfl rfl rfl rfl ?_ ?_
        · show zyΦla [ρ2 6, ρ2 3, ρ2 3] _
          rw [en, a3]
          exact ⟨n, p, zjr σ m p, by rw [hz], by omega, by omega, by omega⟩
        · intro E3 vo hT3 hΨ
          have hΨ : zyΨla [ρ2 6, ρ2 3, ρ2 3] _ E3 vo := hΨ
          rw [en, a3, hEE] at hΨ
          obtain ⟨ev, hu⟩ := hΨ
          have hu := hu n p (zjr σ m p) (by rw [hz]) (by omega) (by omega) (by omega)
          have e19 := (hu.2 74 19 (fun z => absurd z.1 (by decide))).trans c1
          have e21 := (hu.2 74 21 (fun z => absurd z.1 (by decide))).trans c2
          have br : zBr E3 m n := fun g hg => zPm_congr (fun j hj => by rw [zyrow_up hu (by omega) (by omega) (by omega), if_neg (fun z => absurd z.1 (by omega))]) (c3 g hg)
          refine ⟨ev, ⟨σ, k, n, m, x0, has, hlt, n1, m1, s1, s2, fun a2 k2 p1 p2 p3 => (hu.2 a2 k2 (fun z => p1 z.1)).trans (i1 a2 k2 p1 p2 p3), fun _ => ⟨e19, e21, br⟩, fun _ => a1, fun _ => a2, fun h => absurd (show 1 ≤ 5 ∧ 5 ≤ 2 from h) (by decide), fun h => absurd (show 5 ≤ 3 from h) (by decide), fun h => absurd (show 5 = 4 from h) (by decide), fun _ => ⟨p, g1, a3, fun j hj => ?_⟩, fun h => absurd (show 5 = 6 from h) (by decide), fun h => absurd (show 5 = 7 ∨ 5 = 11 from h) (by decide), fun h => absurd (show 5 = 8 from h) (by decide), fun h => absurd (show 5 = 9 from h) (by decide), fun h => absurd (show 5 = 10 from h) (by decide), fun h => absurd (show 5 = 11 from h) (by decide), fun h => absurd (show 5 = 12 from h) (by decide)⟩, ?_⟩
          · rw [zyrow_up hu (by omega) (by omega) (by omega)]
            by_cases e : j = p
            · rw [if_pos ⟨rfl, e⟩, e]
            · rw [if_neg (fun z => e z.2)]
              exact p3 j (by omega)
          · show zyMjo 5 (zyN1 (ρ2 3)) < zyMjo 4 (zyN1 (ρ 3))
            rw [a3, p2, zyN1_of (by omega)]
            show 20000 + 4 * (8 - p) + (5 - 5) < 20000 + 4 * (8 - p) + (5 - 4)
            omega
      · skip
        rcases List.mem_cons.mp hx with ex | hx
        · subst ex
          obtain ⟨σ, k, n, m, x0, has, hlt, n1, m1, s1, s2, i1, i2, i3, i4, i5, i6, i7, i8, i9, i10, i11, i12, i13, i14, i15⟩ := hI
          have hlt1 : k + 1 < m := hlt.1
          obtain ⟨c1, c2, c3⟩ := i2 (by decide)
          have a1 : ρ2 1 = x0 := (hg 1 (by decide)).trans (i3 (by decide))
          have a2 : ρ2 2 = Int32.ofNat k := (hg 2 (by decide)).trans (i4 (by decide))
          obtain ⟨p, p1, p2, p3⟩ := i7 rfl
          have a3 : ρ2 3 = Int32.ofNat p := (hg 3 (by decide)).trans p2
          obtain ⟨n4, w4, w5, w6⟩ := zyXe hF 0 rfl
          have w4 : Int32.ofNat 21 = Int32.ofNat n4 := w4
          have w6 : zyEl (zymr r c) B H 74 n4 = some (.int (ρ2 5)) := w6
          have em : ρ2 5 = Int32.ofNat m := zyEk w4 (by decide) w5 w6 c2
          obtain ⟨n3, w1, w2, w3⟩ := zyXe hF 2 rfl
          have w1 : Int32.ofNat 19 = Int32.ofNat n3 := w1
          have w3 : zyEl (zymr r c) B H 74 n3 = some (.int (ρ2 6)) := w3
          have en : ρ2 6 = Int32.ofNat n := zyEk w1 (by decide) w2 w3 c1
          have g1 := zyX20 hF 1 rfl
          have g1 : ρ2 3 < ρ2 5 := g1
          rw [a3, em, zyOl (by omega) (by omega)] at g1
          have g2 := zyX21 hF 3 rfl
          have g2 : ¬ Int32.ofNat 0 < ρ2 1 := g2
          rw [a1] at g2
          obtain ⟨q1, q2⟩ := zLt_neg m1 hlt g2
          have g3 := zyXop hF 4 rfl (by decide)
          have g3 : ρ2 7 = ρ2 5 + Int32.ofNat 4294967295 - ρ2 3 := g3
          have hz : zjr σ m p = m - 1 - p := by
            unfold zjr
            rw [if_neg (by rw [q1]; decide)]
          rw [em, zyOd (by omega), a3, zyOs (by omega), ← hz] at g3
          have hv : zjr σ m p < m := zjr_lt g1
          refine zyCa0 hRu hIH hAt hB hla (ix := 213) (ax := 3632) rfl rfl rfl hmela ⟨rfl, rfl, rfl, rfl⟩ (by decide) [206158430209, 103079215105, 240518168577] rfl (by decide) rfl ⟨5, by decide⟩ [595, 34359738369, 68719476737, 103079215105, 0] rfl rfl rfl rfl ?_ ?_
          · show zyΦla [ρ2 6, ρ2 3, ρ2 7] _
            rw [en, a3, g3]
            exact ⟨n, p, zjr σ m p, rfl, by omega, by omega, by omega⟩
          · intro E3 vo hT3 hΨ
            have hΨ : zyΨla [ρ2 6, ρ2 3, ρ2 7] _ E3 vo := hΨ
            rw [en, a3, g3, hEE] at hΨ
            obtain ⟨ev, hu⟩ := hΨ
            have hu := hu n p (zjr σ m p) rfl (by omega) (by omega) (by omega)
            have e19 := (hu.2 74 19 (fun z => absurd z.1 (by decide))).trans c1
            have e21 := (hu.2 74 21 (fun z => absurd z.1 (by decide))).trans c2
            have br : zBr E3 m n := fun g hg => zPm_congr (fun j hj => by rw [zyrow_up hu (by omega) (by omega) (by omega), if_neg (fun z => absurd z.1 (by omega))]) (c3 g hg)
            refine ⟨ev, ⟨σ, k, n, m, x0, has, hlt, n1, m1, s1, s2, fun a2 k2 p1 p2 p3 => (hu.2 a2 k2 (fun z => p1 z.1)).trans (i1 a2 k2 p1 p2 p3), fun _ => ⟨e19, e21, br⟩, fun _ => a1, fun _ => a2, fun h => absurd (show 1 ≤ 5 ∧ 5 ≤ 2 from h) (by decide), fun h => absurd (show 5 ≤ 3 from h) (by decide), fun h => absurd (show 5 = 4 from h) (by decide), fun _ => ⟨p, g1, a3, fun j hj => ?_⟩, fun h => absurd (show 5 = 6 from h) (by decide), fun h => absurd (show 5 = 7 ∨ 5 = 11 from h) (by decide), fun h => absurd (show 5 = 8 from h) (by decide), fun h => absurd (show 5 = 9 from h) (by decide), fun h => absurd (show 5 = 10 from h) (by decide), fun h => absurd (show 5 = 11 from h) (by decide), fun h => absurd (show 5 = 12 from h) (by decide)⟩, ?_⟩
            · rw [zyrow_up hu (by omega) (by omega) (by omega)]
              by_cases e : j = p
              · rw [if_pos ⟨rfl, e⟩, e]
              · rw [if_neg (fun z => e z.2)]
                exact p3 j (by omega)
            · show zyMjo 5 (zyN1 (ρ2 3)) < zyMjo 4 (zyN1 (ρ 3))
              rw [a3, p2, zyN1_of (by omega)]
              show 20000 + 4 * (8 - p) + (5 - 5) < 20000 + 4 * (8 - p) + (5 - 4)
              omega
        · skip
          rcases List.mem_cons.mp hx with ex | hx
          · subst ex
            obtain ⟨σ, k, n, m, x0, has, hlt, n1, m1, s1, s2, i1, i2, i3, i4, i5, i6, i7, i8, i9, i10, i11, i12, i13, i14, i15⟩ := hI
            have hlt1 : k + 1 < m := hlt.1
            obtain ⟨c1, c2, c3⟩ := i2 (by decide)
            have a1 : ρ2 1 = x0 := (hg 1 (by decide)).trans (i3 (by decide))
            have a2 : ρ2 2 = Int32.ofNat k := (hg 2 (by decide)).trans (i4 (by decide))
            obtain ⟨p, p1, p2, p3⟩ := i7 rfl
            have a3 : ρ2 3 = Int32.ofNat p := (hg 3 (by decide)).trans p2
            obtain ⟨n4, w4, w5, w6⟩ := zyXe hF 0 rfl
            have w4 : Int32.ofNat 21 = Int32.ofNat n4 := w4
            have w6 : zyEl (zymr r c) B H 74 n4 = some (.int (ρ2 5)) := w6
            have em : ρ2 5 = Int32.ofNat m := zyEk w4 (by decide) w5 w6 c2
            obtain ⟨n3, w1, w2, w3⟩ := zyXe hF 3 rfl
            have w1 : Int32.ofNat 19 = Int32.ofNat n3 := w1
            have w3 : zyEl (zymr r c) B H 74 n3 = some (.int (ρ2 6)) := w3
            have en : ρ2 6 = Int32.ofNat n := zyEk w1 (by decide) w2 w3 c1
            have g1 := zyX21 hF 1 rfl
            have g1 : ¬ ρ2 3 < ρ2 5 := g1
            rw [a3, em, zyOl (by omega) (by omega)] at g1
            have g2 := zyX20 hF 2 rfl
            have g2 : Int32.ofNat 0 < ρ2 1 := g2
            rw [a1] at g2
            obtain ⟨q1, q2⟩ := zLt_pos m1 hlt g2
            have b2 : ρ2 2 + Int32.ofNat 1 = Int32.ofNat (k + 1) := by rw [a2, zyOa]
            refine zyCa0 hRu hIH hAt hB hla (ix := 213) (ax := 3632) rfl rfl rfl hmela ⟨rfl, rfl, rfl, rfl⟩ (by decide) [206158430209, 68719476737, 68719476745] rfl (by decide) rfl ⟨6, by decide⟩ [595, 34359738369, 68719476737, 0, 0] rfl rfl rfl rfl ?_ ?_
            · show zyΦla [ρ2 6, ρ2 2, ρ2 2 + Int32.ofNat 1] _
              rw [b2, en, a2]
              exact ⟨n, k, k + 1, rfl, by omega, by omega, by omega⟩
            · intro E3 vo hT3 hΨ
              have hΨ : zyΨla [ρ2 6, ρ2 2, ρ2 2 + Int32.ofNat 1] _ E3 vo := hΨ
              rw [b2, en, a2, hEE] at hΨ
              obtain ⟨ev, hu⟩ := hΨ
              have hu := hu n k (k + 1) rfl (by omega) (by omega) (by omega)
              have e19 := (hu.2 74 19 (fun z => absurd z.1 (by decide))).trans c1
              have e21 := (hu.2 74 21 (fun z => absurd z.1 (by decide))).trans c2
              have br : zBr E3 m n := fun g hg => zPm_congr (fun j hj => by rw [zyrow_up hu (by omega) (by omega) (by omega), if_neg (fun z => absurd z.1 (by omega))]) (c3 g hg)
              refine ⟨ev, ⟨σ, k, n, m, x0, has, hlt, n1, m1, s1, s2, fun a2 k2 p1 p2 p3 => (hu.2 a2 k2 (fun z => p1 z.1)).trans (i1 a2 k2 p1 p2 p3), fun _ => ⟨e19, e21, br⟩, fun _ => a1, fun _ => a2, fun h => absurd (show 1 ≤ 6 ∧ 6 ≤ 2 from h) (by decide), fun h => absurd (show 6 ≤ 3 from h) (by decide), fun h => absurd (show 6 = 4 from h) (by decide), fun h => absurd (show 6 = 5 from h) (by decide), fun _ => ⟨q1, fun j hj => ?_⟩, fun h => absurd (show 6 = 7 ∨ 6 = 11 from h) (by decide), fun h => absurd (show 6 = 8 from h) (by decide), fun h => absurd (show 6 = 9 from h) (by decide), fun h => absurd (show 6 = 10 from h) (by decide), fun h => absurd (show 6 = 11 from h) (by decide), fun h => absurd (show 6 = 12 from h) (by decide)⟩, ?_⟩
              · rw [zyrow_up hu (by omega) (by omega) (by omega)]
                by_cases e : j = k
                · rw [if_pos ⟨rfl, e⟩, if_pos e]
                · rw [if_neg (fun z => e z.2), if_neg e, p3 j (by omega)]
                  unfold zjr
                  rw [if_pos q1]
              · show 16 - 6 < zyMjo 4 (zyN1 (ρ 3))
                rw [p2, zyN1_of (by omega)]
                show 16 - 6 < 20000 + 4 * (8 - p) + (5 - 4)
                omega
          · skip
            have ex := List.mem_singleton.mp hx
            subst ex
            obtain ⟨σ, k, n, m, x0, has, hlt, n1, m1, s1, s2, i1, i2, i3, i4, i5, i6, i7, i8, i9, i10, i11, i12, i13, i14, i15⟩ := hI
            have hlt1 : k + 1 < m := hlt.1
            obtain ⟨c1, c2, c3⟩ := i2 (by decide)
            have a1 : ρ2 1 = x0 := (hg 1 (by decide)).trans (i3 (by decide))
            have a2 : ρ2 2 = Int32.ofNat k := (hg 2 (by decide)).trans (i4 (by decide))
            obtain ⟨p, p1, p2, p3⟩ := i7 rfl
            have a3 : ρ2 3 = Int32.ofNat p := (hg 3 (by decide)).trans p2
            obtain ⟨n4, w4, w5, w6⟩ := zyXe hF 0 rfl
            have w4 : Int32.ofNat 21 = Int32.ofNat n4 := w4
            have w6 : zyEl (zymr r c) B H 74 n4 = some (.int (ρ2 5)) := w6
            have em : ρ2 5 = Int32.ofNat m := zyEk w4 (by decide) w5 w6 c2
            obtain ⟨n3, w1, w2, w3⟩ := zyXe hF 3 rfl
            have w1 : Int32.ofNat 19 = Int32.ofNat n3 := w1
            have w3 : zyEl (zymr r c) B H 74 n3 = some (.int (ρ2 6)) := w3
            have en : ρ2 6 = Int32.ofNat n := zyEk w1 (by decide) w2 w3 c1
            have g1 := zyX21 hF 1 rfl
            have g1 : ¬ ρ2 3 < ρ2 5 := g1
            rw [a3, em, zyOl (by omega) (by omega)] at g1
            have pm : zPm (zyrow (zyEl (zymr r c) B H) n) m := zjr_pm (σ := σ) (fun j hj => p3 j (by omega))
            refine zyCa1 hRu hIH hAt hB hcf (ix := 201) (ax := 3664) rfl rfl rfl hmecf ⟨rfl, rfl, rfl, rfl⟩ (by decide) [206158430209, 68719476737] rfl (by decide) rfl ⟨8, by decide⟩ [595, 34359738369, 68719476737, 0, 0] [(0, 4294967295), (2147483641, 2147483655), (2147483648, 2147483654), (0, 4294967295), (0, 4294967295)] 2147483648 2147483655 rfl (by decide) rfl rfl rfl rfl rfl ?_ ?_
            · show zyΦcf [ρ2 6, ρ2 2] _
              rw [en, a2, hEE]
              obtain ⟨p0, q1, q2⟩ := (pm k (by omega)).2
              exact ⟨n, k, rfl, by omega, by omega, p0, by omega, q2⟩
            · intro E3 vo hT3 hΨ
              have hΨ : zyΨcf [ρ2 6, ρ2 2] _ E3 vo := hΨ
              rw [en, a2, hEE] at hΨ
              obtain ⟨e3, q⟩ := hΨ
              subst e3
              obtain ⟨pp, u1, ez, u2, u3⟩ := q n k rfl (by omega) (by omega)
              obtain ⟨p0, q1, q2⟩ := (pm k (by omega)).2
              have ppm : pp < m := by
                apply Classical.byContradiction
                intro hn
                exact u3 p0 (by omega) q2
              refine ⟨_, ez, ?_, ?_, ⟨σ, k, n, m, x0, has, hlt, n1, m1, s1, s2, i1, fun _ => ⟨c1, c2, c3⟩, fun _ => (zyρi_n (by decide)).trans a1, fun _ => (zyρi_n (by decide)).trans a2, fun h => absurd (show 1 ≤ 8 ∧ 8 ≤ 2 from h) (by decide), fun h => absurd (show 8 ≤ 3 from h) (by decide), fun h => absurd (show 8 = 4 from h) (by decide), fun h => absurd (show 8 = 5 from h) (by decide), fun h => absurd (show 8 = 6 from h) (by decide), fun h => absurd (show 8 = 7 ∨ 8 = 11 from h) (by decide), fun _ => ⟨pm, pp, zyρi_e, ppm, u2⟩, fun h => absurd (show 8 = 9 from h) (by decide), fun h => absurd (show 8 = 10 from h) (by decide), fun h => absurd (show 8 = 11 from h) (by decide), fun h => absurd (show 8 = 12 from h) (by decide)⟩, ?_⟩
              · rw [zyBn (by omega)]
                omega
              · rw [zyBn (by omega)]
                omega
              · show 16 - 8 < zyMjo 4 (zyN1 (ρ 3))
                rw [p2, zyN1_of (by omega)]
                show 16 - 8 < 20000 + 4 * (8 - p) + (5 - 4)
                omega
    · have hx : x ∈ [zxjo_fx0] := hx
      have hg : ∀ k, k < 5 → ρ2 k = ρ k := hag
      have hI := hInv
      have hI : ∃ (σ : Bool) (k n m : Nat) (x : Int32), as = [x] ∧ zLt σ k m x ∧ n ≤ 1298 ∧ m ≤ 8 ∧ (zyEl (zymr r c) B s.heap) 74 19 = some (.int (Int32.ofNat n)) ∧ (zyEl (zymr r c) B s.heap) 74 21 = some (.int (Int32.ofNat m)) ∧ zyIjo 5 σ k n m x (zyEl (zymr r c) B s.heap) ρ (zyEl (zymr r c) B H) := hI
      obtain ⟨hF, hB, hM⟩ := hXs
      have hEE : (zyEl (zymr r c) B H2) = (zyEl (zymr r c) B H) := zyfr0 hfr
      have ex := List.mem_singleton.mp hx
      subst ex
      obtain ⟨σ, k, n, m, x0, has, hlt, n1, m1, s1, s2, i1, i2, i3, i4, i5, i6, i7, i8, i9, i10, i11, i12, i13, i14, i15⟩ := hI
      have hlt1 : k + 1 < m := hlt.1
      obtain ⟨c1, c2, c3⟩ := i2 (by decide)
      have a1 : ρ2 1 = x0 := (hg 1 (by decide)).trans (i3 (by decide))
      have a2 : ρ2 2 = Int32.ofNat k := (hg 2 (by decide)).trans (i4 (by decide))
      obtain ⟨p, p1, p2, p3⟩ := i8 rfl
      have a3 : ρ2 3 = Int32.ofNat p := (hg 3 (by decide)).trans p2
      have a3' : ρ2 3 + Int32.ofNat 1 = Int32.ofNat (p + 1) := by rw [a3, zyOa]
      refine zyGoB hIH hAt hB ⟨4, by decide⟩ [595, 34359738369, 68719476737, 103079215113, 0] rfl rfl rfl rfl ⟨σ, k, n, m, x0, has, hlt, n1, m1, s1, s2, by rw [hEE]; exact i1, fun _ => ⟨by rw [hEE]; exact c1, by rw [hEE]; exact c2, by rw [hEE]; exact c3⟩, fun _ => a1, fun _ => a2, fun h => absurd (show 1 ≤ 4 ∧ 4 ≤ 2 from h) (by decide), fun h => absurd (show 4 ≤ 3 from h) (by decide), fun _ => ⟨p + 1, p1, a3', fun j hj => by rw [hEE]; exact p3 j (by omega)⟩, fun h => absurd (show 4 = 5 from h) (by decide), fun h => absurd (show 4 = 6 from h) (by decide), fun h => absurd (show 4 = 7 ∨ 4 = 11 from h) (by decide), fun h => absurd (show 4 = 8 from h) (by decide), fun h => absurd (show 4 = 9 from h) (by decide), fun h => absurd (show 4 = 10 from h) (by decide), fun h => absurd (show 4 = 11 from h) (by decide), fun h => absurd (show 4 = 12 from h) (by decide)⟩ ?_
      show zyMjo 4 (zyN1 (ρ2 3 + Int32.ofNat 1)) < zyMjo 5 (zyN1 (ρ 3))
      rw [a3', p2, zyN1_of (by omega), zyN1_of (by omega)]
      show 20000 + 4 * (8 - (p + 1)) + (5 - 4) < 20000 + 4 * (8 - p) + (5 - 5)
      omega
    · have hx : x ∈ [zxjo_gx0] := hx
      have hg : ∀ k, k < 5 → ρ2 k = ρ k := hag
      have hI := hInv
      have hI : ∃ (σ : Bool) (k n m : Nat) (x : Int32), as = [x] ∧ zLt σ k m x ∧ n ≤ 1298 ∧ m ≤ 8 ∧ (zyEl (zymr r c) B s.heap) 74 19 = some (.int (Int32.ofNat n)) ∧ (zyEl (zymr r c) B s.heap) 74 21 = some (.int (Int32.ofNat m)) ∧ zyIjo 6 σ k n m x (zyEl (zymr r c) B s.heap) ρ (zyEl (zymr r c) B H) := hI
      obtain ⟨hF, hB, hM⟩ := hXs
      have hEE : (zyEl (zymr r c) B H2) = (zyEl (zymr r c) B H) := zyfr0 hfr
      have ex := List.mem_singleton.mp hx
      subst ex
      obtain ⟨σ, k, n, m, x0, has, hlt, n1, m1, s1, s2, i1, i2, i3, i4, i5, i6, i7, i8, i9, i10, i11, i12, i13, i14, i15⟩ := hI
      have hlt1 : k + 1 < m := hlt.1
      obtain ⟨c1, c2, c3⟩ := i2 (by decide)
      have a1 : ρ2 1 = x0 := (hg 1 (by decide)).trans (i3 (by decide))
      have a2 : ρ2 2 = Int32.ofNat k := (hg 2 (by decide)).trans (i4 (by decide))
      obtain ⟨q1, p3⟩ := i9 rfl
      obtain ⟨n3, w1, w2, w3⟩ := zyXe hF 0 rfl
      have w1 : Int32.ofNat 19 = Int32.ofNat n3 := w1
      have w3 : zyEl (zymr r c) B H 74 n3 = some (.int (ρ2 5)) := w3
      have en : ρ2 5 = Int32.ofNat n := zyEk w1 (by decide) w2 w3 c1
      have b2 : ρ2 2 + Int32.ofNat 1 = Int32.ofNat (k + 1) := by rw [a2, zyOa]
      refine zyCa0 hRu hIH hAt hB hla (ix := 213) (ax := 3632) rfl rfl rfl hmela ⟨rfl, rfl, rfl, rfl⟩ (by decide) [171798691841, 68719476745, 68719476737] rfl (by decide) rfl ⟨7, by decide⟩ [595, 34359738369, 68719476737, 0, 0] rfl rfl rfl rfl ?_ ?_
      · show zyΦla [ρ2 5, ρ2 2 + Int32.ofNat 1, ρ2 2] _
        rw [b2, en, a2]
        exact ⟨n, k + 1, k, rfl, by omega, by omega, by omega⟩
      · intro E3 vo hT3 hΨ
        have hΨ : zyΨla [ρ2 5, ρ2 2 + Int32.ofNat 1, ρ2 2] _ E3 vo := hΨ
        rw [b2, en, a2, hEE] at hΨ
        obtain ⟨ev, hu⟩ := hΨ
        have hu := hu n (k + 1) k rfl (by omega) (by omega) (by omega)
        have e19 := (hu.2 74 19 (fun z => absurd z.1 (by decide))).trans c1
        have e21 := (hu.2 74 21 (fun z => absurd z.1 (by decide))).trans c2
        have br : zBr E3 m n := fun g hg => zPm_congr (fun j hj => by rw [zyrow_up hu (by omega) (by omega) (by omega), if_neg (fun z => absurd z.1 (by omega))]) (c3 g hg)
        have pm : zPm (zyrow E3 n) m := zPm_ch (g := fun j => j) (p := k) (q := k + 1) (a := k) (b := k + 1) (by omega) (by omega) (by omega) (by omega) (by omega) rfl rfl (zPm_id (fun _ _ => rfl)) (fun j hj => by
          rw [zyrow_up hu (by omega) (by omega) (by omega), p3 j hj]
          by_cases e : j = k + 1
          · rw [if_pos ⟨rfl, e⟩, if_pos e]
          · rw [if_neg (fun z => e z.2), if_neg e])
        refine ⟨ev, ⟨σ, k, n, m, x0, has, hlt, n1, m1, s1, s2, fun a2 k2 p1 p2 p3 => (hu.2 a2 k2 (fun z => p1 z.1)).trans (i1 a2 k2 p1 p2 p3), fun _ => ⟨e19, e21, br⟩, fun h => absurd (show 7 ≤ 6 ∨ (8 ≤ 7 ∧ 7 ≤ 10) from h) (by decide), fun h => absurd (show (1 ≤ 7 ∧ 7 ≤ 6) ∨ (8 ≤ 7 ∧ 7 ≤ 10) from h) (by decide), fun h => absurd (show 1 ≤ 7 ∧ 7 ≤ 2 from h) (by decide), fun h => absurd (show 7 ≤ 3 from h) (by decide), fun h => absurd (show 7 = 4 from h) (by decide), fun h => absurd (show 7 = 5 from h) (by decide), fun h => absurd (show 7 = 6 from h) (by decide), fun _ => pm, fun h => absurd (show 7 = 8 from h) (by decide), fun h => absurd (show 7 = 9 from h) (by decide), fun h => absurd (show 7 = 10 from h) (by decide), fun h => absurd (show 7 = 11 from h) (by decide), fun h => absurd (show 7 = 12 from h) (by decide)⟩, ?_⟩
        show 16 - 7 < 16 - 6
        decide
    · have hx : x ∈ [zxjo_hx0] := hx
      have hg : ∀ k, k < 5 → ρ2 k = ρ k := hag
      have hI := hInv
      have hI : ∃ (σ : Bool) (k n m : Nat) (x : Int32), as = [x] ∧ zLt σ k m x ∧ n ≤ 1298 ∧ m ≤ 8 ∧ (zyEl (zymr r c) B s.heap) 74 19 = some (.int (Int32.ofNat n)) ∧ (zyEl (zymr r c) B s.heap) 74 21 = some (.int (Int32.ofNat m)) ∧ zyIjo 7 σ k n m x (zyEl (zymr r c) B s.heap) ρ (zyEl (zymr r c) B H) := hI
      obtain ⟨hF, hB, hM⟩ := hXs
      have hEE : (zyEl (zymr r c) B H2) = (zyEl (zymr r c) B H) := zyfr0 hfr
      have ex := List.mem_singleton.mp hx
      subst ex
      obtain ⟨σ, k, n, m, x0, has, hlt, n1, m1, s1, s2, i1, i2, i3, i4, i5, i6, i7, i8, i9, i10, i11, i12, i13, i14, i15⟩ := hI
      have hlt1 : k + 1 < m := hlt.1
      obtain ⟨c1, c2, c3⟩ := i2 (by decide)
      refine zyGoKi hIH hAt hB ⟨11, by decide⟩ [595, 0, 0, 0, 0] [(0, 4294967295), (0, 4294967295), (0, 4294967295), (0, 4294967295), (0, 4294967295)] 2147483648 2147484946 rfl (by decide) rfl rfl rfl (74 * 16384 + 19) zymr74 rfl rfl (show 19 < 49 by decide) (Int32.ofNat n) ?_ ?_ ⟨σ, k, n, m, x0, has, hlt, n1, m1, s1, s2, by rw [hEE]; exact i1, fun _ => ⟨by rw [hEE]; exact c1, by rw [hEE]; exact c2, by rw [hEE]; exact c3⟩, fun h => absurd (show 11 ≤ 6 ∨ (8 ≤ 11 ∧ 11 ≤ 10) from h) (by decide), fun h => absurd (show (1 ≤ 11 ∧ 11 ≤ 6) ∨ (8 ≤ 11 ∧ 11 ≤ 10) from h) (by decide), fun h => absurd (show 1 ≤ 11 ∧ 11 ≤ 2 from h) (by decide), fun h => absurd (show 11 ≤ 3 from h) (by decide), fun h => absurd (show 11 = 4 from h) (by decide), fun h => absurd (show 11 = 5 from h) (by decide), fun h => absurd (show 11 = 6 from h) (by decide), fun _ => by rw [hEE]; exact i10 (Or.inl rfl), fun h => absurd (show 11 = 8 from h) (by decide), fun h => absurd (show 11 = 9 from h) (by decide), fun h => absurd (show 11 = 10 from h) (by decide), fun _ => zyρi_e, fun h => absurd (show 11 = 12 from h) (by decide)⟩ ?_
      · show zyEl (zymr r c) B H2 74 19 = _
        rw [hEE]
        exact c1
      · rw [zyBn (by omega)]
        omega
      · show 16 - 11 < 16 - 7
        decide
    · have hx : x ∈ [zxjo_ix0] := hx
      have hg : ∀ k, k < 6 → ρ2 k = ρ k := hag
      have hI := hInv
      have hI : ∃ (σ : Bool) (k n m : Nat) (x : Int32), as = [x] ∧ zLt σ k m x ∧ n ≤ 1298 ∧ m ≤ 8 ∧ (zyEl (zymr r c) B s.heap) 74 19 = some (.int (Int32.ofNat n)) ∧ (zyEl (zymr r c) B s.heap) 74 21 = some (.int (Int32.ofNat m)) ∧ zyIjo 8 σ k n m x (zyEl (zymr r c) B s.heap) ρ (zyEl (zymr r c) B H) := hI
      obtain ⟨hF, hB, hM⟩ := hXs
      have hEE : (zyEl (zymr r c) B H2) = (zyEl (zymr r c) B H) := zyfr0 hfr
      have ex := List.mem_singleton.mp hx
      subst ex
      obtain ⟨σ, k, n, m, x0, has, hlt, n1, m1, s1, s2, i1, i2, i3, i4, i5, i6, i7, i8, i9, i10, i11, i12, i13, i14, i15⟩ := hI
      have hlt1 : k + 1 < m := hlt.1
      obtain ⟨c1, c2, c3⟩ := i2 (by decide)
      have a1 : ρ2 1 = x0 := (hg 1 (by decide)).trans (i3 (by decide))
      have a2 : ρ2 2 = Int32.ofNat k := (hg 2 (by decide)).trans (i4 (by decide))
      obtain ⟨n3, w1, w2, w3⟩ := zyXe hF 0 rfl
      have w1 : Int32.ofNat 19 = Int32.ofNat n3 := w1
      have w3 : zyEl (zymr r c) B H 74 n3 = some (.int (ρ2 6)) := w3
      have en : ρ2 6 = Int32.ofNat n := zyEk w1 (by decide) w2 w3 c1
      obtain ⟨pm, p, r1, r2, r3⟩ := i11 rfl
      have a5 : ρ2 5 = Int32.ofNat p := (hg 5 (by decide)).trans r1
      have b2 : ρ2 2 + Int32.ofNat 1 = Int32.ofNat (k + 1) := by rw [a2, zyOa]
      refine zyCa1 hRu hIH hAt hB hcf (ix := 201) (ax := 3664) rfl rfl rfl hmecf ⟨rfl, rfl, rfl, rfl⟩ (by decide) [206158430209, 68719476745] rfl (by decide) rfl ⟨9, by decide⟩ [595, 34359738369, 68719476737, 171798691841, 0] [(0, 4294967295), (2147483641, 2147483655), (2147483648, 2147483654), (2147483648, 2147483655), (0, 4294967295)] 2147483648 2147483655 rfl (by decide) rfl rfl rfl rfl rfl ?_ ?_
      · show zyΦcf [ρ2 6, ρ2 2 + Int32.ofNat 1] _
        rw [en, b2, hEE]
        obtain ⟨p0, q1, q2⟩ := (pm (k + 1) (by omega)).2
        exact ⟨n, k + 1, rfl, by omega, by omega, p0, by omega, q2⟩
      · intro E3 vo hT3 hΨ
        have hΨ : zyΨcf [ρ2 6, ρ2 2 + Int32.ofNat 1] _ E3 vo := hΨ
        rw [en, b2, hEE] at hΨ
        obtain ⟨e3, q⟩ := hΨ
        subst e3
        obtain ⟨pp, u1, ez, u2, u3⟩ := q n (k + 1) rfl (by omega) (by omega)
        obtain ⟨p0, q1, q2⟩ := (pm (k + 1) (by omega)).2
        have ppm : pp < m := by
          apply Classical.byContradiction
          intro hn
          exact u3 p0 (by omega) q2
        refine ⟨_, ez, ?_, ?_, ⟨σ, k, n, m, x0, has, hlt, n1, m1, s1, s2, i1, fun _ => ⟨c1, c2, c3⟩, fun _ => (zyρi_n (by decide)).trans a1, fun _ => (zyρi_n (by decide)).trans a2, fun h => absurd (show 1 ≤ 9 ∧ 9 ≤ 2 from h) (by decide), fun h => absurd (show 9 ≤ 3 from h) (by decide), fun h => absurd (show 9 = 4 from h) (by decide), fun h => absurd (show 9 = 5 from h) (by decide), fun h => absurd (show 9 = 6 from h) (by decide), fun h => absurd (show 9 = 7 ∨ 9 = 11 from h) (by decide), fun h => absurd (show 9 = 8 from h) (by decide), fun _ => ⟨pm, p, pp, (zyρi_n (by decide)).trans a5, zyρi_e, r2, ppm, r3, u2⟩, fun h => absurd (show 9 = 10 from h) (by decide), fun h => absurd (show 9 = 11 from h) (by decide), fun h => absurd (show 9 = 12 from h) (by decide)⟩, ?_⟩
        · rw [zyBn (by omega)]
          omega
        · rw [zyBn (by omega)]
          omega
        · show 16 - 9 < 16 - 8
          decide
    · have hx : x ∈ [zxjo_jx0] := hx
      have hg : ∀ k, k < 6 → ρ2 k = ρ k := hag
      have hI := hInv
      have hI : ∃ (σ : Bool) (k n m : Nat) (x : Int32), as = [x] ∧ zLt σ k m x ∧ n ≤ 1298 ∧ m ≤ 8 ∧ (zyEl (zymr r c) B s.heap) 74 19 = some (.int (Int32.ofNat n)) ∧ (zyEl (zymr r c) B s.heap) 74 21 = some (.int (Int32.ofNat m)) ∧ zyIjo 9 σ k n m x (zyEl (zymr r c) B s.heap) ρ (zyEl (zymr r c) B H) := hI
      obtain ⟨hF, hB, hM⟩ := hXs
      have hEE : (zyEl (zymr r c) B H2) = (zyEl (zymr r c) B H) := zyfr0 hfr
      have ex := List.mem_singleton.mp hx
      subst ex
      obtain ⟨σ, k, n, m, x0, has, hlt, n1, m1, s1, s2, i1, i2, i3, i4, i5, i6, i7, i8, i9, i10, i11, i12, i13, i14, i15⟩ := hI
      have hlt1 : k + 1 < m := hlt.1
      obtain ⟨c1, c2, c3⟩ := i2 (by decide)
      have a1 : ρ2 1 = x0 := (hg 1 (by decide)).trans (i3 (by decide))
      have a2 : ρ2 2 = Int32.ofNat k := (hg 2 (by decide)).trans (i4 (by decide))
      obtain ⟨n3, w1, w2, w3⟩ := zyXe hF 0 rfl
      have w1 : Int32.ofNat 19 = Int32.ofNat n3 := w1
      have w3 : zyEl (zymr r c) B H 74 n3 = some (.int (ρ2 6)) := w3
      have en : ρ2 6 = Int32.ofNat n := zyEk w1 (by decide) w2 w3 c1
      obtain ⟨pm, p, q, r1, r2, r3, r4, r5, r6⟩ := i12 rfl
      have a3 : ρ2 3 = Int32.ofNat p := (hg 3 (by decide)).trans r1
      have a5 : ρ2 5 = Int32.ofNat q := (hg 5 (by decide)).trans r2
      have b2 : ρ2 2 + Int32.ofNat 1 = Int32.ofNat (k + 1) := by rw [a2, zyOa]
      refine zyCa0 hRu hIH hAt hB hla (ix := 213) (ax := 3632) rfl rfl rfl hmela ⟨rfl, rfl, rfl, rfl⟩ (by decide) [206158430209, 103079215105, 68719476745] rfl (by decide) rfl ⟨10, by decide⟩ [595, 34359738369, 68719476737, 103079215105, 171798691841] rfl rfl rfl rfl ?_ ?_
      · show zyΦla [ρ2 6, ρ2 3, ρ2 2 + Int32.ofNat 1] _
        rw [b2, en, a3]
        exact ⟨n, p, k + 1, rfl, by omega, by omega, by omega⟩
      · intro E3 vo hT3 hΨ
        have hΨ : zyΨla [ρ2 6, ρ2 3, ρ2 2 + Int32.ofNat 1] _ E3 vo := hΨ
        rw [b2, en, a3, hEE] at hΨ
        obtain ⟨ev, hu⟩ := hΨ
        have hu := hu n p (k + 1) rfl (by omega) (by omega) (by omega)
        have e19 := (hu.2 74 19 (fun z => absurd z.1 (by decide))).trans c1
        have e21 := (hu.2 74 21 (fun z => absurd z.1 (by decide))).trans c2
        have br : zBr E3 m n := fun g hg => zPm_congr (fun j hj => by rw [zyrow_up hu (by omega) (by omega) (by omega), if_neg (fun z => absurd z.1 (by omega))]) (c3 g hg)
        refine ⟨ev, ⟨σ, k, n, m, x0, has, hlt, n1, m1, s1, s2, fun a2 k2 p1 p2 p3 => (hu.2 a2 k2 (fun z => p1 z.1)).trans (i1 a2 k2 p1 p2 p3), fun _ => ⟨e19, e21, br⟩, fun _ => a1, fun _ => a2, fun h => absurd (show 1 ≤ 10 ∧ 10 ≤ 2 from h) (by decide), fun h => absurd (show 10 ≤ 3 from h) (by decide), fun h => absurd (show 10 = 4 from h) (by decide), fun h => absurd (show 10 = 5 from h) (by decide), fun h => absurd (show 10 = 6 from h) (by decide), fun h => absurd (show 10 = 7 ∨ 10 = 11 from h) (by decide), fun h => absurd (show 10 = 8 from h) (by decide), fun h => absurd (show 10 = 9 from h) (by decide), fun _ => ⟨p, q, zyrow (zyEl (zymr r c) B H) n, a5, r3, r4, r5, r6, pm, fun j hj => ?_⟩, fun h => absurd (show 10 = 11 from h) (by decide), fun h => absurd (show 10 = 12 from h) (by decide)⟩, ?_⟩
        · rw [zyrow_up hu (by omega) (by omega) (by omega)]
          by_cases e : j = p
          · rw [if_pos ⟨rfl, e⟩, if_pos e]
          · rw [if_neg (fun z => e z.2), if_neg e]
        · show 16 - 10 < 16 - 9
          decide
    · have hx : x ∈ [zxjo_kx0] := hx
      have hg : ∀ k, k < 5 → ρ2 k = ρ k := hag
      have hI := hInv
      have hI : ∃ (σ : Bool) (k n m : Nat) (x : Int32), as = [x] ∧ zLt σ k m x ∧ n ≤ 1298 ∧ m ≤ 8 ∧ (zyEl (zymr r c) B s.heap) 74 19 = some (.int (Int32.ofNat n)) ∧ (zyEl (zymr r c) B s.heap) 74 21 = some (.int (Int32.ofNat m)) ∧ zyIjo 10 σ k n m x (zyEl (zymr r c) B s.heap) ρ (zyEl (zymr r c) B H) := hI
      obtain ⟨hF, hB, hM⟩ := hXs
      have hEE : (zyEl (zymr r c) B H2) = (zyEl (zymr r c) B H) := zyfr0 hfr
      have ex := List.mem_singleton.mp hx
      subst ex
      obtain ⟨σ, k, n, m, x0, has, hlt, n1, m1, s1, s2, i1, i2, i3, i4, i5, i6, i7, i8, i9, i10, i11, i12, i13, i14, i15⟩ := hI
      have hlt1 : k + 1 < m := hlt.1
      obtain ⟨c1, c2, c3⟩ := i2 (by decide)
      have a1 : ρ2 1 = x0 := (hg 1 (by decide)).trans (i3 (by decide))
      have a2 : ρ2 2 = Int32.ofNat k := (hg 2 (by decide)).trans (i4 (by decide))
      obtain ⟨n3, w1, w2, w3⟩ := zyXe hF 0 rfl
      have w1 : Int32.ofNat 19 = Int32.ofNat n3 := w1
      have w3 : zyEl (zymr r c) B H 74 n3 = some (.int (ρ2 5)) := w3
      have en : ρ2 5 = Int32.ofNat n := zyEk w1 (by decide) w2 w3 c1
      obtain ⟨p, q, g, r1, r2, r3, r4, r5, r6, r7⟩ := i13 rfl
      have a4 : ρ2 4 = Int32.ofNat q := (hg 4 (by decide)).trans r1
      refine zyCaK hRu hIH hAt hB hla (ix := 213) (ax := 3632) rfl rfl rfl hmela ⟨rfl, rfl, rfl, rfl⟩ (by decide) [171798691841, 137438953473, 68719476737] rfl (by decide) rfl ⟨11, by decide⟩ [595, 0, 0, 0, 0] [(0, 4294967295), (0, 4294967295), (0, 4294967295), (0, 4294967295), (0, 4294967295)] 2147483648 2147484946 rfl (by decide) rfl rfl rfl (74 * 16384 + 19) zymr74 rfl rfl (show 19 < 49 by decide) ?_ ?_
      · show zyΦla [ρ2 5, ρ2 4, ρ2 2] _
        rw [en, a4, a2]
        exact ⟨n, q, k, rfl, by omega, by omega, by omega⟩
      · intro E3 vo hT3 hΨ
        have hΨ : zyΨla [ρ2 5, ρ2 4, ρ2 2] _ E3 vo := hΨ
        rw [en, a4, a2, hEE] at hΨ
        obtain ⟨ev, hu⟩ := hΨ
        have hu := hu n q k rfl (by omega) (by omega) (by omega)
        have e19 := (hu.2 74 19 (fun z => absurd z.1 (by decide))).trans c1
        have e21 := (hu.2 74 21 (fun z => absurd z.1 (by decide))).trans c2
        have br : zBr E3 m n := fun g hg => zPm_congr (fun j hj => by rw [zyrow_up hu (by omega) (by omega) (by omega), if_neg (fun z => absurd z.1 (by omega))]) (c3 g hg)
        have pm : zPm (zyrow E3 n) m := zPm_ch (g := g) (p := p) (q := q) (a := k) (b := k + 1) r2 r3 (by omega) (by omega) (by omega) r4 r5 r6 (fun j hj => by
          rw [zyrow_up hu (by omega) (by omega) (by omega), r7 j hj]
          by_cases e : j = q
          · rw [if_pos ⟨rfl, e⟩, if_pos e]
          · rw [if_neg (fun z => e z.2), if_neg e])
        refine ⟨ev, Int32.ofNat n, e19, ?_, ⟨σ, k, n, m, x0, has, hlt, n1, m1, s1, s2, fun a2 k2 p1 p2 p3 => (hu.2 a2 k2 (fun z => p1 z.1)).trans (i1 a2 k2 p1 p2 p3), fun _ => ⟨e19, e21, br⟩, fun h => absurd (show 11 ≤ 6 ∨ (8 ≤ 11 ∧ 11 ≤ 10) from h) (by decide), fun h => absurd (show (1 ≤ 11 ∧ 11 ≤ 6) ∨ (8 ≤ 11 ∧ 11 ≤ 10) from h) (by decide), fun h => absurd (show 1 ≤ 11 ∧ 11 ≤ 2 from h) (by decide), fun h => absurd (show 11 ≤ 3 from h) (by decide), fun h => absurd (show 11 = 4 from h) (by decide), fun h => absurd (show 11 = 5 from h) (by decide), fun h => absurd (show 11 = 6 from h) (by decide), fun _ => pm, fun h => absurd (show 11 = 8 from h) (by decide), fun h => absurd (show 11 = 9 from h) (by decide), fun h => absurd (show 11 = 10 from h) (by decide), fun _ => zyρi_e, fun h => absurd (show 11 = 12 from h) (by decide)⟩, ?_⟩
        · rw [zyBn (by omega)]
          omega
        · show 16 - 11 < 16 - 10
          decide
    · have hx : x ∈ [zxjo_lx0] := hx
      have hg : ∀ k, k < 6 → ρ2 k = ρ k := hag
      have hI := hInv
      have hI : ∃ (σ : Bool) (k n m : Nat) (x : Int32), as = [x] ∧ zLt σ k m x ∧ n ≤ 1298 ∧ m ≤ 8 ∧ (zyEl (zymr r c) B s.heap) 74 19 = some (.int (Int32.ofNat n)) ∧ (zyEl (zymr r c) B s.heap) 74 21 = some (.int (Int32.ofNat m)) ∧ zyIjo 11 σ k n m x (zyEl (zymr r c) B s.heap) ρ (zyEl (zymr r c) B H) := hI
      obtain ⟨hF, hB, hM⟩ := hXs
      have hfr : ∀ a k, zyin [(74, 19, 19)] a k = false → (zyEl (zymr r c) B H2) a k = (zyEl (zymr r c) B H) a k := hfr
      have ex := List.mem_singleton.mp hx
      subst ex
      obtain ⟨σ, k, n, m, x0, has, hlt, n1, m1, s1, s2, i1, i2, i3, i4, i5, i6, i7, i8, i9, i10, i11, i12, i13, i14, i15⟩ := hI
      have hlt1 : k + 1 < m := hlt.1
      obtain ⟨c1, c2, c3⟩ := i2 (by decide)
      have a5 : ρ2 5 = Int32.ofNat n := (hg 5 (by decide)).trans (i14 rfl)
      have m2 := zyXm hM 0 rfl
      have m2 : zyEl (zymr r c) B H2 74 19 = some (.int (ρ2 5 + Int32.ofNat 1)) := m2
      rw [a5, zyOa] at m2
      have hk := zyfr1 hfr
      have e21 := (hk 74 21 (fun z => absurd z.2 (by decide))).trans c2
      have br : zBr (zyEl (zymr r c) B H2) m (n + 1) := fun f hf => zPm_congr (fun j hj => zyrow_eq (hk 81 _ (fun z => absurd z.1 (by decide)))) (by
        by_cases e : f = n
        · rw [e]
          exact i10 (Or.inr rfl)
        · exact c3 f (by omega))
      refine zyCa0 hRu hIH hAt hB hse (ix := 239) (ax := 3776) rfl rfl rfl hmese ⟨rfl, rfl, rfl, rfl⟩ (by decide) [] rfl (by decide) rfl ⟨12, by decide⟩ [595, 0, 0, 0, 0] rfl rfl rfl rfl ?_ ?_
      · show zyΦse [] _
        exact ⟨rfl, n + 1, m, by omega, m1, m2, e21, br⟩
      · intro E3 vo hT3 hΨ
        obtain ⟨ev, hq⟩ := (show zyΨse [] _ E3 vo from hΨ)
        obtain ⟨n', q1, q2, q3, q4⟩ := hq (n + 1) m (by omega) m1 m2 e21
        refine ⟨ev, ⟨σ, k, n, m, x0, has, hlt, n1, m1, s1, s2, fun a2 k2 p1 p2 p3 => (q4 a2 k2 p1 p3).trans ((hk a2 k2 (fun z => p3 ⟨z.1, Or.inl z.2⟩)).trans (i1 a2 k2 p1 p2 p3)), fun h => absurd (show 12 ≤ 11 from h) (by decide), fun h => absurd (show 12 ≤ 6 ∨ (8 ≤ 12 ∧ 12 ≤ 10) from h) (by decide), fun h => absurd (show (1 ≤ 12 ∧ 12 ≤ 6) ∨ (8 ≤ 12 ∧ 12 ≤ 10) from h) (by decide), fun h => absurd (show 1 ≤ 12 ∧ 12 ≤ 2 from h) (by decide), fun h => absurd (show 12 ≤ 3 from h) (by decide), fun h => absurd (show 12 = 4 from h) (by decide), fun h => absurd (show 12 = 5 from h) (by decide), fun h => absurd (show 12 = 6 from h) (by decide), fun h => absurd (show 12 = 7 ∨ 12 = 11 from h) (by decide), fun h => absurd (show 12 = 8 from h) (by decide), fun h => absurd (show 12 = 9 from h) (by decide), fun h => absurd (show 12 = 10 from h) (by decide), fun h => absurd (show 12 = 11 from h) (by decide), fun _ => ⟨n', q1, q2, q3⟩⟩, ?_⟩
        show 16 - 12 < 16 - 11
        decide
    · cases hx
  · intro as E0 E E2 hT0 hΦ hlen i ρ hT hInv x hx ρ2 N2 B vo hXs hag hfr hT2 hvo
    rcases i with ⟨i, hi⟩
    have hi2 : i = 0 ∨ i = 1 ∨ i = 2 ∨ i = 3 ∨ i = 4 ∨ i = 5 ∨ i = 6 ∨ i = 7 ∨ i = 8 ∨ i = 9 ∨ i = 10 ∨ i = 11 ∨ i = 12 := by omega
    rcases hi2 with rfl | rfl | rfl | rfl | rfl | rfl | rfl | rfl | rfl | rfl | rfl | rfl | rfl
    · cases hx
    · cases hx
    · cases hx
    · cases hx
    · cases hx
    · cases hx
    · cases hx
    · cases hx
    · cases hx
    · cases hx
    · cases hx
    · cases hx
    · have hx : x ∈ [zxjo_mr0] := hx
      have hg : ∀ k, k < 5 → ρ2 k = ρ k := hag
      have hI := hInv
      have hI : ∃ (σ : Bool) (k n m : Nat) (x : Int32), as = [x] ∧ zLt σ k m x ∧ n ≤ 1298 ∧ m ≤ 8 ∧ E0 74 19 = some (.int (Int32.ofNat n)) ∧ E0 74 21 = some (.int (Int32.ofNat m)) ∧ zyIjo 12 σ k n m x E0 ρ E := hI
      obtain ⟨hF, hB, hM⟩ := hXs
      have hEE : E2 = E := zyfr0 hfr
      have ex := List.mem_singleton.mp hx
      subst ex
      obtain ⟨σ, k, n, m, x0, has, hlt, n1, m1, s1, s2, i1, i2, i3, i4, i5, i6, i7, i8, i9, i10, i11, i12, i13, i14, i15⟩ := hI
      have hlt1 : k + 1 < m := hlt.1
      obtain ⟨n', q1, q2, q3⟩ := i15 rfl
      refine ⟨zyvo_0 (show zyvo _ [] vo from hvo), fun n2 m2 d1 d2 d3 d4 => ?_⟩
      rw [s1] at d3
      rw [s2] at d4
      have e1 := zyOi (by omega) (by omega) (Value.int.inj (Option.some.inj d3))
      have e2 := zyOi (by omega) (by omega) (Value.int.inj (Option.some.inj d4))
      subst e1
      subst e2
      rw [hEE]
      exact ⟨n', q1, q2, q3, i1⟩
