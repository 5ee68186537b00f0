/-! c is cleared; all is read; a text is loaded -/
noncomputable def zcl (R C K j : Nat) : Nat := if j = 0 then R else if j = 1 then C else if j = 5 then 4294967295 else if 40 ≤ j ∧ j < 40 + K then 1 else 0
noncomputable def zyckv (code v : Nat) : Bool := zif (Nat.beq (Nat.mod code 8) 0) (Nat.beq (Nat.div code 8) v) (zand (Nat.beq (Nat.mod code 8) 2) (zand (Nat.ble (Nat.div code 34359738368) (Nat.mod (Nat.add v 2147483648) 4294967296)) (Nat.ble (Nat.mod (Nat.add v 2147483648) 4294967296) (Nat.mod (Nat.div code 8) 4294967296))))
noncomputable def zyckr (f : Nat → Nat) (l : List (Nat × Nat × Nat)) : Bool := List.rec (motive := fun _ => Bool) true (fun b _ ih => zand (zyAll (fun i => zyckv b.2.2 (f (Nat.add b.1 i))) (Nat.succ (Nat.sub b.2.1 b.1))) ih) l
theorem zyckr_iff {f : Nat → Nat} : ∀ {l : List (Nat × Nat × Nat)}, zyckr f l = true → ∀ b ∈ l, ∀ k, b.1 ≤ k → k ≤ b.2.1 → zyckv b.2.2 (f k) = true := by
  intro l
  induction l with
  | nil => intro _ b hb; cases hb
  | cons a t ih =>
    intro h b hb k k1 k2
    have h : zand (zyAll (fun i => zyckv a.2.2 (f (a.1 + i))) (a.2.1 - a.1 + 1)) (zyckr f t) = true := h
    obtain ⟨g1, g2⟩ := zand_iff h
    rcases List.mem_cons.mp hb with e | e
    · subst e
      have := zyAll_iff g1 (k - b.1) (by omega)
      rwa [show b.1 + (k - b.1) = k by omega] at this
    · exact ih g2 b e k k1 k2
theorem zcl_all : zyAllP (fun r c => zyckr (zcl r c 31) (zymr75 r c).2.2) = true := by decide +kernel
theorem zcl_T75 {r c : Nat} (hp : zyPr r c) {E : zyEm} (h : ∀ j, j < 556 → E 75 j = some (.int (Int32.ofNat (zcl r c 31 j)))) : zyT75 r c E ∧ zJl E := by
  refine ⟨fun k hk b hb b1 b2 => ?_, h 3 (by decide), h 4 (by decide), fun k hk hl => ?_⟩
  · have hc := zyckr_iff (zyAllP_iff zcl_all hp.1 hp.2.1 hp.2.2.1 hp.2.2.2) b hb k b1 b2
    refine ⟨fun q => ⟨_, h k hk, ?_⟩, fun q => ?_⟩
    · rcases zif_iff hc with ⟨h1, -⟩ | ⟨-, h1⟩
      · have h1 : b.2.2 % 8 = 0 := zbeqT h1
        omega
      · obtain ⟨-, h2⟩ := zand_iff h1
        obtain ⟨h2, h3⟩ := zand_iff h2
        have h2 : b.2.2 / 34359738368 ≤ (zcl r c 31 k + 2147483648) % 4294967296 := zbleT h2
        have h3 : (zcl r c 31 k + 2147483648) % 4294967296 ≤ b.2.2 / 8 % 4294967296 := zbleT h3
        rw [zB_of, zb_def]
        exact ⟨by omega, by omega⟩
    · rcases zif_iff hc with ⟨-, h1⟩ | ⟨h1, h2⟩
      · have h1 : b.2.2 / 8 = zcl r c 31 k := zbeqT h1
        rw [h k hk, h1]
      · have h1 : ¬ b.2.2 % 8 = 0 := zbeqF h1
        exact absurd q h1
  · exfalso
    rw [zyI_s (h 5 (by decide)), show zcl r c 31 5 = 4294967295 from rfl, zB_slt, zyBn (by omega), zB_none] at hl
    omega
def zyΦcl (as : List Int32) (_ : zyEm) : Prop := ∃ R C : Nat, zyPr R C ∧ as = [Int32.ofNat R, Int32.ofNat C]
def zyΨcl (as : List Int32) (E E2 : zyEm) (vo : Option Value) : Prop := vo = none ∧ (∀ a k, ¬ a = 75 → E2 a k = E a k) ∧ ∃ R C : Nat, zyPr R C ∧ as = [Int32.ofNat R, Int32.ofNat C] ∧ ∀ j, j < 556 → E2 75 j = some (.int (Int32.ofNat (zcl R C 31 j)))
theorem zycls_run : zyrS zymx zxi193 (193, 0, 0, 0, 0) 2 zpcls (fun _ _ => []) zFcls zScls zXcls zRcls 6 = true := by decide +kernel
theorem zyclears {l : Launch} {en : zEn} {me : zMe} (hen : zG zxMeta 193 = some en) (hme : zG zMeth 193 = some me) : zyHc l zymx en me 2 2 zyΦcl zyΨcl := by
  have een : zG zxMeta 193 = some (zxi193, 3, 4, 11, 193, 0, 0, 0, 0) := rfl
  obtain ⟨me1, hme1, hOK⟩ := zall hen
  rw [hme] at hme1
  cases hme1
  rw [een] at hen
  cases hen
  have hr := zycls_run
  refine zycutS (mi := zymx) hOK rfl rfl ⟨_, rfl, rfl⟩ (ι := Fin 6) (fun i => zpcls i.val) (fun _ _ => []) (fun i => zFcls i.val) (fun i => zScls i.val) (fun i => zXcls i.val) (fun i => zRcls i.val) (fun i y2 ct en2 me2 h => by cases h) 200000 (fun i => zyAll_iff hr i.val i.isLt) ⟨0, by decide⟩ ⟨rfl, rfl, rfl, rfl⟩ ⟨by decide, by decide⟩
    (fun i as E0 ρ E => ∃ R C K : Nat, zyPr R C ∧ as = [Int32.ofNat R, Int32.ofNat C] ∧ (∀ a k, ¬ a = 75 → E a k = E0 a k) ∧ ρ 1 = Int32.ofNat R ∧ ρ 2 = Int32.ofNat C ∧ (i.val = 1 ∨ i.val = 2 ∨ i.val = 4 ∨ i.val = 5 → ρ 3 = Int32.ofNat K) ∧ (i.val = 1 → K ≤ 556 ∧ ∀ j, j < K → E 75 j = some (.int (Int32.ofNat 0))) ∧ (i.val = 2 → K ≤ 555 ∧ ∀ j, j ≤ K → E 75 j = some (.int (Int32.ofNat 0))) ∧ (i.val = 3 → ∀ j, j < 556 → E 75 j = some (.int (Int32.ofNat 0))) ∧ (i.val = 4 → K ≤ 31 ∧ ∀ j, j < 556 → E 75 j = some (.int (Int32.ofNat (zcl R C K j)))) ∧ (i.val = 5 → K ≤ 30 ∧ ∀ j, j < 556 → E 75 j = some (.int (Int32.ofNat (zcl R C (K + 1) j))))) (fun i as E0 ρ E => if i.val = 0 then 10000 else if i.val = 1 then 1001 + 2 * (556 - zyN1 (ρ 3)) else if i.val = 2 then 1000 + 2 * (556 - zyN1 (ρ 3)) else if i.val = 3 then 999 else if i.val = 4 then 1 + 2 * (31 - zyN1 (ρ 3)) else 2 * (31 - zyN1 (ρ 3))) ?_ ?_ ?_
  · intro as E hlen hT hΦ
    obtain ⟨R, C, hp, rfl⟩ := hΦ
    obtain ⟨p1, p2, p3, p4⟩ := hp
    exact ⟨zEnv_c (zyfull _) (zEnv_c ⟨show 2147483649 ≤ zB (Int32.ofNat R) by rw [zyBn (by omega)]; omega, show zB (Int32.ofNat R) ≤ 2147483652 by rw [zyBn (by omega)]; omega⟩ (zEnv_c ⟨show 2147483649 ≤ zB (Int32.ofNat C) by rw [zyBn (by omega)]; omega, show zB (Int32.ofNat C) ≤ 2147483653 by rw [zyBn (by omega)]; omega⟩ (zEnv_c (zyfull _) zEnv_nil))), R, C, 0, ⟨p1, p2, p3, p4⟩, rfl, fun _ _ _ => rfl, rfl, rfl, fun h => absurd (show 0 = 1 ∨ 0 = 2 ∨ 0 = 4 ∨ 0 = 5 from h) (by decide), fun h => absurd (show 0 = 1 from h) (by decide), fun h => absurd (show 0 = 2 from h) (by decide), fun h => absurd (show 0 = 3 from h) (by decide), fun h => absurd (show 0 = 4 from h) (by decide), fun h => absurd (show 0 = 5 from h) (by decide)⟩
  · intro as B s Wg hRu hT0 hΦ hlen i ρ H hT hInv hIH x hx ρ2 N2 H2 locs lsB stA hAt hXs hag hfr hT2
    rcases i with ⟨i, hi⟩
    have hi2 : i = 0 ∨ i = 1 ∨ i = 2 ∨ i = 3 ∨ i = 4 ∨ i = 5 := by omega
    rcases hi2 with rfl | rfl | rfl | rfl | rfl | rfl
    · have hx : x ∈ [zxcls_ax0] := hx
      have hg : ∀ k, k < 4 → ρ2 k = ρ k := hag
      have hI := hInv
      have hI : ∃ R C K : Nat, zyPr R C ∧ as = [Int32.ofNat R, Int32.ofNat C] ∧ (∀ a k, ¬ a = 75 → (zyEl zymx B H) a k = (zyEl zymx B s.heap) a k) ∧ ρ 1 = Int32.ofNat R ∧ ρ 2 = Int32.ofNat C ∧ (0 = 1 ∨ 0 = 2 ∨ 0 = 4 ∨ 0 = 5 → ρ 3 = Int32.ofNat K) ∧ (0 = 1 → K ≤ 556 ∧ ∀ j, j < K → (zyEl zymx B H) 75 j = some (.int (Int32.ofNat 0))) ∧ (0 = 2 → K ≤ 555 ∧ ∀ j, j ≤ K → (zyEl zymx B H) 75 j = some (.int (Int32.ofNat 0))) ∧ (0 = 3 → ∀ j, j < 556 → (zyEl zymx B H) 75 j = some (.int (Int32.ofNat 0))) ∧ (0 = 4 → K ≤ 31 ∧ ∀ j, j < 556 → (zyEl zymx B H) 75 j = some (.int (Int32.ofNat (zcl R C K j)))) ∧ (0 = 5 → K ≤ 30 ∧ ∀ j, j < 556 → (zyEl zymx B H) 75 j = some (.int (Int32.ofNat (zcl R C (K + 1) j)))) := hI
      obtain ⟨hF, hB, hM⟩ := hXs
      have hEE : (zyEl zymx B H2) = (zyEl zymx B H) := zyfr0 hfr
      have ex := List.mem_singleton.mp hx
      subst ex
      obtain ⟨R, C, K, hp, has, i1, r1, r2, r3, c1, c2, c3, c4, c5⟩ := hI
      have a1 : ρ2 1 = Int32.ofNat R := (hg 1 (by decide)).trans r1
      have a2 : ρ2 2 = Int32.ofNat C := (hg 2 (by decide)).trans r2
      refine zyGoB hIH hAt hB ⟨1, by decide⟩ [595, 34359738369, 68719476737, 0] rfl rfl rfl rfl ⟨R, C, 0, hp, has, by rw [hEE]; exact i1, a1, a2, fun _ => rfl, fun _ => ⟨by omega, fun j hj => absurd hj (Nat.not_lt_zero j)⟩, fun h => absurd (show 1 = 2 from h) (by decide), fun h => absurd (show 1 = 3 from h) (by decide), fun h => absurd (show 1 = 4 from h) (by decide), fun h => absurd (show 1 = 5 from h) (by decide)⟩ ?_
      show 1001 + 2 * (556 - zyN1 (Int32.ofNat 0)) < 10000
      omega
    · have hx : x ∈ [zxcls_bx0, zxcls_bx1] := hx
      have hg : ∀ k, k < 4 → ρ2 k = ρ k := hag
      have hI := hInv
      have hI : ∃ R C K : Nat, zyPr R C ∧ as = [Int32.ofNat R, Int32.ofNat C] ∧ (∀ a k, ¬ a = 75 → (zyEl zymx B H) a k = (zyEl zymx B s.heap) a k) ∧ ρ 1 = Int32.ofNat R ∧ ρ 2 = Int32.ofNat C ∧ (1 = 1 ∨ 1 = 2 ∨ 1 = 4 ∨ 1 = 5 → ρ 3 = Int32.ofNat K) ∧ (1 = 1 → K ≤ 556 ∧ ∀ j, j < K → (zyEl zymx B H) 75 j = some (.int (Int32.ofNat 0))) ∧ (1 = 2 → K ≤ 555 ∧ ∀ j, j ≤ K → (zyEl zymx B H) 75 j = some (.int (Int32.ofNat 0))) ∧ (1 = 3 → ∀ j, j < 556 → (zyEl zymx B H) 75 j = some (.int (Int32.ofNat 0))) ∧ (1 = 4 → K ≤ 31 ∧ ∀ j, j < 556 → (zyEl zymx B H) 75 j = some (.int (Int32.ofNat (zcl R C K j)))) ∧ (1 = 5 → K ≤ 30 ∧ ∀ j, j < 556 → (zyEl zymx B H) 75 j = some (.int (Int32.ofNat (zcl R C (K + 1) j)))) := hI
      obtain ⟨hF, hB, hM⟩ := hXs
      have hEE : (zyEl zymx B H2) = (zyEl zymx B H) := zyfr0 hfr
      rcases List.mem_cons.mp hx with ex | hx
      · subst ex
        obtain ⟨R, C, K, hp, has, i1, r1, r2, r3, c1, c2, c3, c4, c5⟩ := hI
        have a1 : ρ2 1 = Int32.ofNat R := (hg 1 (by decide)).trans r1
        have a2 : ρ2 2 = Int32.ofNat C := (hg 2 (by decide)).trans r2
        have a3 : ρ2 3 = Int32.ofNat K := (hg 3 (by decide)).trans (r3 (Or.inl rfl))
        have b3 := zyXb hB 2 rfl
        have b3 : 2147483648 ≤ zB (ρ2 3) ∧ zB (ρ2 3) ≤ 2147484203 := b3
        rw [a3, zyBn (by have := (c1 rfl).1; omega)] at b3
        obtain ⟨d1, d2⟩ := c1 rfl
        refine zyAsB hRu hIH hAt hB 75 K (20, 556, [(0, 555, 34359738362)]) rfl rfl rfl (cv := 0) (cj := 103079215105) rfl (by decide) (by decide) ⟨2, by decide⟩ [595, 34359738369, 68719476737, 103079215105] rfl rfl rfl rfl (show K < 556 by omega) a3 ?_ ?_
        · intro r0 hr0 _ _
          rw [List.mem_singleton.mp hr0]
          exact ⟨rfl, zyfull _⟩
        · intro E3 hT3 p1 p2
          have p1 : E3 75 K = some (.int (Int32.ofNat 0)) := p1
          rw [hEE] at p2
          refine ⟨⟨R, C, K, hp, has, fun a k n => (p2 a k (fun z => n z.1)).trans (i1 a k n), a1, a2, fun _ => a3, fun h => absurd (show 2 = 1 from h) (by decide), fun _ => ⟨by omega, fun j hj => by
            by_cases ej : j = K
            · rw [ej]; exact p1
            · exact (p2 75 j (fun z => ej z.2)).trans (d2 j (by omega))⟩, fun h => absurd (show 2 = 3 from h) (by decide), fun h => absurd (show 2 = 4 from h) (by decide), fun h => absurd (show 2 = 5 from h) (by decide)⟩, ?_⟩
          show 1000 + 2 * (556 - zyN1 (ρ2 3)) < 1001 + 2 * (556 - zyN1 (ρ 3))
          rw [hg 3 (by decide)]
          omega
      · skip
        have ex := List.mem_singleton.mp hx
        subst ex
        obtain ⟨R, C, K, hp, has, i1, r1, r2, r3, c1, c2, c3, c4, c5⟩ := hI
        have a1 : ρ2 1 = Int32.ofNat R := (hg 1 (by decide)).trans r1
        have a2 : ρ2 2 = Int32.ofNat C := (hg 2 (by decide)).trans r2
        have a3 : ρ2 3 = Int32.ofNat K := (hg 3 (by decide)).trans (r3 (Or.inl rfl))
        obtain ⟨d1, d2⟩ := c1 rfl
        have f := zyX21 hF 0 rfl
        have f : ¬ ρ2 3 < Int32.ofNat 556 := f
        rw [a3, zyOl (by omega) (by omega)] at f
        refine zyGoB hIH hAt hB ⟨3, by decide⟩ [595, 34359738369, 68719476737, 0] rfl rfl rfl rfl ⟨R, C, K, hp, has, by rw [hEE]; exact i1, a1, a2, fun h => absurd (show 3 = 1 ∨ 3 = 2 ∨ 3 = 4 ∨ 3 = 5 from h) (by decide), fun h => absurd (show 3 = 1 from h) (by decide), fun h => absurd (show 3 = 2 from h) (by decide), fun _ => fun j hj => by rw [hEE]; exact d2 j (by omega), fun h => absurd (show 3 = 4 from h) (by decide), fun h => absurd (show 3 = 5 from h) (by decide)⟩ ?_
        show 999 < 1001 + 2 * (556 - zyN1 (ρ 3))
        omega
    · have hx : x ∈ [zxcls_cx0] := hx
      have hg : ∀ k, k < 4 → ρ2 k = ρ k := hag
      have hI := hInv
      have hI : ∃ R C K : Nat, zyPr R C ∧ as = [Int32.ofNat R, Int32.ofNat C] ∧ (∀ a k, ¬ a = 75 → (zyEl zymx B H) a k = (zyEl zymx B s.heap) a k) ∧ ρ 1 = Int32.ofNat R ∧ ρ 2 = Int32.ofNat C ∧ (2 = 1 ∨ 2 = 2 ∨ 2 = 4 ∨ 2 = 5 → ρ 3 = Int32.ofNat K) ∧ (2 = 1 → K ≤ 556 ∧ ∀ j, j < K → (zyEl zymx B H) 75 j = some (.int (Int32.ofNat 0))) ∧ (2 = 2 → K ≤ 555 ∧ ∀ j, j ≤ K → (zyEl zymx B H) 75 j = some (.int (Int32.ofNat 0))) ∧ (2 = 3 → ∀ j, j < 556 → (zyEl zymx B H) 75 j = some (.int (Int32.ofNat 0))) ∧ (2 = 4 → K ≤ 31 ∧ ∀ j, j < 556 → (zyEl zymx B H) 75 j = some (.int (Int32.ofNat (zcl R C K j)))) ∧ (2 = 5 → K ≤ 30 ∧ ∀ j, j < 556 → (zyEl zymx B H) 75 j = some (.int (Int32.ofNat (zcl R C (K + 1) j)))) := hI
      obtain ⟨hF, hB, hM⟩ := hXs
      have hEE : (zyEl zymx B H2) = (zyEl zymx B H) := zyfr0 hfr
      have ex := List.mem_singleton.mp hx
      subst ex
      obtain ⟨R, C, K, hp, has, i1, r1, r2, r3, c1, c2, c3, c4, c5⟩ := hI
      have a1 : ρ2 1 = Int32.ofNat R := (hg 1 (by decide)).trans r1
      have a2 : ρ2 2 = Int32.ofNat C := (hg 2 (by decide)).trans r2
      have a3 : ρ2 3 = Int32.ofNat K := (hg 3 (by decide)).trans (r3 (Or.inr (Or.inl rfl)))
      obtain ⟨d1, d2⟩ := c2 rfl
      have a3' : ρ2 3 + Int32.ofNat 1 = Int32.ofNat (K + 1) := by rw [a3, zyOa]
      refine zyGoB hIH hAt hB ⟨1, by decide⟩ [595, 34359738369, 68719476737, 103079215113] rfl rfl rfl rfl ⟨R, C, (K + 1), hp, has, by rw [hEE]; exact i1, a1, a2, fun _ => a3', fun _ => ⟨by omega, fun j hj => by rw [hEE]; exact d2 j (by omega)⟩, fun h => absurd (show 1 = 2 from h) (by decide), fun h => absurd (show 1 = 3 from h) (by decide), fun h => absurd (show 1 = 4 from h) (by decide), fun h => absurd (show 1 = 5 from h) (by decide)⟩ ?_
      show 1001 + 2 * (556 - zyN1 (ρ2 3 + Int32.ofNat 1)) < 1000 + 2 * (556 - zyN1 (ρ 3))
      rw [a3', r3 (Or.inr (Or.inl rfl)), zyN1_of (by omega), zyN1_of (by omega)]
      omega
    · have hx : x ∈ [zxcls_fx0] := hx
      have hg : ∀ k, k < 4 → ρ2 k = ρ k := hag
      have hI := hInv
      have hI : ∃ R C K : Nat, zyPr R C ∧ as = [Int32.ofNat R, Int32.ofNat C] ∧ (∀ a k, ¬ a = 75 → (zyEl zymx B H) a k = (zyEl zymx B s.heap) a k) ∧ ρ 1 = Int32.ofNat R ∧ ρ 2 = Int32.ofNat C ∧ (3 = 1 ∨ 3 = 2 ∨ 3 = 4 ∨ 3 = 5 → ρ 3 = Int32.ofNat K) ∧ (3 = 1 → K ≤ 556 ∧ ∀ j, j < K → (zyEl zymx B H) 75 j = some (.int (Int32.ofNat 0))) ∧ (3 = 2 → K ≤ 555 ∧ ∀ j, j ≤ K → (zyEl zymx B H) 75 j = some (.int (Int32.ofNat 0))) ∧ (3 = 3 → ∀ j, j < 556 → (zyEl zymx B H) 75 j = some (.int (Int32.ofNat 0))) ∧ (3 = 4 → K ≤ 31 ∧ ∀ j, j < 556 → (zyEl zymx B H) 75 j = some (.int (Int32.ofNat (zcl R C K j)))) ∧ (3 = 5 → K ≤ 30 ∧ ∀ j, j < 556 → (zyEl zymx B H) 75 j = some (.int (Int32.ofNat (zcl R C (K + 1) j)))) := hI
      obtain ⟨hF, hB, hM⟩ := hXs
      have hfr : ∀ a k, zyin [(75, 0, 1), (75, 5, 5)] a k = false → (zyEl zymx B H2) a k = (zyEl zymx B H) a k := hfr
      have ex := List.mem_singleton.mp hx
      subst ex
      obtain ⟨R, C, K, hp, has, i1, r1, r2, r3, c1, c2, c3, c4, c5⟩ := hI
      have a1 : ρ2 1 = Int32.ofNat R := (hg 1 (by decide)).trans r1
      have a2 : ρ2 2 = Int32.ofNat C := (hg 2 (by decide)).trans r2
      have hk : ∀ a k, ¬ (a = 75 ∧ 0 ≤ k ∧ k ≤ 1) → ¬ (a = 75 ∧ 5 ≤ k ∧ k ≤ 5) → (zyEl zymx B H2) a k = (zyEl zymx B H) a k := by
        intro a k n0 n1
        apply hfr
        cases hq : zyin [(75, 0, 1), (75, 5, 5)] a k with
        | false => rfl
        | true =>
          obtain ⟨p0, g1, g2, g3, g4⟩ := zyin_iff.mp hq
          simp only [List.mem_cons, List.not_mem_nil, or_false] at g1
          rcases g1 with rfl | rfl
          · exact absurd ⟨g2.symm, g3, g4⟩ n0
          · exact absurd ⟨g2.symm, g3, g4⟩ n1
      have d2 := c3 rfl
      have m0 := zyXm hM 0 rfl
      have m0 : zyEl zymx B H2 75 0 = some (.int (ρ2 1)) := m0
      have m1 := zyXm hM 1 rfl
      have m1 : zyEl zymx B H2 75 1 = some (.int (ρ2 2)) := m1
      have m5 := zyXm hM 2 rfl
      have m5 : zyEl zymx B H2 75 5 = some (.int (Int32.ofNat 4294967295)) := m5
      rw [a1] at m0
      rw [a2] at m1
      refine zyGoB hIH hAt hB ⟨4, by decide⟩ [595, 34359738369, 68719476737, 0] rfl rfl rfl rfl ⟨R, C, 0, hp, has, fun a k n => (hk a k (by omega) (by omega)).trans (i1 a k n), a1, a2, fun _ => rfl, fun h => absurd (show 4 = 1 from h) (by decide), fun h => absurd (show 4 = 2 from h) (by decide), fun h => absurd (show 4 = 3 from h) (by decide), fun _ => ⟨by omega, fun j hj => by
          unfold zcl
          by_cases e0 : j = 0
          · rw [if_pos e0, e0]; exact m0
          by_cases e1 : j = 1
          · rw [if_neg e0, if_pos e1, e1]; exact m1
          by_cases e5 : j = 5
          · rw [if_neg e0, if_neg e1, if_pos e5, e5]; exact m5
          rw [if_neg e0, if_neg e1, if_neg e5, if_neg (by omega)]
          exact (hk 75 j (by omega) (by omega)).trans (d2 j hj)⟩, fun h => absurd (show 4 = 5 from h) (by decide)⟩ ?_
      show 1 + 2 * (31 - zyN1 (Int32.ofNat 0)) < 999
      omega
    · have hx : x ∈ [zxcls_dx0] := hx
      have hg : ∀ k, k < 4 → ρ2 k = ρ k := hag
      have hI := hInv
      have hI : ∃ R C K : Nat, zyPr R C ∧ as = [Int32.ofNat R, Int32.ofNat C] ∧ (∀ a k, ¬ a = 75 → (zyEl zymx B H) a k = (zyEl zymx B s.heap) a k) ∧ ρ 1 = Int32.ofNat R ∧ ρ 2 = Int32.ofNat C ∧ (4 = 1 ∨ 4 = 2 ∨ 4 = 4 ∨ 4 = 5 → ρ 3 = Int32.ofNat K) ∧ (4 = 1 → K ≤ 556 ∧ ∀ j, j < K → (zyEl zymx B H) 75 j = some (.int (Int32.ofNat 0))) ∧ (4 = 2 → K ≤ 555 ∧ ∀ j, j ≤ K → (zyEl zymx B H) 75 j = some (.int (Int32.ofNat 0))) ∧ (4 = 3 → ∀ j, j < 556 → (zyEl zymx B H) 75 j = some (.int (Int32.ofNat 0))) ∧ (4 = 4 → K ≤ 31 ∧ ∀ j, j < 556 → (zyEl zymx B H) 75 j = some (.int (Int32.ofNat (zcl R C K j)))) ∧ (4 = 5 → K ≤ 30 ∧ ∀ j, j < 556 → (zyEl zymx B H) 75 j = some (.int (Int32.ofNat (zcl R C (K + 1) j)))) := hI
      obtain ⟨hF, hB, hM⟩ := hXs
      have hEE : (zyEl zymx B H2) = (zyEl zymx B H) := zyfr0 hfr
      have ex := List.mem_singleton.mp hx
      subst ex
      obtain ⟨R, C, K, hp, has, i1, r1, r2, r3, c1, c2, c3, c4, c5⟩ := hI
      have a1 : ρ2 1 = Int32.ofNat R := (hg 1 (by decide)).trans r1
      have a2 : ρ2 2 = Int32.ofNat C := (hg 2 (by decide)).trans r2
      have a3 : ρ2 3 = Int32.ofNat K := (hg 3 (by decide)).trans (r3 (Or.inr (Or.inr (Or.inl rfl))))
      have b3 := zyXb hB 2 rfl
      have b3 : 2147483648 ≤ zB (ρ2 3) ∧ zB (ρ2 3) ≤ 2147483678 := b3
      obtain ⟨d1, d2⟩ := c4 rfl
      rw [a3, zyBn (by omega)] at b3
      have ej : ρ2 3 + Int32.ofNat 40 = Int32.ofNat (K + 40) := by rw [a3, zyOa]
      refine zyAsB hRu hIH hAt hB 75 (K + 40) (20, 556, [(0, 555, 34359738362)]) rfl rfl rfl (cv := 8) (cj := 103079215425) rfl (by decide) (by decide) ⟨5, by decide⟩ [595, 34359738369, 68719476737, 103079215105] rfl rfl rfl rfl (show K + 40 < 556 by omega) ej ?_ ?_
      · intro r0 hr0 _ _
        rw [List.mem_singleton.mp hr0]
        exact ⟨rfl, zyfull _⟩
      · intro E3 hT3 p1 p2
        have p1 : E3 75 (K + 40) = some (.int (Int32.ofNat 1)) := p1
        rw [hEE] at p2
        refine ⟨⟨R, C, K, hp, has, fun a k n => (p2 a k (fun z => n z.1)).trans (i1 a k n), a1, a2, fun _ => a3, fun h => absurd (show 5 = 1 from h) (by decide), fun h => absurd (show 5 = 2 from h) (by decide), fun h => absurd (show 5 = 3 from h) (by decide), fun h => absurd (show 5 = 4 from h) (by decide), fun _ => ⟨by omega, fun j hj => by
          by_cases ej : j = K + 40
          · rw [ej, p1]
            unfold zcl
            rw [if_neg (by omega), if_neg (by omega), if_neg (by omega), if_pos (by omega)]
          · rw [p2 75 j (fun z => ej z.2), d2 j hj]
            unfold zcl
            by_cases e0 : j = 0
            · rw [if_pos e0, if_pos e0]
            by_cases e1 : j = 1
            · rw [if_neg e0, if_neg e0, if_pos e1, if_pos e1]
            by_cases e5 : j = 5
            · rw [if_neg e0, if_neg e0, if_neg e1, if_neg e1, if_pos e5, if_pos e5]
            rw [if_neg e0, if_neg e0, if_neg e1, if_neg e1, if_neg e5, if_neg e5]
            by_cases ek : 40 ≤ j ∧ j < 40 + K
            · rw [if_pos ek, if_pos (by omega)]
            · rw [if_neg ek, if_neg (by omega)]⟩⟩, ?_⟩
        show 2 * (31 - zyN1 (ρ2 3)) < 1 + 2 * (31 - zyN1 (ρ 3))
        rw [hg 3 (by decide)]
        omega
    · have hx : x ∈ [zxcls_ex0] := hx
      have hg : ∀ k, k < 4 → ρ2 k = ρ k := hag
      have hI := hInv
      have hI : ∃ R C K : Nat, zyPr R C ∧ as = [Int32.ofNat R, Int32.ofNat C] ∧ (∀ a k, ¬ a = 75 → (zyEl zymx B H) a k = (zyEl zymx B s.heap) a k) ∧ ρ 1 = Int32.ofNat R ∧ ρ 2 = Int32.ofNat C ∧ (5 = 1 ∨ 5 = 2 ∨ 5 = 4 ∨ 5 = 5 → ρ 3 = Int32.ofNat K) ∧ (5 = 1 → K ≤ 556 ∧ ∀ j, j < K → (zyEl zymx B H) 75 j = some (.int (Int32.ofNat 0))) ∧ (5 = 2 → K ≤ 555 ∧ ∀ j, j ≤ K → (zyEl zymx B H) 75 j = some (.int (Int32.ofNat 0))) ∧ (5 = 3 → ∀ j, j < 556 → (zyEl zymx B H) 75 j = some (.int (Int32.ofNat 0))) ∧ (5 = 4 → K ≤ 31 ∧ ∀ j, j < 556 → (zyEl zymx B H) 75 j = some (.int (Int32.ofNat (zcl R C K j)))) ∧ (5 = 5 → K ≤ 30 ∧ ∀ j, j < 556 → (zyEl zymx B H) 75 j = some (.int (Int32.ofNat (zcl R C (K + 1) j)))) := hI
      obtain ⟨hF, hB, hM⟩ := hXs
      have hEE : (zyEl zymx B H2) = (zyEl zymx B H) := zyfr0 hfr
      have ex := List.mem_singleton.mp hx
      subst ex
      obtain ⟨R, C, K, hp, has, i1, r1, r2, r3, c1, c2, c3, c4, c5⟩ := hI
      have a1 : ρ2 1 = Int32.ofNat R := (hg 1 (by decide)).trans r1
      have a2 : ρ2 2 = Int32.ofNat C := (hg 2 (by decide)).trans r2
      have a3 : ρ2 3 = Int32.ofNat K := (hg 3 (by decide)).trans (r3 (Or.inr (Or.inr (Or.inr rfl))))
      obtain ⟨d1, d2⟩ := c5 rfl
      have a3' : ρ2 3 + Int32.ofNat 1 = Int32.ofNat (K + 1) := by rw [a3, zyOa]
      refine zyGoB hIH hAt hB ⟨4, by decide⟩ [595, 34359738369, 68719476737, 103079215113] rfl rfl rfl rfl ⟨R, C, (K + 1), hp, has, by rw [hEE]; exact i1, a1, a2, fun _ => a3', fun h => absurd (show 4 = 1 from h) (by decide), fun h => absurd (show 4 = 2 from h) (by decide), fun h => absurd (show 4 = 3 from h) (by decide), fun _ => ⟨by omega, fun j hj => by rw [hEE]; exact d2 j hj⟩, fun h => absurd (show 4 = 5 from h) (by decide)⟩ ?_
      show 1 + 2 * (31 - zyN1 (ρ2 3 + Int32.ofNat 1)) < 2 * (31 - zyN1 (ρ 3))
      rw [a3', r3 (Or.inr (Or.inr (Or.inr rfl))), zyN1_of (by omega), zyN1_of (by omega)]
      omega
  · intro as E0 E E2 hT0 hΦ hlen i ρ hT hInv x hx ρ2 N2 B vo hXs hag hfr hT2 hvo
    rcases i with ⟨i, hi⟩
    have hi2 : i = 0 ∨ i = 1 ∨ i = 2 ∨ i = 3 ∨ i = 4 ∨ i = 5 := by omega
    rcases hi2 with rfl | rfl | rfl | rfl | rfl | rfl
    · cases hx
    · cases hx
    · cases hx
    · cases hx
    · have hx : x ∈ [zxcls_dr0] := hx
      have hg : ∀ k, k < 4 → ρ2 k = ρ k := hag
      have hI := hInv
      have hI : ∃ R C K : Nat, zyPr R C ∧ as = [Int32.ofNat R, Int32.ofNat C] ∧ (∀ a k, ¬ a = 75 → E a k = E0 a k) ∧ ρ 1 = Int32.ofNat R ∧ ρ 2 = Int32.ofNat C ∧ (4 = 1 ∨ 4 = 2 ∨ 4 = 4 ∨ 4 = 5 → ρ 3 = Int32.ofNat K) ∧ (4 = 1 → K ≤ 556 ∧ ∀ j, j < K → E 75 j = some (.int (Int32.ofNat 0))) ∧ (4 = 2 → K ≤ 555 ∧ ∀ j, j ≤ K → E 75 j = some (.int (Int32.ofNat 0))) ∧ (4 = 3 → ∀ j, j < 556 → E 75 j = some (.int (Int32.ofNat 0))) ∧ (4 = 4 → K ≤ 31 ∧ ∀ j, j < 556 → E 75 j = some (.int (Int32.ofNat (zcl R C K j)))) ∧ (4 = 5 → K ≤ 30 ∧ ∀ j, j < 556 → E 75 j = some (.int (Int32.ofNat (zcl R C (K + 1) j)))) := hI
      obtain ⟨hF, hB, hM⟩ := hXs
      have hEE : E2 = E := zyfr0 hfr
      have ex := List.mem_singleton.mp hx
      subst ex
      obtain ⟨R, C, K, hp, has, i1, r1, r2, r3, c1, c2, c3, c4, c5⟩ := hI
      have a1 : ρ2 1 = Int32.ofNat R := (hg 1 (by decide)).trans r1
      have a2 : ρ2 2 = Int32.ofNat C := (hg 2 (by decide)).trans r2
      have a3 : ρ2 3 = Int32.ofNat K := (hg 3 (by decide)).trans (r3 (Or.inr (Or.inr (Or.inl rfl))))
      obtain ⟨d1, d2⟩ := c4 rfl
      have f := zyX21 hF 0 rfl
      have f : ¬ ρ2 3 < Int32.ofNat 31 := f
      rw [a3, zyOl (by omega) (by omega)] at f
      have ek : K = 31 := by omega
      exact ⟨zyvo_0 (show zyvo _ [] vo from hvo), fun a k n => by rw [hEE]; exact i1 a k n, R, C, hp, has, fun j hj => by rw [hEE, d2 j hj, ek]⟩
    · cases hx
