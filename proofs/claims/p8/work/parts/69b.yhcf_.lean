section
/-! THE SIMPLE BRAIDS: where a place comes from -/
def zyΦcf (as : List Int32) (E : zyEm) : Prop := ∃ f t : Nat, as = [Int32.ofNat f, Int32.ofNat t] ∧ f < 1300 ∧ t < 8 ∧ ∃ p, p < 8 ∧ zfv E (8 * f + p) = t
def zyΨcf (as : List Int32) (E E2 : zyEm) (vo : Option Value) : Prop := E2 = E ∧ ∀ f t : Nat, as = [Int32.ofNat f, Int32.ofNat t] → f < 1300 → t < 8 → ∃ p, p < 8 ∧ vo = some (.int (Int32.ofNat p)) ∧ zfv E (8 * f + p) = t ∧ ∀ q, q < p → ¬ zfv E (8 * f + q) = t
theorem zyas2 {a b a' b' : Nat} (h : [Int32.ofNat a, Int32.ofNat b] = [Int32.ofNat a', Int32.ofNat b']) (h1 : a < 4294967296) (h2 : b < 4294967296) (h3 : a' < 4294967296) (h4 : b' < 4294967296) : a = a' ∧ b = b' := by
  simp only [List.cons.injEq, and_true] at h
  exact ⟨zyOi h1 h3 h.1, zyOi h2 h4 h.2⟩
theorem zyas2' {x y : Int32} {a' b' : Nat} (h : [x, y] = [Int32.ofNat a', Int32.ofNat b']) : x = Int32.ofNat a' ∧ y = Int32.ofNat b' := by
  simpa only [List.cons.injEq, and_true] using h
theorem zycf_run : zyAllP (fun r c => zyrS (zymr r c) zxi229 (229, 0, 0, 1, 0) 2 zpcf (fun _ _ => []) zFcf zScf zXcf zRcf 2) = true := by decide +kernel
theorem zycomesFrom {l : Launch} {r c : Nat} (h1 : 1 ≤ r) (h2 : r ≤ 4) (h3 : 1 ≤ c) (h4 : c ≤ 5) {en : zEn} {me : zMe} (hen : zG zxMeta 229 = some en) (hme : zG zMeth 229 = some me) : zyHc l (zymr r c) en me 2 2 zyΦcf zyΨcf := by
  have een : zG zxMeta 229 = some (zxi229, 3, 4, 11, 229, 0, 0, 1, 0) := rfl
  obtain ⟨me1, hme1, hOK⟩ := zall hen
  rw [hme] at hme1
  cases hme1
  rw [een] at hen
  cases hen
  have hr := zyAllP_iff zycf_run h1 h2 h3 h4
  refine zycutS (mi := zymr r c) hOK rfl rfl ⟨_, rfl, rfl⟩ (ι := Fin 2) (fun i => zpcf i.val) (fun _ _ => []) (fun i => zFcf i.val) (fun i => zScf i.val) (fun i => zXcf i.val) (fun i => zRcf i.val) (fun i y2 ct en2 me2 h => by cases h) 200000 (fun i => zyAll_iff hr i.val i.isLt) ⟨0, by decide⟩ ⟨rfl, rfl, rfl, rfl⟩ ⟨by decide, by decide⟩
    (fun i as E0 ρ E => E = E0 ∧ as = [ρ 1, ρ 2] ∧ (i.val = 1 → ∃ k, ρ 3 = Int32.ofNat k ∧ k < 8 ∧ ∀ q, q < k → ¬ zfv E (8 * zyN1 (ρ 1) + q) = zyN1 (ρ 2))) (fun i _ _ ρ _ => if i.val = 0 then 100 else 8 - zyN1 (ρ 3)) ?_ ?_ ?_
  · intro as E hlen hT hΦ
    obtain ⟨f, t, rfl, b1, b2, b3⟩ := hΦ
    refine ⟨zEnv_c (zyfull _) (zEnv_c ?_ (zEnv_c ?_ (zEnv_c (zyfull _) zEnv_nil))), rfl, rfl, fun h => absurd h (by decide)⟩
    · show 2147483648 ≤ zB (Int32.ofNat f) ∧ zB (Int32.ofNat f) ≤ 2147484947
      rw [zyBn (by omega)]
      omega
    · show 2147483648 ≤ zB (Int32.ofNat t) ∧ zB (Int32.ofNat t) ≤ 2147483655
      rw [zyBn (by omega)]
      omega
  · intro as B s Wg hRu hT0 hΦ hlen i ρ H hT hInv hIH x hx ρ2 N2 H2 locs lsB stA hAt hXs hag hfr hT2
    obtain ⟨hE, has, hInv⟩ := hInv
    obtain ⟨f, t, e, b1, b2, p, b3, b4⟩ := hΦ
    rw [has] at e
    obtain ⟨e1, e2⟩ := zyas2' e
    obtain ⟨hF, hB, -⟩ := hXs
    have hg4 : ∀ k, k < 4 → ρ2 k = ρ k := by
      rcases i with ⟨i, hi⟩
      have hi2 : i = 0 ∨ i = 1 := by omega
      rcases hi2 with rfl | rfl
      · exact hag
      · exact hag
    have hEE : zyEl (zymr r c) B H2 = zyEl (zymr r c) B H := by
      rcases i with ⟨i, hi⟩
      have hi2 : i = 0 ∨ i = 1 := by omega
      rcases hi2 with rfl | rfl
      · exact zyfr0 hfr
      · exact zyfr0 hfr
    have a1 := (hg4 1 (by decide)).trans e1
    have a2 := (hg4 2 (by decide)).trans e2
    have n1 : zyN1 (ρ 1) = f := by rw [e1]; exact zyN1_of (by omega)
    have n2 : zyN1 (ρ 2) = t := by rw [e2]; exact zyN1_of (by omega)
    rcases i with ⟨i, hi⟩
    have hi2 : i = 0 ∨ i = 1 := by omega
    rcases hi2 with rfl | rfl
    · have hx : x ∈ [zxcf_ax0] := hx
      have ex := List.mem_singleton.mp hx
      subst ex
      refine zyGo hIH hAt ⟨1, by decide⟩ [595, 34359738369, 68719476737, 0] rfl rfl rfl (zEnv_c (zyfull _) (zEnv_c ?_ (zEnv_c ?_ (zEnv_c ?_ zEnv_nil)))) ?_ (by show 8 - zyN1 (Int32.ofNat 0) < 100; omega)
      · exact zyXb hB 0 rfl
      · exact zyXb hB 1 rfl
      · show 2147483648 ≤ zB (Int32.ofNat 0) ∧ zB (Int32.ofNat 0) ≤ 2147483655
        rw [zyBn (by omega)]
        omega
      · refine ⟨hEE.trans hE, ?_, fun _ => ⟨0, rfl, by omega, fun q hq => absurd hq (Nat.not_lt_zero q)⟩⟩
        show as = [ρ2 1, ρ2 2]
        rw [hg4 1 (by decide), hg4 2 (by decide)]
        exact has
    · have hx : x ∈ [zxcf_bx0] := hx
      have ex := List.mem_singleton.mp hx
      subst ex
      obtain ⟨k, g1, g2, g3⟩ := hInv rfl
      rw [n1, n2] at g3
      have f0 : ρ2 4 = Int32.ofNat 8 * ρ2 1 := zyFp_op (by decide) (zyXf hF 0 rfl)
      have f1 : ρ2 5 = ρ2 4 + ρ2 3 := zyFp_op (by decide) (zyXf hF 1 rfl)
      obtain ⟨n, f2, f3, f4⟩ : ∃ n : Nat, ρ2 5 = Int32.ofNat n ∧ n < 2147483648 ∧ zyEl (zymr r c) B H 81 n = some (.int (ρ2 6)) := zyFp_e (zyXf hF 2 rfl)
      have f5 : ¬ ρ2 6 = ρ2 2 := zyFp_23 (zyXf hF 3 rfl)
      have a3 := (hg4 3 (by decide)).trans g1
      rw [f1, f0, a1, a3, zyOm, zyOa] at f2
      have en := zyOi (by omega) (by omega) f2
      subst en
      obtain ⟨q1, q2⟩ := zfv_el hT (i := 8 * f + k) (by omega)
      rw [f4] at q1
      have q1 := Value.int.inj (Option.some.inj q1)
      rw [q1, a2] at f5
      have f6 : ¬ zfv (zyEl (zymr r c) B H) (8 * f + k) = t := fun q => f5 (by rw [q])
      have hk : k + 1 < 8 := by
        apply Classical.byContradiction
        intro hn
        have hp : p = k ∨ p < k := by omega
        rcases hp with hp | hp
        · rw [← hp, hE] at f6
          exact f6 b4
        · rw [hE] at g3
          exact g3 p hp b4
      have a3' : ρ2 3 + Int32.ofNat 1 = Int32.ofNat (k + 1) := by rw [a3, zyOa]
      refine zyGo hIH hAt ⟨1, by decide⟩ [595, 34359738369, 68719476737, 103079215113] rfl rfl rfl (zEnv_c (zyfull _) (zEnv_c ?_ (zEnv_c ?_ (zEnv_c ?_ zEnv_nil)))) ?_ ?_
      · exact zyXb hB 0 rfl
      · exact zyXb hB 1 rfl
      · show 2147483648 ≤ zB (ρ2 3 + Int32.ofNat 1) ∧ zB (ρ2 3 + Int32.ofNat 1) ≤ 2147483655
        rw [a3', zyBn (by omega)]
        omega
      · refine ⟨hEE.trans hE, ?_, fun _ => ⟨k + 1, a3', hk, ?_⟩⟩
        · show as = [ρ2 1, ρ2 2]
          rw [hg4 1 (by decide), hg4 2 (by decide)]
          exact has
        · intro q hq
          show ¬ zfv (zyEl (zymr r c) B H2) (8 * zyN1 (ρ2 1) + q) = zyN1 (ρ2 2)
          rw [a1, a2, zyN1_of (by omega), zyN1_of (by omega), hEE]
          by_cases e0 : q = k
          · rw [e0]
            exact f6
          · exact g3 q (by omega)
      · show 8 - zyN1 (ρ2 3 + Int32.ofNat 1) < 8 - zyN1 (ρ 3)
        rw [a3', g1, zyN1_of (by omega), zyN1_of (by omega)]
        omega
  · intro as E0 E E2 hT0 hΦ hlen i ρ hT hInv x hx ρ2 N2 B vo hXs hag hfr hT2 hvo
    rcases i with ⟨i, hi⟩
    have hi2 : i = 0 ∨ i = 1 := by omega
    rcases hi2 with rfl | rfl
    · cases hx
    have hx : x ∈ [zxcf_br0] := hx
    have ex := List.mem_singleton.mp hx
    subst ex
    obtain ⟨hE, has, hInv⟩ := hInv
    obtain ⟨k, g1, g2, g3⟩ := hInv rfl
    obtain ⟨hF, hB, -⟩ := hXs
    have hg4 : ∀ k, k < 4 → ρ2 k = ρ k := hag
    refine ⟨(zyfr0 hfr).trans hE, fun f t e b1 b2 => ?_⟩
    rw [has] at e
    obtain ⟨e1, e2⟩ := zyas2' e
    have a1 := (hg4 1 (by decide)).trans e1
    have a2 := (hg4 2 (by decide)).trans e2
    have a3 := (hg4 3 (by decide)).trans g1
    rw [e1, e2, zyN1_of (by omega), zyN1_of (by omega)] at g3
    have ev : vo = some (.int (ρ2 3)) := zyvo_1 (by decide) (show zyvo (zyXn B ρ2 N2) [103079215105] vo from hvo)
    have f0 : ρ2 4 = Int32.ofNat 8 * ρ2 1 := zyFp_op (by decide) (zyXf hF 0 rfl)
    have f1 : ρ2 5 = ρ2 4 + ρ2 3 := zyFp_op (by decide) (zyXf hF 1 rfl)
    obtain ⟨n, f2, f3, f4⟩ : ∃ n : Nat, ρ2 5 = Int32.ofNat n ∧ n < 2147483648 ∧ E 81 n = some (.int (ρ2 6)) := zyFp_e (zyXf hF 2 rfl)
    have f5 : ρ2 6 = ρ2 2 := zyFp_22 (zyXf hF 3 rfl)
    rw [f1, f0, a1, a3, zyOm, zyOa] at f2
    have en := zyOi (by omega) (by omega) f2
    subst en
    obtain ⟨q1, q2⟩ := zfv_el hT (i := 8 * f + k) (by omega)
    rw [f4] at q1
    have q1 := Value.int.inj (Option.some.inj q1)
    rw [f5, a2] at q1
    have q3 := zyOi (by omega) (by omega) q1
    refine ⟨k, g2, by rw [ev, a3], ?_, ?_⟩
    · rw [← hE]
      exact q3.symm
    · rw [← hE]
      exact g3
end
section
/-! THE SIMPLE BRAIDS: can one end so -/
/-- a symbol more -/
def zyρi (ρ : Nat → Int32) (k0 : Nat) (z : Int32) : Nat → Int32 := fun j => if j = k0 then z else ρ j
theorem zyρi_e {ρ : Nat → Int32} {k0 : Nat} {z : Int32} : zyρi ρ k0 z k0 = z := if_pos rfl
theorem zyρi_n {ρ : Nat → Int32} {k0 j : Nat} {z : Int32} (h : ¬ j = k0) : zyρi ρ k0 z j = ρ j := if_neg h
theorem zEnv_i {ρ : Nat → Int32} {env : List (Nat × Nat)} {p : Nat × Nat} {k0 : Nat} {z : Int32} (hk : k0 = env.length) (h : zEnv ρ env) (hz : p.1 ≤ zB z ∧ zB z ≤ p.2) : zEnv (zyρi ρ k0 z) (env ++ [p]) := by
  intro k q hq
  by_cases e : k = k0
  · rw [e, hk, List.getElem?_append_right (Nat.le_refl _), Nat.sub_self] at hq
    have hq : some p = some q := hq
    cases hq
    rw [e, zyρi_e]
    exact hz
  · have hl : k < (env ++ [p]).length := (List.getElem?_eq_some_iff.mp hq).1
    rw [List.length_append, List.length_singleton] at hl
    rw [List.getElem?_append_left (by omega)] at hq
    rw [zyρi_n e]
    exact h k q hq
theorem zySt_sc {B : zCx} {ρ : Nat → Int32} {N k : Nat} {z : Int32} {st : List Nat} {vs : List Value} (hk : k < N) (h : ρ k = z) (ht : zySt (zyXn B ρ N) st vs) : zySt (zyXn B ρ N) (zysym k :: st) (.int z :: vs) := ⟨zyv_sym hk h, ht⟩
theorem zySt_s0 {B : zCx} {ρ : Nat → Int32} {N : Nat} : zySt (zyXn B ρ N) [] [] := trivial
def zyΦie (as : List Int32) (E : zyEm) : Prop := ∃ f k : Nat, as = [Int32.ofNat f, Int32.ofNat k] ∧ f < 1300 ∧ k < 7 ∧ (∃ p, p < 8 ∧ zfv E (8 * f + p) = k) ∧ ∃ p, p < 8 ∧ zfv E (8 * f + p) = k + 1
def zyΨie (_ : List Int32) (E E2 : zyEm) (vo : Option Value) : Prop := E2 = E ∧ ∃ z : Int32, vo = some (.int z) ∧ (z = 0 ∨ z = 1)
theorem zyie_run : zyAllP (fun r c => zyrS (zymr r c) zxi230 (230, 0, 0, 2, 0) 3 zpie (fun _ _ => []) zFie zSie zXie zRie 3) = true := by decide +kernel
theorem zyisEnded {l : Launch} {r c : Nat} (h1 : 1 ≤ r) (h2 : r ≤ 4) (h3 : 1 ≤ c) (h4 : c ≤ 5) {en : zEn} {me : zMe} (hen : zG zxMeta 230 = some en) (hme : zG zMeth 230 = some me) : zyHc l (zymr r c) en me 3 2 zyΦie zyΨie := by
  have een : zG zxMeta 230 = some (zxi230, 3, 3, 11, 230, 0, 0, 2, 0) := rfl
  obtain ⟨me1, hme1, hOK⟩ := zall hen
  rw [hme] at hme1
  cases hme1
  rw [een] at hen
  cases hen
  have hr := zyAllP_iff zyie_run h1 h2 h3 h4
  obtain ⟨mecf, hmecf, -⟩ := zall (show zG zxMeta 229 = some (zxi229, 3, 4, 11, 229, 0, 0, 1, 0) from rfl)
  have hcf := zycomesFrom (l := l) h1 h2 h3 h4 (show zG zxMeta 229 = some (zxi229, 3, 4, 11, 229, 0, 0, 1, 0) from rfl) hmecf
  refine zycutS (mi := zymr r c) hOK rfl rfl ⟨_, rfl, rfl⟩ (ι := Fin 3) (fun i => zpie i.val) (fun _ _ => []) (fun i => zFie i.val) (fun i => zSie i.val) (fun i => zXie i.val) (fun i => zRie i.val) (fun i y2 ct en2 me2 h => by cases h) 200000 (fun i => zyAll_iff hr i.val i.isLt) ⟨0, by decide⟩ ⟨rfl, rfl, rfl, rfl⟩ ⟨by decide, by decide⟩
    (fun i as E0 ρ E => E = E0 ∧ (i.val ≤ 1 → as = [ρ 1, ρ 2])) (fun i _ _ _ _ => 2 - i.val) ?_ ?_ ?_
  · intro as E hlen hT hΦ
    obtain ⟨f, k, rfl, b1, b2, b3⟩ := hΦ
    refine ⟨zEnv_c (zyfull _) (zEnv_c ?_ (zEnv_c ?_ zEnv_nil)), rfl, fun _ => rfl⟩
    · show 2147483648 ≤ zB (Int32.ofNat f) ∧ zB (Int32.ofNat f) ≤ 2147484947
      rw [zyBn (by omega)]
      omega
    · show 2147483648 ≤ zB (Int32.ofNat k) ∧ zB (Int32.ofNat k) ≤ 2147483654
      rw [zyBn (by omega)]
      omega
  · intro as B s Wg hRu hT0 hΦ hlen i ρ H hT hInv hIH x hx ρ2 N2 H2 locs lsB stA hAt hXs hag hfr hT2
    obtain ⟨f, k, e, b1, b2, b3, b4⟩ := hΦ
    rcases i with ⟨i, hi⟩
    have hi2 : i = 0 ∨ i = 1 ∨ i = 2 := by omega
    rcases hi2 with rfl | rfl | rfl
    · obtain ⟨hE, has⟩ := hInv
      have has := has (show 0 ≤ 1 by decide)
      rw [has] at e
      obtain ⟨e1, e2⟩ := zyas2' e
      have hx : x ∈ [zxie_ax0] := hx
      have ex := List.mem_singleton.mp hx
      subst ex
      have hEE := zyfr0 hfr
      obtain ⟨hF, hB, -⟩ := hXs
      have hg4 : ∀ k, k < 3 → ρ2 k = ρ k := hag
      have a1 := (hg4 1 (by decide)).trans e1
      have a2 := (hg4 2 (by decide)).trans e2
      refine zyCa hRu hIH hAt (ix := 201) (ax := 3664) rfl rfl rfl hmecf ⟨rfl, rfl, rfl, rfl⟩ hcf (by decide) [34359738369, 68719476737] [] rfl (by decide) ⟨by decide, by decide⟩ rfl ?_ ?_
      · show zyΦcf [ρ2 1, ρ2 2] _
        rw [a1, a2, hEE, hE]
        exact ⟨f, k, rfl, b1, by omega, b3⟩
      · intro H3 vo hT3 hΨ
        have hΨ : zyΨcf [ρ2 1, ρ2 2] _ _ vo := hΨ
        rw [a1, a2] at hΨ
        obtain ⟨q1, q2⟩ := hΨ
        obtain ⟨p, p1, p2, -⟩ := q2 f k rfl b1 (by omega)
        refine ⟨⟨1, by decide⟩, zyρi (fun k => zyw ρ2 (zyag [595, 34359738369, 68719476737] k)) 3 (Int32.ofNat p), [595, 34359738369, 68719476737], rfl, rfl, fun i hi => zyρi_n (by have : i < 3 := hi; omega), zEnv_i (env := [(0, 4294967295), (2147483648, 2147484947), (2147483648, 2147483654)]) (p := (2147483648, 2147483655)) rfl (zEnv_c (zyfull _) (zEnv_c (zyXb hB 0 rfl) (zEnv_c (zyXb hB 1 rfl) zEnv_nil))) ?_, rfl, ?_, ⟨(q1.trans hEE).trans hE, fun _ => ?_⟩, (show 1 < 2 by decide)⟩
        · show 2147483648 ≤ zB (Int32.ofNat p) ∧ zB (Int32.ofNat p) ≤ 2147483655
          rw [zyBn (by omega)]
          omega
        · rw [p2]
          exact zySt_sc (k := 3) (show 3 < 4 by decide) zyρi_e zySt_s0
        · rw [zyρi_n (by decide), zyρi_n (by decide)]
          show as = [ρ2 1, ρ2 2]
          rw [hg4 1 (by decide), hg4 2 (by decide)]
          exact has
    · obtain ⟨hE, has⟩ := hInv
      have has := has (show 1 ≤ 1 by decide)
      rw [has] at e
      obtain ⟨e1, e2⟩ := zyas2' e
      have hx : x ∈ [zxie_bx0] := hx
      have ex := List.mem_singleton.mp hx
      subst ex
      have hEE := zyfr0 hfr
      obtain ⟨hF, hB, -⟩ := hXs
      have hg4 : ∀ k, k < 4 → ρ2 k = ρ k := hag
      have a1 := (hg4 1 (by decide)).trans e1
      have a2 := (hg4 2 (by decide)).trans e2
      have a2' : ρ2 2 + Int32.ofNat 1 = Int32.ofNat (k + 1) := by rw [a2, zyOa]
      refine zyCa hRu hIH hAt (ix := 201) (ax := 3664) rfl rfl rfl hmecf ⟨rfl, rfl, rfl, rfl⟩ hcf (by decide) [34359738369, 68719476745] [103079215105] rfl (by decide) ⟨by decide, by decide⟩ rfl ?_ ?_
      · show zyΦcf [ρ2 1, ρ2 2 + Int32.ofNat 1] _
        rw [a1, a2', hEE, hE]
        exact ⟨f, k + 1, rfl, b1, by omega, b4⟩
      · intro H3 vo hT3 hΨ
        have hΨ : zyΨcf [ρ2 1, ρ2 2 + Int32.ofNat 1] _ _ vo := hΨ
        rw [a1, a2'] at hΨ
        obtain ⟨q1, q2⟩ := hΨ
        obtain ⟨p, p1, p2, -⟩ := q2 f (k + 1) rfl b1 (by omega)
        refine ⟨⟨2, by decide⟩, zyρi (fun k => zyw ρ2 (zyag [595, 34359738369, 68719476737, 103079215105] k)) 4 (Int32.ofNat p), [595, 34359738369, 68719476737, 103079215105], rfl, rfl, fun i hi => zyρi_n (by have : i < 3 := hi; omega), zEnv_i (env := [(0, 4294967295), (0, 4294967295), (0, 4294967295), (2147483648, 2147483655)]) (p := (2147483648, 2147483655)) rfl (zEnv_c (zyfull _) (zEnv_c (zyfull _) (zEnv_c (zyfull _) (zEnv_c (zyXb hB 2 rfl) zEnv_nil)))) ?_, rfl, ?_, ⟨(q1.trans hEE).trans hE, fun h => absurd (show 2 ≤ 1 from h) (by decide)⟩, (show 0 < 1 by decide)⟩
        · show 2147483648 ≤ zB (Int32.ofNat p) ∧ zB (Int32.ofNat p) ≤ 2147483655
          rw [zyBn (by omega)]
          omega
        · rw [p2]
          exact zySt_sc (k := 4) (show 4 < 5 by decide) zyρi_e (zySt_sc (k := 3) (show 3 < 5 by decide) (zyρi_n (by decide)) zySt_s0)
    · cases hx
  · intro as E0 E E2 hT0 hΦ hlen i ρ hT hInv x hx ρ2 N2 B vo hXs hag hfr hT2 hvo
    rcases i with ⟨i, hi⟩
    have hi2 : i = 0 ∨ i = 1 ∨ i = 2 := by omega
    rcases hi2 with rfl | rfl | rfl
    · cases hx
    · cases hx
    have hx : x ∈ [zxie_cr0, zxie_cr1] := hx
    refine ⟨(zyfr0 hfr).trans hInv.1, ?_⟩
    rcases List.mem_cons.mp hx with ex | hx
    · subst ex
      exact ⟨1, zyvo_1 (c := 8) (by decide) (show zyvo (zyXn B ρ2 N2) [8] vo from hvo), Or.inr rfl⟩
    · have ex := List.mem_singleton.mp hx
      subst ex
      exact ⟨0, zyvo_1 (c := 0) (by decide) (show zyvo (zyXn B ρ2 N2) [0] vo from hvo), Or.inl rfl⟩
end
section
/-! from a stop to the next phase: bounds by what is awaited -/
noncomputable def zyenv1 (Bd : List (Nat × Nat × Nat)) (c lo hi : Nat) : Bool := zif (zand (Nat.beq lo 0) (Nat.beq hi 4294967295)) true (List.rec (motive := fun _ => Bool) (zand (Nat.beq (Nat.mod c 8) 0) (zand (Nat.ble lo (Nat.mod (Nat.add (Nat.div c 8) 2147483648) 4294967296)) (Nat.ble (Nat.mod (Nat.add (Nat.div c 8) 2147483648) 4294967296) hi))) (fun b _ ih => zif (zand (Nat.beq b.1 c) (zand (Nat.ble lo b.2.1) (Nat.ble b.2.2 hi))) true ih) Bd)
theorem zyenv1_iff {ρ : Nat → Int32} {c lo hi : Nat} : ∀ {Bd : List (Nat × Nat × Nat)}, (∀ b ∈ Bd, b.2.1 ≤ zB (zyw ρ b.1) ∧ zB (zyw ρ b.1) ≤ b.2.2) → zyenv1 Bd c lo hi = true → lo ≤ zB (zyw ρ c) ∧ zB (zyw ρ c) ≤ hi := by
  intro Bd hB h
  rcases zif_iff h with ⟨h1, -⟩ | ⟨-, h⟩
  · obtain ⟨q1, q2⟩ := zand_iff h1
    rw [zbeqT q1, zbeqT q2]
    exact zyfull _
  induction Bd with
  | nil =>
    have h : zand (Nat.beq (Nat.mod c 8) 0) (zand (Nat.ble lo (Nat.mod (Nat.add (Nat.div c 8) 2147483648) 4294967296)) (Nat.ble (Nat.mod (Nat.add (Nat.div c 8) 2147483648) 4294967296) hi)) = true := h
    obtain ⟨q1, q2⟩ := zand_iff h
    obtain ⟨q2, q3⟩ := zand_iff q2
    have q1 : c % 8 = 0 := zbeqT q1
    have q2 : lo ≤ (c / 8 + 2147483648) % 4294967296 := zbleT q2
    have q3 : (c / 8 + 2147483648) % 4294967296 ≤ hi := zbleT q3
    have e : zyw ρ c = Int32.ofNat (c / 8) := by
      unfold zyw
      rw [if_neg (by omega)]
    rw [e, zB_of, zb_def]
    omega
  | cons b t ih =>
    have h : zif (zand (Nat.beq b.1 c) (zand (Nat.ble lo b.2.1) (Nat.ble b.2.2 hi))) true (List.rec (motive := fun _ => Bool) (zand (Nat.beq (Nat.mod c 8) 0) (zand (Nat.ble lo (Nat.mod (Nat.add (Nat.div c 8) 2147483648) 4294967296)) (Nat.ble (Nat.mod (Nat.add (Nat.div c 8) 2147483648) 4294967296) hi))) (fun b _ ih => zif (zand (Nat.beq b.1 c) (zand (Nat.ble lo b.2.1) (Nat.ble b.2.2 hi))) true ih) t) = true := h
    rcases zif_iff h with ⟨h1, -⟩ | ⟨-, h⟩
    · obtain ⟨q1, q2⟩ := zand_iff h1
      obtain ⟨q2, q3⟩ := zand_iff q2
      have q2 := zbleT q2
      have q3 := zbleT q3
      have := hB b List.mem_cons_self
      rw [zbeqT q1] at this
      omega
    · refine ih (fun b2 hb2 => hB b2 (List.mem_cons_of_mem _ hb2)) ?_ h
      unfold zyenv1
      rw [h]
      cases zand (Nat.beq lo 0) (Nat.beq hi 4294967295) <;> rfl
noncomputable def zyenvB (Bd : List (Nat × Nat × Nat)) (cs : List Nat) (env : List (Nat × Nat)) : Nat → Bool := List.rec (motive := fun _ => Nat → Bool) (fun _ => true) (fun p _ ih i => zand (zyenv1 Bd (zyag cs i) p.1 p.2) (ih (Nat.succ i))) env
theorem zyenvB_iff {ρ : Nat → Int32} {Bd : List (Nat × Nat × Nat)} {cs : List Nat} (hB : ∀ b ∈ Bd, b.2.1 ≤ zB (zyw ρ b.1) ∧ zB (zyw ρ b.1) ≤ b.2.2) : ∀ {env : List (Nat × Nat)} {i : Nat}, zyenvB Bd cs env i = true → ∀ (k : Nat) (p : Nat × Nat), env[k]? = some p → p.1 ≤ zB (zyw ρ (zyag cs (i + k))) ∧ zB (zyw ρ (zyag cs (i + k))) ≤ p.2 := by
  intro env
  induction env with
  | nil => intro i _ k p hp; simp at hp
  | cons a t ih =>
    intro i h k p hp
    have h : zand (zyenv1 Bd (zyag cs i) a.1 a.2) (zyenvB Bd cs t (i + 1)) = true := h
    obtain ⟨g1, g2⟩ := zand_iff h
    cases k with
    | zero =>
      have hp : some a = some p := hp
      cases hp
      exact zyenv1_iff hB g1
    | succ k =>
      rw [List.getElem?_cons_succ] at hp
      have := ih g2 k p hp
      rwa [show i + 1 + k = i + (k + 1) by omega] at this
section YGO2
variable {l : Launch} {mi : zyB} {en : zEn} {dep : Nat} {B : zCx} {s : State} {ι : Type} {φ : ι → zyPh} {Inv : ι → (Nat → Int32) → zyEm → Prop} {Mu : ι → (Nat → Int32) → zyEm → Nat} {M : Nat} {Wg : zyWt} {x : zyXp} {ρ2 : Nat → Int32} {N : Nat} {H : Heap} {locs : List Loc} {lsB : Array Slot} {stA : List Value}
theorem zyGoB {nL : Nat} (hIH : zyIH mi nL B s φ Inv Mu M Wg) (hAt : zyAt mi B s nL x ρ2 N H locs lsB stA) (hB : ∀ b ∈ x.2.2.2.2.1, b.2.1 ≤ zB (zyw ρ2 b.1) ∧ zB (zyw ρ2 b.1) ≤ b.2.2) (i2 : ι) (cs : List Nat) (hpc : x.1 = (φ i2).1) (hchk : zand (zygoB nL x.2.1 (φ i2) cs) (zand (zynil x.2.2.1) (zynil (φ i2).2.2.2.2)) = true) (henv : zyenvB x.2.2.2.2.1 cs (φ i2).2.2.1 0 = true) (hkc : (φ i2).2.2.2.1 = [])
    (hInv : Inv i2 (fun k => zyw ρ2 (zyag cs k)) (zyEl mi B H)) (hMu : Mu i2 (fun k => zyw ρ2 (zyag cs k)) (zyEl mi B H) < M) : Wg H locs x.1 lsB stA := by
  refine zyGo hIH hAt i2 cs hpc hchk hkc (fun k p hp => ?_) hInv hMu
  have := zyenvB_iff hB henv k p hp
  rwa [Nat.zero_add] at this
/-- a call that answers nothing -/
theorem zyCa0 (hRu : zyRu l mi en dep B s Wg) (hIH : zyIH mi en.2.2.1 B s φ Inv Mu M Wg) (hAt : zyAt mi B s en.2.2.1 x ρ2 N H locs lsB stA) (hB : ∀ b ∈ x.2.2.2.2.1, b.2.1 ≤ zB (zyw ρ2 b.1) ∧ zB (zyw ρ2 b.1) ≤ b.2.2) {en2 : zEn} {me2 : zMe} {dep2 na2 : Nat} {Φ2 : List Int32 → zyEm → Prop} {Ψ2 : List Int32 → zyEm → zyEm → Option Value → Prop} (hHc : zyHc l mi en2 me2 dep2 na2 Φ2 Ψ2) {ix ax : Nat} (hrow : en.1 x.1 = (.invokevirtual ix, x.1 + 3, ax)) (hkd : zG zKd (ax / 16) = some 0) (hen2 : zG zxMeta (ax / 16) = some en2) (hme2 : zG zMeth (ax / 16) = some me2) (hsh : en2.2.2.2.1 = 11 ∧ en2.2.1 = na2 + 1 ∧ en2.2.2.2.2.2.1 = 0 ∧ en2.2.2.2.2.2.2.1 = 0) (hdp : dep2 + 1 ≤ dep) (cs2 : List Nat) (hcs2 : x.2.2.1 = cs2.reverse ++ [595]) (hk : ∀ c ∈ cs2, c % 8 ≤ 1) (hlen : cs2.length = na2)
    (i2 : ι) (cs : List Nat) (hpc : (φ i2).1 = x.1 + 3) (hchk : zand (zygoB en.2.2.1 x.2.1 (φ i2) cs) (zynil (φ i2).2.2.2.2) = true) (henv : zyenvB x.2.2.2.2.1 cs (φ i2).2.2.1 0 = true) (hkc : (φ i2).2.2.2.1 = [])
    (hΦ : Φ2 (cs2.map (zyw ρ2)) (zyEl mi B H)) (kk : ∀ (E3 : zyEm) (vo : Option Value), zyTy mi E3 → Ψ2 (cs2.map (zyw ρ2)) (zyEl mi B H) E3 vo → vo = none ∧ Inv i2 (fun k => zyw ρ2 (zyag cs k)) E3 ∧ Mu i2 (fun k => zyw ρ2 (zyag cs k)) E3 < M) : Wg H locs x.1 lsB stA := by
  obtain ⟨c1, c2⟩ := zand_iff hchk
  refine zyCa hRu hIH hAt hrow hkd hen2 hme2 hsh hHc hdp cs2 [] hcs2 hk ⟨Nat.zero_le _, fun c hc => by cases hc⟩ hlen hΦ (fun H3 vo hT3 hΨ => ?_)
  obtain ⟨q1, q2, q3⟩ := kk _ vo hT3 hΨ
  refine ⟨i2, _, cs, hpc, c1, fun _ _ => rfl, (fun k p hp => ?_), hkc, ?_, q2, q3⟩
  · have := zyenvB_iff hB henv k p hp
    rwa [Nat.zero_add] at this
  · rw [q1]
    cases hq : (φ i2).2.2.2.2 with
    | nil => exact zySt_s0
    | cons a t => rw [hq] at c2; cases c2
/-- a call that answers an int: the symbol k0 -/
theorem zyCa1 (hRu : zyRu l mi en dep B s Wg) (hIH : zyIH mi en.2.2.1 B s φ Inv Mu M Wg) (hAt : zyAt mi B s en.2.2.1 x ρ2 N H locs lsB stA) (hB : ∀ b ∈ x.2.2.2.2.1, b.2.1 ≤ zB (zyw ρ2 b.1) ∧ zB (zyw ρ2 b.1) ≤ b.2.2) {en2 : zEn} {me2 : zMe} {dep2 na2 : Nat} {Φ2 : List Int32 → zyEm → Prop} {Ψ2 : List Int32 → zyEm → zyEm → Option Value → Prop} (hHc : zyHc l mi en2 me2 dep2 na2 Φ2 Ψ2) {ix ax : Nat} (hrow : en.1 x.1 = (.invokevirtual ix, x.1 + 3, ax)) (hkd : zG zKd (ax / 16) = some 0) (hen2 : zG zxMeta (ax / 16) = some en2) (hme2 : zG zMeth (ax / 16) = some me2) (hsh : en2.2.2.2.1 = 11 ∧ en2.2.1 = na2 + 1 ∧ en2.2.2.2.2.2.1 = 0 ∧ en2.2.2.2.2.2.2.1 = 0) (hdp : dep2 + 1 ≤ dep) (cs2 : List Nat) (hcs2 : x.2.2.1 = cs2.reverse ++ [595]) (hk : ∀ c ∈ cs2, c % 8 ≤ 1) (hlen : cs2.length = na2)
    (i2 : ι) (cs : List Nat) (env : List (Nat × Nat)) (lo hi : Nat) (he : (φ i2).2.2.1 = env ++ [(lo, hi)]) (hnl : en.2.2.1 ≤ zyln env) (hpc : (φ i2).1 = x.1 + 3) (hchk : zygoB en.2.2.1 x.2.1 (φ i2) cs = true) (henv : zyenvB x.2.2.2.2.1 cs env 0 = true) (hkc : (φ i2).2.2.2.1 = []) (hst : (φ i2).2.2.2.2 = [zysym (zyln env)])
    (hΦ : Φ2 (cs2.map (zyw ρ2)) (zyEl mi B H)) (kk : ∀ (E3 : zyEm) (vo : Option Value), zyTy mi E3 → Ψ2 (cs2.map (zyw ρ2)) (zyEl mi B H) E3 vo → ∃ z : Int32, vo = some (.int z) ∧ lo ≤ zB z ∧ zB z ≤ hi ∧ Inv i2 (zyρi (fun k => zyw ρ2 (zyag cs k)) (zyln env) z) E3 ∧ Mu i2 (zyρi (fun k => zyw ρ2 (zyag cs k)) (zyln env) z) E3 < M) : Wg H locs x.1 lsB stA := by
  refine zyCa hRu hIH hAt hrow hkd hen2 hme2 hsh hHc hdp cs2 [] hcs2 hk ⟨Nat.zero_le _, fun c hc => by cases hc⟩ hlen hΦ (fun H3 vo hT3 hΨ => ?_)
  obtain ⟨z, q1, q2, q3, q4, q5⟩ := kk _ vo hT3 hΨ
  refine ⟨i2, zyρi (fun k => zyw ρ2 (zyag cs k)) (zyln env) z, cs, hpc, hchk, fun i hi => zyρi_n (by omega), ?_, hkc, ?_, q4, q5⟩
  · rw [he]
    refine zEnv_i (zyln_eq env) (fun k p hp => ?_) ⟨q2, q3⟩
    have := zyenvB_iff hB henv k p hp
    rwa [Nat.zero_add] at this
  · rw [q1, hst]
    refine zySt_sc ?_ zyρi_e zySt_s0
    rw [he, List.length_append, zyln_eq, List.length_singleton]
    omega
end YGO2
end
section
/-! facts by their number -/
section YHX
variable {l : List zyF} {ρ : Nat → Int32} {E : zyEm} {g v a b : Nat}
theorem zyX20 (h : ∀ f ∈ l, zyFp ρ E f) (j : Nat) (hj : l[j]? = some (20, v, a, b)) : zyw ρ a < zyw ρ b := zyFp_20 (zyXf h j hj)
theorem zyX21 (h : ∀ f ∈ l, zyFp ρ E f) (j : Nat) (hj : l[j]? = some (21, v, a, b)) : ¬ zyw ρ a < zyw ρ b := zyFp_21 (zyXf h j hj)
theorem zyX22 (h : ∀ f ∈ l, zyFp ρ E f) (j : Nat) (hj : l[j]? = some (22, v, a, b)) : zyw ρ a = zyw ρ b := zyFp_22 (zyXf h j hj)
theorem zyX23 (h : ∀ f ∈ l, zyFp ρ E f) (j : Nat) (hj : l[j]? = some (23, v, a, b)) : ¬ zyw ρ a = zyw ρ b := zyFp_23 (zyXf h j hj)
theorem zyXop (h : ∀ f ∈ l, zyFp ρ E f) (j : Nat) (hj : l[j]? = some (g, v, a, b)) (hg : g < 12) : zyw ρ v = zyG g (zyw ρ a) (zyw ρ b) := zyFp_op hg (zyXf h j hj)
theorem zyXe (h : ∀ f ∈ l, zyFp ρ E f) (j : Nat) (hj : l[j]? = some (24, v, a, b)) : ∃ n : Nat, zyw ρ b = Int32.ofNat n ∧ n < 2147483648 ∧ E a n = some (.int (zyw ρ v)) := zyFp_e (zyXf h j hj)
theorem zyXr (h : ∀ f ∈ l, zyFp ρ E f) (j id : Nat) (hj : l[j]? = some (1000 + id, v, a, b)) : zyRr id E (zyw ρ a) (zyw ρ b) (zyw ρ v) := zyFp_r (zyXf h j hj)
end YHX
end
section
/-! ROWS OF PLACES: inversions; rows that hold each place -/
def zcnt (h : Nat → Nat) (v : Nat) : Nat → Nat
  | 0 => 0
  | i + 1 => zcnt h v i + (if v < h i then 1 else 0)
def zinv (h : Nat → Nat) : Nat → Nat
  | 0 => 0
  | j + 1 => zinv h j + zcnt h (h j) j
def zsw (h : Nat → Nat) (k : Nat) : Nat → Nat := fun j => if j = k then h (k + 1) else if j = k + 1 then h k else h j
theorem zcnt_congr {h g : Nat → Nat} {v : Nat} : ∀ {n : Nat}, (∀ i, i < n → h i = g i) → zcnt h v n = zcnt g v n := by
  intro n
  induction n with
  | zero => intro _; rfl
  | succ n ih =>
    intro e
    show zcnt h v n + _ = zcnt g v n + _
    rw [ih (fun i hi => e i (by omega)), e n (by omega)]
theorem zinv_congr {h g : Nat → Nat} : ∀ {n : Nat}, (∀ i, i < n → h i = g i) → zinv h n = zinv g n := by
  intro n
  induction n with
  | zero => intro _; rfl
  | succ n ih =>
    intro e
    show zinv h n + zcnt h (h n) n = zinv g n + zcnt g (g n) n
    rw [ih (fun i hi => e i (by omega)), e n (by omega), zcnt_congr (fun i hi => e i (by omega))]
theorem zsw_lo {h : Nat → Nat} {k j : Nat} (hj : j < k) : zsw h k j = h j := by
  unfold zsw
  rw [if_neg (by omega), if_neg (by omega)]
theorem zsw_hi {h : Nat → Nat} {k j : Nat} (hj : k + 1 < j) : zsw h k j = h j := by
  unfold zsw
  rw [if_neg (by omega), if_neg (by omega)]
theorem zsw_0 {h : Nat → Nat} {k : Nat} : zsw h k k = h (k + 1) := if_pos rfl
theorem zsw_1 {h : Nat → Nat} {k : Nat} : zsw h k (k + 1) = h k := by
  unfold zsw
  rw [if_neg (by omega), if_pos rfl]
theorem zcnt_sw {h : Nat → Nat} {k v : Nat} : ∀ (d : Nat), zcnt (zsw h k) v (k + 2 + d) = zcnt h v (k + 2 + d) := by
  intro d
  induction d with
  | zero =>
    show zcnt (zsw h k) v k + (if v < zsw h k k then 1 else 0) + (if v < zsw h k (k + 1) then 1 else 0) = zcnt h v k + (if v < h k then 1 else 0) + (if v < h (k + 1) then 1 else 0)
    rw [zcnt_congr (g := h) (fun i hi => zsw_lo hi), zsw_0, zsw_1]
    omega
  | succ d ih =>
    show zcnt (zsw h k) v (k + 2 + d) + (if v < zsw h k (k + 2 + d) then 1 else 0) = zcnt h v (k + 2 + d) + (if v < h (k + 2 + d) then 1 else 0)
    rw [ih, zsw_hi (by omega)]
theorem zinv_sw {h : Nat → Nat} {k : Nat} (hk : h (k + 1) < h k) : ∀ (d : Nat), zinv (zsw h k) (k + 2 + d) + 1 = zinv h (k + 2 + d) := by
  intro d
  induction d with
  | zero =>
    show zinv (zsw h k) k + zcnt (zsw h k) (zsw h k k) k + (zcnt (zsw h k) (zsw h k (k + 1)) k + (if zsw h k (k + 1) < zsw h k k then 1 else 0)) + 1 = zinv h k + zcnt h (h k) k + (zcnt h (h (k + 1)) k + (if h (k + 1) < h k then 1 else 0))
    rw [zinv_congr (g := h) (fun i hi => zsw_lo hi), zcnt_congr (g := h) (fun i hi => zsw_lo hi), zcnt_congr (g := h) (fun i hi => zsw_lo hi), zsw_0, zsw_1, if_pos hk, if_neg (by omega)]
    omega
  | succ d ih =>
    show zinv (zsw h k) (k + 2 + d) + zcnt (zsw h k) (zsw h k (k + 2 + d)) (k + 2 + d) + 1 = zinv h (k + 2 + d) + zcnt h (h (k + 2 + d)) (k + 2 + d)
    rw [zsw_hi (by omega), zcnt_sw]
    omega
theorem zinv_lt {h : Nat → Nat} {k m : Nat} (hk : h (k + 1) < h k) (hm : k + 1 < m) : zinv (zsw h k) m + 1 = zinv h m := by
  have := zinv_sw hk (m - (k + 2))
  rwa [show k + 2 + (m - (k + 2)) = m by omega] at this
theorem zcnt_le {h : Nat → Nat} {v : Nat} : ∀ {n : Nat}, zcnt h v n ≤ n := by
  intro n
  induction n with
  | zero => exact Nat.le_refl _
  | succ n ih =>
    show zcnt h v n + (if v < h n then 1 else 0) ≤ n + 1
    split <;> omega
theorem zinv_le {h : Nat → Nat} : ∀ {n : Nat}, zinv h n ≤ zySum (fun i => i) n := by
  intro n
  induction n with
  | zero => exact Nat.le_refl _
  | succ n ih =>
    show zinv h n + zcnt h (h n) n ≤ zySum (fun i => i) n + n
    have := zcnt_le (h := h) (v := h n) (n := n)
    omega
theorem zySum_mono {f : Nat → Nat} {a : Nat} : ∀ {b : Nat}, a ≤ b → zySum f a ≤ zySum f b := by
  intro b
  induction b with
  | zero => intro h; rw [show a = 0 by omega]; exact Nat.le_refl _
  | succ b ih =>
    intro h
    by_cases e : a = b + 1
    · rw [e]
      exact Nat.le_refl _
    · have := ih (by omega)
      show zySum f a ≤ zySum f b + f b
      omega
theorem zinv_28 {h : Nat → Nat} {n : Nat} (hn : n ≤ 8) : zinv h n ≤ 28 := Nat.le_trans zinv_le (Nat.le_trans (zySum_mono hn) (by decide))
/-- each of m places is one's, and is within m -/
def zPm (g : Nat → Nat) (m : Nat) : Prop := ∀ t, t < m → g t < m ∧ ∃ p, p < m ∧ g p = t
theorem zPm_congr {g h : Nat → Nat} {m : Nat} (e : ∀ i, i < m → h i = g i) (hg : zPm g m) : zPm h m := by
  intro t ht
  obtain ⟨h1, p, h2, h3⟩ := hg t ht
  exact ⟨by rw [e t ht]; exact h1, p, h2, by rw [e p h2]; exact h3⟩
theorem zPm_sw {g : Nat → Nat} {m k : Nat} (hk : k + 1 < m) (hg : zPm g m) : zPm (zsw g k) m := by
  intro t ht
  refine ⟨?_, ?_⟩
  · unfold zsw
    split
    · exact (hg (k + 1) hk).1
    · split
      · exact (hg k (by omega)).1
      · exact (hg t ht).1
  · obtain ⟨-, p, h2, h3⟩ := hg t ht
    by_cases e : p = k
    · exact ⟨k + 1, hk, by rw [zsw_1, ← e]; exact h3⟩
    · by_cases e2 : p = k + 1
      · exact ⟨k, by omega, by rw [zsw_0, ← e2]; exact h3⟩
      · refine ⟨p, h2, ?_⟩
        unfold zsw
        rw [if_neg e, if_neg e2]
        exact h3
/-- two places change what they hold -/
theorem zPm_ch {g h : Nat → Nat} {m p q a b : Nat} (hp : p < m) (hq : q < m) (ha : a < m) (hb : b < m) (hab : ¬ a = b) (gp : g p = a) (gq : g q = b) (hg : zPm g m) (hh : ∀ j, j < m → h j = if j = q then a else if j = p then b else g j) : zPm h m := by
  have hpq : ¬ p = q := fun e => hab (by rw [← gp, ← gq, e])
  intro t ht
  refine ⟨?_, ?_⟩
  · rw [hh t ht]
    split
    · exact ha
    · split
      · exact hb
      · exact (hg t ht).1
  · by_cases e : t = a
    · exact ⟨q, hq, by rw [hh q hq, if_pos rfl, e]⟩
    · by_cases e2 : t = b
      · exact ⟨p, hp, by rw [hh p hp, if_neg hpq, if_pos rfl, e2]⟩
      · obtain ⟨-, p0, h2, h3⟩ := hg t ht
        refine ⟨p0, h2, ?_⟩
        rw [hh p0 h2, if_neg (fun z => e2 (by rw [← h3, z]; exact gq)), if_neg (fun z => e (by rw [← h3, z]; exact gp))]
        exact h3
/-- all is seen from behind -/
theorem zPm_mi {g h : Nat → Nat} {m : Nat} (hg : zPm g m) (hh : ∀ j, j < m → h (m - 1 - j) = m - 1 - g j) : zPm h m := by
  intro t ht
  refine ⟨?_, ?_⟩
  · have := hh (m - 1 - t) (by omega)
    rw [show m - 1 - (m - 1 - t) = t by omega] at this
    rw [this]
    omega
  · obtain ⟨-, p, h2, h3⟩ := hg (m - 1 - t) (by omega)
    refine ⟨m - 1 - p, by omega, ?_⟩
    rw [hh p h2, h3]
    omega
theorem zPm_id {h : Nat → Nat} {m : Nat} (hh : ∀ j, j < m → h j = j) : zPm h m := fun t ht => ⟨by rw [hh t ht]; exact ht, t, ht, hh t ht⟩
theorem zPm_rev {h : Nat → Nat} {m : Nat} (hh : ∀ j, j < m → h j = m - 1 - j) : zPm h m := fun t ht => ⟨by rw [hh t ht]; omega, m - 1 - t, by omega, by rw [hh _ (by omega)]; omega⟩
end
section
/-! phases: shares (printed by yex2.py) -/
noncomputable def zxsh_ax0 : zyXp := (9, [595, 34359738369, 34359738377, 0, 0, 13, 13, 13], [], [], [(34359738369, 2147483648, 2147484946), (34359738377, 2147483649, 2147484947)], [])
noncomputable def zpsh_a : zyPh := (0, [595, 34359738369, 13, 13, 13, 13, 13, 13], [(0, 4294967295), (2147483648, 2147484946), (0, 4294967295), (0, 4294967295), (0, 4294967295), (0, 4294967295), (0, 4294967295), (0, 4294967295)], [], [])
noncomputable def zxsh_bx0 : zyXp := (34, [595, 34359738369, 68719476737, 103079215105, 137438953473, 13, 13, 13], [137438953473, 34359738369, 595], [(24, 274877906945, 74, 168), (20, 0, 137438953481, 274877906945), (3, 309237645313, 64, 68719476737), (1, 343597383681, 309237645313, 137438953473), (24, 377957122049, 81, 343597383681), (3, 412316860417, 64, 68719476737), (1, 446676598785, 412316860417, 137438953481), (24, 481036337153, 81, 446676598785), (20, 0, 481036337153, 377957122049), (23, 0, 8, 0)], [(34359738369, 2147483648, 2147484946), (68719476737, 2147483649, 2147484947), (103079215105, 2147483648, 2147483649), (137438953473, 2147483648, 2147483654), (274877906945, 2147483650, 2147483656), (309237645313, 2147483656, 2147494040), (343597383681, 2147483656, 2147494046), (377957122049, 2147483649, 2147483655), (412316860417, 2147483656, 2147494040), (446676598785, 2147483657, 2147494047), (481036337153, 2147483648, 2147483654)], [])
noncomputable def zxsh_bx1 : zyXp := (9, [595, 34359738369, 68719476737, 103079215105, 137438953481, 13, 13, 13], [], [(24, 274877906945, 74, 168), (20, 0, 137438953481, 274877906945), (3, 309237645313, 64, 68719476737), (1, 343597383681, 309237645313, 137438953473), (24, 377957122049, 81, 343597383681), (3, 412316860417, 64, 68719476737), (1, 446676598785, 412316860417, 137438953481), (24, 481036337153, 81, 446676598785), (21, 0, 481036337153, 377957122049), (22, 0, 0, 0)], [(34359738369, 2147483648, 2147484946), (68719476737, 2147483649, 2147484947), (103079215105, 2147483648, 2147483649), (137438953473, 2147483648, 2147483654), (274877906945, 2147483650, 2147483656), (309237645313, 2147483656, 2147494040), (343597383681, 2147483656, 2147494046), (377957122049, 2147483648, 2147483655), (412316860417, 2147483656, 2147494040), (446676598785, 2147483657, 2147494047), (481036337153, 2147483648, 2147483655), (137438953481, 2147483649, 2147483655)], [])
noncomputable def zxsh_br0 : zyXp := (0, [], [103079215105], [(24, 274877906945, 74, 168), (21, 0, 137438953481, 274877906945)], [(103079215105, 2147483648, 2147483649), (137438953473, 2147483648, 2147483655), (274877906945, 2147483648, 2147483656)], [])
noncomputable def zpsh_b : zyPh := (9, [595, 34359738369, 68719476737, 103079215105, 137438953473, 13, 13, 13], [(0, 4294967295), (2147483648, 2147484946), (2147483649, 2147484947), (2147483648, 2147483649), (2147483648, 2147483655), (0, 4294967295), (0, 4294967295), (0, 4294967295)], [], [])
noncomputable def zxsh_cx0 : zyXp := (9, [595, 34359738369, 68719476737, 103079215105, 137438953481, 13, 13, 13], [], [(23, 0, 274877906945, 0)], [(34359738369, 2147483648, 2147484946), (68719476737, 2147483649, 2147484947), (103079215105, 2147483648, 2147483649), (137438953473, 2147483648, 2147483654), (274877906945, 2147483649, 2147483649), (137438953481, 2147483649, 2147483655)], [])
noncomputable def zxsh_cx1 : zyXp := (50, [595, 34359738369, 68719476737, 103079215105, 137438953473, 13, 13, 13], [137438953473, 34359738369, 595], [(22, 0, 274877906945, 0)], [(34359738369, 2147483648, 2147484946), (68719476737, 2147483649, 2147484947), (103079215105, 2147483648, 2147483649), (137438953473, 2147483648, 2147483654), (274877906945, 2147483648, 2147483648)], [])
noncomputable def zpsh_c : zyPh := (37, [595, 34359738369, 68719476737, 103079215105, 137438953473, 13, 13, 13], [(0, 4294967295), (2147483648, 2147484946), (2147483649, 2147484947), (2147483648, 2147483649), (2147483648, 2147483654), (0, 4294967295), (0, 4294967295), (0, 4294967295), (2147483648, 2147483649)], [], [274877906945])
noncomputable def zxsh_dx0 : zyXp := (61, [595, 34359738369, 68719476737, 103079215105, 137438953473, 274877906945, 13, 13], [137438953481, 34359738369, 595], [], [(34359738369, 2147483648, 2147484946), (68719476737, 2147483649, 2147484947), (103079215105, 2147483648, 2147483649), (137438953473, 2147483648, 2147483654), (274877906945, 2147483648, 2147483655), (137438953481, 2147483649, 2147483655)], [])
noncomputable def zpsh_d : zyPh := (53, [595, 34359738369, 68719476737, 103079215105, 137438953473, 13, 13, 13], [(0, 4294967295), (2147483648, 2147484946), (2147483649, 2147484947), (2147483648, 2147483649), (2147483648, 2147483654), (0, 4294967295), (0, 4294967295), (0, 4294967295), (2147483648, 2147483655)], [], [274877906945])
noncomputable def zxsh_ex0 : zyXp := (74, [595, 34359738369, 68719476737, 103079215105, 137438953473, 171798691841, 274877906945, 13], [137438953481, 171798691841, 34359738369, 595], [], [(34359738369, 2147483648, 2147484946), (68719476737, 2147483649, 2147484947), (103079215105, 2147483648, 2147483649), (137438953473, 2147483648, 2147483654), (171798691841, 2147483648, 2147483655), (274877906945, 2147483648, 2147483655), (137438953481, 2147483649, 2147483655)], [])
noncomputable def zpsh_e : zyPh := (64, [595, 34359738369, 68719476737, 103079215105, 137438953473, 171798691841, 13, 13], [(0, 4294967295), (2147483648, 2147484946), (2147483649, 2147484947), (2147483648, 2147483649), (2147483648, 2147483654), (2147483648, 2147483655), (0, 4294967295), (0, 4294967295), (2147483648, 2147483655)], [], [274877906945])
noncomputable def zxsh_fx0 : zyXp := (83, [595, 34359738369, 68719476737, 103079215105, 137438953473, 171798691841, 206158430209, 13], [137438953473, 206158430209, 34359738369, 595], [], [(34359738369, 2147483648, 2147484946), (68719476737, 2147483649, 2147484947), (103079215105, 2147483648, 2147483649), (137438953473, 2147483648, 2147483654), (171798691841, 2147483648, 2147483655), (206158430209, 2147483648, 2147483655)], [])
noncomputable def zpsh_f : zyPh := (77, [595, 34359738369, 68719476737, 103079215105, 137438953473, 171798691841, 206158430209, 13], [(0, 4294967295), (2147483648, 2147484946), (2147483649, 2147484947), (2147483648, 2147483649), (2147483648, 2147483654), (2147483648, 2147483655), (2147483648, 2147483655), (0, 4294967295)], [], [])
noncomputable def zxsh_gx0 : zyXp := (108, [595, 34359738369, 68719476737, 103079215105, 137438953473, 13, 13, 343597383681], [446676598785, 137438953473, 68719476737, 595], [(3, 274877906945, 64, 68719476737), (1, 309237645313, 274877906945, 137438953473), (24, 343597383681, 81, 309237645313), (3, 377957122049, 64, 68719476737), (1, 412316860417, 377957122049, 137438953481), (24, 446676598785, 81, 412316860417)], [(34359738369, 2147483648, 2147484946), (68719476737, 2147483649, 2147484947), (103079215105, 2147483648, 2147483649), (137438953473, 2147483648, 2147483654), (274877906945, 2147483656, 2147494040), (309237645313, 2147483656, 2147494046), (343597383681, 2147483648, 2147483655), (377957122049, 2147483656, 2147494040), (412316860417, 2147483657, 2147494047), (446676598785, 2147483648, 2147483655)], [])
noncomputable def zpsh_g : zyPh := (86, [595, 34359738369, 68719476737, 103079215105, 137438953473, 13, 13, 13], [(0, 4294967295), (2147483648, 2147484946), (2147483649, 2147484947), (2147483648, 2147483649), (2147483648, 2147483654), (0, 4294967295), (0, 4294967295), (0, 4294967295)], [], [])
noncomputable def zxsh_hx0 : zyXp := (119, [595, 34359738369, 68719476737, 103079215105, 137438953473, 13, 13, 240518168577], [240518168577, 137438953481, 68719476737, 595], [], [(34359738369, 2147483648, 2147484946), (68719476737, 2147483649, 2147484947), (103079215105, 2147483648, 2147483649), (137438953473, 2147483648, 2147483654), (240518168577, 2147483648, 2147483655), (137438953481, 2147483649, 2147483655)], [])
noncomputable def zpsh_h : zyPh := (111, [595, 34359738369, 68719476737, 103079215105, 137438953473, 13, 13, 240518168577], [(0, 4294967295), (2147483648, 2147484946), (2147483649, 2147484947), (2147483648, 2147483649), (2147483648, 2147483654), (0, 4294967295), (0, 4294967295), (2147483648, 2147483655)], [], [])
noncomputable def zxsh_ix0 : zyXp := (9, [595, 34359738369, 68719476737, 8, 0, 13, 13, 13], [], [], [(34359738369, 2147483648, 2147484946), (68719476737, 2147483649, 2147484947)], [])
noncomputable def zpsh_i : zyPh := (122, [595, 34359738369, 68719476737, 103079215105, 137438953473, 13, 13, 13], [(0, 4294967295), (2147483648, 2147484946), (2147483649, 2147484947), (2147483648, 2147483649), (2147483648, 2147483654), (0, 4294967295), (0, 4294967295), (0, 4294967295)], [], [])
noncomputable def zpsh (i : Nat) : zyPh := zif (Nat.beq i 0) (zpsh_a) (zif (Nat.beq i 1) (zpsh_b) (zif (Nat.beq i 2) (zpsh_c) (zif (Nat.beq i 3) (zpsh_d) (zif (Nat.beq i 4) (zpsh_e) (zif (Nat.beq i 5) (zpsh_f) (zif (Nat.beq i 6) (zpsh_g) (zif (Nat.beq i 7) (zpsh_h) (zpsh_i))))))))
noncomputable def zXsh (i : Nat) : List zyXp := zif (Nat.beq i 0) ([zxsh_ax0]) (zif (Nat.beq i 1) ([zxsh_bx0, zxsh_bx1]) (zif (Nat.beq i 2) ([zxsh_cx0, zxsh_cx1]) (zif (Nat.beq i 3) ([zxsh_dx0]) (zif (Nat.beq i 4) ([zxsh_ex0]) (zif (Nat.beq i 5) ([zxsh_fx0]) (zif (Nat.beq i 6) ([zxsh_gx0]) (zif (Nat.beq i 7) ([zxsh_hx0]) ([zxsh_ix0]))))))))
noncomputable def zRsh (i : Nat) : List zyXp := zif (Nat.beq i 0) ([]) (zif (Nat.beq i 1) ([zxsh_br0]) (zif (Nat.beq i 2) ([]) (zif (Nat.beq i 3) ([]) (zif (Nat.beq i 4) ([]) (zif (Nat.beq i 5) ([]) (zif (Nat.beq i 6) ([]) (zif (Nat.beq i 7) ([]) ([]))))))))
noncomputable def zFsh (i : Nat) : zyR := zif (Nat.beq i 0) ([]) (zif (Nat.beq i 1) ([]) (zif (Nat.beq i 2) ([]) (zif (Nat.beq i 3) ([]) (zif (Nat.beq i 4) ([]) (zif (Nat.beq i 5) ([]) (zif (Nat.beq i 6) ([]) (zif (Nat.beq i 7) ([]) ([]))))))))
noncomputable def zSsh (i : Nat) : Nat := zif (Nat.beq i 0) (0) (zif (Nat.beq i 1) (0) (zif (Nat.beq i 2) (0) (zif (Nat.beq i 3) (0) (zif (Nat.beq i 4) (0) (zif (Nat.beq i 5) (0) (zif (Nat.beq i 6) (0) (zif (Nat.beq i 7) (0) (0))))))))
end
section
/-! THE SIMPLE BRAIDS: what goes over from one to the one before -/
def zyrow (E : zyEm) (f : Nat) : Nat → Nat := fun p => zfv E (8 * f + p)
theorem zfv_rd {r c : Nat} {E : zyEm} (hT : zyTy (zymr r c) E) {x1 x2 v : Int32} {f k : Nat} (hfk : 8 * f + k < 10400) (f0 : x1 = Int32.ofNat 8 * Int32.ofNat f) (f1 : x2 = x1 + Int32.ofNat k) (f2 : ∃ n : Nat, x2 = Int32.ofNat n ∧ n < 2147483648 ∧ E 81 n = some (.int v)) : v = Int32.ofNat (zfv E (8 * f + k)) := by
  obtain ⟨n, g1, g2, g3⟩ := f2
  rw [f1, f0, zyOm, zyOa] at g1
  have e := zyOi (by omega) (by omega) g1
  subst e
  rw [(zfv_el hT hfk).1] at g3
  exact (Value.int.inj (Option.some.inj g3)).symm
theorem zyFp_ek {ρ : Nat → Int32} {E : zyEm} {v a : Nat} (j : Nat) (hj : j < 2147483648) (h : zyFp ρ E (24, v, a, 8 * j)) : E a j = some (.int (zyw ρ v)) := by
  obtain ⟨n, g1, g2, g3⟩ := zyFp_e h
  have e : zyw ρ (8 * j) = Int32.ofNat j := by
    unfold zyw
    rw [if_neg (by omega), show 8 * j / 8 = j by omega]
  rw [e] at g1
  rw [zyOi (by omega) (by omega) g1]
  exact g3
/-- nothing but two rows changes -/
def zyFs (a : Nat) (E E2 : zyEm) : Prop := ∀ a2 k2, ¬ (a2 = 81 ∧ 8 * a ≤ k2 ∧ k2 < 8 * a + 16) → E2 a2 k2 = E a2 k2
theorem zyFs_up {a i t : Nat} {E0 E E2 : zyEm} (h : zyFs a E0 E) (hu : zyUp E E2 i t) (h1 : 8 * a ≤ i) (h2 : i < 8 * a + 16) : zyFs a E0 E2 := fun a2 k2 hn => (hu.2 a2 k2 (fun q => hn ⟨q.1, by omega, by omega⟩)).trans (h a2 k2 hn)
def zyΦsh (as : List Int32) (E : zyEm) : Prop := ∃ a m : Nat, as = [Int32.ofNat a] ∧ a < 1299 ∧ m ≤ 8 ∧ E 74 21 = some (.int (Int32.ofNat m)) ∧ zPm (zyrow E a) m ∧ zPm (zyrow E (a + 1)) m
def zyΨsh (as : List Int32) (E E2 : zyEm) (vo : Option Value) : Prop := (∃ z : Int32, vo = some (.int z) ∧ (z = 0 ∨ z = 1)) ∧ ∀ a m : Nat, as = [Int32.ofNat a] → a < 1299 → m ≤ 8 → E 74 21 = some (.int (Int32.ofNat m)) → zyFs a E E2 ∧ zPm (zyrow E2 a) m ∧ zPm (zyrow E2 (a + 1)) m
/-- what holds at a phase; k the place -/
def zyIsh (i : Nat) (a m k : Nat) (E0 : zyEm) (ρ : Nat → Int32) (E : zyEm) : Prop := zyFs a E0 E ∧ ρ 1 = Int32.ofNat a ∧ (1 ≤ i → ρ 2 = Int32.ofNat (a + 1) ∧ ρ 4 = Int32.ofNat k) ∧ (¬ i = 5 → zPm (zyrow E a) m) ∧ (¬ i = 7 → zPm (zyrow E (a + 1)) m) ∧ (2 ≤ i → i ≤ 6 → k + 1 < m ∧ zyrow E (a + 1) (k + 1) < zyrow E (a + 1) k) ∧
  (i = 3 → ∃ p, ρ 8 = Int32.ofNat p ∧ p < m ∧ zyrow E a p = k) ∧ (i = 4 → ∃ p q, ρ 5 = Int32.ofNat p ∧ ρ 8 = Int32.ofNat q ∧ p < m ∧ q < m ∧ zyrow E a p = k ∧ zyrow E a q = k + 1) ∧
  (i = 5 → ∃ p q g, ρ 5 = Int32.ofNat p ∧ ρ 6 = Int32.ofNat q ∧ p < m ∧ q < m ∧ g p = k ∧ g q = k + 1 ∧ zPm g m ∧ ∀ j, j < 8 → zyrow E a j = if j = p then k + 1 else g j) ∧
  (i = 7 → ∃ h, ρ 7 = Int32.ofNat (h k) ∧ h k < 8 ∧ k + 1 < m ∧ h (k + 1) < h k ∧ zPm h m ∧ ∀ j, j < 8 → zyrow E (a + 1) j = if j = k then h (k + 1) else h j)
noncomputable def zyMsh (i : Nat) (m k : Nat) (h : Nat → Nat) : Nat := if i = 0 ∨ i = 8 then (zinv h m * 9 + 8) * 20 + 11 else (zinv h m * 9 + (8 - k)) * 20 + (11 - i)
noncomputable def zyMs2 (i : Nat) (E0 : zyEm) (ρ : Nat → Int32) (E : zyEm) : Nat := zyMsh i (zyN1 (zyI E0 74 21)) (zyN1 (ρ 4)) (fun j => if i = 7 ∧ j = zyN1 (ρ 4) then zyN1 (ρ 7) else zyrow E (zyN1 (ρ 1) + 1) j)
theorem zyMs2_eq {i a m k : Nat} {E0 E : zyEm} {ρ : Nat → Int32} (hm : E0 74 21 = some (.int (Int32.ofNat m))) (hm8 : m ≤ 8) (h1 : ρ 1 = Int32.ofNat a) (ha : a < 1299) (h4 : 1 ≤ i → ρ 4 = Int32.ofNat k ∧ k < 16) (h7 : ¬ i = 7) : zyMs2 i E0 ρ E = zyMsh i m k (zyrow E (a + 1)) := by
  have e1 : zyN1 (zyI E0 74 21) = m := by
    unfold zyI
    rw [hm]
    exact zyN1_of (by omega)
  have e2 : zyN1 (ρ 1) = a := by
    rw [h1]
    exact zyN1_of (by omega)
  unfold zyMs2
  rw [e1, e2]
  have e3 : (fun j => if i = 7 ∧ j = zyN1 (ρ 4) then zyN1 (ρ 7) else zyrow E (a + 1) j) = zyrow E (a + 1) := by
    funext j
    rw [if_neg (fun q => h7 q.1)]
  rw [e3]
  unfold zyMsh
  by_cases e : i = 0 ∨ i = 8
  · rw [if_pos e, if_pos e]
  · rw [if_neg e, if_neg e]
    obtain ⟨q1, q2⟩ := h4 (by omega)
    rw [q1, zyN1_of (by omega)]
theorem zyMs2_7 {a m k : Nat} {E0 E : zyEm} {ρ : Nat → Int32} {h : Nat → Nat} (hm : E0 74 21 = some (.int (Int32.ofNat m))) (hm8 : m ≤ 8) (h1 : ρ 1 = Int32.ofNat a) (ha : a < 1299) (h4 : ρ 4 = Int32.ofNat k) (hk : k < 16) (h7 : ρ 7 = Int32.ofNat (h k)) (h8 : h k < 8) (hh : ∀ j, j < 8 → zyrow E (a + 1) j = if j = k then h (k + 1) else h j) : zyMs2 7 E0 ρ E = zyMsh 7 m k h := by
  have e1 : zyN1 (zyI E0 74 21) = m := by
    unfold zyI
    rw [hm]
    exact zyN1_of (by omega)
  unfold zyMs2
  rw [e1, h1, h4, h7, zyN1_of (by omega), zyN1_of (by omega), zyN1_of (by omega)]
  unfold zyMsh
  rw [if_neg (by decide), if_neg (by decide)]
  rw [zinv_congr (g := h) (fun j hj => ?_)]
  by_cases e : j = k
  · rw [if_pos ⟨rfl, e⟩, e]
  · rw [if_neg (fun q => e q.2), hh j (by omega), if_neg e]
theorem zyMsh_e {i m k : Nat} {h : Nat → Nat} (hi : i = 0 ∨ i = 8) : zyMsh i m k h = (zinv h m * 9 + 8) * 20 + 11 := if_pos hi
theorem zyMsh_m {i m k : Nat} {h : Nat → Nat} (hi : ¬ (i = 0 ∨ i = 8)) : zyMsh i m k h = (zinv h m * 9 + (8 - k)) * 20 + (11 - i) := if_neg hi
theorem zysh_run : zyAllP (fun r c => zyrS (zymr r c) zxi233 (233, 0, 0, 2, 0) 4 zpsh (fun _ _ => []) zFsh zSsh zXsh zRsh 9) = true := by decide +kernel
theorem zyrow_up {E E2 : zyEm} {f p t g : Nat} (h : zyUp E E2 (8 * f + p) t) (ht : t < 8) (hp : p < 8) {j : Nat} (hj : j < 8) : zyrow E2 g j = if g = f ∧ j = p then t else zyrow E g j := by
  unfold zyrow
  rw [zyUp_v h ht]
  by_cases e : g = f ∧ j = p
  · rw [if_pos e, if_pos (by omega)]
  · rw [if_neg e, if_neg (by omega)]
theorem zyrow_lt {r c : Nat} {E : zyEm} (hT : zyTy (zymr r c) E) {f p : Nat} (h : 8 * f + p < 10400) : zyrow E f p < 8 := (zfv_el hT h).2
theorem zyshares {l : Launch} {r c : Nat} (h1 : 1 ≤ r) (h2 : r ≤ 4) (h3 : 1 ≤ c) (h4 : c ≤ 5) {en : zEn} {me : zMe} (hen : zG zxMeta 233 = some en) (hme : zG zMeth 233 = some me) : zyHc l (zymr r c) en me 4 1 zyΦsh zyΨsh := by
  have een : zG zxMeta 233 = some (zxi233, 2, 8, 11, 233, 0, 0, 2, 0) := rfl
  obtain ⟨me1, hme1, hOK⟩ := zall hen
  rw [hme] at hme1
  cases hme1
  rw [een] at hen
  cases hen
  have hr := zyAllP_iff zysh_run h1 h2 h3 h4
  obtain ⟨mecf, hmecf, -⟩ := zall (show zG zxMeta 229 = some (zxi229, 3, 4, 11, 229, 0, 0, 1, 0) from rfl)
  have hcf := zycomesFrom (l := l) h1 h2 h3 h4 (show zG zxMeta 229 = some (zxi229, 3, 4, 11, 229, 0, 0, 1, 0) from rfl) hmecf
  obtain ⟨meie, hmeie, -⟩ := zall (show zG zxMeta 230 = some (zxi230, 3, 3, 11, 230, 0, 0, 2, 0) from rfl)
  have hie := zyisEnded (l := l) h1 h2 h3 h4 (show zG zxMeta 230 = some (zxi230, 3, 3, 11, 230, 0, 0, 2, 0) from rfl) hmeie
  obtain ⟨mela, hmela, -⟩ := zall (show zG zxMeta 227 = some (zxi227, 4, 4, 11, 227, 0, 0, 0, 0) from rfl)
  have hla := zylays (l := l) h1 h2 h3 h4 (show zG zxMeta 227 = some (zxi227, 4, 4, 11, 227, 0, 0, 0, 0) from rfl) hmela
  refine zycutS (mi := zymr r c) hOK rfl rfl ⟨_, rfl, rfl⟩ (ι := Fin 9) (fun i => zpsh i.val) (fun _ _ => []) (fun i => zFsh i.val) (fun i => zSsh i.val) (fun i => zXsh i.val) (fun i => zRsh i.val) (fun i y2 ct en2 me2 h => by cases h) 200000 (fun i => zyAll_iff hr i.val i.isLt) ⟨0, by decide⟩ ⟨rfl, rfl, rfl, rfl⟩ ⟨by decide, by decide⟩
    (fun i as E0 ρ E => ∃ a m k : Nat, as = [Int32.ofNat a] ∧ a < 1299 ∧ m ≤ 8 ∧ E0 74 21 = some (.int (Int32.ofNat m)) ∧ k ≤ 7 ∧ zyIsh i.val a m k E0 ρ E) (fun i _ E0 ρ E => zyMs2 i.val E0 ρ E) ?_ ?_ ?_
  · intro as E hlen hT hΦ
    obtain ⟨a, m, rfl, b1, b2, b3, b4, b5⟩ := hΦ
    refine ⟨zEnv_c (zyfull _) (zEnv_c ?_ (zEnv_c (zyfull _) (zEnv_c (zyfull _) (zEnv_c (zyfull _) (zEnv_c (zyfull _) (zEnv_c (zyfull _) (zEnv_c (zyfull _) zEnv_nil))))))), a, m, 0, rfl, b1, b2, b3, Nat.zero_le _, fun _ _ _ => rfl, rfl, fun h => absurd (show 1 ≤ 0 from h) (by decide), fun _ => b4, fun _ => b5, fun h => absurd (show 2 ≤ 0 from h) (by decide), fun h => absurd (show 0 = 3 from h) (by decide), fun h => absurd (show 0 = 4 from h) (by decide), fun h => absurd (show 0 = 5 from h) (by decide), fun h => absurd (show 0 = 7 from h) (by decide)⟩
    show 2147483648 ≤ zB (Int32.ofNat a) ∧ zB (Int32.ofNat a) ≤ 2147484946
    rw [zyBn (by omega)]
    omega
  · intro as B s Wg hRu hT0 hΦ hlen i ρ H hT hInv hIH x hx ρ2 N2 H2 locs lsB stA hAt hXs hag hfr hT2
    rcases i with ⟨i, hi⟩
    have hi2 : i = 0 ∨ i = 1 ∨ i = 2 ∨ i = 3 ∨ i = 4 ∨ i = 5 ∨ i = 6 ∨ i = 7 ∨ i = 8 := by omega
    rcases hi2 with rfl | rfl | rfl | rfl | rfl | rfl | rfl | rfl | rfl
    · obtain ⟨a, m, k, has, ha, hm, hst, hk, hI⟩ := hInv
      obtain ⟨i1, i2, i3, i4, i5, i6, i7, i8, i9, i10⟩ := (show zyIsh 0 a m k (zyEl (zymr r c) B s.heap) ρ (zyEl (zymr r c) B H) from hI)
      have hEE : zyEl (zymr r c) B H2 = zyEl (zymr r c) B H := zyfr0 hfr
      obtain ⟨hF, hB, -⟩ := hXs
      have hg4 : ∀ k, k < 8 → ρ2 k = ρ k := hag
      have a1 : ρ2 1 = Int32.ofNat a := (hg4 1 (by decide)).trans i2
      have hx : x ∈ [zxsh_ax0] := hx
      have ex := List.mem_singleton.mp hx
      subst ex
      have b2 : ρ2 1 + Int32.ofNat 1 = Int32.ofNat (a + 1) := by rw [a1, zyOa]
      refine zyGoB hIH hAt hB ⟨1, by decide⟩ [595, 34359738369, 34359738377, 0, 0, 0, 0, 0] rfl rfl rfl rfl ⟨a, m, 0, has, ha, hm, hst, Nat.zero_le _, by rw [hEE]; exact i1, a1, fun _ => ⟨b2, rfl⟩, fun _ => by rw [hEE]; exact i4 (by decide), fun _ => by rw [hEE]; exact i5 (by decide), fun h => absurd (show 2 ≤ 1 from h) (by decide), fun h => absurd (show 1 = 3 from h) (by decide), fun h => absurd (show 1 = 4 from h) (by decide), fun h => absurd (show 1 = 5 from h) (by decide), fun h => absurd (show 1 = 7 from h) (by decide)⟩ ?_
      show zyMs2 1 _ _ _ < zyMs2 0 _ _ _
      refine Nat.lt_of_le_of_lt (Nat.le_of_eq (zyMs2_eq (i := 1) (a := a) (m := m) (k := 0) hst hm a1 ha (fun _ => ⟨rfl, by omega⟩) (by decide))) (Nat.lt_of_lt_of_eq ?_ (zyMs2_eq (i := 0) (a := a) (m := m) (k := 0) hst hm i2 ha (fun h => absurd h (by decide)) (by decide)).symm)
      rw [hEE, zyMsh_m (i := 1) (by decide), zyMsh_e (i := 0) (by decide)]
      omega
    · obtain ⟨a, m, k, has, ha, hm, hst, hk, hI⟩ := hInv
      obtain ⟨i1, i2, i3, i4, i5, i6, i7, i8, i9, i10⟩ := (show zyIsh 1 a m k (zyEl (zymr r c) B s.heap) ρ (zyEl (zymr r c) B H) from hI)
      have hEE : zyEl (zymr r c) B H2 = zyEl (zymr r c) B H := zyfr0 hfr
      obtain ⟨hF, hB, -⟩ := hXs
      have hg4 : ∀ k, k < 8 → ρ2 k = ρ k := hag
      have a1 : ρ2 1 = Int32.ofNat a := (hg4 1 (by decide)).trans i2
      have a2 : ρ2 2 = Int32.ofNat (a + 1) := (hg4 2 (by decide)).trans (i3 (show 1 ≤ 1 by decide)).1
      have a4 : ρ2 4 = Int32.ofNat k := (hg4 4 (by decide)).trans (i3 (show 1 ≤ 1 by decide)).2
      have hx : x ∈ [zxsh_bx0, zxsh_bx1] := hx
      have b4 : ρ2 4 + Int32.ofNat 1 = Int32.ofNat (k + 1) := by rw [a4, zyOa]
      have T1 : zyTy (zymr r c) (zyEl (zymr r c) B H) := hT
      have hms : zyEl (zymr r c) B H 74 21 = some (.int (Int32.ofNat m)) := (i1 74 21 (fun q => absurd q.1 (by decide))).trans hst
      rcases List.mem_cons.mp hx with ex | hx
      · subst ex
        obtain ⟨n0, w1, w2, w3⟩ := zyXe hF 0 rfl
        have w1 : Int32.ofNat 21 = Int32.ofNat n0 := w1
        have w3 : zyEl (zymr r c) B H 74 n0 = some (.int (ρ2 8)) := w3
        have g0 : zyEl (zymr r c) B H 74 21 = some (.int (ρ2 8)) := by rw [zyOi (by omega) (by omega) w1]; exact w3
        have em : ρ2 8 = Int32.ofNat m := by
          rw [hms] at g0
          exact (Value.int.inj (Option.some.inj g0)).symm
        have f1 := zyX20 hF 1 rfl
        have f1 : ρ2 4 + Int32.ofNat 1 < ρ2 8 := f1
        rw [b4, em, zyOl (by omega) (by omega)] at f1
        have w1 := zyXop hF 2 rfl (by decide)
        have w1 : ρ2 9 = Int32.ofNat 8 * ρ2 2 := w1
        have w2 := zyXop hF 3 rfl (by decide)
        have w2 : ρ2 10 = ρ2 9 + ρ2 4 := w2
        have v1 := zfv_rd T1 (f := a + 1) (k := k) (by omega) (w1.trans (by rw [a2])) (w2.trans (by rw [a4])) (zyXe hF 4 rfl)
        have w1 := zyXop hF 5 rfl (by decide)
        have w1 : ρ2 12 = Int32.ofNat 8 * ρ2 2 := w1
        have w2 := zyXop hF 6 rfl (by decide)
        have w2 : ρ2 13 = ρ2 12 + (ρ2 4 + Int32.ofNat 1) := w2
        have v2 := zfv_rd T1 (f := a + 1) (k := k + 1) (by omega) (w1.trans (by rw [a2])) (w2.trans (by rw [b4])) (zyXe hF 7 rfl)
        have v1 : ρ2 11 = Int32.ofNat (zyrow (zyEl (zymr r c) B H) (a + 1) k) := v1
        have v2 : ρ2 14 = Int32.ofNat (zyrow (zyEl (zymr r c) B H) (a + 1) (k + 1)) := v2
        have f8 := zyX20 hF 8 rfl
        have f8 : ρ2 14 < ρ2 11 := f8
        have l1 := zyrow_lt T1 (f := a + 1) (p := k) (by omega)
        have l2 := zyrow_lt T1 (f := a + 1) (p := k + 1) (by omega)
        rw [v1, v2, zyOl (by omega) (by omega)] at f8
        refine zyCa1 hRu hIH hAt hB hie (ix := 210) (ax := 3680) rfl rfl rfl hmeie ⟨rfl, rfl, rfl, rfl⟩ (by decide) [34359738369, 137438953473] rfl (by decide) rfl ⟨2, by decide⟩ [595, 34359738369, 68719476737, 103079215105, 137438953473, 0, 0, 0] [(0, 4294967295), (2147483648, 2147484946), (2147483649, 2147484947), (2147483648, 2147483649), (2147483648, 2147483654), (0, 4294967295), (0, 4294967295), (0, 4294967295)] 2147483648 2147483649 rfl (by decide) rfl rfl rfl rfl rfl ?_ ?_
        · show zyΦie [ρ2 1, ρ2 4] _
          rw [a1, a4, hEE]
          obtain ⟨p, q1, q2⟩ := (i4 (by decide) k (by omega)).2
          obtain ⟨p', q3, q4⟩ := (i4 (by decide) (k + 1) (by omega)).2
          exact ⟨a, k, rfl, by omega, by omega, ⟨p, by omega, q2⟩, p', by omega, q4⟩
        · intro E3 vo hT3 hΨ
          obtain ⟨e3, z, ez, hz⟩ := (show zyΨie [ρ2 1, ρ2 4] _ E3 vo from hΨ)
          rw [hEE] at e3
          subst e3
          refine ⟨z, ez, ?_, ?_, ⟨a, m, k, has, ha, hm, hst, hk, i1, (zyρi_n (by decide)).trans a1, fun _ => ⟨(zyρi_n (by decide)).trans a2, (zyρi_n (by decide)).trans a4⟩, fun _ => i4 (by decide), fun _ => i5 (by decide), fun _ _ => ⟨f1, f8⟩, fun h => absurd (show 2 = 3 from h) (by decide), fun h => absurd (show 2 = 4 from h) (by decide), fun h => absurd (show 2 = 5 from h) (by decide), fun h => absurd (show 2 = 7 from h) (by decide)⟩, ?_⟩
          · rcases hz with rfl | rfl <;> decide
          · rcases hz with rfl | rfl <;> decide
          · show zyMs2 2 _ _ _ < zyMs2 1 _ _ _
            refine Nat.lt_of_le_of_lt (Nat.le_of_eq (zyMs2_eq (i := 2) (a := a) (m := m) (k := k) hst hm ((zyρi_n (by decide)).trans a1) ha (fun _ => ⟨(zyρi_n (by decide)).trans a4, by omega⟩) (by decide))) (Nat.lt_of_lt_of_eq ?_ (zyMs2_eq (i := 1) (a := a) (m := m) (k := k) hst hm i2 ha (fun _ => ⟨(i3 (by decide)).2, by omega⟩) (by decide)).symm)
            rw [zyMsh_m (i := 2) (by decide), zyMsh_m (i := 1) (by decide)]
            omega
      · have ex := List.mem_singleton.mp hx
        subst ex
        have hk6 : k + 1 ≤ 7 := by
          have q : 2147483648 ≤ zB (ρ2 4) ∧ zB (ρ2 4) ≤ 2147483654 := zyXb hB 3 rfl
          rw [a4, zyBn (by omega)] at q
          omega
        refine zyGoB hIH hAt hB ⟨1, by decide⟩ [595, 34359738369, 68719476737, 103079215105, 137438953481, 0, 0, 0] rfl rfl rfl rfl ⟨a, m, k + 1, has, ha, hm, hst, hk6, by rw [hEE]; exact i1, a1, fun _ => ⟨a2, b4⟩, fun _ => by rw [hEE]; exact i4 (by decide), fun _ => by rw [hEE]; exact i5 (by decide), fun h => absurd (show 2 ≤ 1 from h) (by decide), fun h => absurd (show 1 = 3 from h) (by decide), fun h => absurd (show 1 = 4 from h) (by decide), fun h => absurd (show 1 = 5 from h) (by decide), fun h => absurd (show 1 = 7 from h) (by decide)⟩ ?_
        show zyMs2 1 _ _ _ < zyMs2 1 _ _ _
        refine Nat.lt_of_le_of_lt (Nat.le_of_eq (zyMs2_eq (i := 1) (a := a) (m := m) (k := k + 1) hst hm a1 ha (fun _ => ⟨b4, by omega⟩) (by decide))) (Nat.lt_of_lt_of_eq ?_ (zyMs2_eq (i := 1) (a := a) (m := m) (k := k) hst hm i2 ha (fun _ => ⟨(i3 (by decide)).2, by omega⟩) (by decide)).symm)
        rw [hEE, zyMsh_m (i := 1) (by decide), zyMsh_m (i := 1) (by decide)]
        omega
    · obtain ⟨a, m, k, has, ha, hm, hst, hk, hI⟩ := hInv
      obtain ⟨i1, i2, i3, i4, i5, i6, i7, i8, i9, i10⟩ := (show zyIsh 2 a m k (zyEl (zymr r c) B s.heap) ρ (zyEl (zymr r c) B H) from hI)
      have hEE : zyEl (zymr r c) B H2 = zyEl (zymr r c) B H := zyfr0 hfr
      obtain ⟨hF, hB, -⟩ := hXs
      have hg4 : ∀ k, k < 9 → ρ2 k = ρ k := hag
      have a1 : ρ2 1 = Int32.ofNat a := (hg4 1 (by decide)).trans i2
      have a2 : ρ2 2 = Int32.ofNat (a + 1) := (hg4 2 (by decide)).trans (i3 (show 1 ≤ 2 by decide)).1
      have a4 : ρ2 4 = Int32.ofNat k := (hg4 4 (by decide)).trans (i3 (show 1 ≤ 2 by decide)).2
      have hx : x ∈ [zxsh_cx0, zxsh_cx1] := hx
      have b4 : ρ2 4 + Int32.ofNat 1 = Int32.ofNat (k + 1) := by rw [a4, zyOa]
      obtain ⟨d1, d2⟩ := i6 (by decide) (by decide)
      have hk6 : k + 1 ≤ 7 := by omega
      rcases List.mem_cons.mp hx with ex | hx
      · subst ex
        refine zyGoB hIH hAt hB ⟨1, by decide⟩ [595, 34359738369, 68719476737, 103079215105, 137438953481, 0, 0, 0] rfl rfl rfl rfl ⟨a, m, k + 1, has, ha, hm, hst, hk6, by rw [hEE]; exact i1, a1, fun _ => ⟨a2, b4⟩, fun _ => by rw [hEE]; exact i4 (by decide), fun _ => by rw [hEE]; exact i5 (by decide), fun h => absurd (show 2 ≤ 1 from h) (by decide), fun h => absurd (show 1 = 3 from h) (by decide), fun h => absurd (show 1 = 4 from h) (by decide), fun h => absurd (show 1 = 5 from h) (by decide), fun h => absurd (show 1 = 7 from h) (by decide)⟩ ?_
        show zyMs2 1 _ _ _ < zyMs2 2 _ _ _
        refine Nat.lt_of_le_of_lt (Nat.le_of_eq (zyMs2_eq (i := 1) (a := a) (m := m) (k := k + 1) hst hm a1 ha (fun _ => ⟨b4, by omega⟩) (by decide))) (Nat.lt_of_lt_of_eq ?_ (zyMs2_eq (i := 2) (a := a) (m := m) (k := k) hst hm i2 ha (fun _ => ⟨(i3 (by decide)).2, by omega⟩) (by decide)).symm)
        rw [hEE, zyMsh_m (i := 1) (by decide), zyMsh_m (i := 2) (by decide)]
        omega
      · have ex := List.mem_singleton.mp hx
        subst ex
        refine zyCa1 hRu hIH hAt hB hcf (ix := 201) (ax := 3664) rfl rfl rfl hmecf ⟨rfl, rfl, rfl, rfl⟩ (by decide) [34359738369, 137438953473] rfl (by decide) rfl ⟨3, by decide⟩ [595, 34359738369, 68719476737, 103079215105, 137438953473, 0, 0, 0] [(0, 4294967295), (2147483648, 2147484946), (2147483649, 2147484947), (2147483648, 2147483649), (2147483648, 2147483654), (0, 4294967295), (0, 4294967295), (0, 4294967295)] 2147483648 2147483655 rfl (by decide) rfl rfl rfl rfl rfl ?_ ?_
        · show zyΦcf [ρ2 1, ρ2 4] _
          rw [a1, a4, hEE]
          obtain ⟨p, q1, q2⟩ := (i4 (by decide) k (by omega)).2
          exact ⟨a, k, rfl, by omega, by omega, p, by omega, q2⟩
        · intro E3 vo hT3 hΨ
          have hΨ : zyΨcf [ρ2 1, ρ2 4] _ E3 vo := hΨ
          rw [a1, a4, hEE] at hΨ
          obtain ⟨e3, q⟩ := hΨ
          subst e3
          obtain ⟨p, p1, ez, p2, p3⟩ := q a k rfl (by omega) (by omega)
          obtain ⟨p0, q1, q2⟩ := (i4 (by decide) k (by omega)).2
          have pm : p < m := by
            apply Classical.byContradiction
            intro hn
            exact p3 p0 (by omega) q2
          refine ⟨_, ez, ?_, ?_, ⟨a, m, k, has, ha, hm, hst, hk, i1, (zyρi_n (by decide)).trans a1, fun _ => ⟨(zyρi_n (by decide)).trans a2, (zyρi_n (by decide)).trans a4⟩, fun _ => i4 (by decide), fun _ => i5 (by decide), fun _ _ => ⟨d1, d2⟩, fun _ => ⟨p, zyρi_e, pm, p2⟩, fun h => absurd (show 3 = 4 from h) (by decide), fun h => absurd (show 3 = 5 from h) (by decide), fun h => absurd (show 3 = 7 from h) (by decide)⟩, ?_⟩
          · rw [zyBn (by omega)]
            omega
          · rw [zyBn (by omega)]
            omega
          · show zyMs2 3 _ _ _ < zyMs2 2 _ _ _
            refine Nat.lt_of_le_of_lt (Nat.le_of_eq (zyMs2_eq (i := 3) (a := a) (m := m) (k := k) hst hm ((zyρi_n (by decide)).trans a1) ha (fun _ => ⟨(zyρi_n (by decide)).trans a4, by omega⟩) (by decide))) (Nat.lt_of_lt_of_eq ?_ (zyMs2_eq (i := 2) (a := a) (m := m) (k := k) hst hm i2 ha (fun _ => ⟨(i3 (by decide)).2, by omega⟩) (by decide)).symm)
            rw [zyMsh_m (i := 3) (by decide), zyMsh_m (i := 2) (by decide)]
            omega
    · obtain ⟨a, m, k, has, ha, hm, hst, hk, hI⟩ := hInv
      obtain ⟨i1, i2, i3, i4, i5, i6, i7, i8, i9, i10⟩ := (show zyIsh 3 a m k (zyEl (zymr r c) B s.heap) ρ (zyEl (zymr r c) B H) from hI)
      have hEE : zyEl (zymr r c) B H2 = zyEl (zymr r c) B H := zyfr0 hfr
      obtain ⟨hF, hB, -⟩ := hXs
      have hg4 : ∀ k, k < 9 → ρ2 k = ρ k := hag
      have a1 : ρ2 1 = Int32.ofNat a := (hg4 1 (by decide)).trans i2
      have a2 : ρ2 2 = Int32.ofNat (a + 1) := (hg4 2 (by decide)).trans (i3 (show 1 ≤ 3 by decide)).1
      have a4 : ρ2 4 = Int32.ofNat k := (hg4 4 (by decide)).trans (i3 (show 1 ≤ 3 by decide)).2
      have hx : x ∈ [zxsh_dx0] := hx
      have ex := List.mem_singleton.mp hx
      subst ex
      have b4 : ρ2 4 + Int32.ofNat 1 = Int32.ofNat (k + 1) := by rw [a4, zyOa]
      obtain ⟨d1, d2⟩ := i6 (by decide) (by decide)
      obtain ⟨p, r1, r2, r3⟩ := i7 rfl
      have a8 := (hg4 8 (by decide)).trans r1
      refine zyCa1 hRu hIH hAt hB hcf (ix := 201) (ax := 3664) rfl rfl rfl hmecf ⟨rfl, rfl, rfl, rfl⟩ (by decide) [34359738369, 137438953481] rfl (by decide) rfl ⟨4, by decide⟩ [595, 34359738369, 68719476737, 103079215105, 137438953473, 274877906945, 0, 0] [(0, 4294967295), (2147483648, 2147484946), (2147483649, 2147484947), (2147483648, 2147483649), (2147483648, 2147483654), (2147483648, 2147483655), (0, 4294967295), (0, 4294967295)] 2147483648 2147483655 rfl (by decide) rfl rfl rfl rfl rfl ?_ ?_
      · show zyΦcf [ρ2 1, ρ2 4 + Int32.ofNat 1] _
        rw [a1, b4, hEE]
        obtain ⟨p, q1, q2⟩ := (i4 (by decide) (k + 1) (by omega)).2
        exact ⟨a, k + 1, rfl, by omega, by omega, p, by omega, q2⟩
      · intro E3 vo hT3 hΨ
        have hΨ : zyΨcf [ρ2 1, ρ2 4 + Int32.ofNat 1] _ E3 vo := hΨ
        rw [a1, b4, hEE] at hΨ
        obtain ⟨e3, q⟩ := hΨ
        subst e3
        obtain ⟨q', p1, ez, p2, p3⟩ := q a (k + 1) rfl (by omega) (by omega)
        obtain ⟨p0, q1, q2⟩ := (i4 (by decide) (k + 1) (by omega)).2
        have pm : q' < m := by
          apply Classical.byContradiction
          intro hn
          exact p3 p0 (by omega) q2
        refine ⟨_, ez, ?_, ?_, ⟨a, m, k, has, ha, hm, hst, hk, i1, (zyρi_n (by decide)).trans a1, fun _ => ⟨(zyρi_n (by decide)).trans a2, (zyρi_n (by decide)).trans a4⟩, fun _ => i4 (by decide), fun _ => i5 (by decide), fun _ _ => ⟨d1, d2⟩, fun h => absurd (show 4 = 3 from h) (by decide), fun _ => ⟨p, q', (zyρi_n (by decide)).trans a8, zyρi_e, r2, pm, r3, p2⟩, fun h => absurd (show 4 = 5 from h) (by decide), fun h => absurd (show 4 = 7 from h) (by decide)⟩, ?_⟩
        · rw [zyBn (by omega)]
          omega
        · rw [zyBn (by omega)]
          omega
        · show zyMs2 4 _ _ _ < zyMs2 3 _ _ _
          refine Nat.lt_of_le_of_lt (Nat.le_of_eq (zyMs2_eq (i := 4) (a := a) (m := m) (k := k) hst hm ((zyρi_n (by decide)).trans a1) ha (fun _ => ⟨(zyρi_n (by decide)).trans a4, by omega⟩) (by decide))) (Nat.lt_of_lt_of_eq ?_ (zyMs2_eq (i := 3) (a := a) (m := m) (k := k) hst hm i2 ha (fun _ => ⟨(i3 (by decide)).2, by omega⟩) (by decide)).symm)
          rw [zyMsh_m (i := 4) (by decide), zyMsh_m (i := 3) (by decide)]
          omega
    · obtain ⟨a, m, k, has, ha, hm, hst, hk, hI⟩ := hInv
      obtain ⟨i1, i2, i3, i4, i5, i6, i7, i8, i9, i10⟩ := (show zyIsh 4 a m k (zyEl (zymr r c) B s.heap) ρ (zyEl (zymr r c) B H) from hI)
      have hEE : zyEl (zymr r c) B H2 = zyEl (zymr r c) B H := zyfr0 hfr
      obtain ⟨hF, hB, -⟩ := hXs
      have hg4 : ∀ k, k < 9 → ρ2 k = ρ k := hag
      have a1 : ρ2 1 = Int32.ofNat a := (hg4 1 (by decide)).trans i2
      have a2 : ρ2 2 = Int32.ofNat (a + 1) := (hg4 2 (by decide)).trans (i3 (show 1 ≤ 4 by decide)).1
      have a4 : ρ2 4 = Int32.ofNat k := (hg4 4 (by decide)).trans (i3 (show 1 ≤ 4 by decide)).2
      have hx : x ∈ [zxsh_ex0] := hx
      have ex := List.mem_singleton.mp hx
      subst ex
      have b4 : ρ2 4 + Int32.ofNat 1 = Int32.ofNat (k + 1) := by rw [a4, zyOa]
      obtain ⟨d1, d2⟩ := i6 (by decide) (by decide)
      obtain ⟨p, q, r1, r2, r3, r4, r5, r6⟩ := i8 rfl
      have a5 := (hg4 5 (by decide)).trans r1
      have a8 := (hg4 8 (by decide)).trans r2
      refine zyCa0 hRu hIH hAt hB hla (ix := 213) (ax := 3632) rfl rfl rfl hmela ⟨rfl, rfl, rfl, rfl⟩ (by decide) [34359738369, 171798691841, 137438953481] rfl (by decide) rfl ⟨5, by decide⟩ [595, 34359738369, 68719476737, 103079215105, 137438953473, 171798691841, 274877906945, 0] rfl rfl rfl rfl ?_ ?_
      · show zyΦla [ρ2 1, ρ2 5, ρ2 4 + Int32.ofNat 1] _
        rw [a1, a5, b4]
        exact ⟨a, p, k + 1, rfl, by omega, by omega, by omega⟩
      · intro E3 vo hT3 hΨ
        have hΨ : zyΨla [ρ2 1, ρ2 5, ρ2 4 + Int32.ofNat 1] _ E3 vo := hΨ
        rw [a1, a5, b4, hEE] at hΨ
        obtain ⟨ev, hu⟩ := hΨ
        have hu := hu a p (k + 1) rfl (by omega) (by omega) (by omega)
        have rb : ∀ j, j < 8 → zyrow E3 (a + 1) j = zyrow (zyEl (zymr r c) B H) (a + 1) j := fun j hj => by rw [zyrow_up hu (by omega) (by omega) hj, if_neg (fun z => absurd z.1 (by omega))]
        have ra : ∀ j, j < 8 → zyrow E3 a j = if j = p then k + 1 else zyrow (zyEl (zymr r c) B H) a j := fun j hj => by
          rw [zyrow_up hu (by omega) (by omega) hj]
          by_cases e : j = p
          · rw [if_pos ⟨rfl, e⟩, if_pos e]
          · rw [if_neg (fun z => e z.2), if_neg e]
        refine ⟨ev, ⟨a, m, k, has, ha, hm, hst, hk, zyFs_up i1 hu (by omega) (by omega), a1, fun _ => ⟨a2, a4⟩, fun h => absurd rfl h, fun _ => zPm_congr (fun j hj => rb j (by omega)) (i5 (by decide)), fun _ _ => ⟨d1, by rw [rb _ (by omega), rb _ (by omega)]; exact d2⟩, fun h => absurd (show 5 = 3 from h) (by decide), fun h => absurd (show 5 = 4 from h) (by decide), fun _ => ⟨p, q, _, a5, a8, r3, r4, r5, r6, i4 (by decide), ra⟩, fun h => absurd (show 5 = 7 from h) (by decide)⟩, ?_⟩
        show zyMs2 5 _ _ _ < zyMs2 4 _ _ _
        refine Nat.lt_of_le_of_lt (Nat.le_of_eq (zyMs2_eq (i := 5) (a := a) (m := m) (k := k) hst hm a1 ha (fun _ => ⟨a4, by omega⟩) (by decide))) (Nat.lt_of_lt_of_eq ?_ (zyMs2_eq (i := 4) (a := a) (m := m) (k := k) hst hm i2 ha (fun _ => ⟨(i3 (by decide)).2, by omega⟩) (by decide)).symm)
        rw [zyMsh_m (i := 5) (by decide), zyMsh_m (i := 4) (by decide), zinv_congr (n := m) (fun j hj => rb j (by omega))]
        omega
    · obtain ⟨a, m, k, has, ha, hm, hst, hk, hI⟩ := hInv
      obtain ⟨i1, i2, i3, i4, i5, i6, i7, i8, i9, i10⟩ := (show zyIsh 5 a m k (zyEl (zymr r c) B s.heap) ρ (zyEl (zymr r c) B H) from hI)
      have hEE : zyEl (zymr r c) B H2 = zyEl (zymr r c) B H := zyfr0 hfr
      obtain ⟨hF, hB, -⟩ := hXs
      have hg4 : ∀ k, k < 8 → ρ2 k = ρ k := hag
      have a1 : ρ2 1 = Int32.ofNat a := (hg4 1 (by decide)).trans i2
      have a2 : ρ2 2 = Int32.ofNat (a + 1) := (hg4 2 (by decide)).trans (i3 (show 1 ≤ 5 by decide)).1
      have a4 : ρ2 4 = Int32.ofNat k := (hg4 4 (by decide)).trans (i3 (show 1 ≤ 5 by decide)).2
      have hx : x ∈ [zxsh_fx0] := hx
      have ex := List.mem_singleton.mp hx
      subst ex
      obtain ⟨d1, d2⟩ := i6 (by decide) (by decide)
      obtain ⟨p, q, g, r1, r2, r3, r4, r5, r6, r7, r8⟩ := i9 rfl
      have a6 := (hg4 6 (by decide)).trans r2
      refine zyCa0 hRu hIH hAt hB hla (ix := 213) (ax := 3632) rfl rfl rfl hmela ⟨rfl, rfl, rfl, rfl⟩ (by decide) [34359738369, 206158430209, 137438953473] rfl (by decide) rfl ⟨6, by decide⟩ [595, 34359738369, 68719476737, 103079215105, 137438953473, 0, 0, 0] rfl rfl rfl rfl ?_ ?_
      · show zyΦla [ρ2 1, ρ2 6, ρ2 4] _
        rw [a1, a6, a4]
        exact ⟨a, q, k, rfl, by omega, by omega, by omega⟩
      · intro E3 vo hT3 hΨ
        have hΨ : zyΨla [ρ2 1, ρ2 6, ρ2 4] _ E3 vo := hΨ
        rw [a1, a6, a4, hEE] at hΨ
        obtain ⟨ev, hu⟩ := hΨ
        have hu := hu a q k rfl (by omega) (by omega) (by omega)
        have rb : ∀ j, j < 8 → zyrow E3 (a + 1) j = zyrow (zyEl (zymr r c) B H) (a + 1) j := fun j hj => by rw [zyrow_up hu (by omega) (by omega) hj, if_neg (fun z => absurd z.1 (by omega))]
        have ra : ∀ j, j < 8 → zyrow E3 a j = if j = q then k else if j = p then k + 1 else g j := fun j hj => by
          rw [zyrow_up hu (by omega) (by omega) hj, r8 j hj]
          by_cases e : j = q
          · rw [if_pos ⟨rfl, e⟩, if_pos e]
          · rw [if_neg (fun z => e z.2), if_neg e]
        refine ⟨ev, ⟨a, m, k, has, ha, hm, hst, hk, zyFs_up i1 hu (by omega) (by omega), a1, fun _ => ⟨a2, a4⟩, fun _ => zPm_ch r3 r4 (by omega) d1 (by omega) r5 r6 r7 (fun j hj => ra j (by omega)), fun _ => zPm_congr (fun j hj => rb j (by omega)) (i5 (by decide)), fun _ _ => ⟨d1, by rw [rb _ (by omega), rb _ (by omega)]; exact d2⟩, fun h => absurd (show 6 = 3 from h) (by decide), fun h => absurd (show 6 = 4 from h) (by decide), fun h => absurd (show 6 = 5 from h) (by decide), fun h => absurd (show 6 = 7 from h) (by decide)⟩, ?_⟩
        show zyMs2 6 _ _ _ < zyMs2 5 _ _ _
        refine Nat.lt_of_le_of_lt (Nat.le_of_eq (zyMs2_eq (i := 6) (a := a) (m := m) (k := k) hst hm a1 ha (fun _ => ⟨a4, by omega⟩) (by decide))) (Nat.lt_of_lt_of_eq ?_ (zyMs2_eq (i := 5) (a := a) (m := m) (k := k) hst hm i2 ha (fun _ => ⟨(i3 (by decide)).2, by omega⟩) (by decide)).symm)
        rw [zyMsh_m (i := 6) (by decide), zyMsh_m (i := 5) (by decide), zinv_congr (n := m) (fun j hj => rb j (by omega))]
        omega
    · obtain ⟨a, m, k, has, ha, hm, hst, hk, hI⟩ := hInv
      obtain ⟨i1, i2, i3, i4, i5, i6, i7, i8, i9, i10⟩ := (show zyIsh 6 a m k (zyEl (zymr r c) B s.heap) ρ (zyEl (zymr r c) B H) from hI)
      have hEE : zyEl (zymr r c) B H2 = zyEl (zymr r c) B H := zyfr0 hfr
      obtain ⟨hF, hB, -⟩ := hXs
      have hg4 : ∀ k, k < 8 → ρ2 k = ρ k := hag
      have a1 : ρ2 1 = Int32.ofNat a := (hg4 1 (by decide)).trans i2
      have a2 : ρ2 2 = Int32.ofNat (a + 1) := (hg4 2 (by decide)).trans (i3 (show 1 ≤ 6 by decide)).1
      have a4 : ρ2 4 = Int32.ofNat k := (hg4 4 (by decide)).trans (i3 (show 1 ≤ 6 by decide)).2
      have hx : x ∈ [zxsh_gx0] := hx
      have ex := List.mem_singleton.mp hx
      subst ex
      have b4 : ρ2 4 + Int32.ofNat 1 = Int32.ofNat (k + 1) := by rw [a4, zyOa]
      have T1 : zyTy (zymr r c) (zyEl (zymr r c) B H) := hT
      obtain ⟨d1, d2⟩ := i6 (by decide) (by decide)
      have w1 := zyXop hF 0 rfl (by decide)
      have w1 : ρ2 8 = Int32.ofNat 8 * ρ2 2 := w1
      have w2 := zyXop hF 1 rfl (by decide)
      have w2 : ρ2 9 = ρ2 8 + ρ2 4 := w2
      have v1 := zfv_rd T1 (f := a + 1) (k := k) (by omega) (w1.trans (by rw [a2])) (w2.trans (by rw [a4])) (zyXe hF 2 rfl)
      have w1 := zyXop hF 3 rfl (by decide)
      have w1 : ρ2 11 = Int32.ofNat 8 * ρ2 2 := w1
      have w2 := zyXop hF 4 rfl (by decide)
      have w2 : ρ2 12 = ρ2 11 + (ρ2 4 + Int32.ofNat 1) := w2
      have v2 := zfv_rd T1 (f := a + 1) (k := k + 1) (by omega) (w1.trans (by rw [a2])) (w2.trans (by rw [b4])) (zyXe hF 5 rfl)
      have v1 : ρ2 10 = Int32.ofNat (zyrow (zyEl (zymr r c) B H) (a + 1) k) := v1
      have v2 : ρ2 13 = Int32.ofNat (zyrow (zyEl (zymr r c) B H) (a + 1) (k + 1)) := v2
      have l1 := zyrow_lt T1 (f := a + 1) (p := k) (by omega)
      have l2 := zyrow_lt T1 (f := a + 1) (p := k + 1) (by omega)
      refine zyCa0 hRu hIH hAt hB hla (ix := 213) (ax := 3632) rfl rfl rfl hmela ⟨rfl, rfl, rfl, rfl⟩ (by decide) [68719476737, 137438953473, 446676598785] rfl (by decide) rfl ⟨7, by decide⟩ [595, 34359738369, 68719476737, 103079215105, 137438953473, 0, 0, 343597383681] rfl rfl rfl rfl ?_ ?_
      · show zyΦla [ρ2 2, ρ2 4, ρ2 13] _
        rw [a2, a4, v2]
        exact ⟨a + 1, k, _, rfl, by omega, by omega, l2⟩
      · intro E3 vo hT3 hΨ
        have hΨ : zyΨla [ρ2 2, ρ2 4, ρ2 13] _ E3 vo := hΨ
        rw [a2, a4, v2, hEE] at hΨ
        obtain ⟨ev, hu⟩ := hΨ
        have hu := hu (a + 1) k _ rfl (by omega) (by omega) l2
        have ra : ∀ j, j < 8 → zyrow E3 a j = zyrow (zyEl (zymr r c) B H) a j := fun j hj => by rw [zyrow_up hu l2 (by omega) hj, if_neg (fun z => absurd z.1 (by omega))]
        have rb : ∀ j, j < 8 → zyrow E3 (a + 1) j = if j = k then zyrow (zyEl (zymr r c) B H) (a + 1) (k + 1) else zyrow (zyEl (zymr r c) B H) (a + 1) j := fun j hj => by
          rw [zyrow_up hu l2 (by omega) hj]
          by_cases e : j = k
          · rw [if_pos ⟨rfl, e⟩, if_pos e]
          · rw [if_neg (fun z => e z.2), if_neg e]
        refine ⟨ev, ⟨a, m, k, has, ha, hm, hst, hk, zyFs_up i1 hu (by omega) (by omega), a1, fun _ => ⟨a2, a4⟩, fun _ => zPm_congr (fun j hj => ra j (by omega)) (i4 (by decide)), fun h => absurd rfl h, fun _ h => absurd (show 7 ≤ 6 from h) (by decide), fun h => absurd (show 7 = 3 from h) (by decide), fun h => absurd (show 7 = 4 from h) (by decide), fun h => absurd (show 7 = 5 from h) (by decide), fun _ => ⟨zyrow (zyEl (zymr r c) B H) (a + 1), v1, l1, d1, d2, i5 (by decide), rb⟩⟩, ?_⟩
        show zyMs2 7 _ _ _ < zyMs2 6 _ _ _
        refine Nat.lt_of_le_of_lt (Nat.le_of_eq (zyMs2_7 (h := zyrow (zyEl (zymr r c) B H) (a + 1)) hst hm a1 ha a4 (by omega) v1 l1 rb)) (Nat.lt_of_lt_of_eq ?_ (zyMs2_eq (i := 6) (a := a) (m := m) (k := k) hst hm i2 ha (fun _ => ⟨(i3 (by decide)).2, by omega⟩) (by decide)).symm)
        rw [zyMsh_m (i := 7) (by decide), zyMsh_m (i := 6) (by decide)]
        omega
    · obtain ⟨a, m, k, has, ha, hm, hst, hk, hI⟩ := hInv
      obtain ⟨i1, i2, i3, i4, i5, i6, i7, i8, i9, i10⟩ := (show zyIsh 7 a m k (zyEl (zymr r c) B s.heap) ρ (zyEl (zymr r c) B H) from hI)
      have hEE : zyEl (zymr r c) B H2 = zyEl (zymr r c) B H := zyfr0 hfr
      obtain ⟨hF, hB, -⟩ := hXs
      have hg4 : ∀ k, k < 8 → ρ2 k = ρ k := hag
      have a1 : ρ2 1 = Int32.ofNat a := (hg4 1 (by decide)).trans i2
      have a2 : ρ2 2 = Int32.ofNat (a + 1) := (hg4 2 (by decide)).trans (i3 (show 1 ≤ 7 by decide)).1
      have a4 : ρ2 4 = Int32.ofNat k := (hg4 4 (by decide)).trans (i3 (show 1 ≤ 7 by decide)).2
      have hx : x ∈ [zxsh_hx0] := hx
      have ex := List.mem_singleton.mp hx
      subst ex
      have b4 : ρ2 4 + Int32.ofNat 1 = Int32.ofNat (k + 1) := by rw [a4, zyOa]
      obtain ⟨h, r1, r2, d1, d2, r3, r4⟩ := i10 rfl
      have a7 := (hg4 7 (by decide)).trans r1
      refine zyCa0 hRu hIH hAt hB hla (ix := 213) (ax := 3632) rfl rfl rfl hmela ⟨rfl, rfl, rfl, rfl⟩ (by decide) [68719476737, 137438953481, 240518168577] rfl (by decide) rfl ⟨8, by decide⟩ [595, 34359738369, 68719476737, 103079215105, 137438953473, 0, 0, 0] rfl rfl rfl rfl ?_ ?_
      · show zyΦla [ρ2 2, ρ2 4 + Int32.ofNat 1, ρ2 7] _
        rw [a2, b4, a7]
        exact ⟨a + 1, k + 1, _, rfl, by omega, by omega, r2⟩
      · intro E3 vo hT3 hΨ
        have hΨ : zyΨla [ρ2 2, ρ2 4 + Int32.ofNat 1, ρ2 7] _ E3 vo := hΨ
        rw [a2, b4, a7, hEE] at hΨ
        obtain ⟨ev, hu⟩ := hΨ
        have hu := hu (a + 1) (k + 1) _ rfl (by omega) (by omega) r2
        have ra : ∀ j, j < 8 → zyrow E3 a j = zyrow (zyEl (zymr r c) B H) a j := fun j hj => by rw [zyrow_up hu r2 (by omega) hj, if_neg (fun z => absurd z.1 (by omega))]
        have rb : ∀ j, j < 8 → zyrow E3 (a + 1) j = zsw h k j := fun j hj => by
          rw [zyrow_up hu r2 (by omega) hj, r4 j hj]
          unfold zsw
          by_cases e : j = k + 1
          · rw [if_pos ⟨rfl, e⟩, if_neg (by omega), if_pos e]
          · rw [if_neg (fun z => e z.2)]
            by_cases e2 : j = k
            · rw [if_pos e2, if_pos e2]
            · rw [if_neg e2, if_neg e2, if_neg e]
        refine ⟨ev, ⟨a, m, k, has, ha, hm, hst, hk, zyFs_up i1 hu (by omega) (by omega), a1, fun _ => ⟨a2, a4⟩, fun _ => zPm_congr (fun j hj => ra j (by omega)) (i4 (by decide)), fun _ => zPm_congr (fun j hj => rb j (by omega)) (zPm_sw d1 r3), fun _ h => absurd (show 8 ≤ 6 from h) (by decide), fun h => absurd (show 8 = 3 from h) (by decide), fun h => absurd (show 8 = 4 from h) (by decide), fun h => absurd (show 8 = 5 from h) (by decide), fun h => absurd (show 8 = 7 from h) (by decide)⟩, ?_⟩
        show zyMs2 8 _ _ _ < zyMs2 7 _ _ _
        refine Nat.lt_of_le_of_lt (Nat.le_of_eq (zyMs2_eq (i := 8) (a := a) (m := m) (k := k) hst hm a1 ha (fun _ => ⟨a4, by omega⟩) (by decide))) (Nat.lt_of_lt_of_eq ?_ (zyMs2_7 (h := h) hst hm i2 ha (i3 (by decide)).2 (by omega) r1 r2 r4).symm)
        rw [zyMsh_e (i := 8) (by decide), zyMsh_m (i := 7) (by decide), zinv_congr (n := m) (fun j hj => rb j (by omega))]
        have := zinv_lt d2 d1
        omega
    · obtain ⟨a, m, k, has, ha, hm, hst, hk, hI⟩ := hInv
      obtain ⟨i1, i2, i3, i4, i5, i6, i7, i8, i9, i10⟩ := (show zyIsh 8 a m k (zyEl (zymr r c) B s.heap) ρ (zyEl (zymr r c) B H) from hI)
      have hEE : zyEl (zymr r c) B H2 = zyEl (zymr r c) B H := zyfr0 hfr
      obtain ⟨hF, hB, -⟩ := hXs
      have hg4 : ∀ k, k < 8 → ρ2 k = ρ k := hag
      have a1 : ρ2 1 = Int32.ofNat a := (hg4 1 (by decide)).trans i2
      have a2 : ρ2 2 = Int32.ofNat (a + 1) := (hg4 2 (by decide)).trans (i3 (show 1 ≤ 8 by decide)).1
      have a4 : ρ2 4 = Int32.ofNat k := (hg4 4 (by decide)).trans (i3 (show 1 ≤ 8 by decide)).2
      have hx : x ∈ [zxsh_ix0] := hx
      have ex := List.mem_singleton.mp hx
      subst ex
      refine zyGoB hIH hAt hB ⟨1, by decide⟩ [595, 34359738369, 68719476737, 8, 0, 0, 0, 0] rfl rfl rfl rfl ⟨a, m, 0, has, ha, hm, hst, Nat.zero_le _, by rw [hEE]; exact i1, a1, fun _ => ⟨a2, rfl⟩, fun _ => by rw [hEE]; exact i4 (by decide), fun _ => by rw [hEE]; exact i5 (by decide), fun h => absurd (show 2 ≤ 1 from h) (by decide), fun h => absurd (show 1 = 3 from h) (by decide), fun h => absurd (show 1 = 4 from h) (by decide), fun h => absurd (show 1 = 5 from h) (by decide), fun h => absurd (show 1 = 7 from h) (by decide)⟩ ?_
      show zyMs2 1 _ _ _ < zyMs2 8 _ _ _
      refine Nat.lt_of_le_of_lt (Nat.le_of_eq (zyMs2_eq (i := 1) (a := a) (m := m) (k := 0) hst hm a1 ha (fun _ => ⟨rfl, by omega⟩) (by decide))) (Nat.lt_of_lt_of_eq ?_ (zyMs2_eq (i := 8) (a := a) (m := m) (k := k) hst hm i2 ha (fun _ => ⟨(i3 (by decide)).2, by omega⟩) (by decide)).symm)
      rw [hEE, zyMsh_m (i := 1) (by decide), zyMsh_e (i := 8) (by decide)]
      omega
  · intro as E0 E E2 hT0 hΦ hlen i ρ hT hInv x hx ρ2 N2 B vo hXs hag hfr hT2 hvo
    rcases i with ⟨i, hi⟩
    have hi2 : i = 1 ∨ i = 0 ∨ i = 2 ∨ i = 3 ∨ i = 4 ∨ i = 5 ∨ i = 6 ∨ i = 7 ∨ i = 8 := by omega
    rcases hi2 with rfl | rfl | rfl | rfl | rfl | rfl | rfl | rfl | rfl
    rotate_left
    · cases hx
    · cases hx
    · cases hx
    · cases hx
    · cases hx
    · cases hx
    · cases hx
    · cases hx
    have hx : x ∈ [zxsh_br0] := hx
    have ex := List.mem_singleton.mp hx
    subst ex
    obtain ⟨a, m, k, has, ha, hm, hst, hk, hI⟩ := hInv
    obtain ⟨i1, i2, i3, i4, i5, -⟩ := (show zyIsh 1 a m k E0 ρ E from hI)
    obtain ⟨hF, hB, -⟩ := hXs
    have hb : 2147483648 ≤ zB (ρ2 3) ∧ zB (ρ2 3) ≤ 2147483649 := zyXb hB 0 rfl
    rw [zyfr0 hfr]
    refine ⟨⟨ρ2 3, zyvo_1 (c := 103079215105) (by decide) (show zyvo (zyXn B ρ2 N2) [103079215105] vo from hvo), zybool hb.1 hb.2⟩, fun a' m' e c1 c2 c3 => ?_⟩
    rw [has] at e
    have e1 := zyOi (by omega) (by omega) (List.cons.inj e).1
    rw [hst] at c3
    have e2 := zyOi (by omega) (by omega) (Value.int.inj (Option.some.inj c3))
    subst e1
    subst e2
    exact ⟨i1, i4 (by decide), i5 (by decide)⟩
end
section
/-! phases: mirrors, leavesOut, isNothing, isHalfTurn (printed by yex3.py) -/
noncomputable def zxmi_ax0 : zyXp := (7, [595, 34359738369, 659, 0], [], [], [(34359738369, 2147483648, 2147484947)], [])
noncomputable def zpmi_a : zyPh := (0, [595, 34359738369, 13, 13], [(0, 4294967295), (2147483648, 2147484947), (0, 4294967295), (0, 4294967295)], [], [])
noncomputable def zxmi_bx0 : zyXp := (23, [595, 34359738369, 659, 103079215105], [240518168577, 103079215105, 659], [(24, 137438953473, 74, 168), (20, 0, 103079215105, 137438953473), (3, 171798691841, 64, 34359738369), (1, 206158430209, 171798691841, 103079215105), (24, 240518168577, 81, 206158430209)], [(34359738369, 2147483648, 2147484947), (103079215105, 2147483648, 2147483655), (137438953473, 2147483649, 2147483656), (171798691841, 2147483648, 2147494040), (206158430209, 2147483648, 2147494047), (240518168577, 2147483648, 2147483655)], [])
noncomputable def zxmi_bx1 : zyXp := (32, [595, 34359738369, 659, 0], [], [(24, 137438953473, 74, 168), (21, 0, 103079215105, 137438953473)], [(34359738369, 2147483648, 2147484947), (103079215105, 2147483648, 2147483656), (137438953473, 2147483648, 2147483656)], [])
noncomputable def zpmi_b : zyPh := (7, [595, 34359738369, 659, 103079215105], [(0, 4294967295), (2147483648, 2147484947), (0, 4294967295), (2147483648, 2147483656)], [], [])
noncomputable def zxmi_cx0 : zyXp := (7, [595, 34359738369, 659, 103079215113], [], [], [(34359738369, 2147483648, 2147484947), (103079215105, 2147483648, 2147483655), (103079215113, 2147483649, 2147483656)], [])
noncomputable def zpmi_c : zyPh := (24, [595, 34359738369, 659, 103079215105], [(0, 4294967295), (2147483648, 2147484947), (0, 4294967295), (2147483648, 2147483655)], [], [])
noncomputable def zxmi_dx0 : zyXp := (60, [595, 34359738369, 659, 103079215105], [240518168577, 171798691841, 34359738369, 595], [(24, 137438953473, 74, 168), (20, 0, 103079215105, 137438953473), (2, 171798691841, 171798691833, 103079215105), (24, 206158430209, 82, 103079215105), (2, 240518168577, 171798691833, 206158430209)], [(34359738369, 2147483648, 2147484947), (103079215105, 2147483648, 2147483655), (137438953473, 2147483649, 2147483656), (171798691841, 2147483641, 2147483655), (206158430209, 2147483648, 2147483655), (240518168577, 2147483641, 2147483655)], [])
noncomputable def zxmi_dr0 : zyXp := (0, [], [], [(24, 137438953473, 74, 168), (21, 0, 103079215105, 137438953473)], [(103079215105, 2147483648, 2147483656), (137438953473, 2147483648, 2147483656)], [])
noncomputable def zpmi_d : zyPh := (32, [595, 34359738369, 659, 103079215105], [(0, 4294967295), (2147483648, 2147484947), (0, 4294967295), (2147483648, 2147483656)], [], [])
noncomputable def zxmi_ex0 : zyXp := (32, [595, 34359738369, 659, 103079215113], [], [], [(34359738369, 2147483648, 2147484947), (103079215105, 2147483648, 2147483655), (103079215113, 2147483649, 2147483656)], [])
noncomputable def zpmi_e : zyPh := (63, [595, 34359738369, 659, 103079215105], [(0, 4294967295), (2147483648, 2147484947), (0, 4294967295), (2147483648, 2147483655)], [], [])
noncomputable def zpmi (i : Nat) : zyPh := zif (Nat.beq i 0) (zpmi_a) (zif (Nat.beq i 1) (zpmi_b) (zif (Nat.beq i 2) (zpmi_c) (zif (Nat.beq i 3) (zpmi_d) (zpmi_e))))
noncomputable def zXmi (i : Nat) : List zyXp := zif (Nat.beq i 0) ([zxmi_ax0]) (zif (Nat.beq i 1) ([zxmi_bx0, zxmi_bx1]) (zif (Nat.beq i 2) ([zxmi_cx0]) (zif (Nat.beq i 3) ([zxmi_dx0]) ([zxmi_ex0]))))
noncomputable def zRmi (i : Nat) : List zyXp := zif (Nat.beq i 0) ([]) (zif (Nat.beq i 1) ([]) (zif (Nat.beq i 2) ([]) (zif (Nat.beq i 3) ([zxmi_dr0]) ([]))))
noncomputable def zFmi (i : Nat) : zyR := zif (Nat.beq i 0) ([]) (zif (Nat.beq i 1) ([]) (zif (Nat.beq i 2) ([]) (zif (Nat.beq i 3) ([]) ([]))))
noncomputable def zSmi (i : Nat) : Nat := zif (Nat.beq i 0) (0) (zif (Nat.beq i 1) (0) (zif (Nat.beq i 2) (0) (zif (Nat.beq i 3) (0) (0))))
noncomputable def zxlo_ax0 : zyXp := (5, [595, 13, 0], [], [], [], [])
noncomputable def zplo_a : zyPh := (0, [595, 34359738369, 13], [(0, 4294967295), (2147483648, 2147483648), (0, 4294967295)], [], [])
noncomputable def zxlo_bx0 : zyXp := (32, [595, 13, 68719476737], [171798691841, 68719476737, 651], [(24, 103079215105, 74, 152), (3, 137438953473, 64, 137438953465), (20, 0, 68719476737, 137438953473), (24, 171798691841, 81, 68719476801)], [(68719476737, 2147483648, 2147494031), (103079215105, 2147483648, 2147484947), (137438953473, 2147483649, 2147494032), (171798691841, 2147483648, 2147483655)], [])
noncomputable def zxlo_bx1 : zyXp := (39, [595, 13, 13], [], [(24, 103079215105, 74, 152), (3, 137438953473, 64, 137438953465), (21, 0, 68719476737, 137438953473)], [(68719476737, 2147483648, 2147494040), (103079215105, 2147483648, 2147484947), (137438953473, 2147473264, 2147494032)], [])
noncomputable def zplo_b : zyPh := (5, [595, 13, 68719476737], [(0, 4294967295), (0, 4294967295), (2147483648, 2147494040)], [], [])
noncomputable def zxlo_cx0 : zyXp := (5, [595, 13, 68719476745], [], [], [(68719476737, 2147483648, 2147494039), (68719476745, 2147483649, 2147494040)], [])
noncomputable def zplo_c : zyPh := (33, [595, 13, 68719476737], [(0, 4294967295), (0, 4294967295), (2147483648, 2147494039)], [], [])
noncomputable def zxlo_dr0 : zyXp := (0, [], [], [], [], [(1212435, 137438953465)])
noncomputable def zplo_d : zyPh := (39, [595, 13, 13], [(0, 4294967295), (0, 4294967295), (0, 4294967295), (2147483649, 2147484947)], [(1212435, 103079215105)], [])
noncomputable def zplo (i : Nat) : zyPh := zif (Nat.beq i 0) (zplo_a) (zif (Nat.beq i 1) (zplo_b) (zif (Nat.beq i 2) (zplo_c) (zplo_d)))
noncomputable def zXlo (i : Nat) : List zyXp := zif (Nat.beq i 0) ([zxlo_ax0]) (zif (Nat.beq i 1) ([zxlo_bx0, zxlo_bx1]) (zif (Nat.beq i 2) ([zxlo_cx0]) ([])))
noncomputable def zRlo (i : Nat) : List zyXp := zif (Nat.beq i 0) ([]) (zif (Nat.beq i 1) ([]) (zif (Nat.beq i 2) ([]) ([zxlo_dr0])))
noncomputable def zFlo (i : Nat) : zyR := zif (Nat.beq i 0) ([]) (zif (Nat.beq i 1) ([]) (zif (Nat.beq i 2) ([]) ([(74, 19, 19)])))
noncomputable def zSlo (i : Nat) : Nat := zif (Nat.beq i 0) (0) (zif (Nat.beq i 1) (0) (zif (Nat.beq i 2) (0) (0)))
noncomputable def zxno_ax0 : zyXp := (2, [595, 34359738369, 0], [], [], [(34359738369, 2147483648, 2147484947)], [])
noncomputable def zpno_a : zyPh := (0, [595, 34359738369, 13], [(0, 4294967295), (2147483648, 2147484947), (0, 4294967295)], [], [])
noncomputable def zxno_bx0 : zyXp := (2, [595, 34359738369, 68719476745], [], [(24, 103079215105, 74, 168), (20, 0, 68719476737, 103079215105), (3, 137438953473, 64, 34359738369), (1, 171798691841, 137438953473, 68719476737), (24, 206158430209, 81, 171798691841), (22, 0, 206158430209, 68719476737)], [(34359738369, 2147483648, 2147484947), (68719476737, 2147483648, 2147483655), (103079215105, 2147483649, 2147483656), (137438953473, 2147483648, 2147494040), (171798691841, 2147483648, 2147494047), (206158430209, 2147483648, 2147483655), (68719476745, 2147483649, 2147483656)], [])
noncomputable def zxno_br0 : zyXp := (0, [], [0], [(24, 103079215105, 74, 168), (20, 0, 68719476737, 103079215105), (3, 137438953473, 64, 34359738369), (1, 171798691841, 137438953473, 68719476737), (24, 206158430209, 81, 171798691841), (23, 0, 206158430209, 68719476737)], [(34359738369, 2147483648, 2147484947), (68719476737, 2147483648, 2147483655), (103079215105, 2147483649, 2147483656), (137438953473, 2147483648, 2147494040), (171798691841, 2147483648, 2147494047), (206158430209, 2147483648, 2147483655)], [])
noncomputable def zxno_br1 : zyXp := (0, [], [8], [(24, 103079215105, 74, 168), (21, 0, 68719476737, 103079215105)], [(68719476737, 2147483648, 2147483656), (103079215105, 2147483648, 2147483656)], [])
noncomputable def zpno_b : zyPh := (2, [595, 34359738369, 68719476737], [(0, 4294967295), (2147483648, 2147484947), (2147483648, 2147483656)], [], [])
noncomputable def zpno (i : Nat) : zyPh := zif (Nat.beq i 0) (zpno_a) (zpno_b)
noncomputable def zXno (i : Nat) : List zyXp := zif (Nat.beq i 0) ([zxno_ax0]) ([zxno_bx0])
noncomputable def zRno (i : Nat) : List zyXp := zif (Nat.beq i 0) ([]) ([zxno_br0, zxno_br1])
noncomputable def zFno (i : Nat) : zyR := zif (Nat.beq i 0) ([]) ([])
noncomputable def zSno (i : Nat) : Nat := zif (Nat.beq i 0) (0) (0)
noncomputable def zxht_ax0 : zyXp := (2, [595, 34359738369, 0], [], [], [(34359738369, 2147483648, 2147484947)], [])
noncomputable def zpht_a : zyPh := (0, [595, 34359738369, 13], [(0, 4294967295), (2147483648, 2147484947), (0, 4294967295)], [], [])
noncomputable def zxht_bx0 : zyXp := (2, [595, 34359738369, 68719476745], [], [(24, 103079215105, 74, 168), (20, 0, 68719476737, 103079215105), (3, 137438953473, 64, 34359738369), (1, 171798691841, 137438953473, 68719476737), (24, 206158430209, 81, 171798691841), (2, 240518168577, 137438953465, 68719476737), (22, 0, 206158430209, 240518168577)], [(34359738369, 2147483648, 2147484947), (68719476737, 2147483648, 2147483655), (103079215105, 2147483649, 2147483656), (137438953473, 2147483648, 2147494040), (171798691841, 2147483648, 2147494047), (206158430209, 2147483648, 2147483655), (240518168577, 2147483641, 2147483655), (68719476745, 2147483649, 2147483656)], [])
noncomputable def zxht_br0 : zyXp := (0, [], [0], [(24, 103079215105, 74, 168), (20, 0, 68719476737, 103079215105), (3, 137438953473, 64, 34359738369), (1, 171798691841, 137438953473, 68719476737), (24, 206158430209, 81, 171798691841), (2, 240518168577, 137438953465, 68719476737), (23, 0, 206158430209, 240518168577)], [(34359738369, 2147483648, 2147484947), (68719476737, 2147483648, 2147483655), (103079215105, 2147483649, 2147483656), (137438953473, 2147483648, 2147494040), (171798691841, 2147483648, 2147494047), (206158430209, 2147483648, 2147483655), (240518168577, 2147483641, 2147483655)], [])
noncomputable def zxht_br1 : zyXp := (0, [], [8], [(24, 103079215105, 74, 168), (21, 0, 68719476737, 103079215105)], [(68719476737, 2147483648, 2147483656), (103079215105, 2147483648, 2147483656)], [])
noncomputable def zpht_b : zyPh := (2, [595, 34359738369, 68719476737], [(0, 4294967295), (2147483648, 2147484947), (2147483648, 2147483656)], [], [])
noncomputable def zpht (i : Nat) : zyPh := zif (Nat.beq i 0) (zpht_a) (zpht_b)
noncomputable def zXht (i : Nat) : List zyXp := zif (Nat.beq i 0) ([zxht_ax0]) ([zxht_bx0])
noncomputable def zRht (i : Nat) : List zyXp := zif (Nat.beq i 0) ([]) ([zxht_br0, zxht_br1])
noncomputable def zFht (i : Nat) : zyR := zif (Nat.beq i 0) ([]) ([])
noncomputable def zSht (i : Nat) : Nat := zif (Nat.beq i 0) (0) (0)
end
section
/-! THE SIMPLE BRAIDS: is one nothing, a half turn; all seen from behind; the first goes out -/
theorem zyStep {x : Int32} {b : Nat} (h : 2147483648 ≤ zB x ∧ zB x ≤ 2147483648 + b) (hb : b < 1000000) : zyN1 (x + Int32.ofNat 1) = zyN1 x + 1 ∧ zyN1 x ≤ b ∧ x = Int32.ofNat (zyN1 x) := by
  obtain ⟨q1, q2⟩ := zyOn h.1
  have e : x + Int32.ofNat 1 = Int32.ofNat (zyN1 x + 1) := by
    rw [← zyOa, ← q1]
  refine ⟨?_, by omega, q1⟩
  rw [e]
  exact zyN1_of (by omega)
theorem zyOd {a : Nat} (h : 1 ≤ a) : Int32.ofNat a + Int32.ofNat 4294967295 = Int32.ofNat (a - 1) := by
  rw [zyOa]
  apply zN_inj
  rw [zN_of, zN_of]
  omega
theorem zyI_of {E : zyEm} {a k n : Nat} (h : E a k = some (.int (Int32.ofNat n))) (hn : n < 4294967296) : zyN1 (zyI E a k) = n := by
  unfold zyI
  rw [h]
  exact zyN1_of hn
section YGO3
variable {l : Launch} {mi : zyB} {en : zEn} {dep : Nat} {B : zCx} {s : State} {ι : Type} {φ : ι → zyPh} {Inv : ι → (Nat → Int32) → zyEm → Prop} {Mu : ι → (Nat → Int32) → zyEm → Nat} {M : Nat} {Wg : zyWt} {x : zyXp} {ρ2 : Nat → Int32} {N : Nat} {H : Heap} {locs : List Loc} {lsB : Array Slot} {stA : List Value}
/-- one element known at the next phase: its symbol k, its code among cs -/
theorem zyGoK1 {nL : Nat} (hIH : zyIH mi nL B s φ Inv Mu M Wg) (hAt : zyAt mi B s nL x ρ2 N H locs lsB stA) (i2 : ι) (cs : List Nat) (hpc : x.1 = (φ i2).1) (hchk : zand (zygoB nL x.2.1 (φ i2) cs) (zand (zynil x.2.2.1) (zynil (φ i2).2.2.2.2)) = true) (key k : Nat) (c : zyCl) (hkc : (φ i2).2.2.2.1 = [(key, zysym k)]) (hg : zG mi (key / 16384) = some c) (hl : key % 16384 < zyLen c) (hkN : k < (φ i2).2.2.1.length) (hel : zyEl mi B H (key / 16384) (key % 16384) = some (.int (zyw ρ2 (zyag cs k)))) (henv : zEnv (fun k => zyw ρ2 (zyag cs k)) (φ i2).2.2.1)
    (hInv : Inv i2 (fun k => zyw ρ2 (zyag cs k)) (zyEl mi B H)) (hMu : Mu i2 (fun k => zyw ρ2 (zyag cs k)) (zyEl mi B H) < M) : Wg H locs x.1 lsB stA := by
  refine zyGoK hIH hAt i2 cs hpc hchk henv (fun p hp => ?_) hInv hMu
  rw [hkc] at hp
  rw [List.mem_singleton.mp hp]
  exact ⟨c, k, hg, hl, rfl, hkN, hel⟩
end YGO3
def zyΦno (as : List Int32) (_ : zyEm) : Prop := ∃ f : Nat, as = [Int32.ofNat f] ∧ f < 1300
theorem zyno_run : zyAllP (fun r c => zyrS (zymr r c) zxi231 (231, 0, 0, 2, 0) 2 zpno (fun _ _ => []) zFno zSno zXno zRno 2) = true := by decide +kernel
theorem zyisNothing {l : Launch} {r c : Nat} (h1 : 1 ≤ r) (h2 : r ≤ 4) (h3 : 1 ≤ c) (h4 : c ≤ 5) {en : zEn} {me : zMe} (hen : zG zxMeta 231 = some en) (hme : zG zMeth 231 = some me) : zyHc l (zymr r c) en me 2 1 zyΦno zyΨie := by
  have een : zG zxMeta 231 = some (zxi231, 2, 3, 11, 231, 0, 0, 2, 0) := rfl
  obtain ⟨me1, hme1, hOK⟩ := zall hen
  rw [hme] at hme1
  cases hme1
  rw [een] at hen
  cases hen
  have hr := zyAllP_iff zyno_run h1 h2 h3 h4
  refine zycutS (mi := zymr r c) hOK rfl rfl ⟨_, rfl, rfl⟩ (ι := Fin 2) (fun i => zpno i.val) (fun _ _ => []) (fun i => zFno i.val) (fun i => zSno i.val) (fun i => zXno i.val) (fun i => zRno i.val) (fun i y2 ct en2 me2 h => by cases h) 200000 (fun i => zyAll_iff hr i.val i.isLt) ⟨0, by decide⟩ ⟨rfl, rfl, rfl, rfl⟩ ⟨by decide, by decide⟩
    (fun i as E0 ρ E => E = E0) (fun i as E0 ρ E => if i.val = 0 then 100 else 8 - zyN1 (ρ 2)) ?_ ?_ ?_
  · intro as E hlen hT hΦ
    obtain ⟨f, rfl, b1⟩ := hΦ
    refine ⟨zEnv_c (zyfull _) (zEnv_c ?_ (zEnv_c (zyfull _) zEnv_nil)), rfl⟩
    show 2147483648 ≤ zB (Int32.ofNat f) ∧ zB (Int32.ofNat f) ≤ 2147484947
    rw [zyBn (by omega)]
    omega
  · intro as B s Wg hRu hT0 hΦ hlen i ρ H hT hInv hIH x hx ρ2 N2 H2 locs lsB stA hAt hXs hag hfr hT2
    rcases i with ⟨i, hi⟩
    have hi2 : i = 0 ∨ i = 1 := by omega
    rcases hi2 with rfl | rfl
    · have hx : x ∈ [zxno_ax0] := hx
      have hg : ∀ k, k < 3 → ρ2 k = ρ k := hag
      have hI := hInv
      have hI : (zyEl (zymr r c) B H) = (zyEl (zymr r c) B s.heap) := hI
      obtain ⟨hF, hB, hM⟩ := hXs
      have hEE : (zyEl (zymr r c) B H2) = (zyEl (zymr r c) B H) := zyfr0 hfr
      have ex := List.mem_singleton.mp hx
      subst ex
      refine zyGoB hIH hAt hB ⟨1, by decide⟩ [595, 34359738369, 0] rfl rfl rfl rfl (hEE.trans hI) ?_
      show 8 - zyN1 (Int32.ofNat 0) < 100
      omega
    · have hx : x ∈ [zxno_bx0] := hx
      have hg : ∀ k, k < 3 → ρ2 k = ρ k := hag
      have hI := hInv
      have hI : (zyEl (zymr r c) B H) = (zyEl (zymr r c) B s.heap) := hI
      obtain ⟨hF, hB, hM⟩ := hXs
      have hEE : (zyEl (zymr r c) B H2) = (zyEl (zymr r c) B H) := zyfr0 hfr
      have ex := List.mem_singleton.mp hx
      subst ex
      refine zyGoB hIH hAt hB ⟨1, by decide⟩ [595, 34359738369, 68719476745] rfl rfl rfl rfl (hEE.trans hI) ?_
      have q : 2147483648 ≤ zB (ρ2 2) ∧ zB (ρ2 2) ≤ 2147483655 := zyXb hB 1 rfl
      obtain ⟨q1, q2, -⟩ := zyStep (b := 7) q (by decide)
      show 8 - zyN1 (ρ2 2 + Int32.ofNat 1) < 8 - zyN1 (ρ 2)
      rw [q1, ← hg 2 (by decide)]
      omega
  · intro as E0 E E2 hT0 hΦ hlen i ρ hT hInv x hx ρ2 N2 B vo hXs hag hfr hT2 hvo
    rcases i with ⟨i, hi⟩
    have hi2 : i = 0 ∨ i = 1 := by omega
    rcases hi2 with rfl | rfl
    · cases hx
    · have hx : x ∈ [zxno_br0, zxno_br1] := hx
      have hg : ∀ k, k < 3 → ρ2 k = ρ k := hag
      have hI := hInv
      have hI : E = E0 := hI
      obtain ⟨hF, hB, hM⟩ := hXs
      have hEE : E2 = E := zyfr0 hfr
      rcases List.mem_cons.mp hx with ex | hx
      · subst ex
        exact ⟨hEE.trans hI, 0, zyvo_1 (c := 0) (by decide) (show zyvo (zyXn B ρ2 N2) [0] vo from hvo), Or.inl rfl⟩
      · skip
        have ex := List.mem_singleton.mp hx
        subst ex
        exact ⟨hEE.trans hI, 1, zyvo_1 (c := 8) (by decide) (show zyvo (zyXn B ρ2 N2) [8] vo from hvo), Or.inr rfl⟩
theorem zyht_run : zyAllP (fun r c => zyrS (zymr r c) zxi232 (232, 0, 0, 2, 0) 2 zpht (fun _ _ => []) zFht zSht zXht zRht 2) = true := by decide +kernel
theorem zyisHalfTurn {l : Launch} {r c : Nat} (h1 : 1 ≤ r) (h2 : r ≤ 4) (h3 : 1 ≤ c) (h4 : c ≤ 5) {en : zEn} {me : zMe} (hen : zG zxMeta 232 = some en) (hme : zG zMeth 232 = some me) : zyHc l (zymr r c) en me 2 1 zyΦno zyΨie := by
  have een : zG zxMeta 232 = some (zxi232, 2, 3, 11, 232, 0, 0, 2, 0) := rfl
  obtain ⟨me1, hme1, hOK⟩ := zall hen
  rw [hme] at hme1
  cases hme1
  rw [een] at hen
  cases hen
  have hr := zyAllP_iff zyht_run h1 h2 h3 h4
  refine zycutS (mi := zymr r c) hOK rfl rfl ⟨_, rfl, rfl⟩ (ι := Fin 2) (fun i => zpht i.val) (fun _ _ => []) (fun i => zFht i.val) (fun i => zSht i.val) (fun i => zXht i.val) (fun i => zRht i.val) (fun i y2 ct en2 me2 h => by cases h) 200000 (fun i => zyAll_iff hr i.val i.isLt) ⟨0, by decide⟩ ⟨rfl, rfl, rfl, rfl⟩ ⟨by decide, by decide⟩
    (fun i as E0 ρ E => E = E0) (fun i as E0 ρ E => if i.val = 0 then 100 else 8 - zyN1 (ρ 2)) ?_ ?_ ?_
  · intro as E hlen hT hΦ
    obtain ⟨f, rfl, b1⟩ := hΦ
    refine ⟨zEnv_c (zyfull _) (zEnv_c ?_ (zEnv_c (zyfull _) zEnv_nil)), rfl⟩
    show 2147483648 ≤ zB (Int32.ofNat f) ∧ zB (Int32.ofNat f) ≤ 2147484947
    rw [zyBn (by omega)]
    omega
  · intro as B s Wg hRu hT0 hΦ hlen i ρ H hT hInv hIH x hx ρ2 N2 H2 locs lsB stA hAt hXs hag hfr hT2
    rcases i with ⟨i, hi⟩
    have hi2 : i = 0 ∨ i = 1 := by omega
    rcases hi2 with rfl | rfl
    · have hx : x ∈ [zxht_ax0] := hx
      have hg : ∀ k, k < 3 → ρ2 k = ρ k := hag
      have hI := hInv
      have hI : (zyEl (zymr r c) B H) = (zyEl (zymr r c) B s.heap) := hI
      obtain ⟨hF, hB, hM⟩ := hXs
      have hEE : (zyEl (zymr r c) B H2) = (zyEl (zymr r c) B H) := zyfr0 hfr
      have ex := List.mem_singleton.mp hx
      subst ex
      refine zyGoB hIH hAt hB ⟨1, by decide⟩ [595, 34359738369, 0] rfl rfl rfl rfl (hEE.trans hI) ?_
      show 8 - zyN1 (Int32.ofNat 0) < 100
      omega
    · have hx : x ∈ [zxht_bx0] := hx
      have hg : ∀ k, k < 3 → ρ2 k = ρ k := hag
      have hI := hInv
      have hI : (zyEl (zymr r c) B H) = (zyEl (zymr r c) B s.heap) := hI
      obtain ⟨hF, hB, hM⟩ := hXs
      have hEE : (zyEl (zymr r c) B H2) = (zyEl (zymr r c) B H) := zyfr0 hfr
      have ex := List.mem_singleton.mp hx
      subst ex
      refine zyGoB hIH hAt hB ⟨1, by decide⟩ [595, 34359738369, 68719476745] rfl rfl rfl rfl (hEE.trans hI) ?_
      have q : 2147483648 ≤ zB (ρ2 2) ∧ zB (ρ2 2) ≤ 2147483655 := zyXb hB 1 rfl
      obtain ⟨q1, q2, -⟩ := zyStep (b := 7) q (by decide)
      show 8 - zyN1 (ρ2 2 + Int32.ofNat 1) < 8 - zyN1 (ρ 2)
      rw [q1, ← hg 2 (by decide)]
      omega
  · intro as E0 E E2 hT0 hΦ hlen i ρ hT hInv x hx ρ2 N2 B vo hXs hag hfr hT2 hvo
    rcases i with ⟨i, hi⟩
    have hi2 : i = 0 ∨ i = 1 := by omega
    rcases hi2 with rfl | rfl
    · cases hx
    · have hx : x ∈ [zxht_br0, zxht_br1] := hx
      have hg : ∀ k, k < 3 → ρ2 k = ρ k := hag
      have hI := hInv
      have hI : E = E0 := hI
      obtain ⟨hF, hB, hM⟩ := hXs
      have hEE : E2 = E := zyfr0 hfr
      rcases List.mem_cons.mp hx with ex | hx
      · subst ex
        exact ⟨hEE.trans hI, 0, zyvo_1 (c := 0) (by decide) (show zyvo (zyXn B ρ2 N2) [0] vo from hvo), Or.inl rfl⟩
      · skip
        have ex := List.mem_singleton.mp hx
        subst ex
        exact ⟨hEE.trans hI, 1, zyvo_1 (c := 8) (by decide) (show zyvo (zyXn B ρ2 N2) [8] vo from hvo), Or.inr rfl⟩
end
section
/-! THE SIMPLE BRAIDS: all seen from behind; the first goes out -/
section YGO4
variable {l : Launch} {mi : zyB} {en : zEn} {dep : Nat} {B : zCx} {s : State} {ι : Type} {φ : ι → zyPh} {Inv : ι → (Nat → Int32) → zyEm → Prop} {Mu : ι → (Nat → Int32) → zyEm → Nat} {M : Nat} {Wg : zyWt} {x : zyXp} {ρ2 : Nat → Int32} {N : Nat} {H : Heap} {locs : List Loc} {lsB : Array Slot} {stA : List Value}
theorem zyAsB (hRu : zyRu l mi en dep B s Wg) (hIH : zyIH mi en.2.2.1 B s φ Inv Mu M Wg) (hAt : zyAt mi B s en.2.2.1 x ρ2 N H locs lsB stA) (hB : ∀ b ∈ x.2.2.2.2.1, b.2.1 ≤ zB (zyw ρ2 b.1) ∧ zB (zyw ρ2 b.1) ≤ b.2.2) (a n : Nat) {ax : Nat} (c : zyCl) (hrow : en.1 x.1 = (.iastore, x.1 + 1, ax)) (hg : zG mi a = some c) (h20 : c.1 = 20) {cv cj : Nat} (hst : x.2.2.1 = [cv, cj, 8 * a + 3]) (hkv : cv % 8 ≤ 1) (hkj : cj % 8 ≤ 1) (i2 : ι) (cs : List Nat) (hpc : (φ i2).1 = x.1 + 1) (hchk : zand (zygoB en.2.2.1 x.2.1 (φ i2) cs) (zynil (φ i2).2.2.2.2) = true) (henv : zyenvB x.2.2.2.2.1 cs (φ i2).2.2.1 0 = true) (hkc : (φ i2).2.2.2.1 = []) (hn : n < c.2.1) (hj : zyw ρ2 cj = Int32.ofNat n) (hrows : ∀ r ∈ c.2.2, r.1 ≤ n → n ≤ r.2.1 → r.2.2 % 8 = 2 ∧ r.2.2 / 34359738368 ≤ zB (zyw ρ2 cv) ∧ zB (zyw ρ2 cv) ≤ r.2.2 / 8 % 4294967296)
    (kk : ∀ (E3 : zyEm), zyTy mi E3 → E3 a n = some (.int (zyw ρ2 cv)) → (∀ a2 k2, ¬ (a2 = a ∧ k2 = n) → E3 a2 k2 = zyEl mi B H a2 k2) → Inv i2 (fun k => zyw ρ2 (zyag cs k)) E3 ∧ Mu i2 (fun k => zyw ρ2 (zyag cs k)) E3 < M) : Wg H locs x.1 lsB stA := by
  obtain ⟨c1, c2⟩ := zand_iff hchk
  refine zyAs hRu hIH hAt hrow hg h20 hn hst hkv hkj hj hrows (fun H3 hT3 e1 e2 => ?_)
  obtain ⟨q2, q3⟩ := kk _ hT3 e1 e2
  refine ⟨i2, cs, hpc, c1, (fun k p hp => ?_), hkc, ?_, q2, q3⟩
  · have := zyenvB_iff hB henv k p hp
    rwa [Nat.zero_add] at this
  · cases hq : (φ i2).2.2.2.2 with
    | nil => rfl
    | cons a t => rw [hq] at c2; cases c2
end YGO4
def zmv (E : zyEm) (j : Nat) : Nat := zyN1 (zyI E 82 j)
theorem zmv_el {r c : Nat} {E : zyEm} (hT : zyTy (zymr r c) E) {i : Nat} (hi : i < 8) : E 82 i = some (.int (Int32.ofNat (zmv E i))) ∧ zmv E i < 8 := by
  obtain ⟨x, h1, h2, h3⟩ := (hT 82 (20, 8, [(0, 7, 73786976312018075706)]) i rfl (show i < 8 from hi) (0, 7, 73786976312018075706) List.mem_cons_self (Nat.zero_le _) (by dsimp only; omega)).1 rfl
  have h2 : 2147483648 ≤ zB x := h2
  have h3 : zB x ≤ 2147483655 := h3
  have e : zmv E i = zyN1 x := by
    unfold zmv zyI
    rw [h1]
  obtain ⟨q1, q2⟩ := zyOn h2
  rw [e]
  exact ⟨by rw [h1, ← q1], by omega⟩
theorem zmv_eq {E E2 : zyEm} {j : Nat} (h : E2 82 j = E 82 j) : zmv E2 j = zmv E j := by
  unfold zmv
  rw [zyI_eq h]
theorem zyrow_eq {E E2 : zyEm} {f j : Nat} (h : E2 81 (8 * f + j) = E 81 (8 * f + j)) : zyrow E2 f j = zyrow E f j := by
  unfold zyrow zfv
  rw [zyI_eq h]
theorem zyEk {E : zyEm} {a j n : Nat} {x : Int32} {v : Int32} (h1 : Int32.ofNat j = Int32.ofNat n) (hj : j < 4294967296) (h2 : n < 2147483648) (h3 : E a n = some (.int x)) (h4 : E a j = some (.int v)) : x = v := by
  have e := zyOi hj (by omega) h1
  subst e
  rw [h4] at h3
  exact (Value.int.inj (Option.some.inj h3)).symm
def zyFm1 (f : Nat) (E E2 : zyEm) : Prop := ∀ a2 k2, ¬ (a2 = 81 ∧ 8 * f ≤ k2 ∧ k2 < 8 * f + 8) → ¬ a2 = 82 → E2 a2 k2 = E a2 k2
def zyΦmi (as : List Int32) (E : zyEm) : Prop := ∃ f m : Nat, as = [Int32.ofNat f] ∧ f < 1300 ∧ m ≤ 8 ∧ E 74 21 = some (.int (Int32.ofNat m)) ∧ zPm (zyrow E f) m
def zyΨmi (as : List Int32) (E E2 : zyEm) (vo : Option Value) : Prop := vo = none ∧ ∀ f m : Nat, as = [Int32.ofNat f] → f < 1300 → m ≤ 8 → E 74 21 = some (.int (Int32.ofNat m)) → zyFm1 f E E2 ∧ zPm (zyrow E2 f) m
def zyImi (i f m k : Nat) (E0 : zyEm) (ρ : Nat → Int32) (E : zyEm) : Prop := ρ 1 = Int32.ofNat f ∧ zyFm1 f E0 E ∧ (1 ≤ i → ρ 3 = Int32.ofNat k) ∧ (i ≤ 2 → ∀ j, j < 8 → zyrow E f j = zyrow E0 f j) ∧ (i = 1 → k ≤ m ∧ ∀ j, j < k → zmv E j = zyrow E0 f j) ∧ (i = 2 → k < m ∧ ∀ j, j ≤ k → zmv E j = zyrow E0 f j) ∧ (3 ≤ i → ∀ j, j < m → zmv E j = zyrow E0 f j) ∧ (i = 3 → k ≤ m ∧ ∀ j, j < k → zyrow E f (m - 1 - j) = m - 1 - zyrow E0 f j) ∧ (i = 4 → k < m ∧ ∀ j, j ≤ k → zyrow E f (m - 1 - j) = m - 1 - zyrow E0 f j)
theorem zymi_run : zyAllP (fun r c => zyrS (zymr r c) zxi235 (235, 0, 0, 0, 0) 2 zpmi (fun _ _ => []) zFmi zSmi zXmi zRmi 5) = true := by decide +kernel
theorem zymirrors {l : Launch} {r c : Nat} (h1 : 1 ≤ r) (h2 : r ≤ 4) (h3 : 1 ≤ c) (h4 : c ≤ 5) {en : zEn} {me : zMe} (hen : zG zxMeta 235 = some en) (hme : zG zMeth 235 = some me) : zyHc l (zymr r c) en me 2 1 zyΦmi zyΨmi := by
  have een : zG zxMeta 235 = some (zxi235, 2, 4, 11, 235, 0, 0, 0, 0) := rfl
  obtain ⟨me1, hme1, hOK⟩ := zall hen
  rw [hme] at hme1
  cases hme1
  rw [een] at hen
  cases hen
  have hr := zyAllP_iff zymi_run h1 h2 h3 h4
  obtain ⟨mela, hmela, -⟩ := zall (show zG zxMeta 227 = some (zxi227, 4, 4, 11, 227, 0, 0, 0, 0) from rfl)
  have hla := zylays (l := l) h1 h2 h3 h4 (show zG zxMeta 227 = some (zxi227, 4, 4, 11, 227, 0, 0, 0, 0) from rfl) hmela
  refine zycutS (mi := zymr r c) hOK rfl rfl ⟨_, rfl, rfl⟩ (ι := Fin 5) (fun i => zpmi i.val) (fun _ _ => []) (fun i => zFmi i.val) (fun i => zSmi i.val) (fun i => zXmi i.val) (fun i => zRmi i.val) (fun i y2 ct en2 me2 h => by cases h) 200000 (fun i => zyAll_iff hr i.val i.isLt) ⟨0, by decide⟩ ⟨rfl, rfl, rfl, rfl⟩ ⟨by decide, by decide⟩
    (fun i as E0 ρ E => ∃ f m k : Nat, as = [Int32.ofNat f] ∧ f < 1300 ∧ m ≤ 8 ∧ E0 74 21 = some (.int (Int32.ofNat m)) ∧ zPm (zyrow E0 f) m ∧ zyImi i.val f m k E0 ρ E) (fun i as E0 ρ E => if i.val = 0 then 100 else (if i.val ≤ 2 then 60 else 0) + 2 * (8 - zyN1 (ρ 3)) + i.val % 2) ?_ ?_ ?_
  · intro as E hlen hT hΦ
    obtain ⟨f, m, rfl, b1, b2, b3, b4⟩ := hΦ
    refine ⟨zEnv_c (zyfull _) (zEnv_c ?_ (zEnv_c (zyfull _) (zEnv_c (zyfull _) zEnv_nil))), f, m, 0, rfl, b1, b2, b3, b4, rfl, fun _ _ _ _ => rfl, fun h => absurd (show 1 ≤ 0 from h) (by decide), fun _ _ _ => rfl, fun h => absurd (show 0 = 1 from h) (by decide), fun h => absurd (show 0 = 2 from h) (by decide), fun h => absurd (show 3 ≤ 0 from h) (by decide), fun h => absurd (show 0 = 3 from h) (by decide), fun h => absurd (show 0 = 4 from h) (by decide)⟩
    show 2147483648 ≤ zB (Int32.ofNat f) ∧ zB (Int32.ofNat f) ≤ 2147484947
    rw [zyBn (by omega)]
    omega
  · intro as B s Wg hRu hT0 hΦ hlen i ρ H hT hInv hIH x hx ρ2 N2 H2 locs lsB stA hAt hXs hag hfr hT2
    rcases i with ⟨i, hi⟩
    have hi2 : i = 0 ∨ i = 1 ∨ i = 2 ∨ i = 3 ∨ i = 4 := by omega
    rcases hi2 with rfl | rfl | rfl | rfl | rfl
    · have hx : x ∈ [zxmi_ax0] := hx
      have hg : ∀ k, k < 4 → ρ2 k = ρ k := hag
      have hI := hInv
      have hI : ∃ f m k : Nat, as = [Int32.ofNat f] ∧ f < 1300 ∧ m ≤ 8 ∧ (zyEl (zymr r c) B s.heap) 74 21 = some (.int (Int32.ofNat m)) ∧ zPm (zyrow (zyEl (zymr r c) B s.heap) f) m ∧ zyImi 0 f m k (zyEl (zymr r c) B s.heap) ρ (zyEl (zymr r c) B H) := hI
      obtain ⟨hF, hB, hM⟩ := hXs
      have hEE : (zyEl (zymr r c) B H2) = (zyEl (zymr r c) B H) := zyfr0 hfr
      have ex := List.mem_singleton.mp hx
      subst ex
      obtain ⟨f, m, k, has, hf, hm, hst, hpm, hI⟩ := hI
      obtain ⟨i1, i2, i3, i4, i5, i6, i7, i8, i9⟩ := hI
      have a1 : ρ2 1 = Int32.ofNat f := (hg 1 (by decide)).trans i1
      refine zyGoB hIH hAt hB ⟨1, by decide⟩ [595, 34359738369, 659, 0] rfl rfl rfl rfl ⟨f, m, 0, has, hf, hm, hst, hpm, a1, by rw [hEE]; exact i2, fun _ => rfl, fun _ => by rw [hEE]; exact i4 (by decide), fun _ => ⟨Nat.zero_le _, fun j hj => absurd hj (Nat.not_lt_zero j)⟩, fun h => absurd (show 1 = 2 from h) (by decide), fun h => absurd (show 3 ≤ 1 from h) (by decide), fun h => absurd (show 1 = 3 from h) (by decide), fun h => absurd (show 1 = 4 from h) (by decide)⟩ ?_
      show 60 + 2 * (8 - zyN1 (Int32.ofNat 0)) + 1 < 100
      omega
    · have hx : x ∈ [zxmi_bx0, zxmi_bx1] := hx
      have hg : ∀ k, k < 4 → ρ2 k = ρ k := hag
      have hI := hInv
      have hI : ∃ f m k : Nat, as = [Int32.ofNat f] ∧ f < 1300 ∧ m ≤ 8 ∧ (zyEl (zymr r c) B s.heap) 74 21 = some (.int (Int32.ofNat m)) ∧ zPm (zyrow (zyEl (zymr r c) B s.heap) f) m ∧ zyImi 1 f m k (zyEl (zymr r c) B s.heap) ρ (zyEl (zymr r c) B H) := hI
      obtain ⟨hF, hB, hM⟩ := hXs
      have hEE : (zyEl (zymr r c) B H2) = (zyEl (zymr r c) B H) := zyfr0 hfr
      rcases List.mem_cons.mp hx with ex | hx
      · subst ex
        obtain ⟨f, m, k, has, hf, hm, hst, hpm, hI⟩ := hI
        obtain ⟨i1, i2, i3, i4, i5, i6, i7, i8, i9⟩ := hI
        have a1 : ρ2 1 = Int32.ofNat f := (hg 1 (by decide)).trans i1
        have a3 : ρ2 3 = Int32.ofNat k := (hg 3 (by decide)).trans (i3 (by decide))
        have hms : zyEl (zymr r c) B H 74 21 = some (.int (Int32.ofNat m)) := (i2 74 21 (fun q => absurd q.1 (by decide)) (by decide)).trans hst
        obtain ⟨n0, w1, w2, w3⟩ := zyXe hF 0 rfl
        have w1 : Int32.ofNat 21 = Int32.ofNat n0 := w1
        have w3 : zyEl (zymr r c) B H 74 n0 = some (.int (ρ2 4)) := w3
        have em : ρ2 4 = Int32.ofNat m := zyEk w1 (by decide) w2 w3 hms
        have f1 := zyX20 hF 1 rfl
        have f1 : ρ2 3 < ρ2 4 := f1
        have k8 : 2147483648 ≤ zB (ρ2 3) ∧ zB (ρ2 3) ≤ 2147483655 := zyXb hB 1 rfl
        have k8 : k < 8 := by
          obtain ⟨km, -⟩ := i5 rfl
          rw [a3, zyBn (by omega)] at k8
          omega
        rw [a3, em, zyOl (by omega) (by omega)] at f1
        have w1 := zyXop hF 2 rfl (by decide)
        have w1 : ρ2 5 = Int32.ofNat 8 * ρ2 1 := w1
        have w2 := zyXop hF 3 rfl (by decide)
        have w2 : ρ2 6 = ρ2 5 + ρ2 3 := w2
        have T1 : zyTy (zymr r c) (zyEl (zymr r c) B H) := hT
        have v1 := zfv_rd T1 (f := f) (k := k) (by omega) (w1.trans (by rw [a1])) (w2.trans (by rw [a3])) (zyXe hF 4 rfl)
        have v1 : ρ2 7 = Int32.ofNat (zyrow (zyEl (zymr r c) B H) f k) := v1
        have l1 := zyrow_lt T1 (f := f) (p := k) (by omega)
        refine zyAsB hRu hIH hAt hB 82 k (20, 8, [(0, 7, 73786976312018075706)]) rfl rfl rfl (cv := 240518168577) (cj := 103079215105) rfl (by decide) (by decide) ⟨2, by decide⟩ [595, 34359738369, 659, 103079215105] rfl rfl rfl rfl k8 a3 ?_ ?_
        · intro r0 hr0 _ _
          rw [List.mem_singleton.mp hr0]
          refine ⟨rfl, ?_⟩
          show 2147483648 ≤ zB (ρ2 7) ∧ zB (ρ2 7) ≤ 2147483655
          rw [v1, zyBn (by omega)]
          omega
        · intro E3 hT3 e1 e2
          have e1 : E3 82 k = some (.int (ρ2 7)) := e1
          rw [hEE] at e2
          refine ⟨⟨f, m, k, has, hf, hm, hst, hpm, a1, fun a2 k2 q1 q2 => (e2 a2 k2 (fun z => q2 z.1)).trans (i2 a2 k2 q1 q2), fun _ => a3, fun _ j hj => (zyrow_eq (e2 81 _ (fun z => absurd z.1 (by decide)))).trans (i4 (by decide) j hj), fun h => absurd (show 2 = 1 from h) (by decide), fun _ => ⟨f1, fun j hj => ?_⟩, fun h => absurd (show 3 ≤ 2 from h) (by decide), fun h => absurd (show 2 = 3 from h) (by decide), fun h => absurd (show 2 = 4 from h) (by decide)⟩, ?_⟩
          · by_cases e : j = k
            · subst e
              have : zmv E3 j = zyrow (zyEl (zymr r c) B H) f j := by
                unfold zmv zyI
                rw [e1, v1]
                exact zyN1_of (by omega)
              rw [this]
              exact i4 (by decide) j (by omega)
            · rw [zmv_eq (e2 82 j (fun z => e z.2))]
              exact (i5 rfl).2 j (by omega)
          · show 60 + 2 * (8 - zyN1 (ρ2 3)) + 0 < 60 + 2 * (8 - zyN1 (ρ 3)) + 1
            rw [hg 3 (by decide)]
            omega
      · skip
        have ex := List.mem_singleton.mp hx
        subst ex
        obtain ⟨f, m, k, has, hf, hm, hst, hpm, hI⟩ := hI
        obtain ⟨i1, i2, i3, i4, i5, i6, i7, i8, i9⟩ := hI
        have a1 : ρ2 1 = Int32.ofNat f := (hg 1 (by decide)).trans i1
        have a3 : ρ2 3 = Int32.ofNat k := (hg 3 (by decide)).trans (i3 (by decide))
        have hms : zyEl (zymr r c) B H 74 21 = some (.int (Int32.ofNat m)) := (i2 74 21 (fun q => absurd q.1 (by decide)) (by decide)).trans hst
        obtain ⟨n0, w1, w2, w3⟩ := zyXe hF 0 rfl
        have w1 : Int32.ofNat 21 = Int32.ofNat n0 := w1
        have w3 : zyEl (zymr r c) B H 74 n0 = some (.int (ρ2 4)) := w3
        have em : ρ2 4 = Int32.ofNat m := zyEk w1 (by decide) w2 w3 hms
        have f1 := zyX21 hF 1 rfl
        have f1 : ¬ ρ2 3 < ρ2 4 := f1
        obtain ⟨km, kv⟩ := i5 rfl
        rw [a3, em, zyOl (by omega) (by omega)] at f1
        refine zyGoB hIH hAt hB ⟨3, by decide⟩ [595, 34359738369, 659, 0] rfl rfl rfl rfl ⟨f, m, 0, has, hf, hm, hst, hpm, a1, by rw [hEE]; exact i2, fun _ => rfl, fun h => absurd (show 3 ≤ 2 from h) (by decide), fun h => absurd (show 3 = 1 from h) (by decide), fun h => absurd (show 3 = 2 from h) (by decide), fun _ j hj => by rw [hEE]; exact kv j (by omega), fun _ => ⟨Nat.zero_le _, fun j hj => absurd hj (Nat.not_lt_zero j)⟩, fun h => absurd (show 3 = 4 from h) (by decide)⟩ ?_
        show 0 + 2 * (8 - zyN1 (Int32.ofNat 0)) + 1 < 60 + 2 * (8 - zyN1 (ρ 3)) + 1
        omega
    · have hx : x ∈ [zxmi_cx0] := hx
      have hg : ∀ k, k < 4 → ρ2 k = ρ k := hag
      have hI := hInv
      have hI : ∃ f m k : Nat, as = [Int32.ofNat f] ∧ f < 1300 ∧ m ≤ 8 ∧ (zyEl (zymr r c) B s.heap) 74 21 = some (.int (Int32.ofNat m)) ∧ zPm (zyrow (zyEl (zymr r c) B s.heap) f) m ∧ zyImi 2 f m k (zyEl (zymr r c) B s.heap) ρ (zyEl (zymr r c) B H) := hI
      obtain ⟨hF, hB, hM⟩ := hXs
      have hEE : (zyEl (zymr r c) B H2) = (zyEl (zymr r c) B H) := zyfr0 hfr
      have ex := List.mem_singleton.mp hx
      subst ex
      obtain ⟨f, m, k, has, hf, hm, hst, hpm, hI⟩ := hI
      obtain ⟨i1, i2, i3, i4, i5, i6, i7, i8, i9⟩ := hI
      have a1 : ρ2 1 = Int32.ofNat f := (hg 1 (by decide)).trans i1
      have a3 : ρ2 3 = Int32.ofNat k := (hg 3 (by decide)).trans (i3 (by decide))
      have a3' : ρ2 3 + Int32.ofNat 1 = Int32.ofNat (k + 1) := by rw [a3, zyOa]
      obtain ⟨km, kv⟩ := i6 rfl
      refine zyGoB hIH hAt hB ⟨1, by decide⟩ [595, 34359738369, 659, 103079215113] rfl rfl rfl rfl ⟨f, m, k + 1, has, hf, hm, hst, hpm, a1, by rw [hEE]; exact i2, fun _ => a3', fun _ => by rw [hEE]; exact i4 (by decide), fun _ => ⟨by omega, fun j hj => by rw [hEE]; exact kv j (by omega)⟩, fun h => absurd (show 1 = 2 from h) (by decide), fun h => absurd (show 3 ≤ 1 from h) (by decide), fun h => absurd (show 1 = 3 from h) (by decide), fun h => absurd (show 1 = 4 from h) (by decide)⟩ ?_
      show 60 + 2 * (8 - zyN1 (ρ2 3 + Int32.ofNat 1)) + 1 % 2 < 60 + 2 * (8 - zyN1 (ρ 3)) + 2 % 2
      rw [a3', i3 (by decide), zyN1_of (by omega), zyN1_of (by omega)]
      omega
    · have hx : x ∈ [zxmi_dx0] := hx
      have hg : ∀ k, k < 4 → ρ2 k = ρ k := hag
      have hI := hInv
      have hI : ∃ f m k : Nat, as = [Int32.ofNat f] ∧ f < 1300 ∧ m ≤ 8 ∧ (zyEl (zymr r c) B s.heap) 74 21 = some (.int (Int32.ofNat m)) ∧ zPm (zyrow (zyEl (zymr r c) B s.heap) f) m ∧ zyImi 3 f m k (zyEl (zymr r c) B s.heap) ρ (zyEl (zymr r c) B H) := hI
      obtain ⟨hF, hB, hM⟩ := hXs
      have hEE : (zyEl (zymr r c) B H2) = (zyEl (zymr r c) B H) := zyfr0 hfr
      have ex := List.mem_singleton.mp hx
      subst ex
      obtain ⟨f, m, k, has, hf, hm, hst, hpm, hI⟩ := hI
      obtain ⟨i1, i2, i3, i4, i5, i6, i7, i8, i9⟩ := hI
      have a1 : ρ2 1 = Int32.ofNat f := (hg 1 (by decide)).trans i1
      have a3 : ρ2 3 = Int32.ofNat k := (hg 3 (by decide)).trans (i3 (by decide))
      have hms : zyEl (zymr r c) B H 74 21 = some (.int (Int32.ofNat m)) := (i2 74 21 (fun q => absurd q.1 (by decide)) (by decide)).trans hst
      obtain ⟨n0, w1, w2, w3⟩ := zyXe hF 0 rfl
      have w1 : Int32.ofNat 21 = Int32.ofNat n0 := w1
      have w3 : zyEl (zymr r c) B H 74 n0 = some (.int (ρ2 4)) := w3
      have em : ρ2 4 = Int32.ofNat m := zyEk w1 (by decide) w2 w3 hms
      have f1 := zyX20 hF 1 rfl
      have f1 : ρ2 3 < ρ2 4 := f1
      obtain ⟨km, kv⟩ := i8 rfl
      rw [a3, em, zyOl (by omega) (by omega)] at f1
      have T1 : zyTy (zymr r c) (zyEl (zymr r c) B H) := hT
      have w1 := zyXop hF 2 rfl (by decide)
      have w1 : ρ2 5 = ρ2 4 + Int32.ofNat 4294967295 - ρ2 3 := w1
      rw [em, zyOd (by omega), a3, zyOs (by omega)] at w1
      obtain ⟨n1, u1, u2, u3⟩ := zyXe hF 3 rfl
      have u1 : ρ2 3 = Int32.ofNat n1 := u1
      have u3 : zyEl (zymr r c) B H 82 n1 = some (.int (ρ2 6)) := u3
      rw [a3] at u1
      have v6 := zyEk u1 (by omega) u2 u3 (zmv_el T1 (i := k) (by omega)).1
      rw [i7 (by decide) k f1] at v6
      have gk : zyrow (zyEl (zymr r c) B s.heap) f k < m := (hpm k f1).1
      have w2 := zyXop hF 4 rfl (by decide)
      have w2 : ρ2 7 = ρ2 4 + Int32.ofNat 4294967295 - ρ2 6 := w2
      rw [em, zyOd (by omega), v6, zyOs (by omega)] at w2
      refine zyCa0 hRu hIH hAt hB hla (ix := 213) (ax := 3632) rfl rfl rfl hmela ⟨rfl, rfl, rfl, rfl⟩ (by decide) [34359738369, 171798691841, 240518168577] rfl (by decide) rfl ⟨4, by decide⟩ [595, 34359738369, 659, 103079215105] rfl rfl rfl rfl ?_ ?_
      · show zyΦla [ρ2 1, ρ2 5, ρ2 7] _
        rw [a1, w1, w2]
        exact ⟨f, _, _, rfl, hf, by omega, by omega⟩
      · intro E3 vo hT3 hΨ
        have hΨ : zyΨla [ρ2 1, ρ2 5, ρ2 7] _ E3 vo := hΨ
        rw [a1, w1, w2, hEE] at hΨ
        obtain ⟨ev, hu⟩ := hΨ
        have hu := hu f (m - 1 - k) (m - 1 - zyrow (zyEl (zymr r c) B s.heap) f k) rfl hf (by omega) (by omega)
        refine ⟨ev, ⟨f, m, k, has, hf, hm, hst, hpm, a1, fun a2 k2 q1 q2 => (hu.2 a2 k2 (fun z => q1 ⟨z.1, by omega, by omega⟩)).trans (i2 a2 k2 q1 q2), fun _ => a3, fun h => absurd (show 4 ≤ 2 from h) (by decide), fun h => absurd (show 4 = 1 from h) (by decide), fun h => absurd (show 4 = 2 from h) (by decide), fun _ j hj => (zmv_eq (hu.2 82 j (fun z => absurd z.1 (by decide)))).trans (i7 (by decide) j hj), fun h => absurd (show 4 = 3 from h) (by decide), fun _ => ⟨f1, fun j hj => ?_⟩⟩, ?_⟩
        · rw [zyrow_up hu (by omega) (by omega) (by omega)]
          by_cases e : j = k
          · rw [if_pos ⟨rfl, by rw [e]⟩, e]
          · rw [if_neg (fun z => e (by omega))]
            exact kv j (by omega)
        · show 0 + 2 * (8 - zyN1 (ρ2 3)) + 4 % 2 < 0 + 2 * (8 - zyN1 (ρ 3)) + 3 % 2
          rw [hg 3 (by decide)]
          omega
    · have hx : x ∈ [zxmi_ex0] := hx
      have hg : ∀ k, k < 4 → ρ2 k = ρ k := hag
      have hI := hInv
      have hI : ∃ f m k : Nat, as = [Int32.ofNat f] ∧ f < 1300 ∧ m ≤ 8 ∧ (zyEl (zymr r c) B s.heap) 74 21 = some (.int (Int32.ofNat m)) ∧ zPm (zyrow (zyEl (zymr r c) B s.heap) f) m ∧ zyImi 4 f m k (zyEl (zymr r c) B s.heap) ρ (zyEl (zymr r c) B H) := hI
      obtain ⟨hF, hB, hM⟩ := hXs
      have hEE : (zyEl (zymr r c) B H2) = (zyEl (zymr r c) B H) := zyfr0 hfr
      have ex := List.mem_singleton.mp hx
      subst ex
      obtain ⟨f, m, k, has, hf, hm, hst, hpm, hI⟩ := hI
      obtain ⟨i1, i2, i3, i4, i5, i6, i7, i8, i9⟩ := hI
      have a1 : ρ2 1 = Int32.ofNat f := (hg 1 (by decide)).trans i1
      have a3 : ρ2 3 = Int32.ofNat k := (hg 3 (by decide)).trans (i3 (by decide))
      have a3' : ρ2 3 + Int32.ofNat 1 = Int32.ofNat (k + 1) := by rw [a3, zyOa]
      obtain ⟨km, kv⟩ := i9 rfl
      refine zyGoB hIH hAt hB ⟨3, by decide⟩ [595, 34359738369, 659, 103079215113] rfl rfl rfl rfl ⟨f, m, k + 1, has, hf, hm, hst, hpm, a1, by rw [hEE]; exact i2, fun _ => a3', fun h => absurd (show 3 ≤ 2 from h) (by decide), fun h => absurd (show 3 = 1 from h) (by decide), fun h => absurd (show 3 = 2 from h) (by decide), fun _ j hj => by rw [hEE]; exact i7 (by decide) j hj, fun _ => ⟨by omega, fun j hj => by rw [hEE]; exact kv j (by omega)⟩, fun h => absurd (show 3 = 4 from h) (by decide)⟩ ?_
      show 0 + 2 * (8 - zyN1 (ρ2 3 + Int32.ofNat 1)) + 3 % 2 < 0 + 2 * (8 - zyN1 (ρ 3)) + 4 % 2
      rw [a3', i3 (by decide), zyN1_of (by omega), zyN1_of (by omega)]
      omega
  · intro as E0 E E2 hT0 hΦ hlen i ρ hT hInv x hx ρ2 N2 B vo hXs hag hfr hT2 hvo
    rcases i with ⟨i, hi⟩
    have hi2 : i = 0 ∨ i = 1 ∨ i = 2 ∨ i = 3 ∨ i = 4 := by omega
    rcases hi2 with rfl | rfl | rfl | rfl | rfl
    · cases hx
    · cases hx
    · cases hx
    · have hx : x ∈ [zxmi_dr0] := hx
      have hg : ∀ k, k < 4 → ρ2 k = ρ k := hag
      have hI := hInv
      have hI : ∃ f m k : Nat, as = [Int32.ofNat f] ∧ f < 1300 ∧ m ≤ 8 ∧ E0 74 21 = some (.int (Int32.ofNat m)) ∧ zPm (zyrow E0 f) m ∧ zyImi 3 f m k E0 ρ E := hI
      obtain ⟨hF, hB, hM⟩ := hXs
      have hEE : E2 = E := zyfr0 hfr
      have ex := List.mem_singleton.mp hx
      subst ex
      obtain ⟨f, m, k, has, hf, hm, hst, hpm, hI⟩ := hI
      obtain ⟨i1, i2, i3, i4, i5, i6, i7, i8, i9⟩ := hI
      have a1 : ρ2 1 = Int32.ofNat f := (hg 1 (by decide)).trans i1
      have a3 : ρ2 3 = Int32.ofNat k := (hg 3 (by decide)).trans (i3 (by decide))
      have hms : E 74 21 = some (.int (Int32.ofNat m)) := (i2 74 21 (fun q => absurd q.1 (by decide)) (by decide)).trans hst
      obtain ⟨n0, w1, w2, w3⟩ := zyXe hF 0 rfl
      have w1 : Int32.ofNat 21 = Int32.ofNat n0 := w1
      have w3 : E 74 n0 = some (.int (ρ2 4)) := w3
      have em : ρ2 4 = Int32.ofNat m := zyEk w1 (by decide) w2 w3 hms
      have f1 := zyX21 hF 1 rfl
      have f1 : ¬ ρ2 3 < ρ2 4 := f1
      obtain ⟨km, kv⟩ := i8 rfl
      rw [a3, em, zyOl (by omega) (by omega)] at f1
      refine ⟨zyvo_0 (show zyvo _ [] vo from hvo), fun f' m' e c1 c2 c3 => ?_⟩
      rw [has] at e
      have e1 := zyOi (by omega) (by omega) (List.cons.inj e).1
      rw [hst] at c3
      have e2 := zyOi (by omega) (by omega) (Value.int.inj (Option.some.inj c3))
      subst e1
      subst e2
      rw [hEE]
      exact ⟨i2, zPm_mi hpm (fun j hj => kv j (by omega))⟩
    · cases hx
end
section
/-! THE SIMPLE BRAIDS: the first goes out -/
def zyΦlo (as : List Int32) (E : zyEm) : Prop := as = [Int32.ofNat 0] ∧ ∃ n : Nat, 1 ≤ n ∧ n ≤ 1299 ∧ E 74 19 = some (.int (Int32.ofNat n))
def zyΨlo (_ : List Int32) (E E2 : zyEm) (vo : Option Value) : Prop := vo = none ∧ ∀ n : Nat, 1 ≤ n → n ≤ 1299 → E 74 19 = some (.int (Int32.ofNat n)) → E2 74 19 = some (.int (Int32.ofNat (n - 1))) ∧ (∀ k, k < 8 * (n - 1) → zfv E2 k = zfv E (k + 8)) ∧ ∀ a2 k2, ¬ a2 = 81 → ¬ (a2 = 74 ∧ k2 = 19) → E2 a2 k2 = E a2 k2
def zyIlo (i n k : Nat) (E0 : zyEm) (ρ : Nat → Int32) (E : zyEm) : Prop := (∀ a2 k2, ¬ a2 = 81 → E a2 k2 = E0 a2 k2) ∧ (1 ≤ i → i ≤ 2 → ρ 2 = Int32.ofNat k) ∧ (i = 0 → E = E0) ∧ (i = 1 → k ≤ 8 * (n - 1) ∧ (∀ j, j < k → zfv E j = zfv E0 (j + 8)) ∧ ∀ j, k ≤ j → zfv E j = zfv E0 j) ∧ (i = 2 → k < 8 * (n - 1) ∧ (∀ j, j ≤ k → zfv E j = zfv E0 (j + 8)) ∧ ∀ j, k < j → zfv E j = zfv E0 j) ∧ (i = 3 → ρ 3 = Int32.ofNat n ∧ ∀ j, j < 8 * (n - 1) → zfv E j = zfv E0 (j + 8))
theorem zfv_eq {E E2 : zyEm} {j : Nat} (h : E2 81 j = E 81 j) : zfv E2 j = zfv E j := by
  unfold zfv
  rw [zyI_eq h]
theorem zylo_run : zyAllP (fun r c => zyrS (zymr r c) zxi234 (234, 0, 0, 0, 0) 2 zplo (fun _ _ => []) zFlo zSlo zXlo zRlo 4) = true := by decide +kernel
theorem zyleavesOut {l : Launch} {r c : Nat} (h1 : 1 ≤ r) (h2 : r ≤ 4) (h3 : 1 ≤ c) (h4 : c ≤ 5) {en : zEn} {me : zMe} (hen : zG zxMeta 234 = some en) (hme : zG zMeth 234 = some me) : zyHc l (zymr r c) en me 2 1 zyΦlo zyΨlo := by
  have een : zG zxMeta 234 = some (zxi234, 2, 3, 11, 234, 0, 0, 0, 0) := rfl
  obtain ⟨me1, hme1, hOK⟩ := zall hen
  rw [hme] at hme1
  cases hme1
  rw [een] at hen
  cases hen
  have hr := zyAllP_iff zylo_run h1 h2 h3 h4
  refine zycutS (mi := zymr r c) hOK rfl rfl ⟨_, rfl, rfl⟩ (ι := Fin 4) (fun i => zplo i.val) (fun _ _ => []) (fun i => zFlo i.val) (fun i => zSlo i.val) (fun i => zXlo i.val) (fun i => zRlo i.val) (fun i y2 ct en2 me2 h => by cases h) 200000 (fun i => zyAll_iff hr i.val i.isLt) ⟨0, by decide⟩ ⟨rfl, rfl, rfl, rfl⟩ ⟨by decide, by decide⟩
    (fun i as E0 ρ E => ∃ n k : Nat, 1 ≤ n ∧ n ≤ 1299 ∧ E0 74 19 = some (.int (Int32.ofNat n)) ∧ zyIlo i.val n k E0 ρ E) (fun i as E0 ρ E => if i.val = 0 then 50000 else if i.val = 3 then 0 else 2 * (10400 - zyN1 (ρ 2)) + (4 - i.val)) ?_ ?_ ?_
  · intro as E hlen hT hΦ
    obtain ⟨rfl, n, b1, b2, b3⟩ := hΦ
    refine ⟨zEnv_c (zyfull _) (zEnv_c (by decide) (zEnv_c (zyfull _) zEnv_nil)), n, 0, b1, b2, b3, fun _ _ _ => rfl, fun h => absurd (show 1 ≤ 0 from h) (by decide), fun _ => rfl, fun h => absurd (show 0 = 1 from h) (by decide), fun h => absurd (show 0 = 2 from h) (by decide), fun h => absurd (show 0 = 3 from h) (by decide)⟩
  · intro as B s Wg hRu hT0 hΦ hlen i ρ H hT hInv hIH x hx ρ2 N2 H2 locs lsB stA hAt hXs hag hfr hT2
    rcases i with ⟨i, hi⟩
    have hi2 : i = 0 ∨ i = 1 ∨ i = 2 ∨ i = 3 := by omega
    rcases hi2 with rfl | rfl | rfl | rfl
    · have hx : x ∈ [zxlo_ax0] := hx
      have hg : ∀ k, k < 3 → ρ2 k = ρ k := hag
      have hI := hInv
      have hI : ∃ n k : Nat, 1 ≤ n ∧ n ≤ 1299 ∧ (zyEl (zymr r c) B s.heap) 74 19 = some (.int (Int32.ofNat n)) ∧ zyIlo 0 n k (zyEl (zymr r c) B s.heap) ρ (zyEl (zymr r c) B H) := hI
      obtain ⟨hF, hB, hM⟩ := hXs
      have hEE : (zyEl (zymr r c) B H2) = (zyEl (zymr r c) B H) := zyfr0 hfr
      have ex := List.mem_singleton.mp hx
      subst ex
      obtain ⟨n, k, n1, n2, hst, i1, i2, i3, i4, i5, i6⟩ := hI
      have e0 := i3 rfl
      refine zyGoB hIH hAt hB ⟨1, by decide⟩ [595, 0, 0] rfl rfl rfl rfl ⟨n, 0, n1, n2, hst, by rw [hEE]; exact i1, fun _ _ => rfl, fun h => absurd (show 1 = 0 from h) (by decide), fun _ => ⟨Nat.zero_le _, fun j hj => absurd hj (Nat.not_lt_zero j), fun j _ => by rw [hEE, e0]⟩, fun h => absurd (show 1 = 2 from h) (by decide), fun h => absurd (show 1 = 3 from h) (by decide)⟩ ?_
      show 2 * (10400 - zyN1 (Int32.ofNat 0)) + (4 - 1) < 50000
      omega
    · have hx : x ∈ [zxlo_bx0, zxlo_bx1] := hx
      have hg : ∀ k, k < 3 → ρ2 k = ρ k := hag
      have hI := hInv
      have hI : ∃ n k : Nat, 1 ≤ n ∧ n ≤ 1299 ∧ (zyEl (zymr r c) B s.heap) 74 19 = some (.int (Int32.ofNat n)) ∧ zyIlo 1 n k (zyEl (zymr r c) B s.heap) ρ (zyEl (zymr r c) B H) := hI
      obtain ⟨hF, hB, hM⟩ := hXs
      have hEE : (zyEl (zymr r c) B H2) = (zyEl (zymr r c) B H) := zyfr0 hfr
      rcases List.mem_cons.mp hx with ex | hx
      · subst ex
        obtain ⟨n, k, n1, n2, hst, i1, i2, i3, i4, i5, i6⟩ := hI
        have hms : zyEl (zymr r c) B H 74 19 = some (.int (Int32.ofNat n)) := (i1 74 19 (by decide)).trans hst
        have a2 : ρ2 2 = Int32.ofNat k := (hg 2 (by decide)).trans (i2 (by decide) (by decide))
        obtain ⟨n0, w1, w2, w3⟩ := zyXe hF 0 rfl
        have w1 : Int32.ofNat 19 = Int32.ofNat n0 := w1
        have w3 : zyEl (zymr r c) B H 74 n0 = some (.int (ρ2 3)) := w3
        have em : ρ2 3 = Int32.ofNat n := zyEk w1 (by decide) w2 w3 hms
        have u1 := zyXop hF 1 rfl (by decide)
        have u1 : ρ2 4 = Int32.ofNat 8 * (ρ2 3 + Int32.ofNat 4294967295) := u1
        rw [em, zyOd n1, zyOm] at u1
        obtain ⟨km, kv, kw⟩ := i4 rfl
        have f1 := zyX20 hF 2 rfl
        have f1 : ρ2 2 < ρ2 4 := f1
        rw [a2, u1, zyOl (by omega) (by omega)] at f1
        obtain ⟨n3, v1, v2, v3⟩ := zyXe hF 3 rfl
        have v1 : ρ2 2 + Int32.ofNat 8 = Int32.ofNat n3 := v1
        have v3 : zyEl (zymr r c) B H 81 n3 = some (.int (ρ2 5)) := v3
        rw [a2, zyOa] at v1
        have T1 : zyTy (zymr r c) (zyEl (zymr r c) B H) := hT
        obtain ⟨z1, z2⟩ := zfv_el T1 (i := k + 8) (by omega)
        have v5 := zyEk v1 (by omega) v2 v3 z1
        refine zyAsB hRu hIH hAt hB 81 k (20, 10400, [(0, 10399, 73786976312018075706)]) rfl rfl rfl (cv := 171798691841) (cj := 68719476737) rfl (by decide) (by decide) ⟨2, by decide⟩ [595, 0, 68719476737] rfl rfl rfl rfl (show k < 10400 by omega) a2 ?_ ?_
        · intro r0 hr0 _ _
          rw [List.mem_singleton.mp hr0]
          refine ⟨rfl, ?_⟩
          show 2147483648 ≤ zB (ρ2 5) ∧ zB (ρ2 5) ≤ 2147483655
          rw [v5, zyBn (by omega)]
          omega
        · intro E3 hT3 e1 e2
          have e1 : E3 81 k = some (.int (ρ2 5)) := e1
          rw [hEE] at e2
          refine ⟨⟨n, k, n1, n2, hst, fun a2 k2 q1 => (e2 a2 k2 (fun z => q1 z.1)).trans (i1 a2 k2 q1), fun _ _ => a2, fun h => absurd (show 2 = 0 from h) (by decide), fun h => absurd (show 2 = 1 from h) (by decide), fun _ => ⟨f1, fun j hj => ?_, fun j hj => ?_⟩, fun h => absurd (show 2 = 3 from h) (by decide)⟩, ?_⟩
          · by_cases e : j = k
            · subst e
              have : zfv E3 j = zfv (zyEl (zymr r c) B H) (j + 8) := by
                unfold zfv zyI at *
                rw [e1, v5]
                exact zyN1_of (by omega)
              rw [this]
              exact kw _ (by omega)
            · rw [zfv_eq (e2 81 j (fun z => e z.2))]
              exact kv j (by omega)
          · rw [zfv_eq (e2 81 j (fun z => absurd z.2 (by omega)))]
            exact kw j (by omega)
          · show 2 * (10400 - zyN1 (ρ2 2)) + (4 - 2) < 2 * (10400 - zyN1 (ρ 2)) + (4 - 1)
            rw [hg 2 (by decide)]
            omega
      · skip
        have ex := List.mem_singleton.mp hx
        subst ex
        obtain ⟨n, k, n1, n2, hst, i1, i2, i3, i4, i5, i6⟩ := hI
        have hms : zyEl (zymr r c) B H 74 19 = some (.int (Int32.ofNat n)) := (i1 74 19 (by decide)).trans hst
        have a2 : ρ2 2 = Int32.ofNat k := (hg 2 (by decide)).trans (i2 (by decide) (by decide))
        obtain ⟨n0, w1, w2, w3⟩ := zyXe hF 0 rfl
        have w1 : Int32.ofNat 19 = Int32.ofNat n0 := w1
        have w3 : zyEl (zymr r c) B H 74 n0 = some (.int (ρ2 3)) := w3
        have em : ρ2 3 = Int32.ofNat n := zyEk w1 (by decide) w2 w3 hms
        have u1 := zyXop hF 1 rfl (by decide)
        have u1 : ρ2 4 = Int32.ofNat 8 * (ρ2 3 + Int32.ofNat 4294967295) := u1
        rw [em, zyOd n1, zyOm] at u1
        obtain ⟨km, kv, kw⟩ := i4 rfl
        have f1 := zyX21 hF 2 rfl
        have f1 : ¬ ρ2 2 < ρ2 4 := f1
        rw [a2, u1, zyOl (by omega) (by omega)] at f1
        refine zyGoK1 hIH hAt ⟨3, by decide⟩ [595, 0, 0, 103079215105] rfl rfl (74 * 16384 + 19) 3 zymr74 rfl rfl (show 19 < 49 by decide) (show 3 < 4 by decide) ?_ (zEnv_c (zyfull _) (zEnv_c (zyfull _) (zEnv_c (zyfull _) (zEnv_c ?_ zEnv_nil)))) ⟨n, k, n1, n2, hst, by rw [hEE]; exact i1, fun _ h => absurd (show 3 ≤ 2 from h) (by decide), fun h => absurd (show 3 = 0 from h) (by decide), fun h => absurd (show 3 = 1 from h) (by decide), fun h => absurd (show 3 = 2 from h) (by decide), fun _ => ⟨em, fun j hj => by rw [hEE]; exact kv j (by omega)⟩⟩ ?_
        · show zyEl (zymr r c) B H2 74 19 = some (.int (ρ2 3))
          rw [hEE, em]
          exact hms
        · show 2147483649 ≤ zB (ρ2 3) ∧ zB (ρ2 3) ≤ 2147484947
          rw [em, zyBn (by omega)]
          omega
        · show 0 < 2 * (10400 - zyN1 (ρ 2)) + (4 - 1)
          omega
    · have hx : x ∈ [zxlo_cx0] := hx
      have hg : ∀ k, k < 3 → ρ2 k = ρ k := hag
      have hI := hInv
      have hI : ∃ n k : Nat, 1 ≤ n ∧ n ≤ 1299 ∧ (zyEl (zymr r c) B s.heap) 74 19 = some (.int (Int32.ofNat n)) ∧ zyIlo 2 n k (zyEl (zymr r c) B s.heap) ρ (zyEl (zymr r c) B H) := hI
      obtain ⟨hF, hB, hM⟩ := hXs
      have hEE : (zyEl (zymr r c) B H2) = (zyEl (zymr r c) B H) := zyfr0 hfr
      have ex := List.mem_singleton.mp hx
      subst ex
      obtain ⟨n, k, n1, n2, hst, i1, i2, i3, i4, i5, i6⟩ := hI
      have a2 : ρ2 2 = Int32.ofNat k := (hg 2 (by decide)).trans (i2 (by decide) (by decide))
      have a2' : ρ2 2 + Int32.ofNat 1 = Int32.ofNat (k + 1) := by rw [a2, zyOa]
      obtain ⟨km, kv, kw⟩ := i5 rfl
      refine zyGoB hIH hAt hB ⟨1, by decide⟩ [595, 0, 68719476745] rfl rfl rfl rfl ⟨n, k + 1, n1, n2, hst, by rw [hEE]; exact i1, fun _ _ => a2', fun h => absurd (show 1 = 0 from h) (by decide), fun _ => ⟨by omega, fun j hj => by rw [hEE]; exact kv j (by omega), fun j hj => by rw [hEE]; exact kw j (by omega)⟩, fun h => absurd (show 1 = 2 from h) (by decide), fun h => absurd (show 1 = 3 from h) (by decide)⟩ ?_
      show 2 * (10400 - zyN1 (ρ2 2 + Int32.ofNat 1)) + (4 - 1) < 2 * (10400 - zyN1 (ρ 2)) + (4 - 2)
      rw [a2', i2 (by decide) (by decide), zyN1_of (by omega), zyN1_of (by omega)]
      omega
    · cases hx
  · intro as E0 E E2 hT0 hΦ hlen i ρ hT hInv x hx ρ2 N2 B vo hXs hag hfr hT2 hvo
    rcases i with ⟨i, hi⟩
    have hi2 : i = 0 ∨ i = 1 ∨ i = 2 ∨ i = 3 := by omega
    rcases hi2 with rfl | rfl | rfl | rfl
    · cases hx
    · cases hx
    · cases hx
    · have hx : x ∈ [zxlo_dr0] := hx
      have hg : ∀ k, k < 4 → ρ2 k = ρ k := hag
      have hI := hInv
      have hI : ∃ n k : Nat, 1 ≤ n ∧ n ≤ 1299 ∧ E0 74 19 = some (.int (Int32.ofNat n)) ∧ zyIlo 3 n k E0 ρ E := hI
      obtain ⟨hF, hB, hM⟩ := hXs
      have hfr : ∀ a k, zyin [(74, 19, 19)] a k = false → E2 a k = E a k := hfr
      have ex := List.mem_singleton.mp hx
      subst ex
      obtain ⟨n, k, n1, n2, hst, i1, i2, i3, i4, i5, i6⟩ := hI
      obtain ⟨j1, j2⟩ := i6 rfl
      have a3 : ρ2 3 = Int32.ofNat n := (hg 3 (by decide)).trans j1
      have m1 := zyXm hM 0 rfl
      have m1 : E2 74 19 = some (.int (ρ2 3 + Int32.ofNat 4294967295)) := m1
      rw [a3, zyOd n1] at m1
      have hk : ∀ a2 k2, ¬ (a2 = 74 ∧ k2 = 19) → E2 a2 k2 = E a2 k2 := by
        intro a2 k2 q
        apply hfr
        cases hq : zyin [(74, 19, 19)] a2 k2 with
        | false => rfl
        | true =>
          obtain ⟨p0, g1, g2, g3, g4⟩ := zyin_iff.mp hq
          rw [List.mem_singleton.mp g1] at g2 g3 g4
          exact absurd ⟨g2.symm, by dsimp only at g3 g4; omega⟩ q
      refine ⟨zyvo_0 (show zyvo _ [] vo from hvo), fun n' c1 c2 c3 => ?_⟩
      rw [hst] at c3
      have e2 := zyOi (by omega) (by omega) (Value.int.inj (Option.some.inj c3))
      subst e2
      refine ⟨m1, fun k hk2 => ?_, fun a2 k2 q1 q2 => (hk a2 k2 q2).trans (i1 a2 k2 q1)⟩
      rw [zfv_eq (hk 81 k (fun z => absurd z.1 (by decide)))]
      exact j2 k hk2
end
section
/-! phases: settles, joins (printed by yex4.py) -/
noncomputable def zxse_ax0 : zyXp := (7, [595, 103079215089], [], [(24, 68719476737, 74, 152)], [(68719476737, 2147483648, 2147484947), (103079215089, 2147483646, 2147484945)], [])
noncomputable def zpse_a : zyPh := (0, [595, 13], [(0, 4294967295), (0, 4294967295)], [], [])
noncomputable def zxse_bx0 : zyXp := (25, [595, 13], [], [(20, 0, 34359738369, 0)], [(34359738369, 2147483646, 2147483647)], [])
noncomputable def zxse_bx1 : zyXp := (13, [595, 34359738369], [34359738369, 595], [(21, 0, 34359738369, 0)], [(34359738369, 2147483648, 2147484945)], [])
noncomputable def zpse_b : zyPh := (7, [595, 34359738369], [(0, 4294967295), (2147483646, 2147484945)], [], [])
noncomputable def zxse_cx0 : zyXp := (7, [595, 68719476729], [], [(23, 0, 68719476737, 0)], [(34359738369, 2147483648, 2147484945), (68719476737, 2147483649, 2147483649), (68719476729, 2147483647, 2147484944)], [])
noncomputable def zxse_cx1 : zyXp := (25, [595, 13], [], [(22, 0, 68719476737, 0)], [(68719476737, 2147483648, 2147483648)], [])
noncomputable def zpse_c : zyPh := (16, [595, 34359738369], [(0, 4294967295), (2147483648, 2147484945), (2147483648, 2147483649)], [], [68719476737])
noncomputable def zxse_dx0 : zyXp := (39, [595, 13], [103079215097, 595], [(24, 68719476737, 74, 152), (20, 0, 0, 68719476737)], [(68719476737, 2147483649, 2147484947), (103079215097, 2147483648, 2147484946)], [])
noncomputable def zxse_dx1 : zyXp := (58, [595, 13], [], [(24, 68719476737, 74, 152), (21, 0, 0, 68719476737)], [(68719476737, 2147483648, 2147483648)], [])
noncomputable def zpse_d : zyPh := (25, [595, 13], [(0, 4294967295), (0, 4294967295)], [], [])
noncomputable def zxse_ex0 : zyXp := (45, [595, 13], [], [(23, 0, 68719476737, 0)], [(68719476737, 2147483649, 2147483649)], [])
noncomputable def zxse_ex1 : zyXp := (58, [595, 13], [], [(22, 0, 68719476737, 0)], [(68719476737, 2147483648, 2147483648)], [])
noncomputable def zpse_e : zyPh := (42, [595, 13], [(0, 4294967295), (0, 4294967295), (2147483648, 2147483649)], [], [68719476737])
noncomputable def zxse_fx0 : zyXp := (25, [595, 13], [], [], [], [(1212435, 103079215097)])
noncomputable def zpse_f : zyPh := (45, [595, 13], [(0, 4294967295), (0, 4294967295), (2147483649, 2147484947)], [(1212435, 68719476737)], [])
noncomputable def zxse_gx0 : zyXp := (67, [595, 13], [0, 595], [(24, 68719476737, 74, 152), (20, 0, 0, 68719476737)], [(68719476737, 2147483649, 2147484947)], [])
noncomputable def zxse_gr0 : zyXp := (0, [], [], [(24, 68719476737, 74, 152), (21, 0, 0, 68719476737)], [(68719476737, 2147483648, 2147483648)], [])
noncomputable def zpse_g : zyPh := (58, [595, 13], [(0, 4294967295), (0, 4294967295)], [], [])
noncomputable def zxse_hx0 : zyXp := (75, [595, 13], [0, 595], [(23, 0, 68719476737, 0)], [(68719476737, 2147483649, 2147483649)], [])
noncomputable def zxse_hr0 : zyXp := (0, [], [], [(22, 0, 68719476737, 0)], [(68719476737, 2147483648, 2147483648)], [])
noncomputable def zpse_h : zyPh := (70, [595, 13], [(0, 4294967295), (0, 4294967295), (2147483648, 2147483649)], [], [68719476737])
noncomputable def zxse_ix0 : zyXp := (58, [595, 13], [], [], [], [])
noncomputable def zpse_i : zyPh := (78, [595, 13], [(0, 4294967295), (0, 4294967295)], [], [])
noncomputable def zpse (i : Nat) : zyPh := zif (Nat.beq i 0) (zpse_a) (zif (Nat.beq i 1) (zpse_b) (zif (Nat.beq i 2) (zpse_c) (zif (Nat.beq i 3) (zpse_d) (zif (Nat.beq i 4) (zpse_e) (zif (Nat.beq i 5) (zpse_f) (zif (Nat.beq i 6) (zpse_g) (zif (Nat.beq i 7) (zpse_h) (zpse_i))))))))
noncomputable def zXse (i : Nat) : List zyXp := zif (Nat.beq i 0) ([zxse_ax0]) (zif (Nat.beq i 1) ([zxse_bx0, zxse_bx1]) (zif (Nat.beq i 2) ([zxse_cx0, zxse_cx1]) (zif (Nat.beq i 3) ([zxse_dx0, zxse_dx1]) (zif (Nat.beq i 4) ([zxse_ex0, zxse_ex1]) (zif (Nat.beq i 5) ([zxse_fx0]) (zif (Nat.beq i 6) ([zxse_gx0]) (zif (Nat.beq i 7) ([zxse_hx0]) ([zxse_ix0]))))))))
noncomputable def zRse (i : Nat) : List zyXp := zif (Nat.beq i 0) ([]) (zif (Nat.beq i 1) ([]) (zif (Nat.beq i 2) ([]) (zif (Nat.beq i 3) ([]) (zif (Nat.beq i 4) ([]) (zif (Nat.beq i 5) ([]) (zif (Nat.beq i 6) ([zxse_gr0]) (zif (Nat.beq i 7) ([zxse_hr0]) ([]))))))))
noncomputable def zFse (i : Nat) : zyR := zif (Nat.beq i 0) ([]) (zif (Nat.beq i 1) ([]) (zif (Nat.beq i 2) ([]) (zif (Nat.beq i 3) ([]) (zif (Nat.beq i 4) ([]) (zif (Nat.beq i 5) ([(74, 19, 19)]) (zif (Nat.beq i 6) ([]) (zif (Nat.beq i 7) ([]) ([(74, 20, 20)]))))))))
noncomputable def zSse (i : Nat) : Nat := zif (Nat.beq i 0) (0) (zif (Nat.beq i 1) (0) (zif (Nat.beq i 2) (0) (zif (Nat.beq i 3) (0) (zif (Nat.beq i 4) (0) (zif (Nat.beq i 5) (0) (zif (Nat.beq i 6) (0) (zif (Nat.beq i 7) (0) (0))))))))
noncomputable def zxjo_ax0 : zyXp := (20, [595, 34359738369, 206158430201, 0, 13], [], [(20, 0, 34359738369, 0), (2, 171798691841, 0, 34359738369), (20, 0, 34359738369, 0)], [(34359738369, 2147483641, 2147483647), (171798691841, 2147483649, 2147483655), (206158430201, 2147483648, 2147483654)], [])
noncomputable def zxjo_ax1 : zyXp := (51, [595, 34359738369, 68719476729, 0, 13], [], [(21, 0, 34359738369, 0), (21, 0, 34359738369, 0)], [(34359738369, 2147483648, 2147483655), (68719476729, 2147483647, 2147483654)], [])
noncomputable def zpjo_a : zyPh := (0, [595, 34359738369, 13, 13, 13], [(0, 4294967295), (2147483641, 2147483655), (0, 4294967295), (0, 4294967295), (0, 4294967295)], [], [])
noncomputable def zxjo_bx0 : zyXp := (30, [595, 34359738369, 68719476737, 103079215105, 13], [103079215105, 595], [(24, 171798691841, 74, 152), (20, 0, 103079215105, 171798691841)], [(34359738369, 2147483641, 2147483655), (68719476737, 2147483648, 2147483654), (103079215105, 2147483648, 2147484946), (171798691841, 2147483649, 2147484947)], [])
noncomputable def zxjo_bx1 : zyXp := (39, [595, 34359738369, 68719476737, 13, 13], [], [(24, 171798691841, 74, 152), (21, 0, 103079215105, 171798691841)], [(34359738369, 2147483641, 2147483655), (68719476737, 2147483648, 2147483654), (103079215105, 2147483648, 2147484947), (171798691841, 2147483648, 2147484947)], [])
noncomputable def zpjo_b : zyPh := (20, [595, 34359738369, 68719476737, 103079215105, 13], [(0, 4294967295), (2147483641, 2147483655), (2147483648, 2147483654), (2147483648, 2147484947), (0, 4294967295)], [], [])
noncomputable def zxjo_cx0 : zyXp := (20, [595, 34359738369, 68719476737, 103079215113, 13], [], [], [(34359738369, 2147483641, 2147483655), (68719476737, 2147483648, 2147483654), (103079215105, 2147483648, 2147484946), (103079215113, 2147483649, 2147484947)], [])
noncomputable def zpjo_c : zyPh := (33, [595, 34359738369, 68719476737, 103079215105, 13], [(0, 4294967295), (2147483641, 2147483655), (2147483648, 2147483654), (2147483648, 2147484946), (0, 4294967295)], [], [])
noncomputable def zxjo_dx0 : zyXp := (51, [595, 34359738369, 68719476737, 0, 13], [], [], [(34359738369, 2147483641, 2147483655), (68719476737, 2147483648, 2147483654)], [])
noncomputable def zpjo_d : zyPh := (39, [595, 34359738369, 68719476737, 13, 13], [(0, 4294967295), (2147483641, 2147483655), (2147483648, 2147483654), (0, 4294967295), (0, 4294967295)], [], [])
noncomputable def zxjo_ex0 : zyXp := (81, [595, 34359738369, 68719476737, 103079215105, 13], [103079215105, 103079215105, 206158430209, 595], [(24, 171798691841, 74, 168), (20, 0, 103079215105, 171798691841), (24, 206158430209, 74, 152), (20, 0, 0, 34359738369)], [(34359738369, 2147483649, 2147483655), (68719476737, 2147483648, 2147483654), (103079215105, 2147483648, 2147483655), (171798691841, 2147483649, 2147483656), (206158430209, 2147483648, 2147484947)], [])
noncomputable def zxjo_ex1 : zyXp := (81, [595, 34359738369, 68719476737, 103079215105, 13], [240518168577, 103079215105, 206158430209, 595], [(24, 171798691841, 74, 168), (20, 0, 103079215105, 171798691841), (24, 206158430209, 74, 152), (21, 0, 0, 34359738369), (2, 240518168577, 206158430201, 103079215105)], [(34359738369, 2147483641, 2147483648), (68719476737, 2147483648, 2147483654), (103079215105, 2147483648, 2147483655), (171798691841, 2147483649, 2147483656), (206158430209, 2147483648, 2147484947), (240518168577, 2147483641, 2147483655)], [])
noncomputable def zxjo_ex2 : zyXp := (103, [595, 34359738369, 68719476737, 13, 13], [68719476745, 68719476737, 206158430209, 595], [(24, 171798691841, 74, 168), (21, 0, 103079215105, 171798691841), (20, 0, 0, 34359738369), (24, 206158430209, 74, 152)], [(34359738369, 2147483649, 2147483655), (68719476737, 2147483648, 2147483654), (103079215105, 2147483648, 2147483656), (171798691841, 2147483648, 2147483656), (206158430209, 2147483648, 2147484947), (68719476745, 2147483649, 2147483655)], [])
noncomputable def zxjo_ex3 : zyXp := (127, [595, 34359738369, 68719476737, 13, 13], [68719476737, 206158430209, 595], [(24, 171798691841, 74, 168), (21, 0, 103079215105, 171798691841), (21, 0, 0, 34359738369), (24, 206158430209, 74, 152)], [(34359738369, 2147483641, 2147483648), (68719476737, 2147483648, 2147483654), (103079215105, 2147483648, 2147483656), (171798691841, 2147483648, 2147483656), (206158430209, 2147483648, 2147484947)], [])
noncomputable def zpjo_e : zyPh := (51, [595, 34359738369, 68719476737, 103079215105, 13], [(0, 4294967295), (2147483641, 2147483655), (2147483648, 2147483654), (2147483648, 2147483656), (0, 4294967295)], [], [])
noncomputable def zxjo_fx0 : zyXp := (51, [595, 34359738369, 68719476737, 103079215113, 13], [], [], [(34359738369, 2147483641, 2147483655), (68719476737, 2147483648, 2147483654), (103079215105, 2147483648, 2147483655), (103079215113, 2147483649, 2147483656)], [])
noncomputable def zpjo_f : zyPh := (84, [595, 34359738369, 68719476737, 103079215105, 13], [(0, 4294967295), (2147483641, 2147483655), (2147483648, 2147483654), (2147483648, 2147483655), (0, 4294967295)], [], [])
noncomputable def zxjo_gx0 : zyXp := (115, [595, 34359738369, 68719476737, 13, 13], [68719476737, 68719476745, 171798691841, 595], [(24, 171798691841, 74, 152)], [(34359738369, 2147483641, 2147483655), (68719476737, 2147483648, 2147483654), (171798691841, 2147483648, 2147484947), (68719476745, 2147483649, 2147483655)], [])
noncomputable def zpjo_g : zyPh := (106, [595, 34359738369, 68719476737, 13, 13], [(0, 4294967295), (2147483641, 2147483655), (2147483648, 2147483654), (0, 4294967295), (0, 4294967295)], [], [])
noncomputable def zxjo_hx0 : zyXp := (167, [595, 13, 13, 13, 13], [], [], [], [])
noncomputable def zpjo_h : zyPh := (118, [595, 34359738369, 68719476737, 13, 13], [(0, 4294967295), (2147483641, 2147483655), (2147483648, 2147483654), (0, 4294967295), (0, 4294967295)], [], [])
noncomputable def zxjo_ix0 : zyXp := (139, [595, 34359738369, 68719476737, 171798691841, 13], [68719476745, 206158430209, 595], [(24, 206158430209, 74, 152)], [(34359738369, 2147483641, 2147483655), (68719476737, 2147483648, 2147483654), (171798691841, 2147483648, 2147483655), (206158430209, 2147483648, 2147484947), (68719476745, 2147483649, 2147483655)], [])
noncomputable def zpjo_i : zyPh := (130, [595, 34359738369, 68719476737, 13, 13], [(0, 4294967295), (2147483641, 2147483655), (2147483648, 2147483654), (0, 4294967295), (0, 4294967295), (2147483648, 2147483655)], [], [171798691841])
noncomputable def zxjo_jx0 : zyXp := (153, [595, 34359738369, 68719476737, 103079215105, 171798691841], [68719476745, 103079215105, 206158430209, 595], [(24, 206158430209, 74, 152)], [(34359738369, 2147483641, 2147483655), (68719476737, 2147483648, 2147483654), (103079215105, 2147483648, 2147483655), (171798691841, 2147483648, 2147483655), (206158430209, 2147483648, 2147484947), (68719476745, 2147483649, 2147483655)], [])
noncomputable def zpjo_j : zyPh := (142, [595, 34359738369, 68719476737, 103079215105, 13], [(0, 4294967295), (2147483641, 2147483655), (2147483648, 2147483654), (2147483648, 2147483655), (0, 4294967295), (2147483648, 2147483655)], [], [171798691841])
noncomputable def zxjo_kx0 : zyXp := (164, [595, 34359738369, 68719476737, 103079215105, 137438953473], [68719476737, 137438953473, 171798691841, 595], [(24, 171798691841, 74, 152)], [(34359738369, 2147483641, 2147483655), (68719476737, 2147483648, 2147483654), (103079215105, 2147483648, 2147483655), (137438953473, 2147483648, 2147483655), (171798691841, 2147483648, 2147484947)], [])
noncomputable def zpjo_k : zyPh := (156, [595, 34359738369, 68719476737, 103079215105, 137438953473], [(0, 4294967295), (2147483641, 2147483655), (2147483648, 2147483654), (2147483648, 2147483655), (2147483648, 2147483655)], [], [])
noncomputable def zxjo_lx0 : zyXp := (178, [595, 13, 13, 13, 13], [595], [], [], [(1212435, 171798691849)])
noncomputable def zpjo_l : zyPh := (167, [595, 13, 13, 13, 13], [(0, 4294967295), (0, 4294967295), (0, 4294967295), (0, 4294967295), (0, 4294967295), (2147483648, 2147484946)], [(1212435, 171798691841)], [])
noncomputable def zxjo_mr0 : zyXp := (0, [], [], [], [], [])
noncomputable def zpjo_m : zyPh := (181, [595, 13, 13, 13, 13], [(0, 4294967295), (0, 4294967295), (0, 4294967295), (0, 4294967295), (0, 4294967295)], [], [])
noncomputable def zpjo (i : Nat) : zyPh := zif (Nat.beq i 0) (zpjo_a) (zif (Nat.beq i 1) (zpjo_b) (zif (Nat.beq i 2) (zpjo_c) (zif (Nat.beq i 3) (zpjo_d) (zif (Nat.beq i 4) (zpjo_e) (zif (Nat.beq i 5) (zpjo_f) (zif (Nat.beq i 6) (zpjo_g) (zif (Nat.beq i 7) (zpjo_h) (zif (Nat.beq i 8) (zpjo_i) (zif (Nat.beq i 9) (zpjo_j) (zif (Nat.beq i 10) (zpjo_k) (zif (Nat.beq i 11) (zpjo_l) (zpjo_m))))))))))))
noncomputable def zXjo (i : Nat) : List zyXp := zif (Nat.beq i 0) ([zxjo_ax0, zxjo_ax1]) (zif (Nat.beq i 1) ([zxjo_bx0, zxjo_bx1]) (zif (Nat.beq i 2) ([zxjo_cx0]) (zif (Nat.beq i 3) ([zxjo_dx0]) (zif (Nat.beq i 4) ([zxjo_ex0, zxjo_ex1, zxjo_ex2, zxjo_ex3]) (zif (Nat.beq i 5) ([zxjo_fx0]) (zif (Nat.beq i 6) ([zxjo_gx0]) (zif (Nat.beq i 7) ([zxjo_hx0]) (zif (Nat.beq i 8) ([zxjo_ix0]) (zif (Nat.beq i 9) ([zxjo_jx0]) (zif (Nat.beq i 10) ([zxjo_kx0]) (zif (Nat.beq i 11) ([zxjo_lx0]) ([]))))))))))))
noncomputable def zRjo (i : Nat) : List zyXp := zif (Nat.beq i 0) ([]) (zif (Nat.beq i 1) ([]) (zif (Nat.beq i 2) ([]) (zif (Nat.beq i 3) ([]) (zif (Nat.beq i 4) ([]) (zif (Nat.beq i 5) ([]) (zif (Nat.beq i 6) ([]) (zif (Nat.beq i 7) ([]) (zif (Nat.beq i 8) ([]) (zif (Nat.beq i 9) ([]) (zif (Nat.beq i 10) ([]) (zif (Nat.beq i 11) ([]) ([zxjo_mr0]))))))))))))
noncomputable def zFjo (i : Nat) : zyR := zif (Nat.beq i 0) ([]) (zif (Nat.beq i 1) ([]) (zif (Nat.beq i 2) ([]) (zif (Nat.beq i 3) ([(74, 20, 20)]) (zif (Nat.beq i 4) ([]) (zif (Nat.beq i 5) ([]) (zif (Nat.beq i 6) ([]) (zif (Nat.beq i 7) ([]) (zif (Nat.beq i 8) ([]) (zif (Nat.beq i 9) ([]) (zif (Nat.beq i 10) ([]) (zif (Nat.beq i 11) ([(74, 19, 19)]) ([]))))))))))))
noncomputable def zSjo (i : Nat) : Nat := zif (Nat.beq i 0) (0) (zif (Nat.beq i 1) (0) (zif (Nat.beq i 2) (0) (zif (Nat.beq i 3) (0) (zif (Nat.beq i 4) (0) (zif (Nat.beq i 5) (0) (zif (Nat.beq i 6) (0) (zif (Nat.beq i 7) (0) (zif (Nat.beq i 8) (0) (zif (Nat.beq i 9) (0) (zif (Nat.beq i 10) (0) (zif (Nat.beq i 11) (0) (0))))))))))))
end
