/-! THE SIMPLE BRAIDS: can one end so -/
/-- a symbol more -/
def zyρi (ρ : Nat → Int32) (k0 : Nat) (z : Int32) : Nat → Int32 := fun j => if j = k0 then z else ρ j
theorem zyρi_e {ρ : Nat → Int32} {k0 : Nat} {z : Int32} : zyρi ρ k0 z k0 = z := if_pos rfl
theorem zyρi_n {ρ : Nat → Int32} {k0 j : Nat} {z : Int32} (h : ¬ j = k0) : zyρi ρ k0 z j = ρ j := if_neg h
theorem zEnv_i {ρ : Nat → Int32} {env : List (Nat × Nat)} {p : Nat × Nat} {k0 : Nat} {z : Int32} (hk : k0 = env.length) (h : zEnv ρ env) (hz : p.1 ≤ zB z ∧ zB z ≤ p.2) : zEnv (zyρi ρ k0 z) (env ++ [p]) := by
  intro k q hq
  by_cases e : k = k0
  · rw [e, hk, List.getElem?_append_right (Nat.le_refl _), Nat.sub_self] at hq
    have hq : some p = some q := hq
    cases hq
    rw [e, zyρi_e]
    exact hz
  · have hl : k < (env ++ [p]).length := (List.getElem?_eq_some_iff.mp hq).1
    rw [List.length_append, List.length_singleton] at hl
    rw [List.getElem?_append_left (by omega)] at hq
    rw [zyρi_n e]
    exact h k q hq
theorem zySt_sc {B : zCx} {ρ : Nat → Int32} {N k : Nat} {z : Int32} {st : List Nat} {vs : List Value} (hk : k < N) (h : ρ k = z) (ht : zySt (zyXn B ρ N) st vs) : zySt (zyXn B ρ N) (zysym k :: st) (.int z :: vs) := ⟨zyv_sym hk h, ht⟩
theorem zySt_s0 {B : zCx} {ρ : Nat → Int32} {N : Nat} : zySt (zyXn B ρ N) [] [] := trivial
def zyΦie (as : List Int32) (E : zyEm) : Prop := ∃ f k : Nat, as = [Int32.ofNat f, Int32.ofNat k] ∧ f < 1300 ∧ k < 7 ∧ (∃ p, p < 8 ∧ zfv E (8 * f + p) = k) ∧ ∃ p, p < 8 ∧ zfv E (8 * f + p) = k + 1
def zyΨie (_ : List Int32) (E E2 : zyEm) (vo : Option Value) : Prop := E2 = E ∧ ∃ z : Int32, vo = some (.int z) ∧ (z = 0 ∨ z = 1)
theorem zyie_run : zyAllP (fun r c => zyrS (zymr r c) zxi230 (230, 0, 0, 2, 0) 3 zpie (fun _ _ => []) zFie zSie zXie zRie 3) = true := by decide +kernel
theorem zyisEnded {l : Launch} {r c : Nat} (h1 : 1 ≤ r) (h2 : r ≤ 4) (h3 : 1 ≤ c) (h4 : c ≤ 5) {en : zEn} {me : zMe} (hen : zG zxMeta 230 = some en) (hme : zG zMeth 230 = some me) : zyHc l (zymr r c) en me 3 2 zyΦie zyΨie := by
  have een : zG zxMeta 230 = some (zxi230, 3, 3, 11, 230, 0, 0, 2, 0) := rfl
  obtain ⟨me1, hme1, hOK⟩ := zall hen
  rw [hme] at hme1
  cases hme1
  rw [een] at hen
  cases hen
  have hr := zyAllP_iff zyie_run h1 h2 h3 h4
  obtain ⟨mecf, hmecf, -⟩ := zall (show zG zxMeta 229 = some (zxi229, 3, 4, 11, 229, 0, 0, 1, 0) from rfl)
  have hcf := zycomesFrom (l := l) h1 h2 h3 h4 (show zG zxMeta 229 = some (zxi229, 3, 4, 11, 229, 0, 0, 1, 0) from rfl) hmecf
  refine zycutS (mi := zymr r c) hOK rfl rfl ⟨_, rfl, rfl⟩ (ι := Fin 3) (fun i => zpie i.val) (fun _ _ => []) (fun i => zFie i.val) (fun i => zSie i.val) (fun i => zXie i.val) (fun i => zRie i.val) (fun i y2 ct en2 me2 h => by cases h) 200000 (fun i => zyAll_iff hr i.val i.isLt) ⟨0, by decide⟩ ⟨rfl, rfl, rfl, rfl⟩ ⟨by decide, by decide⟩
    (fun i as E0 ρ E => E = E0 ∧ (i.val ≤ 1 → as = [ρ 1, ρ 2])) (fun i _ _ _ _ => 2 - i.val) ?_ ?_ ?_
  · intro as E hlen hT hΦ
    obtain ⟨f, k, rfl, b1, b2, b3⟩ := hΦ
    refine ⟨zEnv_c (zyfull _) (zEnv_c ?_ (zEnv_c ?_ zEnv_nil)), rfl, fun _ => rfl⟩
    · show 2147483648 ≤ zB (Int32.ofNat f) ∧ zB (Int32.ofNat f) ≤ 2147484947
      rw [zyBn (by omega)]
      omega
    · show 2147483648 ≤ zB (Int32.ofNat k) ∧ zB (Int32.ofNat k) ≤ 2147483654
      rw [zyBn (by omega)]
      omega
  · intro as B s Wg hRu hT0 hΦ hlen i ρ H hT hInv hIH x hx ρ2 N2 H2 locs lsB stA hAt hXs hag hfr hT2
    obtain ⟨f, k, e, b1, b2, b3, b4⟩ := hΦ
    rcases i with ⟨i, hi⟩
    have hi2 : i = 0 ∨ i = 1 ∨ i = 2 := by omega
    rcases hi2 with rfl | rfl | rfl
    · obtain ⟨hE, has⟩ := hInv
      have has := has (show 0 ≤ 1 by decide)
      rw [has] at e
      obtain ⟨e1, e2⟩ := zyas2' e
      have hx : x ∈ [zxie_ax0] := hx
      have ex := List.mem_singleton.mp hx
      subst ex
      have hEE := zyfr0 hfr
      obtain ⟨hF, hB, -⟩ := hXs
      have hg4 : ∀ k, k < 3 → ρ2 k = ρ k := hag
      have a1 := (hg4 1 (by decide)).trans e1
      have a2 := (hg4 2 (by decide)).trans e2
      refine zyCa hRu hIH hAt (ix := 201) (ax := 3664) rfl rfl rfl hmecf ⟨rfl, rfl, rfl, rfl⟩ hcf (by decide) [34359738369, 68719476737] [] rfl (by decide) ⟨by decide, by decide⟩ rfl ?_ ?_
      · show zyΦcf [ρ2 1, ρ2 2] _
        rw [a1, a2, hEE, hE]
        exact ⟨f, k, rfl, b1, by omega, b3⟩
      · intro H3 vo hT3 hΨ
        have hΨ : zyΨcf [ρ2 1, ρ2 2] _ _ vo := hΨ
        rw [a1, a2] at hΨ
        obtain ⟨q1, q2⟩ := hΨ
        obtain ⟨p, p1, p2, -⟩ := q2 f k rfl b1 (by omega)
        refine ⟨⟨1, by decide⟩, zyρi (fun k => zyw ρ2 (zyag [595, 34359738369, 68719476737] k)) 3 (Int32.ofNat p), [595, 34359738369, 68719476737], rfl, rfl, fun i hi => zyρi_n (by have : i < 3 := hi; omega), zEnv_i (env := [(0, 4294967295), (2147483648, 2147484947), (2147483648, 2147483654)]) (p := (2147483648, 2147483655)) rfl (zEnv_c (zyfull _) (zEnv_c (zyXb hB 0 rfl) (zEnv_c (zyXb hB 1 rfl) zEnv_nil))) ?_, rfl, ?_, ⟨(q1.trans hEE).trans hE, fun _ => ?_⟩, (show 1 < 2 by decide)⟩
        · show 2147483648 ≤ zB (Int32.ofNat p) ∧ zB (Int32.ofNat p) ≤ 2147483655
          rw [zyBn (by omega)]
          omega
        · rw [p2]
          exact zySt_sc (k := 3) (show 3 < 4 by decide) zyρi_e zySt_s0
        · rw [zyρi_n (by decide), zyρi_n (by decide)]
          show as = [ρ2 1, ρ2 2]
          rw [hg4 1 (by decide), hg4 2 (by decide)]
          exact has
    · obtain ⟨hE, has⟩ := hInv
      have has := has (show 1 ≤ 1 by decide)
      rw [has] at e
      obtain ⟨e1, e2⟩ := zyas2' e
      have hx : x ∈ [zxie_bx0] := hx
      have ex := List.mem_singleton.mp hx
      subst ex
      have hEE := zyfr0 hfr
      obtain ⟨hF, hB, -⟩ := hXs
      have hg4 : ∀ k, k < 4 → ρ2 k = ρ k := hag
      have a1 := (hg4 1 (by decide)).trans e1
      have a2 := (hg4 2 (by decide)).trans e2
      have a2' : ρ2 2 + Int32.ofNat 1 = Int32.ofNat (k + 1) := by rw [a2, zyOa]
      refine zyCa hRu hIH hAt (ix := 201) (ax := 3664) rfl rfl rfl hmecf ⟨rfl, rfl, rfl, rfl⟩ hcf (by decide) [34359738369, 68719476745] [103079215105] rfl (by decide) ⟨by decide, by decide⟩ rfl ?_ ?_
      · show zyΦcf [ρ2 1, ρ2 2 + Int32.ofNat 1] _
        rw [a1, a2', hEE, hE]
        exact ⟨f, k + 1, rfl, b1, by omega, b4⟩
      · intro H3 vo hT3 hΨ
        have hΨ : zyΨcf [ρ2 1, ρ2 2 + Int32.ofNat 1] _ _ vo := hΨ
        rw [a1, a2'] at hΨ
        obtain ⟨q1, q2⟩ := hΨ
        obtain ⟨p, p1, p2, -⟩ := q2 f (k + 1) rfl b1 (by omega)
        refine ⟨⟨2, by decide⟩, zyρi (fun k => zyw ρ2 (zyag [595, 34359738369, 68719476737, 103079215105] k)) 4 (Int32.ofNat p), [595, 34359738369, 68719476737, 103079215105], rfl, rfl, fun i hi => zyρi_n (by have : i < 3 := hi; omega), zEnv_i (env := [(0, 4294967295), (0, 4294967295), (0, 4294967295), (2147483648, 2147483655)]) (p := (2147483648, 2147483655)) rfl (zEnv_c (zyfull _) (zEnv_c (zyfull _) (zEnv_c (zyfull _) (zEnv_c (zyXb hB 2 rfl) zEnv_nil)))) ?_, rfl, ?_, ⟨(q1.trans hEE).trans hE, fun h => absurd (show 2 ≤ 1 from h) (by decide)⟩, (show 0 < 1 by decide)⟩
        · show 2147483648 ≤ zB (Int32.ofNat p) ∧ zB (Int32.ofNat p) ≤ 2147483655
          rw [zyBn (by omega)]
          omega
        · rw [p2]
          exact zySt_sc (k := 4) (show 4 < 5 by decide) zyρi_e (zySt_sc (k := 3) (show 3 < 5 by decide) (zyρi_n (by decide)) zySt_s0)
    · cases hx
  · intro as E0 E E2 hT0 hΦ hlen i ρ hT hInv x hx ρ2 N2 B vo hXs hag hfr hT2 hvo
    rcases i with ⟨i, hi⟩
    have hi2 : i = 0 ∨ i = 1 ∨ i = 2 := by omega
    rcases hi2 with rfl | rfl | rfl
    · cases hx
    · cases hx
    have hx : x ∈ [zxie_cr0, zxie_cr1] := hx
    refine ⟨(zyfr0 hfr).trans hInv.1, ?_⟩
    rcases List.mem_cons.mp hx with ex | hx
    · subst ex
      exact ⟨1, zyvo_1 (c := 8) (by decide) (show zyvo (zyXn B ρ2 N2) [8] vo from hvo), Or.inr rfl⟩
    · have ex := List.mem_singleton.mp hx
      subst ex
      exact ⟨0, zyvo_1 (c := 0) (by decide) (show zyvo (zyXn B ρ2 N2) [0] vo from hvo), Or.inl rfl⟩
