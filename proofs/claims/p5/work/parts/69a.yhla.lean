/-! THE SIMPLE BRAIDS: an element is laid -/
noncomputable def zyrS (mi : zyB) (cf : Nat → zT) (yy : zY) (dep : Nat) (φ : Nat → zyPh) (tb : Nat → Nat → List zyCt) (fp : Nat → zyR) (sp : Nat → Nat) (xs rs : Nat → List zyXp) (k : Nat) : Bool := zyAll (fun i => zyok (zybtx mi (rs i)) (mi, tb i, fp i, [], sp i) (zystx mi (xs i)) 200000 (zyln (φ i).2.2.1, (φ i).2.2.1) cf yy (φ i).1 (φ i).2.1 (φ i).2.2.2.2 (dep, 0, 0) [] ((φ i).2.2.2.1, [])) k
theorem zEnv_nil {ρ : Nat → Int32} : zEnv ρ [] := fun k p hp => by simp at hp
theorem zEnv_c {ρ : Nat → Int32} {p : Nat × Nat} {t : List (Nat × Nat)} (h : p.1 ≤ zB (ρ 0) ∧ zB (ρ 0) ≤ p.2) (ht : zEnv (fun k => ρ (k + 1)) t) : zEnv ρ (p :: t) := by
  intro k q hq
  cases k with
  | zero =>
    have hq : some p = some q := hq
    cases hq
    exact h
  | succ k =>
    rw [List.getElem?_cons_succ] at hq
    exact ht k q hq
theorem zyfr0 {E E2 : zyEm} (h : ∀ a k, zyin [] a k = false → E2 a k = E a k) : E2 = E := by
  funext a k
  exact h a k rfl
theorem zyvo_0 {X : zyX} {vo : Option Value} (h : zyvo X [] vo) : vo = none := by
  cases vo with
  | none => rfl
  | some x => exact h.elim
theorem zyvo_1 {B : zCx} {ρ : Nat → Int32} {N c : Nat} {vo : Option Value} (hc : c % 8 ≤ 1) (h : zyvo (zyXn B ρ N) [c] vo) : vo = some (.int (zyw ρ c)) := by
  cases vo with
  | none => exact h.elim
  | some x =>
    have h : zyv ρ N (zad B) c x := h
    obtain ⟨z, rfl⟩ := zyv_int h (by omega)
    rw [zyw_of h hc]
theorem zyOn {x : Int32} (h : 2147483648 ≤ zB x) : x = Int32.ofNat (zyN1 x) ∧ zyN1 x + 2147483648 = zB x := by
  have e := zyN1_lo h
  exact ⟨(zN_self x).symm, by omega⟩
theorem zyBn {n : Nat} (h : n < 2147483648) : zB (Int32.ofNat n) = n + 2147483648 := zB_nI h
theorem zyOi {a b : Nat} (ha : a < 4294967296) (hb : b < 4294967296) (h : Int32.ofNat a = Int32.ofNat b) : a = b := by
  have e := congrArg zyN1 h
  rwa [zyN1_of ha, zyN1_of hb] at e
theorem zyOa (a b : Nat) : Int32.ofNat a + Int32.ofNat b = Int32.ofNat (a + b) := (Int32.ofNat_add a b).symm
theorem zyOm (a b : Nat) : Int32.ofNat a * Int32.ofNat b = Int32.ofNat (a * b) := (Int32.ofNat_mul a b).symm
theorem zyOs {a b : Nat} (h : b ≤ a) : Int32.ofNat a - Int32.ofNat b = Int32.ofNat (a - b) := by
  have e : Int32.ofNat a = Int32.ofNat (a - b) + Int32.ofNat b := by rw [zyOa]; congr 1; omega
  rw [e]
  exact Int32.add_sub_cancel _ _
theorem zyOl {a b : Nat} (ha : a < 2147483648) (hb : b < 2147483648) : Int32.ofNat a < Int32.ofNat b ↔ a < b := by
  have e1 := zyBn ha
  have e2 := zyBn hb
  have e3 := zB_int (Int32.ofNat a)
  have e4 := zB_int (Int32.ofNat b)
  rw [Int32.lt_iff_toInt_lt]
  omega
/-- a place of a simple braid -/
def zfv (E : zyEm) (i : Nat) : Nat := zyN1 (zyI E 81 i)
theorem zfv_el {r c : Nat} {E : zyEm} (hT : zyTy (zymr r c) E) {i : Nat} (hi : i < 10400) : E 81 i = some (.int (Int32.ofNat (zfv E i))) ∧ zfv E i < 8 := by
  obtain ⟨x, h1, h2, h3⟩ := (hT 81 (20, 10400, [(0, 10399, 73786976312018075706)]) i rfl (show i < 10400 from hi) (0, 10399, 73786976312018075706) List.mem_cons_self (Nat.zero_le _) (by dsimp only; omega)).1 rfl
  have h2 : 2147483648 ≤ zB x := h2
  have h3 : zB x ≤ 2147483655 := h3
  have e : zfv E i = zyN1 x := by
    unfold zfv zyI
    rw [h1]
  obtain ⟨q1, q2⟩ := zyOn h2
  rw [e]
  exact ⟨by rw [h1, ← q1], by omega⟩
/-- one place is laid -/
def zyUp (E E2 : zyEm) (i t : Nat) : Prop := E2 81 i = some (.int (Int32.ofNat t)) ∧ ∀ a k, ¬ (a = 81 ∧ k = i) → E2 a k = E a k
theorem zyUp_v {E E2 : zyEm} {i t : Nat} (h : zyUp E E2 i t) (ht : t < 8) (j : Nat) : zfv E2 j = if j = i then t else zfv E j := by
  unfold zfv
  by_cases e : j = i
  · subst e
    rw [if_pos rfl]
    unfold zyI
    rw [h.1]
    exact zyN1_of (by omega)
  · rw [if_neg e, zyI_eq (h.2 81 j (fun q => e q.2))]
def zyΦla (as : List Int32) (_ : zyEm) : Prop := ∃ f p t : Nat, as = [Int32.ofNat f, Int32.ofNat p, Int32.ofNat t] ∧ f < 1300 ∧ p < 8 ∧ t < 8
def zyΨla (as : List Int32) (E E2 : zyEm) (vo : Option Value) : Prop := vo = none ∧ ∀ f p t : Nat, as = [Int32.ofNat f, Int32.ofNat p, Int32.ofNat t] → f < 1300 → p < 8 → t < 8 → zyUp E E2 (8 * f + p) t
theorem zylays_run : zyAllP (fun r c => zyrS (zymr r c) zxi227 (227, 0, 0, 0, 0) 1 zpla (fun _ _ => []) zFla zSla zXla zRla 2) = true := by decide +kernel
theorem zylays {l : Launch} {r c : Nat} (h1 : 1 ≤ r) (h2 : r ≤ 4) (h3 : 1 ≤ c) (h4 : c ≤ 5) {en : zEn} {me : zMe} (hen : zG zxMeta 227 = some en) (hme : zG zMeth 227 = some me) : zyHc l (zymr r c) en me 1 3 zyΦla zyΨla := by
  have een : zG zxMeta 227 = some (zxi227, 4, 4, 11, 227, 0, 0, 0, 0) := rfl
  obtain ⟨me1, hme1, hOK⟩ := zall hen
  rw [hme] at hme1
  cases hme1
  rw [een] at hen
  cases hen
  have hr := zyAllP_iff zylays_run h1 h2 h3 h4
  refine zycutS (mi := zymr r c) hOK rfl rfl ⟨_, rfl, rfl⟩ (ι := Fin 2) (fun i => zpla i.val) (fun _ _ => []) (fun i => zFla i.val) (fun i => zSla i.val) (fun i => zXla i.val) (fun i => zRla i.val) (fun i y2 ct en2 me2 h => by cases h) 200000 (fun i => zyAll_iff hr i.val i.isLt) ⟨0, by decide⟩ ⟨rfl, rfl, rfl, rfl⟩ ⟨by decide, by decide⟩
    (fun i as E0 ρ E => if i.val = 0 then E = E0 ∧ as = [ρ 1, ρ 2, ρ 3] else zyΨla as E0 E none) (fun i _ _ _ _ => 1 - i.val) ?_ ?_ ?_
  · intro as E hlen hT hΦ
    obtain ⟨f, p, t, rfl, b1, b2, b3⟩ := hΦ
    refine ⟨zEnv_c (zyfull _) (zEnv_c ?_ (zEnv_c ?_ (zEnv_c ?_ zEnv_nil))), rfl, rfl⟩
    · show 2147483648 ≤ zB (Int32.ofNat f) ∧ zB (Int32.ofNat f) ≤ 2147484947
      rw [zyBn (by omega)]
      omega
    · show 2147483648 ≤ zB (Int32.ofNat p) ∧ zB (Int32.ofNat p) ≤ 2147483655
      rw [zyBn (by omega)]
      omega
    · show 2147483648 ≤ zB (Int32.ofNat t) ∧ zB (Int32.ofNat t) ≤ 2147483655
      rw [zyBn (by omega)]
      omega
  · intro as B s Wg hRu hT0 hΦ hlen i ρ H hT hInv hIH x hx ρ2 N2 H2 locs lsB stA hAt hXs hag hfr hT2
    rcases i with ⟨i, hi⟩
    have hi2 : i = 0 ∨ i = 1 := by omega
    rcases hi2 with rfl | rfl
    rotate_left
    · cases hx
    have hx : x ∈ [zxla_ax0] := hx
    have ex := List.mem_singleton.mp hx
    subst ex
    obtain ⟨hE, has⟩ := (show zyEl (zymr r c) B H = zyEl (zymr r c) B s.heap ∧ as = [ρ 1, ρ 2, ρ 3] from hInv)
    obtain ⟨f, p, t, e, b1, b2, b3⟩ := hΦ
    rw [has] at e
    obtain ⟨e1, e2, e3⟩ : ρ 1 = Int32.ofNat f ∧ ρ 2 = Int32.ofNat p ∧ ρ 3 = Int32.ofNat t := by
      simp only [List.cons.injEq, and_true] at e
      exact e
    have hEE := zyfr0 hfr
    obtain ⟨hF, hB, -⟩ := hXs
    have f0 : ρ2 4 = Int32.ofNat 8 * ρ2 1 := zyFp_op (by decide) (zyXf hF 0 rfl)
    have f1 : ρ2 5 = ρ2 4 + ρ2 2 := zyFp_op (by decide) (zyXf hF 1 rfl)
    have hag : ∀ k, k < 4 → ρ2 k = ρ k := hag
    have a1 := (hag 1 (by decide)).trans e1
    have a2 := (hag 2 (by decide)).trans e2
    have a3 := (hag 3 (by decide)).trans e3
    refine zyAs hRu hIH hAt (a := 81) (n := 8 * f + p) (c := (20, 10400, [(0, 10399, 73786976312018075706)])) (ax := 0) rfl rfl rfl (by dsimp only; omega) rfl (by decide) (by decide) ?_ ?_ ?_
    · show ρ2 5 = _
      rw [f1, f0, a1, a2, zyOm, zyOa]
    · intro r0 hr0 _ _
      rw [List.mem_singleton.mp hr0]
      refine ⟨rfl, ?_⟩
      show 2147483648 ≤ zB (ρ2 3) ∧ zB (ρ2 3) ≤ 2147483655
      rw [a3, zyBn (by omega)]
      omega
    · intro H3 hT3 g1 g2
      have g1 : zyEl (zymr r c) B H3 81 (8 * f + p) = some (.int (ρ2 3)) := g1
      refine ⟨⟨1, by decide⟩, [595, 0, 0, 0], rfl, rfl, zEnv_c (zyfull _) (zEnv_c (zyfull _) (zEnv_c (zyfull _) (zEnv_c (zyfull _) zEnv_nil))), rfl, rfl, ?_, by show 0 < 1; decide⟩
      show zyΨla as (zyEl (zymr r c) B s.heap) (zyEl (zymr r c) B H3) none
      refine ⟨rfl, fun f' p' t' e' c1 c2 c3 => ?_⟩
      rw [has, e1, e2, e3] at e'
      simp only [List.cons.injEq, and_true] at e'
      have k1 := zyOi (by omega) (by omega) e'.1
      have k2 := zyOi (by omega) (by omega) e'.2.1
      have k3 := zyOi (by omega) (by omega) e'.2.2
      subst k1
      subst k2
      subst k3
      rw [← hE, ← hEE]
      exact ⟨by rw [g1, a3], g2⟩
  · intro as E0 E E2 hT0 hΦ hlen i ρ hT hInv x hx ρ2 N2 B vo hXs hag hfr hT2 hvo
    rcases i with ⟨i, hi⟩
    have hi2 : i = 0 ∨ i = 1 := by omega
    rcases hi2 with rfl | rfl
    · cases hx
    have hx : x ∈ [zxla_br0] := hx
    have ex := List.mem_singleton.mp hx
    subst ex
    have e1 := zyvo_0 (show zyvo _ [] vo from hvo)
    rw [e1, zyfr0 hfr]
    exact hInv
