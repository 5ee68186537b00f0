/-! FUNCTIONAL CONTRACTS IN INT: what codes, facts, bounds say of numbers -/
def xI (x : Int32) : Int := x.toInt
theorem xI_r (x : Int32) : -2147483648 ≤ xI x ∧ xI x < 2147483648 := by
  have h1 := Int32.le_toInt x
  have h2 := Int32.toInt_lt x
  unfold xI
  omega
theorem xI_ofInt {a : Int} (h : -2147483648 ≤ a ∧ a < 2147483648) : xI (Int32.ofInt a) = a := Int32.toInt_ofInt_of_le (by omega) (by omega)
theorem xofI (x : Int32) : Int32.ofInt (xI x) = x := Int32.ofInt_toInt x
theorem xI_inj {x y : Int32} (h : xI x = xI y) : x = y := Int32.toInt_inj.mp h
theorem xI_zB (x : Int32) : (zB x : Int) = xI x + 2147483648 := zB_int x
def xsg (n : Nat) : Int := if n < 2147483648 then (n : Int) else (n : Int) - 4294967296
theorem xI_nat {n : Nat} (h : n < 4294967296) : xI (Int32.ofNat n) = xsg n := by
  have e := xI_zB (Int32.ofNat n)
  have e2 : zB (Int32.ofNat n) = (n + 2147483648) % 4294967296 := by rw [zB_of, zb_def]
  unfold xsg
  split <;> omega
theorem xI_add {x y : Int32} (h1 : -2147483648 ≤ xI x + xI y) (h2 : xI x + xI y < 2147483648) : xI (x + y) = xI x + xI y := by
  unfold xI at *
  rw [Int32.toInt_add]
  apply Int.bmod_eq_of_le
  · omega
  · omega
theorem xI_sub {x y : Int32} (h1 : -2147483648 ≤ xI x - xI y) (h2 : xI x - xI y < 2147483648) : xI (x - y) = xI x - xI y := by
  unfold xI at *
  rw [Int32.toInt_sub]
  apply Int.bmod_eq_of_le
  · omega
  · omega
theorem xI_mul {x y : Int32} (h1 : -2147483648 ≤ xI x * xI y) (h2 : xI x * xI y < 2147483648) : xI (x * y) = xI x * xI y := by
  unfold xI at *
  rw [Int32.toInt_mul]
  generalize x.toInt * y.toInt = q at h1 h2 ⊢
  apply Int.bmod_eq_of_le
  · omega
  · omega
theorem xI_neg {x : Int32} (h1 : -2147483648 < xI x) : xI (-x) = -xI x := by
  have hr := xI_r x
  unfold xI at *
  rw [Int32.toInt_neg]
  apply Int.bmod_eq_of_le
  · omega
  · omega
theorem xI_div {x y : Int32} (h1 : 0 ≤ xI x) (h2 : 0 < xI y) : xI (x / y) = xI x / xI y := by
  unfold xI at *
  rw [Int32.toInt_div_of_ne_right _ _ (fun z => by rw [z] at h2; exact absurd h2 (by decide))]
  exact Int.tdiv_eq_ediv_of_nonneg h1
theorem xI_rem {x y : Int32} (h1 : 0 ≤ xI x) (h2 : 0 < xI y) : xI (x - x / y * y) = xI x % xI y := by
  have hd := xI_div h1 h2
  have hx := xI_r x
  have m0 : 0 ≤ xI x / xI y * xI y := Int.mul_nonneg (Int.ediv_nonneg h1 (by omega)) (by omega)
  have m1 : xI x / xI y * xI y ≤ xI x := Int.ediv_mul_le _ (by omega)
  have hm : xI (x / y * y) = xI x / xI y * xI y := by
    rw [xI_mul (by rw [hd]; omega) (by rw [hd]; omega), hd]
  rw [xI_sub (by rw [hm]; omega) (by rw [hm]; omega), hm, Int.emod_def, Int.mul_comm]
def xfv : List Int → Nat → Int
  | [], _ => 0
  | a :: _, 0 => a
  | _ :: t, k + 1 => xfv t k
/-- what stands at a place's index, as a number -/
def xE (E : zyEm) (a : Nat) (i : Int) : Int := match E a i.toNat with
  | some (.int x) => xI x
  | _ => 0
theorem xE_r (E : zyEm) (a : Nat) (i : Int) : -2147483648 ≤ xE E a i ∧ xE E a i < 2147483648 := by
  unfold xE
  split
  · exact xI_r _
  · omega
theorem xE_s {E : zyEm} {a k : Nat} {x : Int32} (h : E a k = some (.int x)) {i : Int} (hi : i.toNat = k) : xE E a i = xI x := by
  unfold xE
  rw [hi, h]
def xFr (fp : zyR) (E E2 : zyEm) : Prop := ∀ a k, zyin fp a k = false → E2 a k = E a k
theorem xFr_E {fp : zyR} {E E2 : zyEm} (h : xFr fp E E2) {a : Nat} {i : Int} (hi : zyin fp a i.toNat = false) : xE E2 a i = xE E a i := by
  unfold xE
  rw [h a _ hi]
theorem xFr_refl {fp : zyR} {E : zyEm} : xFr fp E E := fun _ _ _ => rfl
theorem xFr_trans {fp : zyR} {E E2 E3 : zyEm} (h : xFr fp E E2) (h2 : xFr fp E2 E3) : xFr fp E E3 := fun a k hk => (h2 a k hk).trans (h a k hk)
def xsubR (l1 l2 : zyR) : Bool := l1.all fun p => l2.any fun q => decide (p.1 = q.1) && (decide (q.2.1 ≤ p.2.1) && decide (p.2.2 ≤ q.2.2))
theorem xFr_mono {l1 l2 : zyR} {E E2 : zyEm} (h : xsubR l1 l2 = true) (hf : xFr l1 E E2) : xFr l2 E E2 := by
  intro a k hk
  apply hf
  cases hq : zyin l1 a k with
  | false => rfl
  | true =>
    obtain ⟨p, hp, e1, e2, e3⟩ := zyin_iff.mp hq
    unfold xsubR at h
    rw [List.all_eq_true] at h
    have h := h p hp
    rw [List.any_eq_true] at h
    obtain ⟨q, hq2, h⟩ := h
    simp only [Bool.and_eq_true, decide_eq_true_eq] at h
    have : zyin l2 a k = true := zyin_iff.mpr ⟨q, hq2, by omega, by omega, by omega⟩
    rw [this] at hk
    cases hk
/-- the number that a code says -/
def xc (v : Nat → Int) (c : Nat) : Int := if c % 8 = 1 then (if c / 8 % 4294967296 = 0 then v (c / 34359738368) else v (c / 34359738368) + xsg (c / 8 % 4294967296)) else xsg (c / 8 % 4294967296)
def xofB (Bd : List (Nat × Nat × Nat)) (c : Nat) : Bool := if c % 8 = 0 then decide (c / 8 < 4294967296) else if c % 8 = 1 then (decide (c / 8 % 4294967296 = 0) || Bd.any (fun b => decide (b.1 = c / 34359738368 * 34359738368 + 1) && (if c / 8 % 4294967296 < 2147483648 then decide (b.2.2 + c / 8 % 4294967296 ≤ 4294967295) else decide (4294967296 ≤ b.2.1 + c / 8 % 4294967296)))) else false
abbrev xBd (ρ : Nat → Int32) (Bd : List (Nat × Nat × Nat)) : Prop := ∀ b ∈ Bd, b.2.1 ≤ zB (zyw ρ b.1) ∧ zB (zyw ρ b.1) ≤ b.2.2
theorem xofB_iff {ρ : Nat → Int32} {v : Nat → Int} {Bd : List (Nat × Nat × Nat)} {c : Nat} (hv : ∀ k, xI (ρ k) = v k) (hB : xBd ρ Bd) (h : xofB Bd c = true) : xI (zyw ρ c) = xc v c := by
  unfold xofB at h
  unfold xc zyw
  by_cases h0 : c % 8 = 0
  · rw [if_pos h0, decide_eq_true_eq] at h
    rw [if_neg (by omega), if_neg (by omega), Nat.mod_eq_of_lt h]
    exact xI_nat h
  · rw [if_neg h0] at h
    by_cases h1 : c % 8 = 1
    · rw [if_pos h1] at h
      rw [if_pos h1, if_pos h1]
      by_cases ho : c / 8 % 4294967296 = 0
      · rw [if_pos ho, if_pos ho]
        exact hv _
      · rw [if_neg ho, if_neg ho]
        rw [Bool.or_eq_true, decide_eq_true_eq, List.any_eq_true] at h
        rcases h with h | ⟨b, hb, h⟩
        · exact absurd h ho
        · rw [Bool.and_eq_true, decide_eq_true_eq] at h
          obtain ⟨e1, h⟩ := h
          have hb2 := hB b hb
          rw [e1, ← zysym_def, zyw_sym] at hb2
          have z := xI_zB (ρ (c / 34359738368))
          have rr := xI_r (ρ (c / 34359738368))
          have n1 := xI_nat (n := c / 8 % 4294967296) (Nat.mod_lt _ (by decide))
          have hs : xsg (c / 8 % 4294967296) = if c / 8 % 4294967296 < 2147483648 then ((c / 8 % 4294967296 : Nat) : Int) else ((c / 8 % 4294967296 : Nat) : Int) - 4294967296 := rfl
          have hl : c / 8 % 4294967296 < 4294967296 := Nat.mod_lt _ (by decide)
          generalize c / 8 % 4294967296 = o at h n1 hs hl ⊢
          by_cases h2 : o < 2147483648
          · rw [if_pos h2, decide_eq_true_eq] at h
            rw [if_pos h2] at hs
            rw [xI_add (by omega) (by omega), hv, n1]
          · rw [if_neg h2, decide_eq_true_eq] at h
            rw [if_neg h2] at hs
            rw [xI_add (by omega) (by omega), hv, n1]
    · rw [if_neg h1] at h
      cases h
def xop (g : Nat) (a b : Int) : Int := xI (zyG g (Int32.ofInt a) (Int32.ofInt b))
/-- what a fact says -/
def xFp (v : Nat → Int) (E : zyEm) (f : zyF) : Prop :=
  if f.1 = 24 then 0 ≤ xc v f.2.2.2 ∧ xE E f.2.2.1 (xc v f.2.2.2) = xc v f.2.1
  else if f.1 = 20 then xc v f.2.2.1 < xc v f.2.2.2
  else if f.1 = 21 then xc v f.2.2.2 ≤ xc v f.2.2.1
  else if f.1 = 22 then xc v f.2.2.1 = xc v f.2.2.2
  else if f.1 = 23 then ¬ xc v f.2.2.1 = xc v f.2.2.2
  else if f.1 = 1 then -2147483648 ≤ xc v f.2.2.1 + xc v f.2.2.2 → xc v f.2.2.1 + xc v f.2.2.2 < 2147483648 → xc v f.2.1 = xc v f.2.2.1 + xc v f.2.2.2
  else if f.1 = 2 then -2147483648 ≤ xc v f.2.2.1 - xc v f.2.2.2 → xc v f.2.2.1 - xc v f.2.2.2 < 2147483648 → xc v f.2.1 = xc v f.2.2.1 - xc v f.2.2.2
  else if f.1 = 3 then -2147483648 ≤ xc v f.2.2.1 * xc v f.2.2.2 → xc v f.2.2.1 * xc v f.2.2.2 < 2147483648 → xc v f.2.1 = xc v f.2.2.1 * xc v f.2.2.2
  else if f.1 = 5 then 0 ≤ xc v f.2.2.1 → 0 < xc v f.2.2.2 → xc v f.2.1 = xc v f.2.2.1 % xc v f.2.2.2
  else if f.1 = 10 then 0 ≤ xc v f.2.2.1 → 0 < xc v f.2.2.2 → xc v f.2.1 = xc v f.2.2.1 / xc v f.2.2.2
  else if f.1 = 11 then -2147483648 < xc v f.2.2.1 → xc v f.2.1 = -xc v f.2.2.1
  else if f.1 < 12 then xc v f.2.1 = xop f.1 (xc v f.2.2.1) (xc v f.2.2.2)
  else if f.1 < 1000 then True
  else zyRr (f.1 - 1000) E (Int32.ofInt (xc v f.2.2.1)) (Int32.ofInt (xc v f.2.2.2)) (Int32.ofInt (xc v f.2.1))
def xfB (Bd : List (Nat × Nat × Nat)) (f : zyF) : Bool := if f.1 = 24 then xofB Bd f.2.1 && xofB Bd f.2.2.2 else xofB Bd f.2.1 && (xofB Bd f.2.2.1 && xofB Bd f.2.2.2)
theorem xFp_of {ρ : Nat → Int32} {v : Nat → Int} {Bd : List (Nat × Nat × Nat)} {E : zyEm} {f : zyF} (hv : ∀ k, xI (ρ k) = v k) (hB : xBd ρ Bd) (h : zyFp ρ E f) (hc : xfB Bd f = true) : xFp v E f := by
  unfold zyFp at h
  unfold xfB at hc
  unfold xFp
  by_cases h24 : f.1 = 24
  · rw [if_pos h24] at h hc ⊢
    rw [Bool.and_eq_true] at hc
    rw [← xofB_iff hv hB hc.1, ← xofB_iff hv hB hc.2]
    obtain ⟨j, e1, e2, e3⟩ := h
    rw [e1, xI_nat (by omega)]
    have e4 : xsg j = (j : Int) := if_pos e2
    rw [e4]
    exact ⟨Int.natCast_nonneg _, xE_s e3 (Int.toNat_natCast _)⟩
  · rw [if_neg h24] at h hc
    rw [if_neg h24]
    rw [Bool.and_eq_true, Bool.and_eq_true] at hc
    rw [← xofB_iff hv hB hc.1, ← xofB_iff hv hB hc.2.1, ← xofB_iff hv hB hc.2.2]
    by_cases h12 : f.1 < 12
    · rw [if_pos h12] at h
      rw [if_neg (by omega), if_neg (by omega), if_neg (by omega), if_neg (by omega)]
      split
      · rename_i e
        rw [h, e]
        exact xI_add
      · split
        · rename_i e
          rw [h, e]
          exact xI_sub
        · split
          · rename_i e
            rw [h, e]
            exact xI_mul
          · split
            · rename_i e
              rw [h, e]
              exact xI_rem
            · split
              · rename_i e
                rw [h, e]
                exact xI_div
              · split
                · rename_i e
                  rw [h, e]
                  exact xI_neg
                · unfold xop
                  first
                    | rw [if_pos h12, xofI, xofI, h]
                    | rw [xofI, xofI, h]
    · rw [if_neg h12] at h
      by_cases h1000 : f.1 < 1000
      · rw [if_pos h1000] at h
        obtain ⟨p1, p2, p3, p4⟩ := h
        split
        · rename_i e
          exact Int32.lt_iff_toInt_lt.mp (p1 e)
        · split
          · rename_i e
            have := p2 e
            rw [Int32.lt_iff_toInt_lt] at this
            unfold xI
            omega
          · split
            · rename_i e
              rw [p3 e]
            · split
              · rename_i e
                exact fun z => p4 e (xI_inj z)
              · first
                  | trivial
                  | (repeat rw [if_neg (by omega)]) <;> trivial
                  | (simp only [h12, h1000, if_false, if_true] <;> (try split) <;> first | omega | trivial | skip <;> simp_all)
      · rw [if_neg h1000] at h
        first
          | (rw [if_neg (by omega), if_neg (by omega), if_neg (by omega), if_neg (by omega), if_neg (by omega), if_neg (by omega), if_neg (by omega), if_neg (by omega), if_neg (by omega), if_neg (by omega), if_neg h12, if_neg h1000, xofI, xofI, xofI]; exact h)
          | (rw [if_neg (by omega), if_neg (by omega), if_neg (by omega), if_neg (by omega), if_neg (by omega), if_neg (by omega), if_neg (by omega), if_neg (by omega), if_neg (by omega), if_neg (by omega), xofI, xofI, xofI]; exact h)
/-- what an end says, in numbers -/
def xXs (x : zyXp) (v : Nat → Int) (E E2 : zyEm) : Prop := (∀ f ∈ x.2.2.2.1, xFp v E f) ∧ (∀ b ∈ x.2.2.2.2.1, (b.2.1 : Int) ≤ xc v b.1 + 2147483648 ∧ xc v b.1 + 2147483648 ≤ (b.2.2 : Int)) ∧ ∀ p ∈ x.2.2.2.2.2, xE E2 (p.1 / 16384) ((p.1 % 16384 : Nat) : Int) = xc v p.2
def xckX (x : zyXp) : Bool := x.2.2.2.1.all (xfB x.2.2.2.2.1) && (x.2.2.2.2.1.all (fun b => xofB x.2.2.2.2.1 b.1) && (x.2.2.2.2.2.all (fun p => xofB x.2.2.2.2.1 p.2) && (x.2.2.1.all (fun c => decide (c % 8 = 3) || xofB x.2.2.2.2.1 c))))
theorem xXs_of {x : zyXp} {ρ : Nat → Int32} {v : Nat → Int} {E E2 : zyEm} (hv : ∀ k, xI (ρ k) = v k) (h : zyXs x ρ E E2) (hc : xckX x = true) : xXs x v E E2 := by
  unfold xckX at hc
  simp only [Bool.and_eq_true, List.all_eq_true] at hc
  obtain ⟨c1, c2, c3, -⟩ := hc
  obtain ⟨h1, h2, h3⟩ := h
  refine ⟨fun f hf => xFp_of hv h2 (h1 f hf) (c1 f hf), fun b hb => ?_, fun p hp => ?_⟩
  · rw [← xofB_iff hv h2 (c2 b hb)]
    have z := xI_zB (zyw ρ b.1)
    have := h2 b hb
    omega
  · rw [← xofB_iff hv h2 (c3 p hp)]
    exact xE_s (h3 p hp) (Int.toNat_natCast _)
theorem xXf {l : List zyF} {v : Nat → Int} {E : zyEm} {f : zyF} (h : ∀ f ∈ l, xFp v E f) (j : Nat) (hj : l[j]? = some f) : xFp v E f := h f (List.mem_of_getElem? hj)
theorem xXb {l : List (Nat × Nat × Nat)} {v : Nat → Int} {b : Nat × Nat × Nat} (h : ∀ b ∈ l, (b.2.1 : Int) ≤ xc v b.1 + 2147483648 ∧ xc v b.1 + 2147483648 ≤ (b.2.2 : Int)) (j : Nat) (hj : l[j]? = some b) : (b.2.1 : Int) ≤ xc v b.1 + 2147483648 ∧ xc v b.1 + 2147483648 ≤ (b.2.2 : Int) := h b (List.mem_of_getElem? hj)
theorem xXm {l : List (Nat × Nat)} {v : Nat → Int} {E2 : zyEm} {p : Nat × Nat} (h : ∀ p ∈ l, xE E2 (p.1 / 16384) ((p.1 % 16384 : Nat) : Int) = xc v p.2) (j : Nat) (hj : l[j]? = some p) : xE E2 (p.1 / 16384) ((p.1 % 16384 : Nat) : Int) = xc v p.2 := h p (List.mem_of_getElem? hj)
/-- as the base tells, in numbers -/
theorem xTy {mi : zyB} {E : zyEm} (hT : zyTy mi E) {a k q : Nat} {c : zyCl} {r : Nat × Nat × Nat} (hg : zG mi a = some c) (hk : k < zyLen c) (hr : c.2.2[q]? = some r) (h1 : r.1 ≤ k) (h2 : k ≤ r.2.1) (h3 : r.2.2 % 8 = 2) : ∃ x : Int32, E a k = some (.int x) ∧ ((r.2.2 / 34359738368 : Nat) : Int) ≤ xI x + 2147483648 ∧ xI x + 2147483648 ≤ ((r.2.2 / 8 % 4294967296 : Nat) : Int) := by
  obtain ⟨x, e, b1, b2⟩ := (hT a c k hg hk r (List.mem_of_getElem? hr) h1 h2).1 h3
  have z := xI_zB x
  exact ⟨x, e, by omega, by omega⟩
theorem xTyE {mi : zyB} {E : zyEm} (hT : zyTy mi E) {a q : Nat} {i : Int} {c : zyCl} {r : Nat × Nat × Nat} (hg : zG mi a = some c) (hk : i.toNat < zyLen c) (hr : c.2.2[q]? = some r) (h1 : r.1 ≤ i.toNat) (h2 : i.toNat ≤ r.2.1) (h3 : r.2.2 % 8 = 2) : ((r.2.2 / 34359738368 : Nat) : Int) ≤ xE E a i + 2147483648 ∧ xE E a i + 2147483648 ≤ ((r.2.2 / 8 % 4294967296 : Nat) : Int) := by
  obtain ⟨x, e, b1, b2⟩ := xTy hT hg hk hr h1 h2 h3
  rw [xE_s e rfl]
  exact ⟨b1, b2⟩
