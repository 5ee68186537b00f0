/-! facts by their number -/
section YHX
variable {l : List zyF} {ρ : Nat → Int32} {E : zyEm} {g v a b : Nat}
theorem zyX20 (h : ∀ f ∈ l, zyFp ρ E f) (j : Nat) (hj : l[j]? = some (20, v, a, b)) : zyw ρ a < zyw ρ b := zyFp_20 (zyXf h j hj)
theorem zyX21 (h : ∀ f ∈ l, zyFp ρ E f) (j : Nat) (hj : l[j]? = some (21, v, a, b)) : ¬ zyw ρ a < zyw ρ b := zyFp_21 (zyXf h j hj)
theorem zyX22 (h : ∀ f ∈ l, zyFp ρ E f) (j : Nat) (hj : l[j]? = some (22, v, a, b)) : zyw ρ a = zyw ρ b := zyFp_22 (zyXf h j hj)
theorem zyX23 (h : ∀ f ∈ l, zyFp ρ E f) (j : Nat) (hj : l[j]? = some (23, v, a, b)) : ¬ zyw ρ a = zyw ρ b := zyFp_23 (zyXf h j hj)
theorem zyXop (h : ∀ f ∈ l, zyFp ρ E f) (j : Nat) (hj : l[j]? = some (g, v, a, b)) (hg : g < 12) : zyw ρ v = zyG g (zyw ρ a) (zyw ρ b) := zyFp_op hg (zyXf h j hj)
theorem zyXe (h : ∀ f ∈ l, zyFp ρ E f) (j : Nat) (hj : l[j]? = some (24, v, a, b)) : ∃ n : Nat, zyw ρ b = Int32.ofNat n ∧ n < 2147483648 ∧ E a n = some (.int (zyw ρ v)) := zyFp_e (zyXf h j hj)
theorem zyXr (h : ∀ f ∈ l, zyFp ρ E f) (j id : Nat) (hj : l[j]? = some (1000 + id, v, a, b)) : zyRr id E (zyw ρ a) (zyw ρ b) (zyw ρ v) := zyFp_r (zyXf h j hj)
end YHX
