/-! HOW A TEXT IS READ: tokens. Kinds: 0 the end, 1 none, 2 a word, 3 a number, 4 minus, 5 semicolon -/
def tk (s : Int) : Int := if 97 ≤ s ∧ s ≤ 122 then 2 else if 48 ≤ s ∧ s ≤ 57 then 3 else if s = 45 then 4 else if s = 59 then 5 else 1
def tsp (T : Int → Int) (n : Int) : Nat → Int → Int
  | 0, p => p
  | f + 1, p => if p < n ∧ (T p = 10 ∨ T p = 32) then tsp T n f (p + 1) else p
/-- where the token behind p begins -/
def tFr (T : Int → Int) (n p : Int) : Int := tsp T n (n - p).toNat p
def trn (T : Int → Int) (n k : Int) : Nat → Int → Int
  | 0, p => p
  | f + 1, p => if p < n ∧ tk (T p) = k then trn T n k f (p + 1) else p
/-- where signs of a kind end -/
def tRn (T : Int → Int) (n k p : Int) : Int := trn T n k (n - p).toNat p
/-- where it ends -/
def tNx (T : Int → Int) (n p : Int) : Int := if tFr T n p < n then (if tk (T (tFr T n p)) = 2 ∨ tk (T (tFr T n p)) = 3 then tRn T n (tk (T (tFr T n p))) (tFr T n p + 1) else tFr T n p + 1) else tFr T n p
def tvl (T : Int → Int) : Nat → Int → Int → Int
  | 0, _, v => v
  | f + 1, q, v => tvl T f (q + 1) (10 * v + T q - 48)
def tVl (T : Int → Int) (e q v : Int) : Int := tvl T (e - q).toNat q v
/-- its number -/
def tNm (T : Int → Int) (n p : Int) : Int := tVl T (tNx T n p) (tFr T n p) 0
/-- its kind -/
def tKd (T : Int → Int) (n p : Int) : Int := if tFr T n p < n then (if tk (T (tFr T n p)) = 3 ∧ 3 < tNx T n p - tFr T n p then 1 else tk (T (tFr T n p))) else 0
section TOK
variable {T : Int → Int} {n p k e q v : Int}
theorem tFr_s (h : p < n) (hb : T p = 10 ∨ T p = 32) : tFr T n (p + 1) = tFr T n p := by
  unfold tFr
  rw [show (n - p).toNat = (n - (p + 1)).toNat + 1 by omega]
  show _ = (if p < n ∧ (T p = 10 ∨ T p = 32) then _ else _)
  rw [if_pos ⟨h, hb⟩]
theorem tFr_e (h : ¬ (p < n ∧ (T p = 10 ∨ T p = 32))) : tFr T n p = p := by
  unfold tFr
  cases (n - p).toNat with
  | zero => rfl
  | succ f =>
    show (if p < n ∧ (T p = 10 ∨ T p = 32) then _ else _) = _
    rw [if_neg h]
theorem tRn_s (h : p < n) (hb : tk (T p) = k) : tRn T n k (p + 1) = tRn T n k p := by
  unfold tRn
  rw [show (n - p).toNat = (n - (p + 1)).toNat + 1 by omega]
  show _ = (if p < n ∧ tk (T p) = k then _ else _)
  rw [if_pos ⟨h, hb⟩]
theorem tRn_e (h : ¬ (p < n ∧ tk (T p) = k)) : tRn T n k p = p := by
  unfold tRn
  cases (n - p).toNat with
  | zero => rfl
  | succ f =>
    show (if p < n ∧ tk (T p) = k then _ else _) = _
    rw [if_neg h]
theorem tVl_s (h : q < e) : tVl T e (q + 1) (10 * v + T q - 48) = tVl T e q v := by
  unfold tVl
  rw [show (e - q).toNat = (e - (q + 1)).toNat + 1 by omega]
  rfl
theorem tVl_e (h : e ≤ q) : tVl T e q v = v := by
  unfold tVl
  rw [show (e - q).toNat = 0 by omega]
  rfl
theorem tsp_b : ∀ (f : Nat) (p : Int), p ≤ n → p ≤ tsp T n f p ∧ tsp T n f p ≤ n := by
  intro f
  induction f with
  | zero => intro p h; exact ⟨Int.le_refl _, h⟩
  | succ f ih =>
    intro p h
    show p ≤ (if p < n ∧ (T p = 10 ∨ T p = 32) then tsp T n f (p + 1) else p) ∧ (if p < n ∧ (T p = 10 ∨ T p = 32) then tsp T n f (p + 1) else p) ≤ n
    split
    · rename_i hc
      have := ih (p + 1) (by omega)
      omega
    · omega
theorem tFr_b (h : p ≤ n) : p ≤ tFr T n p ∧ tFr T n p ≤ n := tsp_b _ _ h
theorem trn_b : ∀ (f : Nat) (p : Int), p ≤ n → p ≤ trn T n k f p ∧ trn T n k f p ≤ n := by
  intro f
  induction f with
  | zero => intro p h; exact ⟨Int.le_refl _, h⟩
  | succ f ih =>
    intro p h
    show p ≤ (if p < n ∧ tk (T p) = k then trn T n k f (p + 1) else p) ∧ (if p < n ∧ tk (T p) = k then trn T n k f (p + 1) else p) ≤ n
    split
    · rename_i hc
      have := ih (p + 1) (by omega)
      omega
    · omega
theorem tRn_b (h : p ≤ n) : p ≤ tRn T n k p ∧ tRn T n k p ≤ n := trn_b _ _ h
theorem tNx_b (h : p ≤ n) : tFr T n p ≤ tNx T n p ∧ tNx T n p ≤ n ∧ (tFr T n p < n → tFr T n p < tNx T n p) := by
  have h1 := tFr_b (T := T) h
  unfold tNx
  split
  · split
    · have h2 := tRn_b (T := T) (k := tk (T (tFr T n p))) (show tFr T n p + 1 ≤ n by omega)
      omega
    · omega
  · omega
theorem tk_r (s : Int) : 1 ≤ tk s ∧ tk s ≤ 5 := by
  unfold tk
  split
  · omega
  · split
    · omega
    · split
      · omega
      · split <;> omega
theorem tKd_r : 0 ≤ tKd T n p ∧ tKd T n p ≤ 5 := by
  unfold tKd
  have := tk_r (T (tFr T n p))
  split
  · split <;> omega
  · omega
theorem tKd_0 (h : p ≤ n) : tKd T n p = 0 ↔ tFr T n p = n := by
  have h1 := tFr_b (T := T) h
  have := tk_r (T (tFr T n p))
  unfold tKd
  split
  · split <;> omega
  · omega
theorem tNx_k (h : tFr T n p < n) (hk : tk (T (tFr T n p)) = 2 ∨ tk (T (tFr T n p)) = 3) : tNx T n p = tRn T n (tk (T (tFr T n p))) (tFr T n p + 1) := by
  unfold tNx
  rw [if_pos h, if_pos hk]
theorem tNx_1 (h : tFr T n p < n) (hk : ¬ (tk (T (tFr T n p)) = 2 ∨ tk (T (tFr T n p)) = 3)) : tNx T n p = tFr T n p + 1 := by
  unfold tNx
  rw [if_pos h, if_neg hk]
theorem tNx_0 (h : ¬ tFr T n p < n) : tNx T n p = tFr T n p := by
  unfold tNx
  rw [if_neg h]
theorem tKd_e (h : ¬ tFr T n p < n) : tKd T n p = 0 := by
  unfold tKd
  rw [if_neg h]
theorem tKd_b (h : tFr T n p < n) (hk : tk (T (tFr T n p)) = 3) (h3 : 3 < tNx T n p - tFr T n p) : tKd T n p = 1 := by
  unfold tKd
  rw [if_pos h, if_pos ⟨hk, h3⟩]
theorem tKd_k (h : tFr T n p < n) (hk : ¬ (tk (T (tFr T n p)) = 3 ∧ 3 < tNx T n p - tFr T n p)) : tKd T n p = tk (T (tFr T n p)) := by
  unfold tKd
  rw [if_pos h, if_neg hk]
theorem tk2 {s : Int} (h1 : 97 ≤ s) (h2 : s ≤ 122) : tk s = 2 := if_pos ⟨h1, h2⟩
theorem tk3 {s : Int} (h1 : 48 ≤ s) (h2 : s ≤ 57) : tk s = 3 := by
  unfold tk
  rw [if_neg (by omega), if_pos ⟨h1, h2⟩]
theorem tk4 {s : Int} (h : s = 45) : tk s = 4 := by
  unfold tk
  rw [if_neg (by omega), if_neg (by omega), if_pos h]
theorem tk5 {s : Int} (h : s = 59) : tk s = 5 := by
  unfold tk
  rw [if_neg (by omega), if_neg (by omega), if_neg (by omega), if_pos h]
theorem tk1 {s : Int} (h1 : ¬ (97 ≤ s ∧ s ≤ 122)) (h2 : ¬ (48 ≤ s ∧ s ≤ 57)) (h3 : ¬ s = 45) (h4 : ¬ s = 59) : tk s = 1 := by
  unfold tk
  rw [if_neg h1, if_neg h2, if_neg h3, if_neg h4]
end TOK
