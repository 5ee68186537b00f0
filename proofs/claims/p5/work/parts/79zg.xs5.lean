/-! THE REFERENCE's tokens against the spec: kinds, letters -/
/-- the reference's kind of a sign that is no letter and no digit -/
def rK0 (T : Int → Int) (n f : Int) : Int := if f < n then (if T f = 59 ∨ T f = 45 then 3 else 4) else 0
theorem rK0_0 {T : Int → Int} {n f : Int} (h : n ≤ f) : rK0 T n f = 0 := if_neg (by omega)
theorem rK0_3 {T : Int → Int} {n f : Int} (h : f < n) (h2 : T f = 59 ∨ T f = 45) : rK0 T n f = 3 := by
  unfold rK0
  rw [if_pos h, if_pos h2]
theorem rK0_4 {T : Int → Int} {n f : Int} (h : f < n) (h2 : ¬ (T f = 59 ∨ T f = 45)) : rK0 T n f = 4 := by
  unfold rK0
  rw [if_pos h, if_neg h2]
/-- the reference's kind for the spec's kind -/
def rKd (k : Int) : Int := if k = 0 then 0 else if k = 2 then 1 else if k = 3 then 2 else if k = 4 ∨ k = 5 then 3 else 4
def lgo (T : Int → Int) : Nat → Int → Int → Int
  | 0, _, v => v
  | f + 1, q, v => lgo T f (q + 1) (27 * v + T q - 96)
/-- letters from p up to e, base 27 -/
def lVl (T : Int → Int) (p e : Int) : Int := lgo T (e - p).toNat p 0
theorem lgo_s (T : Int → Int) : ∀ (f : Nat) (q v : Int), lgo T (f + 1) q v = 27 * lgo T f q v + T (q + f) - 96 := by
  intro f
  induction f with
  | zero =>
    intro q v
    show 27 * v + T q - 96 = 27 * v + T (q + ((0 : Nat) : Int)) - 96
    rw [show q + ((0 : Nat) : Int) = q by omega]
  | succ f ih =>
    intro q v
    show lgo T (f + 1) (q + 1) (27 * v + T q - 96) = 27 * lgo T f (q + 1) (27 * v + T q - 96) + _ - 96
    rw [ih, show q + 1 + (f : Int) = q + ((f + 1 : Nat) : Int) by omega]
theorem lVl_s {T : Int → Int} {p e : Int} (h : p ≤ e) : lVl T p (e + 1) = 27 * lVl T p e + T e - 96 := by
  unfold lVl
  rw [show (e + 1 - p).toNat = (e - p).toNat + 1 by omega, lgo_s, show p + (((e - p).toNat : Nat) : Int) = e by omega]
theorem lVl_0 {T : Int → Int} {p : Int} : lVl T p p = 0 := by
  unfold lVl
  rw [show (p - p).toNat = 0 by omega]
  rfl
/-- the long that the reference keeps for the letters from p up to e -/
def lLt (T : Int → Int) (p e : Int) : Int64 := if e - p ≤ 8 then Int64.ofInt (lVl T p e) else Int64.ofNat 18446744073709551615
theorem lLt_0 {T : Int → Int} {p : Int} : lLt T p p = Int64.ofNat 0 := by
  unfold lLt
  rw [if_pos (by omega), lVl_0]
  rfl
theorem toInt64_i (t : Int32) : t.toInt64 = Int64.ofInt (xI t) := by
  apply Int64.toInt_inj.mp
  have h1 := Int32.le_toInt t
  have h2 := Int32.toInt_lt t
  rw [Int32.toInt_toInt64, Int64.toInt_ofInt_of_le (by show -9223372036854775808 ≤ t.toInt; omega) (by show t.toInt < 9223372036854775808; omega)]
  rfl
theorem xLt_i (a : Int) (t : Int32) : xLt (Int64.ofInt a) t = Int64.ofInt (27 * a + xI t - 96) := by
  unfold xLt
  rw [toInt64_i, Int64.ofInt_sub, Int64.ofInt_add, Int64.ofInt_mul]
  rfl
theorem lLt_s {T : Int → Int} {p e : Int} (h : p ≤ e) (h8 : e - p < 8) {t : Int32} (ht : xI t = T e) : xLt (lLt T p e) t = lLt T p (e + 1) := by
  unfold lLt
  rw [if_pos (by omega), if_pos (by omega), xLt_i, ht, lVl_s h]
theorem lLt_8 {T : Int → Int} {p e : Int} (h8 : 8 ≤ e - p) : Int64.ofNat 18446744073709551615 = lLt T p (e + 1) := by
  unfold lLt
  rw [if_neg (by omega)]
