/-! HOW A TEXT IS READ: lines. S: what is told, by the reference's cells -/
def uS (S : Int → Int) (k x : Int) : Int → Int := fun j => if j = k then x else S j
theorem uS_e {S : Int → Int} {k x j : Int} (h : j = k) : uS S k x j = x := if_pos h
theorem uS_n {S : Int → Int} {k x j : Int} (h : ¬ j = k) : uS S k x j = S j := if_neg h
def tWb (T : Int → Int) : List Int → Int → Bool
  | [], _ => true
  | a :: l, q => decide (T q = a) && tWb T l (q + 1)
/-- whether a token of that kind, from, up to, is a word -/
def sW (T : Int → Int) (kd fr nx : Int) (w : List Int) : Bool := decide (kd = 2) && (decide (nx - fr = (w.length : Int)) && tWb T w fr)
def tW (T : Int → Int) (n p : Int) (w : List Int) : Bool := sW T (tKd T n p) (tFr T n p) (tNx T n p) w
abbrev pR : Type := Except (Int × Int) (Int × (Int → Int))
def pMis (T : Int → Int) (n p : Int) : Int := if tKd T n p = 1 then 1 else 2
def pNum (T : Int → Int) (n p lo hi : Int) (k : Int → Int → pR) : pR := if tKd T n p = 3 then (if lo ≤ tNm T n p ∧ tNm T n p ≤ hi then k (tNm T n p) (tNx T n p) else .error (3, tFr T n p)) else .error (pMis T n p, tFr T n p)
def pSem (T : Int → Int) (n p : Int) (S : Int → Int) : pR := if tKd T n p = 5 then .ok (tNx T n p, S) else .error (pMis T n p, tFr T n p)
def pBind (r : pR) (k : Int → (Int → Int) → pR) : pR := match r with
  | .ok (p, S) => k p S
  | .error e => .error e
def gN (r c : Int) : Int := r * (c - 1) + (r - 1) * c
def sN (r c : Int) : Int := 4 * (r * c)
/-- the slot that faces; none -/
noncomputable def pF (r c s : Int) : Int := xsg (zgF r.toNat c.toNat s.toNat)
def pBits (T : Int → Int) (n : Int) (S : Int → Int) (g : Int) : Nat → Int → Int → Int → pR
  | 0, p, len, bits => if tKd T n p = 3 then (if 0 ≤ tNm T n p ∧ tNm T n p ≤ 1 then .error (6, tFr T n p) else .error (3, tFr T n p)) else .ok (p, uS (uS S (8 + g) bits) (40 + g) len)
  | f + 1, p, len, bits => if tKd T n p = 3 then (if 0 ≤ tNm T n p ∧ tNm T n p ≤ 1 then pBits T n S g f (tNx T n p) (len + 1) (xop 7 bits (xop 8 (tNm T n p) len)) else .error (3, tFr T n p)) else .ok (p, uS (uS S (8 + g) bits) (40 + g) len)
def pSwitch (T : Int → Int) (n p : Int) (S : Int → Int) : pR := pNum T n p 0 (gN (S 0) (S 1) - 1) fun g p1 => pNum T n p1 0 1 fun b p2 => pBits T n S g 3 p2 1 b
/-- whether a bobbin starts at a slot or at the one that faces it -/
def pTak (S : Int → Int) (s f : Int) : Nat → Bool
  | 0 => false
  | k + 1 => pTak S s f k || (decide (S (136 + (k : Int)) = s) || decide (f = S (136 + (k : Int))))
def pNew (S : Int → Int) (s : Int) : Int → Int := uS (uS (uS (uS S (136 + S 2) s) (144 + S 2) s) (152 + S 2) (-1)) 2 (S 2 + 1)
noncomputable def pBobbin (T : Int → Int) (n p0 p : Int) (S : Int → Int) : pR := if 8 ≤ S 2 then .error (6, tFr T n p0) else pNum T n p 0 (sN (S 0) (S 1) - 1) fun s p1 => if pTak S s (pF (S 0) (S 1) s) (S 2).toNat = true then .error (4, tFr T n p) else .ok (p1, pNew S s)
def pStuck (T : Int → Int) (n p : Int) (S : Int → Int) : pR := pNum T n p 0 (gN (S 0) (S 1) - 1) fun g p1 => if tW T n p1 [111, 112, 101, 110] = true then .ok (tNx T n p1, uS S (72 + g) 2) else if tW T n p1 [115, 104, 117, 116] = true then .ok (tNx T n p1, uS S (72 + g) 1) else .error (pMis T n p1, tFr T n p1)
/-- how many cells of a row are above 0 -/
def pCnt (S : Int → Int) (o : Int) : Nat → Int
  | 0 => 0
  | k + 1 => pCnt S o k + (if 0 < S (o + (k : Int)) then 1 else 0)
def pFree (T : Int → Int) (n p0 p : Int) (S : Int → Int) : pR := if 6 ≤ pCnt S 104 (gN (S 0) (S 1)).toNat then .error (6, tFr T n p0) else pNum T n p 0 (gN (S 0) (S 1) - 1) fun g p1 => .ok (p1, uS S (104 + g) 1)
def pPlace (T : Int → Int) (n p : Int) (S : Int → Int) : pR := pNum T n p 0 (S 2 - 1) fun b p1 => pNum T n p1 0 (sN (S 0) (S 1) - 1) fun s p2 => .ok (p2, uS S (152 + b) s)
/-- letters: f more may come -/
def pWs (T : Int → Int) (n : Int) : Nat → Int → (Int → Int) → pR
  | 0, p, S => if tKd T n p = 3 then pNum T n p 1 7 (fun _ _ => .error (6, tFr T n p)) else if tKd T n p = 4 then pNum T n (tNx T n p) 1 7 (fun _ _ => .error (6, tFr T n (tNx T n p))) else .ok (p, S)
  | f + 1, p, S => if tKd T n p = 3 then pNum T n p 1 7 (fun x p2 => pWs T n f p2 (uS (uS S (460 + S 5) x) 5 (S 5 + 1))) else if tKd T n p = 4 then pNum T n (tNx T n p) 1 7 (fun x p2 => pWs T n f p2 (uS (uS S (460 + S 5) (-x)) 5 (S 5 + 1))) else .ok (p, S)
noncomputable def pBody (T : Int → Int) (n p : Int) (S : Int → Int) : pR :=
  if tW T n p [115, 119, 105, 116, 99, 104] = true then pSwitch T n (tNx T n p) S
  else if tW T n p [98, 111, 98, 98, 105, 110] = true then pBobbin T n p (tNx T n p) S
  else if tW T n p [115, 116, 117, 99, 107] = true then pStuck T n (tNx T n p) S
  else if tW T n p [102, 114, 101, 101] = true then pFree T n p (tNx T n p) S
  else if tW T n p [112, 108, 97, 99, 101] = true then pPlace T n (tNx T n p) S
  else if tW T n p [119, 111, 114, 100] = true then pWs T n 60 (tNx T n p) (uS S 5 0)
  else .error (pMis T n p, tFr T n p)
noncomputable def pLine (T : Int → Int) (n p : Int) (S : Int → Int) : pR := pBind (pBody T n p S) (pSem T n)
noncomputable def pLines (T : Int → Int) (n : Int) : Nat → Int → (Int → Int) → pR
  | 0, p, S => .ok (p, S)
  | f + 1, p, S => if tKd T n p = 0 then .ok (p, S) else pBind (pLine T n p S) (pLines T n f)
def pClr (r c : Int) : Int → Int := fun k => if k = 0 then r else if k = 1 then c else if k = 5 then -1 else if 40 ≤ k ∧ k ≤ 70 then 1 else 0
def pSz (T : Int → Int) (n : Int) : pR := if tW T n 0 [115, 105, 122, 101] = true then pNum T n (tNx T n 0) 1 4 fun r p1 => pNum T n p1 1 5 fun c p2 => pSem T n p2 (pClr r c) else .error (pMis T n 0, tFr T n 0)
/-- a text of n bytes -/
noncomputable def pAll (T : Int → Int) (n : Int) : pR := pBind (pSz T n) (pLines T n 901)
theorem pCnt_s {S : Int → Int} {o s : Int} (h : 0 ≤ s) : pCnt S o (s + 1).toNat = pCnt S o s.toNat + (if 0 < S (o + s) then 1 else 0) := by
  rw [show (s + 1).toNat = s.toNat + 1 by omega]
  show pCnt S o s.toNat + (if 0 < S (o + ((s.toNat : Nat) : Int)) then 1 else 0) = _
  rw [Int.toNat_of_nonneg h]
theorem pCnt_b {S : Int → Int} {o : Int} : ∀ k : Nat, 0 ≤ pCnt S o k ∧ pCnt S o k ≤ (k : Int) := by
  intro k
  induction k with
  | zero => exact ⟨Int.le_refl _, Int.le_refl _⟩
  | succ k ih =>
    show 0 ≤ pCnt S o k + (if 0 < S (o + (k : Int)) then 1 else 0) ∧ pCnt S o k + (if 0 < S (o + (k : Int)) then 1 else 0) ≤ ((k + 1 : Nat) : Int)
    split <;> omega
theorem pTak_s {S : Int → Int} {s f b : Int} (h : 0 ≤ b) : pTak S s f (b + 1).toNat = (pTak S s f b.toNat || (decide (S (136 + b) = s) || decide (f = S (136 + b)))) := by
  rw [show (b + 1).toNat = b.toNat + 1 by omega]
  show (pTak S s f b.toNat || (decide (S (136 + ((b.toNat : Nat) : Int)) = s) || decide (f = S (136 + ((b.toNat : Nat) : Int))))) = _
  rw [Int.toNat_of_nonneg h]
theorem pTak_m {S : Int → Int} {s f : Int} : ∀ {m k : Nat}, k ≤ m → pTak S s f k = true → pTak S s f m = true := by
  intro m
  induction m with
  | zero =>
    intro k h hk
    rw [show k = 0 by omega] at hk
    exact hk
  | succ m ih =>
    intro k h hk
    by_cases e : k = m + 1
    · rw [← e]
      exact hk
    · show (pTak S s f m || _) = true
      rw [ih (show k ≤ m by omega) hk]
      rfl
section PWS
variable {T : Int → Int} {n p i : Int} {S : Int → Int}
theorem pWs_e {f : Nat} (h3 : ¬ tKd T n p = 3) (h4 : ¬ tKd T n p = 4) : pWs T n f p S = .ok (p, S) := by
  cases f with
  | zero =>
    unfold pWs
    rw [if_neg h3, if_neg h4]
  | succ f =>
    unfold pWs
    rw [if_neg h3, if_neg h4]
theorem pWs_3 (h0 : 0 ≤ i ∧ i ≤ 60) (h : tKd T n p = 3) : pWs T n (60 - i).toNat p S = pNum T n p 1 7 (fun x p2 => if i < 60 then pWs T n (60 - (i + 1)).toNat p2 (uS (uS S (460 + S 5) x) 5 (S 5 + 1)) else .error (6, tFr T n p)) := by
  by_cases e : i < 60
  · rw [show (60 - i).toNat = (60 - (i + 1)).toNat + 1 by omega]
    simp only [e, if_true]
    show (if tKd T n p = 3 then _ else _) = _
    rw [if_pos h]
  · rw [show (60 - i).toNat = 0 by omega]
    simp only [e, if_false]
    unfold pWs
    rw [if_pos h]
theorem pWs_4 (h0 : 0 ≤ i ∧ i ≤ 60) (h : tKd T n p = 4) : pWs T n (60 - i).toNat p S = pNum T n (tNx T n p) 1 7 (fun x p2 => if i < 60 then pWs T n (60 - (i + 1)).toNat p2 (uS (uS S (460 + S 5) (-x)) 5 (S 5 + 1)) else .error (6, tFr T n (tNx T n p))) := by
  by_cases e : i < 60
  · rw [show (60 - i).toNat = (60 - (i + 1)).toNat + 1 by omega]
    simp only [e, if_true]
    show (if tKd T n p = 3 then _ else if tKd T n p = 4 then _ else _) = _
    rw [if_neg (by omega), if_pos h]
  · rw [show (60 - i).toNat = 0 by omega]
    simp only [e, if_false]
    unfold pWs
    rw [if_neg (by omega), if_pos h]
end PWS
