/-! HOW A TEXT IS READ: only its n bytes count -/
section TEX
variable {T T2 : Int → Int} {n p lo hi : Int} {S : Int → Int}
theorem tsp_t (hT : ∀ i, 0 ≤ i → i < n → T i = T2 i) : ∀ (f : Nat) (p : Int), 0 ≤ p → tsp T n f p = tsp T2 n f p := by
  intro f
  induction f with
  | zero => intro p _; rfl
  | succ f ih =>
    intro p h
    show (if p < n ∧ (T p = 10 ∨ T p = 32) then tsp T n f (p + 1) else p) = (if p < n ∧ (T2 p = 10 ∨ T2 p = 32) then tsp T2 n f (p + 1) else p)
    by_cases c : p < n
    · rw [hT p h c, ih (p + 1) (by omega)]
    · rw [if_neg (fun z => c z.1), if_neg (fun z => c z.1)]
theorem tFr_t (hT : ∀ i, 0 ≤ i → i < n → T i = T2 i) (h : 0 ≤ p) : tFr T n p = tFr T2 n p := tsp_t hT _ p h
theorem trn_t (hT : ∀ i, 0 ≤ i → i < n → T i = T2 i) {k : Int} : ∀ (f : Nat) (p : Int), 0 ≤ p → trn T n k f p = trn T2 n k f p := by
  intro f
  induction f with
  | zero => intro p _; rfl
  | succ f ih =>
    intro p h
    show (if p < n ∧ tk (T p) = k then trn T n k f (p + 1) else p) = (if p < n ∧ tk (T2 p) = k then trn T2 n k f (p + 1) else p)
    by_cases c : p < n
    · rw [hT p h c, ih (p + 1) (by omega)]
    · rw [if_neg (fun z => c z.1), if_neg (fun z => c z.1)]
theorem tNx_t (hT : ∀ i, 0 ≤ i → i < n → T i = T2 i) (h : 0 ≤ p) (h2 : p ≤ n) : tNx T n p = tNx T2 n p := by
  have hb := tFr_b (T := T) h2
  have e := tFr_t hT h
  unfold tNx
  rw [← e]
  by_cases c : tFr T n p < n
  · rw [if_pos c, if_pos c, ← hT _ (by omega) c]
    unfold tRn
    rw [trn_t hT _ _ (by omega)]
  · rw [if_neg c, if_neg c]
theorem tKd_t (hT : ∀ i, 0 ≤ i → i < n → T i = T2 i) (h : 0 ≤ p) (h2 : p ≤ n) : tKd T n p = tKd T2 n p := by
  have hb := tFr_b (T := T) h2
  have e := tFr_t hT h
  unfold tKd
  rw [← e, ← tNx_t hT h h2]
  by_cases c : tFr T n p < n
  · rw [if_pos c, if_pos c, ← hT _ (by omega) c]
  · rw [if_neg c, if_neg c]
theorem tvl_t (hT : ∀ i, 0 ≤ i → i < n → T i = T2 i) : ∀ (f : Nat) (q v : Int), 0 ≤ q → q + f ≤ n → tvl T f q v = tvl T2 f q v := by
  intro f
  induction f with
  | zero => intro q v _ _; rfl
  | succ f ih =>
    intro q v h h2
    show tvl T f (q + 1) (10 * v + T q - 48) = tvl T2 f (q + 1) (10 * v + T2 q - 48)
    rw [hT q h (by omega), ih (q + 1) _ (by omega) (by omega)]
theorem tNm_t (hT : ∀ i, 0 ≤ i → i < n → T i = T2 i) (h : 0 ≤ p) (h2 : p ≤ n) : tNm T n p = tNm T2 n p := by
  have hb := tFr_b (T := T) h2
  have hx := tNx_b (T := T) h2
  unfold tNm tVl
  rw [← tFr_t hT h, ← tNx_t hT h h2]
  exact tvl_t hT _ _ _ (by omega) (by omega)
theorem tWb_t (hT : ∀ i, 0 ≤ i → i < n → T i = T2 i) : ∀ (w : List Int) (q : Int), 0 ≤ q → q + w.length ≤ n → tWb T w q = tWb T2 w q := by
  intro w
  induction w with
  | nil => intro q _ _; rfl
  | cons a l ih =>
    intro q h h2
    rw [List.length_cons] at h2
    show (decide (T q = a) && tWb T l (q + 1)) = (decide (T2 q = a) && tWb T2 l (q + 1))
    rw [hT q h (by omega), ih (q + 1) (by omega) (by omega)]
theorem tW_t (hT : ∀ i, 0 ≤ i → i < n → T i = T2 i) (h : 0 ≤ p) (h2 : p ≤ n) {w : List Int} : tW T n p w = tW T2 n p w := by
  have hb := tFr_b (T := T) h2
  have hx := tNx_b (T := T) h2
  unfold tW sW
  rw [← tFr_t hT h, ← tNx_t hT h h2, ← tKd_t hT h h2]
  by_cases c : tNx T n p - tFr T n p = (w.length : Int)
  · rw [tWb_t hT w _ (by omega) (by omega)]
  · rw [decide_eq_false c, Bool.false_and, Bool.false_and]
theorem pMis_t (hT : ∀ i, 0 ≤ i → i < n → T i = T2 i) (h : 0 ≤ p) (h2 : p ≤ n) : pMis T n p = pMis T2 n p := by
  unfold pMis
  rw [tKd_t hT h h2]
theorem pNum_t (hT : ∀ i, 0 ≤ i → i < n → T i = T2 i) (h : 0 ≤ p) (h2 : p ≤ n) {k k2 : Int → Int → pR} (hk : ∀ x q, 0 ≤ q → q ≤ n → k x q = k2 x q) : pNum T n p lo hi k = pNum T2 n p lo hi k2 := by
  have hb := tFr_b (T := T) h2
  have hx := tNx_b (T := T) h2
  unfold pNum
  rw [← tKd_t hT h h2, ← tNm_t hT h h2, ← tFr_t hT h, ← pMis_t hT h h2, ← tNx_t hT h h2, hk _ _ (by omega) hx.2.1]
theorem pSem_t (hT : ∀ i, 0 ≤ i → i < n → T i = T2 i) (h : 0 ≤ p) (h2 : p ≤ n) : pSem T n p S = pSem T2 n p S := by
  unfold pSem
  rw [← tKd_t hT h h2, ← tFr_t hT h, ← pMis_t hT h h2, ← tNx_t hT h h2]
theorem pBits_t (hT : ∀ i, 0 ≤ i → i < n → T i = T2 i) {g : Int} : ∀ {f : Nat} {p len b : Int}, 0 ≤ p → p ≤ n → pBits T n S g f p len b = pBits T2 n S g f p len b := by
  intro f
  induction f with
  | zero =>
    intro p len b h h2
    unfold pBits
    rw [← tKd_t hT h h2, ← tNm_t hT h h2, ← tFr_t hT h]
  | succ f ih =>
    intro p len b h h2
    have hb := tFr_b (T := T) h2
    have hx := tNx_b (T := T) h2
    unfold pBits
    rw [← tKd_t hT h h2, ← tNm_t hT h h2, ← tFr_t hT h, ← tNx_t hT h h2, ih (by omega) hx.2.1]
theorem pWs_t (hT : ∀ i, 0 ≤ i → i < n → T i = T2 i) : ∀ {f : Nat} {p : Int} {S : Int → Int}, 0 ≤ p → p ≤ n → pWs T n f p S = pWs T2 n f p S := by
  intro f
  induction f with
  | zero =>
    intro p S h h2
    have hb := tFr_b (T := T) h2
    have hx := tNx_b (T := T) h2
    unfold pWs
    rw [← tKd_t hT h h2, ← tFr_t hT h, ← tNx_t hT h h2, pNum_t (k2 := fun _ _ => .error (6, tFr T n p)) hT h h2 (fun _ _ _ _ => rfl), pNum_t (k2 := fun _ _ => .error (6, tFr T n (tNx T n p))) hT (show 0 ≤ tNx T n p by omega) hx.2.1 (fun _ _ _ _ => rfl), ← tFr_t hT (show 0 ≤ tNx T n p by omega)]
  | succ f ih =>
    intro p S h h2
    have hb := tFr_b (T := T) h2
    have hx := tNx_b (T := T) h2
    unfold pWs
    rw [← tKd_t hT h h2, ← tNx_t hT h h2, pNum_t hT h h2 (fun x q q0 q1 => ih q0 q1), pNum_t hT (show 0 ≤ tNx T n p by omega) hx.2.1 (fun x q q0 q1 => ih q0 q1)]
theorem pBody_t (hT : ∀ i, 0 ≤ i → i < n → T i = T2 i) (h : 0 ≤ p) (h2 : p ≤ n) : pBody T n p S = pBody T2 n p S := by
  have hb := tFr_b (T := T) h2
  have hx := tNx_b (T := T) h2
  have x0 : 0 ≤ tNx T n p := by omega
  have x1 := hx.2.1
  unfold pBody
  rw [← tW_t hT h h2, ← tW_t hT h h2, ← tW_t hT h h2, ← tW_t hT h h2, ← tW_t hT h h2, ← tW_t hT h h2, ← tNx_t hT h h2, ← pMis_t hT h h2, ← tFr_t hT h]
  have e1 : pSwitch T n (tNx T n p) S = pSwitch T2 n (tNx T n p) S := by
    unfold pSwitch
    exact pNum_t hT x0 x1 (fun x q q0 q1 => pNum_t hT q0 q1 (fun y q2 q20 q21 => pBits_t hT q20 q21))
  have e2 : pBobbin T n p (tNx T n p) S = pBobbin T2 n p (tNx T n p) S := by
    unfold pBobbin
    rw [← tFr_t hT h, ← tFr_t hT x0]
    rw [pNum_t (k2 := fun s p1 => if pTak S s (pF (S 0) (S 1) s) (S 2).toNat = true then .error (4, tFr T n (tNx T n p)) else .ok (p1, pNew S s)) hT x0 x1 (fun _ _ _ _ => rfl)]
  have e3 : pStuck T n (tNx T n p) S = pStuck T2 n (tNx T n p) S := by
    unfold pStuck
    refine pNum_t hT x0 x1 (fun x q q0 q1 => ?_)
    rw [← tW_t hT q0 q1, ← tW_t hT q0 q1, ← tNx_t hT q0 q1, ← pMis_t hT q0 q1, ← tFr_t hT q0]
  have e4 : pFree T n p (tNx T n p) S = pFree T2 n p (tNx T n p) S := by
    unfold pFree
    rw [← tFr_t hT h, pNum_t (k2 := fun g p1 => .ok (p1, uS S (104 + g) 1)) hT x0 x1 (fun _ _ _ _ => rfl)]
  have e5 : pPlace T n (tNx T n p) S = pPlace T2 n (tNx T n p) S := by
    unfold pPlace
    exact pNum_t hT x0 x1 (fun x q q0 q1 => pNum_t hT q0 q1 (fun _ _ _ _ => rfl))
  have e6 : ∀ k : Nat, pWs T n k (tNx T n p) (uS S 5 0) = pWs T2 n k (tNx T n p) (uS S 5 0) := fun k => pWs_t hT x0 x1
  rw [e1, e2, e3, e4, e5, e6 60]
theorem pLine_t (hT : ∀ i, 0 ≤ i → i < n → T i = T2 i) (h : 0 ≤ p) (h2 : p ≤ n) (hk : ¬ tKd T n p = 0) : pLine T n p S = pLine T2 n p S := by
  unfold pLine
  rw [← pBody_t hT h h2]
  cases hB : pBody T n p S with
  | error e => rfl
  | ok x =>
    have hq := pBody_p h2 hk (show pBody T n p S = .ok (x.1, x.2) from hB)
    exact pSem_t hT (by omega) hq.2
theorem pLines_t (hT : ∀ i, 0 ≤ i → i < n → T i = T2 i) : ∀ {f : Nat} {p : Int} {S : Int → Int}, 0 ≤ p → p ≤ n → pLines T n f p S = pLines T2 n f p S := by
  intro f
  induction f with
  | zero => intro p S _ _; rfl
  | succ f ih =>
    intro p S h h2
    by_cases hk : tKd T n p = 0
    · rw [pLines_0 hk, pLines_0 (by rw [← tKd_t hT h h2]; exact hk)]
    · rw [pLines_s hk, pLines_s (by rw [← tKd_t hT h h2]; exact hk), ← pLine_t hT h h2 hk]
      cases hL : pLine T n p S with
      | error e => rfl
      | ok x =>
        have hq := pLine_p h2 hk (show pLine T n p S = .ok (x.1, x.2) from hL)
        exact ih (by omega) hq.2
theorem pAll_t (hT : ∀ i, 0 ≤ i → i < n → T i = T2 i) (h2 : 0 ≤ n) : pAll T n = pAll T2 n := by
  have hx := tNx_b (T := T) (p := 0) h2
  have hb := tFr_b (T := T) (p := 0) h2
  have x0 : 0 ≤ tNx T n 0 := by omega
  have eS : pSz T n = pSz T2 n := by
    unfold pSz
    rw [← tW_t hT (Int.le_refl 0) h2, ← tNx_t hT (Int.le_refl 0) h2, ← pMis_t hT (Int.le_refl 0) h2, ← tFr_t hT (Int.le_refl 0)]
    rw [pNum_t hT x0 hx.2.1 (fun x q q0 q1 => pNum_t hT q0 q1 (fun y q2 q20 q21 => pSem_t hT q20 q21))]
  have key : ∀ m : Nat, pBind (pSz T n) (pLines T n m) = pBind (pSz T n) (pLines T2 n m) := by
    intro m
    cases hS : pSz T n with
    | error e => rfl
    | ok x =>
      obtain ⟨q, S⟩ := x
      have hq := pSz_p h2 hS
      exact pLines_t (f := m) (p := q) (S := S) hT (by omega) hq.2
  unfold pAll
  rw [← eS]
  exact key 901
end TEX
