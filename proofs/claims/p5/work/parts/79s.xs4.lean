/-! HOW A TEXT IS READ: positions go on -/
section POS
variable {T : Int → Int} {n p q lo hi : Int} {S S2 : Int → Int}
theorem tNx_p (h : p ≤ n) (hk : ¬ tKd T n p = 0) : p < tNx T n p ∧ tNx T n p ≤ n := by
  have h1 := tFr_b (T := T) h
  have h2 := tNx_b (T := T) h
  have h3 : ¬ tFr T n p = n := fun z => hk ((tKd_0 h).mpr z)
  omega
theorem pSem_p (h : p ≤ n) (he : pSem T n p S = .ok (q, S2)) : p < q ∧ q ≤ n := by
  unfold pSem at he
  split at he
  · rename_i hk
    cases he
    exact tNx_p h (by omega)
  · cases he
theorem pNum_p {k : Int → Int → pR} (h : p ≤ n) (he : pNum T n p lo hi k = .ok (q, S2)) : ∃ x p2, p < p2 ∧ p2 ≤ n ∧ k x p2 = .ok (q, S2) := by
  unfold pNum at he
  split at he
  · rename_i hk
    split at he
    · have := tNx_p (T := T) h (by omega)
      exact ⟨_, _, this.1, this.2, he⟩
    · cases he
  · cases he
theorem pBits_p {g : Int} : ∀ {f : Nat} {p len b : Int}, p ≤ n → pBits T n S g f p len b = .ok (q, S2) → p ≤ q ∧ q ≤ n := by
  intro f
  induction f with
  | zero =>
    intro p len b h he
    unfold pBits at he
    split at he
    · split at he <;> cases he
    · cases he
      omega
  | succ f ih =>
    intro p len b h he
    unfold pBits at he
    split at he
    · rename_i hk
      split at he
      · have h1 := tNx_p (T := T) h (by omega)
        have := ih h1.2 he
        omega
      · cases he
    · cases he
      omega
theorem pWs_p : ∀ {f : Nat} {p : Int} {S : Int → Int}, p ≤ n → pWs T n f p S = .ok (q, S2) → p ≤ q ∧ q ≤ n := by
  intro f
  induction f with
  | zero =>
    intro p S h he
    unfold pWs at he
    split at he
    · obtain ⟨x, p2, -, -, e⟩ := pNum_p h he
      cases e
    · split at he
      · rename_i hk
        obtain ⟨x, p2, -, -, e⟩ := pNum_p (tNx_p (T := T) h (by omega)).2 he
        cases e
      · cases he
        omega
  | succ f ih =>
    intro p S h he
    unfold pWs at he
    split at he
    · obtain ⟨x, p2, h1, h2, e⟩ := pNum_p h he
      have := ih h2 e
      omega
    · split at he
      · rename_i hk
        have h3 := tNx_p (T := T) h (by omega)
        obtain ⟨x, p2, h1, h2, e⟩ := pNum_p h3.2 he
        have := ih h2 e
        omega
      · cases he
        omega
theorem pBody_p (h : p ≤ n) (hk : ¬ tKd T n p = 0) (he : pBody T n p S = .ok (q, S2)) : p ≤ q ∧ q ≤ n := by
  have h1 := tNx_p (T := T) h hk
  unfold pBody at he
  split at he
  · unfold pSwitch at he
    obtain ⟨x, p2, a1, a2, e⟩ := pNum_p h1.2 he
    obtain ⟨x, p3, b1, b2, e⟩ := pNum_p a2 e
    have := pBits_p b2 e
    omega
  · split at he
    · unfold pBobbin at he
      split at he
      · cases he
      · obtain ⟨x, p2, a1, a2, e⟩ := pNum_p h1.2 he
        split at e
        · cases e
        · cases e
          omega
    · split at he
      · unfold pStuck at he
        obtain ⟨x, p2, a1, a2, e⟩ := pNum_p h1.2 he
        have hb := tNx_b (T := T) a2
        have hb2 := tFr_b (T := T) a2
        split at e
        · cases e
          omega
        · split at e
          · cases e
            omega
          · cases e
      · split at he
        · unfold pFree at he
          split at he
          · cases he
          · obtain ⟨x, p2, a1, a2, e⟩ := pNum_p h1.2 he
            cases e
            omega
        · split at he
          · unfold pPlace at he
            obtain ⟨x, p2, a1, a2, e⟩ := pNum_p h1.2 he
            obtain ⟨x, p3, b1, b2, e⟩ := pNum_p a2 e
            cases e
            omega
          · split at he
            · have := pWs_p h1.2 he
              omega
            · cases he
theorem pBind_ok {R : pR} {k : Int → (Int → Int) → pR} (he : pBind R k = .ok (q, S2)) : ∃ p2 S3, R = .ok (p2, S3) ∧ k p2 S3 = .ok (q, S2) := by
  cases R with
  | error e => cases he
  | ok x => exact ⟨x.1, x.2, rfl, he⟩
theorem pLine_p (h : p ≤ n) (hk : ¬ tKd T n p = 0) (he : pLine T n p S = .ok (q, S2)) : p < q ∧ q ≤ n := by
  unfold pLine at he
  obtain ⟨p2, S3, h1, h2⟩ := pBind_ok he
  have a := pBody_p h hk h1
  have b := pSem_p a.2 h2
  omega
theorem pSz_p (h : 0 ≤ n) (he : pSz T n = .ok (q, S2)) : 0 < q ∧ q ≤ n := by
  unfold pSz at he
  split at he
  · rename_i hw
    have hk : ¬ tKd T n 0 = 0 := by
      unfold tW sW at hw
      simp only [Bool.and_eq_true, decide_eq_true_eq] at hw
      omega
    have h1 := tNx_p (T := T) h hk
    obtain ⟨x, p2, a1, a2, e⟩ := pNum_p h1.2 he
    obtain ⟨x, p3, b1, b2, e⟩ := pNum_p a2 e
    have := pSem_p b2 e
    omega
  · cases he
theorem pLines_0 {f : Nat} (h : tKd T n p = 0) : pLines T n f p S = .ok (p, S) := by
  cases f with
  | zero => rfl
  | succ f => exact if_pos h
theorem pLines_s {f : Nat} (h : ¬ tKd T n p = 0) : pLines T n (f + 1) p S = pBind (pLine T n p S) (pLines T n f) := if_neg h
end POS
