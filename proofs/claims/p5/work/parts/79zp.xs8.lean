/-! THE REFERENCE stands at a token -/
section STD
variable {T : Int → Int} {n p : Int}
theorem tsp_x : ∀ (f : Nat) (p : Int), n - p ≤ (f : Int) → ¬ (tsp T n f p < n ∧ (T (tsp T n f p) = 10 ∨ T (tsp T n f p) = 32)) := by
  intro f
  induction f with
  | zero =>
    intro p h hc
    have hc : p < n ∧ (T p = 10 ∨ T p = 32) := hc
    omega
  | succ f ih =>
    intro p h
    show ¬ ((if p < n ∧ (T p = 10 ∨ T p = 32) then tsp T n f (p + 1) else p) < n ∧ (T (if p < n ∧ (T p = 10 ∨ T p = 32) then tsp T n f (p + 1) else p) = 10 ∨ T (if p < n ∧ (T p = 10 ∨ T p = 32) then tsp T n f (p + 1) else p) = 32))
    by_cases c : p < n ∧ (T p = 10 ∨ T p = 32)
    · rw [if_pos c]
      exact ih (p + 1) (by omega)
    · rw [if_neg c]
      exact c
theorem tFr_f (T : Int → Int) (n p : Int) : tFr T n (tFr T n p) = tFr T n p := tFr_e (tsp_x (n - p).toNat p (by omega))
theorem tNx_f : tNx T n (tFr T n p) = tNx T n p := by
  unfold tNx
  rw [tFr_f]
theorem tKd_f : tKd T n (tFr T n p) = tKd T n p := by
  unfold tKd
  rw [tFr_f, tNx_f]
theorem tNm_f : tNm T n (tFr T n p) = tNm T n p := by
  unfold tNm
  rw [tFr_f, tNx_f]
theorem pMis_f : pMis T n (tFr T n p) = pMis T n p := by
  unfold pMis
  rw [tKd_f]
theorem tW_f {w : List Int} : tW T n (tFr T n p) w = tW T n p w := by
  unfold tW
  rw [tFr_f, tNx_f, tKd_f]
theorem pNum_f {lo hi : Int} {k : Int → Int → pR} : pNum T n (tFr T n p) lo hi k = pNum T n p lo hi k := by
  unfold pNum
  rw [tFr_f, tNx_f, tKd_f, tNm_f, pMis_f]
theorem pSem_f {S : Int → Int} : pSem T n (tFr T n p) S = pSem T n p S := by
  unfold pSem
  rw [tFr_f, tNx_f, tKd_f, pMis_f]
theorem tKd_i (h : p ≤ n) : (tKd T n p = 0 → tFr T n p = n) ∧ (¬ tKd T n p = 0 → tFr T n p < n) := by
  have h1 := tFr_b (T := T) h
  have h2 := tKd_0 (T := T) h
  omega
theorem tKd_s (h : tFr T n p < n) : (tKd T n p = 4 ↔ T (tFr T n p) = 45) ∧ (tKd T n p = 5 ↔ T (tFr T n p) = 59) := by
  by_cases c : tk (T (tFr T n p)) = 3 ∧ 3 < tNx T n p - tFr T n p
  · rw [tKd_b h c.1 c.2]
    have h1 := c.1
    unfold tk at h1
    by_cases c1 : 97 ≤ T (tFr T n p) ∧ T (tFr T n p) ≤ 122
    · rw [if_pos c1] at h1
      omega
    · rw [if_neg c1] at h1
      by_cases c2 : 48 ≤ T (tFr T n p) ∧ T (tFr T n p) ≤ 57
      · omega
      · rw [if_neg c2] at h1
        revert h1
        split
        · intro h; omega
        · split
          · intro h; omega
          · intro h; omega
  · rw [tKd_k h c]
    unfold tk
    by_cases c1 : 97 ≤ T (tFr T n p) ∧ T (tFr T n p) ≤ 122
    · rw [if_pos c1]
      omega
    · rw [if_neg c1]
      by_cases c2 : 48 ≤ T (tFr T n p) ∧ T (tFr T n p) ≤ 57
      · rw [if_pos c2]
        omega
      · rw [if_neg c2]
        by_cases c3 : T (tFr T n p) = 45
        · rw [if_pos c3]
          omega
        · rw [if_neg c3]
          by_cases c4 : T (tFr T n p) = 59
          · rw [if_pos c4]
            omega
          · rw [if_neg c4]
            omega
end STD
/-- what is known where the reference stands at p -/
theorem xRD_i {T : Int → Int} {n p : Int} {E : zyEm} (h : xRD T n p E) (h0 : p ≤ n) : xE E 74 38 = tFr T n p ∧ (p ≤ tFr T n p ∧ tFr T n p ≤ n) ∧ (0 ≤ tKd T n p ∧ tKd T n p ≤ 5) ∧ ((tKd T n p = 0 ∧ xE E 74 40 = 0) ∨ (tKd T n p = 2 ∧ xE E 74 40 = 1) ∨ (tKd T n p = 3 ∧ xE E 74 40 = 2) ∨ ((tKd T n p = 4 ∨ tKd T n p = 5) ∧ xE E 74 40 = 3) ∨ (tKd T n p = 1 ∧ xE E 74 40 = 4)) ∧ (¬ tKd T n p = 0 → xE E 74 39 = tNx T n p ∧ tNx T n p ≤ n ∧ p < tNx T n p ∧ tFr T n p < n) ∧ (tKd T n p = 0 → tFr T n p = n) ∧ (tKd T n p = 3 → xE E 74 41 = tNm T n p) ∧ (tKd T n p = 4 ↔ xE E 74 40 = 3 ∧ T (tFr T n p) = 45) ∧ (tKd T n p = 5 ↔ xE E 74 40 = 3 ∧ T (tFr T n p) = 59) := by
  obtain ⟨h1, h2, h3, h4, h5, h6⟩ := h
  have hr := tKd_r (T := T) (n := n) (p := p)
  have hi := tKd_i (T := T) h0
  have hx := tNx_b (T := T) h0
  have hb := tFr_b (T := T) h0
  have hs : tFr T n p < n → (tKd T n p = 4 ↔ T (tFr T n p) = 45) ∧ (tKd T n p = 5 ↔ T (tFr T n p) = 59) := fun hl => tKd_s hl
  unfold rKd at h2
  have hk : (tKd T n p = 0 ∧ xE E 74 40 = 0) ∨ (tKd T n p = 2 ∧ xE E 74 40 = 1) ∨ (tKd T n p = 3 ∧ xE E 74 40 = 2) ∨ ((tKd T n p = 4 ∨ tKd T n p = 5) ∧ xE E 74 40 = 3) ∨ (tKd T n p = 1 ∧ xE E 74 40 = 4) := by
    split at h2
    · omega
    · split at h2
      · omega
      · split at h2
        · omega
        · split at h2 <;> omega
  refine ⟨h1, hb, hr, hk, fun hz => ?_, fun hz => ?_, h5, ?_, ?_⟩
  · have := hi.2 hz
    have h3 := h3 this
    have := hx.2.2 this
    exact ⟨h3, hx.2.1, by omega, by omega⟩
  · exact hi.1 hz
  · constructor
    · intro hz
      have := hi.2 (by omega)
      exact ⟨by omega, ((hs (by omega)).1).mp hz⟩
    · rintro ⟨hz, hz2⟩
      have := hi.2 (by omega)
      exact ((hs (by omega)).1).mpr hz2
  · constructor
    · intro hz
      have := hi.2 (by omega)
      exact ⟨by omega, ((hs (by omega)).2).mp hz⟩
    · rintro ⟨hz, hz2⟩
      have := hi.2 (by omega)
      exact ((hs (by omega)).2).mpr hz2
/-- a fault is told -/
def xEr (E : zyEm) (R : pR) : Prop := 1 ≤ xE E 74 36 ∧ R = .error (xE E 74 36, xE E 74 37)
theorem xEr_k {E E2 : zyEm} {R : pR} (h : xEr E R) (h1 : xE E2 74 36 = xE E 74 36) (h2 : xE E2 74 37 = xE E 74 37) : xEr E2 R := by
  unfold xEr
  rw [h1, h2]
  exact h
theorem xEr_n {E : zyEm} {f a : Int} (hf : 1 ≤ f) (h1 : xE E 74 36 = f) (h2 : xE E 74 37 = a) : xEr E (.error (f, a)) := by
  unfold xEr
  rw [h1, h2]
  exact ⟨hf, rfl⟩
/-- what reading comes to -/
def xRs (T : Int → Int) (n : Int) (E2 : zyEm) (R : pR) : Prop := match R with
  | .ok (q, S) => xE E2 74 36 = 0 ∧ q ≤ n ∧ xRD T n q E2 ∧ ∀ k, 0 ≤ k → k < 520 → xE E2 75 k = S k
  | .error (f, a) => 1 ≤ f ∧ xE E2 74 36 = f ∧ xE E2 74 37 = a
theorem xRs_e {T : Int → Int} {n : Int} {E : zyEm} {R : pR} (h : xEr E R) : xRs T n E R := by
  rw [h.2]
  exact ⟨h.1, rfl, rfl⟩
theorem xRs_r {T : Int → Int} {n : Int} {E : zyEm} {R : pR} (h : xRs T n E R) (hw : ¬ xE E 74 36 = 0) : xEr E R := by
  cases R with
  | ok x => exact absurd h.1 hw
  | error e =>
    obtain ⟨f, a⟩ := e
    obtain ⟨h1, h2, h3⟩ := h
    exact xEr_n h1 h2 h3
theorem xRs_o {T : Int → Int} {n : Int} {E : zyEm} {R : pR} (h : xRs T n E R) (hw : xE E 74 36 = 0) : ∃ q S, R = .ok (q, S) ∧ q ≤ n ∧ xRD T n q E ∧ ∀ k, 0 ≤ k → k < 520 → xE E 75 k = S k := by
  cases R with
  | ok x => exact ⟨x.1, x.2, rfl, h.2⟩
  | error e =>
    obtain ⟨f, a⟩ := e
    obtain ⟨h1, h2, h3⟩ := h
    omega
theorem xTm_g {T : Int → Int} {n p : Int} {E E2 : zyEm} {r : Int} {x : Nat → Int} (h : xΨtm x E E2 r) (hw : xE E 74 36 = 0) (hs : xRD T n p E) (hp : p ≤ n) (hT : ∀ i, xE E 84 i = T i) (hn : xE E 74 42 = n) :
    (xE E2 74 36 = 0 ∧ xRD T n (tNx T n p) E2 ∧ tNx T n p ≤ n ∧ p < tNx T n p ∧ x 0 ≤ r ∧ r ≤ x 1 ∧ ∀ k, pNum T n p (x 0) (x 1) k = k r (tNx T n p)) ∨ (∀ k, xEr E2 (pNum T n p (x 0) (x 1) k)) := by
  have hT : T = xE E 84 := (funext hT).symm
  subst hT
  subst hn
  obtain ⟨s1, s1b, s2, s3, s4, s5, s6, s7, s8⟩ := xRD_i hs hp
  unfold xΨtm at h
  rw [if_pos hw] at h
  by_cases c2 : xE E 74 40 = 2
  · have k3 : tKd (xE E 84) (xE E 74 42) p = 3 := by omega
    rw [if_pos c2] at h
    by_cases c3 : x 0 ≤ xE E 74 41 ∧ xE E 74 41 ≤ x 1
    · rw [if_pos c3] at h
      obtain ⟨h1, h2, h3⟩ := h
      have s4 := s4 (by omega)
      have s6 := s6 k3
      rw [s4.1] at h3
      refine Or.inl ⟨h1, h3, s4.2.1, s4.2.2.1, by omega, by omega, fun k => ?_⟩
      unfold pNum
      rw [if_pos k3, ← s6, if_pos c3, h2]
    · rw [if_neg c3] at h
      refine Or.inr (fun k => ?_)
      unfold pNum
      rw [if_pos k3, ← s6 k3, if_neg c3]
      exact xEr_n (by omega) h.1 (by omega)
  · rw [if_neg c2] at h
    refine Or.inr (fun k => ?_)
    unfold pNum pMis
    rw [if_neg (show ¬ tKd (xE E 84) (xE E 74 42) p = 3 by omega)]
    by_cases c1 : tKd (xE E 84) (xE E 74 42) p = 1
    · rw [if_pos (show xE E 74 40 = 4 by omega)] at h
      rw [if_pos c1]
      exact xEr_n (by omega) h.1 (by omega)
    · rw [if_neg (show ¬ xE E 74 40 = 4 by omega)] at h
      rw [if_neg c1]
      exact xEr_n (by omega) h.1 (by omega)
theorem xTk_g {T : Int → Int} {n p : Int} {E E2 : zyEm} {r : Int} {x : Nat → Int} (h : xΨtk x E E2 r) (hw : xE E 74 36 = 0) (hs : xRD T n p E) (hp : p ≤ n) (hT : ∀ i, xE E 84 i = T i) (hn : xE E 74 42 = n) :
    (¬ x 0 = 0 → ¬ tKd T n p = 0 → xE E2 74 36 = 0 ∧ xRD T n (tNx T n p) E2 ∧ tNx T n p ≤ n ∧ p < tNx T n p) ∧ (x 0 = 0 → xEr E2 (.error (pMis T n p, tFr T n p))) := by
  have hT : T = xE E 84 := (funext hT).symm
  subst hT
  subst hn
  obtain ⟨s1, s1b, s2, s3, s4, s5, s6, s7, s8⟩ := xRD_i hs hp
  unfold xΨtk at h
  rw [if_pos hw] at h
  constructor
  · intro hx hk
    rw [if_neg hx] at h
    obtain ⟨h1, h2⟩ := h
    have s4 := s4 hk
    rw [s4.1] at h2
    exact ⟨h1, h2, s4.2.1, s4.2.2.1⟩
  · intro hx
    rw [if_pos hx] at h
    unfold pMis
    by_cases c1 : tKd (xE E 84) (xE E 74 42) p = 1
    · rw [if_pos (show xE E 74 40 = 4 by omega)] at h
      rw [if_pos c1]
      exact xEr_n (by omega) h.1 (by omega)
    · rw [if_neg (show ¬ xE E 74 40 = 4 by omega)] at h
      rw [if_neg c1]
      exact xEr_n (by omega) h.1 (by omega)
theorem xIs_g {T : Int → Int} {n p : Int} {E E2 : zyEm} {r : Int} {x : Nat → Int} (h : xΨis x E E2 r) (hw : xE E 74 36 = 0) (hs : xRD T n p E) (hp : p ≤ n) (hT : ∀ i, xE E 84 i = T i) : (x 0 = 45 → r = if tKd T n p = 4 then 1 else 0) ∧ (x 0 = 59 → r = if tKd T n p = 5 then 1 else 0) := by
  have hT : T = xE E 84 := (funext hT).symm
  subst hT
  obtain ⟨s1, s1b, s2, s3, s4, s5, s6, s7, s8⟩ := xRD_i hs hp
  unfold xΨis at h
  rw [← s1] at s7 s8
  constructor
  · intro hx
    rw [hx] at h
    by_cases c : tKd (xE E 84) n p = 4
    · rw [if_pos c]
      rw [if_pos ⟨hw, s7.mp c⟩] at h
      exact h
    · rw [if_neg c]
      rw [if_neg (fun z => c (s7.mpr z.2))] at h
      exact h
  · intro hx
    rw [hx] at h
    by_cases c : tKd (xE E 84) n p = 5
    · rw [if_pos c]
      rw [if_pos ⟨hw, s8.mp c⟩] at h
      exact h
    · rw [if_neg c]
      rw [if_neg (fun z => c (s8.mpr z.2))] at h
      exact h
/-- the words, in the reference's order -/
def wrd (k : Nat) : List Int := if k = 0 then [115, 105, 122, 101] else if k = 1 then [115, 119, 105, 116, 99, 104] else if k = 2 then [98, 111, 98, 98, 105, 110] else if k = 3 then [115, 116, 117, 99, 107] else if k = 4 then [111, 112, 101, 110] else if k = 5 then [115, 104, 117, 116] else if k = 6 then [102, 114, 101, 101] else if k = 7 then [112, 108, 97, 99, 101] else [119, 111, 114, 100]
theorem wrd_b (k : Nat) : (wrd k).length ≤ 8 ∧ ∀ i : Nat, i < (wrd k).length → 97 ≤ wFn (wrd k) (0 + (i : Int)) ∧ wFn (wrd k) (0 + (i : Int)) ≤ 122 := by
  have h : ∀ k : Nat, k < 9 → (wrd k).length ≤ 8 ∧ ∀ i : Nat, i < 9 → i < (wrd k).length → 97 ≤ wFn (wrd k) (0 + (i : Int)) ∧ wFn (wrd k) (0 + (i : Int)) ≤ 122 := by decide +kernel
  by_cases c : k < 9
  · obtain ⟨h1, h2⟩ := h k c
    exact ⟨h1, fun i hi => h2 i (by omega) hi⟩
  · have e : wrd k = wrd 8 := by
      unfold wrd
      rw [if_neg (by omega), if_neg (by omega), if_neg (by omega), if_neg (by omega), if_neg (by omega), if_neg (by omega), if_neg (by omega), if_neg (by omega)]
      rfl
    rw [e]
    obtain ⟨h1, h2⟩ := h 8 (by omega)
    exact ⟨h1, fun i hi => h2 i (by omega) hi⟩
/-- the words' longs stand at place 85 -/
def xWs (E : zyEm) : Prop := ∀ k : Nat, k < 9 → E 85 k = some (.long (Int64.ofInt (lgo (wFn (wrd k)) (wrd k).length 0 0)))
theorem tW_l {T : Int → Int} {n p : Int} {k : Nat} (h : p ≤ n) (hk : tKd T n p = 2) : lLt T (tFr T n p) (tNx T n p) = Int64.ofInt (lgo (wFn (wrd k)) (wrd k).length 0 0) ↔ tW T n p (wrd k) = true := by
  obtain ⟨b1, b2⟩ := wrd_b k
  have hb := tNx_b (T := T) h
  have hl : tFr T n p < n := (tKd_i h).2 (by omega)
  have hk2 : tk (T (tFr T n p)) = 2 := by
    by_cases c : tk (T (tFr T n p)) = 3 ∧ 3 < tNx T n p - tFr T n p
    · rw [tKd_b hl c.1 c.2] at hk
      omega
    · rw [tKd_k hl c] at hk
      exact hk
  have hx := tNx_k hl (Or.inl hk2)
  rw [hk2] at hx
  rw [lLt_w hb.1 (fun i h1 h2 => tk2_i ?_) b1 b2]
  · unfold tW sW
    rw [Bool.and_eq_true, Bool.and_eq_true, decide_eq_true_eq, decide_eq_true_eq]
    exact ⟨fun g => ⟨hk, g⟩, fun g => g.2⟩
  · by_cases e : i = tFr T n p
    · rw [e]
      exact hk2
    · rw [hx] at h2
      exact trn_a _ _ i (by omega) h2
