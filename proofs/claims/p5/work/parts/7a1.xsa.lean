/-! HOW A TEXT IS READ: what is kept; that only the cells up to 519 count -/
def sI (S : Int → Int) : Prop := (1 ≤ S 0 ∧ S 0 ≤ 4) ∧ (1 ≤ S 1 ∧ S 1 ≤ 5) ∧ (0 ≤ S 2 ∧ S 2 ≤ 8) ∧ ∀ b, 0 ≤ b → b < S 2 → 0 ≤ S (136 + b)
def sQ (S S2 : Int → Int) : Prop := ∀ k, 0 ≤ k → k < 520 → S k = S2 k
def rQ (R R2 : pR) : Prop := match R, R2 with
  | .ok (q, S), .ok (q2, S2) => q = q2 ∧ sQ S S2
  | .error e, .error e2 => e = e2
  | _, _ => False
theorem pBind_o {p : Int} {S : Int → Int} {k : Int → (Int → Int) → pR} : pBind (.ok (p, S)) k = k p S := rfl
section SIQ
variable {T : Int → Int} {n p q lo hi : Int} {S S2 : Int → Int}
theorem sI_k (h : sI S) (hk : ∀ k, (k = 0 ∨ k = 1 ∨ k = 2 ∨ (136 ≤ k ∧ k < 144)) → S2 k = S k) : sI S2 := by
  obtain ⟨h1, h2, h3, h4⟩ := h
  have e0 := hk 0 (by omega)
  have e1 := hk 1 (by omega)
  have e2 := hk 2 (by omega)
  refine ⟨by omega, by omega, by omega, fun b b0 b1 => ?_⟩
  rw [hk (136 + b) (by omega)]
  exact h4 b b0 (by omega)
theorem pNum_ok {k : Int → Int → pR} {r : Int × (Int → Int)} (h : pNum T n p lo hi k = .ok r) : ∃ x, lo ≤ x ∧ x ≤ hi ∧ tKd T n p = 3 ∧ k x (tNx T n p) = .ok r := by
  unfold pNum at h
  by_cases c1 : tKd T n p = 3
  · rw [if_pos c1] at h
    by_cases c2 : lo ≤ tNm T n p ∧ tNm T n p ≤ hi
    · rw [if_pos c2] at h
      exact ⟨_, c2.1, c2.2, c1, h⟩
    · rw [if_neg c2] at h
      cases h
  · rw [if_neg c1] at h
    cases h
theorem pBits_ok {g : Int} {r : Int × (Int → Int)} : ∀ {f : Nat} {p len b : Int}, pBits T n S g f p len b = .ok r → ∃ l2 b2, r.2 = uS (uS S (8 + g) b2) (40 + g) l2 := by
  intro f
  induction f with
  | zero =>
    intro p len b h
    by_cases c : tKd T n p = 3
    · unfold pBits at h
      rw [if_pos c] at h
      split at h <;> cases h
    · rw [pBits_n c] at h
      cases h
      exact ⟨_, _, rfl⟩
  | succ f ih =>
    intro p len b h
    by_cases c : tKd T n p = 3
    · unfold pBits at h
      rw [if_pos c] at h
      split at h
      · exact ih h
      · cases h
    · rw [pBits_n c] at h
      cases h
      exact ⟨_, _, rfl⟩
theorem gN_b {r c : Int} (hr : 1 ≤ r ∧ r ≤ 4) (hc : 1 ≤ c ∧ c ≤ 5) : 0 ≤ gN r c ∧ gN r c ≤ 31 := gN_r hr hc
theorem uS_sI {k x : Int} (h : sI S) (hk : 3 ≤ k) (hk2 : k < 136 ∨ 144 ≤ k) : sI (uS S k x) := sI_k h (fun j hj => uS_n (by omega))
theorem pWs_I : ∀ {f : Nat} {p : Int} {S : Int → Int}, sI S → 0 ≤ S 5 → pWs T n f p S = .ok (q, S2) → sI S2 := by
  intro f
  induction f with
  | zero =>
    intro p S hS h5 h
    unfold pWs at h
    split at h
    · obtain ⟨x, -, -, -, h⟩ := pNum_ok h
      cases h
    · split at h
      · obtain ⟨x, -, -, -, h⟩ := pNum_ok h
        cases h
      · cases h
        exact hS
  | succ f ih =>
    intro p S hS h5 h
    unfold pWs at h
    split at h
    · obtain ⟨x, -, -, -, h⟩ := pNum_ok h
      exact ih (uS_sI (uS_sI hS (by omega) (by omega)) (by decide) (by decide)) (by rw [uS_e rfl]; omega) h
    · split at h
      · obtain ⟨x, -, -, -, h⟩ := pNum_ok h
        exact ih (uS_sI (uS_sI hS (by omega) (by omega)) (by decide) (by decide)) (by rw [uS_e rfl]; omega) h
      · cases h
        exact hS
theorem pNew_I {s : Int} (h : sI S) (h8 : ¬ 8 ≤ S 2) (hs : 0 ≤ s) : sI (pNew S s) := by
  obtain ⟨h1, h2, h3, h4⟩ := h
  have e : ∀ k, ¬ k = 2 → ¬ k = 152 + S 2 → ¬ k = 144 + S 2 → ¬ k = 136 + S 2 → pNew S s k = S k := by
    intro k k1 k2 k3 k4
    unfold pNew
    rw [uS_n k1, uS_n k2, uS_n k3, uS_n k4]
  have e2 : pNew S s 2 = S 2 + 1 := uS_e rfl
  have e0 := e 0 (by omega) (by omega) (by omega) (by omega)
  have e1 := e 1 (by omega) (by omega) (by omega) (by omega)
  refine ⟨by omega, by omega, by omega, fun b b0 b1 => ?_⟩
  by_cases eb : b = S 2
  · have : pNew S s (136 + b) = s := by
      unfold pNew
      rw [uS_n (by omega), uS_n (by omega), uS_n (by omega), uS_e (by omega)]
    omega
  · rw [e _ (by omega) (by omega) (by omega) (by omega)]
    exact h4 b b0 (by omega)
theorem pBody_I (h : sI S) (he : pBody T n p S = .ok (q, S2)) : sI S2 := by
  have hg := gN_b h.1 h.2.1
  have h2 := h.2.2.1
  unfold pBody at he
  split at he
  · unfold pSwitch at he
    obtain ⟨x, x1, x2, -, he⟩ := pNum_ok he
    obtain ⟨y, y1, y2, -, he⟩ := pNum_ok he
    obtain ⟨l2, b2, e⟩ := pBits_ok he
    have e : S2 = uS (uS S (8 + x) b2) (40 + x) l2 := e
    rw [e]
    exact uS_sI (uS_sI h (by omega) (by omega)) (by omega) (by omega)
  · split at he
    · unfold pBobbin at he
      split at he
      · cases he
      · rename_i h8
        obtain ⟨x, x1, x2, -, he⟩ := pNum_ok he
        split at he
        · cases he
        · cases he
          exact pNew_I h h8 x1
    · split at he
      · unfold pStuck at he
        obtain ⟨x, x1, x2, -, he⟩ := pNum_ok he
        split at he
        · cases he
          exact uS_sI h (by omega) (by omega)
        · split at he
          · cases he
            exact uS_sI h (by omega) (by omega)
          · cases he
      · split at he
        · unfold pFree at he
          split at he
          · cases he
          · obtain ⟨x, x1, x2, -, he⟩ := pNum_ok he
            cases he
            exact uS_sI h (by omega) (by omega)
        · split at he
          · unfold pPlace at he
            obtain ⟨x, x1, x2, -, he⟩ := pNum_ok he
            obtain ⟨y, y1, y2, -, he⟩ := pNum_ok he
            cases he
            exact uS_sI h (by omega) (by omega)
          · split at he
            · exact pWs_I (uS_sI h (by decide) (by decide)) (by rw [uS_e rfl]; decide) he
            · cases he
theorem pSem_S {S : Int → Int} (he : pSem T n p S = .ok (q, S2)) : S2 = S := by
  unfold pSem at he
  split at he
  · cases he
    rfl
  · cases he
theorem pLine_I (h : sI S) (he : pLine T n p S = .ok (q, S2)) : sI S2 := by
  unfold pLine at he
  obtain ⟨p2, S3, h1, h2⟩ := pBind_ok he
  rw [pSem_S h2]
  exact pBody_I h h1
theorem sQ_u {k x : Int} (h : sQ S S2) : sQ (uS S k x) (uS S2 k x) := by
  intro j j0 j1
  unfold uS
  split
  · rfl
  · exact h j j0 j1
theorem rQ_r (R : pR) : rQ R R := by
  cases R with
  | ok x => exact ⟨rfl, fun _ _ _ => rfl⟩
  | error e => exact rfl
theorem pNum_q {k k2 : Int → Int → pR} (h : ∀ x q, rQ (k x q) (k2 x q)) : rQ (pNum T n p lo hi k) (pNum T n p lo hi k2) := by
  unfold pNum
  split
  · split
    · exact h _ _
    · exact rfl
  · exact rfl
theorem pBits_q {g : Int} (h : sQ S S2) : ∀ {f : Nat} {p len b : Int}, rQ (pBits T n S g f p len b) (pBits T n S2 g f p len b) := by
  intro f
  induction f with
  | zero =>
    intro p len b
    unfold pBits
    split
    · exact rQ_r _
    · exact ⟨rfl, sQ_u (sQ_u h)⟩
  | succ f ih =>
    intro p len b
    unfold pBits
    split
    · split
      · exact ih
      · exact rfl
    · exact ⟨rfl, sQ_u (sQ_u h)⟩
theorem pTak_q {s f : Int} (h : sQ S S2) : ∀ {k : Nat}, k ≤ 8 → pTak S s f k = pTak S2 s f k := by
  intro k
  induction k with
  | zero => intro _; rfl
  | succ k ih =>
    intro hk
    show (pTak S s f k || (decide (S (136 + (k : Int)) = s) || decide (f = S (136 + (k : Int))))) = (pTak S2 s f k || (decide (S2 (136 + (k : Int)) = s) || decide (f = S2 (136 + (k : Int)))))
    rw [ih (by omega), h (136 + (k : Int)) (by omega) (by omega)]
theorem pCnt_q (h : sQ S S2) : ∀ {k : Nat}, k ≤ 31 → pCnt S 104 k = pCnt S2 104 k := by
  intro k
  induction k with
  | zero => intro _; rfl
  | succ k ih =>
    intro hk
    show pCnt S 104 k + (if 0 < S (104 + (k : Int)) then 1 else 0) = pCnt S2 104 k + (if 0 < S2 (104 + (k : Int)) then 1 else 0)
    rw [ih (by omega), h (104 + (k : Int)) (by omega) (by omega)]
theorem pNew_q {s : Int} (h : sQ S S2) : sQ (pNew S s) (pNew S2 s) := by
  have e := h 2 (by decide) (by decide)
  unfold pNew
  rw [e]
  exact sQ_u (sQ_u (sQ_u (sQ_u h)))
theorem pWs_q : ∀ {f : Nat} {p : Int} {S S2 : Int → Int}, sQ S S2 → rQ (pWs T n f p S) (pWs T n f p S2) := by
  intro f
  induction f with
  | zero =>
    intro p S S2 h
    unfold pWs
    split
    · exact pNum_q (fun _ _ => rfl)
    · split
      · exact pNum_q (fun _ _ => rfl)
      · exact ⟨rfl, h⟩
  | succ f ih =>
    intro p S S2 h
    have e := h 5 (by decide) (by decide)
    unfold pWs
    split
    · refine pNum_q (fun x q => ?_)
      rw [e]
      exact ih (sQ_u (sQ_u h))
    · split
      · refine pNum_q (fun x q => ?_)
        rw [e]
        exact ih (sQ_u (sQ_u h))
      · exact ⟨rfl, h⟩
theorem pBody_q (hI : sI S) (h : sQ S S2) : rQ (pBody T n p S) (pBody T n p S2) := by
  have hg := gN_b hI.1 hI.2.1
  have h2 := hI.2.2.1
  have e0 := h 0 (by decide) (by decide)
  have e1 := h 1 (by decide) (by decide)
  have e2 := h 2 (by decide) (by decide)
  unfold pBody
  split
  · unfold pSwitch
    rw [e0, e1]
    exact pNum_q (fun x q => pNum_q (fun y q => pBits_q h))
  · split
    · unfold pBobbin
      rw [← e0, ← e1, ← e2]
      split
      · exact rfl
      · refine pNum_q (fun x q => ?_)
        rw [pTak_q h (by omega)]
        split
        · exact rfl
        · exact ⟨rfl, pNew_q h⟩
    · split
      · unfold pStuck
        rw [e0, e1]
        refine pNum_q (fun x q => ?_)
        split
        · exact ⟨rfl, sQ_u h⟩
        · split
          · exact ⟨rfl, sQ_u h⟩
          · exact rfl
      · split
        · unfold pFree
          rw [← e0, ← e1, pCnt_q h (by omega)]
          split
          · exact rfl
          · exact pNum_q (fun x q => ⟨rfl, sQ_u h⟩)
        · split
          · unfold pPlace
            rw [e0, e1, e2]
            exact pNum_q (fun x q => pNum_q (fun y q => ⟨rfl, sQ_u h⟩))
          · split
            · exact pWs_q (sQ_u h)
            · exact rfl
theorem pLine_q (hI : sI S) (h : sQ S S2) : rQ (pLine T n p S) (pLine T n p S2) := by
  have hb := pBody_q (T := T) (n := n) (p := p) hI h
  unfold pLine
  revert hb
  cases pBody T n p S with
  | error e =>
    cases pBody T n p S2 with
    | error e2 => exact fun hb => hb
    | ok x => exact fun hb => hb.elim
  | ok x =>
    cases pBody T n p S2 with
    | error e2 => exact fun hb => hb.elim
    | ok x2 =>
      rintro ⟨h1, h2⟩
      show rQ (pSem T n x.1 x.2) (pSem T n x2.1 x2.2)
      rw [show x.1 = x2.1 from h1]
      unfold pSem
      split
      · exact ⟨rfl, h2⟩
      · exact rfl
theorem pLine_f : pLine T n (tFr T n p) S = pLine T n p S := by
  have e : pBody T n (tFr T n p) S = pBody T n p S := by
    unfold pBody pBobbin pFree
    rw [tW_f, tW_f, tW_f, tW_f, tW_f, tW_f, tNx_f, pMis_f, tFr_f]
  unfold pLine
  rw [e]
theorem xRD_f {E : zyEm} (h : xRD T n p E) : xRD T n (tFr T n p) E := by
  obtain ⟨h1, h2, h3, h4, h5, h6⟩ := h
  refine ⟨by rw [tFr_f]; exact h1, by rw [tKd_f]; exact h2, by rw [tFr_f, tNx_f]; exact h3, by rw [tFr_f]; exact h4, by rw [tKd_f, tNm_f]; exact h5, by rw [tKd_f, tFr_f, tNx_f]; exact h6⟩
theorem xRs_q {E : zyEm} {R R2 : pR} (hq : rQ R R2) (h : xRs T n E R) : xRs T n E R2 := by
  cases R with
  | error e =>
    cases R2 with
    | error e2 =>
      rw [← show e = e2 from hq]
      exact h
    | ok x => exact hq.elim
  | ok x =>
    cases R2 with
    | error e2 => exact hq.elim
    | ok x2 =>
      obtain ⟨h1, h2⟩ := (show x.1 = x2.1 ∧ sQ x.2 x2.2 from hq)
      obtain ⟨g1, g2, g3, g4⟩ := (show xE E 74 36 = 0 ∧ x.1 ≤ n ∧ xRD T n x.1 E ∧ ∀ k, 0 ≤ k → k < 520 → xE E 75 k = x.2 k from h)
      rw [h1] at g2 g3
      exact ⟨g1, g2, g3, fun k k0 k1 => (g4 k k0 k1).trans (h2 k k0 k1)⟩
end SIQ
/-- the plan is cleared -/
def xΦcs (x : Nat → Int) (_ : zyEm) : Prop := (1 ≤ x 0 ∧ x 0 ≤ 4) ∧ (1 ≤ x 1 ∧ x 1 ≤ 5)
def xΨcs (x : Nat → Int) (_ E2 : zyEm) (_ : Int) : Prop := ∀ k, 0 ≤ k → k < 520 → xE E2 75 k = pClr (x 0) (x 1) k
noncomputable def fpfcs : zyR := [(75, 0, 555)]
theorem xCs {l : Launch} {en : zEn} {me : zMe} (hen : zG zxMeta 193 = some en) (hme : zG zMeth 193 = some me) : xFc l zymx en me 2 [74] 2 fpfcs false xΦcs xΨcs := by
  intro B xs hx
  refine zyMet_pt (fun a s hp => ?_)
  obtain ⟨rfl, hK, hI, hΦ⟩ := hp
  obtain ⟨y, z, rfl⟩ : ∃ y z, xs = [y, z] := by
    match xs, hx with
    | [y, z], _ => exact ⟨y, z, rfl⟩
  obtain ⟨r1, c1⟩ := (show xΦcs (xfv [xI y, xI z]) (zyEl zymx B s.heap) from hΦ)
  have r1 : 1 ≤ xI y ∧ xI y ≤ 4 := r1
  have c1 : 1 ≤ xI z ∧ xI z ≤ 5 := c1
  have ey : y = Int32.ofNat (xI y).toNat := by
    have := xofI y
    rw [xofN (by omega) (by omega)] at this
    exact this.symm
  have ez : z = Int32.ofNat (xI z).toNat := by
    have := xofI z
    rw [xofN (by omega) (by omega)] at this
    exact this.symm
  have hm := zyclears (l := l) hen hme B [y, z] rfl
  refine ⟨_, _, hm, ⟨rfl, hK, hI, (xI y).toNat, (xI z).toNat, by unfold zyPr; omega, by rw [← ey, ← ez]⟩, fun o t hq2 => ?_⟩
  obtain ⟨vo, f1, k1, k2, ⟨k3, k4, R, C, hp, hRC, k5⟩, k6⟩ := hq2
  refine ⟨vo, f1, k1, k2, ⟨fun a k hk => ?_, 0, k3, fun k k0 k1 => ?_⟩, k6⟩
  · by_cases e : a = 75
    · subst e
      have hk5 : 555 < k := Classical.byContradiction fun h => by
        rw [show zyin fpfcs 75 k = true from zyin_iff.mpr ⟨(75, 0, 555), List.mem_singleton_self _, rfl, Nat.zero_le _, (show k ≤ 555 by omega)⟩] at hk
        cases hk
      unfold zyEl
      rw [show zG zymx 75 = some zymx75 from rfl]
      dsimp only
      rw [if_neg (show ¬ k < zyLen zymx75 from by show ¬ k < 556; omega), if_neg (show ¬ k < zyLen zymx75 from by show ¬ k < 556; omega)]
    · exact k4 a k e
  · show xE (zyEl zymx B t.heap) 75 k = pClr (xI y) (xI z) k
    have h5 := k5 k.toNat (by omega)
    obtain ⟨p1, p2, p3, p4⟩ := hp
    have hy : y = Int32.ofNat R := (List.cons.inj hRC).1
    have hz : z = Int32.ofNat C := (List.cons.inj (List.cons.inj hRC).2).1
    have gy : xI y = (R : Int) := by rw [hy, xI_nat (by omega)]; exact if_pos (by omega)
    have gz : xI z = (C : Int) := by rw [hz, xI_nat (by omega)]; exact if_pos (by omega)
    have hb : zcl R C 31 k.toNat < 4294967296 := by
      unfold zcl
      split
      · omega
      · split
        · omega
        · split
          · omega
          · split <;> omega
    rw [xE_s h5 rfl, xI_nat hb, gy, gz]
    unfold pClr zcl
    by_cases a0 : k = 0
    · rw [if_pos (by omega), if_pos a0]
      exact if_pos (by omega)
    · rw [if_neg (by omega), if_neg a0]
      by_cases a1 : k = 1
      · rw [if_pos (by omega), if_pos a1]
        exact if_pos (by omega)
      · rw [if_neg (by omega), if_neg a1]
        by_cases a5 : k = 5
        · rw [if_pos (by omega), if_pos a5]
          rfl
        · rw [if_neg (by omega), if_neg a5]
          by_cases a4 : 40 ≤ k ∧ k ≤ 70
          · rw [if_pos (by omega), if_pos a4]
            rfl
          · rw [if_neg (by omega), if_neg a4]
            rfl
