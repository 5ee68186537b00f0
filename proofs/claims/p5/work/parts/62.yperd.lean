/-! THE REFERENCE: switches come round with the period -/
theorem zyofP (n P : Nat) : Int32.ofNat n + Int32.ofNat P = Int32.ofNat (n + P) := (zyofA n P).symm
theorem zyremN {n : Nat} {L : Int32} (hn : n < 2147483648) (h1 : 1 ≤ zyN1 L) (h2 : zyN1 L ≤ 4) : Int32.ofNat n - Int32.ofNat n / L * L = Int32.ofNat (n % zyN1 L) := by
  have eL : L = Int32.ofNat (zyN1 L) := (zN_self L).symm
  have hd : zyN1 L = 1 ∨ zyN1 L = 2 ∨ zyN1 L = 3 ∨ zyN1 L = 4 := by omega
  rcases hd with e | e | e | e <;> rw [e] at eL <;> rw [e, eL]
  · exact pk_rem (a := n) (d := 1) (by omega) (by omega) (by omega)
  · exact pk_rem (a := n) (d := 2) (by omega) (by omega) (by omega)
  · exact pk_rem (a := n) (d := 3) (by omega) (by omega) (by omega)
  · exact pk_rem (a := n) (d := 4) (by omega) (by omega) (by omega)
theorem zgO_per {E : zyEm} {g n P : Nat} (h1 : 1 ≤ zyN1 (zyI E 75 (40 + min g 31))) (h2 : zyN1 (zyI E 75 (40 + min g 31)) ≤ 4) (hd : zyN1 (zyI E 75 (40 + min g 31)) ∣ P) (hn : n + P < 2147483648) : zgO E g (Int32.ofNat (n + P)) = zgO E g (Int32.ofNat n) := by
  unfold zgO
  rw [zyremN hn h1 h2, zyremN (show n < 2147483648 by omega) h1 h2]
  obtain ⟨q, hq⟩ := hd
  have e : (n + P) % zyN1 (zyI E 75 (40 + min g 31)) = n % zyN1 (zyI E 75 (40 + min g 31)) := by
    rw [hq, Nat.add_mul_mod_self_left]
  rw [e]
theorem zgM_per {E : zyEm} {r c s n P : Nat} (h1 : 1 ≤ r) (h2 : r ≤ 4) (h3 : 1 ≤ c) (h4 : c ≤ 5) (hr : zgr E = r) (hc : zgc E = c) (hs : s < zgNS r c) (hL : ∀ g, g < zgNG r c → 1 ≤ zyN1 (zyI E 75 (40 + g)) ∧ zyN1 (zyI E 75 (40 + g)) ≤ 4 ∧ zyN1 (zyI E 75 (40 + g)) ∣ P) (hn : n + P < 2147483648) : zgM E s (Int32.ofNat (n + P)) = zgM E s (Int32.ofNat n) := by
  have hT := (zgfacts h1 h2 h3 h4 hs).1
  unfold zgM zgV
  rw [hr, hc]
  rcases (zgfacts h1 h2 h3 h4 hT).2.2 with e | ⟨e, -⟩
  · rw [if_pos e, if_pos e]
  · have hNG := zgNG_le h2 h4
    obtain ⟨l1, l2, l3⟩ := hL _ e
    have em : min (zgG r c (zgT c s)) 31 = zgG r c (zgT c s) := by omega
    rw [zgO_per (by rw [em]; exact l1) (by rw [em]; exact l2) (by rw [em]; exact l3) hn]
theorem zgRk_add {E : zyEm} {s f0 a : Nat} : ∀ k, zgRk E (Int32.ofNat f0) s (a + k) = zgRk E (Int32.ofNat (f0 + a)) (zgRk E (Int32.ofNat f0) s a) k := by
  intro k
  induction k with
  | zero => rfl
  | succ k ih =>
    show zgM E (zgRk E (Int32.ofNat f0) s (a + k)) (Int32.ofNat f0 + Int32.ofNat (a + k)) = zgM E (zgRk E (Int32.ofNat (f0 + a)) (zgRk E (Int32.ofNat f0) s a) k) (Int32.ofNat (f0 + a) + Int32.ofNat k)
    rw [ih, zyofP, zyofP, show f0 + (a + k) = f0 + a + k by omega]
theorem zgRk_per {E : zyEm} {r c s f0 P : Nat} (h1 : 1 ≤ r) (h2 : r ≤ 4) (h3 : 1 ≤ c) (h4 : c ≤ 5) (hr : zgr E = r) (hc : zgc E = c) (hs : s < zgNS r c) (hL : ∀ g, g < zgNG r c → 1 ≤ zyN1 (zyI E 75 (40 + g)) ∧ zyN1 (zyI E 75 (40 + g)) ≤ 4 ∧ zyN1 (zyI E 75 (40 + g)) ∣ P) : ∀ k, f0 + P + k < 2147483648 → zgRk E (Int32.ofNat (f0 + P)) s k = zgRk E (Int32.ofNat f0) s k := by
  intro k
  induction k with
  | zero => intro _; rfl
  | succ k ih =>
    intro hk
    show zgM E (zgRk E (Int32.ofNat (f0 + P)) s k) (Int32.ofNat (f0 + P) + Int32.ofNat k) = zgM E (zgRk E (Int32.ofNat f0) s k) (Int32.ofNat f0 + Int32.ofNat k)
    rw [ih (by omega), zyofP, zyofP, show f0 + P + k = f0 + k + P by omega]
    exact zgM_per h1 h2 h3 h4 hr hc (zgRk_lt h1 h2 h3 h4 hr hc hs k) hL (by omega)
/-- so many rounds from a step on -/
theorem zgRk_rounds {E : zyEm} {r c s f0 : Nat} (h1 : 1 ≤ r) (h2 : r ≤ 4) (h3 : 1 ≤ c) (h4 : c ≤ 5) (hr : zgr E = r) (hc : zgc E = c) (hs : s < zgNS r c) (hL : ∀ g, g < zgNG r c → 1 ≤ zyN1 (zyI E 75 (40 + g)) ∧ zyN1 (zyI E 75 (40 + g)) ≤ 4 ∧ zyN1 (zyI E 75 (40 + g)) ∣ zgP E) : ∀ j, f0 + zgP E * (j + 1) < 2147483648 → zgRk E (Int32.ofNat f0) s (zgP E * j) = zyit (fun v => zgR E v (Int32.ofNat f0)) j s := by
  intro j
  induction j with
  | zero => intro _; rfl
  | succ j ih =>
    intro hj
    have e1 : zgP E * (j + 1 + 1) = zgP E * j + zgP E + zgP E := by rw [Nat.mul_succ, Nat.mul_succ]
    have e2 : zgP E * (j + 1) = zgP E * j + zgP E := Nat.mul_succ _ _
    rw [e1] at hj
    have ih := ih (by rw [e2]; omega)
    rw [e2, zgRk_add, ih]
    show zgRk E (Int32.ofNat (f0 + zgP E * j)) (zyit (fun v => zgR E v (Int32.ofNat f0)) j s) (zgP E) = zgRk E (Int32.ofNat f0) (zyit (fun v => zgR E v (Int32.ofNat f0)) j s) (zgP E)
    refine zgRk_per (P := zgP E * j) h1 h2 h3 h4 hr hc (zyit_lt (fun v hv => zgRk_lt h1 h2 h3 h4 hr hc hv _) hs j) (fun g hg => ?_) _ (by omega)
    obtain ⟨a1, a2, a3⟩ := hL g hg
    exact ⟨a1, a2, Nat.dvd_trans a3 (Nat.dvd_mul_right _ _)⟩
