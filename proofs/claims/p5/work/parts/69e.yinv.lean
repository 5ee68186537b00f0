/-! ROWS OF PLACES: inversions; rows that hold each place -/
def zcnt (h : Nat → Nat) (v : Nat) : Nat → Nat
  | 0 => 0
  | i + 1 => zcnt h v i + (if v < h i then 1 else 0)
def zinv (h : Nat → Nat) : Nat → Nat
  | 0 => 0
  | j + 1 => zinv h j + zcnt h (h j) j
def zsw (h : Nat → Nat) (k : Nat) : Nat → Nat := fun j => if j = k then h (k + 1) else if j = k + 1 then h k else h j
theorem zcnt_congr {h g : Nat → Nat} {v : Nat} : ∀ {n : Nat}, (∀ i, i < n → h i = g i) → zcnt h v n = zcnt g v n := by
  intro n
  induction n with
  | zero => intro _; rfl
  | succ n ih =>
    intro e
    show zcnt h v n + _ = zcnt g v n + _
    rw [ih (fun i hi => e i (by omega)), e n (by omega)]
theorem zinv_congr {h g : Nat → Nat} : ∀ {n : Nat}, (∀ i, i < n → h i = g i) → zinv h n = zinv g n := by
  intro n
  induction n with
  | zero => intro _; rfl
  | succ n ih =>
    intro e
    show zinv h n + zcnt h (h n) n = zinv g n + zcnt g (g n) n
    rw [ih (fun i hi => e i (by omega)), e n (by omega), zcnt_congr (fun i hi => e i (by omega))]
theorem zsw_lo {h : Nat → Nat} {k j : Nat} (hj : j < k) : zsw h k j = h j := by
  unfold zsw
  rw [if_neg (by omega), if_neg (by omega)]
theorem zsw_hi {h : Nat → Nat} {k j : Nat} (hj : k + 1 < j) : zsw h k j = h j := by
  unfold zsw
  rw [if_neg (by omega), if_neg (by omega)]
theorem zsw_0 {h : Nat → Nat} {k : Nat} : zsw h k k = h (k + 1) := if_pos rfl
theorem zsw_1 {h : Nat → Nat} {k : Nat} : zsw h k (k + 1) = h k := by
  unfold zsw
  rw [if_neg (by omega), if_pos rfl]
theorem zcnt_sw {h : Nat → Nat} {k v : Nat} : ∀ (d : Nat), zcnt (zsw h k) v (k + 2 + d) = zcnt h v (k + 2 + d) := by
  intro d
  induction d with
  | zero =>
    show zcnt (zsw h k) v k + (if v < zsw h k k then 1 else 0) + (if v < zsw h k (k + 1) then 1 else 0) = zcnt h v k + (if v < h k then 1 else 0) + (if v < h (k + 1) then 1 else 0)
    rw [zcnt_congr (g := h) (fun i hi => zsw_lo hi), zsw_0, zsw_1]
    omega
  | succ d ih =>
    show zcnt (zsw h k) v (k + 2 + d) + (if v < zsw h k (k + 2 + d) then 1 else 0) = zcnt h v (k + 2 + d) + (if v < h (k + 2 + d) then 1 else 0)
    rw [ih, zsw_hi (by omega)]
theorem zinv_sw {h : Nat → Nat} {k : Nat} (hk : h (k + 1) < h k) : ∀ (d : Nat), zinv (zsw h k) (k + 2 + d) + 1 = zinv h (k + 2 + d) := by
  intro d
  induction d with
  | zero =>
    show zinv (zsw h k) k + zcnt (zsw h k) (zsw h k k) k + (zcnt (zsw h k) (zsw h k (k + 1)) k + (if zsw h k (k + 1) < zsw h k k then 1 else 0)) + 1 = zinv h k + zcnt h (h k) k + (zcnt h (h (k + 1)) k + (if h (k + 1) < h k then 1 else 0))
    rw [zinv_congr (g := h) (fun i hi => zsw_lo hi), zcnt_congr (g := h) (fun i hi => zsw_lo hi), zcnt_congr (g := h) (fun i hi => zsw_lo hi), zsw_0, zsw_1, if_pos hk, if_neg (by omega)]
    omega
  | succ d ih =>
    show zinv (zsw h k) (k + 2 + d) + zcnt (zsw h k) (zsw h k (k + 2 + d)) (k + 2 + d) + 1 = zinv h (k + 2 + d) + zcnt h (h (k + 2 + d)) (k + 2 + d)
    rw [zsw_hi (by omega), zcnt_sw]
    omega
theorem zinv_lt {h : Nat → Nat} {k m : Nat} (hk : h (k + 1) < h k) (hm : k + 1 < m) : zinv (zsw h k) m + 1 = zinv h m := by
  have := zinv_sw hk (m - (k + 2))
  rwa [show k + 2 + (m - (k + 2)) = m by omega] at this
theorem zcnt_le {h : Nat → Nat} {v : Nat} : ∀ {n : Nat}, zcnt h v n ≤ n := by
  intro n
  induction n with
  | zero => exact Nat.le_refl _
  | succ n ih =>
    show zcnt h v n + (if v < h n then 1 else 0) ≤ n + 1
    split <;> omega
theorem zinv_le {h : Nat → Nat} : ∀ {n : Nat}, zinv h n ≤ zySum (fun i => i) n := by
  intro n
  induction n with
  | zero => exact Nat.le_refl _
  | succ n ih =>
    show zinv h n + zcnt h (h n) n ≤ zySum (fun i => i) n + n
    have := zcnt_le (h := h) (v := h n) (n := n)
    omega
theorem zySum_mono {f : Nat → Nat} {a : Nat} : ∀ {b : Nat}, a ≤ b → zySum f a ≤ zySum f b := by
  intro b
  induction b with
  | zero => intro h; rw [show a = 0 by omega]; exact Nat.le_refl _
  | succ b ih =>
    intro h
    by_cases e : a = b + 1
    · rw [e]
      exact Nat.le_refl _
    · have := ih (by omega)
      show zySum f a ≤ zySum f b + f b
      omega
theorem zinv_28 {h : Nat → Nat} {n : Nat} (hn : n ≤ 8) : zinv h n ≤ 28 := Nat.le_trans zinv_le (Nat.le_trans (zySum_mono hn) (by decide))
/-- each of m places is one's, and is within m -/
def zPm (g : Nat → Nat) (m : Nat) : Prop := ∀ t, t < m → g t < m ∧ ∃ p, p < m ∧ g p = t
theorem zPm_congr {g h : Nat → Nat} {m : Nat} (e : ∀ i, i < m → h i = g i) (hg : zPm g m) : zPm h m := by
  intro t ht
  obtain ⟨h1, p, h2, h3⟩ := hg t ht
  exact ⟨by rw [e t ht]; exact h1, p, h2, by rw [e p h2]; exact h3⟩
theorem zPm_sw {g : Nat → Nat} {m k : Nat} (hk : k + 1 < m) (hg : zPm g m) : zPm (zsw g k) m := by
  intro t ht
  refine ⟨?_, ?_⟩
  · unfold zsw
    split
    · exact (hg (k + 1) hk).1
    · split
      · exact (hg k (by omega)).1
      · exact (hg t ht).1
  · obtain ⟨-, p, h2, h3⟩ := hg t ht
    by_cases e : p = k
    · exact ⟨k + 1, hk, by rw [zsw_1, ← e]; exact h3⟩
    · by_cases e2 : p = k + 1
      · exact ⟨k, by omega, by rw [zsw_0, ← e2]; exact h3⟩
      · refine ⟨p, h2, ?_⟩
        unfold zsw
        rw [if_neg e, if_neg e2]
        exact h3
/-- two places change what they hold -/
theorem zPm_ch {g h : Nat → Nat} {m p q a b : Nat} (hp : p < m) (hq : q < m) (ha : a < m) (hb : b < m) (hab : ¬ a = b) (gp : g p = a) (gq : g q = b) (hg : zPm g m) (hh : ∀ j, j < m → h j = if j = q then a else if j = p then b else g j) : zPm h m := by
  have hpq : ¬ p = q := fun e => hab (by rw [← gp, ← gq, e])
  intro t ht
  refine ⟨?_, ?_⟩
  · rw [hh t ht]
    split
    · exact ha
    · split
      · exact hb
      · exact (hg t ht).1
  · by_cases e : t = a
    · exact ⟨q, hq, by rw [hh q hq, if_pos rfl, e]⟩
    · by_cases e2 : t = b
      · exact ⟨p, hp, by rw [hh p hp, if_neg hpq, if_pos rfl, e2]⟩
      · obtain ⟨-, p0, h2, h3⟩ := hg t ht
        refine ⟨p0, h2, ?_⟩
        rw [hh p0 h2, if_neg (fun z => e2 (by rw [← h3, z]; exact gq)), if_neg (fun z => e (by rw [← h3, z]; exact gp))]
        exact h3
/-- all is seen from behind -/
theorem zPm_mi {g h : Nat → Nat} {m : Nat} (hg : zPm g m) (hh : ∀ j, j < m → h (m - 1 - j) = m - 1 - g j) : zPm h m := by
  intro t ht
  refine ⟨?_, ?_⟩
  · have := hh (m - 1 - t) (by omega)
    rw [show m - 1 - (m - 1 - t) = t by omega] at this
    rw [this]
    omega
  · obtain ⟨-, p, h2, h3⟩ := hg (m - 1 - t) (by omega)
    refine ⟨m - 1 - p, by omega, ?_⟩
    rw [hh p h2, h3]
    omega
theorem zPm_id {h : Nat → Nat} {m : Nat} (hh : ∀ j, j < m → h j = j) : zPm h m := fun t ht => ⟨by rw [hh t ht]; exact ht, t, ht, hh t ht⟩
theorem zPm_rev {h : Nat → Nat} {m : Nat} (hh : ∀ j, j < m → h j = m - 1 - j) : zPm h m := fun t ht => ⟨by rw [hh t ht]; omega, m - 1 - t, by omega, by rw [hh _ (by omega)]; omega⟩
