section ZYV
variable {ρ : Nat → Int32} {N : Nat} {ad : Nat → Nat}
theorem zyv_zv {v : Nat} {w : Value} (h : zyv ρ N ad v w) (h4 : ¬ v % 8 = 4) (h6 : ¬ v % 8 = 6) : zv ρ ad v w := by
  rcases h with ⟨h, -⟩ | ⟨h, -⟩ | ⟨h, -⟩
  · exact h
  · exact absurd h h4
  · exact absurd h h6
theorem zyv_int {v : Nat} {w : Value} (h : zyv ρ N ad v w) (hk : v % 8 ≤ 2) : ∃ x : Int32, w = .int x := zv_int (zyv_zv h (by omega) (by omega)) hk
theorem zyv_0 {v : Nat} {w : Value} (h : zyv ρ N ad v w) (hk : v % 8 = 0) : w = .int (Int32.ofNat (v / 8)) := zv_0 (zyv_zv h (by omega) (by omega)) hk
theorem zyv_3 {v : Nat} {w : Value} (h : zyv ρ N ad v w) (hk : v % 8 = 3) : w = .ref (ad (v / 8)) := zv_3 (zyv_zv h (by omega) (by omega)) hk
theorem zyv_4 {v : Nat} {w : Value} (h : zyv ρ N ad v w) (hk : v % 8 = 4) : ∃ x : Int64, w = .long x ∧ (v / 8 < 18446744073709551616 → x = Int64.ofNat (v / 8)) := by
  rcases h with ⟨h, -⟩ | ⟨-, h2, x, h3⟩ | ⟨h, -⟩
  · exact ⟨_, zv_4 h hk, fun _ => rfl⟩
  · exact ⟨x, h3, fun q => by omega⟩
  · omega
theorem zyv_c {v : Nat} {w : Value} (h : zv ρ ad v w) (h1 : ¬ v % 8 = 1) (h4 : ¬ v % 8 = 4) : zyv ρ N ad v w := Or.inl ⟨h, fun q => absurd q h1, fun q => absurd q h4⟩
theorem zyv_mk {u : Nat} {x : Int32} (h : Int32.ofNat u = x) : zyv ρ N ad (8 * u) (.int x) := zyv_c (zv_mk h) (by omega) (by omega)
theorem zyv_mkx (x : Int32) : zyv ρ N ad (8 * x.toBitVec.toNat) (.int x) := zyv_mk (zN_self x)
theorem zyv_mkl {u : Nat} {x : Int64} (h : Int64.ofNat u = x) (hu : u < 18446744073709551616) : zyv ρ N ad (8 * u + 4) (.long x) := Or.inl ⟨zv_mkl h, fun q => by omega, fun _ => by omega⟩
theorem zyv_mklx (x : Int64) : zyv ρ N ad (8 * x.toBitVec.toNat + 4) (.long x) := zyv_mkl (zL_self x) x.toBitVec.isLt
theorem zyv_ref (p : Nat) : zyv ρ N ad (8 * p + 3) (.ref (ad p)) := zyv_c (zv_ref p) (by omega) (by omega)
theorem zyv_anyL (x : Int64) : zyv ρ N ad 147573952589676412932 (.long x) := Or.inr (Or.inl ⟨by decide, by decide, x, rfl⟩)
theorem zyv_zero : zyv ρ N ad 0 (.int 0) := zyv_mk (u := 0) rfl
theorem zyv_bd {lo hi : Nat} {x : Int32} (h1 : lo ≤ zB x) (h2 : zB x ≤ hi) (h3 : hi < 4294967296) : zyv ρ N ad (8 * (lo * 4294967296 + hi) + 2) (.int x) := zyv_c (zv_bd h1 h2 h3) (by omega) (by omega)
theorem zyv_cat {v : Nat} {w : Value} (h : zyv ρ N ad v w) : w.category = if v % 8 = 4 then 2 else 1 := by
  rcases h with ⟨h, -⟩ | ⟨h1, -, x, h3⟩ | ⟨h1, h2⟩
  · exact zv_cat h
  · rw [h3, if_pos h1]; rfl
  · rw [if_neg (by omega)]
    rcases h2 with h2 | h2 <;> rw [h2] <;> rfl
/-- more symbols -/
theorem zyv_up {ρ2 : Nat → Int32} {N2 v : Nat} {w : Value} (h : zyv ρ N ad v w) (hr : ∀ k, k < N → ρ2 k = ρ k) (hN : N ≤ N2) : zyv ρ2 N2 ad v w := by
  rcases h with ⟨h, h1, h4⟩ | h | h
  · refine Or.inl ⟨?_, fun q => Nat.lt_of_lt_of_le (h1 q) hN, h4⟩
    rcases h with h | ⟨g1, g2⟩ | h | h | h | h | h
    · exact Or.inl h
    · refine Or.inr (Or.inl ⟨g1, ?_⟩)
      rw [hr _ (h1 g1)]
      exact g2
    · exact Or.inr (Or.inr (Or.inl h))
    · exact Or.inr (Or.inr (Or.inr (Or.inl h)))
    · exact Or.inr (Or.inr (Or.inr (Or.inr (Or.inl h))))
    · exact Or.inr (Or.inr (Or.inr (Or.inr (Or.inr (Or.inl h)))))
    · exact Or.inr (Or.inr (Or.inr (Or.inr (Or.inr (Or.inr h)))))
  · exact Or.inr (Or.inl h)
  · exact Or.inr (Or.inr h)
/-- no symbol in it -/
theorem zyv_cl {ρ2 : Nat → Int32} {N2 v : Nat} {w : Value} (hc : ¬ v % 8 = 1) (h : zyv ρ N ad v w) : zyv ρ2 N2 ad v w := by
  rcases h with ⟨h, h1, h4⟩ | h | h
  · refine Or.inl ⟨?_, fun q => absurd q hc, h4⟩
    rcases h with h | ⟨g1, g2⟩ | h | h | h | h | h
    · exact Or.inl h
    · exact absurd g1 hc
    · exact Or.inr (Or.inr (Or.inl h))
    · exact Or.inr (Or.inr (Or.inr (Or.inl h)))
    · exact Or.inr (Or.inr (Or.inr (Or.inr (Or.inl h))))
    · exact Or.inr (Or.inr (Or.inr (Or.inr (Or.inr (Or.inl h)))))
    · exact Or.inr (Or.inr (Or.inr (Or.inr (Or.inr (Or.inr h)))))
  · exact Or.inr (Or.inl h)
  · exact Or.inr (Or.inr h)
def zyρ2 (ρ : Nat → Int32) (N : Nat) (x : Int32) : Nat → Int32 := fun j => if j = N then x else ρ j
theorem zyρ2_lt {x : Int32} {k : Nat} (h : k < N) : zyρ2 ρ N x k = ρ k := if_neg (by omega)
theorem zyv_new (x : Int32) : zyv (zyρ2 ρ N x) (N + 1) ad (N * 34359738368 + 1) (.int x) := by
  refine Or.inl ⟨Or.inr (Or.inl ⟨by omega, ?_⟩), fun _ => by omega, fun q => by omega⟩
  have e5 : (N * 34359738368 + 1) / 34359738368 = N := by omega
  have e6 : (N * 34359738368 + 1) / 8 % 4294967296 = 0 := by omega
  rw [e5, e6]
  congr 1
  show x = (if N = N then x else ρ N) + 0
  rw [if_pos rfl, Int32.add_zero]
theorem zyaff_ok {a u : Nat} {x : Int32} (h : a % 8 = 1) (ha : zyv ρ N ad a (.int x)) : zyv ρ N ad (zaff a u) (.int (x + Int32.ofNat u)) := by
  rcases ha with ⟨g1, g2, -⟩ | ⟨g, -⟩ | ⟨g, -⟩
  · have d : zaff a u = 8 * (a / 34359738368 * 4294967296 + (a / 8 % 4294967296 + u) % 4294967296) + 1 := rfl
    have q := zaff_ok (u := u) h g1
    have g3 := g2 h
    refine Or.inl ⟨q, fun _ => by omega, fun z => by omega⟩
  · omega
  · omega
theorem zybd_k {w : zW} {v : Nat} {k : Nat → Nat → Bool} (h : zbd w v k = true) : v % 8 ≤ 2 := by
  unfold zbd at h
  simp only [zn_m] at h
  rcases zif_iff h with ⟨h1, -⟩ | ⟨-, h2⟩
  · have := zbeqT h1
    omega
  rcases zif_iff h2 with ⟨h1, -⟩ | ⟨-, h2⟩
  · have := zbeqT h1
    omega
  rcases zif_iff h2 with ⟨h1, -⟩ | ⟨-, h2⟩
  · have := zbeqT h1
    omega
  · cases h2
theorem zybd_iff {w : zW} {v : Nat} {k : Nat → Nat → Bool} {x' : Value} (h : zbd w v k = true) (hE : zEnv ρ w.2) (hv : zyv ρ N ad v x') : ∃ (x : Int32) (lo hi : Nat), x' = .int x ∧ lo ≤ zB x ∧ zB x ≤ hi ∧ k lo hi = true := by
  have q := zybd_k h
  exact zbd_iff h hE (zyv_zv hv (by omega) (by omega))
theorem zycut_iff {w : zW} {v lo hi : Nat} {k : zW → Bool} {x : Int32} (h : zcut w v lo hi k = true) (hE : zEnv ρ w.2) (hv : zyv ρ N ad v (.int x)) (h1 : lo ≤ zB x) (h2 : zB x ≤ hi) : ∃ w2 : zW, w2.1 = w.1 ∧ zEnv ρ w2.2 ∧ k w2 = true := by
  have hz : zv ρ ad v (.int x) := by
    rcases hv with ⟨g, -⟩ | ⟨-, -, z, g⟩ | ⟨-, g⟩
    · exact g
    · cases g
    · rcases g with g | g <;> cases g
  exact zcut_iff h hE hz h1 h2
theorem zylt_iff {w : zW} {a b : Nat} {k : Bool → zW → Bool} {x' y' : Value} (h : zlt w a b k = true) (hE : zEnv ρ w.2) (ha : zyv ρ N ad a x') (hb : zyv ρ N ad b y') : ∃ (x y : Int32), x' = .int x ∧ y' = .int y ∧ ((x < y ∧ ∃ w2 : zW, w2.1 = w.1 ∧ zEnv ρ w2.2 ∧ k true w2 = true) ∨ (¬ x < y ∧ ∃ w2 : zW, w2.1 = w.1 ∧ zEnv ρ w2.2 ∧ k false w2 = true)) := by
  have h0 := h
  unfold zlt at h0
  have q := zybd_k h0
  obtain ⟨x, lo, hi, -, -, -, h1⟩ := zybd_iff h0 hE ha
  have q2 := zybd_k h1
  exact zlt_iff h hE (zyv_zv ha (by omega) (by omega)) (zyv_zv hb (by omega) (by omega))
theorem zyeq_iff {w : zW} {a b : Nat} {k : Bool → zW → Bool} {x' y' : Value} (h : zeq w a b k = true) (hE : zEnv ρ w.2) (ha : zyv ρ N ad a x') (hb : zyv ρ N ad b y') : ∃ (x y : Int32), x' = .int x ∧ y' = .int y ∧ ((x = y ∧ ∃ w2 : zW, w2.1 = w.1 ∧ zEnv ρ w2.2 ∧ k true w2 = true) ∨ (¬ x = y ∧ ∃ w2 : zW, w2.1 = w.1 ∧ zEnv ρ w2.2 ∧ k false w2 = true)) := by
  have h0 := h
  unfold zeq at h0
  have q := zybd_k h0
  obtain ⟨x, lo, hi, -, -, -, h1⟩ := zybd_iff h0 hE ha
  have q2 := zybd_k h1
  exact zeq_iff h hE (zyv_zv ha (by omega) (by omega)) (zyv_zv hb (by omega) (by omega))
theorem zykn_iff {w : zW} {v : Nat} {j : Bool} {k : Nat → Bool} {x' : Value} (h : zkn w v j k = true) (hE : zEnv ρ w.2) (hv : zyv ρ N ad v x') : (∃ u : Nat, x' = .int (Int32.ofNat u) ∧ k u = true) ∨ j = true := by
  by_cases hk : v % 8 = 4 ∨ v % 8 = 6
  · unfold zkn at h
    simp only [zn_m] at h
    rcases zif_iff h with ⟨h1, -⟩ | ⟨-, h2⟩
    · have := zbeqT h1
      omega
    rcases zif_iff h2 with ⟨h1, -⟩ | ⟨-, h2⟩
    · have := zbeqT h1
      omega
    exact Or.inr h2
  · exact zkn_iff h hE (zyv_zv hv (by omega) (by omega))
theorem zyhalf_iff {w : zW} {v n : Nat} {j : Bool} {k : zW → Bool} {x' : Value} (h : zhalf w v n j k = true) (hE : zEnv ρ w.2) (hv : zyv ρ N ad v x') : (∃ w2 : zW, w2.1 = w.1 ∧ zEnv ρ w2.2 ∧ k w2 = true) ∨ j = true := by
  by_cases hk : v % 8 = 4 ∨ v % 8 = 6
  · unfold zhalf at h
    simp only [zn_m] at h
    rcases zif_iff h with ⟨h1, -⟩ | ⟨-, h2⟩
    · have := zbeqT h1
      omega
    exact Or.inr h2
  · exact zhalf_iff h hE (zyv_zv hv (by omega) (by omega))
theorem zyindex_iff {w : zW} {j : Nat} {again : zW → Bool} {put k2 : Nat → Bool} {x' : Value} (h : zindex w j again put k2 = true) (hE : zEnv ρ w.2) (hv : zyv ρ N ad j x') :
    (∃ w2 : zW, w2.1 = w.1 ∧ zEnv ρ w2.2 ∧ again w2 = true) ∨ (∃ u : Nat, x' = .int (Int32.ofNat u) ∧ put u = true) ∨ ∃ u : Nat, x' = .int (Int32.ofNat u) ∧ k2 u = true := by
  by_cases hk : j % 8 = 4 ∨ j % 8 = 6
  · unfold zindex at h
    simp only [zn_m, zn_d, zn_c, zn_s] at h
    rcases zif_iff h with ⟨h1, -⟩ | ⟨-, h⟩
    · have := zbeqT h1
      omega
    rcases zyhalf_iff h hE hv with h | h
    · exact Or.inl h
    rcases zykn_iff h hE hv with ⟨u, e1, h⟩ | h
    · exact Or.inr (Or.inr ⟨u, e1, h⟩)
    rcases zif_iff h with ⟨h2, -⟩ | ⟨-, h⟩
    · have := zbeqT h2
      omega
    · cases h
  · exact zindex_iff h hE (zyv_zv hv (by omega) (by omega))
theorem zyapp_iff {x : Nat × Nat} : ∀ {l : List (Nat × Nat)} {i : Nat} {k : Nat → List (Nat × Nat) → Bool}, zyapp x l i k = k (i + l.length) (l ++ [x]) := by
  intro l
  induction l with
  | nil => intro i k; rfl
  | cons a t ih =>
    intro i k
    have e : zyapp x (a :: t) i k = zyapp x t (i + 1) (fun j u => k j (a :: u)) := rfl
    rw [e, ih, List.length_cons, List.cons_append, Nat.add_assoc, Nat.add_comm 1]
theorem zyfresh_iff {w : zW} {lo hi : Nat} {k : zW → Nat → Bool} (h : zyfresh w lo hi k = true) (hE : zEnv ρ w.2) (hN : w.1 = N) {x : Int32} (h1 : lo ≤ zB x) (h2 : zB x ≤ hi) : zEnv (zyρ2 ρ N x) (w.2 ++ [(lo, hi)]) ∧ k (N + 1, w.2 ++ [(lo, hi)]) (N * 34359738368 + 1) = true := by
  unfold zyfresh at h
  rw [zyapp_iff] at h
  simp only [zfr_eq, Nat.zero_add, zn_c, zn_a, zn_u] at h
  rcases zif_iff h with ⟨h3, h4⟩ | ⟨-, h4⟩
  · have e := zbeqT h3
    rw [hN] at e
    rw [e] at h4
    refine ⟨fun j p hp => ?_, h4⟩
    by_cases hj : j < w.2.length
    · rw [List.getElem?_append_left hj] at hp
      rw [zyρ2_lt (by omega)]
      exact hE j p hp
    · have hj2 : j < (w.2 ++ [(lo, hi)]).length := (List.getElem?_eq_some_iff.mp hp).1
      rw [List.length_append, List.length_singleton] at hj2
      have ej : j = w.2.length := by omega
      rw [ej, List.getElem?_append_right (Nat.le_refl _), Nat.sub_self] at hp
      cases hp
      have e2 : zyρ2 ρ N x j = x := if_pos (by omega)
      rw [e2]
      exact ⟨h1, h2⟩
  · cases h4
/-- the code says all that the value may be, whatever the symbols are -/
theorem zysub_iff {w : zW} {v code : Nat} {x : Value} {ρ2 : Nat → Int32} {N2 : Nat} (h : zysub w v code = true) (hE : zEnv ρ w.2) (hv : zyv ρ N ad v x) : ¬ code % 8 = 1 ∧ zyv ρ2 N2 ad code x := by
  unfold zysub at h
  simp only [zn_m, zn_d, zn_a, zn_u] at h
  rcases zif_iff h with ⟨h1, h⟩ | ⟨h1, h⟩
  · have e1 := zbeqT h1
    obtain ⟨n, lo, hi, rfl, b1, b2, h⟩ := zybd_iff h hE hv
    obtain ⟨g1, g2⟩ := zand_iff h
    have g1 := zbleT g1
    have g2 := zbleT g2
    exact ⟨by omega, zyv_c (Or.inr (Or.inr (Or.inl ⟨e1, n, rfl, by omega, by omega⟩))) (by omega) (by omega)⟩
  rcases zif_iff h with ⟨h2, h⟩ | ⟨h2, h⟩
  · obtain ⟨g1, g2⟩ := zand_iff h2
    have g1 := zbeqT g1
    obtain ⟨z, hz, -⟩ := zyv_4 hv (zbeqT h)
    exact ⟨by omega, Or.inr (Or.inl ⟨g1, zbleT g2, z, hz⟩)⟩
  rcases zif_iff h with ⟨h3, h⟩ | ⟨h3, h⟩
  · have e3 := zbeqT h3
    refine ⟨by omega, ?_⟩
    rcases zif_iff h with ⟨h4, -⟩ | ⟨-, h⟩
    · have e4 := zbeqT h4
      have q := zyv_3 hv (by omega)
      exact Or.inr (Or.inr ⟨e3, Or.inl (by rw [q, e4]; congr 2; omega)⟩)
    rcases zif_iff h with ⟨h4, -⟩ | ⟨-, h⟩
    · have e4 := zbeqT h4
      have q := zyv_3 hv (by omega)
      exact Or.inr (Or.inr ⟨e3, Or.inr (by rw [q, e4]; congr 2; omega)⟩)
    · have e4 := zbeqT h
      rw [← e4]
      exact zyv_cl (by omega) hv
  rcases zif_iff h with ⟨-, h⟩ | ⟨h4, h⟩
  · cases h
  · have e4 := zbeqF h4
    have e5 := zbeqT h
    rw [← e5] at e4 ⊢
    exact ⟨e4, zyv_cl e4 hv⟩
end ZYV
