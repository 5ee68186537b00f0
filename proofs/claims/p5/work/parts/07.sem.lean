/-! WHAT VALUES MEAN: ρ the symbols' ints, ad the addresses of places -/
def zB (x : Int32) : Nat := (x.toInt + 2147483648).toNat
theorem zI (x : Int32) : x.toInt = if x.toBitVec.toNat < 2147483648 then (x.toBitVec.toNat : Int) else (x.toBitVec.toNat : Int) - 4294967296 := by
  have h := BitVec.toInt_eq_toNat_cond x.toBitVec
  have e : x.toInt = x.toBitVec.toInt := rfl
  rw [e, h]
  have := x.toBitVec.isLt
  split <;> split <;> omega
theorem zB_eq (x : Int32) : zB x = (x.toBitVec.toNat + 2147483648) % 4294967296 := by
  unfold zB
  rw [zI]
  have := x.toBitVec.isLt
  split <;> omega
theorem zB_lt (x : Int32) : zB x < 4294967296 := by rw [zB_eq]; omega
theorem zB_inj {x y : Int32} (h : zB x = zB y) : x = y := by
  rw [zB_eq, zB_eq] at h
  have h1 := x.toBitVec.isLt
  have h2 := y.toBitVec.isLt
  apply Int32.toBitVec_inj.mp
  apply BitVec.eq_of_toNat_eq
  omega
theorem zB_slt (x y : Int32) : x < y ↔ zB x < zB y := by
  rw [Int32.lt_iff_toInt_lt]
  unfold zB
  have h1 := Int32.le_toInt x
  have h2 := Int32.le_toInt y
  omega
theorem zB_sle (x y : Int32) : x ≤ y ↔ zB x ≤ zB y := by
  rw [Int32.le_iff_toInt_le]
  unfold zB
  have h1 := Int32.le_toInt x
  have h2 := Int32.le_toInt y
  omega
theorem zN_of (u : Nat) : (Int32.ofNat u).toBitVec.toNat = u % 4294967296 := by simp
theorem zB_of (u : Nat) : zB (Int32.ofNat u) = zb u := by
  rw [zB_eq, zN_of]
  show _ = (u + 2147483648) % 4294967296
  omega
theorem zb_B (x : Int32) : Int32.ofNat (zb (zB x)) = x := by
  apply zB_inj
  rw [zB_of, zB_eq]
  have h1 := x.toBitVec.isLt
  show ((((x.toBitVec.toNat + 2147483648) % 4294967296 + 2147483648) % 4294967296) + 2147483648) % 4294967296 = _
  omega
theorem zN_inj {x y : Int32} (h : x.toBitVec.toNat = y.toBitVec.toNat) : x = y := Int32.toBitVec_inj.mp (BitVec.eq_of_toNat_eq h)
theorem zN_self (x : Int32) : Int32.ofNat x.toBitVec.toNat = x := zN_inj (by rw [zN_of]; exact Nat.mod_eq_of_lt x.toBitVec.isLt)
theorem zN_add (x y : Int32) : (x + y).toBitVec.toNat = (x.toBitVec.toNat + y.toBitVec.toNat) % 4294967296 := by
  rw [Int32.toBitVec_add, BitVec.toNat_add]
theorem zB_add (x : Int32) (c : Nat) (h1 : 2147483648 ≤ zB x + zb c) (h2 : zB x + zb c ≤ 6442450943) : zB (x + Int32.ofNat c) = zB x + zb c - 2147483648 := by
  rw [zB_eq, zN_add, zN_of]
  rw [zB_eq] at h1 h2 ⊢
  have h3 := x.toBitVec.isLt
  have h4 : zb c = (c + 2147483648) % 4294967296 := rfl
  rw [h4] at h1 h2 ⊢
  omega
def zv (ρ : Nat → Int32) (ad : Nat → Nat) (v : Nat) (w : Value) : Prop :=
  (v % 8 = 0 ∧ w = .int (Int32.ofNat (v / 8))) ∨ (v % 8 = 1 ∧ w = .int (ρ (v / 34359738368) + Int32.ofNat (v / 8 % 4294967296))) ∨
  (v % 8 = 2 ∧ ∃ x : Int32, w = .int x ∧ v / 34359738368 ≤ zB x ∧ zB x ≤ v / 8 % 4294967296) ∨ (v % 8 = 3 ∧ w = .ref (ad (v / 8))) ∨
  (v % 8 = 4 ∧ w = .long (Int64.ofNat (v / 8))) ∨ (v = 5 ∧ w = .null) ∨ (v = 7 ∧ (w = .null ∨ ∃ a, w = .ref a))
def zEnv (ρ : Nat → Int32) (e : List (Nat × Nat)) : Prop := ∀ (k : Nat) (p : Nat × Nat), e[k]? = some p → p.1 ≤ zB (ρ k) ∧ zB (ρ k) ≤ p.2
theorem zn_m (a b : Nat) : Nat.mod a b = a % b := rfl
theorem zn_d (a b : Nat) : Nat.div a b = a / b := rfl
theorem zn_a (a b : Nat) : Nat.add a b = a + b := rfl
theorem zn_s (a b : Nat) : Nat.sub a b = a - b := rfl
theorem zn_u (a b : Nat) : Nat.mul a b = a * b := rfl
theorem zn_c (a : Nat) : Nat.succ a = a + 1 := rfl
theorem zn_p (a : Nat) : Nat.pred a = a - 1 := rfl
theorem zn_x (a b : Nat) : Nat.max a b = max a b := rfl
theorem zn_i (a b : Nat) : Nat.min a b = min a b := rfl
theorem zb_def (u : Nat) : zb u = (u + 2147483648) % 4294967296 := rfl
theorem zsh_def {β : Type} (j : Nat → Nat → β) (k : β) (c lo hi : Nat) : zsh j k c (lo, hi) = zif (Nat.ble 2147483648 (Nat.add lo (zb c))) (zif (Nat.ble (Nat.add hi (zb c)) 6442450943) (j (Nat.sub (Nat.add lo (zb c)) 2147483648) (Nat.sub (Nat.add hi (zb c)) 2147483648)) k) k := rfl
theorem zbeqT {a b : Nat} (h : Nat.beq a b = true) : a = b := Nat.eq_of_beq_eq_true h
theorem zbeqF {a b : Nat} (h : Nat.beq a b = false) : ¬ a = b := Nat.ne_of_beq_eq_false h
theorem zbleT {a b : Nat} (h : Nat.ble a b = true) : a ≤ b := Nat.le_of_ble_eq_true h
theorem zbleF {a b : Nat} (h : Nat.ble a b = false) : ¬ a ≤ b := fun q => by rw [Nat.ble_eq_true_of_le q] at h; cases h
section ZV
variable {ρ : Nat → Int32} {ad : Nat → Nat}
theorem zv_int {v : Nat} {w : Value} (h : zv ρ ad v w) (hk : v % 8 ≤ 2) : ∃ x : Int32, w = .int x := by
  rcases h with ⟨h, e⟩ | ⟨h, e⟩ | ⟨h, x, e, -⟩ | ⟨h, e⟩ | ⟨h, e⟩ | ⟨h, e⟩ | ⟨h, e⟩
  · exact ⟨_, e⟩
  · exact ⟨_, e⟩
  · exact ⟨x, e⟩
  all_goals omega
theorem zv_0 {v : Nat} {w : Value} (h : zv ρ ad v w) (hk : v % 8 = 0) : w = .int (Int32.ofNat (v / 8)) := by
  rcases h with ⟨h, e⟩ | ⟨h, e⟩ | ⟨h, x, e, -⟩ | ⟨h, e⟩ | ⟨h, e⟩ | ⟨h, e⟩ | ⟨h, e⟩
  · exact e
  all_goals omega
theorem zv_1 {v : Nat} {w : Value} (h : zv ρ ad v w) (hk : v % 8 = 1) : w = .int (ρ (v / 34359738368) + Int32.ofNat (v / 8 % 4294967296)) := by
  rcases h with ⟨h, e⟩ | ⟨h, e⟩ | ⟨h, x, e, -⟩ | ⟨h, e⟩ | ⟨h, e⟩ | ⟨h, e⟩ | ⟨h, e⟩
  · omega
  · exact e
  all_goals omega
theorem zv_2 {v : Nat} {w : Value} (h : zv ρ ad v w) (hk : v % 8 = 2) : ∃ x : Int32, w = .int x ∧ v / 34359738368 ≤ zB x ∧ zB x ≤ v / 8 % 4294967296 := by
  rcases h with ⟨h, e⟩ | ⟨h, e⟩ | ⟨h, x, e, q⟩ | ⟨h, e⟩ | ⟨h, e⟩ | ⟨h, e⟩ | ⟨h, e⟩
  · omega
  · omega
  · exact ⟨x, e, q⟩
  all_goals omega
theorem zv_3 {v : Nat} {w : Value} (h : zv ρ ad v w) (hk : v % 8 = 3) : w = .ref (ad (v / 8)) := by
  rcases h with ⟨h, e⟩ | ⟨h, e⟩ | ⟨h, x, e, q⟩ | ⟨h, e⟩ | ⟨h, e⟩ | ⟨h, e⟩ | ⟨h, e⟩
  · omega
  · omega
  · omega
  · exact e
  all_goals omega
theorem zv_4 {v : Nat} {w : Value} (h : zv ρ ad v w) (hk : v % 8 = 4) : w = .long (Int64.ofNat (v / 8)) := by
  rcases h with ⟨h, e⟩ | ⟨h, e⟩ | ⟨h, x, e, q⟩ | ⟨h, e⟩ | ⟨h, e⟩ | ⟨h, e⟩ | ⟨h, e⟩
  · omega
  · omega
  · omega
  · omega
  · exact e
  all_goals omega
/-- an int's number -/
theorem zv_mk {u : Nat} {x : Int32} (h : Int32.ofNat u = x) : zv ρ ad (8 * u) (.int x) := Or.inl ⟨by omega, by rw [← h, show 8 * u / 8 = u by omega]⟩
theorem zv_mkx (x : Int32) : zv ρ ad (8 * x.toBitVec.toNat) (.int x) := zv_mk (zN_self x)
theorem zv_mkl {u : Nat} {x : Int64} (h : Int64.ofNat u = x) : zv ρ ad (8 * u + 4) (.long x) := Or.inr (Or.inr (Or.inr (Or.inr (Or.inl ⟨by omega, by rw [← h, show (8 * u + 4) / 8 = u by omega]⟩))))
theorem zL_self (x : Int64) : Int64.ofNat x.toBitVec.toNat = x := by
  apply Int64.toBitVec_inj.mp
  apply BitVec.eq_of_toNat_eq
  simp
theorem zv_mklx (x : Int64) : zv ρ ad (8 * x.toBitVec.toNat + 4) (.long x) := zv_mkl (zL_self x)
theorem zv_ref (p : Nat) : zv ρ ad (8 * p + 3) (.ref (ad p)) := Or.inr (Or.inr (Or.inr (Or.inl ⟨by omega, by rw [show (8 * p + 3) / 8 = p by omega]⟩)))
theorem zv_any (x : Int32) : zv ρ ad 34359738362 (.int x) := Or.inr (Or.inr (Or.inl ⟨by decide, x, rfl, Nat.zero_le _, by have := zB_lt x; show _ ≤ 4294967295; omega⟩))
theorem zv_bd {lo hi : Nat} {x : Int32} (h1 : lo ≤ zB x) (h2 : zB x ≤ hi) (h3 : hi < 4294967296) : zv ρ ad (8 * (lo * 4294967296 + hi) + 2) (.int x) := Or.inr (Or.inr (Or.inl ⟨by omega, x, rfl, by omega, by omega⟩))
theorem zv_cat {v : Nat} {w : Value} (h : zv ρ ad v w) : w.category = if v % 8 = 4 then 2 else 1 := by
  rcases h with ⟨h, e⟩ | ⟨h, e⟩ | ⟨h, x, e, q⟩ | ⟨h, e⟩ | ⟨h, e⟩ | ⟨h, e⟩ | ⟨h, e⟩
  · rw [e, if_neg (by omega)]; rfl
  · rw [e, if_neg (by omega)]; rfl
  · rw [e, if_neg (by omega)]; rfl
  · rw [e, if_neg (by omega)]; rfl
  · rw [e, if_pos h]; rfl
  · rw [e, if_neg (by omega)]; rfl
  · rw [if_neg (by omega)]
    rcases e with e | ⟨a, e⟩ <;> rw [e] <;> rfl
theorem zsh_iff {j : Nat → Nat → Bool} {k : Bool} {c : Nat} {p : Nat × Nat} (h : zsh j k c p = true) : (2147483648 ≤ p.1 + zb c ∧ p.2 + zb c ≤ 6442450943 ∧ j (p.1 + zb c - 2147483648) (p.2 + zb c - 2147483648) = true) ∨ k = true := by
  obtain ⟨lo, hi⟩ := p
  rw [zsh_def] at h
  simp only [zn_a, zn_s] at h
  rcases zif_iff h with ⟨h1, h2⟩ | ⟨-, h2⟩
  · rcases zif_iff h2 with ⟨h3, h4⟩ | ⟨-, h4⟩
    · exact Or.inl ⟨zbleT h1, zbleT h3, h4⟩
    · exact Or.inr h4
  · exact Or.inr h2
theorem zbd_iff {w : zW} {v : Nat} {k : Nat → Nat → Bool} {x' : Value} (h : zbd w v k = true) (hE : zEnv ρ w.2) (hv : zv ρ ad v x') : ∃ (x : Int32) (lo hi : Nat), x' = .int x ∧ lo ≤ zB x ∧ zB x ≤ hi ∧ k lo hi = true := by
  unfold zbd at h
  simp only [zfr_eq, zn_m, zn_d, zn_a, zn_s, zn_u, zn_c, zn_p, zn_x, zn_i] at h
  rcases zif_iff h with ⟨h1, h2⟩ | ⟨h1, h2⟩
  · have e := zv_0 hv (zbeqT h1)
    exact ⟨Int32.ofNat (v / 8), zb (v / 8), zb (v / 8), e, Nat.le_of_eq (zB_of _).symm, Nat.le_of_eq (zB_of _), h2⟩
  rcases zif_iff h2 with ⟨h1, h2⟩ | ⟨h1, h2⟩
  · have e := zv_1 hv (zbeqT h1)
    obtain ⟨p, hp, h3⟩ := znth_iff h2
    obtain ⟨b1, b2⟩ := hE _ _ hp
    rcases zsh_iff h3 with ⟨g1, g2, g3⟩ | g
    · have e2 := zB_add (ρ (v / 34359738368)) (v / 8 % 4294967296) (Nat.le_trans g1 (Nat.add_le_add_right b1 _)) (Nat.le_trans (Nat.add_le_add_right b2 _) g2)
      refine ⟨_, _, _, e, ?_, ?_, g3⟩
      · rw [e2]
        have : p.1 ≤ zB (ρ (v / 34359738368)) := b1
        exact Nat.sub_le_sub_right (Nat.add_le_add_right b1 _) _
      · rw [e2]
        exact Nat.sub_le_sub_right (Nat.add_le_add_right b2 _) _
    · exact ⟨_, _, _, e, Nat.zero_le _, by have := zB_lt (ρ (v / 34359738368) + Int32.ofNat (v / 8 % 4294967296)); omega, g⟩
  rcases zif_iff h2 with ⟨h1, h2⟩ | ⟨h1, h2⟩
  · obtain ⟨x, e, g1, g2⟩ := zv_2 hv (zbeqT h1)
    exact ⟨x, _, _, e, g1, g2, h2⟩
  · cases h2
theorem zcut_iff {w : zW} {v lo hi : Nat} {k : zW → Bool} {x : Int32} (h : zcut w v lo hi k = true) (hE : zEnv ρ w.2) (hv : zv ρ ad v (.int x)) (h1 : lo ≤ zB x) (h2 : zB x ≤ hi) : ∃ w2 : zW, w2.1 = w.1 ∧ zEnv ρ w2.2 ∧ k w2 = true := by
  unfold zcut at h
  simp only [zfr_eq, zn_m, zn_d, zn_a, zn_s, zn_u, zn_c, zn_p, zn_x, zn_i] at h
  rcases zif_iff h with ⟨g1, g2⟩ | ⟨g1, g2⟩
  · have e := zv_1 hv (zbeqT g1)
    have e := Value.int.inj e
    obtain ⟨p, hp, g3⟩ := znth_iff g2
    obtain ⟨b1, b2⟩ := hE _ _ hp
    rcases zsh_iff g3 with ⟨c1, c2, c3⟩ | c
    · have e2 := zB_add (ρ (v / 34359738368)) (v / 8 % 4294967296) (Nat.le_trans c1 (Nat.add_le_add_right b1 _)) (Nat.le_trans (Nat.add_le_add_right b2 _) c2)
      rw [← e] at e2
      obtain ⟨o, ho, c4⟩ := zupd_iff c3
      refine ⟨(w.1, w.2.set (v / 34359738368) (max p.1 (lo + 2147483648 - zb (v / 8 % 4294967296)), min p.2 (hi + 2147483648 - zb (v / 8 % 4294967296)))), rfl, ?_, c4⟩
      intro j q hq
      by_cases hj : j = v / 34359738368
      · subst hj
        have hl : v / 34359738368 < w.2.length := (List.getElem?_eq_some_iff.mp hp).1
        rw [List.getElem?_set_self hl] at hq
        cases hq
        dsimp only
        constructor
        · omega
        · omega
      · rw [List.getElem?_set_ne (fun z => hj z.symm)] at hq
        exact hE j q hq
    · exact ⟨w, rfl, hE, c⟩
  · exact ⟨w, rfl, hE, g2⟩
theorem zlt_iff {w : zW} {a b : Nat} {k : Bool → zW → Bool} {x' y' : Value} (h : zlt w a b k = true) (hE : zEnv ρ w.2) (ha : zv ρ ad a x') (hb : zv ρ ad b y') : ∃ (x y : Int32), x' = .int x ∧ y' = .int y ∧ ((x < y ∧ ∃ w2 : zW, w2.1 = w.1 ∧ zEnv ρ w2.2 ∧ k true w2 = true) ∨ (¬ x < y ∧ ∃ w2 : zW, w2.1 = w.1 ∧ zEnv ρ w2.2 ∧ k false w2 = true)) := by
  unfold zlt at h
  simp only [zfr_eq, zn_m, zn_d, zn_a, zn_s, zn_u, zn_c, zn_p, zn_x, zn_i] at h
  obtain ⟨x, la, ha', rfl, a1, a2, h⟩ := zbd_iff h hE ha
  obtain ⟨y, lb, hb', rfl, b1, b2, h⟩ := zbd_iff h hE hb
  refine ⟨x, y, rfl, rfl, ?_⟩
  rw [zB_slt]
  rcases zif_iff h with ⟨h1, h2⟩ | ⟨h1, h2⟩
  · have := zbleT h1
    exact Or.inr ⟨by omega, w, rfl, hE, h2⟩
  rcases zif_iff h2 with ⟨h3, h4⟩ | ⟨h3, h4⟩
  · have := zbleT h3
    exact Or.inl ⟨by omega, w, rfl, hE, h4⟩
  obtain ⟨g1, g2⟩ := zand_iff h4
  by_cases hc : zB x < zB y
  · refine Or.inl ⟨hc, ?_⟩
    obtain ⟨w1, e1, E1, g3⟩ := zcut_iff g2 hE ha a1 (by omega)
    obtain ⟨w2, e2, E2, g4⟩ := zcut_iff g3 E1 hb (by omega) b2
    exact ⟨w2, e2.trans e1, E2, g4⟩
  · refine Or.inr ⟨hc, ?_⟩
    obtain ⟨w1, e1, E1, g3⟩ := zcut_iff g1 hE ha (by omega) a2
    obtain ⟨w2, e2, E2, g4⟩ := zcut_iff g3 E1 hb b1 (by omega)
    exact ⟨w2, e2.trans e1, E2, g4⟩
theorem zne_iff {w : zW} {a la ha c : Nat} {k : Bool → zW → Bool} {x : Int32} (h : zne w a la ha c k = true) (hE : zEnv ρ w.2) (hv : zv ρ ad a (.int x)) (h1 : la ≤ zB x) (h2 : zB x ≤ ha) (h3 : ¬ zB x = c) : ∃ w2 : zW, w2.1 = w.1 ∧ zEnv ρ w2.2 ∧ k false w2 = true := by
  unfold zne at h
  simp only [zfr_eq, zn_m, zn_d, zn_a, zn_s, zn_u, zn_c, zn_p, zn_x, zn_i] at h
  rcases zif_iff h with ⟨g1, g2⟩ | ⟨g1, g2⟩
  · have := zbeqT g1
    exact zcut_iff g2 hE hv (by omega) h2
  rcases zif_iff g2 with ⟨g3, g4⟩ | ⟨g3, g4⟩
  · have := zbeqT g3
    exact zcut_iff g4 hE hv h1 (by omega)
  obtain ⟨g5, g6⟩ := zand_iff g4
  by_cases hc : zB x < c
  · exact zcut_iff g5 hE hv h1 (by omega)
  · exact zcut_iff g6 hE hv (by omega) h2
theorem zeq_iff {w : zW} {a b : Nat} {k : Bool → zW → Bool} {x' y' : Value} (h : zeq w a b k = true) (hE : zEnv ρ w.2) (ha : zv ρ ad a x') (hb : zv ρ ad b y') : ∃ (x y : Int32), x' = .int x ∧ y' = .int y ∧ ((x = y ∧ ∃ w2 : zW, w2.1 = w.1 ∧ zEnv ρ w2.2 ∧ k true w2 = true) ∨ (¬ x = y ∧ ∃ w2 : zW, w2.1 = w.1 ∧ zEnv ρ w2.2 ∧ k false w2 = true)) := by
  unfold zeq at h
  simp only [zfr_eq, zn_m, zn_d, zn_a, zn_s, zn_u, zn_c, zn_p, zn_x, zn_i] at h
  obtain ⟨x, la, ha', rfl, a1, a2, h⟩ := zbd_iff h hE ha
  obtain ⟨y, lb, hb', rfl, b1, b2, h⟩ := zbd_iff h hE hb
  refine ⟨x, y, rfl, rfl, ?_⟩
  have key : x = y ↔ zB x = zB y := ⟨fun e => by rw [e], zB_inj⟩
  rw [key]
  rcases zif_iff h with ⟨h1, h2⟩ | ⟨h1, h2⟩
  · have := zbleT h1
    exact Or.inr ⟨by omega, w, rfl, hE, h2⟩
  rcases zif_iff h2 with ⟨h3, h4⟩ | ⟨h3, h4⟩
  · have := zbleT h3
    exact Or.inr ⟨by omega, w, rfl, hE, h4⟩
  rcases zif_iff h4 with ⟨h5, h6⟩ | ⟨h5, h6⟩
  · have e1 := zbeqT h5
    rcases zif_iff h6 with ⟨h7, h8⟩ | ⟨h7, h8⟩
    · have e2 := zbeqT h7
      have := zbleF h1
      have := zbleF h3
      exact Or.inl ⟨by omega, w, rfl, hE, h8⟩
    obtain ⟨g1, g2⟩ := zand_iff h8
    by_cases hc : zB x = zB y
    · exact Or.inl ⟨hc, zcut_iff g1 hE ha (by omega) (by omega)⟩
    · exact Or.inr ⟨hc, zne_iff g2 hE ha a1 a2 (by omega)⟩
  rcases zif_iff h6 with ⟨h7, h8⟩ | ⟨h7, h8⟩
  · have e2 := zbeqT h7
    obtain ⟨g1, g2⟩ := zand_iff h8
    by_cases hc : zB x = zB y
    · exact Or.inl ⟨hc, zcut_iff g1 hE hb (by omega) (by omega)⟩
    · exact Or.inr ⟨hc, zne_iff g2 hE hb b1 b2 (by omega)⟩
  obtain ⟨g1, g2⟩ := zand_iff h8
  by_cases hc : zB x = zB y
  · exact Or.inl ⟨hc, w, rfl, hE, g1⟩
  · exact Or.inr ⟨hc, w, rfl, hE, g2⟩
theorem zkn_iff {w : zW} {v : Nat} {j : Bool} {k : Nat → Bool} {x' : Value} (h : zkn w v j k = true) (hE : zEnv ρ w.2) (hv : zv ρ ad v x') : (∃ u : Nat, x' = .int (Int32.ofNat u) ∧ k u = true) ∨ j = true := by
  unfold zkn at h
  simp only [zfr_eq, zn_m, zn_d, zn_a, zn_s, zn_u, zn_c, zn_p, zn_x, zn_i] at h
  rcases zif_iff h with ⟨h1, h2⟩ | ⟨h1, h2⟩
  · exact Or.inl ⟨_, zv_0 hv (zbeqT h1), h2⟩
  rcases zif_iff h2 with ⟨h3, h4⟩ | ⟨h3, h4⟩
  · obtain ⟨x, lo, hi, e, g1, g2, h5⟩ := zbd_iff h4 hE hv
    rcases zif_iff h5 with ⟨h6, h7⟩ | ⟨h6, h7⟩
    · have := zbeqT h6
      refine Or.inl ⟨zb lo, ?_, h7⟩
      rw [e, show lo = zB x by omega, zb_B]
    · exact Or.inr h7
  · exact Or.inr h4
theorem zhalf_iff {w : zW} {v n : Nat} {j : Bool} {k : zW → Bool} {x' : Value} (h : zhalf w v n j k = true) (hE : zEnv ρ w.2) (hv : zv ρ ad v x') : (∃ w2 : zW, w2.1 = w.1 ∧ zEnv ρ w2.2 ∧ k w2 = true) ∨ j = true := by
  unfold zhalf at h
  simp only [zfr_eq, zn_m, zn_d, zn_a, zn_s, zn_u, zn_c, zn_p, zn_x, zn_i] at h
  rcases zif_iff h with ⟨h1, h2⟩ | ⟨h1, h2⟩
  · obtain ⟨x, lo, hi, rfl, g1, g2, h5⟩ := zbd_iff h2 hE hv
    rcases zif_iff h5 with ⟨-, h7⟩ | ⟨-, h7⟩
    · rcases zif_iff h7 with ⟨-, h8⟩ | ⟨-, h8⟩
      · obtain ⟨c1, c2⟩ := zand_iff (a := zcut w v lo ((lo + hi) / 2) k) h8
        by_cases hc : zB x ≤ (lo + hi) / 2
        · exact Or.inl (zcut_iff c1 hE hv g1 hc)
        · exact Or.inl (zcut_iff c2 hE hv (by omega) g2)
      · exact Or.inr h8
    · exact Or.inr h7
  · exact Or.inr h2
theorem zeach_iff {k : Nat → Bool} : ∀ {n b : Nat}, zeach k n b = true → ∀ c, b ≤ c → c < b + n → k (zb c) = true := by
  intro n
  induction n with
  | zero => intro b h c h1 h2; omega
  | succ n ih =>
    intro b h c h1 h2
    obtain ⟨g1, g2⟩ := zand_iff (a := k (zb b)) h
    by_cases e : c = b
    · rw [e]; exact g1
    · exact ih (b := b + 1) g2 c (by omega) (by omega)
end ZV
