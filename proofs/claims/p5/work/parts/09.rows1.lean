/-! what is known of answers -/
theorem zN_sub (x y : Int32) : (x - y).toBitVec.toNat = (x.toBitVec.toNat + (4294967296 - y.toBitVec.toNat)) % 4294967296 := by
  rw [Int32.toBitVec_sub, BitVec.toNat_sub]
  have h1 := x.toBitVec.isLt
  have h2 := y.toBitVec.isLt
  omega
theorem zN_mul (x y : Int32) : (x * y).toBitVec.toNat = (x.toBitVec.toNat * y.toBitVec.toNat) % 4294967296 := by
  rw [Int32.toBitVec_mul, BitVec.toNat_mul]
theorem zf_add_ok (u v : Nat) : Int32.ofNat (zf_add u v) = Int32.ofNat u + Int32.ofNat v := by
  apply zN_inj
  rw [zN_add, zN_of, zN_of, zN_of]
  show (u + v) % 4294967296 % 4294967296 = _
  omega
theorem zf_sub_ok (u v : Nat) : Int32.ofNat (zf_sub u v) = Int32.ofNat u - Int32.ofNat v := by
  apply zN_inj
  rw [zN_sub, zN_of, zN_of, zN_of]
  show (u + (4294967296 - v % 4294967296)) % 4294967296 % 4294967296 = _
  omega
theorem zf_mul_ok (u v : Nat) : Int32.ofNat (zf_mul u v) = Int32.ofNat u * Int32.ofNat v := by
  apply zN_inj
  rw [zN_mul, zN_of, zN_of, zN_of]
  show (u * v) % 4294967296 % 4294967296 = _
  rw [Nat.mod_mod, ← Nat.mul_mod]
theorem zN_and (x y : Int32) : (x &&& y).toBitVec.toNat = x.toBitVec.toNat &&& y.toBitVec.toNat := by rw [Int32.toBitVec_and, BitVec.toNat_and]
theorem zN_or (x y : Int32) : (x ||| y).toBitVec.toNat = x.toBitVec.toNat ||| y.toBitVec.toNat := by rw [Int32.toBitVec_or, BitVec.toNat_or]
theorem zN_xor (x y : Int32) : (x ^^^ y).toBitVec.toNat = x.toBitVec.toNat ^^^ y.toBitVec.toNat := by rw [Int32.toBitVec_xor, BitVec.toNat_xor]
theorem zf_and_ok (u v : Nat) : Int32.ofNat (zf_and u v) = Int32.ofNat u &&& Int32.ofNat v := by
  apply zN_inj
  rw [zN_and, zN_of, zN_of, zN_of]
  show (u &&& v) % 2 ^ 32 % 2 ^ 32 = (u % 2 ^ 32) &&& (v % 2 ^ 32)
  rw [Nat.mod_mod, Nat.and_mod_two_pow]
theorem zf_or_ok (u v : Nat) : Int32.ofNat (zf_or u v) = Int32.ofNat u ||| Int32.ofNat v := by
  apply zN_inj
  rw [zN_or, zN_of, zN_of, zN_of]
  show (u ||| v) % 2 ^ 32 % 2 ^ 32 = (u % 2 ^ 32) ||| (v % 2 ^ 32)
  rw [Nat.mod_mod, Nat.or_mod_two_pow]
theorem zf_xor_ok (u v : Nat) : Int32.ofNat (zf_xor u v) = Int32.ofNat u ^^^ Int32.ofNat v := by
  apply zN_inj
  rw [zN_xor, zN_of, zN_of, zN_of]
  show (u ^^^ v) % 2 ^ 32 % 2 ^ 32 = (u % 2 ^ 32) ^^^ (v % 2 ^ 32)
  rw [Nat.mod_mod, Nat.xor_mod_two_pow]
theorem zf_32_ok (f : Int32 → Int32 → Int32) (u v : Nat) : Int32.ofNat (zf_32 f u v) = f (Int32.ofNat u) (Int32.ofNat v) := zN_self _
/-- an abstract answer of kind g is right for f -/
def zAbs (g : Nat) (f : Int32 → Int32 → Int32) : Prop := ∀ (ρ : Nat → Int32) (ad : Nat → Nat) (la a b : Nat) (x y : Int32) (k : Nat → Bool), zabs g la a b k = true → zv ρ ad a (.int x) → zv ρ ad b (.int y) → la ≤ zB x → ∃ v, zv ρ ad v (.int (f x y)) ∧ k v = true
theorem zaff_ok {ρ : Nat → Int32} {ad : Nat → Nat} {a u : Nat} {x : Int32} (h : a % 8 = 1) (ha : zv ρ ad a (.int x)) : zv ρ ad (zaff a u) (.int (x + Int32.ofNat u)) := by
  have e := Value.int.inj (zv_1 ha h)
  have d : zaff a u = 8 * (a / 34359738368 * 4294967296 + (a / 8 % 4294967296 + u) % 4294967296) + 1 := rfl
  rw [d]
  refine Or.inr (Or.inl ⟨by omega, ?_⟩)
  have e1 : (8 * (a / 34359738368 * 4294967296 + (a / 8 % 4294967296 + u) % 4294967296) + 1) / 34359738368 = a / 34359738368 := by omega
  have e2 : (8 * (a / 34359738368 * 4294967296 + (a / 8 % 4294967296 + u) % 4294967296) + 1) / 8 % 4294967296 = (a / 8 % 4294967296 + u) % 4294967296 := by omega
  rw [e1, e2, e]
  congr 1
  apply zN_inj
  rw [zN_add, zN_add, zN_add, zN_of, zN_of, zN_of]
  omega
theorem zabs_1 {la a b : Nat} {k : Nat → Bool} : zabs 1 la a b k = zif (zand (Nat.beq (Nat.mod a 8) 1) (Nat.beq (Nat.mod b 8) 0)) (zfr false (zaff a (Nat.div b 8)) k) (zif (zand (Nat.beq (Nat.mod a 8) 0) (Nat.beq (Nat.mod b 8) 1)) (zfr false (zaff b (Nat.div a 8)) k) (k 34359738362)) := rfl
theorem zAbs_1 : zAbs 1 (fun x y => x + y) := by
  intro ρ ad la a b x y k h ha hb hla
  rw [zabs_1] at h
  simp only [zfr_eq, zn_m, zn_d] at h
  rcases zif_iff h with ⟨h1, h2⟩ | ⟨-, h2⟩
  · obtain ⟨g1, g2⟩ := zand_iff h1
    refine ⟨_, ?_, h2⟩
    have e := Value.int.inj (zv_0 hb (zbeqT g2))
    rw [e]
    exact zaff_ok (zbeqT g1) ha
  rcases zif_iff h2 with ⟨h1, h3⟩ | ⟨-, h3⟩
  · obtain ⟨g1, g2⟩ := zand_iff h1
    refine ⟨_, ?_, h3⟩
    have e := Value.int.inj (zv_0 ha (zbeqT g1))
    show zv ρ ad _ (.int (x + y))
    rw [e, Int32.add_comm]
    exact zaff_ok (zbeqT g2) hb
  · exact ⟨_, zv_any _, h3⟩
theorem zabs_2 {la a b : Nat} {k : Nat → Bool} : zabs 2 la a b k = zif (zand (Nat.beq (Nat.mod a 8) 1) (Nat.beq (Nat.mod b 8) 0)) (zfr false (zaff a (Nat.sub 4294967296 (Nat.mod (Nat.div b 8) 4294967296))) k) (k 34359738362) := rfl
theorem zAbs_2 : zAbs 2 (fun x y => x - y) := by
  intro ρ ad la a b x y k h ha hb hla
  rw [zabs_2] at h
  simp only [zfr_eq, zn_m, zn_d, zn_s] at h
  rcases zif_iff h with ⟨h1, h2⟩ | ⟨-, h2⟩
  · obtain ⟨g1, g2⟩ := zand_iff h1
    refine ⟨_, ?_, h2⟩
    have e := Value.int.inj (zv_0 hb (zbeqT g2))
    have e2 : x - y = x + Int32.ofNat (4294967296 - b / 8 % 4294967296) := by
      rw [e]
      apply zN_inj
      rw [zN_sub, zN_add, zN_of, zN_of]
      omega
    show zv ρ ad _ (.int (x - y))
    rw [e2]
    exact zaff_ok (zbeqT g1) ha
  · exact ⟨_, zv_any _, h2⟩
theorem zabs_3 {la a b : Nat} {k : Nat → Bool} : zabs 3 la a b k = k 34359738362 := rfl
theorem zAbs_3 (f : Int32 → Int32 → Int32) : zAbs 3 f := by
  intro ρ ad la a b x y k h ha hb hla
  rw [zabs_3] at h
  exact ⟨_, zv_any _, h⟩
theorem zabs_0 {la a b : Nat} {k : Nat → Bool} : zabs 0 la a b k = false := rfl
theorem zAbs_0 (f : Int32 → Int32 → Int32) : zAbs 0 f := by
  intro ρ ad la a b x y k h ha hb hla
  rw [zabs_0] at h
  cases h
theorem zabs_4 {la a b : Nat} {k : Nat → Bool} : zabs 4 la a b k = zif (zand (Nat.beq (Nat.mod b 8) 0) (Nat.ble (Nat.succ (Nat.div b 8)) 2147483648)) (zfr false (Nat.add (Nat.mul 8 (Nat.add 9223372036854775808 (Nat.add 2147483648 (Nat.div b 8)))) 2) k) false := rfl
theorem zAbs_4 : zAbs 4 (fun x y => x &&& y) := by
  intro ρ ad la a b x y k h ha hb hla
  rw [zabs_4] at h
  simp only [zfr_eq, zn_m, zn_d, zn_c, zn_a, zn_u] at h
  rcases zif_iff h with ⟨h1, h2⟩ | ⟨-, h2⟩
  · obtain ⟨g1, g2⟩ := zand_iff h1
    have g3 := zbleT g2
    have e := Value.int.inj (zv_0 hb (zbeqT g1))
    refine ⟨_, ?_, h2⟩
    have hN : y.toBitVec.toNat = b / 8 := by rw [e, zN_of]; omega
    have hle : (x &&& y).toBitVec.toNat ≤ b / 8 := by rw [zN_and, hN]; exact Nat.and_le_right
    have hB : zB (x &&& y) = (x &&& y).toBitVec.toNat + 2147483648 := by rw [zB_eq]; omega
    have e3 : 8 * (9223372036854775808 + (2147483648 + b / 8)) + 2 = 8 * (2147483648 * 4294967296 + (2147483648 + b / 8)) + 2 := by omega
    rw [e3]
    exact zv_bd (by rw [hB]; omega) (by rw [hB]; omega) (by omega)
  · cases h2
theorem zabs_5 {la a b : Nat} {k : Nat → Bool} : zabs 5 la a b k = zif (zand (Nat.beq (Nat.mod b 8) 0) (zand (Nat.ble (Nat.succ (Nat.div b 8)) 2147483648) (zand (Nat.ble 1 (Nat.div b 8)) (Nat.ble 2147483648 la)))) (zfr false (Nat.add (Nat.mul 8 (Nat.add 9223372036854775808 (Nat.add 2147483647 (Nat.div b 8)))) 2) k) false := rfl
theorem zAbs_5 : zAbs 5 (fun x y => x - x / y * y) := by
  intro ρ ad la a b x y k h ha hb hla
  rw [zabs_5] at h
  simp only [zfr_eq, zn_m, zn_d, zn_c, zn_a, zn_u] at h
  rcases zif_iff h with ⟨h1, h2⟩ | ⟨-, h2⟩
  · obtain ⟨g1, g2⟩ := zand_iff h1
    obtain ⟨g2, g3⟩ := zand_iff g2
    obtain ⟨g3, g4⟩ := zand_iff g3
    have g2 := zbleT g2
    have g3 := zbleT g3
    have g4 := zbleT g4
    have e := Value.int.inj (zv_0 hb (zbeqT g1))
    have hx : x.toBitVec.toNat < 2147483648 := by
      have h5 := zB_eq x
      have h6 := x.toBitVec.isLt
      omega
    have e1 : x = nI x.toBitVec.toNat := (zN_self x).symm
    refine ⟨_, ?_, h2⟩
    have e2 : x - x / y * y = nI (x.toBitVec.toNat % (b / 8)) := by
      rw [e, e1]
      have hr := pk_rem (a := x.toBitVec.toNat) (d := b / 8) (by omega) (by omega) (by omega)
      rw [← e1] at hr ⊢
      exact hr
    show zv ρ ad _ (.int (x - x / y * y))
    rw [e2]
    have hlt : x.toBitVec.toNat % (b / 8) < b / 8 := Nat.mod_lt _ (by omega)
    have hB : zB (nI (x.toBitVec.toNat % (b / 8))) = x.toBitVec.toNat % (b / 8) + 2147483648 := by
      show zB (Int32.ofNat _) = _
      rw [zB_of, zb_def]
      omega
    have e3 : 8 * (9223372036854775808 + (2147483647 + b / 8)) + 2 = 8 * (2147483648 * 4294967296 + (2147483647 + b / 8)) + 2 := by omega
    rw [e3]
    exact zv_bd (by rw [hB]; omega) (by rw [hB]; omega) (by omega)
  · cases h2
theorem zabs_6 {la a b : Nat} {k : Nat → Bool} : zabs 6 la a b k = zif (zand (Nat.beq (Nat.mod b 8) 0) (zand (Nat.ble (Nat.succ (Nat.div b 8)) 2147483648) (Nat.ble 2147483648 la))) (k 73786976329197944826) (k 34359738362) := rfl
theorem zAbs_6 : zAbs 6 (fun x y => x ^^^ y) := by
  intro ρ ad la a b x y k h ha hb hla
  rw [zabs_6] at h
  simp only [zn_m, zn_d, zn_c] at h
  rcases zif_iff h with ⟨h1, h2⟩ | ⟨-, h2⟩
  · obtain ⟨g1, g2⟩ := zand_iff h1
    obtain ⟨g2, g3⟩ := zand_iff g2
    have g2 := zbleT g2
    have g3 := zbleT g3
    have e := Value.int.inj (zv_0 hb (zbeqT g1))
    have hx : x.toBitVec.toNat < 2147483648 := by
      have h5 := zB_eq x
      have h6 := x.toBitVec.isLt
      omega
    have hy : y.toBitVec.toNat < 2147483648 := by rw [e, zN_of]; omega
    refine ⟨_, ?_, h2⟩
    have hlt : (x ^^^ y).toBitVec.toNat < 2 ^ 31 := by
      rw [zN_xor]
      exact Nat.xor_lt_two_pow (by omega) (by omega)
    have hB : zB (x ^^^ y) = (x ^^^ y).toBitVec.toNat + 2147483648 := by rw [zB_eq]; omega
    have e3 : 73786976329197944826 = 8 * (2147483648 * 4294967296 + 4294967295) + 2 := by decide
    rw [e3]
    exact zv_bd (by rw [hB]; omega) (by rw [hB]; omega) (by omega)
  · exact ⟨_, zv_any _, h2⟩
theorem zslow_iff {f : Nat → Nat → Nat} {g : Nat} {dv : Bool} {a b : Nat} {w : zW} {again : zW → Bool} {k : Nat → Bool} {F : Int32 → Int32 → Int32} {ρ : Nat → Int32} {ad : Nat → Nat} {x' y' : Value} (h : zslow f g dv a b w again k = true) (hE : zEnv ρ w.2) (ha : zv ρ ad a x') (hb : zv ρ ad b y') (hf : ∀ u v, Int32.ofNat (f u v) = F (Int32.ofNat u) (Int32.ofNat v)) (hg : zAbs g F) (hdv : dv = true → g = 5 ∨ g = 0) :
    (∃ w2 : zW, w2.1 = w.1 ∧ zEnv ρ w2.2 ∧ again w2 = true) ∨ ∃ (x y : Int32) (v : Nat), x' = .int x ∧ y' = .int y ∧ (dv = true → ¬ y = 0) ∧ zv ρ ad v (.int (F x y)) ∧ k v = true := by
  unfold zslow at h
  simp only [zfr_eq, zn_m, zn_u] at h
  have slow : (zbd w a (fun la _ => zbd w b (fun _ _ => zabs g la a b k))) = true → ∃ (x y : Int32) (v : Nat), x' = .int x ∧ y' = .int y ∧ (dv = true → ¬ y = 0) ∧ zv ρ ad v (.int (F x y)) ∧ k v = true := by
    intro h
    obtain ⟨x, la, ha', rfl, a1, a2, h⟩ := zbd_iff h hE ha
    obtain ⟨y, lb, hb', rfl, b1, b2, h⟩ := zbd_iff h hE hb
    obtain ⟨v, h1, h2⟩ := hg ρ ad la a b x y k h ha hb a1
    refine ⟨x, y, v, rfl, rfl, fun q => ?_, h1, h2⟩
    rcases hdv q with e | e
    · subst e
      rw [zabs_5] at h
      simp only [zfr_eq, zn_m, zn_d, zn_c, zn_a, zn_u] at h
      rcases zif_iff h with ⟨h1, -⟩ | ⟨-, h2⟩
      · obtain ⟨g1, g2⟩ := zand_iff h1
        obtain ⟨g2, g3⟩ := zand_iff g2
        obtain ⟨g3, -⟩ := zand_iff g3
        have g2 := zbleT g2
        have g3 := zbleT g3
        have e := Value.int.inj (zv_0 hb (zbeqT g1))
        intro z
        rw [z] at e
        have e5 : (0 : Int32).toBitVec.toNat = (Int32.ofNat (b / 8)).toBitVec.toNat := by rw [e]
        rw [zN_of] at e5
        have e6 : (0 : Int32).toBitVec.toNat = 0 := by decide
        omega
      · cases h2
    · subst e
      rw [zabs_0] at h
      cases h
  rcases zhalf_iff h hE ha with q | h
  · exact Or.inl q
  rcases zhalf_iff h hE hb with q | h
  · exact Or.inl q
  rcases zkn_iff h hE ha with ⟨ua, rfl, h⟩ | h
  · rcases zkn_iff h hE hb with ⟨ub, rfl, h⟩ | h
    · rcases zif_iff h with ⟨-, h2⟩ | ⟨h1, h2⟩
      · cases h2
      · refine Or.inr ⟨_, _, _, rfl, rfl, fun q z => ?_, zv_mk (hf ua ub), h2⟩
        rw [q] at h1
        have h3 : Nat.beq (ub % 4294967296) 0 = false := h1
        have e5 : (Int32.ofNat ub).toBitVec.toNat = (0 : Int32).toBitVec.toNat := by rw [z]
        rw [zN_of] at e5
        exact zbeqF h3 e5
    · exact Or.inr (slow h)
  · exact Or.inr (slow h)
