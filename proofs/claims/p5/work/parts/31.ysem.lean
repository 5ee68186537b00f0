/-! WHAT THE SECOND EXECUTOR's VALUES MEAN -/
def zyv (ρ : Nat → Int32) (N : Nat) (ad : Nat → Nat) (v : Nat) (w : Value) : Prop :=
  (zv ρ ad v w ∧ (v % 8 = 1 → v / 34359738368 < N) ∧ (v % 8 = 4 → v / 8 < 18446744073709551616)) ∨ (v % 8 = 4 ∧ 18446744073709551616 ≤ v / 8 ∧ ∃ x : Int64, w = .long x) ∨
  (v % 8 = 6 ∧ (w = .ref (ad (v / 8 % 1048576)) ∨ w = .ref (ad (v / 8 / 1048576))))
theorem zB_add2 {x y : Int32} (h1 : 2147483648 ≤ zB x + zB y) (h2 : zB x + zB y ≤ 6442450943) : zB (x + y) = zB x + zB y - 2147483648 := by
  have e1 := zB_eq x
  have e2 := zB_eq y
  have e3 := zB_eq (x + y)
  rw [zN_add] at e3
  have l1 := x.toBitVec.isLt
  have l2 := y.toBitVec.isLt
  omega
theorem zB_sub2 {x y : Int32} (h1 : zB y ≤ zB x + 2147483648) (h2 : zB x + 2147483648 ≤ zB y + 4294967295) : zB (x - y) = zB x + 2147483648 - zB y := by
  have e1 := zB_eq x
  have e2 := zB_eq y
  have e3 := zB_eq (x - y)
  rw [zN_sub] at e3
  have l1 := x.toBitVec.isLt
  have l2 := y.toBitVec.isLt
  omega
/-- an int that isn't below 0, by its number -/
theorem zyp {x : Int32} (h : 2147483648 ≤ zB x) : x = nI x.toBitVec.toNat ∧ x.toBitVec.toNat < 2147483648 ∧ zB x = x.toBitVec.toNat + 2147483648 := by
  have e1 := zB_eq x
  have l1 := x.toBitVec.isLt
  exact ⟨(zN_self x).symm, by omega, by omega⟩
theorem zB_nI {n : Nat} (h : n < 2147483648) : zB (nI n) = n + 2147483648 := by
  show zB (Int32.ofNat n) = _
  rw [zB_of, zb_def]
  omega
theorem zysh0 : ∀ k, k < 32 → ((nI k &&& 31).toBitVec.smod 32).toNat = k := by decide +kernel
theorem zysh (y : Int32) : ∃ k, k < 32 ∧ y &&& 31 = nI k &&& 31 ∧ k = y.toBitVec.toNat % 32 := by
  refine ⟨y.toBitVec.toNat % 32, Nat.mod_lt _ (by decide), ?_, rfl⟩
  apply zN_inj
  rw [zN_and, zN_and]
  have e : (31 : Int32).toBitVec.toNat = 2 ^ 5 - 1 := by decide
  rw [e, Nat.and_two_pow_sub_one_eq_mod, Nat.and_two_pow_sub_one_eq_mod]
  show _ = (Int32.ofNat _).toBitVec.toNat % 32
  rw [zN_of]
  omega
def zyG (g : Nat) (x y : Int32) : Int32 := match g with
  | 1 => x + y
  | 2 => x - y
  | 3 => x * y
  | 4 => x &&& y
  | 5 => x - x / y * y
  | 6 => x ^^^ y
  | 7 => x ||| y
  | 8 => x <<< (y &&& 31)
  | 9 => x >>> (y &&& 31)
  | 10 => x / y
  | 11 => -x
  | _ => 0
def zyItv (g : Nat) : Prop := ∀ (x y : Int32) (la ha lb hb : Nat) (k : Nat → Nat → Bool), zyitv g la ha lb hb k = true → la ≤ zB x → zB x ≤ ha → lb ≤ zB y → zB y ≤ hb → (g = 5 ∨ g = 10 → ¬ y = 0) ∧ ∃ lo hi, lo ≤ zB (zyG g x y) ∧ zB (zyG g x y) ≤ hi ∧ k lo hi = true
theorem zyfull (z : Int32) : 0 ≤ zB z ∧ zB z ≤ 4294967295 := ⟨Nat.zero_le _, by have := zB_lt z; omega⟩
theorem zyItv_1 : zyItv 1 := by
  intro x y la ha lb hb k h a1 a2 b1 b2
  refine ⟨fun z => by omega, ?_⟩
  have h : zif (zand (Nat.ble 2147483648 (la + lb)) (Nat.ble (ha + hb) 6442450943)) (zfr false (la + lb - 2147483648) (fun lo => zfr false (ha + hb - 2147483648) (fun hi => k lo hi))) (k 0 4294967295) = true := h
  simp only [zfr_eq] at h
  rcases zif_iff h with ⟨h1, h2⟩ | ⟨-, h2⟩
  · obtain ⟨g1, g2⟩ := zand_iff h1
    have g1 := zbleT g1
    have g2 := zbleT g2
    have e := zB_add2 (x := x) (y := y) (by omega) (by omega)
    have e' : zB (zyG 1 x y) = zB x + zB y - 2147483648 := e
    exact ⟨_, _, by omega, by omega, h2⟩
  · exact ⟨_, _, (zyfull _).1, (zyfull _).2, h2⟩
theorem zyItv_2 : zyItv 2 := by
  intro x y la ha lb hb k h a1 a2 b1 b2
  refine ⟨fun z => by omega, ?_⟩
  have h : zif (zand (Nat.ble hb (la + 2147483648)) (Nat.ble (ha + 2147483648) (lb + 4294967295))) (zfr false (la + 2147483648 - hb) (fun lo => zfr false (ha + 2147483648 - lb) (fun hi => k lo hi))) (k 0 4294967295) = true := h
  simp only [zfr_eq] at h
  rcases zif_iff h with ⟨h1, h2⟩ | ⟨-, h2⟩
  · obtain ⟨g1, g2⟩ := zand_iff h1
    have g1 := zbleT g1
    have g2 := zbleT g2
    have e : zB (zyG 2 x y) = zB x + 2147483648 - zB y := zB_sub2 (x := x) (y := y) (by omega) (by omega)
    exact ⟨_, _, by omega, by omega, h2⟩
  · exact ⟨_, _, (zyfull _).1, (zyfull _).2, h2⟩
theorem zymulI {x y : Int32} (h : (x.toInt * y.toInt).natAbs ≤ 2147483647) : (x * y).toInt = x.toInt * y.toInt := by
  rw [Int32.toInt_mul]
  apply Int.bmod_eq_of_le
  · omega
  · omega
theorem zyItv_3 : zyItv 3 := by
  intro x y la ha lb hb k h a1 a2 b1 b2
  refine ⟨fun z => by omega, ?_⟩
  unfold zyitv at h
  rw [show Nat.beq 3 1 = false from rfl, zif_f, show Nat.beq 3 2 = false from rfl, zif_f, show Nat.beq 3 3 = true from rfl, zif_t] at h
  simp only [zfr_eq, zn_u, zn_s, zn_a, zn_x] at h
  have bx := zB_int x
  have by' := zB_int y
  have bz := zB_int (x * y)
  rcases zif_iff h with ⟨h1, h2⟩ | ⟨-, h2⟩
  · obtain ⟨g1, g2⟩ := zand_iff h1
    obtain ⟨g2, g3⟩ := zand_iff g2
    have g1 := zbleT g1
    have g2 := zbleT g2
    have g3 := zbleT g3
    have m1 : (la - 2147483648) * (lb - 2147483648) ≤ (zB x - 2147483648) * (zB y - 2147483648) := Nat.mul_le_mul (by omega) (by omega)
    have m2 : (zB x - 2147483648) * (zB y - 2147483648) ≤ (ha - 2147483648) * (hb - 2147483648) := Nat.mul_le_mul (by omega) (by omega)
    have ex : x.toInt = ((zB x - 2147483648 : Nat) : Int) := by omega
    have ey : y.toInt = ((zB y - 2147483648 : Nat) : Int) := by omega
    have em : x.toInt * y.toInt = (((zB x - 2147483648) * (zB y - 2147483648) : Nat) : Int) := by rw [ex, ey]; exact (Int.natCast_mul _ _).symm
    have e := zymulI (x := x) (y := y) (by rw [em]; omega)
    have e' : zB (zyG 3 x y) = (zB x - 2147483648) * (zB y - 2147483648) + 2147483648 := by
      show zB (x * y) = _
      omega
    exact ⟨_, _, by omega, by omega, h2⟩
  · rcases zif_iff h2 with ⟨h3, h4⟩ | ⟨-, h4⟩
    · have h3 := zbleT h3
      have key : ∀ (z : Int32) (l u : Nat), l ≤ zB z → zB z ≤ u → z.toInt.natAbs ≤ max (u - 2147483648) (2147483648 - l) := by
        intro z l u z1 z2
        have z3 := zB_int z
        by_cases z4 : 0 ≤ z.toInt
        · exact Nat.le_trans (show z.toInt.natAbs ≤ u - 2147483648 by omega) (Nat.le_max_left _ _)
        · exact Nat.le_trans (show z.toInt.natAbs ≤ 2147483648 - l by omega) (Nat.le_max_right _ _)
      have n1 := key x la ha a1 a2
      have n2 := key y lb hb b1 b2
      have n3 : (x.toInt * y.toInt).natAbs ≤ max (ha - 2147483648) (2147483648 - la) * max (hb - 2147483648) (2147483648 - lb) := by
        rw [Int.natAbs_mul]
        exact Nat.mul_le_mul n1 n2
      have e := zymulI (x := x) (y := y) (by omega)
      have e' : (zB (zyG 3 x y) : Int) = x.toInt * y.toInt + 2147483648 := by
        show (zB (x * y) : Int) = _
        omega
      generalize max (ha - 2147483648) (2147483648 - la) * max (hb - 2147483648) (2147483648 - lb) = M at *
      generalize x.toInt * y.toInt = Z at *
      exact ⟨_, _, by omega, by omega, h4⟩
    · exact ⟨_, _, (zyfull _).1, (zyfull _).2, h4⟩
theorem zyItv_4 : zyItv 4 := by
  intro x y la ha lb hb k h a1 a2 b1 b2
  refine ⟨fun z => by omega, ?_⟩
  have h : zif (Nat.ble 2147483648 lb) (zif (Nat.ble 2147483648 la) (zfr false (min ha hb) (fun hi => k 2147483648 hi)) (k 2147483648 hb)) (zif (Nat.ble 2147483648 la) (k 2147483648 ha) (k 0 4294967295)) = true := h
  simp only [zfr_eq] at h
  have hx : 2147483648 ≤ zB x → 2147483648 ≤ zB (zyG 4 x y) ∧ zB (zyG 4 x y) ≤ zB x := by
    intro hx
    obtain ⟨-, p2, p3⟩ := zyp hx
    have hl : (x &&& y).toBitVec.toNat ≤ x.toBitVec.toNat := by rw [zN_and]; exact Nat.and_le_left
    have e := zB_eq (x &&& y)
    show 2147483648 ≤ zB (x &&& y) ∧ zB (x &&& y) ≤ _
    omega
  have hy : 2147483648 ≤ zB y → 2147483648 ≤ zB (zyG 4 x y) ∧ zB (zyG 4 x y) ≤ zB y := by
    intro hy
    obtain ⟨-, p2, p3⟩ := zyp hy
    have hl : (x &&& y).toBitVec.toNat ≤ y.toBitVec.toNat := by rw [zN_and]; exact Nat.and_le_right
    have e := zB_eq (x &&& y)
    show 2147483648 ≤ zB (x &&& y) ∧ zB (x &&& y) ≤ _
    omega
  rcases zif_iff h with ⟨h1, h2⟩ | ⟨-, h2⟩
  · have h1 := zbleT h1
    have q := hy (by omega)
    rcases zif_iff h2 with ⟨h3, h4⟩ | ⟨-, h4⟩
    · have h3 := zbleT h3
      have q2 := hx (by omega)
      exact ⟨_, _, q.1, by omega, h4⟩
    · exact ⟨_, _, q.1, by omega, h4⟩
  · rcases zif_iff h2 with ⟨h3, h4⟩ | ⟨-, h4⟩
    · have h3 := zbleT h3
      have q2 := hx (by omega)
      exact ⟨_, _, q2.1, by omega, h4⟩
    · exact ⟨_, _, (zyfull _).1, (zyfull _).2, h4⟩
theorem zyne {y : Int32} (h : ¬ zB y = 2147483648) : ¬ y = 0 := fun z => h (by rw [z]; decide)
theorem zyremI {x y : Int32} (h : 2147483649 ≤ zB y) : (x - x / y * y).toInt = x.toInt.tmod y.toInt := by
  have bx := zB_int x
  have by' := zB_int y
  have lx := zB_lt x
  have ly := zB_lt y
  have hneg : x.toInt < 0 → x.toInt.tdiv y.toInt ≤ 0 := by
    intro z
    have q := Int.tdiv_nonneg (a := -x.toInt) (b := y.toInt) (by omega) (by omega)
    rw [Int.neg_tdiv] at q
    omega
  have q := Int.natAbs_tdiv_le_natAbs x.toInt y.toInt
  have hd : (x / y).toInt = x.toInt.tdiv y.toInt := by
    rw [Int32.toInt_div]
    apply Int.bmod_eq_of_le
    · omega
    · by_cases hx : x.toInt < 0
      · have := hneg hx
        omega
      · omega
  have key := Int.tmod_add_tdiv_mul x.toInt y.toInt
  have hm : (x.toInt.tdiv y.toInt * y.toInt).natAbs ≤ x.toInt.natAbs := by
    rw [Int.natAbs_mul, Int.natAbs_tdiv]
    exact Nat.div_mul_le_self _ _
  have hp : (x / y * y).toInt = x.toInt.tdiv y.toInt * y.toInt := by
    rw [Int32.toInt_mul, hd]
    apply Int.bmod_eq_of_le
    · omega
    · by_cases hx : x.toInt < 0
      · have q4 : x.toInt.tdiv y.toInt * y.toInt ≤ 0 := Int.mul_nonpos_of_nonpos_of_nonneg (hneg hx) (by omega)
        omega
      · omega
  rw [Int32.toInt_sub, hp]
  have e : x.toInt - x.toInt.tdiv y.toInt * y.toInt = x.toInt.tmod y.toInt := by omega
  rw [e]
  have b : (x.toInt.tmod y.toInt).natAbs < y.toInt.natAbs := by
    rw [Int.natAbs_tmod]
    exact Nat.mod_lt _ (by omega)
  apply Int.bmod_eq_of_le
  · omega
  · omega
theorem zyItv_5 : zyItv 5 := by
  intro x y la ha lb hb k h a1 a2 b1 b2
  have h : zif (Nat.ble 2147483649 lb) (zif (Nat.ble 2147483648 la) (zfr false (min ha (hb - 1)) (fun hi => k 2147483648 hi)) (zif (Nat.ble ha 2147483648) (zfr false (4294967297 - hb) (fun lo => k lo 2147483648)) (zfr false (4294967297 - hb) (fun lo => zfr false (hb - 1) (fun hi => k lo hi))))) (zif (Nat.ble hb 2147483647) (k 0 4294967295) false) = true := h
  simp only [zfr_eq] at h
  have bx := zB_int x
  have by' := zB_int y
  rcases zif_iff h with ⟨h1, h2⟩ | ⟨-, h2⟩
  · have h1 := zbleT h1
    refine ⟨fun _ => zyne (by omega), ?_⟩
    have e := zyremI (x := x) (y := y) (by omega)
    have bz := zB_int (x - x / y * y)
    have b : (x.toInt.tmod y.toInt).natAbs < y.toInt.natAbs := by
      rw [Int.natAbs_tmod]
      exact Nat.mod_lt _ (by omega)
    rcases zif_iff h2 with ⟨h3, h4⟩ | ⟨-, h4⟩
    · have h3 := zbleT h3
      have p1 : 0 ≤ x.toInt.tmod y.toInt := Int.tmod_nonneg _ (by omega)
      have p2 : (x.toInt.tmod y.toInt).natAbs ≤ x.toInt.natAbs := by
        rw [Int.natAbs_tmod]
        exact Nat.mod_le _ _
      refine ⟨_, _, ?_, ?_, h4⟩
      · show 2147483648 ≤ zB (x - x / y * y)
        omega
      · show zB (x - x / y * y) ≤ _
        omega
    · rcases zif_iff h4 with ⟨h5, h6⟩ | ⟨-, h6⟩
      · have h5 := zbleT h5
        have p1 : 0 ≤ (-x.toInt).tmod y.toInt := Int.tmod_nonneg _ (by omega)
        rw [Int.neg_tmod] at p1
        refine ⟨_, _, ?_, ?_, h6⟩
        · show _ ≤ zB (x - x / y * y)
          omega
        · show zB (x - x / y * y) ≤ _
          omega
      · refine ⟨_, _, ?_, ?_, h6⟩
        · show _ ≤ zB (x - x / y * y)
          omega
        · show zB (x - x / y * y) ≤ _
          omega
  · rcases zif_iff h2 with ⟨h3, h4⟩ | ⟨-, h4⟩
    · have h3 := zbleT h3
      exact ⟨fun _ => zyne (by omega), _, _, (zyfull _).1, (zyfull _).2, h4⟩
    · cases h4
theorem zyItv_6 : zyItv 6 := by
  intro x y la ha lb hb k h a1 a2 b1 b2
  refine ⟨fun z => by omega, ?_⟩
  have h : zif (zand (Nat.ble 2147483648 la) (Nat.ble 2147483648 lb)) (k 2147483648 4294967295) (zif (zand (Nat.ble ha 2147483647) (Nat.ble 2147483648 lb)) (k 0 2147483647) (k 0 4294967295)) = true := h
  rcases zif_iff h with ⟨h1, h2⟩ | ⟨-, h2⟩
  · obtain ⟨g1, g2⟩ := zand_iff h1
    have g1 := zbleT g1
    have g2 := zbleT g2
    obtain ⟨-, p1, -⟩ := zyp (x := x) (by omega)
    obtain ⟨-, p2, -⟩ := zyp (x := y) (by omega)
    have hlt : (x ^^^ y).toBitVec.toNat < 2 ^ 31 := by
      rw [zN_xor]
      exact Nat.xor_lt_two_pow (by omega) (by omega)
    have e := zB_eq (x ^^^ y)
    refine ⟨_, _, ?_, (zyfull _).2, h2⟩
    show 2147483648 ≤ zB (x ^^^ y)
    omega
  · rcases zif_iff h2 with ⟨h3, h4⟩ | ⟨-, h4⟩
    · obtain ⟨g1, g2⟩ := zand_iff h3
      have g1 := zbleT g1
      have g2 := zbleT g2
      obtain ⟨-, p2, -⟩ := zyp (x := y) (by omega)
      have ex := zB_eq x
      have lx := x.toBitVec.isLt
      have hx1 : x.toBitVec.toNat.testBit 31 = true := by
        rw [Nat.testBit_eq_decide_div_mod_eq, decide_eq_true_eq]
        omega
      have hy1 : y.toBitVec.toNat.testBit 31 = false := Nat.testBit_lt_two_pow (by omega)
      have hz1 : (x ^^^ y).toBitVec.toNat.testBit 31 = true := by rw [zN_xor, Nat.testBit_xor, hx1, hy1]; rfl
      have hz2 := Nat.ge_two_pow_of_testBit hz1
      have e := zB_eq (x ^^^ y)
      have lz := (x ^^^ y).toBitVec.isLt
      refine ⟨_, _, (zyfull _).1, ?_, h4⟩
      show zB (x ^^^ y) ≤ 2147483647
      omega
    · exact ⟨_, _, (zyfull _).1, (zyfull _).2, h4⟩
theorem zyItv_7 : zyItv 7 := by
  intro x y la ha lb hb k h a1 a2 b1 b2
  refine ⟨fun z => by omega, ?_⟩
  have h : zif (zand (Nat.ble 2147483648 la) (Nat.ble 2147483648 lb)) (zfr false (2147483647 + 2 ^ (Nat.log2 (max ha hb - 2147483648) + 1)) (fun hi => zif (Nat.ble hi 4294967295) (k 2147483648 hi) (k 2147483648 4294967295))) (k 0 4294967295) = true := h
  simp only [zfr_eq] at h
  rcases zif_iff h with ⟨h1, h2⟩ | ⟨-, h2⟩
  · obtain ⟨g1, g2⟩ := zand_iff h1
    have g1 := zbleT g1
    have g2 := zbleT g2
    obtain ⟨-, p1, p1'⟩ := zyp (x := x) (by omega)
    obtain ⟨-, p2, p2'⟩ := zyp (x := y) (by omega)
    have hlt : (x ||| y).toBitVec.toNat < 2 ^ 31 := by
      rw [zN_or]
      exact Nat.or_lt_two_pow (by omega) (by omega)
    have l2 := Nat.lt_log2_self (n := max ha hb - 2147483648)
    have hlt2 : (x ||| y).toBitVec.toNat < 2 ^ (Nat.log2 (max ha hb - 2147483648) + 1) := by
      rw [zN_or]
      exact Nat.or_lt_two_pow (by omega) (by omega)
    have e := zB_eq (x ||| y)
    have q1 : 2147483648 ≤ zB (zyG 7 x y) := by
      show 2147483648 ≤ zB (x ||| y)
      omega
    rcases zif_iff h2 with ⟨h3, h4⟩ | ⟨-, h4⟩
    · refine ⟨_, _, q1, ?_, h4⟩
      show zB (x ||| y) ≤ _
      omega
    · exact ⟨_, _, q1, (zyfull _).2, h4⟩
  · exact ⟨_, _, (zyfull _).1, (zyfull _).2, h2⟩
theorem zyItv_8 : zyItv 8 := by
  intro x y la ha lb hb k h a1 a2 b1 b2
  refine ⟨fun z => by omega, ?_⟩
  have h : zif (zand (Nat.ble 2147483648 la) (zand (Nat.ble 2147483648 lb) (zand (Nat.ble hb 2147483679) (Nat.ble ((ha - 2147483648) * 2 ^ (hb - 2147483648)) 2147483647)))) (zfr false (2147483648 + (la - 2147483648) * 2 ^ (lb - 2147483648)) (fun lo => zfr false (2147483648 + (ha - 2147483648) * 2 ^ (hb - 2147483648)) (fun hi => k lo hi))) (k 0 4294967295) = true := h
  simp only [zfr_eq] at h
  rcases zif_iff h with ⟨h1, h2⟩ | ⟨-, h2⟩
  · obtain ⟨g1, g2⟩ := zand_iff h1
    obtain ⟨g2, g3⟩ := zand_iff g2
    obtain ⟨g3, g4⟩ := zand_iff g3
    have g1 := zbleT g1
    have g2 := zbleT g2
    have g3 := zbleT g3
    have g4 := zbleT g4
    obtain ⟨ex, p1, p1'⟩ := zyp (x := x) (by omega)
    obtain ⟨ey, p2, p2'⟩ := zyp (x := y) (by omega)
    obtain ⟨j, hj, e1, e2⟩ := zysh y
    have ej : j = zB y - 2147483648 := by omega
    have m1 : (la - 2147483648) * 2 ^ (lb - 2147483648) ≤ x.toBitVec.toNat * 2 ^ j := Nat.mul_le_mul (by omega) (Nat.pow_le_pow_right (by decide) (by omega))
    have m2 : x.toBitVec.toNat * 2 ^ j ≤ (ha - 2147483648) * 2 ^ (hb - 2147483648) := Nat.mul_le_mul (by omega) (Nat.pow_le_pow_right (by decide) (by omega))
    have e3 : zyG 8 x y = nI (x.toBitVec.toNat * 2 ^ j) := by
      show x <<< (y &&& 31) = _
      rw [e1]
      have q := pk_shlN (n := x.toBitVec.toNat) (nI j &&& 31) j (zysh0 j hj) (by omega)
      rw [← ex] at q
      exact q
    have e4 : zB (zyG 8 x y) = x.toBitVec.toNat * 2 ^ j + 2147483648 := by rw [e3]; exact zB_nI (by omega)
    exact ⟨_, _, by omega, by omega, h2⟩
  · exact ⟨_, _, (zyfull _).1, (zyfull _).2, h2⟩
theorem zyItv_9 : zyItv 9 := by
  intro x y la ha lb hb k h a1 a2 b1 b2
  refine ⟨fun z => by omega, ?_⟩
  have h : zif (Nat.ble 2147483648 la) (zif (zand (Nat.ble 2147483648 lb) (Nat.ble hb 2147483679)) (zfr false (2147483648 + (ha - 2147483648) / 2 ^ (lb - 2147483648)) (fun hi => k 2147483648 hi)) (k 2147483648 ha)) (k 0 4294967295) = true := h
  simp only [zfr_eq] at h
  rcases zif_iff h with ⟨h1, h2⟩ | ⟨-, h2⟩
  · have g1 := zbleT h1
    obtain ⟨ex, p1, p1'⟩ := zyp (x := x) (by omega)
    obtain ⟨j, hj, e1, e2⟩ := zysh y
    have e3 : zyG 9 x y = nI (x.toBitVec.toNat / 2 ^ j) := by
      show x >>> (y &&& 31) = _
      rw [e1]
      have q := pk_shrN (n := x.toBitVec.toNat) (by omega) (nI j &&& 31) j (zysh0 j hj)
      rw [← ex] at q
      exact q
    have l1 : x.toBitVec.toNat / 2 ^ j ≤ x.toBitVec.toNat := Nat.div_le_self _ _
    have e4 : zB (zyG 9 x y) = x.toBitVec.toNat / 2 ^ j + 2147483648 := by rw [e3]; exact zB_nI (by omega)
    rcases zif_iff h2 with ⟨h3, h4⟩ | ⟨-, h4⟩
    · obtain ⟨g2, g3⟩ := zand_iff h3
      have g2 := zbleT g2
      have g3 := zbleT g3
      obtain ⟨ey, p2, p2'⟩ := zyp (x := y) (by omega)
      have l2 : x.toBitVec.toNat / 2 ^ j ≤ (ha - 2147483648) / 2 ^ (lb - 2147483648) := Nat.div_le_div (by omega) (Nat.pow_le_pow_right (by decide) (by omega)) (Nat.ne_of_gt (Nat.two_pow_pos _))
      refine ⟨_, _, ?_, ?_, h4⟩
      · rw [e4]; exact Nat.le_add_left _ _
      · rw [e4, Nat.add_comm]; exact Nat.add_le_add_left l2 _
    · refine ⟨_, _, ?_, ?_, h4⟩
      · rw [e4]; exact Nat.le_add_left _ _
      · rw [e4]
        exact Nat.le_trans (Nat.add_le_add_right l1 _) (by omega)
  · exact ⟨_, _, (zyfull _).1, (zyfull _).2, h2⟩
theorem zyItv_10 : zyItv 10 := by
  intro x y la ha lb hb k h a1 a2 b1 b2
  have h : zif (Nat.ble 2147483649 lb) (zif (Nat.ble 2147483648 la) (zfr false (2147483648 + (la - 2147483648) / (hb - 2147483648)) (fun lo => zfr false (2147483648 + (ha - 2147483648) / (lb - 2147483648)) (fun hi => k lo hi))) (k 0 4294967295)) (zif (Nat.ble hb 2147483647) (k 0 4294967295) false) = true := h
  simp only [zfr_eq] at h
  rcases zif_iff h with ⟨h1, h2⟩ | ⟨-, h2⟩
  · have h1 := zbleT h1
    refine ⟨fun _ => zyne (by omega), ?_⟩
    rcases zif_iff h2 with ⟨h3, h4⟩ | ⟨-, h4⟩
    · have h3 := zbleT h3
      obtain ⟨ex, p1, p1'⟩ := zyp (x := x) (by omega)
      obtain ⟨ey, p2, p2'⟩ := zyp (x := y) (by omega)
      have e3 : zyG 10 x y = nI (x.toBitVec.toNat / y.toBitVec.toNat) := by
        show x / y = _
        have q := pk_div (a := x.toBitVec.toNat) (d := y.toBitVec.toNat) (by omega) (by omega) (by omega)
        rw [← ex, ← ey] at q
        exact q
      have l1 : x.toBitVec.toNat / y.toBitVec.toNat ≤ x.toBitVec.toNat := Nat.div_le_self _ _
      have e4 : zB (zyG 10 x y) = x.toBitVec.toNat / y.toBitVec.toNat + 2147483648 := by rw [e3]; exact zB_nI (by omega)
      have l2 : x.toBitVec.toNat / y.toBitVec.toNat ≤ (ha - 2147483648) / (lb - 2147483648) := Nat.div_le_div (by omega) (by omega) (by omega)
      have l3 : (la - 2147483648) / (hb - 2147483648) ≤ x.toBitVec.toNat / y.toBitVec.toNat := Nat.div_le_div (by omega) (by omega) (by omega)
      exact ⟨_, _, by omega, by omega, h4⟩
    · exact ⟨_, _, (zyfull _).1, (zyfull _).2, h4⟩
  · rcases zif_iff h2 with ⟨h3, h4⟩ | ⟨-, h4⟩
    · have h3 := zbleT h3
      exact ⟨fun _ => zyne (by omega), _, _, (zyfull _).1, (zyfull _).2, h4⟩
    · cases h4
