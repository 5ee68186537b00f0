/-! THE PRINTER: exact counts. What facts say -/
noncomputable def zyc (lo hi : Nat) : Nat := Nat.add (Nat.mul 8 (Nat.add (Nat.mul (Nat.add lo 2147483648) 4294967296) (Nat.add hi 2147483648))) 2
/-- of an element that was read: its bounds -/
noncomputable def zyfk (w : zW) (a j : Nat) (k : Nat → Nat → Bool) (F : List zyF) : Bool := List.rec (motive := fun _ => Bool) false (fun f _ ih => zif (zand (Nat.beq f.1 24) (zand (Nat.beq f.2.2.1 a) (Nat.beq f.2.2.2 (Nat.mul 8 j)))) (zbd w f.2.1 k) ih) F
theorem zyfk_iff {X : zyX} {w : zW} {a j : Nat} {k : Nat → Nat → Bool} (hE : zEnv (zyρ X) w.2) (hj : j < 2147483648) : ∀ {F : List zyF}, (∀ f ∈ F, zyFm X f) → zyfk w a j k F = true → ∃ (x : Int32) (lo hi : Nat), zyE X a j = some (.int x) ∧ lo ≤ zB x ∧ zB x ≤ hi ∧ k lo hi = true := by
  intro F
  induction F with
  | nil => intro _ h; cases h
  | cons f t ih =>
    intro hF h
    have h : zif (zand (Nat.beq f.1 24) (zand (Nat.beq f.2.2.1 a) (Nat.beq f.2.2.2 (8 * j)))) (zbd w f.2.1 k) (zyfk w a j k t) = true := h
    rcases zif_iff h with ⟨h1, h2⟩ | ⟨-, h2⟩
    · obtain ⟨g1, g2⟩ := zand_iff h1
      obtain ⟨g2, g3⟩ := zand_iff g2
      have g1 := zbeqT g1
      have g2 := zbeqT g2
      have g3 := zbeqT g3
      have hf := hF f List.mem_cons_self
      unfold zyFm at hf
      rw [if_pos g1] at hf
      obtain ⟨z, j2, q1, q2, q3, q4⟩ := hf
      obtain ⟨x, lo, hi, ex, b1, b2, h3⟩ := zybd_iff h2 hE q1
      have ex := Value.int.inj ex
      subst ex
      rw [g3] at q2
      have e1 := Value.int.inj (zyv_0 q2 (by omega))
      have e2 : Int32.ofNat j2 = Int32.ofNat j := by rw [e1, show 8 * j / 8 = j by omega]
      have e3 : (Int32.ofNat j2).toBitVec.toNat = (Int32.ofNat j).toBitVec.toNat := by rw [e2]
      rw [zN_of, zN_of] at e3
      have e4 : j2 = j := by omega
      rw [e4, g2] at q4
      exact ⟨_, lo, hi, q4, b1, b2, h3⟩
    · exact ih (fun f2 hf2 => hF f2 (List.mem_cons_of_mem _ hf2)) h2
/-- a symbol or a known int is one int -/
theorem zyv_one {ρ : Nat → Int32} {N : Nat} {ad : Nat → Nat} {v : Nat} {x y : Int32} (hv : v % 8 ≤ 1) (h1 : zyv ρ N ad v (.int x)) (h2 : zyv ρ N ad v (.int y)) : x = y := by
  by_cases h0 : v % 8 = 0
  · have e1 := Value.int.inj (zyv_0 h1 h0)
    have e2 := Value.int.inj (zyv_0 h2 h0)
    rw [e1, e2]
  · have e1 := Value.int.inj (zv_1 (zyv_zv h1 (by omega) (by omega)) (by omega))
    have e2 := Value.int.inj (zv_1 (zyv_zv h2 (by omega) (by omega)) (by omega))
    rw [e1, e2]
/-- the growth of an element over calls, back to what it was; u: a number of which isn't known how many digits it has, 13 none -/
noncomputable def zychn (w : zW) (root : Nat) (k : Nat → Nat → Bool) (F : List zyF) : Nat → Nat → Nat → Bool := List.rec (motive := fun _ => Nat → Nat → Nat → Bool) (fun v acc u => zif (Nat.beq v root) (k acc u) false)
  (fun f _ ih v acc u => zif (zand (Nat.ble 1300 f.1) (zand (Nat.beq f.2.1 v) (Nat.ble (Nat.mod v 8) 1))) (zif (Nat.beq f.1 1303) (zbd w f.2.2.2 (fun lo hi => zif (Nat.ble hi 2147483657) (zfr false (Nat.add acc 2) (fun a2 => ih f.2.2.1 a2 u)) (zif (Nat.ble 2147483658 lo) (zfr false (Nat.add acc 3) (fun a2 => ih f.2.2.1 a2 u)) (zif (Nat.beq u 13) (ih f.2.2.1 acc f.2.2.2) false)))) (zfr false (Nat.add acc (Nat.sub f.1 1300)) (fun a2 => ih f.2.2.1 a2 u))) (ih v acc u)) F
def zyund (X : zyX) (u n : Nat) : Prop := (u = 13 ∧ n = 0) ∨ ∃ y : Int32, zyV X u (.int y) ∧ n = zyNm y
theorem zyNm_lo {x : Int32} (h : zB x ≤ 2147483657) : zyNm x = 2 := by
  unfold zyNm
  have b := zB_int x
  have e : (10 : Int32).toInt = 10 := by decide
  rw [if_pos (by rw [Int32.lt_iff_toInt_lt]; omega)]
theorem zyNm_hi {x : Int32} (h : 2147483658 ≤ zB x) : zyNm x = 3 := by
  unfold zyNm
  have b := zB_int x
  have e : (10 : Int32).toInt = 10 := by decide
  rw [if_neg (by rw [Int32.lt_iff_toInt_lt]; omega)]
theorem zychn_iff {X : zyX} {w : zW} {root : Nat} {k : Nat → Nat → Bool} (hE : zEnv (zyρ X) w.2) (hJ : (zyJ X).2 = zyRc) (hr : root % 8 ≤ 1) {r : Int32} (hrt : zyV X root (.int r)) : ∀ {F : List zyF}, (∀ f ∈ F, zyFm X f) → ∀ (v acc u nu : Nat) (z : Int32), zyV X v (.int z) → zyund X u nu → zychn w root k F v acc u = true → ∃ c u2 nu2, k (acc + c) u2 = true ∧ zyund X u2 nu2 ∧ zB z + nu = zB r + c + nu2 := by
  intro F
  induction F with
  | nil =>
    intro _ v acc u nu z hv hu h
    have h : zif (Nat.beq v root) (k acc u) false = true := h
    rcases zif_iff h with ⟨h1, h2⟩ | ⟨-, h2⟩
    · have e := zbeqT h1
      subst e
      rw [zyv_one hr hv hrt]
      exact ⟨0, u, nu, h2, hu, rfl⟩
    · cases h2
  | cons f t ih =>
    intro hF v acc u nu z hv hu h
    have hFt : ∀ f2 ∈ t, zyFm X f2 := fun f2 hf2 => hF f2 (List.mem_cons_of_mem _ hf2)
    have h : zif (zand (Nat.ble 1300 f.1) (zand (Nat.beq f.2.1 v) (Nat.ble (Nat.mod v 8) 1))) (zif (Nat.beq f.1 1303) (zbd w f.2.2.2 (fun lo hi => zif (Nat.ble hi 2147483657) (zfr false (acc + 2) (fun a2 => zychn w root k t f.2.2.1 a2 u)) (zif (Nat.ble 2147483658 lo) (zfr false (acc + 3) (fun a2 => zychn w root k t f.2.2.1 a2 u)) (zif (Nat.beq u 13) (zychn w root k t f.2.2.1 acc f.2.2.2) false)))) (zfr false (acc + (f.1 - 1300)) (fun a2 => zychn w root k t f.2.2.1 a2 u))) (zychn w root k t v acc u) = true := h
    simp only [zfr_eq] at h
    rcases zif_iff h with ⟨h1, h2⟩ | ⟨-, h2⟩
    · obtain ⟨g1, g2⟩ := zand_iff h1
      obtain ⟨g2, g3⟩ := zand_iff g2
      have g1 := zbleT g1
      have g2 := zbeqT g2
      have g3 := zbleT g3
      have hf := hF f List.mem_cons_self
      obtain ⟨f0, f1, f2, f3⟩ := f
      dsimp only at *
      obtain ⟨id, rfl⟩ : ∃ id, f0 = 1000 + id := ⟨f0 - 1000, by omega⟩
      obtain ⟨x, y, z2, q1, q2, q3, q4⟩ := zyFm_rel hf
      rw [hJ] at q4
      rw [g2] at q1
      have ez := zyv_one (show v % 8 ≤ 1 from g3) hv q1
      subst ez
      rcases zif_iff h2 with ⟨h3, h4⟩ | ⟨h3, h4⟩
      · have h3 := zbeqT h3
        obtain ⟨y2, lo, hi, ey, b1, b2, h5⟩ := zybd_iff h4 hE q3
        have ey := Value.int.inj ey
        subst ey
        have hrel : zB z = zB x + zyNm y := by
          rcases q4 with ⟨a1, a2, a3⟩ | ⟨a1, a3⟩ | ⟨a1, a2, a3⟩ | ⟨a1, a3⟩ | ⟨a1, a2, a3⟩ | ⟨a1, a3⟩
          · omega
          · omega
          · omega
          · omega
          · omega
          · exact a3
        rcases zif_iff h5 with ⟨h6, h7⟩ | ⟨-, h7⟩
        · have h6 := zbleT h6
          rw [zyNm_lo (by omega)] at hrel
          obtain ⟨c, u2, nu2, c1, c2, c3⟩ := ih hFt _ _ u nu x q2 hu h7
          exact ⟨2 + c, u2, nu2, by rw [show acc + (2 + c) = acc + 2 + c by omega]; exact c1, c2, by omega⟩
        · rcases zif_iff h7 with ⟨h8, h9⟩ | ⟨-, h9⟩
          · have h8 := zbleT h8
            rw [zyNm_hi (by omega)] at hrel
            obtain ⟨c, u2, nu2, c1, c2, c3⟩ := ih hFt _ _ u nu x q2 hu h9
            exact ⟨3 + c, u2, nu2, by rw [show acc + (3 + c) = acc + 3 + c by omega]; exact c1, c2, by omega⟩
          · rcases zif_iff h9 with ⟨h10, h11⟩ | ⟨-, h11⟩
            · have h10 := zbeqT h10
              have hnu : nu = 0 := by
                rcases hu with ⟨-, e⟩ | ⟨y3, e, -⟩
                · exact e
                · rw [h10] at e
                  exact absurd (zyv_ik e) (by decide)
              obtain ⟨c, u2, nu2, c1, c2, c3⟩ := ih hFt _ _ f3 (zyNm y) x q2 (Or.inr ⟨y, q3, rfl⟩) h11
              exact ⟨c, u2, nu2, c1, c2, by omega⟩
            · cases h11
      · have h3 := zbeqF h3
        have hrel : zB z = zB x + (id - 300) := by
          rcases q4 with ⟨a1, a2, a3⟩ | ⟨a1, a3⟩ | ⟨a1, a2, a3⟩ | ⟨a1, a3⟩ | ⟨a1, a2, a3⟩ | ⟨a1, a3⟩
          · omega
          · omega
          · omega
          · omega
          · exact a3
          · omega
        obtain ⟨c, u2, nu2, c1, c2, c3⟩ := ih hFt _ _ u nu x q2 hu h4
        exact ⟨id - 300 + c, u2, nu2, by rw [show acc + (id - 300 + c) = acc + (1000 + id - 1300) + c by omega]; exact c1, c2, by omega⟩
    · exact ih hFt v acc u nu z hv hu h2
