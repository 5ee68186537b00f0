/-! THE REFERENCE: a round -/
theorem zyrow_i {r c k : Nat} {B : zCx} {J : zyJt} {s : State} {lo hi rl rh : Nat} (hI : zyMI (zymr r c) B J s s.heap) (hk : k < 556) (hrow : (lo, hi, zyc rl rh) ∈ (zymr75 r c).2.2) (h1 : lo ≤ k) (h2 : k ≤ hi) (h3 : rh < 2147483648) : ∃ x : Int32, zyEl (zymr r c) B s.heap 75 k = some (.int x) ∧ rl + 2147483648 ≤ zB x ∧ zB x ≤ rh + 2147483648 := by
  obtain ⟨w, g1, g2⟩ := hI.2.1 75 _ k (zyg75 r c) (by rw [zyL75]; exact hk)
  have g3 := (g2 _ hrow h1 h2).2
  have hz : zyc rl rh % 8 = 2 := by
    show (8 * ((rl + 2147483648) * 4294967296 + (rh + 2147483648)) + 2) % 8 = 2
    omega
  obtain ⟨x, rfl⟩ := zyv_int g3 (by dsimp only; omega)
  have hb := zyc_iff h3 g3
  exact ⟨x, g1, hb.1, hb.2⟩
theorem zylong {r c k : Nat} {B : zCx} {J : zyJt} {s : State} (hI : zyMI (zymr r c) B J s s.heap) (hk : k ≤ 30) : 1 ≤ zyN1 (zyI (zyres (zyEl (zymr r c) B s.heap)) 75 (40 + k)) ∧ zyN1 (zyI (zyres (zyEl (zymr r c) B s.heap)) 75 (40 + k)) ≤ 4 := by
  obtain ⟨x, e, b1, b2⟩ := zyrow_i (k := 40 + k) (lo := 40) (hi := 70) (rl := 1) (rh := 4) hI (by omega) (by
    have e : zyc 1 4 = 73786976346377814050 := rfl
    rw [e]
    simp [zymr75]) (by omega) (by omega) (by decide)
  rw [zyI_res (by omega)]
  have e2 : zyI (zyEl (zymr r c) B s.heap) 75 (40 + k) = x := by unfold zyI; rw [e]
  rw [e2, zyN1_lo (by omega)]
  omega
theorem zgPk_12 {r c : Nat} {B : zCx} {J : zyJt} {s : State} (hI : zyMI (zymr r c) B J s s.heap) : ∀ k, k ≤ 31 → zgPk (zyres (zyEl (zymr r c) B s.heap)) k ∣ 12 ∧ ∀ j, j < k → zyN1 (zyI (zyres (zyEl (zymr r c) B s.heap)) 75 (40 + j)) ∣ zgPk (zyres (zyEl (zymr r c) B s.heap)) k := by
  intro k
  induction k with
  | zero => intro _; exact ⟨⟨12, rfl⟩, fun j hj => absurd hj (Nat.not_lt_zero j)⟩
  | succ k ih =>
    intro hk
    obtain ⟨i1, i2⟩ := ih (by omega)
    obtain ⟨l1, l2⟩ := zylong hI (show k ≤ 30 by omega)
    have e : zgPk (zyres (zyEl (zymr r c) B s.heap)) (k + 1) = Nat.lcm (zgPk (zyres (zyEl (zymr r c) B s.heap)) k) (zyN1 (zyI (zyres (zyEl (zymr r c) B s.heap)) 75 (40 + min k 31))) := rfl
    rw [show min k 31 = k by omega] at e
    rw [e]
    refine ⟨Nat.lcm_dvd i1 ?_, fun j hj => ?_⟩
    · generalize zyN1 (zyI (zyres (zyEl (zymr r c) B s.heap)) 75 (40 + k)) = L at l1 l2
      have : L = 1 ∨ L = 2 ∨ L = 3 ∨ L = 4 := by omega
      rcases this with rfl | rfl | rfl | rfl <;> decide
    · by_cases ej : j = k
      · subst ej
        exact Nat.dvd_lcm_right _ _
      · exact Nat.dvd_trans (i2 j (by omega)) (Nat.dvd_lcm_left _ _)
theorem zgP_12 {r c : Nat} (h2 : r ≤ 4) (h4 : c ≤ 5) {B : zCx} {J : zyJt} {s : State} (hI : zyMI (zymr r c) B J s s.heap) : 1 ≤ zgP (zyres (zyEl (zymr r c) B s.heap)) ∧ zgP (zyres (zyEl (zymr r c) B s.heap)) ≤ 12 ∧ ∀ j, j < zgNG r c → zyN1 (zyI (zyres (zyEl (zymr r c) B s.heap)) 75 (40 + j)) ∣ zgP (zyres (zyEl (zymr r c) B s.heap)) := by
  obtain ⟨rr, cc⟩ := zyrc (show r < 2147483648 by omega) (show c < 2147483648 by omega) hI
  have e : zgP (zyres (zyEl (zymr r c) B s.heap)) = zgPk (zyres (zyEl (zymr r c) B s.heap)) (zgNG r c) := by
    unfold zgP
    rw [zgr_res.1, zgr_res.2, rr, cc]
  obtain ⟨d1, d2⟩ := zgPk_12 hI (zgNG r c) (zgNG_le h2 h4)
  rw [e]
  exact ⟨Nat.pos_of_dvd_of_pos d1 (by decide), Nat.le_of_dvd (by decide) d1, d2⟩
theorem zgRk_lt {E : zyEm} {r c s : Nat} {t : Int32} (h1 : 1 ≤ r) (h2 : r ≤ 4) (h3 : 1 ≤ c) (h4 : c ≤ 5) (hr : zgr E = r) (hc : zgc E = c) (hs : s < zgNS r c) : ∀ k, zgRk E t s k < zgNS r c := by
  intro k
  induction k with
  | zero => exact hs
  | succ k ih => exact zgM_lt h1 h2 h3 h4 hr hc ih
theorem zgRk_inj {E : zyEm} {r c s s2 : Nat} {t : Int32} (h1 : 1 ≤ r) (h2 : r ≤ 4) (h3 : 1 ≤ c) (h4 : c ≤ 5) (hr : zgr E = r) (hc : zgc E = c) (hs : s < zgNS r c) (hs2 : s2 < zgNS r c) : ∀ k, zgRk E t s k = zgRk E t s2 k → s = s2 := by
  intro k
  induction k with
  | zero => intro h; exact h
  | succ k ih => intro h; exact ih (zgM_inj h1 h2 h3 h4 hr hc (zgRk_lt h1 h2 h3 h4 hr hc hs k) (zgRk_lt h1 h2 h3 h4 hr hc hs2 k) h)
theorem zyRr0_5 {E : zyEm} {x y z : Int32} (h : zyRr0 5 E x y z) : z = Int32.ofNat (zgM E (zyN1 x) y) := by
  rcases h with ⟨q, -⟩ | ⟨q, -⟩ | ⟨q, -⟩ | ⟨q, -⟩ | ⟨q, -⟩ | ⟨-, q⟩ | ⟨q, -⟩ | ⟨q, -⟩ | ⟨q, -⟩
  · omega
  · omega
  · omega
  · omega
  · omega
  · exact q
  · omega
  · omega
  · omega
theorem zyRr0_6 {E : zyEm} {x y z : Int32} (h : zyRr0 6 E x y z) : z = Int32.ofNat (zgP E) := by
  rcases h with ⟨q, -⟩ | ⟨q, -⟩ | ⟨q, -⟩ | ⟨q, -⟩ | ⟨q, -⟩ | ⟨q, -⟩ | ⟨-, q⟩ | ⟨q, -⟩ | ⟨q, -⟩
  · omega
  · omega
  · omega
  · omega
  · omega
  · omega
  · exact q
  · omega
  · omega
theorem zyRr0_7 {E : zyEm} {x y z : Int32} (h : zyRr0 7 E x y z) : z = Int32.ofNat (zgR E (zyN1 x) y) := by
  rcases h with ⟨q, -⟩ | ⟨q, -⟩ | ⟨q, -⟩ | ⟨q, -⟩ | ⟨q, -⟩ | ⟨q, -⟩ | ⟨q, -⟩ | ⟨-, q⟩ | ⟨q, -⟩
  · omega
  · omega
  · omega
  · omega
  · omega
  · omega
  · omega
  · exact q
  · omega
noncomputable def zyκre (r c : Nat) : zyKt := (0, 5, [595, zysym 1, zysym 2, 13, 13], [(0, 4294967295), (2147483648, Nat.add 2147483647 (zgNS r c)), (0, 4294967295), (0, 4294967295), (0, 4294967295)], [], [])
noncomputable def zyκrl (r c : Nat) : zyKt := (5, 5, [595, zysym 1, zysym 2, zysym 3, zysym 4], [(0, 4294967295), (2147483648, Nat.add 2147483647 (zgNS r c)), (0, 4294967295), (2147483648, Nat.add 2147483647 (zgNS r c)), (2147483648, 2147483660)], [], [])
noncomputable def zyCr (r c : Nat) : Nat → List zyCt := fun y => zif (Nat.beq y 215) [([595], [], [zyc 1 12, 6], 12, [], [])] (zif (Nat.beq y 212) [([595, zyS r c, 34359738362], [], [zyS r c, 5], 7, [], [])] [])
noncomputable def zystr (r c : Nat) (κ : zyKt) : zyK := fun w _ _ pc ls st _ fs m => List.rec (motive := fun _ => Bool) (List.rec (motive := fun _ => Bool) (zand (Nat.beq pc 5) (zand (zyincl (zyP2 r c (zyCr r c)) 5 w ls m.1 (zyκrl r c)) (zand (zand (Nat.beq (zyag ls 1) (zysym 1)) (Nat.beq (zyag ls 2) (zysym 2))) (zif (Nat.beq κ.1 0) (zand (Nat.beq (zyag ls 3) (zysym 1)) (Nat.beq (zyag ls 4) 0))
  (zand (Nat.beq (zyag ls 4) (Nat.add (zysym 4) (Nat.mul 8 1))) (zand (zqop 1006 0 0 (fun p => zand (zyk1b p) (zqlt w m.2 (zysym 4) p true false)) m.2) (zqop 1 (zysym 2) (zysym 4) (fun t => zand (zyk1b t) (zqop 1005 (zysym 3) t (fun v => zand (zyk1b v) (Nat.beq v (zyag ls 3))) m.2)) m.2))))))) (fun _ _ _ => false) st) (fun _ _ _ => false) fs
noncomputable def zybtr (κ : zyKt) : zW → List Nat → zyM → Bool := fun w v m => zand (Nat.beq κ.1 5) (zand (zylb v [zysym 3]) (zqop 1006 0 0 (fun p => zand (zyk1b p) (zqlt w m.2 (zysym 4) p false true)) m.2))
noncomputable def zyrunr (r c : Nat) (κ : zyKt) : Bool := zyok (fun w v m => zand (zyfitM w (zymr r c) m.1) (zand (zypre w (zymr r c) m.1 []) (zybtr κ w v m))) (zyP2 r c (zyCr r c)) (zystr r c κ) 200000 (5, κ.2.2.2.1) zxi216 (216, 0, 0, 1, 0) κ.1 κ.2.2.1 [] (13, 0, 0) [] ([], [])
theorem zyrunr_all : zyAllP (fun r c => zand (zand (zywf 5 (zyκre r c)) (zywf 5 (zyκrl r c))) (zand (zyrunr r c (zyκre r c)) (zand (zyrunr r c (zyκrl r c)) (zpad 5 (zexp [595, zyS r c, 34359738362]) (fun l2 => zyincl (zyP2 r c (zyCr r c)) 5 (0, []) l2 [] (zyκre r c)))))) = true := by decide +kernel
