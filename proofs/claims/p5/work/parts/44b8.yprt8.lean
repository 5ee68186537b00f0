/-! THE PRINTER: all of it -/
/-- the growth of an element over calls: known numbers, and which of the counts -/
noncomputable def zycha (w : zW) (root b0 : Nat) (k : Nat → List Nat → Nat → Bool) (F : List zyF) : Nat → Nat → List Nat → Nat → Bool := List.rec (motive := fun _ => Nat → Nat → List Nat → Nat → Bool) (fun v acc ids u => zif (Nat.beq v root) (k acc ids u) false)
  (fun f _ ih v acc ids u => zif (zand (Nat.ble 1000 f.1) (zand (Nat.beq f.2.1 v) (Nat.ble (Nat.mod v 8) 1))) (zif (Nat.ble 1300 f.1) (zif (Nat.beq f.1 1303) (zbd w f.2.2.2 (fun lo hi => zif (Nat.ble hi 2147483657) (zfr false (Nat.add acc 2) (fun a2 => ih f.2.2.1 a2 ids u)) (zif (Nat.ble 2147483658 lo) (zfr false (Nat.add acc 3) (fun a2 => ih f.2.2.1 a2 ids u)) (zif (Nat.beq u 13) (ih f.2.2.1 acc ids f.2.2.2) false)))) (zfr false (Nat.add acc (Nat.sub f.1 1300)) (fun a2 => ih f.2.2.1 a2 ids u)))
    (zif (zand (Nat.ble (Nat.add 1000 b0) f.1) (Nat.ble (Nat.succ f.1) (Nat.add 1005 b0))) (zfr false (Nat.sub f.1 (Nat.add 1000 b0)) (fun i => ih f.2.2.1 acc (i :: ids) u)) false)) (ih v acc ids u)) F
def zyidS (E : zyEm) (o : Nat) : List Nat → Nat
  | [] => 0
  | i :: t => zyCt1 E o i + zyidS E o t
theorem zyofA (a b : Nat) : Int32.ofNat (a + b) = Int32.ofNat a + Int32.ofNat b := by
  apply zN_inj
  rw [zN_add, zN_of, zN_of, zN_of]
  omega
theorem zycha_iff {X : zyX} {w : zW} {root b0 o : Nat} {k : Nat → List Nat → Nat → Bool} (hb0 : (b0 = 100 ∧ o = 0) ∨ (b0 = 200 ∧ o = 17)) (hE : zEnv (zyρ X) w.2) (hJ : (zyJ X).2 = zyRc) (hr : root % 8 ≤ 1) {r : Int32} (hrt : zyV X root (.int r)) : ∀ {F : List zyF}, (∀ f ∈ F, zyFm X f) → ∀ (v acc : Nat) (ids : List Nat) (u nu : Nat) (z : Int32), zyV X v (.int z) → zyund X u nu → zycha w root b0 k F v acc ids u = true → ∃ c ids2 u2 nu2, k (acc + c) ids2 u2 = true ∧ zyund X u2 nu2 ∧ z + Int32.ofNat (nu + zyidS (zyE X) o ids) = r + Int32.ofNat (c + nu2 + zyidS (zyE X) o ids2) := by
  intro F
  induction F with
  | nil =>
    intro _ v acc ids u nu z hv hu h
    have h : zif (Nat.beq v root) (k acc ids u) false = true := h
    rcases zif_iff h with ⟨h1, h2⟩ | ⟨-, h2⟩
    · have e := zbeqT h1
      subst e
      rw [zyv_one hr hv hrt]
      exact ⟨0, ids, u, nu, h2, hu, by rw [Nat.zero_add]⟩
    · cases h2
  | cons f t ih =>
    intro hF v acc ids u nu z hv hu h
    have hFt : ∀ f2 ∈ t, zyFm X f2 := fun f2 hf2 => hF f2 (List.mem_cons_of_mem _ hf2)
    have h : zif (zand (Nat.ble 1000 f.1) (zand (Nat.beq f.2.1 v) (Nat.ble (Nat.mod v 8) 1))) (zif (Nat.ble 1300 f.1) (zif (Nat.beq f.1 1303) (zbd w f.2.2.2 (fun lo hi => zif (Nat.ble hi 2147483657) (zfr false (acc + 2) (fun a2 => zycha w root b0 k t f.2.2.1 a2 ids u)) (zif (Nat.ble 2147483658 lo) (zfr false (acc + 3) (fun a2 => zycha w root b0 k t f.2.2.1 a2 ids u)) (zif (Nat.beq u 13) (zycha w root b0 k t f.2.2.1 acc ids f.2.2.2) false)))) (zfr false (acc + (f.1 - 1300)) (fun a2 => zycha w root b0 k t f.2.2.1 a2 ids u)))
    (zif (zand (Nat.ble (1000 + b0) f.1) (Nat.ble (f.1 + 1) (1005 + b0))) (zfr false (f.1 - (1000 + b0)) (fun i => zycha w root b0 k t f.2.2.1 acc (i :: ids) u)) false)) (zycha w root b0 k t v acc ids u) = true := h
    simp only [zfr_eq] at h
    have step : ∀ (x : Int32) (d : Nat), zB z = zB x + d → ∀ (R : Int32), x + Int32.ofNat (nu + zyidS (zyE X) o ids) = R → z + Int32.ofNat (nu + zyidS (zyE X) o ids) = R + Int32.ofNat d := by
      intro x d hd R hR
      rw [zyeqB hd, ← hR, Int32.add_assoc, Int32.add_assoc, Int32.add_comm (Int32.ofNat d)]
    rcases zif_iff h with ⟨h1, h2⟩ | ⟨-, h2⟩
    · obtain ⟨g1, g2⟩ := zand_iff h1
      obtain ⟨g2, g3⟩ := zand_iff g2
      have g1 := zbleT g1
      have g2 := zbeqT g2
      have g3 := zbleT g3
      have hf := hF f List.mem_cons_self
      obtain ⟨f0, f1, f2, f3⟩ := f
      dsimp only at *
      obtain ⟨id, rfl⟩ : ∃ id, f0 = 1000 + id := ⟨f0 - 1000, by omega⟩
      obtain ⟨x, y, z2, q1, q2, q3, q4⟩ := zyFm_rel hf
      rw [hJ] at q4
      rw [g2] at q1
      have ez := zyv_one (show v % 8 ≤ 1 from g3) hv q1
      subst ez
      have add : ∀ (R : Int32) (a b c d : Nat), a + d = b + c → R + Int32.ofNat a + Int32.ofNat d = R + Int32.ofNat (b + c) := by
        intro R a b c d e
        rw [Int32.add_assoc, ← zyofA, e]
      rcases zif_iff h2 with ⟨h2a, h2⟩ | ⟨h2a, h2⟩
      · have h2a := zbleT h2a
        rcases zif_iff h2 with ⟨h3, h4⟩ | ⟨h3, h4⟩
        · have h3 := zbeqT h3
          obtain ⟨y2, lo, hi, ey, b1, b2, h5⟩ := zybd_iff h4 hE q3
          have ey := Value.int.inj ey
          subst ey
          have hrel : zB z = zB x + zyNm y := by
            rcases q4 with ⟨a1, a2, a3⟩ | ⟨a1, a3⟩ | ⟨a1, a2, a3⟩ | ⟨a1, a3⟩ | ⟨a1, a2, a3⟩ | ⟨a1, a3⟩
            · omega
            · omega
            · omega
            · omega
            · omega
            · exact a3
          rcases zif_iff h5 with ⟨h6, h7⟩ | ⟨-, h7⟩
          · have h6 := zbleT h6
            rw [zyNm_lo (by omega)] at hrel
            obtain ⟨c, ids2, u2, nu2, c1, c2, c3⟩ := ih hFt _ _ ids u nu x q2 hu h7
            refine ⟨2 + c, ids2, u2, nu2, by rw [show acc + (2 + c) = acc + 2 + c by omega]; exact c1, c2, ?_⟩
            rw [step x 2 hrel _ c3]
            exact add _ _ _ _ _ (by omega)
          · rcases zif_iff h7 with ⟨h8, h9⟩ | ⟨-, h9⟩
            · have h8 := zbleT h8
              rw [zyNm_hi (by omega)] at hrel
              obtain ⟨c, ids2, u2, nu2, c1, c2, c3⟩ := ih hFt _ _ ids u nu x q2 hu h9
              refine ⟨3 + c, ids2, u2, nu2, by rw [show acc + (3 + c) = acc + 3 + c by omega]; exact c1, c2, ?_⟩
              rw [step x 3 hrel _ c3]
              exact add _ _ _ _ _ (by omega)
            · rcases zif_iff h9 with ⟨h10, h11⟩ | ⟨-, h11⟩
              · have h10 := zbeqT h10
                have hnu : nu = 0 := by
                  rcases hu with ⟨-, e⟩ | ⟨y3, e, -⟩
                  · exact e
                  · rw [h10] at e
                    exact absurd (zyv_ik e) (by decide)
                subst hnu
                obtain ⟨c, ids2, u2, nu2, c1, c2, c3⟩ := ih hFt _ _ ids f3 (zyNm y) x q2 (Or.inr ⟨y, q3, rfl⟩) h11
                refine ⟨c, ids2, u2, nu2, c1, c2, ?_⟩
                rw [← c3, zyeqB hrel, Int32.add_assoc, ← zyofA, show zyNm y + (0 + zyidS (zyE X) o ids) = zyNm y + zyidS (zyE X) o ids by omega]
              · cases h11
        · have h3 := zbeqF h3
          have hrel : zB z = zB x + (id - 300) := by
            rcases q4 with ⟨a1, a2, a3⟩ | ⟨a1, a3⟩ | ⟨a1, a2, a3⟩ | ⟨a1, a3⟩ | ⟨a1, a2, a3⟩ | ⟨a1, a3⟩
            · omega
            · omega
            · omega
            · omega
            · exact a3
            · omega
          obtain ⟨c, ids2, u2, nu2, c1, c2, c3⟩ := ih hFt _ _ ids u nu x q2 hu h4
          refine ⟨id - 300 + c, ids2, u2, nu2, by rw [show acc + (id - 300 + c) = acc + (1000 + id - 1300) + c by omega]; exact c1, c2, ?_⟩
          rw [step x (id - 300) hrel _ c3]
          exact add _ _ _ _ _ (by omega)
      · rcases zif_iff h2 with ⟨h3, h4⟩ | ⟨-, h4⟩
        · obtain ⟨h5, h6⟩ := zand_iff h3
          have h5 := zbleT h5
          have h6 := zbleT h6
          have hz : z = x + Int32.ofNat (zyCt1 (zyE X) o (1000 + id - (1000 + b0))) := by
            rcases hb0 with ⟨rfl, rfl⟩ | ⟨rfl, rfl⟩
            · rcases q4 with ⟨a1, a2, a3⟩ | ⟨a1, a3⟩ | ⟨a1, a2, a3⟩ | ⟨a1, a3⟩ | ⟨a1, a2, a3⟩ | ⟨a1, a3⟩
              · rw [a3, show 1000 + id - (1000 + 100) = id - 100 by omega]
              · omega
              · omega
              · omega
              · omega
              · omega
            · rcases q4 with ⟨a1, a2, a3⟩ | ⟨a1, a3⟩ | ⟨a1, a2, a3⟩ | ⟨a1, a3⟩ | ⟨a1, a2, a3⟩ | ⟨a1, a3⟩
              · omega
              · omega
              · rw [a3, show 1000 + id - (1000 + 200) = id - 200 by omega]
              · omega
              · omega
              · omega
          obtain ⟨c, ids2, u2, nu2, c1, c2, c3⟩ := ih hFt _ _ _ u nu x q2 hu h4
          refine ⟨c, ids2, u2, nu2, c1, c2, ?_⟩
          rw [← c3, hz, Int32.add_assoc, ← zyofA]
          congr 2
          show zyCt1 (zyE X) o (1000 + id - (1000 + b0)) + (nu + zyidS (zyE X) o ids) = nu + (zyCt1 (zyE X) o (1000 + id - (1000 + b0)) + zyidS (zyE X) o ids)
          omega
        · cases h4
    · exact ih hFt v acc ids u nu z hv hu h2
