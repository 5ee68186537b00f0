/-! AT THE LOOP'S BEGIN: what was made keeps both bases -/
noncomputable def zcv (cd v : Nat) : Bool := zif (zif (Nat.beq (Nat.mod v 8) 1) true (Nat.beq (Nat.mod cd 8) 1)) false (zif (Nat.beq cd v) (zif (Nat.beq (Nat.mod v 8) 4) (Nat.ble (Nat.succ (Nat.div v 8)) 18446744073709551615) true)
  (zif (Nat.beq (Nat.mod cd 8) 2) (zand (Nat.beq (Nat.mod v 8) 0) (zand (Nat.ble (Nat.div cd 34359738368) (zb (Nat.div v 8))) (Nat.ble (zb (Nat.div v 8)) (Nat.mod (Nat.div cd 8) 4294967296))))
  (zif (Nat.beq (Nat.mod cd 8) 4) (zand (Nat.ble 18446744073709551616 (Nat.div cd 8)) (Nat.beq (Nat.mod v 8) 4))
  (zif (Nat.beq (Nat.mod cd 8) 6) (zand (Nat.beq (Nat.mod v 8) 3) (zif (Nat.beq (Nat.div v 8) (Nat.mod (Nat.div cd 8) 1048576)) true (Nat.beq (Nat.div v 8) (Nat.div (Nat.div cd 8) 1048576))))
  (zand (Nat.beq cd 7) (zif (Nat.beq v 5) true (Nat.beq (Nat.mod v 8) 3)))))))
theorem zv_0ρ {ρ ρ2 : Nat → Int32} {ad : Nat → Nat} {v : Nat} {w : Value} (h : zv ρ ad v w) (h1 : ¬ v % 8 = 1) : zv ρ2 ad v w := by
  rcases h with q | ⟨q, -⟩ | q
  · exact Or.inl q
  · exact absurd q h1
  · exact Or.inr (Or.inr q)
theorem zcv_iff {ρ : Nat → Int32} {ad : Nat → Nat} {cd v : Nat} {w : Value} (h : zcv cd v = true) (hv : zv ρ ad v w) : ¬ cd % 8 = 1 ∧ zyv (fun _ => 0) 0 ad cd w := by
  unfold zcv at h
  rcases zif_iff h with ⟨-, h⟩ | ⟨h1, h⟩
  · cases h
  have h11 : Nat.beq (Nat.mod v 8) 1 = false ∧ Nat.beq (Nat.mod cd 8) 1 = false := by
    cases q : Nat.beq (Nat.mod v 8) 1 with
    | true => rw [q] at h1; cases h1
    | false => rw [q] at h1; exact ⟨rfl, h1⟩
  have v1 : ¬ v % 8 = 1 := zbeqF h11.1
  have c1 : ¬ cd % 8 = 1 := zbeqF h11.2
  refine ⟨c1, ?_⟩
  rcases zif_iff h with ⟨h2, h⟩ | ⟨-, h⟩
  · have e : cd = v := zbeqT h2
    subst e
    refine Or.inl ⟨zv_0ρ hv v1, fun q => absurd q v1, fun q => ?_⟩
    rcases zif_iff h with ⟨-, h⟩ | ⟨h3, -⟩
    · have : cd / 8 + 1 ≤ 18446744073709551615 := zbleT h
      omega
    · exact absurd q (zbeqF h3)
  rcases zif_iff h with ⟨h2, h⟩ | ⟨-, h⟩
  · have e2 : cd % 8 = 2 := zbeqT h2
    obtain ⟨g1, g2⟩ := zand_iff h
    obtain ⟨g2, g3⟩ := zand_iff g2
    have ew := zv_0 hv (zbeqT g1)
    subst ew
    refine Or.inl ⟨Or.inr (Or.inr (Or.inl ⟨e2, _, rfl, ?_, ?_⟩)), fun q => absurd q c1, fun q => by omega⟩
    · rw [zB_of]; exact zbleT g2
    · rw [zB_of]; exact zbleT g3
  rcases zif_iff h with ⟨h2, h⟩ | ⟨-, h⟩
  · have e2 : cd % 8 = 4 := zbeqT h2
    obtain ⟨g1, g2⟩ := zand_iff h
    have ew := zv_4 hv (zbeqT g2)
    exact Or.inr (Or.inl ⟨e2, zbleT g1, _, ew⟩)
  rcases zif_iff h with ⟨h2, h⟩ | ⟨-, h⟩
  · have e2 : cd % 8 = 6 := zbeqT h2
    obtain ⟨g1, g2⟩ := zand_iff h
    have ew := zv_3 hv (zbeqT g1)
    refine Or.inr (Or.inr ⟨e2, ?_⟩)
    rcases zif_iff g2 with ⟨q, -⟩ | ⟨-, q⟩
    · have q : v / 8 = cd / 8 % 1048576 := zbeqT q
      left
      rw [ew, q]
    · have q : v / 8 = cd / 8 / 1048576 := zbeqT q
      right
      rw [ew, q]
  · obtain ⟨g1, g2⟩ := zand_iff h
    have e7 : cd = 7 := zbeqT g1
    subst e7
    refine Or.inl ⟨Or.inr (Or.inr (Or.inr (Or.inr (Or.inr (Or.inr ⟨rfl, ?_⟩))))), fun q => absurd q (by decide), fun q => absurd q (by decide)⟩
    rcases zif_iff g2 with ⟨q, -⟩ | ⟨-, q⟩
    · have e5 : v = 5 := zbeqT q
      subst e5
      rcases hv with ⟨z, -⟩ | ⟨z, -⟩ | ⟨z, -⟩ | ⟨z, -⟩ | ⟨z, -⟩ | ⟨-, z⟩ | ⟨z, -⟩
      · exact absurd z (by decide)
      · exact absurd z (by decide)
      · exact absurd z (by decide)
      · exact absurd z (by decide)
      · exact absurd z (by decide)
      · exact Or.inl z
      · exact absurd z (by decide)
    · exact Or.inr ⟨_, zv_3 hv (zbeqT q)⟩
noncomputable def zcrs (rs : List (Nat × Nat × Nat)) (k v : Nat) : Bool := List.rec (motive := fun _ => Bool) true (fun r _ ih => zand (zif (zand (Nat.ble r.1 k) (Nat.ble k r.2.1)) (zcv r.2.2 v) true) ih) rs
theorem zcrs_iff {k v : Nat} : ∀ {rs : List (Nat × Nat × Nat)}, zcrs rs k v = true → ∀ r ∈ rs, r.1 ≤ k → k ≤ r.2.1 → zcv r.2.2 v = true := by
  intro rs
  induction rs with
  | nil => intro _ r h; cases h
  | cons a t ih =>
    intro h r hr r1 r2
    have h : zand (zif (zand (Nat.ble a.1 k) (Nat.ble k a.2.1)) (zcv a.2.2 v) true) (zcrs t k v) = true := h
    obtain ⟨g1, g2⟩ := zand_iff h
    rcases List.mem_cons.mp hr with e | e
    · subst e
      rcases zif_iff g1 with ⟨-, q⟩ | ⟨q, -⟩
      · exact q
      · rw [Nat.ble_eq_true_of_le r1, Nat.ble_eq_true_of_le r2] at q
        cases q
    · exact ih g2 r e r1 r2
noncomputable def zccl (c : zyCl) (d : zCl) : Bool := zand (Nat.beq d.1 c.1) (zand (zif (Nat.ble c.1 11) true (zand (zand (Nat.ble 20 c.1) (Nat.ble c.1 23)) (zand (Nat.beq d.2.1 c.2.1) (Nat.ble c.2.1 16384)))) (zyAll (fun k => zget d.2.2 k (fun v => zcrs c.2.2 k v)) (zyLen c)))
noncomputable def zcmi (mi : zyB) (m : zM) (a0 n : Nat) : Bool := zyAll (fun i => zget mi (Nat.add a0 i) (fun c => zget m (Nat.add a0 i) (fun d => zccl c d))) n
theorem zcmi_iff {mi : zyB} {m : zM} {a0 n : Nat} (h : zcmi mi m a0 n = true) {a : Nat} {c : zyCl} (h1 : a0 ≤ a) (h2 : a < a0 + n) (hg : zG mi a = some c) : ∃ d, zG m a = some d ∧ zccl c d = true := by
  have h3 := zyAll_iff h (a - a0) (by omega)
  obtain ⟨c2, g1, g2⟩ := zget_iff h3
  obtain ⟨d, g3, g4⟩ := zget_iff g2
  rw [show Nat.add a0 (a - a0) = a by show a0 + (a - a0) = a; omega] at g1 g3
  rw [hg] at g1
  cases g1
  exact ⟨d, g3, g4⟩
/-- an element -/
theorem zcel {mi : zyB} {X : zCx} {U : State} {m : zM} {n : Nat} {H : Heap} (hM : zMem X U n m H) {a : Nat} {c : zyCl} {d : zCl} (ha : a < 90000) (hg : zG mi a = some c) (hd : zG m a = some d) (hc : zccl c d = true) : zySh X U a c H ∧ ∀ k, k < zyLen c → ∃ v w, zG d.2.2 k = some v ∧ zyEl mi X H a k = some w ∧ zV X v w ∧ zcrs c.2.2 k v = true := by
  obtain ⟨c1, c2⟩ := zand_iff hc
  obtain ⟨c2, c3⟩ := zand_iff c2
  have e1 : d.1 = c.1 := zbeqT c1
  have ead : zad X a = zbs X + a := by unfold zad; rw [if_pos ha]
  have hel : ∀ k, k < zyLen c → ∃ v, zG d.2.2 k = some v ∧ zcrs c.2.2 k v = true := fun k hk => by
    obtain ⟨v, g1, g2⟩ := zget_iff (zyAll_iff c3 k hk)
    exact ⟨v, g1, g2⟩
  rcases zif_iff c2 with ⟨q, -⟩ | ⟨-, q⟩
  · have q : c.1 ≤ 11 := zbleT q
    obtain ⟨-, hcell⟩ := hM.2.2.1 a d hd (by omega)
    rcases hcell with ⟨-, cell, g1, g2, g3, g4⟩ | ⟨ty, cA, f, g1, -⟩
    · rw [e1] at g2 g4
      refine ⟨Or.inl ⟨by omega, cell, by rw [ead]; exact g1, g2, g3⟩, fun k hk => ?_⟩
      obtain ⟨v, h1, h2⟩ := hel k hk
      have hk2 : k < zxCn c.1 := by
        unfold zyLen at hk
        rw [if_pos (by omega)] at hk
        exact hk
      obtain ⟨w, h3, h4⟩ := g4 k v hk2 h1
      refine ⟨v, w, h1, ?_, h3, h2⟩
      rw [zyEl_some hg hk, ead, g1, if_pos (by omega)]
      exact h4
    · have := zty_kd g1
      omega
  · obtain ⟨q1, q⟩ := zand_iff q
    obtain ⟨q2, q3⟩ := zand_iff q
    obtain ⟨q1, q4⟩ := zand_iff q1
    have q1 : 20 ≤ c.1 := zbleT q1
    have q4 : c.1 ≤ 23 := zbleT q4
    have e2 : d.2.1 = c.2.1 := zbeqT q2
    have q3 : c.2.1 ≤ 16384 := zbleT q3
    have hl : zyLen c = c.2.1 := by unfold zyLen; rw [if_neg (by omega)]
    have h99 : ¬ d.1 = 99 := by omega
    obtain ⟨-, hcell⟩ := hM.2.2.1 a d hd h99
    rcases hcell with ⟨g0, -⟩ | ⟨ty, cA, f, g1, g2, g3, g4, g5⟩
    · omega
    · rw [e1] at g1
      rw [e2] at g2 g5
      refine ⟨Or.inr ⟨ty, cA, f, g1, by rw [ead]; exact g2, g3, q3⟩, fun k hk => ?_⟩
      obtain ⟨v, h1, h2⟩ := hel k hk
      rw [hl] at hk
      refine ⟨v, f k, h1, ?_, g5 k v hk h1, h2⟩
      rw [zyEl_some hg (by rw [hl]; exact hk), ead, g2, if_neg (by omega)]
      exact arrV_read _ _ hk
theorem zcMI {mi : zyB} {X : zCx} {U : State} {m : zM} {n : Nat} {H : Heap} {J : zyJt} (hM : zMem X U n m H) (hdom : ∀ a c, zG mi a = some c → a < 90000 ∧ ∃ d, zG m a = some d ∧ zccl c d = true) (hJ : J.1 (zyEl mi X H)) : zyMI mi X J U H := by
  refine ⟨fun a c hg => ?_, fun a c k hg hk => ?_, hJ, hM.2.2.2⟩
  · obtain ⟨h1, d, h2, h3⟩ := hdom a c hg
    exact ⟨h1, (zcel hM h1 hg h2 h3).1⟩
  · obtain ⟨h1, d, h2, h3⟩ := hdom a c hg
    obtain ⟨v, w, g1, g2, g3, g4⟩ := (zcel hM h1 hg h2 h3).2 k hk
    exact ⟨w, g2, fun r hr r1 r2 => zcv_iff (zcrs_iff g4 r hr r1 r2) g3⟩
/-- an element that is known -/
theorem zcK {mi : zyB} {X : zCx} {U : State} {m : zM} {n : Nat} {H : Heap} (hM : zMem X U n m H) (hdom : ∀ a c, zG mi a = some c → a < 90000 ∧ ∃ d, zG m a = some d ∧ zccl c d = true) {a k u : Nat} {c : zyCl} {d : zCl} (hg : zG mi a = some c) (hk : k < zyLen c) (hd : zG m a = some d) (hv : zG d.2.2 k = some (8 * u)) : zyEl mi X H a k = some (.int (Int32.ofNat u)) := by
  obtain ⟨h1, d2, h2, h3⟩ := hdom a c hg
  rw [hd] at h2
  cases h2
  obtain ⟨v, w, g1, g2, g3, -⟩ := (zcel hM h1 hg hd h3).2 k hk
  rw [hv] at g1
  cases g1
  rw [g2, zv_0 g3 (by omega), show 8 * u / 8 = u by omega]
