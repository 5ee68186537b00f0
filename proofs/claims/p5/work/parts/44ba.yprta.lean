/-! THE PRINTER: writeAll's contract -/
theorem zystA_iff {P : zyP} {o b0 pl : Nat} {κ : zyKt} {w : zW} {cf : Nat → zT} {y : zY} {pc : Nat} {ls st : List Nat} {q : zQ} {m : zyM} (hh : zystA P o b0 pl κ w cf y pc ls st q [] m = true) : st = [] ∧ pc = 46 ∧ ((κ.1 = 0 ∧ zyincl P 3 w ls m.1 (zyκB pl 0) = true ∧ zylk false (fun cd => zand (Nat.ble (Nat.mod cd 8) 2) (zycha w 0 b0 (fun c ids u => zand (Nat.beq u 13) (zand (Nat.beq c 9) (zylb ids [0]))) m.2 cd 0 [] 13)) 606210 m.1 = true) ∨
    (¬ κ.1 = 0 ∧ zyincl P 3 w ls m.1 (zyκB pl (zysof κ + 1)) = true ∧ zylk false (fun cd => zand (Nat.ble (Nat.mod cd 8) 2) (zycha w (zysym 3) b0 (fun c ids u => zand (zylb ids []) (zybxbo o (zysof κ) w m.2 c u)) m.2 cd 0 [] 13)) 606210 m.1 = true)) := by
  cases st with
  | cons a t => cases hh
  | nil =>
    have hh : zif (Nat.beq pc 46) (zif (Nat.beq κ.1 0) (zand (zyincl P 3 w ls m.1 (zyκB pl 0)) (zylk false (fun cd => zand (Nat.ble (Nat.mod cd 8) 2) (zycha w 0 b0 (fun c ids u => zand (Nat.beq u 13) (zand (Nat.beq c 9) (zylb ids [0]))) m.2 cd 0 [] 13)) 606210 m.1))
    (zfr false (zysof κ) (fun s => zand (zyincl P 3 w ls m.1 (zyκB pl (Nat.succ s))) (zylk false (fun cd => zand (Nat.ble (Nat.mod cd 8) 2) (zycha w (zysym 3) b0 (fun c ids u => zand (zylb ids []) (zybxbo o s w m.2 c u)) m.2 cd 0 [] 13)) 606210 m.1)))) false = true := hh
    rw [zfr_eq] at hh
    rcases zif_iff hh with ⟨h1, h2⟩ | ⟨-, h2⟩
    · refine ⟨rfl, zbeqT h1, ?_⟩
      rcases zif_iff h2 with ⟨h3, h4⟩ | ⟨h3, h4⟩
      · obtain ⟨g1, g2⟩ := zand_iff h4
        exact Or.inl ⟨zbeqT h3, g1, g2⟩
      · obtain ⟨g1, g2⟩ := zand_iff h4
        exact Or.inr ⟨zbeqF h3, g1, g2⟩
    · cases h2
theorem zysofB {pl s : Nat} : zysof (zyκB pl s) = s := by
  show 8 * s / 8 = s
  omega
theorem zyund0 {X : zyX} {u nu : Nat} (hu : zyund X u nu) (h : u = 13) : nu = 0 := by
  rcases hu with ⟨-, e⟩ | ⟨y3, e, -⟩
  · exact e
  · rw [h] at e
    exact absurd (zyv_ik e) (by decide)
theorem zywall {l : Launch} {o b0 pl pw : Nat} (hb0 : (b0 = 100 ∧ o = 0) ∨ (b0 = 200 ∧ o = 17)) (h0 : zyrsw o pl = true) (h1 : zyrst o pl = true) (h2 : zyrfr o pl = true) (h3 : zyrpl o pl = true) (h4 : zyrwo o pw = true) (hr : zyrunA o b0 pl pw = true) {en : zEn} {me : zMe} (hen : zG zxMeta 47 = some en) (hme : zG zMeth 47 = some me) : zyCon l zymc zyJc en me ([299, pl], zyfw, [zyc 0 6600, b0 + 5, 606210], 9, [], []) := by
  have een : zG zxMeta 47 = some (zxi47, 2, 3, 4, 47, 0, 0, 0, 0) := rfl
  obtain ⟨me1, hme1, hOK⟩ := zall hen
  rw [hme] at hme1
  cases hme1
  rw [een] at hen
  cases hen
  obtain ⟨q1, hr⟩ := zand_iff hr
  obtain ⟨q2, hr⟩ := zand_iff hr
  obtain ⟨q3, hr⟩ := zand_iff hr
  obtain ⟨q4, q5⟩ := zand_iff hr
  have hK : ∀ κ, κ ∈ zyκA pl :: (List.range 9).map (zyκB pl) → κ = zyκA pl ∨ ∃ s, s < 9 ∧ κ = zyκB pl s := by
    intro κ hκ
    rcases List.mem_cons.mp hκ with e | e
    · exact Or.inl e
    · obtain ⟨s, h1, h2⟩ := List.mem_map.mp e
      exact Or.inr ⟨s, List.mem_range.mp h1, h2.symm⟩
  have hKs : ∀ s, s < 9 → zyκB pl s ∈ zyκA pl :: (List.range 9).map (zyκB pl) := fun s hs => List.mem_cons_of_mem _ (List.mem_map.mpr ⟨s, List.mem_range.mpr hs, rfl⟩)
  refine zycutC (P := zyPA o b0 pl pw) (J := zyJc) (K := zyκA pl :: (List.range 9).map (zyκB pl)) (κ0 := zyκA pl) (n := 200000) (bt := zybtA o b0) (stp := zystA (zyPA o b0 pl pw) o b0 pl) hOK (zycA_ok hb0 h0 h1 h2 h3 h4) zyJc_p rfl rfl List.mem_cons_self rfl ?_ (fun _ _ _ _ _ _ _ _ _ _ _ => rfl) ?_ q5 (fun _ _ h => h)
    (fun B AsV κ s ρ H => (κ = zyκA pl) ∨ ∃ i, i < 9 ∧ κ = zyκB pl i ∧ i ≤ min (zyN1 (zyI (zyEl zymc B s.heap) (1 + o) 5)) 8 ∧ ρ 3 = Int32.ofNat (9 + zyCt1 (zyEl zymc B s.heap) o 0 + zySum (zyCbo (zyEl zymc B s.heap) o) i)) (fun _ _ κ _ _ _ => if κ.1 = 0 then 100000 else 99999 - zysof κ) ?_ ?_ ?_
  · intro κ hκ
    rcases hK κ hκ with e | ⟨s, hs, e⟩
    · rw [e]; exact q1
    · rw [e]; exact zyAll_iff q2 s hs
  · intro κ hκ
    rcases hK κ hκ with e | ⟨s, hs, e⟩
    · rw [e]; exact q3
    · rw [e]; exact zyAll_iff q4 s hs
  · intro B AsV hA s lsA hKn hI hPk hlv
    exact Or.inl rfl
  · intro B AsV hA κ hκ s ρ H hPk hI hInv ρ2 N2 w pc ls st q m H2 locs2 lsB stA hs hag hR
    obtain ⟨est, hpc, hcase⟩ := zystA_iff hs
    have key : ∀ (root : Nat) (r : Int32) (k : Nat → List Nat → Nat → Bool), root % 8 ≤ 1 → zyV (B, ρ2, N2, ρ, κ.2.1, (zyEl zymc B s.heap, fun q => s.heap[q]?), zyJc) root (.int r) → zylk false (fun cd => zand (Nat.ble (Nat.mod cd 8) 2) (zycha w root b0 k m.2 cd 0 [] 13)) 606210 m.1 = true → ∃ (z : Int32) (c u nu : Nat) (ids : List Nat), (∀ i, zyrho zymc B H2 3 lsB (zyκB pl i).2.2.2.2.1 3 = z) ∧ k c ids u = true ∧ zyund (B, ρ2, N2, ρ, κ.2.1, (zyEl zymc B s.heap, fun q => s.heap[q]?), zyJc) u nu ∧ z = r + Int32.ofNat (c + nu + zyidS (zyEl zymc B s.heap) o ids) := by
      intro root r k hroot hrt hk
      obtain ⟨cd, v, h1, h2, h3, h4⟩ := zyM37 (P := zyPA o b0 pl pw) rfl hR.2.1 hk
      obtain ⟨h2a, h2⟩ := zand_iff h2
      obtain ⟨z, rfl⟩ := zyv_int h4 (zbleT h2a)
      obtain ⟨c, ids, u, nu, c1, c2, c3⟩ := zycha_iff hb0 hR.1.1 rfl hroot hrt hR.1.2.2.2 cd 0 [] 13 0 z h4 (Or.inl ⟨rfl, rfl⟩) h2
      refine ⟨z, c, u, nu, ids, fun i => ?_, by rw [Nat.zero_add] at c1; exact c1, c2, ?_⟩
      · exact zyrho_c (B := zymc) (Y := B) (H := H2) (nL := 3) (j := 0) (lsA := lsB) (kc := (zyκB pl i).2.2.2.2.1) (p := (606210, zysym 3)) (x := z) rfl (by dsimp only; rw [zyk37.1, zyk37.2]; exact h3)
      · have c3 : z + Int32.ofNat (0 + 0) = r + Int32.ofNat (c + nu + zyidS (zyEl zymc B s.heap) o ids) := c3
        rw [← c3]
        exact (Int32.add_zero z).symm
    rcases hcase with ⟨hk0, hin, hl⟩ | ⟨hk0, hin, hl⟩
    · obtain ⟨z, c, u, nu, ids, hz1, hz2, hz4, hz3⟩ := key 0 0 _ (by decide) zyv_zero hl
      obtain ⟨hz5, hz2⟩ := zand_iff hz2
      obtain ⟨hz2, hz6⟩ := zand_iff hz2
      have hnu := zyund0 hz4 (zbeqT hz5)
      have hz2 := zbeqT hz2
      have hz6 := zylb_iff hz6
      refine ⟨zyκB pl 0, hKs 0 (by decide), est, hpc, ⟨w, rfl, hR.1.1, hin⟩, Or.inr ⟨0, by decide, rfl, Nat.zero_le _, ?_⟩, ?_⟩
      · have e := hz1 0
        rw [hz3, hz2, hnu, hz6, Int32.zero_add] at e
        exact e
      · rw [if_pos hk0, if_neg (show ¬ (zyκB pl 0).1 = 0 from fun q => by cases q)]
        omega
    · rcases hInv with eκ | ⟨i, hi, eκ, hic, hsum⟩
      · rw [eκ] at hk0; exact absurd rfl hk0
      have hN3 : 3 < N2 := by
        have h1 : κ.2.1 ≤ N2 := hR.1.2.2.1.1
        rw [eκ] at h1
        exact h1
      have hag0 : ρ2 3 = ρ 3 := hag 3 (by rw [eκ]; exact Nat.lt_succ_self 3)
      obtain ⟨z, c, u, nu, ids, hz1, hz2, hz4, hz3⟩ := key (zysym 3) (ρ2 3) _ (zysym_k _) (zyv_sym hN3 rfl) hl
      obtain ⟨hz6, hz2⟩ := zand_iff hz2
      have hz6 := zylb_iff hz6
      have esi : zysof κ = i := by rw [eκ]; exact zysofB
      rw [esi] at hz2 hin
      obtain ⟨p1, p2⟩ := zybxbo_iff (by omega) hR.1.1 hR.1.2.2.2 hz2 hz4
      have p2 : i < min (zyN1 (zyI (zyEl zymc B s.heap) (1 + o) 5)) 8 := p2
      have p1 : zyCbo (zyEl zymc B s.heap) o i = c + nu := p1
      refine ⟨zyκB pl (i + 1), hKs (i + 1) (by omega), est, hpc, ⟨w, rfl, hR.1.1, hin⟩, Or.inr ⟨i + 1, by omega, rfl, p2, ?_⟩, ?_⟩
      · have e := hz1 (i + 1)
        rw [hz3, hag0, hsum, hz6, ← zyofA] at e
        have e2 : 9 + zyCt1 (zyEl zymc B s.heap) o 0 + zySum (zyCbo (zyEl zymc B s.heap) o) i + (c + nu + zyidS (zyEl zymc B s.heap) o []) = 9 + zyCt1 (zyEl zymc B s.heap) o 0 + zySum (zyCbo (zyEl zymc B s.heap) o) (i + 1) := by
          show _ + (c + nu + 0) = 9 + zyCt1 (zyEl zymc B s.heap) o 0 + (zySum (zyCbo (zyEl zymc B s.heap) o) i + zyCbo (zyEl zymc B s.heap) o i)
          omega
        rw [e2] at e
        exact e
      · rw [if_neg hk0, if_neg (show ¬ (zyκB pl (i + 1)).1 = 0 from fun q => by cases q), esi, zysofB]
        omega
  · intro B AsV hA κ hκ s ρ H hPk hI hInv ρ2 w v m t vo hbt hag hE hF hM hvo
    obtain ⟨b1, b2⟩ := zand_iff hbt
    have ev := zynil_iff b1
    subst ev
    rw [zfr_eq] at b2
    rcases zif_iff b2 with ⟨-, b3⟩ | ⟨hk0, b3⟩
    · cases b3
    have hk0 := zbeqF hk0
    rcases hInv with eκ | ⟨i, hi, eκ, hic, hsum⟩
    · rw [eκ] at hk0; exact absurd rfl hk0
    have esi : zysof κ = i := by rw [eκ]; exact zysofB
    have hκ1 : κ.2.1 = 4 := by rw [eκ]; rfl
    have hag0 : ρ2 3 = ρ 3 := hag.2 _ (by omega)
    cases vo with
    | some x => exact hvo.elim
    | none =>
      obtain ⟨x, hx⟩ := zyE37 hI
      obtain ⟨cd, v, h1, h2, h3, h4⟩ := zyM37 (P := zyPA o b0 pl pw) rfl hM b3
      obtain ⟨h2a, h2⟩ := zand_iff h2
      obtain ⟨h2b, h2⟩ := zand_iff h2
      obtain ⟨z, rfl⟩ := zyv_int h4 (zbleT h2a)
      obtain ⟨c, ids, u, nu, c1, c3, c2⟩ := zycha_iff (X := (B, ρ2, w.1, ρ, κ.2.1, (zyEl zymc B s.heap, fun q => s.heap[q]?), zyJc)) (r := ρ2 3) hb0 hE rfl (zysym_k _) (zyv_sym (show 3 < w.1 by have := hag.1; omega) rfl) hF cd 0 [] 13 0 z h4 (Or.inl ⟨rfl, rfl⟩) h2
      rw [Nat.zero_add, esi] at c1
      obtain ⟨d1, d2⟩ := zand_iff c1
      obtain ⟨d1, d3⟩ := zand_iff d1
      obtain ⟨d2, d4⟩ := zand_iff d2
      have hnu := zyund0 c3 (zbeqT d1)
      have d3 := zbeqT d3
      have e5 := zyen1_iff (by decide) hE hF d2
      have e5 : min (zyN1 (zyI (zyEl zymc B s.heap) (1 + o) 5)) 8 ≤ i := e5
      have ei : min (zyN1 (zyI (zyEl zymc B s.heap) (1 + o) 5)) 8 = i := by omega
      have c2 : z + Int32.ofNat (0 + 0) = ρ2 3 + Int32.ofNat (c + nu + zyidS (zyEl zymc B s.heap) o ids) := c2
      have hz : z = Int32.ofNat (9 + zyCt1 (zyEl zymc B s.heap) o 0 + zySum (zyCbo (zyEl zymc B s.heap) o) i + zyidS (zyEl zymc B s.heap) o ids) := by
        rw [show z + Int32.ofNat (0 + 0) = z from Int32.add_zero z, hag0, hsum, ← zyofA, d3, hnu] at c2
        rw [c2]
        exact congrArg Int32.ofNat (by omega)
      obtain ⟨hw, lo, hi2, f1, f2, f3, f4⟩ := zyfk_iff hE (by decide) hF d4
      have f5 : zyI (zyEl zymc B s.heap) (1 + o) 8 = hw := by
        unfold zyI
        rw [show zyEl zymc B s.heap (1 + o) 8 = some (.int hw) from f1]
      have hz6 : zyCt1 (zyEl zymc B s.heap) o 6 = zySum (zyCbo (zyEl zymc B s.heap) o) i := by
        show zySum (zyCbo (zyEl zymc B s.heap) o) (min (zyN1 (zyI (zyEl zymc B s.heap) (1 + o) 5)) 8) = _
        rw [ei]
      have htot : z = Int32.ofNat (zyCta (zyEl zymc B s.heap) o) := by
        rw [hz]
        refine congrArg Int32.ofNat ?_
        unfold zyCta
        rw [hz6, f5]
        rcases zif_iff f4 with ⟨k1, k2⟩ | ⟨-, k2⟩
        · have k1 := zbleT k1
          rw [zylb_iff k2, if_neg (fun q => by have := zyB0.mpr q; omega)]
          show _ + (zyCt1 (zyEl zymc B s.heap) o 1 + (zyCt1 (zyEl zymc B s.heap) o 2 + (zyCt1 (zyEl zymc B s.heap) o 3 + (zyCt1 (zyEl zymc B s.heap) o 4 + 0)))) = _
          omega
        · rcases zif_iff k2 with ⟨k3, k4⟩ | ⟨-, k4⟩
          · obtain ⟨k5, k6⟩ := zand_iff k3
            have k5 := zbeqT k5
            have k6 := zbeqT k6
            rw [zylb_iff k4, if_pos (zyB0.mp (by omega))]
            show _ + (zyCt1 (zyEl zymc B s.heap) o 1 + (zyCt1 (zyEl zymc B s.heap) o 2 + (zyCt1 (zyEl zymc B s.heap) o 3 + 0))) = _
            omega
          · cases k4
      refine ⟨rfl, x, z, by rw [zyk37.1, zyk37.2]; exact hx, by rw [zyk37.1, zyk37.2]; exact h3, (zysub_iff h2b hE h4).2, ?_⟩
      rcases hb0 with ⟨rfl, rfl⟩ | ⟨rfl, rfl⟩
      · exact Or.inr (Or.inl ⟨rfl, htot⟩)
      · exact Or.inr (Or.inr (Or.inr (Or.inl ⟨rfl, htot⟩)))
