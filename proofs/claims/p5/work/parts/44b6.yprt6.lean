/-! THE PRINTER: the loops' contracts -/
theorem zybx1_iff {X : zyX} {w : zW} {F : List zyF} {a j mx p v s c : Nat} {f : Nat → Nat → Nat → Bool} (hj : j < 2147483648) (hs : s < 2147483648) (hE : zEnv (zyρ X) w.2) (hF : ∀ f ∈ F, zyFm X f) (h : zybx1 a j mx p v f s w F c = true) : s < min (zyN1 (zyI (zyE X) a j)) mx ∧ ∃ lo hi, lo ≤ zB (zyI (zyE X) p s) ∧ zB (zyI (zyE X) p s) ≤ hi ∧ ((zB (zyI (zyE X) p s) = v ∧ c = 0) ∨ (¬ zB (zyI (zyE X) p s) = v ∧ f lo hi c = true)) := by
  obtain ⟨h1, h2⟩ := zand_iff h
  refine ⟨zygo1_iff hj hE hF h1, ?_⟩
  obtain ⟨x, lo, hi, e, b1, b2, hk⟩ := zyfk_iff hE hs hF h2
  have e2 : zyI (zyE X) p s = x := by unfold zyI; rw [e]
  rw [e2]
  refine ⟨lo, hi, b1, b2, ?_⟩
  rcases zif_iff hk with ⟨k1, k2⟩ | ⟨-, k2⟩
  · obtain ⟨q1, q2⟩ := zand_iff k1
    have q1 := zbeqT q1
    have q2 := zbeqT q2
    exact Or.inl ⟨by omega, zbeqT k2⟩
  · rcases zif_iff k2 with ⟨k3, k4⟩ | ⟨-, k4⟩
    · have k3 : v + 1 ≤ lo := zbleT k3
      exact Or.inr ⟨by omega, k4⟩
    · rcases zif_iff k4 with ⟨k5, k6⟩ | ⟨-, k6⟩
      · have k5 : hi + 1 ≤ v := zbleT k5
        exact Or.inr ⟨by omega, k6⟩
      · cases k6
/-- an element that was read: it is this code, and not below 0 -/
noncomputable def zyfkc (w : zW) (a j u : Nat) (F : List zyF) : Bool := List.rec (motive := fun _ => Bool) false (fun f _ ih => zif (zand (Nat.beq f.1 24) (zand (Nat.beq f.2.2.1 a) (zand (Nat.beq f.2.2.2 (Nat.mul 8 j)) (zand (Nat.beq f.2.1 u) (Nat.ble (Nat.mod u 8) 1))))) (zbd w u (fun lo _ => Nat.ble 2147483648 lo)) ih) F
theorem zyfkc_iff {X : zyX} {w : zW} {a j u : Nat} (hE : zEnv (zyρ X) w.2) (hj : j < 2147483648) {y : Int32} (hu : zyV X u (.int y)) : ∀ {F : List zyF}, (∀ f ∈ F, zyFm X f) → zyfkc w a j u F = true → zyE X a j = some (.int y) ∧ 2147483648 ≤ zB y := by
  intro F
  induction F with
  | nil => intro _ h; cases h
  | cons f t ih =>
    intro hF h
    have h : zif (zand (Nat.beq f.1 24) (zand (Nat.beq f.2.2.1 a) (zand (Nat.beq f.2.2.2 (8 * j)) (zand (Nat.beq f.2.1 u) (Nat.ble (Nat.mod u 8) 1))))) (zbd w u (fun lo _ => Nat.ble 2147483648 lo)) (zyfkc w a j u t) = true := h
    rcases zif_iff h with ⟨h1, h2⟩ | ⟨-, h2⟩
    · obtain ⟨g1, g2⟩ := zand_iff h1
      obtain ⟨g2, g3⟩ := zand_iff g2
      obtain ⟨g3, g4⟩ := zand_iff g3
      obtain ⟨g4, g5⟩ := zand_iff g4
      have g1 := zbeqT g1
      have g2 := zbeqT g2
      have g3 := zbeqT g3
      have g4 := zbeqT g4
      have g5 : u % 8 ≤ 1 := zbleT g5
      have hf := hF f List.mem_cons_self
      unfold zyFm at hf
      rw [if_pos g1] at hf
      obtain ⟨z, j2, q1, q2, q3, q4⟩ := hf
      rw [g4] at q1
      have e9 := zyv_one g5 q1 hu
      subst e9
      obtain ⟨x, lo, hi, ex, b1, b2, h3⟩ := zybd_iff h2 hE hu
      have ex := Value.int.inj ex
      subst ex
      rw [g3] at q2
      have e1 := Value.int.inj (zyv_0 q2 (by omega))
      have e2 : Int32.ofNat j2 = Int32.ofNat j := by rw [e1, show 8 * j / 8 = j by omega]
      have e3 : (Int32.ofNat j2).toBitVec.toNat = (Int32.ofNat j).toBitVec.toNat := by rw [e2]
      rw [zN_of, zN_of] at e3
      have e4 : j2 = j := by omega
      rw [e4, g2] at q4
      have h3 := zbleT h3
      exact ⟨q4, by omega⟩
    · exact ih (fun f2 hf2 => hF f2 (List.mem_cons_of_mem _ hf2)) h2
theorem zyB0 {x : Int32} : zB x = 2147483648 ↔ x = 0 := by
  constructor
  · intro h
    have e := zyeqB (x := 0) (z := x) (n := 0) (by rw [show zB (0 : Int32) = 2147483648 by decide]; omega)
    rw [e]; decide
  · intro h; rw [h]; decide
theorem zyBm {x : Int32} : zB x = 2147483647 ↔ x = -1 := by
  constructor
  · intro h
    have e := zyeqB (x := -1) (z := x) (n := 0) (by rw [show zB (-1 : Int32) = 2147483647 by decide]; omega)
    rw [e]; decide
  · intro h; rw [h]; decide
noncomputable def zyfst (s : Nat) : Nat → Nat → Nat → Bool := fun _ _ c => Nat.beq c (Nat.add 11 (zynm s))
noncomputable def zyffr (s : Nat) : Nat → Nat → Nat → Bool := fun _ _ c => Nat.beq c (Nat.add 5 (zynm s))
noncomputable def zybxst (o s : Nat) (w : zW) (F : List zyF) (c : Nat) : Bool := zybx1 (Nat.add 2 o) 3 31 (Nat.add 12 o) 2147483648 (zyfst s) s w F c
noncomputable def zybxfr (o s : Nat) (w : zW) (F : List zyF) (c : Nat) : Bool := zybx1 (Nat.add 2 o) 3 31 (Nat.add 13 o) 2147483648 (zyffr s) s w F c
noncomputable def zybxpl (o s : Nat) (w : zW) (F : List zyF) (c u : Nat) : Bool := zand (zygo1 (Nat.add 1 o) 5 8 s w F) (zif (Nat.beq u 13) (zyfk w (Nat.add 15 o) s (fun lo hi => zif (zand (Nat.beq lo 2147483647) (Nat.beq hi 2147483647)) (Nat.beq c 0) (zif (Nat.ble 2147483648 lo) (zif (Nat.ble hi 2147483657) (Nat.beq c 10) (zif (Nat.ble 2147483658 lo) (Nat.beq c 11) false)) false)) F)
  (zand (Nat.beq c 8) (zyfkc w (Nat.add 15 o) s u F)))
noncomputable def zybxwo (o s : Nat) (w : zW) (F : List zyF) (c : Nat) : Bool := zand (zyfk w (Nat.add 17 o) s (fun lo hi => zif (Nat.ble 2147483648 lo) (Nat.beq c 2) (zif (Nat.ble hi 2147483647) (Nat.beq c 4) false)) F) (zygo1 (Nat.add 16 o) 1 60 s w F)
noncomputable def zyLrun (cf : Nat → zT) (y : zY) (dep res hh nL pl : Nat) (tl : List Nat) (b b0 hd nS : Nat) (bx ex : Nat → zW → List zyF → Nat → Nat → Bool) : Bool := zand (zywf nL (zyκe nL pl tl b0)) (zand (zyAll (fun s => zywf nL (zyκs hh nL pl tl b s)) nS) (zand
  (zyok (fun w v m => zand (zyfitM w zymc m.1) (zand (zypre w zymc m.1 []) (zybtL nL res ex (zyκe nL pl tl b0) w v m))) (zymc, zycC, zyfw, zydc, 0) (zystL (zymc, zycC, zyfw, zydc, 0) hh nL pl tl b b0 hd bx (zyκe nL pl tl b0)) 200000 ((zyκe nL pl tl b0).2.1, (zyκe nL pl tl b0).2.2.2.1) cf y 0 (zyκe nL pl tl b0).2.2.1 [] (dep, 0, 0) [] ((zyκe nL pl tl b0).2.2.2.2.1, []))
  (zand (zyAll (fun s => zyok (fun w v m => zand (zyfitM w zymc m.1) (zand (zypre w zymc m.1 []) (zybtL nL res ex (zyκs hh nL pl tl b s) w v m))) (zymc, zycC, zyfw, zydc, 0) (zystL (zymc, zycC, zyfw, zydc, 0) hh nL pl tl b b0 hd bx (zyκs hh nL pl tl b s)) 200000 ((zyκs hh nL pl tl b s).2.1, (zyκs hh nL pl tl b s).2.2.2.1) cf y hh (zyκs hh nL pl tl b s).2.2.1 [] (dep, 0, 0) [] ((zyκs hh nL pl tl b s).2.2.2.2.1, [])) nS)
    (zpad nL (zexp [299, pl]) (fun l2 => zyincl (zymc, zycC, zyfw, zydc, 0) nL (0, []) l2 [(606210, zyc 0 b0)] (zyκe nL pl tl b0))))))
noncomputable def zyrsw (o pl : Nat) : Bool := zyLrun zxi48 (48, 0, 0, 0, 0) 7 (zyc 0 1800) 2 4 pl [13] 1000 1000 0 32 (zyu0 (zybxsw o)) (zyu0 (zyex0 (Nat.add 2 o) 3 31 0))
noncomputable def zyrst (o pl : Nat) : Bool := zyLrun zxi49 (49, 0, 0, 0, 0) 7 (zyc 0 2800) 2 3 pl [] 2000 2000 0 32 (zyu0 (zybxst o)) (zyu0 (zyex0 (Nat.add 2 o) 3 31 0))
noncomputable def zyrfr (o pl : Nat) : Bool := zyLrun zxi50 (50, 0, 0, 0, 0) 7 (zyc 0 3800) 2 3 pl [] 3000 3000 0 32 (zyu0 (zybxfr o)) (zyu0 (zyex0 (Nat.add 2 o) 3 31 0))
noncomputable def zyrpl (o pl : Nat) : Bool := zyLrun zxi51 (51, 0, 0, 0, 0) 7 (zyc 0 4300) 2 3 pl [] 4000 4000 0 9 (zybxpl o) (zyu0 (zyex0 (Nat.add 1 o) 5 8 0))
noncomputable def zyrwo (o pl : Nat) : Bool := zyLrun zxi52 (52, 0, 0, 0, 0) 7 (zyc 0 6600) 8 3 pl [] 5010 5000 4 61 (zyu0 (zybxwo o)) (zyu0 (zyex0 (Nat.add 16 o) 1 60 1))
theorem zyrsw_1 : zyrsw 0 11 = true := by decide +kernel
theorem zyrst_1 : zyrst 0 11 = true := by decide +kernel
theorem zyrfr_1 : zyrfr 0 11 = true := by decide +kernel
theorem zyrpl_1 : zyrpl 0 11 = true := by decide +kernel
theorem zyrwo_1 : zyrwo 0 131 = true := by decide +kernel
theorem zyrsw_2 : zyrsw 17 147 = true := by decide +kernel
theorem zyrst_2 : zyrst 17 147 = true := by decide +kernel
theorem zyrfr_2 : zyrfr 17 147 = true := by decide +kernel
theorem zyrpl_2 : zyrpl 17 147 = true := by decide +kernel
theorem zyrwo_2 : zyrwo 17 267 = true := by decide +kernel
