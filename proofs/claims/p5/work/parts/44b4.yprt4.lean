/-! THE PRINTER: its loops -/
noncomputable def zyAll (f : Nat → Bool) (n : Nat) : Bool := Nat.rec (motive := fun _ => Bool) true (fun i ih => zand (f i) ih) n
theorem zyAll_iff {f : Nat → Bool} : ∀ {n : Nat}, zyAll f n = true → ∀ i, i < n → f i = true := by
  intro n
  induction n with
  | zero => intro _ i hi; omega
  | succ n ih =>
    intro h i hi
    have h : zand (f n) (zyAll f n) = true := h
    obtain ⟨h1, h2⟩ := zand_iff h
    by_cases e : i = n
    · subst e; exact h1
    · exact ih h2 i (by omega)
noncomputable def zyfulls (p : Nat × Nat) (n : Nat) : List (Nat × Nat) := Nat.rec (motive := fun _ => List (Nat × Nat)) [p] (fun _ ih => (0, 4294967295) :: ih) n
/-- the cut at a loop's head: h where, tl the locals behind the index, b the most that may be written there -/
noncomputable def zyκs (h nL pl : Nat) (tl : List Nat) (b s : Nat) : zyKt := (h, Nat.succ nL, 299 :: pl :: Nat.mul 8 s :: tl, zyfulls (2147483648, Nat.add 2147483648 (Nat.add b (Nat.mul 25 s))) nL, [(606210, zysym nL)], [])
noncomputable def zyκe (nL pl : Nat) (tl : List Nat) (b : Nat) : zyKt := (0, Nat.succ nL, 299 :: pl :: 13 :: tl, zyfulls (2147483648, Nat.add 2147483648 b) nL, [(606210, zysym nL)], [])
noncomputable def zysof (κ : zyKt) : Nat := Nat.div (zyag κ.2.2.1 2) 8
/-- counts: hd ahead of the loop, then each round's, tail behind -/
noncomputable def zystL (P : zyP) (h nL pl : Nat) (tl : List Nat) (b b0 : Nat) (hd : Nat) (bx : Nat → zW → List zyF → Nat → Nat → Bool) (κ : zyKt) : zyK := fun w _ _ pc ls st _ fs m => List.rec (motive := fun _ => Bool) (List.rec (motive := fun _ => Bool) (zif (Nat.beq pc h)
  (zif (Nat.beq κ.1 0) (zand (zyincl P nL w ls m.1 (zyκs h nL pl tl b 0)) (zylk false (fun cd => zand (Nat.ble (Nat.mod cd 8) 2) (zychn w (zysym nL) (fun c u => zand (Nat.beq u 13) (Nat.beq c hd)) m.2 cd 0 13)) 606210 m.1))
    (zfr false (zysof κ) (fun s => zand (zyincl P nL w ls m.1 (zyκs h nL pl tl b (Nat.succ s))) (zylk false (fun cd => zand (Nat.ble (Nat.mod cd 8) 2) (zychn w (zysym nL) (fun c u => bx s w m.2 c u) m.2 cd 0 13)) 606210 m.1)))) false) (fun _ _ _ => false) st) (fun _ _ _ => false) fs
noncomputable def zybtL (nL : Nat) (res : Nat) (ex : Nat → zW → List zyF → Nat → Nat → Bool) (κ : zyKt) : zW → List Nat → zyM → Bool := fun w v m => zand (zynil v) (zif (Nat.beq κ.1 0) false (zfr false (zysof κ) (fun s => zylk false (fun cd => zand (Nat.ble (Nat.mod cd 8) 2) (zand (zysub w cd res) (zychn w (zysym nL) (fun c u => ex s w m.2 c u) m.2 cd 0 13))) 606210 m.1)))
theorem zysof_s {h nL pl : Nat} {tl : List Nat} {b s : Nat} : zysof (zyκs h nL pl tl b s) = s := by
  show 8 * s / 8 = s
  omega
theorem zystL_no {P : zyP} {h nL pl : Nat} {tl : List Nat} {b b0 hd : Nat} {bx : Nat → zW → List zyF → Nat → Nat → Bool} : ∀ κ w cf y pc ls st q f fs m, zystL P h nL pl tl b b0 hd bx κ w cf y pc ls st q (f :: fs) m = false := fun _ _ _ _ _ _ _ _ _ _ _ => rfl
theorem zystL_iff {P : zyP} {h nL pl : Nat} {tl : List Nat} {b b0 hd : Nat} {bx : Nat → zW → List zyF → Nat → Nat → Bool} {κ : zyKt} {w : zW} {cf : Nat → zT} {y : zY} {pc : Nat} {ls st : List Nat} {q : zQ} {m : zyM} (hh : zystL P h nL pl tl b b0 hd bx κ w cf y pc ls st q [] m = true) : st = [] ∧ pc = h ∧ ((κ.1 = 0 ∧ zyincl P nL w ls m.1 (zyκs h nL pl tl b 0) = true ∧ zylk false (fun cd => zand (Nat.ble (Nat.mod cd 8) 2) (zychn w (zysym nL) (fun c u => zand (Nat.beq u 13) (Nat.beq c hd)) m.2 cd 0 13)) 606210 m.1 = true) ∨ (¬ κ.1 = 0 ∧ zyincl P nL w ls m.1 (zyκs h nL pl tl b (zysof κ + 1)) = true ∧ zylk false (fun cd => zand (Nat.ble (Nat.mod cd 8) 2) (zychn w (zysym nL) (fun c u => bx (zysof κ) w m.2 c u) m.2 cd 0 13)) 606210 m.1 = true)) := by
  cases st with
  | cons a t => cases hh
  | nil =>
    have hh : zif (Nat.beq pc h) (zif (Nat.beq κ.1 0) (zand (zyincl P nL w ls m.1 (zyκs h nL pl tl b 0)) (zylk false (fun cd => zand (Nat.ble (Nat.mod cd 8) 2) (zychn w (zysym nL) (fun c u => zand (Nat.beq u 13) (Nat.beq c hd)) m.2 cd 0 13)) 606210 m.1))
    (zfr false (zysof κ) (fun s => zand (zyincl P nL w ls m.1 (zyκs h nL pl tl b (Nat.succ s))) (zylk false (fun cd => zand (Nat.ble (Nat.mod cd 8) 2) (zychn w (zysym nL) (fun c u => bx s w m.2 c u) m.2 cd 0 13)) 606210 m.1)))) false = true := hh
    rw [zfr_eq] at hh
    rcases zif_iff hh with ⟨h1, h2⟩ | ⟨-, h2⟩
    · refine ⟨rfl, zbeqT h1, ?_⟩
      rcases zif_iff h2 with ⟨h3, h4⟩ | ⟨h3, h4⟩
      · obtain ⟨g1, g2⟩ := zand_iff h4
        exact Or.inl ⟨zbeqT h3, g1, g2⟩
      · obtain ⟨g1, g2⟩ := zand_iff h4
        exact Or.inr ⟨zbeqF h3, g1, g2⟩
    · cases h2
theorem zyloopk {l : Launch} {y0 : Nat} {en : zEn} {me : zMe} (hen : zG zxMeta y0 = some en) (hme : zG zMeth y0 = some me) (hc0 : en.2.2.2.2.2.1 = 0) (hs0 : en.2.2.2.2.2.2.1 = 0) {C : Nat → List zyCt} (hCon : zyCons l (zymc, C, zyfw, zydc, 0) zyJc) {id dep res hh pl b b0 hd tail nS nL : Nat} {tl : List Nat} (hnL : en.2.2.1 = nL) (hh0 : ¬ hh = 0) (bx ex : Nat → zW → List zyF → Nat → Nat → Bool)
    (hwf : zywf nL (zyκe nL pl tl b0) = true) (hwfs : zyAll (fun s => zywf nL (zyκs hh nL pl tl b s)) nS = true)
    (hrune : zyok (fun w v m => zand (zyfitM w zymc m.1) (zand (zypre w zymc m.1 []) (zybtL nL res ex (zyκe nL pl tl b0) w v m))) (zymc, C, zyfw, zydc, 0) (zystL (zymc, C, zyfw, zydc, 0) hh nL pl tl b b0 hd bx (zyκe nL pl tl b0)) 200000 ((zyκe nL pl tl b0).2.1, (zyκe nL pl tl b0).2.2.2.1) en.1 en.2.2.2.2 0 (zyκe nL pl tl b0).2.2.1 [] (dep, 0, 0) [] ((zyκe nL pl tl b0).2.2.2.2.1, []) = true)
    (hruns : zyAll (fun s => zyok (fun w v m => zand (zyfitM w zymc m.1) (zand (zypre w zymc m.1 []) (zybtL nL res ex (zyκs hh nL pl tl b s) w v m))) (zymc, C, zyfw, zydc, 0) (zystL (zymc, C, zyfw, zydc, 0) hh nL pl tl b b0 hd bx (zyκs hh nL pl tl b s)) 200000 ((zyκs hh nL pl tl b s).2.1, (zyκs hh nL pl tl b s).2.2.2.1) en.1 en.2.2.2.2 hh (zyκs hh nL pl tl b s).2.2.1 [] (dep, 0, 0) [] ((zyκs hh nL pl tl b s).2.2.2.2.1, [])) nS = true)
    (hentry : zpad nL (zexp [299, pl]) (fun l2 => zyincl (zymc, C, zyfw, zydc, 0) nL (0, []) l2 [(606210, zyc 0 b0)] (zyκe nL pl tl b0)) = true)
    (inc : zyEm → Nat → Nat) (cnt : zyEm → Nat) (hnS : 0 < nS ∧ nS ≤ 1000) (hcn : ∀ E, cnt E < nS)
    (hbx : ∀ (X : zyX) (w : zW) (F : List zyF) (s c u nu : Nat), zyJ X = zyJc → zEnv (zyρ X) w.2 → (∀ f ∈ F, zyFm X f) → s < nS → bx s w F c u = true → zyund X u nu → inc (zyE X) s = c + nu ∧ s < cnt (zyE X))
    (hex : ∀ (X : zyX) (w : zW) (F : List zyF) (s c u nu : Nat), zyJ X = zyJc → zEnv (zyρ X) w.2 → (∀ f ∈ F, zyFm X f) → s < nS → ex s w F c u = true → zyund X u nu → c + nu = tail ∧ cnt (zyE X) ≤ s)
    (hrel : ∀ (E : zyEm) (x y z : Int32), zB z = zB x + hd + zySum (inc E) (cnt E) + tail → zyRc id E x y z) : zyCon l zymc zyJc en me ([299, pl], zyfw, [res, id, 606210], dep, [(606210, zyc 0 b0)], []) := by
  obtain ⟨me1, hme1, hOK⟩ := zall hen
  rw [hme] at hme1
  cases hme1
  have hK : ∀ κ, κ ∈ zyκe nL pl tl b0 :: (List.range nS).map (zyκs hh nL pl tl b) → κ = zyκe nL pl tl b0 ∨ ∃ s, s < nS ∧ κ = zyκs hh nL pl tl b s := by
    intro κ hκ
    rcases List.mem_cons.mp hκ with e | e
    · exact Or.inl e
    · obtain ⟨s, h1, h2⟩ := List.mem_map.mp e
      exact Or.inr ⟨s, List.mem_range.mp h1, h2.symm⟩
  have hKs : ∀ s, s < nS → zyκs hh nL pl tl b s ∈ zyκe nL pl tl b0 :: (List.range nS).map (zyκs hh nL pl tl b) := fun s hs => List.mem_cons_of_mem _ (List.mem_map.mpr ⟨s, List.mem_range.mpr hs, rfl⟩)
  subst hnL
  refine zycutC (P := (zymc, C, zyfw, zydc, 0)) (J := zyJc) (K := zyκe en.2.2.1 pl tl b0 :: (List.range nS).map (zyκs hh en.2.2.1 pl tl b)) (κ0 := zyκe en.2.2.1 pl tl b0) (n := 200000) (bt := zybtL en.2.2.1 res ex) (stp := zystL (zymc, C, zyfw, zydc, 0) hh en.2.2.1 pl tl b b0 hd bx) hOK hCon zyJc_p hc0 hs0 List.mem_cons_self rfl ?_ zystL_no ?_ hentry (fun _ _ h => h)
    (fun B AsV κ s ρ H => ∃ x : Int32, zyEl zymc B s.heap 37 2 = some (.int x) ∧ ((κ = zyκe en.2.2.1 pl tl b0 ∧ ρ en.2.2.1 = x) ∨ ∃ i, i < nS ∧ κ = zyκs hh en.2.2.1 pl tl b i ∧ i ≤ cnt (zyEl zymc B s.heap) ∧ zB (ρ en.2.2.1) = zB x + hd + zySum (inc (zyEl zymc B s.heap)) i)) (fun _ _ κ _ _ _ => if κ.1 = 0 then 100000 else 99999 - zysof κ) ?_ ?_ ?_
  · intro κ hκ
    rcases hK κ hκ with e | ⟨s, hs, e⟩
    · rw [e]; exact hwf
    · rw [e]; exact zyAll_iff hwfs s hs
  · intro κ hκ
    rcases hK κ hκ with e | ⟨s, hs, e⟩
    · rw [e]; exact hrune
    · rw [e]; exact zyAll_iff hruns s hs
  · intro B AsV hA s lsA hKn hI hPk hlv
    obtain ⟨x, hx⟩ := zyE37 hI
    refine ⟨x, hx, Or.inl ⟨rfl, ?_⟩⟩
    have e := zyrho_c (B := zymc) (Y := B) (H := s.heap) (nL := en.2.2.1) (j := 0) (lsA := lsA) (kc := (zyκe en.2.2.1 pl tl b0).2.2.2.2.1) (p := (606210, zysym en.2.2.1)) (x := x) rfl (by dsimp only; rw [zyk37.1, zyk37.2]; exact hx)
    rw [Nat.add_zero] at e
    exact e
  · intro B AsV hA κ hκ s ρ H hPk hI hInv ρ2 N2 w pc ls st q m H2 locs2 lsB stA hs hag hR
    obtain ⟨x, hx, hInv⟩ := hInv
    obtain ⟨est, hpc, hcase⟩ := zystL_iff hs
    have hNN : en.2.2.1 < N2 := by
      have h1 : κ.2.1 ≤ N2 := hR.1.2.2.1.1
      rcases hK κ hκ with e | ⟨i, -, e⟩
      · rw [e] at h1; exact h1
      · rw [e] at h1; exact h1
    have hag0 : ρ2 en.2.2.1 = ρ en.2.2.1 := by
      refine hag _ ?_
      rcases hK κ hκ with e | ⟨i, -, e⟩
      · rw [e]; exact Nat.lt_succ_self _
      · rw [e]; exact Nat.lt_succ_self _
    have key : ∀ (k : Nat → Nat → Bool), zylk false (fun cd => zand (Nat.ble (Nat.mod cd 8) 2) (zychn w (zysym en.2.2.1) k m.2 cd 0 13)) 606210 m.1 = true → ∃ (z : Int32) (c u nu : Nat), (∀ i, zyrho zymc B H2 en.2.2.1 lsB (zyκs hh en.2.2.1 pl tl b i).2.2.2.2.1 en.2.2.1 = z) ∧ k c u = true ∧ zyund (B, ρ2, N2, ρ, κ.2.1, (zyEl zymc B s.heap, fun q => s.heap[q]?), zyJc) u nu ∧ zB z = zB (ρ en.2.2.1) + c + nu := by
      intro k hk
      obtain ⟨cd, v, h1, h2, h3, h4⟩ := zyM37 (P := (zymc, C, zyfw, zydc, 0)) rfl hR.2.1 hk
      obtain ⟨h2a, h2⟩ := zand_iff h2
      obtain ⟨z, rfl⟩ := zyv_int h4 (zbleT h2a)
      obtain ⟨c, u, nu, c1, c2, c3⟩ := zychn_iff (r := ρ2 en.2.2.1) hR.1.1 rfl (zysym_k _) (zyv_sym hNN rfl) hR.1.2.2.2 cd 0 13 0 z h4 (Or.inl ⟨rfl, rfl⟩) h2
      refine ⟨z, c, u, nu, fun i => ?_, by rw [Nat.zero_add] at c1; exact c1, c2, by rw [← hag0]; exact c3⟩
      have e := zyrho_c (B := zymc) (Y := B) (H := H2) (nL := en.2.2.1) (j := 0) (lsA := lsB) (kc := (zyκs hh en.2.2.1 pl tl b i).2.2.2.2.1) (p := (606210, zysym en.2.2.1)) (x := z) rfl (by dsimp only; rw [zyk37.1, zyk37.2]; exact h3)
      rw [Nat.add_zero] at e
      exact e
    rcases hcase with ⟨hk0, hin, hl⟩ | ⟨hk0, hin, hl⟩
    · obtain ⟨z, c, u, nu, hz1, hz2, hz4, hz3⟩ := key _ hl
      obtain ⟨hz5, hz2⟩ := zand_iff hz2
      have hz5 := zbeqT hz5
      have hz2 := zbeqT hz2
      have hnu : nu = 0 := by
        rcases hz4 with ⟨-, e⟩ | ⟨y3, e, -⟩
        · exact e
        · rw [hz5] at e
          exact absurd (zyv_ik e) (by decide)
      rcases hInv with ⟨eκ, hρ⟩ | ⟨i, hi, eκ, -⟩
      rotate_left
      · rw [eκ] at hk0; exact absurd hk0 hh0
      refine ⟨zyκs hh en.2.2.1 pl tl b 0, hKs 0 hnS.1, est, hpc, ⟨w, rfl, hR.1.1, hin⟩, ⟨x, hx, Or.inr ⟨0, hnS.1, rfl, Nat.zero_le _, ?_⟩⟩, ?_⟩
      · rw [hz1 0, hz3, hρ, hz2, hnu]
        rfl
      · rw [if_pos hk0, if_neg (show ¬ (zyκs hh en.2.2.1 pl tl b 0).1 = 0 from hh0)]
        omega
    · obtain ⟨z, c, u, nu, hz1, hz2, hz4, hz3⟩ := key _ hl
      rcases hInv with ⟨eκ, hρ⟩ | ⟨i, hi, eκ, hic, hsum⟩
      · rw [eκ] at hk0; exact absurd rfl hk0
      have esi : zysof κ = i := by rw [eκ]; exact zysof_s
      rw [esi] at hz2 hin
      obtain ⟨q1, q2⟩ := hbx (B, ρ2, N2, ρ, κ.2.1, (zyEl zymc B s.heap, fun q => s.heap[q]?), zyJc) w m.2 i c u nu rfl hR.1.1 hR.1.2.2.2 hi hz2 hz4
      have q2 : i < cnt (zyEl zymc B s.heap) := q2
      have q1 : inc (zyEl zymc B s.heap) i = c + nu := q1
      have hcn1 := hcn (zyEl zymc B s.heap)
      refine ⟨zyκs hh en.2.2.1 pl tl b (i + 1), hKs (i + 1) (by omega), est, hpc, ⟨w, rfl, hR.1.1, hin⟩, ⟨x, hx, Or.inr ⟨i + 1, by omega, rfl, q2, ?_⟩⟩, ?_⟩
      · rw [hz1 (i + 1), hz3, hsum]
        show zB x + hd + zySum (inc (zyEl zymc B s.heap)) i + c + nu = zB x + hd + (zySum (inc (zyEl zymc B s.heap)) i + inc (zyEl zymc B s.heap) i)
        omega
      · rw [if_neg hk0, if_neg (show ¬ (zyκs hh en.2.2.1 pl tl b (i + 1)).1 = 0 from hh0), esi, zysof_s]
        omega
  · intro B AsV hA κ hκ s ρ H hPk hI hInv ρ2 w v m t vo hbt hag hE hF hM hvo
    obtain ⟨x, hx, hInv⟩ := hInv
    obtain ⟨b1, b2⟩ := zand_iff hbt
    have ev := zynil_iff b1
    subst ev
    rw [zfr_eq] at b2
    rcases zif_iff b2 with ⟨-, b3⟩ | ⟨hk0, b3⟩
    · cases b3
    have hk0 := zbeqF hk0
    rcases hInv with ⟨eκ, hρ⟩ | ⟨i, hi, eκ, hic, hsum⟩
    · rw [eκ] at hk0; exact absurd rfl hk0
    have esi : zysof κ = i := by rw [eκ]; exact zysof_s
    have hκ1 : κ.2.1 = en.2.2.1 + 1 := by rw [eκ]; rfl
    have hag0 : ρ2 en.2.2.1 = ρ en.2.2.1 := hag.2 _ (by omega)
    cases vo with
    | some x => exact hvo.elim
    | none =>
      obtain ⟨cd, v, h1, h2, h3, h4⟩ := zyM37 (P := (zymc, C, zyfw, zydc, 0)) rfl hM b3
      obtain ⟨h2a, h2⟩ := zand_iff h2
      obtain ⟨h2b, h2⟩ := zand_iff h2
      obtain ⟨z, rfl⟩ := zyv_int h4 (zbleT h2a)
      obtain ⟨c, u, nu, c1, c3, c2⟩ := zychn_iff (X := (B, ρ2, w.1, ρ, κ.2.1, (zyEl zymc B s.heap, fun q => s.heap[q]?), zyJc)) (r := ρ2 en.2.2.1) hE rfl (zysym_k _) (zyv_sym (show en.2.2.1 < w.1 by have := hag.1; omega) rfl) hF cd 0 13 0 z h4 (Or.inl ⟨rfl, rfl⟩) h2
      rw [Nat.zero_add, esi] at c1
      obtain ⟨q1, q2⟩ := hex (B, ρ2, w.1, ρ, κ.2.1, (zyEl zymc B s.heap, fun q => s.heap[q]?), zyJc) w m.2 i c u nu rfl hE hF hi c1 c3
      have q2 : cnt (zyEl zymc B s.heap) ≤ i := q2
      have ei : cnt (zyEl zymc B s.heap) = i := by omega
      refine ⟨rfl, x, z, by rw [zyk37.1, zyk37.2]; exact hx, by rw [zyk37.1, zyk37.2]; exact h3, (zysub_iff h2b hE h4).2, ?_⟩
      have c2 : zB z = zB (ρ2 en.2.2.1) + c + nu := c2
      have hfin : zB z = zB x + hd + zySum (inc (zyEl zymc B s.heap)) (cnt (zyEl zymc B s.heap)) + tail := by
        rw [c2, hag0, hsum, ei, ← q1]
        omega
      exact hrel _ _ _ _ hfin
