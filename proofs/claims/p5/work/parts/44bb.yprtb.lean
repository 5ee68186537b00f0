/-! THE PRINTER: write -/
noncomputable def zyf1 (kd : Nat) (k : Nat → List zyF → Bool) (F : List zyF) : Bool := List.rec (motive := fun _ => Bool) false (fun f t ih => zif (Nat.beq f.1 kd) (k f.2.1 t) ih) F
theorem zyf1_iff {kd : Nat} {k : Nat → List zyF → Bool} : ∀ {F : List zyF}, zyf1 kd k F = true → ∃ (f : zyF) (t : List zyF), f ∈ F ∧ (∀ g ∈ t, g ∈ F) ∧ f.1 = kd ∧ k f.2.1 t = true := by
  intro F
  induction F with
  | nil => intro h; cases h
  | cons f t ih =>
    intro h
    have h : zif (Nat.beq f.1 kd) (k f.2.1 t) (zyf1 kd k t) = true := h
    rcases zif_iff h with ⟨h1, h2⟩ | ⟨-, h2⟩
    · exact ⟨f, t, List.mem_cons_self, fun g hg => List.mem_cons_of_mem _ hg, zbeqT h1, h2⟩
    · obtain ⟨f2, t2, q1, q2, q3, q4⟩ := ih h2
      exact ⟨f2, t2, List.mem_cons_of_mem _ q1, fun g hg => List.mem_cons_of_mem _ (q2 g hg), q3, q4⟩
noncomputable def zybtw (b0 : Nat) : zW → List Nat → zyM → Bool := fun w v m => zif (zylb v [0]) (zyfitM w zymc m.1) (zand (zylb v [8]) (zyf1 (Nat.add 1005 b0) (fun v2 t => zyf1 (Nat.add 1005 b0) (fun v1 _ => zand (zand (Nat.ble (Nat.mod v1 8) 1) (Nat.ble (Nat.mod v2 8) 1)) (zand (zbd w v1 (fun lo hi => zand (Nat.ble 2147483648 lo) (Nat.ble hi 2147484548))) (zcut w v2 2147483648 2147484548 (fun w3 => zyfitM w3 zymc m.1)))) t) m.2))
noncomputable def zyPw (b0 pl : Nat) : zyP := (zymc, fun y => zif (Nat.beq y 47) [([299, pl], zyfw, [zyc 0 6600, Nat.add b0 5, 606210], 9, [], [])] [], [(37, 1, 3), (38, 0, 899)], zydc, 0)
noncomputable def zyκW (pl : Nat) : zyKt := (0, 3, [299, pl], [(0, 4294967295), (0, 4294967295), (0, 4294967295)], [(606210, zysym 2)], [])
noncomputable def zyrunW (b0 pl : Nat) : Bool := zand (zywf 2 (zyκW pl)) (zand (zyok (zybtw b0) (zyPw b0 pl) zystop0 200000 (3, (zyκW pl).2.2.2.1) zxi46 (46, 0, 0, 2, 0) 0 (zyκW pl).2.2.1 [] (10, 0, 0) [] ((zyκW pl).2.2.2.2.1, [])) (zpad 2 (zexp [299, pl]) (fun l2 => zyincl (zyPw b0 pl) 2 (0, []) l2 [] (zyκW pl))))
theorem zyrunW_1 : zyrunW 100 11 = true := by decide +kernel
theorem zyrunW_2 : zyrunW 200 147 = true := by decide +kernel
theorem zywrite {l : Launch} {o b0 pl : Nat} (hb0 : (b0 = 100 ∧ o = 0) ∨ (b0 = 200 ∧ o = 17)) (hr : zyrunW b0 pl = true) (hall : ∀ en me, zG zxMeta 47 = some en → zG zMeth 47 = some me → zyCon l zymc zyJc en me ([299, pl], zyfw, [zyc 0 6600, b0 + 5, 606210], 9, [], [])) {en : zEn} {me : zMe} (hen : zG zxMeta 46 = some en) (hme : zG zMeth 46 = some me) : zyCon l zymc zyJc en me ([299, pl], [(37, 1, 3), (38, 0, 899)], [73786976312018075658], 10, [], []) := by
  have een : zG zxMeta 46 = some (zxi46, 2, 2, 4, 46, 0, 0, 2, 0) := rfl
  obtain ⟨me1, hme1, hOK⟩ := zall hen
  rw [hme] at hme1
  cases hme1
  rw [een] at hen
  cases hen
  obtain ⟨q1, hr⟩ := zand_iff hr
  obtain ⟨q2, q3⟩ := zand_iff hr
  have hCon : zyCons l (zyPw b0 pl) zyJc := by
    intro y2 ct en2 me2 hct hen2 hme2
    have hct : ct ∈ zif (Nat.beq y2 47) [([299, pl], zyfw, [zyc 0 6600, Nat.add b0 5, 606210], 9, [], [])] [] := hct
    by_cases e : y2 = 47
    · subst e
      have hct : ct ∈ [([299, pl], zyfw, [zyc 0 6600, Nat.add b0 5, 606210], 9, [], [])] := hct
      rw [List.mem_singleton.mp hct]
      exact hall en2 me2 hen2 hme2
    · rw [zybeq_ne e] at hct
      cases hct
  intro B AsV hA
  refine zycutF (P := zyPw b0 pl) (J := zyJc) (K := [zyκW pl]) (κ0 := zyκW pl) (n := 200000) (bt := fun _ => zybtw b0) (stp := fun _ => zystop0) (dep := 10) (pre := []) hOK hCon zyJc_p rfl rfl List.mem_cons_self rfl (fun κ hκ => by rw [List.mem_singleton.mp hκ]; exact q1) (fun _ _ _ _ _ _ _ _ _ _ _ => rfl) (fun κ hκ => by rw [List.mem_singleton.mp hκ]; exact q2) hA q3 (fun _ _ _ _ => True) (fun _ _ _ _ => 0) (fun _ _ _ _ _ _ _ => trivial) (fun κ hκ s ρ H _ _ _ ρ2 N2 w pc ls st q m H2 locs2 lsB stA hs => by cases hs) ?_
  intro κ hκ s ρ H hPre hK hI hInv ρ2 w v m H2 vo hbt hag hE hF hM hvo t ht hW
  subst ht
  have fin : ∀ (w3 : zW) (u : Nat) (n : Int32), v = [8 * u] → Int32.ofNat u = n → (n = 0 ∨ n = 1) → zEnv ρ2 w3.2 → zyfitM w3 zymc m.1 = true → zyQk zymc B zyJc ([299, pl], [(37, 1, 3), (38, 0, 899)], [73786976312018075658], 10, [], []) AsV.toArray s (.returned vo) t := by
    intro w3 u n ev en hn hE3 hfit
    subst ev
    cases vo with
    | none => exact hvo.elim
    | some x =>
      have ex : x = .int n := by
        rw [← en]
        have e9 := zyv_0 hvo (show 8 * u % 8 = 0 by omega)
        rw [show 8 * u / 8 = u by omega] at e9
        exact e9
      subst ex
      refine ⟨_, rfl, zyvr_of ?_, hK.warm hW, (hM.base (w := w3) hE3 hfit).moved hW.alike, (fun p hp => by cases hp), fun a k hf => hM.2.2.1 a k hf, fun q hq => hM.2.2.2.2.2 q hq⟩
      rcases hn with rfl | rfl
      · exact zyv_bd (lo := 2147483648) (hi := 2147483649) (by decide) (by decide) (by decide)
      · exact zyv_bd (lo := 2147483648) (hi := 2147483649) (by decide) (by decide) (by decide)
  have hbt : zybtw b0 w v m = true := hbt
  unfold zybtw at hbt
  rcases zif_iff hbt with ⟨h1, h2⟩ | ⟨-, h2⟩
  · exact fin w 0 0 (zylb_iff h1) rfl (Or.inl rfl) hE h2
  · obtain ⟨h3, h4⟩ := zand_iff h2
    obtain ⟨f2, t2, m2, s2, k2, h5⟩ := zyf1_iff h4
    obtain ⟨f1, t1, m1, -, k1, h6⟩ := zyf1_iff h5
    obtain ⟨c1, c2⟩ := zand_iff h6
    obtain ⟨c1, c3⟩ := zand_iff c1
    obtain ⟨c5, c4⟩ := zand_iff c2
    have c1 := zbleT c1
    have c3 := zbleT c3
    have r2 := hF f2 m2
    have r1 := hF f1 (s2 f1 m1)
    obtain ⟨f20, f21, f22, f23⟩ := f2
    obtain ⟨f10, f11, f12, f13⟩ := f1
    dsimp only at *
    have k2 : f20 = 1000 + (b0 + 5) := by rw [k2]; show 1005 + b0 = _; omega
    have k1 : f10 = 1000 + (b0 + 5) := by rw [k1]; show 1005 + b0 = _; omega
    rw [k2] at r2
    rw [k1] at r1
    obtain ⟨x2, y2, z2, a1, a2, a3, a4⟩ := zyFm_rel r2
    obtain ⟨x1, y1, z1, d1, d2, d3, d4⟩ := zyFm_rel r1
    have a4 : zyRc (b0 + 5) (zyEl zymc B s.heap) x2 y2 z2 := a4
    have d4 : zyRc (b0 + 5) (zyEl zymc B s.heap) x1 y1 z1 := d4
    have huni : ∀ x y z : Int32, zyRc (b0 + 5) (zyEl zymc B s.heap) x y z → z = Int32.ofNat (zyCta (zyEl zymc B s.heap) o) := by
      intro x y z hz
      rcases hb0 with ⟨rfl, rfl⟩ | ⟨rfl, rfl⟩
      · rcases hz with ⟨e1, e2, e3⟩ | ⟨e1, e3⟩ | ⟨e1, e2, e3⟩ | ⟨e1, e3⟩ | ⟨e1, e2, e3⟩ | ⟨e1, e3⟩
        · omega
        · exact e3
        · omega
        · omega
        · omega
        · omega
      · rcases hz with ⟨e1, e2, e3⟩ | ⟨e1, e3⟩ | ⟨e1, e2, e3⟩ | ⟨e1, e3⟩ | ⟨e1, e2, e3⟩ | ⟨e1, e3⟩
        · omega
        · omega
        · omega
        · exact e3
        · omega
        · omega
    have ez : z2 = z1 := by rw [huni _ _ _ a4, huni _ _ _ d4]
    obtain ⟨z9, lo, hi, e9, b1, b2, hk⟩ := zybd_iff c5 hE d1
    have e9 := Value.int.inj e9
    subst e9
    obtain ⟨g1, g2⟩ := zand_iff hk
    have g1 := zbleT g1
    have g2 := zbleT g2
    obtain ⟨w3, e3, hE3, hfit⟩ := zycut_iff c4 hE a1 (by rw [ez]; omega) (by rw [ez]; omega)
    exact fin w3 1 1 (zylb_iff h3) rfl (Or.inr rfl) hE3 hfit
/-! both contracts of the table -/
theorem zyw3 {l : Launch} : zyCo l zymc zyJc zyic 3 := by
  intro en me hen hme
  exact zywrite (o := 0) (b0 := 100) (pl := 11) (Or.inl ⟨rfl, rfl⟩) zyrunW_1 (fun en me h1 h2 => zywall (Or.inl ⟨rfl, rfl⟩) zyrsw_1 zyrst_1 zyrfr_1 zyrpl_1 zyrwo_1 zyrunA_1 h1 h2) hen hme
theorem zyw4 {l : Launch} : zyCo l zymc zyJc zyic 4 := by
  intro en me hen hme
  exact zywrite (o := 17) (b0 := 200) (pl := 147) (Or.inr ⟨rfl, rfl⟩) zyrunW_2 (fun en me h1 h2 => zywall (Or.inr ⟨rfl, rfl⟩) zyrsw_2 zyrst_2 zyrfr_2 zyrpl_2 zyrwo_2 zyrunA_2 h1 h2) hen hme
