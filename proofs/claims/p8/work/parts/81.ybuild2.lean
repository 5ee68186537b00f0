/-! BY HAND: a frame is built -/
theorem zyrunb_all {fr : Nat} (hfr : fr = 2 ∨ fr = 19) {r c : Nat} (h1 : 1 ≤ r) (h2 : r ≤ 4) (h3 : 1 ≤ c) (h4 : c ≤ 5) : zyrunb fr r c = true := by
  have key : ∀ {fr r : Nat}, zyrunbs fr r = true → ∀ c, 1 ≤ c → c ≤ 5 → zyrunb fr r c = true := by
    intro fr r h c h3 h4
    obtain ⟨q1, h⟩ := zand_iff h
    obtain ⟨q2, h⟩ := zand_iff h
    obtain ⟨q3, h⟩ := zand_iff h
    obtain ⟨q4, q5⟩ := zand_iff h
    have hc : c = 1 ∨ c = 2 ∨ c = 3 ∨ c = 4 ∨ c = 5 := by omega
    rcases hc with rfl | rfl | rfl | rfl | rfl
    · exact q1
    · exact q2
    · exact q3
    · exact q4
    · exact q5
  have hr : r = 1 ∨ r = 2 ∨ r = 3 ∨ r = 4 := by omega
  rcases hfr with rfl | rfl
  · rcases hr with rfl | rfl | rfl | rfl
    · exact key zyrb2_1 c h3 h4
    · exact key zyrb2_2 c h3 h4
    · exact key zyrb2_3 c h3 h4
    · exact key zyrb2_4 c h3 h4
  · rcases hr with rfl | rfl | rfl | rfl
    · exact key zyrb19_1 c h3 h4
    · exact key zyrb19_2 c h3 h4
    · exact key zyrb19_3 c h3 h4
    · exact key zyrb19_4 c h3 h4
theorem zyfpb_in {fr n a k : Nat} (h : zyin (zyfpb fr n) a k = true) : (a = fr ∧ k ≤ 3) ∨ (fr + 1 ≤ a ∧ a ≤ fr + 5 ∧ k ≤ n - 1) ∨ (fr + 6 ≤ a ∧ a ≤ fr + 7 ∧ k ≤ 30) := by
  obtain ⟨p, h1, h2, h3, h4⟩ := zyin_iff.mp h
  simp only [zyfpb, List.mem_cons, List.not_mem_nil, or_false, zn_a, zn_p] at h1
  rcases h1 with e | e | e | e | e | e | e | e <;> rw [e] at h2 h4 <;> dsimp only at h2 h4 <;> omega
theorem zyfpb_out {fr n : Nat} (hn : n ≤ 80) {a k : Nat} (h : zyin [(fr, 0, 3), (fr + 1, 0, 79), (fr + 2, 0, 79), (fr + 3, 0, 79), (fr + 4, 0, 79), (fr + 5, 0, 79), (fr + 6, 0, 30), (fr + 7, 0, 30)] a k = false) : zyin (zyfpb fr n) a k = false := by
  cases hq : zyin (zyfpb fr n) a k with
  | false => rfl
  | true =>
    exfalso
    have hh := zyfpb_in hq
    have : zyin [(fr, 0, 3), (fr + 1, 0, 79), (fr + 2, 0, 79), (fr + 3, 0, 79), (fr + 4, 0, 79), (fr + 5, 0, 79), (fr + 6, 0, 30), (fr + 7, 0, 30)] a k = true := by
      rw [zyin_iff]
      have ha : a = fr ∨ a = fr + 1 ∨ a = fr + 2 ∨ a = fr + 3 ∨ a = fr + 4 ∨ a = fr + 5 ∨ a = fr + 6 ∨ a = fr + 7 := by omega
      rcases ha with e | e | e | e | e | e | e | e
      · exact ⟨(fr, 0, 3), by simp, e.symm, Nat.zero_le _, by dsimp only; omega⟩
      · exact ⟨(fr + 1, 0, 79), by simp, e.symm, Nat.zero_le _, by dsimp only; omega⟩
      · exact ⟨(fr + 2, 0, 79), by simp, e.symm, Nat.zero_le _, by dsimp only; omega⟩
      · exact ⟨(fr + 3, 0, 79), by simp, e.symm, Nat.zero_le _, by dsimp only; omega⟩
      · exact ⟨(fr + 4, 0, 79), by simp, e.symm, Nat.zero_le _, by dsimp only; omega⟩
      · exact ⟨(fr + 5, 0, 79), by simp, e.symm, Nat.zero_le _, by dsimp only; omega⟩
      · exact ⟨(fr + 6, 0, 30), by simp, e.symm, Nat.zero_le _, by dsimp only; omega⟩
      · exact ⟨(fr + 7, 0, 30), by simp, e.symm, Nat.zero_le _, by dsimp only; omega⟩
    rw [this] at h
    cases h
/-- for one pair of rows and columns -/
theorem zybuild1 {l : Launch} {fr : Nat} (hfr : fr = 2 ∨ fr = 19) {r c : Nat} (h1 : 1 ≤ r) (h2 : r ≤ 4) (h3 : 1 ≤ c) (h4 : c ≤ 5) {en : zEn} {me : zMe} (hen : zG zxMeta 16 = some en) (hme : zG zMeth 16 = some me) :
    zyCon l zymc zyJc en me ([8 * fr + 3, 8 * r, 8 * c], [(fr, 0, 3), (fr + 1, 0, 79), (fr + 2, 0, 79), (fr + 3, 0, 79), (fr + 4, 0, 79), (fr + 5, 0, 79), (fr + 6, 0, 30), (fr + 7, 0, 30)], [], 3, [], []) := by
  have een : zG zxMeta 16 = some (zxi16, 3, 5, 1, 16, 0, 0, 0, 0) := rfl
  obtain ⟨me1, hme1, hOK⟩ := zall hen
  rw [hme] at hme1
  cases hme1
  rw [een] at hen
  cases hen
  have hrun := zyrunb_all hfr h1 h2 h3 h4
  unfold zyrunb at hrun
  rw [zfr_eq] at hrun
  obtain ⟨q1, q2⟩ := zand_iff hrun
  obtain ⟨q2, q3⟩ := zand_iff q2
  have hn : 4 * (r * c) ≤ 80 := by
    have : r * c ≤ 4 * 5 := Nat.mul_le_mul h2 h4
    omega
  refine zyrunT (P := zyPb fr (4 * (r * c))) (J := zyJc) (bt := zybtb fr (4 * (r * c))) (κ0 := zyκb fr r c) (n := 200000) hOK (fun _ => rfl) rfl (fun a k h => zyfpb_out hn h) rfl q1 q3 q2 ?_
  intro B s ρ2 N2 ρ0 N0 w v m H vo hbt hE hM hvo hI
  obtain ⟨b1, b2⟩ := zand_iff hbt
  obtain ⟨b2, b3⟩ := zand_iff b2
  have hv : v = [] := by
    cases v with
    | nil => rfl
    | cons a t => cases b2
  subst hv
  have hB := hM.base (w := w) hE b1
  refine ⟨?_, ⟨hB.1, hB.2.1, ?_, hB.2.2.2⟩, fun p hp => by cases hp⟩
  · cases vo with
    | none => trivial
    | some x => exact hvo
  · intro f g hfg i hi z y hz hy hp
    have hz : zyEl zymc B H f i = some (.int z) := hz
    have hy : zyEl zymc B H g i = some (.int y) := hy
    have hfrs : (f = fr + 2 ∧ g = fr + 3) ∨ (∀ k, zyin (zyfpb fr (4 * (r * c))) f k = false ∧ zyin (zyfpb fr (4 * (r * c))) g k = false) := by
      have out : ∀ a k, a < fr ∨ fr + 7 < a → zyin (zyfpb fr (4 * (r * c))) a k = false := by
        intro a k ha
        cases hq : zyin (zyfpb fr (4 * (r * c))) a k with
        | false => rfl
        | true =>
          have := zyfpb_in hq
          omega
      rcases hfr with rfl | rfl <;> rcases hfg with ⟨e1, e2⟩ | ⟨e1, e2⟩
      · exact Or.inl ⟨e1, e2⟩
      · exact Or.inr (fun k => ⟨out _ _ (by omega), out _ _ (by omega)⟩)
      · exact Or.inr (fun k => ⟨out _ _ (by omega), out _ _ (by omega)⟩)
      · exact Or.inl ⟨e1, e2⟩
    have hold : zyin (zyfpb fr (4 * (r * c))) f i = false → zyin (zyfpb fr (4 * (r * c))) g i = false → 2147483648 ≤ zB z := by
      intro o1 o2
      have e1 : zyEl zymc B H f i = zyEl zymc B s.heap f i := hM.2.2.1 f i o1
      have e2 : zyEl zymc B H g i = zyEl zymc B s.heap g i := hM.2.2.1 g i o2
      exact hI.2.2.1 f g hfg i hi z y (e1.symm.trans hz) (e2.symm.trans hy) hp
    rcases hfrs with ⟨ef, eg⟩ | hout
    · by_cases hin : i < 4 * (r * c)
      · obtain ⟨vf, vg, k1, k2, k3, k4, k5⟩ := zyjck_iff b3 i hin
        have k1 : zyl m.1 (f * 16384 + i) = some vf := by rw [ef]; exact k1
        have k2 : zyl m.1 (g * 16384 + i) = some vg := by rw [eg]; exact k2
        have hcf : ∀ a, (a = f ∨ a = g) → ∃ cc, zG zymc a = some cc ∧ i < zyLen cc := by
          intro a ha
          have hz' : ∀ a, (∃ x, zyEl zymc B H a i = some x) → ∃ cc, zG zymc a = some cc ∧ i < zyLen cc := by
            intro a ⟨x, hx⟩
            unfold zyEl at hx
            cases hg : zG zymc a with
            | none => rw [hg] at hx; cases hx
            | some cc =>
              rw [hg] at hx
              dsimp only at hx
              by_cases hl : i < zyLen cc
              · exact ⟨cc, rfl, hl⟩
              · rw [if_neg hl] at hx
                cases hx
          rcases ha with e | e
          · rw [e]; exact hz' f ⟨_, hz⟩
          · rw [e]; exact hz' g ⟨_, hy⟩
        obtain ⟨cf, g1, g2⟩ := hcf f (Or.inl rfl)
        obtain ⟨cg, g3, g4⟩ := hcf g (Or.inr rfl)
        obtain ⟨x1, x2, x3⟩ := hM.2.1 f cf i g1 g2
        obtain ⟨y1, y2, y3⟩ := hM.2.1 g cg i g3 g4
        have x2 : zyEl zymc B H f i = some x1 := x2
        have y2 : zyEl zymc B H g i = some y1 := y2
        rw [hz] at x2
        cases x2
        rw [hy] at y2
        cases y2
        unfold zyEt at x3 y3
        rw [k1] at x3
        rw [k2] at y3
        have ez := Value.int.inj (zyv_0 x3 k4)
        have ey := Value.int.inj (zyv_0 y3 k3)
        rw [ez, zB_of]
        rw [ey, zB_of] at hp
        exact k5 hp
      · have o : ∀ a, fr + 1 ≤ a → a ≤ fr + 5 → zyin (zyfpb fr (4 * (r * c))) a i = false := by
          intro a a1 a2
          cases hq : zyin (zyfpb fr (4 * (r * c))) a i with
          | false => rfl
          | true =>
            have hpos : 0 < 4 * (r * c) := Nat.mul_pos (by decide) (Nat.mul_pos h1 h3)
            have hh := zyfpb_in hq
            clear hq
            revert hh hin hpos
            generalize 4 * (r * c) = N1
            intro hh hin hpos
            omega
        exact hold (o f (by omega) (by omega)) (o g (by omega) (by omega))
    · exact hold (hout i).1 (hout i).2
theorem zybuild {l : Launch} {fr : Nat} (hfr : fr = 2 ∨ fr = 19) {en : zEn} {me : zMe} (hen : zG zxMeta 16 = some en) (hme : zG zMeth 16 = some me) :
    zyCon l zymc zyJc en me ([8 * fr + 3, 73786976346377814050, 73786976346377814058], [(fr, 0, 3), (fr + 1, 0, 79), (fr + 2, 0, 79), (fr + 3, 0, 79), (fr + 4, 0, 79), (fr + 5, 0, 79), (fr + 6, 0, 30), (fr + 7, 0, 30)], [], 3, [], []) := by
  intro B AsV hA
  obtain ⟨v0, t0, rfl, a1, hA1⟩ := zySt_c hA
  obtain ⟨v1, t1, rfl, a2, hA2⟩ := zySt_c hA1
  obtain ⟨v2, t2, rfl, a3, hA3⟩ := zySt_c hA2
  obtain ⟨x, rfl, x1, x2⟩ := zv_2 (zyv_zv a2 (by decide) (by decide)) (by decide)
  obtain ⟨y, rfl, y1, y2⟩ := zv_2 (zyv_zv a3 (by decide) (by decide)) (by decide)
  have x1 : 2147483649 ≤ zB x := x1
  have x2 : zB x ≤ 2147483652 := x2
  have y1 : 2147483649 ≤ zB y := y1
  have y2 : zB y ≤ 2147483653 := y2
  obtain ⟨-, p1, p2⟩ := zyp (x := x) (by omega)
  obtain ⟨-, p3, p4⟩ := zyp (x := y) (by omega)
  exact zybuild1 (r := x.toBitVec.toNat) (c := y.toBitVec.toNat) hfr (by omega) (by omega) (by omega) (by omega) hen hme B _ ⟨a1, zyv_mkx x, zyv_mkx y, hA3⟩
