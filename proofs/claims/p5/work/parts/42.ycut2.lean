/-! CUTS: measures, and the contract -/
def zymv (ρ : Nat → Int32) (c : Nat × Nat) : Nat := if c.1 = 0 then c.2 % 18446744073709551616 else if c.1 = 1 then 4294967295 - zB (ρ c.2) else zB (ρ c.2)
def zymu (ρ : Nat → Int32) : List (Nat × Nat) → Nat
  | [] => 0
  | c :: t => zymv ρ c * 18446744073709551616 ^ t.length + zymu ρ t
theorem zymv_lt (ρ : Nat → Int32) (c : Nat × Nat) : zymv ρ c < 18446744073709551616 := by
  unfold zymv
  have := zB_lt (ρ c.2)
  split
  · exact Nat.mod_lt _ (by decide)
  · split <;> omega
theorem zymu_lt (ρ : Nat → Int32) : ∀ l : List (Nat × Nat), zymu ρ l < 18446744073709551616 ^ l.length := by
  intro l
  induction l with
  | nil => exact Nat.one_pos
  | cons c t ih =>
    show zymv ρ c * 18446744073709551616 ^ t.length + zymu ρ t < 18446744073709551616 ^ (t.length + 1)
    have h1 := zymv_lt ρ c
    have h2 : (zymv ρ c + 1) * 18446744073709551616 ^ t.length ≤ 18446744073709551616 * 18446744073709551616 ^ t.length := Nat.mul_le_mul_right _ (by omega)
    rw [Nat.pow_succ, Nat.mul_comm (18446744073709551616 ^ t.length)]
    rw [Nat.add_mul, Nat.one_mul] at h2
    omega
theorem zymu_lex {ρ ρ2 : Nat → Int32} {n o : Nat × Nat} {tn to : List (Nat × Nat)} (hl : tn.length = to.length) (h : zymv ρ2 n < zymv ρ o ∨ (zymv ρ2 n = zymv ρ o ∧ zymu ρ2 tn < zymu ρ to)) : zymu ρ2 (n :: tn) < zymu ρ (o :: to) := by
  show zymv ρ2 n * 18446744073709551616 ^ tn.length + zymu ρ2 tn < zymv ρ o * 18446744073709551616 ^ to.length + zymu ρ to
  have h1 := zymu_lt ρ2 tn
  rw [hl] at h1 ⊢
  rcases h with h | ⟨h, h2⟩
  · have h2 : (zymv ρ2 n + 1) * 18446744073709551616 ^ to.length ≤ zymv ρ o * 18446744073709551616 ^ to.length := Nat.mul_le_mul_right _ (by omega)
    rw [Nat.add_mul, Nat.one_mul] at h2
    omega
  · rw [h]
    omega
theorem zylex_iff {w : zW} {No nL : Nat} {ls : List Nat} {kc m : List (Nat × Nat)} {ρ0 ρ1 ρ2 : Nat → Int32} {N2 : Nat} {ad : Nat → Nat} (hE : zEnv ρ2 w.2) (hag : ∀ k, k < No → ρ2 k = ρ0 k)
    (hloc : ∀ (an : Nat) (f : Nat → Bool), zyloc nL ls kc m an f = true → (∀ v, f v = true → v % 8 = 1) → ∃ v, f v = true ∧ zyv ρ2 N2 ad v (.int (ρ1 an))) : ∀ {new old : List (Nat × Nat)}, zylex w No nL ls kc m new old = true → new.length = old.length → zymu ρ1 new < zymu ρ0 old := by
  intro new
  induction new with
  | nil => intro old h; cases h
  | cons n tn ih =>
    intro old h hl
    cases old with
    | nil => cases h
    | cons o to =>
      rw [List.length_cons, List.length_cons] at hl
      have hl : tn.length = to.length := by omega
      have h : zif (zand (Nat.beq n.1 0) (Nat.beq o.1 0)) (zif (zand (Nat.ble (n.2 + 1) o.2) (Nat.ble o.2 4294967295)) true (zif (Nat.beq n.2 o.2) (zylex w No nL ls kc m tn to) false))
        (zif (zand (Nat.beq n.1 o.1) (zand (zif (Nat.beq n.1 1) true (Nat.beq n.1 2)) (Nat.ble (o.2 + 1) No))) (zyloc nL ls kc m n.2 (fun v => zif (Nat.beq v (zysym o.2)) (zylex w No nL ls kc m tn to)
          (zand (Nat.beq (v % 8) 1) (zand (Nat.beq (v / 34359738368) o.2) (znth (fun p => zif (Nat.beq n.1 1)
            (zand (Nat.ble 1 (v / 8 % 4294967296)) (zand (Nat.ble (v / 8 % 4294967296) 2147483647) (Nat.ble (p.2 + v / 8 % 4294967296) 4294967295)))
            (zand (Nat.ble 2147483648 (v / 8 % 4294967296)) (Nat.ble 4294967296 (p.1 + v / 8 % 4294967296)))) w.2 o.2))))) false) = true := h
      rcases zif_iff h with ⟨h1, h2⟩ | ⟨-, h2⟩
      · obtain ⟨e1, e2⟩ := zand_iff h1
        have e1 := zbeqT e1
        have e2 := zbeqT e2
        have v1 : zymv ρ1 n = n.2 % 18446744073709551616 := if_pos e1
        have v2 : zymv ρ0 o = o.2 % 18446744073709551616 := if_pos e2
        rcases zif_iff h2 with ⟨h3, -⟩ | ⟨-, h3⟩
        · obtain ⟨g1, g2⟩ := zand_iff h3
          have g1 := zbleT g1
          have g2 := zbleT g2
          exact zymu_lex hl (Or.inl (by rw [v1, v2]; omega))
        rcases zif_iff h3 with ⟨h4, h5⟩ | ⟨-, h5⟩
        · have g1 := zbeqT h4
          exact zymu_lex hl (Or.inr ⟨by rw [v1, v2, g1], ih h5 hl⟩)
        · cases h5
      rcases zif_iff h2 with ⟨h3, h4⟩ | ⟨-, h4⟩
      · obtain ⟨e1, e2⟩ := zand_iff h3
        obtain ⟨e2, e3⟩ := zand_iff e2
        have e1 := zbeqT e1
        have e3 := zbleT e3
        have e2 : n.1 = 1 ∨ n.1 = 2 := by
          rcases zif_iff e2 with ⟨q, -⟩ | ⟨-, q⟩
          · exact Or.inl (zbeqT q)
          · exact Or.inr (zbeqT q)
        obtain ⟨v, hv, hz⟩ := hloc n.2 _ h4 (fun v hv => by
          rcases zif_iff hv with ⟨q, -⟩ | ⟨-, q⟩
          · have := zbeqT q
            rw [zysym_def] at this
            omega
          · exact zbeqT (zand_iff q).1)
        rcases zif_iff hv with ⟨q1, q2⟩ | ⟨-, q2⟩
        · have q1 := zbeqT q1
          have hz1 := Value.int.inj (zv_1 (zyv_zv hz (by rw [q1, zysym_def]; omega) (by rw [q1, zysym_def]; omega)) (by rw [q1, zysym_def]; omega))
          have e5 : v / 34359738368 = o.2 := by rw [q1, zysym_def]; omega
          have e6 : v / 8 % 4294967296 = 0 := by rw [q1, zysym_def]; omega
          rw [e5, e6, hag _ (by omega)] at hz1
          have hz2 : ρ1 n.2 = ρ0 o.2 := by
            rw [hz1]
            show ρ0 o.2 + 0 = _
            rw [Int32.add_zero]
          refine zymu_lex hl (Or.inr ⟨?_, ih q2 hl⟩)
          unfold zymv
          rw [hz2, e1]
          by_cases e9 : o.1 = 0
          · omega
          · rw [if_neg e9, if_neg e9]
        · obtain ⟨g1, g2⟩ := zand_iff q2
          obtain ⟨g2, g3⟩ := zand_iff g2
          have g1 := zbeqT g1
          have g2 := zbeqT g2
          obtain ⟨pp, hp, g3⟩ := znth_iff g3
          have hz1 := Value.int.inj (zv_1 (zyv_zv hz (by omega) (by omega)) g1)
          rw [g2] at hz1
          have hag2 := hag o.2 (by omega)
          obtain ⟨b1, b2⟩ := hE _ _ hp
          have hb := zb_def (v / 8 % 4294967296)
          refine zymu_lex hl (Or.inl ?_)
          rcases zif_iff g3 with ⟨q3, q4⟩ | ⟨q3, q4⟩
          · have q3 := zbeqT q3
            obtain ⟨k1, k2⟩ := zand_iff q4
            obtain ⟨k3, k2⟩ := zand_iff k2
            have k1 := zbleT k1
            have k3 := zbleT k3
            have k2 := zbleT k2
            have hz3 := zB_add (ρ2 o.2) (v / 8 % 4294967296) (by omega) (by omega)
            rw [← hz1, hag2] at hz3
            rw [hag2] at b2
            have v1 : zymv ρ1 n = 4294967295 - zB (ρ1 n.2) := by unfold zymv; rw [if_neg (by omega), if_pos q3]
            have v2 : zymv ρ0 o = 4294967295 - zB (ρ0 o.2) := by unfold zymv; rw [if_neg (by omega), if_pos (by omega)]
            rw [v1, v2]
            omega
          · have q3 := zbeqF q3
            obtain ⟨k1, k2⟩ := zand_iff q4
            have k1 := zbleT k1
            have k2 := zbleT k2
            have hz3 := zB_add (ρ2 o.2) (v / 8 % 4294967296) (by omega) (by have := zB_lt (ρ2 o.2); omega)
            rw [← hz1, hag2] at hz3
            rw [hag2] at b1
            have v1 : zymv ρ1 n = zB (ρ1 n.2) := by unfold zymv; rw [if_neg (by omega), if_neg q3]
            have v2 : zymv ρ0 o = zB (ρ0 o.2) := by unfold zymv; rw [if_neg (by omega), if_neg (by omega)]
            rw [v1, v2]
            have := zB_lt (ρ0 o.2)
            omega
      · cases h4
theorem zystop_iff {P : zyP} {nL : Nat} {K : List zyKt} {κ0 : zyKt} {w : zW} {cf : Nat → zT} {y : zY} {pc : Nat} {ls st : List Nat} {q : zQ} {m : zyM} (h : zystop P nL K κ0 w cf y pc ls st q [] m = true) : st = [] ∧ ∃ κ ∈ K, pc = κ.1 ∧ zyincl P nL w ls m.1 κ = true ∧ zylex w κ0.2.1 nL ls κ.2.2.2.2.1 m.1 κ.2.2.2.2.2 κ0.2.2.2.2.2 = true := by
  cases st with
  | cons a t => cases h
  | nil =>
    refine ⟨rfl, ?_⟩
    have key : ∀ (K2 : List zyKt), List.rec (motive := fun _ => Bool) false (fun κ _ ih => zif (Nat.beq pc κ.1) (zif (zand (zyincl P nL w ls m.1 κ) (zylex w κ0.2.1 nL ls κ.2.2.2.2.1 m.1 κ.2.2.2.2.2 κ0.2.2.2.2.2)) true ih) ih) K2 = true → ∃ κ ∈ K2, pc = κ.1 ∧ zyincl P nL w ls m.1 κ = true ∧ zylex w κ0.2.1 nL ls κ.2.2.2.2.1 m.1 κ.2.2.2.2.2 κ0.2.2.2.2.2 = true := by
      intro K2
      induction K2 with
      | nil => intro h; cases h
      | cons κ t ih =>
        intro h
        rcases zif_iff (c := Nat.beq pc κ.1) h with ⟨h1, h2⟩ | ⟨-, h2⟩
        · rcases zif_iff h2 with ⟨h3, -⟩ | ⟨-, h3⟩
          · obtain ⟨g1, g2⟩ := zand_iff h3
            exact ⟨κ, List.mem_cons_self, zbeqT h1, g1, g2⟩
          · obtain ⟨κ2, q1, q2⟩ := ih h3
            exact ⟨κ2, List.mem_cons_of_mem _ q1, q2⟩
        · obtain ⟨κ2, q1, q2⟩ := ih h2
          exact ⟨κ2, List.mem_cons_of_mem _ q1, q2⟩
    exact key K h
theorem zySt_map {X X2 : zyX} (h : ∀ v w, zyV X v w → zyV X2 v w) : ∀ {s : List Nat} {q : List Value}, zySt X s q → zySt X2 s q := by
  intro s
  induction s with
  | nil => intro q h1; rw [zySt_n h1]; trivial
  | cons a s ih =>
    intro q h1
    obtain ⟨b, t, rfl, h2, h3⟩ := zySt_c h1
    exact ⟨h _ _ h2, ih h3⟩
/-- where a measure looks -/
theorem zyloc_iff {P : zyP} {X : zyX} {s : State} {nL : Nat} {d : Nat × Nat × Nat} {w : zW} {ls : List Nat} {q : zQ} {m : zyM} {H : Heap} {locs : List Loc} {lsA : Array Slot} {κ : zyKt} (hR : zyRl P X s nL d w ls [] q m H locs lsA []) (hi : zyincl P nL w ls m.1 κ = true) (an : Nat) (f : Nat → Bool) (h : zyloc nL ls κ.2.2.2.2.1 m.1 an f = true) (hf : ∀ v, f v = true → v % 8 = 1) : ∃ v, f v = true ∧ zyV X v (.int (zyrho P.1 (zyb X) H nL lsA κ.2.2.2.2.1 an)) := by
  obtain ⟨-, h2⟩ := zand_iff hi
  obtain ⟨h2, -⟩ := zand_iff h2
  unfold zyloc at h
  rcases zif_iff h with ⟨h1, h⟩ | ⟨h1, h⟩
  · have h1 : an + 1 ≤ nL := zbleT h1
    obtain ⟨v, q1, q2⟩ := znth_iff h
    have hk := hf v q2
    obtain ⟨x, g1, g2⟩ := hR.2.2.2.1.2.2.2 an v q1 (by omega)
    obtain ⟨n, rfl⟩ := zyv_int g2 (by omega)
    exact ⟨v, q2, by rw [zyrho_l (by omega) g1]; exact g2⟩
  · have h1 : ¬ an + 1 ≤ nL := zbleF h1
    obtain ⟨p, q1, q2⟩ := znth_iff h
    have q1 : κ.2.2.2.2.1[an - nL]? = some p := q1
    rw [zylk_eq] at q2
    cases hq : zyl m.1 p.1 with
    | none => rw [hq] at q2; cases q2
    | some v =>
      rw [hq] at q2
      have hk := hf v q2
      obtain ⟨c, g1, g2, -⟩ := zyinC_iff h2 (an - nL) p q1
      obtain ⟨x, g3, g4⟩ := hR.2.1.2.1 _ c _ g1 g2
      unfold zyEt at g4
      have e1 : p.1 / 16384 * 16384 + p.1 % 16384 = p.1 := by omega
      rw [e1, hq] at g4
      obtain ⟨n, rfl⟩ := zyv_int g4 (by omega)
      have e2 := zyrho_c (nL := nL) (lsA := lsA) q1 g3
      rw [show nL + (an - nL) = an by omega] at e2
      exact ⟨v, q2, by rw [e2]; exact g4⟩
/-- a method's contract out of its cuts -/
theorem zycutT {l : Launch} {P : zyP} {J : zyJt} {y0 : Nat} {en : zEn} {me : zMe} (hOK : zOK y0 en me) (hCon : zyCons l P J) (hJd : zyJp P.2.2.2.1 J) {ct : zyCt} (hfp : P.2.2.1 = ct.2.1) (hc0 : en.2.2.2.2.2.1 = 0) (hs0 : en.2.2.2.2.2.2.1 = 0) {K : List zyKt} {κ0 : zyKt} {Lm n : Nat} (hκ0 : κ0 ∈ K) (hpc0 : κ0.1 = 0) (hwf : ∀ κ ∈ K, zywf en.2.2.1 κ = true ∧ κ.2.2.2.2.2.length = Lm)
    (hrun : ∀ κ ∈ K, zyok (zybt P ct) P (zystop P en.2.2.1 K κ) n (κ.2.1, κ.2.2.2.1) en.1 en.2.2.2.2 κ.1 κ.2.2.1 [] (ct.2.2.2.1, 0, 0) [] (κ.2.2.2.2.1, []) = true) (hentry : zpad en.2.2.1 (zexp ct.1) (fun l2 => zyincl P en.2.2.1 (0, []) l2 ct.2.2.2.2.1 κ0) = true) : zyCon l P.1 J en me ct := by
  intro B AsV hA
  have hOK' := hOK
  obtain ⟨hrow, hnum, hrk, hcn, hcls, hml40, hpl, g, hin, hg1, hgw⟩ := hOK
  refine zMet_ofW hpl ?_
  intro p e s mt args below meth c s₁ Bd hml hv
  obtain ⟨rfl, hK, hI, hPk⟩ := hv
  have hown : s.vm.findClass me.2.2.2 = some mt.cls := by rw [← hcls]; exact findClass_of_methodNamed Bd.named
  obtain ⟨l2, hl2, hle, hl3, hinc⟩ := zpad_iff hentry
  have hlen := zyexp_len hA
  have hent := lv_entry AsV (n := en.2.2.1) (by rw [hlen]; exact hle)
  rw [lg_entry_eq]
  generalize (lg_sl AsV ++ List.replicate (en.2.2.1 - (lg_sl AsV).length) Slot.unset).toArray = lsA at hent ⊢
  have hlocks := Bd.notSynchronized
  have claim : ∀ (M : Nat) (κ : zyKt) (H : Heap) (locs : List Loc) (lsA : Array Slot) (ρ : Nat → Int32), κ ∈ K → zyRl P (B, ρ, κ.2.1, ρ, κ.2.1, (zyEl P.1 B s.heap, fun q => s.heap[q]?), J) s en.2.2.1 (ct.2.2.2.1, en.2.2.2.2.2.1, en.2.2.2.2.2.2.1) (κ.2.1, κ.2.2.2.1) κ.2.2.1 [] (ct.2.2.2.1, 0, 0) (κ.2.2.2.2.1, []) H locs lsA [] → zymu ρ κ.2.2.2.2.2 = M →
      W p l e { frames := ct.2.2.2.1, cells := en.2.2.2.2.2.1, slots := en.2.2.2.2.2.2.1, locals := 64 * ct.2.2.2.1 } s mt AsV.toArray below meth c H locs 0 0 (MQ below (zyQk P.1 B J ct) AsV.toArray s en.2.2.2.2.2.1 en.2.2.2.2.2.2.1 (fun q => zbs B ≤ q)) (F0 mt κ.1 lsA []) := by
    intro M
    induction M using Nat.strongRecOn with
    | ind M IH =>
      intro κ H locs lsA ρ hκ hR hM
      refine zymain (l := l) (bt := zybt P ct) (stop := zystop P en.2.2.1 K κ) (fun _ _ _ _ _ _ _ _ _ _ => rfl) n (B, ρ, κ.2.1, ρ, κ.2.1, (zyEl P.1 B s.heap, fun q => s.heap[q]?), J) y0 en me hCon hOK' (κ.2.1, κ.2.2.2.1) κ.1 κ.2.2.1 [] (ct.2.2.2.1, 0, 0) [] (κ.2.2.2.2.1, []) (hrun κ hκ) p e { frames := ct.2.2.2.1, cells := en.2.2.2.2.2.1, slots := en.2.2.2.2.2.2.1, locals := 64 * ct.2.2.2.1 } s mt AsV.toArray below meth c _ H locs lsA [] ⟨Bd.exec, Bd.bytes, hml, hown, ⟨hK, hJd⟩, Nat.le_refl _, Nat.le_refl _, Nat.le_refl _, Nat.le_refl _⟩ hR ?_ ?_
      · intro n' ρ2 w2 v m2 H2 locs2 lsB pc vo cells slots hn' hbk hX hM2 hlo hc hs hvo hri
        have hbk : zand (zyfitM w2 P.1 m2.1) (zand (zysubL w2 v ct.2.2.1) (zypre w2 P.1 m2.1 ct.2.2.2.2.2)) = true := hbk
        obtain ⟨b1, b2⟩ := zand_iff hbk
        obtain ⟨b2, b3⟩ := zand_iff b2
        have hq : ∀ t : State, t.heap = H2 → s.WarmedH t.vm → zyQk P.1 B J ct AsV.toArray s (.returned vo) t := by
          intro t ht hW
          refine ⟨vo, rfl, ?_, hK.warm hW, ?_, by rw [ht]; exact zypre_iff hM2 hX.1 b3, fun a k hf => ?_, fun q hq => by rw [ht]; exact hM2.2.2.2.2.2 q hq⟩
          · refine zyvr_of ?_
            match v, vo, hvo with
            | [], none, _ =>
              match hr : ct.2.2.1, b2 with
              | [], _ => trivial
              | cd :: tt, b2 => cases b2
            | [a], some x, hz =>
              match hr : ct.2.2.1, b2 with
              | [], b2 => cases b2
              | [cd], b2 =>
                have b2 : zand (zysub w2 a cd) true = true := b2
                exact (zysub_iff (zand_iff b2).1 hX.1 hz).2
              | cd :: cd2 :: tt, b2 =>
                have b2 : zand (zysub w2 a cd) false = true := b2
                cases (zand_iff b2).2
          · rw [ht]
            exact (hM2.base (w := w2) hX.1 b1).moved hW.alike
          · rw [ht]
            exact hM2.2.2.1 a k (by rw [hfp]; exact hf)
        refine W.widen hc hs ?_
        rcases hri with ⟨hd, x, ty, rfl, hty, hnar⟩ | ⟨hd, x, rfl, hty⟩ | ⟨hd, rfl, hty⟩
        · exact W.zret Bd.exec Bd.bytes (by rw [Bd.returns]; exact hty) hnar hq hlo hd hlocks
        · exact W.lret Bd.exec Bd.bytes (by rw [Bd.returns]; exact hty) hq hlo hd hlocks
        · exact W.vret Bd.exec Bd.bytes (by rw [Bd.returns]; exact hty) hq hlo hd hlocks
      · intro ρ2 N2 w2 pc ls st q m2 H2 locs2 lsB stA hs hR2
        obtain ⟨est, κ2, hκ2, hpc, hi2, hlx⟩ := zystop_iff hs
        subst est
        have eA := zySt_n hR2.2.2.2.2.1
        subst eA
        have hq1 : q.1 = ct.2.2.2.1 := hR2.2.2.2.2.2.1
        have hq2 : q.2.1 ≤ en.2.2.2.2.2.1 := hR2.2.2.2.2.2.2.1
        have hq3 : q.2.2 ≤ en.2.2.2.2.2.2.1 := hR2.2.2.2.2.2.2.2
        obtain ⟨q1, q2, q3⟩ := q
        dsimp only at hq1 hq2 hq3
        have eq2 : q2 = 0 := by omega
        have eq3 : q3 = 0 := by omega
        subst hq1
        subst eq2
        subst eq3
        rw [hpc]
        have hRk := zycutR hR2 hi2 (hwf κ2 hκ2).1
        refine IH _ ?_ κ2 H2 locs2 lsB _ hκ2 hRk rfl
        rw [← hM]
        refine zylex_iff hR2.1.1 (fun k hk => hR2.1.2.2.1.2 k hk) (fun an f h1 h2 => zyloc_iff hR2 hi2 an f h1 h2) hlx ?_
        rw [(hwf κ2 hκ2).2, (hwf κ hκ).2]
  have hA2 : zySt (B, fun _ => 0, 0, fun _ => 0, 0, (zyEl P.1 B s.heap, fun q => s.heap[q]?), J) ct.1 AsV := zySt_map (X := zyX0 B J) (X2 := (B, fun _ => 0, 0, fun _ => 0, 0, (zyEl P.1 B s.heap, fun q => s.heap[q]?), J)) (fun v w h => h) hA
  have hR0 : zyRl P (B, fun _ => 0, 0, fun _ => 0, 0, (zyEl P.1 B s.heap, fun q => s.heap[q]?), J) s en.2.2.1 (ct.2.2.2.1, en.2.2.2.2.2.1, en.2.2.2.2.2.2.1) (0, []) l2 [] (ct.2.2.2.1, 0, 0) (ct.2.2.2.2.1, []) s.heap [] lsA [] := by
    refine ⟨⟨fun k p hp => by simp at hp, rfl, ⟨Nat.le_refl _, fun _ _ => rfl⟩, fun f hf => by cases hf⟩, ⟨hI.1, fun a c k hg hk => ?_, fun a k _ => rfl, hI.2.2.1, hI.2.2.2, fun q _ => rfl⟩, (fun x hx => by cases hx), ⟨hl2, hent.1, hent.2.1, fun i cc hc hn => ?_⟩, trivial, rfl, Nat.zero_le _, Nat.zero_le _⟩
    · obtain ⟨x, h1, h2⟩ := hI.2.1 a c k hg hk
      refine ⟨x, h1, ?_⟩
      have hl : zyLen c ≤ 16384 := by
        unfold zyLen
        rcases (hI.1 a c hg).2 with ⟨q1, -⟩ | ⟨ty, cA, f, q1, -, -, q4⟩
        · rw [if_pos q1]
          have := zyn64 c.1 q1
          omega
        · rw [if_neg (by have := zty_kd q1; omega)]
          exact q4
      unfold zyEt
      dsimp only
      cases hq : zyl ct.2.2.2.2.1 (a * 16384 + k) with
      | none => exact h2
      | some v =>
        obtain ⟨j, hj⟩ := zyl_ix hq
        obtain ⟨c2, x2, q1, q2, q3, q4, q5⟩ := hPk _ (List.mem_of_getElem? hj)
        dsimp only at q1 q2 q3 q4 q5
        rw [show (a * 16384 + k) / 16384 = a by omega, show (a * 16384 + k) % 16384 = k by omega, h1] at q3
        cases q3
        exact q5
    · rcases hl3 i cc hc with h1 | h1
      · obtain ⟨v, h2, h3⟩ := zyexp_args (o := 0) hA2 i cc h1 hn
        rw [Nat.zero_add] at h2
        exact ⟨v, hent.2.2 _ h2, h3⟩
      · exact absurd h1 hn
  have hRk := zycutR hR0 hinc (hwf κ0 hκ0).1
  have hfin := claim _ κ0 s.heap [] lsA _ hκ0 hRk rfl
  rw [hpc0] at hfin
  exact hfin
