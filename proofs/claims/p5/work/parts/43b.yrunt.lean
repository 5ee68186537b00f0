/-! A RUN WITHOUT CUTS, its end held against more than the base -/
def zyJ1 : zyJt := (fun _ => True, fun _ _ _ _ _ => False)
noncomputable def zystop0 : zyK := fun _ _ _ _ _ _ _ _ _ => false
theorem zyrunT {l : Launch} {P : zyP} {J : zyJt} {y0 : Nat} {en : zEn} {me : zMe} (hOK : zOK y0 en me) (hno : ∀ y, P.2.1 y = []) (hdj : P.2.2.2.1 = []) {ct : zyCt} (hfp : ∀ a k, zyin ct.2.1 a k = false → zyin P.2.2.1 a k = false) {bt : zW → List Nat → zyM → Bool} {κ0 : zyKt} {n : Nat} (hpc0 : κ0.1 = 0) (hwf : zywf en.2.2.1 κ0 = true)
    (hrun : zyok bt P zystop0 n (κ0.2.1, κ0.2.2.2.1) en.1 en.2.2.2.2 0 κ0.2.2.1 [] (ct.2.2.2.1, 0, 0) [] (κ0.2.2.2.2.1, []) = true) (hentry : zpad en.2.2.1 (zexp ct.1) (fun l2 => zyincl P en.2.2.1 (0, []) l2 ct.2.2.2.2.1 κ0) = true)
    (hbt : ∀ (B : zCx) (s : State) (ρ2 : Nat → Int32) (N2 : Nat) (ρ0 : Nat → Int32) (N0 : Nat) (w : zW) (v : List Nat) (m : zyM) (H : Heap) (vo : Option Value), bt w v m = true → zEnv ρ2 w.2 → zyMem P (B, ρ2, N2, ρ0, N0, (zyEl P.1 B s.heap, fun q => s.heap[q]?), zyJ1) s m.1 H → zyvo (B, ρ2, N2, ρ0, N0, (zyEl P.1 B s.heap, fun q => s.heap[q]?), zyJ1) v vo → zyMI P.1 B J s s.heap → zyvo (zyX0 B J) ct.2.2.1 vo ∧ zyMI P.1 B J s H ∧ zyPk P.1 B ct.2.2.2.2.2 H) : zyCon l P.1 J en me ct := by
  intro B AsV hA
  have hOK' := hOK
  obtain ⟨hrow, hnum, hrk, hcn, hcls, hml40, hpl, g, hin, hg1, hgw⟩ := hOK
  refine zMet_ofW hpl ?_
  intro p e s mt args below meth c s₁ Bd hml hv
  obtain ⟨rfl, hK, hI, hPk⟩ := hv
  have hown : s.vm.findClass me.2.2.2 = some mt.cls := by rw [← hcls]; exact findClass_of_methodNamed Bd.named
  obtain ⟨l2, hl2, hle, hl3, hinc⟩ := zpad_iff hentry
  have hlen := zyexp_len hA
  have hent := lv_entry AsV (n := en.2.2.1) (by rw [hlen]; exact hle)
  rw [lg_entry_eq]
  generalize (lg_sl AsV ++ List.replicate (en.2.2.1 - (lg_sl AsV).length) Slot.unset).toArray = lsA at hent ⊢
  have hlocks := Bd.notSynchronized
  have hA2 : zySt (B, fun _ => 0, 0, fun _ => 0, 0, (zyEl P.1 B s.heap, fun q => s.heap[q]?), zyJ1) ct.1 AsV := zySt_map (X := zyX0 B J) (X2 := (B, fun _ => 0, 0, fun _ => 0, 0, (zyEl P.1 B s.heap, fun q => s.heap[q]?), zyJ1)) (fun v w h => h) hA
  have hR0 : zyRl P (B, fun _ => 0, 0, fun _ => 0, 0, (zyEl P.1 B s.heap, fun q => s.heap[q]?), zyJ1) s en.2.2.1 (ct.2.2.2.1, en.2.2.2.2.2.1, en.2.2.2.2.2.2.1) (0, []) l2 [] (ct.2.2.2.1, 0, 0) (ct.2.2.2.2.1, []) s.heap [] lsA [] := by
    refine ⟨⟨fun k p hp => by simp at hp, rfl, ⟨Nat.le_refl _, fun _ _ => rfl⟩, fun f hf => by cases hf⟩, ⟨hI.1, fun a c k hg hk => ?_, fun a k _ => rfl, trivial, hI.2.2.2, fun q _ => rfl⟩, (fun x hx => by cases hx), ⟨hl2, hent.1, hent.2.1, fun i cc hc hn => ?_⟩, trivial, rfl, Nat.zero_le _, Nat.zero_le _⟩
    · obtain ⟨x, h1, h2⟩ := hI.2.1 a c k hg hk
      refine ⟨x, h1, ?_⟩
      have hl : zyLen c ≤ 16384 := by
        unfold zyLen
        rcases (hI.1 a c hg).2 with ⟨q1, -⟩ | ⟨ty, cA, f, q1, -, -, q4⟩
        · rw [if_pos q1]
          have := zyn64 c.1 q1
          omega
        · rw [if_neg (by have := zty_kd q1; omega)]
          exact q4
      unfold zyEt
      dsimp only
      cases hq : zyl ct.2.2.2.2.1 (a * 16384 + k) with
      | none => exact h2
      | some v =>
        obtain ⟨j, hj⟩ := zyl_ix hq
        obtain ⟨c2, x2, q1, q2, q3, q4, q5⟩ := hPk _ (List.mem_of_getElem? hj)
        dsimp only at q1 q2 q3 q4 q5
        rw [show (a * 16384 + k) / 16384 = a by omega, show (a * 16384 + k) % 16384 = k by omega, h1] at q3
        cases q3
        exact q5
    · rcases hl3 i cc hc with h1 | h1
      · obtain ⟨v, h2, h3⟩ := zyexp_args (o := 0) hA2 i cc h1 hn
        rw [Nat.zero_add] at h2
        exact ⟨v, hent.2.2 _ h2, h3⟩
      · exact absurd h1 hn
  have hRk := zycutR hR0 hinc hwf
  refine zymain (l := l) (bt := bt) (stop := zystop0) (fun _ _ _ _ _ _ _ _ _ _ => rfl) n _ y0 en me ?_ hOK' (κ0.2.1, κ0.2.2.2.1) 0 κ0.2.2.1 [] (ct.2.2.2.1, 0, 0) [] (κ0.2.2.2.2.1, []) hrun p e { frames := ct.2.2.2.1, cells := en.2.2.2.2.2.1, slots := en.2.2.2.2.2.2.1, locals := 64 * ct.2.2.2.1 } s mt AsV.toArray below meth c _ s.heap [] lsA [] ⟨Bd.exec, Bd.bytes, hml, hown, ⟨hK, ?_⟩, Nat.le_refl _, Nat.le_refl _, Nat.le_refl _, Nat.le_refl _⟩ hRk ?_ ?_
  · intro y2 ct2 en2 me2 hct
    rw [hno y2] at hct
    cases hct
  · refine ⟨fun E E2 _ _ => trivial, fun E _ p0 hp0 => ?_, fun _ _ _ _ _ _ _ h => h, fun _ _ _ _ _ _ h => h.elim⟩
    rw [hdj] at hp0
    cases hp0
  · intro n' ρ2 w2 v m2 H2 locs2 lsB pc vo cells slots hn' hbk hX hM2 hlo hc hs hvo hri
    have hbk : bt w2 v m2 = true := hbk
    obtain ⟨r1, r2, r3⟩ := hbt B s ρ2 w2.1 _ _ w2 v m2 H2 vo hbk hX.1 hM2 hvo hI
    have hq : ∀ t : State, t.heap = H2 → s.WarmedH t.vm → zyQk P.1 B J ct AsV.toArray s (.returned vo) t := by
      intro t ht hW
      refine ⟨vo, rfl, zyvr_of r1, hK.warm hW, by rw [ht]; exact r2.moved hW.alike, by rw [ht]; exact r3, fun a k hf => ?_, fun q hq => by rw [ht]; exact hM2.2.2.2.2.2 q hq⟩
      rw [ht]
      exact hM2.2.2.1 a k (hfp a k hf)
    refine W.widen hc hs ?_
    rcases hri with ⟨hd, x, ty, rfl, hty, hnar⟩ | ⟨hd, x, rfl, hty⟩ | ⟨hd, rfl, hty⟩
    · exact W.zret Bd.exec Bd.bytes (by rw [Bd.returns]; exact hty) hnar hq hlo hd hlocks
    · exact W.lret Bd.exec Bd.bytes (by rw [Bd.returns]; exact hty) hq hlo hd hlocks
    · exact W.vret Bd.exec Bd.bytes (by rw [Bd.returns]; exact hty) hq hlo hd hlocks
  · intro ρ2 N2 w2 pc ls st q m2 H2 locs2 lsB stA hs
    cases hs
