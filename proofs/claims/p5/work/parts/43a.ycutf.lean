/-! CUTS with an invariant and a measure of one's own: for methods of which more is to be said than bounds -/
theorem zycutG {l : Launch} {P : zyP} {J : zyJt} {y0 : Nat} {en : zEn} {me : zMe} (hOK : zOK y0 en me) (hCon : zyCons l P J) (hJd : zyJp P.2.2.2.1 J) {dep : Nat} (hc0 : en.2.2.2.2.2.1 = 0) (hs0 : en.2.2.2.2.2.2.1 = 0) {K : List zyKt} {κ0 : zyKt} {n : Nat} (hκ0 : κ0 ∈ K) (hpc0 : κ0.1 = 0) (hwf : ∀ κ ∈ K, zywf en.2.2.1 κ = true)
    {bt : zyKt → zW → List Nat → zyM → Bool} {stp : zyKt → zyK} (hst : ∀ κ w cf y pc ls st q f fs m, stp κ w cf y pc ls st q (f :: fs) m = false)
    (hrun : ∀ κ ∈ K, zyok (bt κ) P (stp κ) n (κ.2.1, κ.2.2.2.1) en.1 en.2.2.2.2 κ.1 κ.2.2.1 [] (dep, 0, 0) [] (κ.2.2.2.2.1, []) = true)
    {as : List Nat} {B : zCx} {AsV : List Value} {pre : List (Nat × Nat)} (hA : zySt (zyX0 B J) as AsV) (hentry : zpad en.2.2.1 (zexp as) (fun l2 => zyincl P en.2.2.1 (0, []) l2 pre κ0) = true)
    {Qc : Array Value → State → Outcome → State → Prop} (Inv : zyKt → State → (Nat → Int32) → Heap → Prop) (Mu : zyKt → State → (Nat → Int32) → Heap → Nat)
    (hinv0 : ∀ (s : State) (lsA : Array Slot), zKn B s → zyMI P.1 B J s s.heap → zyPk P.1 B pre s.heap → (∀ (i c : Nat) (v : Value), (zexp as)[i]? = some c → ¬ c = 13 → zyV (zyX0 B J) c v → (i, v) ∈ lv_args 0 AsV → lsA[i]? = some (.val v)) → lv_has lsA en.2.2.1 (lv_args 0 AsV) → Inv κ0 s (zyrho P.1 B s.heap en.2.2.1 lsA κ0.2.2.2.2.1) s.heap)
    (hstop : ∀ κ ∈ K, ∀ (p : Program) (e : Env) (s : State) (mt : MethodId) (below : List Frame) (meth : Method) (c : Code) (ρ : Nat → Int32) (H : Heap), zyPk P.1 B pre s.heap → zyCf P (B, ρ, κ.2.1, ρ, κ.2.1, (zyEl P.1 B s.heap, fun q => s.heap[q]?), J) en me dep p { frames := dep, cells := en.2.2.2.2.2.1, slots := en.2.2.2.2.2.2.1, locals := 64 * dep } s mt c → zyMI P.1 B J s s.heap → Inv κ s ρ H →
      (∀ κ2 ∈ K, ∀ (H2 : Heap) (locs2 : List Loc) (lsB : Array Slot) (ρ' : Nat → Int32), Inv κ2 s ρ' H2 → zyRl P (B, ρ', κ2.2.1, ρ', κ2.2.1, (zyEl P.1 B s.heap, fun q => s.heap[q]?), J) s en.2.2.1 (dep, en.2.2.2.2.2.1, en.2.2.2.2.2.2.1) (κ2.2.1, κ2.2.2.2.1) κ2.2.2.1 [] (dep, 0, 0) (κ2.2.2.2.2.1, []) H2 locs2 lsB [] → Mu κ2 s ρ' H2 < Mu κ s ρ H → W p l e { frames := dep, cells := en.2.2.2.2.2.1, slots := en.2.2.2.2.2.2.1, locals := 64 * dep } s mt AsV.toArray below meth c H2 locs2 0 0 (MQ below Qc AsV.toArray s en.2.2.2.2.2.1 en.2.2.2.2.2.2.1 (fun q => zbs B ≤ q)) (F0 mt κ2.1 lsB [])) →
      ∀ (ρ2 : Nat → Int32) (N2 : Nat) (w : zW) (pc : Nat) (ls st : List Nat) (q : zQ) (m : zyM) (H2 : Heap) (locs2 : List Loc) (lsB : Array Slot) (stA : List Value), stp κ w en.1 en.2.2.2.2 pc ls st q [] m = true → (∀ k, k < κ.2.1 → ρ2 k = ρ k) → zyRl P (B, ρ2, N2, ρ, κ.2.1, (zyEl P.1 B s.heap, fun q => s.heap[q]?), J) s en.2.2.1 (dep, en.2.2.2.2.2.1, en.2.2.2.2.2.2.1) w ls st q m H2 locs2 lsB stA →
      W p l e { frames := dep, cells := en.2.2.2.2.2.1, slots := en.2.2.2.2.2.2.1, locals := 64 * dep } s mt AsV.toArray below meth c H2 locs2 q.2.1 q.2.2 (MQ below Qc AsV.toArray s en.2.2.2.2.2.1 en.2.2.2.2.2.2.1 (fun q => zbs B ≤ q)) (F0 mt pc lsB stA))
    (hret : ∀ κ ∈ K, ∀ (s : State) (ρ : Nat → Int32) (H : Heap), zyPk P.1 B pre s.heap → zKn B s → zyMI P.1 B J s s.heap → Inv κ s ρ H → ∀ (ρ2 : Nat → Int32) (w : zW) (v : List Nat) (m : zyM) (H2 : Heap) (vo : Option Value), bt κ w v m = true → (κ.2.1 ≤ w.1 ∧ ∀ k, k < κ.2.1 → ρ2 k = ρ k) → zEnv ρ2 w.2 → (∀ f ∈ m.2, zyFm (B, ρ2, w.1, ρ, κ.2.1, (zyEl P.1 B s.heap, fun q => s.heap[q]?), J) f) → zyMem P (B, ρ2, w.1, ρ, κ.2.1, (zyEl P.1 B s.heap, fun q => s.heap[q]?), J) s m.1 H2 → zyvo (B, ρ2, w.1, ρ, κ.2.1, (zyEl P.1 B s.heap, fun q => s.heap[q]?), J) v vo → ∀ t : State, t.heap = H2 → s.WarmedH t.vm → Qc AsV.toArray s (.returned vo) t) :
    Met l me.1 [Cond.code me.1 me.2.1 en.2.2.1 me.2.2.1] { frames := dep, cells := en.2.2.2.2.2.1, slots := en.2.2.2.2.2.2.1, locals := 64 * dep } (va_Pc AsV (fun U => zKn B U ∧ zyMI P.1 B J U U.heap ∧ zyPk P.1 B pre U.heap)) Qc en.2.2.2.2.2.1 en.2.2.2.2.2.2.1 (fun q => zbs B ≤ q) := by
  have hOK' := hOK
  obtain ⟨hrow, hnum, hrk, hcn, hcls, hml40, hpl, g, hin, hg1, hgw⟩ := hOK
  refine zMet_ofW hpl ?_
  intro p e s mt args below meth c s₁ Bd hml hv
  obtain ⟨rfl, hK, hI, hPre⟩ := hv
  have hown : s.vm.findClass me.2.2.2 = some mt.cls := by rw [← hcls]; exact findClass_of_methodNamed Bd.named
  obtain ⟨l2, hl2, hle, hl3, hinc⟩ := zpad_iff hentry
  have hlen := zyexp_len hA
  have hent := lv_entry AsV (n := en.2.2.1) (by rw [hlen]; exact hle)
  rw [lg_entry_eq]
  generalize (lg_sl AsV ++ List.replicate (en.2.2.1 - (lg_sl AsV).length) Slot.unset).toArray = lsA at hent ⊢
  have hlocks := Bd.notSynchronized
  have claim : ∀ (M : Nat) (κ : zyKt) (H : Heap) (locs : List Loc) (lsA : Array Slot) (ρ : Nat → Int32), κ ∈ K → Inv κ s ρ H → zyRl P (B, ρ, κ.2.1, ρ, κ.2.1, (zyEl P.1 B s.heap, fun q => s.heap[q]?), J) s en.2.2.1 (dep, en.2.2.2.2.2.1, en.2.2.2.2.2.2.1) (κ.2.1, κ.2.2.2.1) κ.2.2.1 [] (dep, 0, 0) (κ.2.2.2.2.1, []) H locs lsA [] → Mu κ s ρ H = M →
      W p l e { frames := dep, cells := en.2.2.2.2.2.1, slots := en.2.2.2.2.2.2.1, locals := 64 * dep } s mt AsV.toArray below meth c H locs 0 0 (MQ below Qc AsV.toArray s en.2.2.2.2.2.1 en.2.2.2.2.2.2.1 (fun q => zbs B ≤ q)) (F0 mt κ.1 lsA []) := by
    intro M
    induction M using Nat.strongRecOn with
    | ind M IH =>
      intro κ H locs lsA ρ hκ hInv hR hM
      refine zymain (l := l) (bt := bt κ) (stop := stp κ) (hst κ) n (B, ρ, κ.2.1, ρ, κ.2.1, (zyEl P.1 B s.heap, fun q => s.heap[q]?), J) y0 en me hCon hOK' (κ.2.1, κ.2.2.2.1) κ.1 κ.2.2.1 [] (dep, 0, 0) [] (κ.2.2.2.2.1, []) (hrun κ hκ) p e { frames := dep, cells := en.2.2.2.2.2.1, slots := en.2.2.2.2.2.2.1, locals := 64 * dep } s mt AsV.toArray below meth c _ H locs lsA [] ⟨Bd.exec, Bd.bytes, hml, hown, ⟨hK, hJd⟩, Nat.le_refl _, Nat.le_refl _, Nat.le_refl _, Nat.le_refl _⟩ hR ?_ ?_
      · intro n' ρ2 w2 v m2 H2 locs2 lsB pc vo cells slots hn' hbk hX hM2 hlo hc hs hvo hri
        have hbk : bt κ w2 v m2 = true := hbk
        have hq : ∀ t : State, t.heap = H2 → s.WarmedH t.vm → Qc AsV.toArray s (.returned vo) t := hret κ hκ s ρ H hPre hK hI hInv ρ2 w2 v m2 H2 vo hbk hX.2.1 hX.1 hX.2.2 hM2 hvo
        refine W.widen hc hs ?_
        rcases hri with ⟨hd, x, ty, rfl, hty, hnar⟩ | ⟨hd, x, rfl, hty⟩ | ⟨hd, rfl, hty⟩
        · exact W.zret Bd.exec Bd.bytes (by rw [Bd.returns]; exact hty) hnar hq hlo hd hlocks
        · exact W.lret Bd.exec Bd.bytes (by rw [Bd.returns]; exact hty) hq hlo hd hlocks
        · exact W.vret Bd.exec Bd.bytes (by rw [Bd.returns]; exact hty) hq hlo hd hlocks
      · intro ρ2 N2 w2 pc ls st q m2 H2 locs2 lsB stA hs hR2
        refine hstop κ hκ p e s mt below meth c ρ H hPre ⟨Bd.exec, Bd.bytes, hml, hown, ⟨hK, hJd⟩, Nat.le_refl _, Nat.le_refl _, Nat.le_refl _, Nat.le_refl _⟩ hI hInv (fun κ2 hκ2 H3 locs3 lsC ρ' hInv2 hRk hmu => ?_) ρ2 N2 w2 pc ls st q m2 H2 locs2 lsB stA hs hR2.1.2.2.1.2 hR2
        exact IH (Mu κ2 s ρ' H3) (by rw [← hM]; exact hmu) κ2 H3 locs3 lsC ρ' hκ2 hInv2 hRk rfl
  have hA2 : zySt (B, fun _ => 0, 0, fun _ => 0, 0, (zyEl P.1 B s.heap, fun q => s.heap[q]?), J) as AsV := zySt_map (X := zyX0 B J) (X2 := (B, fun _ => 0, 0, fun _ => 0, 0, (zyEl P.1 B s.heap, fun q => s.heap[q]?), J)) (fun v w h => h) hA
  have hR0 : zyRl P (B, fun _ => 0, 0, fun _ => 0, 0, (zyEl P.1 B s.heap, fun q => s.heap[q]?), J) s en.2.2.1 (dep, en.2.2.2.2.2.1, en.2.2.2.2.2.2.1) (0, []) l2 [] (dep, 0, 0) (pre, []) s.heap [] lsA [] := by
    refine ⟨⟨fun k p hp => by simp at hp, rfl, ⟨Nat.le_refl _, fun _ _ => rfl⟩, fun f hf => by cases hf⟩, ⟨hI.1, fun a c k hg hk => ?_, fun a k _ => rfl, hI.2.2.1, hI.2.2.2, fun q _ => rfl⟩, (fun x hx => by cases hx), ⟨hl2, hent.1, hent.2.1, fun i cc hc hn => ?_⟩, trivial, rfl, Nat.zero_le _, Nat.zero_le _⟩
    · obtain ⟨x, h1, h2⟩ := hI.2.1 a c k hg hk
      refine ⟨x, h1, ?_⟩
      have hl : zyLen c ≤ 16384 := by
        unfold zyLen
        rcases (hI.1 a c hg).2 with ⟨q1, -⟩ | ⟨ty, cA, f, q1, -, -, q4⟩
        · rw [if_pos q1]
          have := zyn64 c.1 q1
          omega
        · rw [if_neg (by have := zty_kd q1; omega)]
          exact q4
      unfold zyEt
      dsimp only
      cases hq : zyl pre (a * 16384 + k) with
      | none => exact h2
      | some v =>
        obtain ⟨j, hj⟩ := zyl_ix hq
        obtain ⟨c2, x2, q1, q2, q3, q4, q5⟩ := hPre _ (List.mem_of_getElem? hj)
        dsimp only at q1 q2 q3 q4 q5
        rw [show (a * 16384 + k) / 16384 = a by omega, show (a * 16384 + k) % 16384 = k by omega, h1] at q3
        cases q3
        exact q5
    · rcases hl3 i cc hc with h1 | h1
      · obtain ⟨v, h2, h3⟩ := zyexp_args (o := 0) hA2 i cc h1 hn
        rw [Nat.zero_add] at h2
        exact ⟨v, hent.2.2 _ h2, h3⟩
      · exact absurd h1 hn
  have hRk := zycutR hR0 hinc (hwf κ0 hκ0)
  have hfin := claim (Mu κ0 s (zyrho P.1 B s.heap en.2.2.1 lsA κ0.2.2.2.2.1) s.heap) κ0 s.heap [] lsA (zyrho P.1 B s.heap en.2.2.1 lsA κ0.2.2.2.2.1) hκ0 (hinv0 s lsA hK hI hPre (fun i c v _ _ _ hm => hent.2.2 (i, v) hm) hent) hRk rfl
  rw [hpc0] at hfin
  exact hfin
theorem zycutF {l : Launch} {P : zyP} {J : zyJt} {y0 : Nat} {en : zEn} {me : zMe} (hOK : zOK y0 en me) (hCon : zyCons l P J) (hJd : zyJp P.2.2.2.1 J) {dep : Nat} (hc0 : en.2.2.2.2.2.1 = 0) (hs0 : en.2.2.2.2.2.2.1 = 0) {K : List zyKt} {κ0 : zyKt} {n : Nat} (hκ0 : κ0 ∈ K) (hpc0 : κ0.1 = 0) (hwf : ∀ κ ∈ K, zywf en.2.2.1 κ = true)
    {bt : zyKt → zW → List Nat → zyM → Bool} {stp : zyKt → zyK} (hst : ∀ κ w cf y pc ls st q f fs m, stp κ w cf y pc ls st q (f :: fs) m = false)
    (hrun : ∀ κ ∈ K, zyok (bt κ) P (stp κ) n (κ.2.1, κ.2.2.2.1) en.1 en.2.2.2.2 κ.1 κ.2.2.1 [] (dep, 0, 0) [] (κ.2.2.2.2.1, []) = true)
    {as : List Nat} {B : zCx} {AsV : List Value} {pre : List (Nat × Nat)} (hA : zySt (zyX0 B J) as AsV) (hentry : zpad en.2.2.1 (zexp as) (fun l2 => zyincl P en.2.2.1 (0, []) l2 pre κ0) = true)
    {Qc : Array Value → State → Outcome → State → Prop} (Inv : zyKt → State → (Nat → Int32) → Heap → Prop) (Mu : zyKt → State → (Nat → Int32) → Heap → Nat)
    (hinv0 : ∀ (s : State) (lsA : Array Slot), zKn B s → zyMI P.1 B J s s.heap → zyPk P.1 B pre s.heap → (∀ (i c : Nat) (v : Value), (zexp as)[i]? = some c → ¬ c = 13 → zyV (zyX0 B J) c v → (i, v) ∈ lv_args 0 AsV → lsA[i]? = some (.val v)) → lv_has lsA en.2.2.1 (lv_args 0 AsV) → Inv κ0 s (zyrho P.1 B s.heap en.2.2.1 lsA κ0.2.2.2.2.1) s.heap)
    (hstop : ∀ κ ∈ K, ∀ (s : State) (ρ : Nat → Int32) (H : Heap), zyPk P.1 B pre s.heap → zyMI P.1 B J s s.heap → Inv κ s ρ H → ∀ (ρ2 : Nat → Int32) (N2 : Nat) (w : zW) (pc : Nat) (ls st : List Nat) (q : zQ) (m : zyM) (H2 : Heap) (locs2 : List Loc) (lsB : Array Slot) (stA : List Value), stp κ w en.1 en.2.2.2.2 pc ls st q [] m = true → (∀ k, k < κ.2.1 → ρ2 k = ρ k) → zyRl P (B, ρ2, N2, ρ, κ.2.1, (zyEl P.1 B s.heap, fun q => s.heap[q]?), J) s en.2.2.1 (dep, en.2.2.2.2.2.1, en.2.2.2.2.2.2.1) w ls st q m H2 locs2 lsB stA →
      ∃ κ2 ∈ K, st = [] ∧ pc = κ2.1 ∧ (∃ w3 : zW, w3.1 = w.1 ∧ zEnv ρ2 w3.2 ∧ zyincl P en.2.2.1 w3 ls m.1 κ2 = true) ∧ Inv κ2 s (zyrho P.1 B H2 en.2.2.1 lsB κ2.2.2.2.2.1) H2 ∧ Mu κ2 s (zyrho P.1 B H2 en.2.2.1 lsB κ2.2.2.2.2.1) H2 < Mu κ s ρ H)
    (hret : ∀ κ ∈ K, ∀ (s : State) (ρ : Nat → Int32) (H : Heap), zyPk P.1 B pre s.heap → zKn B s → zyMI P.1 B J s s.heap → Inv κ s ρ H → ∀ (ρ2 : Nat → Int32) (w : zW) (v : List Nat) (m : zyM) (H2 : Heap) (vo : Option Value), bt κ w v m = true → (κ.2.1 ≤ w.1 ∧ ∀ k, k < κ.2.1 → ρ2 k = ρ k) → zEnv ρ2 w.2 → (∀ f ∈ m.2, zyFm (B, ρ2, w.1, ρ, κ.2.1, (zyEl P.1 B s.heap, fun q => s.heap[q]?), J) f) → zyMem P (B, ρ2, w.1, ρ, κ.2.1, (zyEl P.1 B s.heap, fun q => s.heap[q]?), J) s m.1 H2 → zyvo (B, ρ2, w.1, ρ, κ.2.1, (zyEl P.1 B s.heap, fun q => s.heap[q]?), J) v vo → ∀ t : State, t.heap = H2 → s.WarmedH t.vm → Qc AsV.toArray s (.returned vo) t) :
    Met l me.1 [Cond.code me.1 me.2.1 en.2.2.1 me.2.2.1] { frames := dep, cells := en.2.2.2.2.2.1, slots := en.2.2.2.2.2.2.1, locals := 64 * dep } (va_Pc AsV (fun U => zKn B U ∧ zyMI P.1 B J U U.heap ∧ zyPk P.1 B pre U.heap)) Qc en.2.2.2.2.2.1 en.2.2.2.2.2.2.1 (fun q => zbs B ≤ q) := by
  refine zycutG hOK hCon hJd hc0 hs0 hκ0 hpc0 hwf hst hrun hA hentry Inv Mu hinv0 ?_ hret
  intro κ hκ p e s mt below meth c ρ H hPre hCf hI hInv IH ρ2 N2 w2 pc ls st q m2 H2 locs2 lsB stA hs hag hR2
  obtain ⟨κ2, hκ2, est, hpc, ⟨w3, ew, hE3, hi2⟩, hInv2, hmu⟩ := hstop κ hκ s ρ H hPre hI hInv ρ2 N2 w2 pc ls st q m2 H2 locs2 lsB stA hs hag hR2
  subst est
  have eA := zySt_n hR2.2.2.2.2.1
  subst eA
  have hq1 : q.1 = dep := hR2.2.2.2.2.2.1
  have hq2 : q.2.1 ≤ en.2.2.2.2.2.1 := hR2.2.2.2.2.2.2.1
  have hq3 : q.2.2 ≤ en.2.2.2.2.2.2.1 := hR2.2.2.2.2.2.2.2
  obtain ⟨q1, q2, q3⟩ := q
  dsimp only at hq1 hq2 hq3
  have eq2 : q2 = 0 := by omega
  have eq3 : q3 = 0 := by omega
  subst hq1
  subst eq2
  subst eq3
  rw [hpc]
  have hR3 : zyRl P (B, ρ2, N2, ρ, κ.2.1, (zyEl P.1 B s.heap, fun q => s.heap[q]?), J) s en.2.2.1 (q1, en.2.2.2.2.2.1, en.2.2.2.2.2.2.1) w3 ls [] (q1, 0, 0) m2 H2 locs2 lsB [] := ⟨⟨hE3, ew.trans hR2.1.2.1, hR2.1.2.2⟩, hR2.2⟩
  have hRk := zycutR hR3 hi2 (hwf κ2 hκ2)
  exact IH κ2 hκ2 H2 locs2 lsB (zyrho P.1 B H2 en.2.2.1 lsB κ2.2.2.2.2.1) hInv2 hRk hmu
/-- a contract out of cuts, its relation by hand -/
theorem zycutC {l : Launch} {P : zyP} {J : zyJt} {y0 : Nat} {en : zEn} {me : zMe} (hOK : zOK y0 en me) (hCon : zyCons l P J) (hJd : zyJp P.2.2.2.1 J) {ct : zyCt} (hc0 : en.2.2.2.2.2.1 = 0) (hs0 : en.2.2.2.2.2.2.1 = 0) {K : List zyKt} {κ0 : zyKt} {n : Nat} (hκ0 : κ0 ∈ K) (hpc0 : κ0.1 = 0) (hwf : ∀ κ ∈ K, zywf en.2.2.1 κ = true)
    {bt : zyKt → zW → List Nat → zyM → Bool} {stp : zyKt → zyK} (hst : ∀ κ w cf y pc ls st q f fs m, stp κ w cf y pc ls st q (f :: fs) m = false)
    (hrun : ∀ κ ∈ K, zyok (fun w v m => zand (zyfitM w P.1 m.1) (zand (zypre w P.1 m.1 ct.2.2.2.2.2) (bt κ w v m))) P (stp κ) n (κ.2.1, κ.2.2.2.1) en.1 en.2.2.2.2 κ.1 κ.2.2.1 [] (ct.2.2.2.1, 0, 0) [] (κ.2.2.2.2.1, []) = true)
    (hentry : zpad en.2.2.1 (zexp ct.1) (fun l2 => zyincl P en.2.2.1 (0, []) l2 ct.2.2.2.2.1 κ0) = true) (hfp : ∀ a k, zyin ct.2.1 a k = false → zyin P.2.2.1 a k = false)
    (Inv : zCx → List Value → zyKt → State → (Nat → Int32) → Heap → Prop) (Mu : zCx → List Value → zyKt → State → (Nat → Int32) → Heap → Nat)
    (hinv0 : ∀ (B : zCx) (AsV : List Value), zySt (zyX0 B J) ct.1 AsV → ∀ (s : State) (lsA : Array Slot), zKn B s → zyMI P.1 B J s s.heap → zyPk P.1 B ct.2.2.2.2.1 s.heap → lv_has lsA en.2.2.1 (lv_args 0 AsV) → Inv B AsV κ0 s (zyrho P.1 B s.heap en.2.2.1 lsA κ0.2.2.2.2.1) s.heap)
    (hstop : ∀ (B : zCx) (AsV : List Value), zySt (zyX0 B J) ct.1 AsV → ∀ κ ∈ K, ∀ (s : State) (ρ : Nat → Int32) (H : Heap), zyPk P.1 B ct.2.2.2.2.1 s.heap → zyMI P.1 B J s s.heap → Inv B AsV κ s ρ H → ∀ (ρ2 : Nat → Int32) (N2 : Nat) (w : zW) (pc : Nat) (ls st : List Nat) (q : zQ) (m : zyM) (H2 : Heap) (locs2 : List Loc) (lsB : Array Slot) (stA : List Value), stp κ w en.1 en.2.2.2.2 pc ls st q [] m = true → (∀ k, k < κ.2.1 → ρ2 k = ρ k) → zyRl P (B, ρ2, N2, ρ, κ.2.1, (zyEl P.1 B s.heap, fun q => s.heap[q]?), J) s en.2.2.1 (ct.2.2.2.1, en.2.2.2.2.2.1, en.2.2.2.2.2.2.1) w ls st q m H2 locs2 lsB stA →
      ∃ κ2 ∈ K, st = [] ∧ pc = κ2.1 ∧ (∃ w3 : zW, w3.1 = w.1 ∧ zEnv ρ2 w3.2 ∧ zyincl P en.2.2.1 w3 ls m.1 κ2 = true) ∧ Inv B AsV κ2 s (zyrho P.1 B H2 en.2.2.1 lsB κ2.2.2.2.2.1) H2 ∧ Mu B AsV κ2 s (zyrho P.1 B H2 en.2.2.1 lsB κ2.2.2.2.2.1) H2 < Mu B AsV κ s ρ H)
    (hret : ∀ (B : zCx) (AsV : List Value), zySt (zyX0 B J) ct.1 AsV → ∀ κ ∈ K, ∀ (s : State) (ρ : Nat → Int32) (H : Heap), zyPk P.1 B ct.2.2.2.2.1 s.heap → zyMI P.1 B J s s.heap → Inv B AsV κ s ρ H → ∀ (ρ2 : Nat → Int32) (w : zW) (v : List Nat) (m : zyM) (t : State) (vo : Option Value), bt κ w v m = true → (κ.2.1 ≤ w.1 ∧ ∀ k, k < κ.2.1 → ρ2 k = ρ k) → zEnv ρ2 w.2 → (∀ f ∈ m.2, zyFm (B, ρ2, w.1, ρ, κ.2.1, (zyEl P.1 B s.heap, fun q => s.heap[q]?), J) f) → zyMem P (B, ρ2, w.1, ρ, κ.2.1, (zyEl P.1 B s.heap, fun q => s.heap[q]?), J) s m.1 t.heap → zyvo (B, ρ2, w.1, ρ, κ.2.1, (zyEl P.1 B s.heap, fun q => s.heap[q]?), J) v vo → zyvr P.1 B J ct.2.2.1 AsV.toArray s t vo) : zyCon l P.1 J en me ct := by
  intro B AsV hA
  refine zycutF (bt := fun κ w v m => zand (zyfitM w P.1 m.1) (zand (zypre w P.1 m.1 ct.2.2.2.2.2) (bt κ w v m))) (Qc := zyQk P.1 B J ct) (pre := ct.2.2.2.2.1) hOK hCon hJd (dep := ct.2.2.2.1) hc0 hs0 hκ0 hpc0 hwf hst hrun hA hentry (Inv B AsV) (Mu B AsV) (fun s lsA hK hI hPre _ hlv => hinv0 B AsV hA s lsA hK hI hPre hlv) (hstop B AsV hA) ?_
  intro κ hκ s ρ H hPre hK hI hInv ρ2 w v m H2 vo hbt hag hE hF hM hvo t ht hW
  obtain ⟨b1, b2⟩ := zand_iff hbt
  obtain ⟨b2, b3⟩ := zand_iff b2
  subst ht
  exact ⟨vo, rfl, hret B AsV hA κ hκ s ρ H hPre hI hInv ρ2 w v m t vo b3 hag hE hF hM hvo, hK.warm hW, (hM.base (w := w) hE b1).moved hW.alike, zypre_iff hM hE b2, fun a k hf => hM.2.2.1 a k (hfp a k hf), fun q hq => hM.2.2.2.2.2 q hq⟩
