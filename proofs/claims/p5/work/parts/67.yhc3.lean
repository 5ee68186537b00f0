/-! A SEMANTIC CONTRACT OUT OF PHASES -/
noncomputable def zyL0a : Nat → Nat → Nat → List Nat
  | _, 0, pad => List.replicate pad 13
  | i, n + 1, pad => zysym i :: zyL0a (i + 1) n pad
/-- the locals at the entry -/
noncomputable def zyL0 (na nL : Nat) : List Nat := 595 :: zyL0a 1 na (nL - 1 - na)
theorem zyL0a_get : ∀ {n i pad j c : Nat}, (zyL0a i n pad)[j]? = some c → ¬ c = 13 → j < n ∧ c = zysym (i + j) := by
  intro n
  induction n with
  | zero =>
    intro i pad j c h hn
    have h : (List.replicate pad 13)[j]? = some c := h
    exact absurd (List.eq_of_mem_replicate (List.mem_of_getElem? h)) hn
  | succ n ih =>
    intro i pad j c h hn
    have h : (zysym i :: zyL0a (i + 1) n pad)[j]? = some c := h
    cases j with
    | zero =>
      have h : some (zysym i) = some c := h
      cases h
      exact ⟨by omega, rfl⟩
    | succ j =>
      rw [List.getElem?_cons_succ] at h
      obtain ⟨h1, h2⟩ := ih h hn
      exact ⟨by omega, by rw [h2]; congr 1; omega⟩
theorem zyL0a_len : ∀ {n i pad : Nat}, (zyL0a i n pad).length = n + pad := by
  intro n
  induction n with
  | zero => intro i pad; rw [show zyL0a i 0 pad = List.replicate pad 13 from rfl, List.length_replicate]; omega
  | succ n ih => intro i pad; rw [show zyL0a i (n + 1) pad = zysym i :: zyL0a (i + 1) n pad from rfl, List.length_cons, ih]; omega
/-- the symbols at the entry -/
def zyρa (xs : List Int32) : Nat → Int32
  | 0 => 0
  | k + 1 => match xs[k]? with
    | some x => x
    | none => 0
theorem zyargs_mem : ∀ {xs : List Int32} {o j : Nat} {x : Int32}, xs[j]? = some x → (o + j, Value.int x) ∈ lv_args o (xs.map Value.int) := by
  intro xs
  induction xs with
  | nil => intro o j x h; simp at h
  | cons a t ih =>
    intro o j x h
    have e : lv_args o ((a :: t).map Value.int) = (o, Value.int a) :: lv_args (o + 1) (t.map Value.int) := rfl
    rw [e]
    cases j with
    | zero =>
      have h : some a = some x := h
      cases h
      exact List.mem_cons_self
    | succ j =>
      rw [List.getElem?_cons_succ] at h
      have := ih (o := o + 1) h
      rw [show o + 1 + j = o + (j + 1) by omega] at this
      exact List.mem_cons_of_mem _ this
theorem zylg_len : ∀ {xs : List Int32}, (lg_sl (xs.map Value.int)).length = xs.length := by
  intro xs
  induction xs with
  | nil => rfl
  | cons a t ih =>
    have e : lg_sl ((a :: t).map Value.int) = [Slot.val (.int a)] ++ lg_sl (t.map Value.int) := rfl
    rw [e, List.length_append, ih, List.length_cons]
    exact Nat.add_comm _ _
def zyIH (mi : zyB) (nL : Nat) (B : zCx) (s : State) {ι : Type} (φ : ι → zyPh) (Inv : ι → (Nat → Int32) → zyEm → Prop) (Mu : ι → (Nat → Int32) → zyEm → Nat) (M : Nat) (Wg : zyWt) : Prop :=
  ∀ (i : ι) (ρ : Nat → Int32) (H : Heap) (locs : List Loc) (lsB : Array Slot) (stB : List Value), zyMI mi B zyJ0 s H → zyOut mi B s.heap H → Inv i ρ (zyEl mi B H) → zySs mi B nL (φ i) ρ H locs lsB stB → Mu i ρ (zyEl mi B H) < M → Wg H locs (φ i).1 lsB stB
theorem zycutS {l : Launch} {mi : zyB} {y0 : Nat} {en : zEn} {me : zMe} (hOK : zOK y0 en me) (hc0 : en.2.2.2.2.2.1 = 0) (hs0 : en.2.2.2.2.2.2.1 = 0) (h74 : ∃ c, zG mi 74 = some c ∧ c.1 = 11) {dep na : Nat} {Φ : List Int32 → zyEm → Prop} {Ψ : List Int32 → zyEm → zyEm → Option Value → Prop} {ι : Type} (φ : ι → zyPh) (tb : ι → Nat → List zyCt) (fp : ι → zyR) (sp : ι → Nat) (xs rs : ι → List zyXp) (hCon : ∀ i, zyCons l (mi, tb i, fp i, [], sp i) zyJ0) (n : Nat)
    (hrun : ∀ i, zyok (zybtx mi (rs i)) (mi, tb i, fp i, [], sp i) (zystx mi (xs i)) n (zyln (φ i).2.2.1, (φ i).2.2.1) en.1 en.2.2.2.2 (φ i).1 (φ i).2.1 (φ i).2.2.2.2 (dep, 0, 0) [] ((φ i).2.2.2.1, []) = true)
    (i0 : ι) (hi0 : (φ i0).1 = 0 ∧ (φ i0).2.1 = zyL0 na en.2.2.1 ∧ (φ i0).2.2.2.1 = [] ∧ (φ i0).2.2.2.2 = []) (hna : na + 1 ≤ en.2.2.1 ∧ na + 1 ≤ (φ i0).2.2.1.length)
    (Inv : ι → List Int32 → zyEm → (Nat → Int32) → zyEm → Prop) (Mu : ι → List Int32 → zyEm → (Nat → Int32) → zyEm → Nat)
    (h0 : ∀ (as : List Int32) (E : zyEm), as.length = na → zyTy mi E → Φ as E → zEnv (zyρa as) (φ i0).2.2.1 ∧ Inv i0 as E (zyρa as) E)
    (hstop : ∀ (as : List Int32) (B : zCx) (s : State) (Wg : zyWt), zyRu l mi en dep B s Wg → zyTy mi (zyEl mi B s.heap) → Φ as (zyEl mi B s.heap) → as.length = na → ∀ (i : ι) (ρ : Nat → Int32) (H : Heap), zyTy mi (zyEl mi B H) → Inv i as (zyEl mi B s.heap) ρ (zyEl mi B H) → zyIH mi en.2.2.1 B s φ (fun i => Inv i as (zyEl mi B s.heap)) (fun i => Mu i as (zyEl mi B s.heap)) (Mu i as (zyEl mi B s.heap) ρ (zyEl mi B H)) Wg →
      ∀ x ∈ xs i, ∀ (ρ2 : Nat → Int32) (N2 : Nat) (H2 : Heap) (locs : List Loc) (lsB : Array Slot) (stA : List Value), zyAt mi B s en.2.2.1 x ρ2 N2 H2 locs lsB stA → zyXs x ρ2 (zyEl mi B H) (zyEl mi B H2) → (∀ k, k < (φ i).2.2.1.length → ρ2 k = ρ k) → (∀ a k, zyin (fp i) a k = false → zyEl mi B H2 a k = zyEl mi B H a k) → zyTy mi (zyEl mi B H2) → Wg H2 locs x.1 lsB stA)
    (hret : ∀ (as : List Int32) (E0 E E2 : zyEm), zyTy mi E0 → Φ as E0 → as.length = na → ∀ (i : ι) (ρ : Nat → Int32), zyTy mi E → Inv i as E0 ρ E → ∀ x ∈ rs i, ∀ (ρ2 : Nat → Int32) (N2 : Nat) (B : zCx) (vo : Option Value), zyXs x ρ2 E E2 → (∀ k, k < (φ i).2.2.1.length → ρ2 k = ρ k) → (∀ a k, zyin (fp i) a k = false → E2 a k = E a k) → zyTy mi E2 → zyvo (zyXn B ρ2 N2) x.2.2.1 vo → Ψ as E0 E2 vo) : zyHc l mi en me dep na Φ Ψ := by
  intro B as has
  have hOK' := hOK
  obtain ⟨hrow, hnum, hrk, hcn, hcls, hml40, hpl, g, hin, hg1, hgw⟩ := hOK
  refine zMet_ofW hpl ?_
  intro p e s mt args below meth c s₁ Bd hml hv
  obtain ⟨rfl, hK, hI, hΦ⟩ := hv
  have hown : s.vm.findClass me.2.2.2 = some mt.cls := by rw [← hcls]; exact findClass_of_methodNamed Bd.named
  have hll : (lg_sl (zyAr B as)).length = na + 1 := by
    have e : lg_sl (zyAr B as) = [Slot.val (.ref (zad B 74))] ++ lg_sl (as.map Value.int) := rfl
    rw [e, List.length_append, zylg_len, has]
    exact Nat.add_comm _ _
  have hent := lv_entry (zyAr B as) (n := en.2.2.1) (by rw [hll]; exact hna.1)
  rw [lg_entry_eq]
  generalize (lg_sl (zyAr B as) ++ List.replicate (en.2.2.1 - (lg_sl (zyAr B as)).length) Slot.unset).toArray = lsA at hent ⊢
  have hlocks := Bd.notSynchronized
  have hT0 := zyTy_of hI
  have hRu : zyRu l mi en dep B s (fun H locs pc lsB stA => W p l e { frames := dep, cells := en.2.2.2.2.2.1, slots := en.2.2.2.2.2.2.1, locals := 64 * dep } s mt (zyAr B as).toArray below meth c H locs 0 0 (MQ below (zyHq mi B (Ψ as)) (zyAr B as).toArray s en.2.2.2.2.2.1 en.2.2.2.2.2.2.1 (fun q => zbs B ≤ q)) (F0 mt pc lsB stA)) := zyRu_ok hOK' hc0 hs0 h74 Bd.exec Bd.bytes hml hown hK
  have hJp : zyJp [] zyJ0 := zyJ0_p (fun p hp => by cases hp)
  have claim : ∀ (M : Nat), ∀ (i : ι) (ρ : Nat → Int32) (H : Heap) (locs : List Loc) (lsB : Array Slot) (stB : List Value), zyMI mi B zyJ0 s H → zyOut mi B s.heap H → Inv i as (zyEl mi B s.heap) ρ (zyEl mi B H) → zySs mi B en.2.2.1 (φ i) ρ H locs lsB stB → Mu i as (zyEl mi B s.heap) ρ (zyEl mi B H) = M →
      W p l e { frames := dep, cells := en.2.2.2.2.2.1, slots := en.2.2.2.2.2.2.1, locals := 64 * dep } s mt (zyAr B as).toArray below meth c H locs 0 0 (MQ below (zyHq mi B (Ψ as)) (zyAr B as).toArray s en.2.2.2.2.2.1 en.2.2.2.2.2.2.1 (fun q => zbs B ≤ q)) (F0 mt (φ i).1 lsB stB) := by
    intro M
    induction M using Nat.strongRecOn with
    | ind M IH =>
      intro i ρ H locs lsB stB hIH hout hInv hSs hM
      have hr := hrun i
      rw [zyln_eq] at hr
      refine zymain (l := l) (bt := zybtx mi (rs i)) (stop := zystx mi (xs i)) (fun _ _ _ _ _ _ _ _ _ _ => rfl) n (B, ρ, (φ i).2.2.1.length, ρ, (φ i).2.2.1.length, (zyEl mi B H, fun q => H[q]?), zyJ0) y0 en me (hCon i) hOK' ((φ i).2.2.1.length, (φ i).2.2.1) (φ i).1 (φ i).2.1 (φ i).2.2.2.2 (dep, 0, 0) [] ((φ i).2.2.2.1, []) hr p e { frames := dep, cells := en.2.2.2.2.2.1, slots := en.2.2.2.2.2.2.1, locals := 64 * dep } s mt (zyAr B as).toArray below meth c _ H locs lsB stB ⟨Bd.exec, Bd.bytes, hml, hown, ⟨hK, hJp⟩, Nat.le_refl _, Nat.le_refl _, Nat.le_refl _, Nat.le_refl _⟩ (zyRl_new hIH hSs) ?_ ?_
      · intro n' ρ2 w2 v m2 H2 locs2 lsC pc vo cells slots hn' hbk hX hM2 hlo hc hs hvo hri
        have hbk : zybtx mi (rs i) w2 v m2 = true := hbk
        obtain ⟨x, hx, hxb⟩ := zyanyB_iff hbk
        obtain ⟨-, -, e2, hXs, hI2⟩ := zyxp_iff (X := zyre (B, ρ, (φ i).2.2.1.length, ρ, (φ i).2.2.1.length, (zyEl mi B H, fun q => H[q]?), zyJ0) ρ2 w2.1) (P := (mi, tb i, fp i, [], sp i)) rfl hX.1 hX.2.2 hM2 hxb
        have hout2 : zyOut mi B s.heap H2 := fun q hq => (hM2.2.2.2.2.2 q hq).trans (hout q hq)
        have hvo2 : zyvo (zyXn B ρ2 w2.1) x.2.2.1 vo := by
          rw [← e2]
          exact hvo
        have hΨ := hret as (zyEl mi B s.heap) (zyEl mi B H) (zyEl mi B H2) hT0 hΦ has i ρ (zyTy_of hIH) hInv x hx ρ2 w2.1 B vo hXs hX.2.1.2 (fun a k hf => hM2.2.2.1 a k hf) (zyTy_of hI2) hvo2
        have hq : ∀ t : State, t.heap = H2 → s.WarmedH t.vm → zyHq mi B (Ψ as) (zyAr B as).toArray s (.returned vo) t := fun t ht hW => by
          subst ht
          exact ⟨vo, rfl, hK.warm hW, hI2.moved hW.alike, hΨ, hout2⟩
        refine W.widen hc hs ?_
        rcases hri with ⟨hd, x, ty, rfl, hty, hnar⟩ | ⟨hd, x, rfl, hty⟩ | ⟨hd, rfl, hty⟩
        · exact W.zret Bd.exec Bd.bytes (by rw [Bd.returns]; exact hty) hnar hq hlo hd hlocks
        · exact W.lret Bd.exec Bd.bytes (by rw [Bd.returns]; exact hty) hq hlo hd hlocks
        · exact W.vret Bd.exec Bd.bytes (by rw [Bd.returns]; exact hty) hq hlo hd hlocks
      · intro ρ2 N2 w2 pc ls st q m2 H2 locs2 lsC stA hs hR2
        have hs : zyanyB (fun x => zyxpB mi x w2 pc ls st m2) (xs i) = true := hs
        obtain ⟨x, hx, hxb⟩ := zyanyB_iff hs
        obtain ⟨e1, e3, e2, hXs, hI2⟩ := zyxp_iff (X := zyre (B, ρ, (φ i).2.2.1.length, ρ, (φ i).2.2.1.length, (zyEl mi B H, fun q => H[q]?), zyJ0) ρ2 N2) (P := (mi, tb i, fp i, [], sp i)) rfl hR2.1.1 hR2.1.2.2.2 hR2.2.1 hxb
        have hout2 : zyOut mi B s.heap H2 := fun q hq => (hR2.2.1.2.2.2.2.2 q hq).trans (hout q hq)
        have hq1 : q.1 = dep := hR2.2.2.2.2.2.1
        have hq2 : q.2.1 ≤ en.2.2.2.2.2.1 := hR2.2.2.2.2.2.2.1
        have hq3 : q.2.2 ≤ en.2.2.2.2.2.2.1 := hR2.2.2.2.2.2.2.2
        have eq2 : q.2.1 = 0 := by omega
        have eq3 : q.2.2 = 0 := by omega
        rw [eq2, eq3, e1]
        refine hstop as B s _ hRu hT0 hΦ has i ρ H (zyTy_of hIH) hInv ?_ x hx ρ2 N2 H2 locs2 lsC stA ⟨hI2, hout2, hR2.2.2.1, ⟨hR2.2.2.2.1.2.1, hR2.2.2.2.1.2.2.1⟩, fun i c hc hn => hR2.2.2.2.1.2.2.2 i c (e3.2 i c hc hn) hn, ?_⟩ hXs hR2.1.2.2.1.2 (fun a k hf => hR2.2.1.2.2.1 a k hf) (zyTy_of hI2)
        · intro i2 ρ' H3 locs3 lsD stB3 hI3 hout3 hInv3 hSs3 hmu
          exact IH _ (by rw [← hM]; exact hmu) i2 ρ' H3 locs3 lsD stB3 hI3 hout3 hInv3 hSs3 rfl
        · rw [← e2]
          exact zySt_map (X := zyre (B, ρ, (φ i).2.2.1.length, ρ, (φ i).2.2.1.length, (zyEl mi B H, fun q => H[q]?), zyJ0) ρ2 N2) (X2 := zyXn B ρ2 N2) (fun v w h => h) hR2.2.2.2.2.1
  obtain ⟨b0, b1⟩ := h0 as (zyEl mi B s.heap) has hT0 hΦ
  obtain ⟨p0, p1, p2, p3⟩ := hi0
  have hSs : zySs mi B en.2.2.1 (φ i0) (zyρa as) s.heap [] lsA [] → W p l e { frames := dep, cells := en.2.2.2.2.2.1, slots := en.2.2.2.2.2.2.1, locals := 64 * dep } s mt (zyAr B as).toArray below meth c s.heap [] 0 0 (MQ below (zyHq mi B (Ψ as)) (zyAr B as).toArray s en.2.2.2.2.2.1 en.2.2.2.2.2.2.1 (fun q => zbs B ≤ q)) (F0 mt 0 lsA []) := fun h => by
    have hfin := claim _ i0 (zyρa as) s.heap [] lsA [] hI (fun q _ => rfl) b1 h rfl
    rw [p0] at hfin
    exact hfin
  refine hSs ⟨fun x hx => (by cases hx), ⟨hent.1, hent.2.1⟩, ⟨?_, fun i c hc hn => ?_⟩, b0, ?_, ?_⟩
  · rw [p1]
    show (zyL0a 1 na (en.2.2.1 - 1 - na)).length + 1 = _
    rw [zyL0a_len]
    omega
  · rw [p1] at hc
    cases i with
    | zero =>
      have hc : some 595 = some c := hc
      cases hc
      exact ⟨.ref (zad B 74), hent.2.2 (0, .ref (zad B 74)) List.mem_cons_self, Or.inl ⟨Or.inr (Or.inr (Or.inr (Or.inl ⟨rfl, rfl⟩))), fun q => by omega, fun q => by omega⟩⟩
    | succ i =>
      have hc : (zyL0a 1 na (en.2.2.1 - 1 - na))[i]? = some c := hc
      obtain ⟨q1, q2⟩ := zyL0a_get hc hn
      obtain ⟨x, hx⟩ : ∃ x, as[i]? = some x := ⟨as[i]'(by omega), List.getElem?_eq_getElem (by omega)⟩
      refine ⟨.int x, ?_, ?_⟩
      · have hm := zyargs_mem (o := 1) hx
        rw [Nat.add_comm 1 i] at hm
        exact hent.2.2 (i + 1, .int x) (List.mem_cons_of_mem _ hm)
      · rw [q2, Nat.add_comm 1 i]
        refine zyv_sym (by omega) ?_
        show (match as[i]? with
          | some x => x
          | none => 0) = x
        rw [hx]
  · rw [p3]
    trivial
  · rw [p2]
    exact fun p hp => by cases hp
