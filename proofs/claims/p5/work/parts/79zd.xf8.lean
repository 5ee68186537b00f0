/-! THE CUT with the rules for longs (printed by mk6.py) -/
theorem xcutLM {l : Launch} {mi : zyB} {B : zCx} {y0 : Nat} {en : zEn} {me : zMe} (hOK : zOK y0 en me) (hc0 : en.2.2.2.2.2.1 = 0) (hs0 : en.2.2.2.2.2.2.1 = 0) {dep : Nat} {As : List Value} {x0 v0 : Nat → Int} (hx0 : xRg x0) (hrv0 : xRg v0) {fpm : zyR} {rt : Bool} {Φ : (Nat → Int) → zyEm → Prop} {Ψ : (Nat → Int) → zyEm → zyEm → Int → Prop} {ι : Type} (φ : ι → zyPh) (tb : ι → Nat → List zyCt) (fp : ι → zyR) (sp : ι → Nat) (xs rs : ι → List zyXp) (hCon : ∀ i, zyCons l (mi, tb i, fp i, [], sp i) zyJ0) (n : Nat)
    (hrun : ∀ i, zyok (zybtx mi (rs i)) (mi, tb i, fp i, [], sp i) (zystx mi (xs i)) n (zyln (φ i).2.2.1, (φ i).2.2.1) en.1 en.2.2.2.2 (φ i).1 (φ i).2.1 (φ i).2.2.2.2 (dep, 0, 0) [] ((φ i).2.2.2.1, []) = true)
    (hfp : ∀ i, xsubR (fp i) fpm = true) (hckX : ∀ i, (xs i).all xckX = true) (hckR : ∀ i, (rs i).all (fun x => xckX x && xrtB rt x) = true)
    (i0 : ι) (hi0 : (φ i0).1 = 0 ∧ (φ i0).2.1.length = en.2.2.1 ∧ (φ i0).2.2.2.1 = [] ∧ (φ i0).2.2.2.2 = []) (hAl : (lg_sl As).length ≤ en.2.2.1) (hA : ∀ (i c : Nat), (φ i0).2.1[i]? = some c → ¬ c = 13 → ∃ w, (i, w) ∈ lv_args 0 As ∧ zyv (fun k => Int32.ofInt (v0 k)) (φ i0).2.2.1.length (zad B) c w)
    (Inv : ι → (Nat → Int) → zyEm → (Nat → Int) → zyEm → Prop) (Mu : ι → (Nat → Int) → zyEm → (Nat → Int) → zyEm → Nat)
    (h0 : ∀ (E : zyEm), zyTy mi E → Φ x0 E → xEnv v0 (φ i0).2.2.1 ∧ Inv i0 x0 E v0 E)
    (hstop : ∀ (x0 : Nat → Int) (s : State) (Wg : zyWt), xRu l mi en dep B s Wg → xRl mi en B s Wg → xRg x0 → zyTy mi (zyEl mi B s.heap) → Φ x0 (zyEl mi B s.heap) → ∀ (i : ι) (v : Nat → Int) (H : Heap), zyTy mi (zyEl mi B H) → xRg v → Inv i x0 (zyEl mi B s.heap) v (zyEl mi B H) → xKc (φ i).2.2.2.1 v (zyEl mi B H) → xFr fpm (zyEl mi B s.heap) (zyEl mi B H) → xIH mi en.2.2.1 B s fpm φ (fun i => Inv i x0 (zyEl mi B s.heap)) (fun i => Mu i x0 (zyEl mi B s.heap)) (Mu i x0 (zyEl mi B s.heap) v (zyEl mi B H)) Wg →
      ∀ x ∈ xs i, ∀ (ρ2 : Nat → Int32) (v2 : Nat → Int) (N2 : Nat) (H2 : Heap) (locs : List Loc) (lsB : Array Slot) (stA : List Value), zyAt mi B s en.2.2.1 x ρ2 N2 H2 locs lsB stA → xBd ρ2 x.2.2.2.2.1 → (∀ k, xI (ρ2 k) = v2 k) → xRg v2 → xXs x v2 (zyEl mi B H) (zyEl mi B H2) → (∀ k, k < (φ i).2.2.1.length → v2 k = v k) → xFr (fp i) (zyEl mi B H) (zyEl mi B H2) → xFr fpm (zyEl mi B s.heap) (zyEl mi B H2) → zyTy mi (zyEl mi B H2) → Wg H2 locs x.1 lsB stA)
    (hret : ∀ (x0 : Nat → Int) (E0 E E2 : zyEm), xRg x0 → zyTy mi E0 → Φ x0 E0 → ∀ (i : ι) (v : Nat → Int), zyTy mi E → xRg v → Inv i x0 E0 v E → xKc (φ i).2.2.2.1 v E → xFr fpm E0 E → ∀ x ∈ rs i, ∀ (v2 : Nat → Int), xRg v2 → xXs x v2 E E2 → (∀ k, k < (φ i).2.2.1.length → v2 k = v k) → xFr (fp i) E E2 → xFr fpm E0 E2 → zyTy mi E2 → Ψ x0 E0 E2 (xrv x.2.2.1 v2)) : xMt l mi B en me dep As (Φ x0) (fun E E2 vo => xFr fpm E E2 ∧ ∃ z : Int32, vo = (if rt = true then some (.int z) else none) ∧ Ψ x0 E E2 (xI z)) := by
  unfold xMt
  have hOK' := hOK
  obtain ⟨hrow, hnum, hrk, hcn, hcls, hml40, hpl, g, hin, hg1, hgw⟩ := hOK
  refine zMet_ofW hpl ?_
  intro p e s mt args below meth c s₁ Bd hml hv
  obtain ⟨rfl, hK, hI, hΦ⟩ := hv
  have hown : s.vm.findClass me.2.2.2 = some mt.cls := by rw [← hcls]; exact findClass_of_methodNamed Bd.named
  have hent := lv_entry As (n := en.2.2.1) hAl
  rw [lg_entry_eq]
  generalize (lg_sl (As) ++ List.replicate (en.2.2.1 - (lg_sl (As)).length) Slot.unset).toArray = lsA at hent ⊢
  have hlocks := Bd.notSynchronized
  have hT0 := zyTy_of hI
  have hRu : xRu l mi en dep B s (fun H locs pc lsB stA => W p l e { frames := dep, cells := en.2.2.2.2.2.1, slots := en.2.2.2.2.2.2.1, locals := 64 * dep } s mt (As).toArray below meth c H locs 0 0 (MQ below (zyHq mi B (fun E E2 vo => xFr fpm E E2 ∧ ∃ z : Int32, vo = (if rt = true then some (.int z) else none) ∧ Ψ x0 E E2 (xI z))) (As).toArray s en.2.2.2.2.2.1 en.2.2.2.2.2.2.1 (fun q => zbs B ≤ q)) (F0 mt pc lsB stA)) := xRu_ok hOK' hc0 hs0 Bd.exec Bd.bytes hml hown hK
  have hRl : xRl mi en B s (fun H locs pc lsB stA => W p l e { frames := dep, cells := en.2.2.2.2.2.1, slots := en.2.2.2.2.2.2.1, locals := 64 * dep } s mt (As).toArray below meth c H locs 0 0 (MQ below (zyHq mi B (fun E E2 vo => xFr fpm E E2 ∧ ∃ z : Int32, vo = (if rt = true then some (.int z) else none) ∧ Ψ x0 E E2 (xI z))) (As).toArray s en.2.2.2.2.2.1 en.2.2.2.2.2.2.1 (fun q => zbs B ≤ q)) (F0 mt pc lsB stA)) := xRl_ok hOK' Bd.exec Bd.bytes hown hK
  have hJp : zyJp [] zyJ0 := zyJ0_p (fun p hp => by cases hp)
  have claim : ∀ (M : Nat), ∀ (i : ι) (v : Nat → Int) (H : Heap) (locs : List Loc) (lsB : Array Slot) (stB : List Value), zyMI mi B zyJ0 s H → zyOut mi B s.heap H → xFr fpm (zyEl mi B s.heap) (zyEl mi B H) → xRg v → Inv i (x0) (zyEl mi B s.heap) v (zyEl mi B H) → zySs mi B en.2.2.1 (φ i) (fun k => Int32.ofInt (v k)) H locs lsB stB → Mu i (x0) (zyEl mi B s.heap) v (zyEl mi B H) = M →
      W p l e { frames := dep, cells := en.2.2.2.2.2.1, slots := en.2.2.2.2.2.2.1, locals := 64 * dep } s mt (As).toArray below meth c H locs 0 0 (MQ below (zyHq mi B (fun E E2 vo => xFr fpm E E2 ∧ ∃ z : Int32, vo = (if rt = true then some (.int z) else none) ∧ Ψ x0 E E2 (xI z))) (As).toArray s en.2.2.2.2.2.1 en.2.2.2.2.2.2.1 (fun q => zbs B ≤ q)) (F0 mt (φ i).1 lsB stB) := by
    intro M
    induction M using Nat.strongRecOn with
    | ind M IH =>
      intro i vv H locs lsB stB hIH hout hFr0 hrv hInv hSs hM
      have hKc : xKc (φ i).2.2.2.1 vv (zyEl mi B H) := xKc_of (ρ := fun k => Int32.ofInt (vv k)) (fun k => xI_ofInt (hrv k)) hSs.2.2.2.2.2
      obtain ⟨ρ, hρ⟩ : ∃ ρ : Nat → Int32, ρ = fun k => Int32.ofInt (vv k) := ⟨_, rfl⟩
      have hρv : ∀ k, xI (ρ k) = vv k := fun k => by rw [hρ]; exact xI_ofInt (hrv k)
      rw [← hρ] at hSs
      have hr := hrun i
      rw [zyln_eq] at hr
      refine zymain (l := l) (bt := zybtx mi (rs i)) (stop := zystx mi (xs i)) (fun _ _ _ _ _ _ _ _ _ _ => rfl) n (B, ρ, (φ i).2.2.1.length, ρ, (φ i).2.2.1.length, (zyEl mi B H, fun q => H[q]?), zyJ0) y0 en me (hCon i) hOK' ((φ i).2.2.1.length, (φ i).2.2.1) (φ i).1 (φ i).2.1 (φ i).2.2.2.2 (dep, 0, 0) [] ((φ i).2.2.2.1, []) hr p e { frames := dep, cells := en.2.2.2.2.2.1, slots := en.2.2.2.2.2.2.1, locals := 64 * dep } s mt (As).toArray below meth c _ H locs lsB stB ⟨Bd.exec, Bd.bytes, hml, hown, ⟨hK, hJp⟩, Nat.le_refl _, Nat.le_refl _, Nat.le_refl _, Nat.le_refl _⟩ (zyRl_new hIH hSs) ?_ ?_
      · intro n' ρ2 w2 v m2 H2 locs2 lsC pc vo cells slots hn' hbk hX hM2 hlo hc hs hvo hri
        have hbk : zybtx mi (rs i) w2 v m2 = true := hbk
        obtain ⟨x, hx, hxb⟩ := zyanyB_iff hbk
        obtain ⟨-, -, e2, hXs, hI2⟩ := zyxp_iff (X := zyre (B, ρ, (φ i).2.2.1.length, ρ, (φ i).2.2.1.length, (zyEl mi B H, fun q => H[q]?), zyJ0) ρ2 w2.1) (P := (mi, tb i, fp i, [], sp i)) rfl hX.1 hX.2.2 hM2 hxb
        have hout2 : zyOut mi B s.heap H2 := fun q hq => (hM2.2.2.2.2.2 q hq).trans (hout q hq)
        have hvo2 : zyvo (zyXn B ρ2 w2.1) x.2.2.1 vo := by
          rw [← e2]
          exact hvo
        have hck := List.all_eq_true.mp (hckR i) x hx
        rw [Bool.and_eq_true] at hck
        have hXi := xXs_of (v := fun k => xI (ρ2 k)) (fun k => rfl) hXs hck.1
        have hFr2 : xFr (fp i) (zyEl mi B H) (zyEl mi B H2) := fun a k hf => hM2.2.2.1 a k hf
        have hFr3 : xFr fpm (zyEl mi B s.heap) (zyEl mi B H2) := xFr_trans hFr0 (xFr_mono (hfp i) hFr2)
        have hag : ∀ k, k < (φ i).2.2.1.length → xI (ρ2 k) = vv k := fun k hk => by rw [← hρv]; exact congrArg xI (hX.2.1.2 k hk)
        have hΨ0 := hret (x0) (zyEl mi B s.heap) (zyEl mi B H) (zyEl mi B H2) hx0 hT0 hΦ i vv (zyTy_of hIH) hrv hInv hKc hFr0 x hx (fun k => xI (ρ2 k)) (fun k => xI_r _) hXi hag hFr2 hFr3 (zyTy_of hI2)
        have hΨ : xFr fpm (zyEl mi B s.heap) (zyEl mi B H2) ∧ ∃ z : Int32, vo = (if rt = true then some (.int z) else none) ∧ Ψ (x0) (zyEl mi B s.heap) (zyEl mi B H2) (xI z) := by
          refine ⟨hFr3, ?_⟩
          have hck2 := hck.2
          have hck1 := hck.1
          unfold xrtB at hck2
          cases hrt : rt with
          | true =>
            rw [hrt] at hck2
            cases hst : x.2.2.1 with
            | nil => rw [hst] at hck2; cases hck2
            | cons c0 t0 =>
              rw [hst] at hck2
              cases t0 with
              | cons c1 t1 => cases hck2
              | nil =>
                have hck2 := of_decide_eq_true hck2
                rw [hst] at hvo2 hΨ0
                refine ⟨_, zyvo_1 hck2 hvo2, ?_⟩
                have hof : xofB x.2.2.2.2.1 c0 = true := by
                  unfold xckX at hck1
                  simp only [Bool.and_eq_true, List.all_eq_true] at hck1
                  have := hck1.2.2.2 c0 (by rw [hst]; exact List.mem_singleton.mpr rfl)
                  rw [Bool.or_eq_true, decide_eq_true_eq] at this
                  rcases this with z | z
                  · omega
                  · exact z
                rw [xofB_iff (v := fun k => xI (ρ2 k)) (fun k => rfl) hXs.2.1 hof]
                exact hΨ0
          | false =>
            rw [hrt] at hck2
            cases hst : x.2.2.1 with
            | cons c0 t0 => rw [hst] at hck2; cases hck2
            | nil =>
              rw [hst] at hvo2 hΨ0
              exact ⟨0, zyvo_0 hvo2, hΨ0⟩
        have hq : ∀ t : State, t.heap = H2 → s.WarmedH t.vm → zyHq mi B (fun E E2 vo => xFr fpm E E2 ∧ ∃ z : Int32, vo = (if rt = true then some (.int z) else none) ∧ Ψ x0 E E2 (xI z)) (As).toArray s (.returned vo) t := fun t ht hW => by
          subst ht
          exact ⟨vo, rfl, hK.warm hW, hI2.moved hW.alike, hΨ, hout2⟩
        refine W.widen hc hs ?_
        rcases hri with ⟨hd, x, ty, rfl, hty, hnar⟩ | ⟨hd, x, rfl, hty⟩ | ⟨hd, rfl, hty⟩
        · exact W.zret Bd.exec Bd.bytes (by rw [Bd.returns]; exact hty) hnar hq hlo hd hlocks
        · exact W.lret Bd.exec Bd.bytes (by rw [Bd.returns]; exact hty) hq hlo hd hlocks
        · exact W.vret Bd.exec Bd.bytes (by rw [Bd.returns]; exact hty) hq hlo hd hlocks
      · intro ρ2 N2 w2 pc ls st q m2 H2 locs2 lsC stA hs hR2
        have hs : zyanyB (fun x => zyxpB mi x w2 pc ls st m2) (xs i) = true := hs
        obtain ⟨x, hx, hxb⟩ := zyanyB_iff hs
        obtain ⟨e1, e3, e2, hXs, hI2⟩ := zyxp_iff (X := zyre (B, ρ, (φ i).2.2.1.length, ρ, (φ i).2.2.1.length, (zyEl mi B H, fun q => H[q]?), zyJ0) ρ2 N2) (P := (mi, tb i, fp i, [], sp i)) rfl hR2.1.1 hR2.1.2.2.2 hR2.2.1 hxb
        have hout2 : zyOut mi B s.heap H2 := fun q hq => (hR2.2.1.2.2.2.2.2 q hq).trans (hout q hq)
        have hq1 : q.1 = dep := hR2.2.2.2.2.2.1
        have hq2 : q.2.1 ≤ en.2.2.2.2.2.1 := hR2.2.2.2.2.2.2.1
        have hq3 : q.2.2 ≤ en.2.2.2.2.2.2.1 := hR2.2.2.2.2.2.2.2
        have eq2 : q.2.1 = 0 := by omega
        have eq3 : q.2.2 = 0 := by omega
        rw [eq2, eq3, e1]
        have hck := List.all_eq_true.mp (hckX i) x hx
        have hXi := xXs_of (v := fun k => xI (ρ2 k)) (fun k => rfl) hXs hck
        have hFr2 : xFr (fp i) (zyEl mi B H) (zyEl mi B H2) := fun a k hf => hR2.2.1.2.2.1 a k hf
        have hag : ∀ k, k < (φ i).2.2.1.length → xI (ρ2 k) = vv k := fun k hk => by rw [← hρv]; exact congrArg xI (hR2.1.2.2.1.2 k hk)
        refine hstop (x0) s _ hRu hRl hx0 hT0 hΦ i vv H (zyTy_of hIH) hrv hInv hKc hFr0 ?_ x hx ρ2 (fun k => xI (ρ2 k)) N2 H2 locs2 lsC stA ⟨hI2, hout2, hR2.2.2.1, ⟨hR2.2.2.2.1.2.1, hR2.2.2.2.1.2.2.1⟩, fun i c hc hn => hR2.2.2.2.1.2.2.2 i c (e3.2 i c hc hn) hn, ?_⟩ hXs.2.1 (fun k => rfl) (fun k => xI_r _) hXi hag hFr2 (xFr_trans hFr0 (xFr_mono (hfp i) hFr2)) (zyTy_of hI2)
        · intro i2 v' H3 locs3 lsD stB3 hI3 hout3 hFr3 hrv3 hInv3 hSs3 hmu
          exact IH _ (by rw [← hM]; exact hmu) i2 v' H3 locs3 lsD stB3 hI3 hout3 hFr3 hrv3 hInv3 hSs3 rfl
        · rw [← e2]
          exact zySt_map (X := zyre (B, ρ, (φ i).2.2.1.length, ρ, (φ i).2.2.1.length, (zyEl mi B H, fun q => H[q]?), zyJ0) ρ2 N2) (X2 := zyXn B ρ2 N2) (fun v w h => h) hR2.2.2.2.2.1
  obtain ⟨b0, b1⟩ := h0 (zyEl mi B s.heap) hT0 hΦ
  obtain ⟨p0, p1, p2, p3⟩ := hi0
  have hSs : zySs mi B en.2.2.1 (φ i0) (fun k => Int32.ofInt (v0 k)) s.heap [] lsA [] → W p l e { frames := dep, cells := en.2.2.2.2.2.1, slots := en.2.2.2.2.2.2.1, locals := 64 * dep } s mt (As).toArray below meth c s.heap [] 0 0 (MQ below (zyHq mi B (fun E E2 vo => xFr fpm E E2 ∧ ∃ z : Int32, vo = (if rt = true then some (.int z) else none) ∧ Ψ x0 E E2 (xI z))) (As).toArray s en.2.2.2.2.2.1 en.2.2.2.2.2.2.1 (fun q => zbs B ≤ q)) (F0 mt 0 lsA []) := fun h => by
    have hfin := claim _ i0 _ s.heap [] lsA [] hI (fun q _ => rfl) xFr_refl hrv0 b1 h rfl
    rw [p0] at hfin
    exact hfin
  refine hSs ⟨fun x hx => (by cases hx), ⟨hent.1, hent.2.1⟩, ⟨p1, fun i c hc hn => ?_⟩, xEnv_z hrv0 b0, ?_, ?_⟩
  · obtain ⟨w, q1, q2⟩ := hA i c hc hn
    exact ⟨w, hent.2.2 (i, w) q1, q2⟩
  · rw [p3]
    trivial
  · rw [p2]
    exact fun p hp => by cases hp
theorem xcutL {l : Launch} {mi : zyB} {B : zCx} {y0 : Nat} {en : zEn} {me : zMe} (hOK : zOK y0 en me) (hc0 : en.2.2.2.2.2.1 = 0) (hs0 : en.2.2.2.2.2.2.1 = 0) {dep na : Nat} {ps : List Nat} {fpm : zyR} {rt : Bool} {Φ : (Nat → Int) → zyEm → Prop} {Ψ : (Nat → Int) → zyEm → zyEm → Int → Prop} {ι : Type} (φ : ι → zyPh) (tb : ι → Nat → List zyCt) (fp : ι → zyR) (sp : ι → Nat) (xs rs : ι → List zyXp) (hCon : ∀ i, zyCons l (mi, tb i, fp i, [], sp i) zyJ0) (n : Nat)
    (hrun : ∀ i, zyok (zybtx mi (rs i)) (mi, tb i, fp i, [], sp i) (zystx mi (xs i)) n (zyln (φ i).2.2.1, (φ i).2.2.1) en.1 en.2.2.2.2 (φ i).1 (φ i).2.1 (φ i).2.2.2.2 (dep, 0, 0) [] ((φ i).2.2.2.1, []) = true)
    (hfp : ∀ i, xsubR (fp i) fpm = true) (hckX : ∀ i, (xs i).all xckX = true) (hckR : ∀ i, (rs i).all (fun x => xckX x && xrtB rt x) = true)
    (i0 : ι) (hi0 : (φ i0).1 = 0 ∧ (φ i0).2.1 = xL0 ps na en.2.2.1 ∧ (φ i0).2.2.2.1 = [] ∧ (φ i0).2.2.2.2 = []) (hna : ps.length + na ≤ en.2.2.1 ∧ ps.length + na ≤ (φ i0).2.2.1.length)
    (Inv : ι → (Nat → Int) → zyEm → (Nat → Int) → zyEm → Prop) (Mu : ι → (Nat → Int) → zyEm → (Nat → Int) → zyEm → Nat)
    (h0 : ∀ (x : Nat → Int) (E : zyEm), xRg x → zyTy mi E → Φ x E → xEnv (xv0 ps.length x) (φ i0).2.2.1 ∧ Inv i0 x E (xv0 ps.length x) E)
    (hstop : ∀ (x0 : Nat → Int) (s : State) (Wg : zyWt), xRu l mi en dep B s Wg → xRl mi en B s Wg → xRg x0 → zyTy mi (zyEl mi B s.heap) → Φ x0 (zyEl mi B s.heap) → ∀ (i : ι) (v : Nat → Int) (H : Heap), zyTy mi (zyEl mi B H) → xRg v → Inv i x0 (zyEl mi B s.heap) v (zyEl mi B H) → xKc (φ i).2.2.2.1 v (zyEl mi B H) → xFr fpm (zyEl mi B s.heap) (zyEl mi B H) → xIH mi en.2.2.1 B s fpm φ (fun i => Inv i x0 (zyEl mi B s.heap)) (fun i => Mu i x0 (zyEl mi B s.heap)) (Mu i x0 (zyEl mi B s.heap) v (zyEl mi B H)) Wg →
      ∀ x ∈ xs i, ∀ (ρ2 : Nat → Int32) (v2 : Nat → Int) (N2 : Nat) (H2 : Heap) (locs : List Loc) (lsB : Array Slot) (stA : List Value), zyAt mi B s en.2.2.1 x ρ2 N2 H2 locs lsB stA → xBd ρ2 x.2.2.2.2.1 → (∀ k, xI (ρ2 k) = v2 k) → xRg v2 → xXs x v2 (zyEl mi B H) (zyEl mi B H2) → (∀ k, k < (φ i).2.2.1.length → v2 k = v k) → xFr (fp i) (zyEl mi B H) (zyEl mi B H2) → xFr fpm (zyEl mi B s.heap) (zyEl mi B H2) → zyTy mi (zyEl mi B H2) → Wg H2 locs x.1 lsB stA)
    (hret : ∀ (x0 : Nat → Int) (E0 E E2 : zyEm), xRg x0 → zyTy mi E0 → Φ x0 E0 → ∀ (i : ι) (v : Nat → Int), zyTy mi E → xRg v → Inv i x0 E0 v E → xKc (φ i).2.2.2.1 v E → xFr fpm E0 E → ∀ x ∈ rs i, ∀ (v2 : Nat → Int), xRg v2 → xXs x v2 E E2 → (∀ k, k < (φ i).2.2.1.length → v2 k = v k) → xFr (fp i) E E2 → xFr fpm E0 E2 → zyTy mi E2 → Ψ x0 E0 E2 (xrv x.2.2.1 v2)) : xFcB l mi B en me dep ps na fpm rt Φ Ψ := by
  intro as has
  have hx0 : xRg (xfv (as.map xI)) := fun k => by rw [xfv_map]; exact xI_r _
  have hll : (lg_sl (xAg B ps as)).length = ps.length + na := by
    unfold xAg
    rw [xrefs_len, zylg_len, has]
  refine xcutLM (As := xAg B ps as) (x0 := xfv (as.map xI)) (v0 := xv0 ps.length (xfv (as.map xI))) hOK hc0 hs0 hx0 (xv0_r hx0 _) φ tb fp sp xs rs hCon n hrun hfp hckX hckR i0 ⟨hi0.1, ?_, hi0.2.2⟩ (by rw [hll]; exact hna.1) (fun i c hc hn => ?_) Inv Mu (fun E => h0 _ E hx0) hstop hret
  · rw [hi0.2.1]
    unfold xL0
    rw [List.length_append, List.length_map, zyL0a_len]
    omega
  · rw [hi0.2.1] at hc
    unfold xL0 at hc
    by_cases hi : i < ps.length
    · rw [List.getElem?_append_left (by rw [List.length_map]; exact hi), List.getElem?_map] at hc
      obtain ⟨p, hp⟩ : ∃ p, ps[i]? = some p := ⟨ps[i], List.getElem?_eq_getElem hi⟩
      rw [hp] at hc
      have hc : some (8 * p + 3) = some c := hc
      cases hc
      have hm := xrefs_mem (B := B) (r := as.map Value.int) (o := 0) hp
      rw [Nat.zero_add] at hm
      exact ⟨.ref (zad B p), hm, Or.inl ⟨Or.inr (Or.inr (Or.inr (Or.inl ⟨by omega, by rw [show (8 * p + 3) / 8 = p by omega]⟩))), fun q => by omega, fun q => by omega⟩⟩
    · rw [List.getElem?_append_right (by rw [List.length_map]; omega), List.length_map] at hc
      obtain ⟨q1, q2⟩ := zyL0a_get hc hn
      obtain ⟨x, hx⟩ : ∃ x, as[i - ps.length]? = some x := ⟨as[i - ps.length]'(by omega), List.getElem?_eq_getElem (by omega)⟩
      refine ⟨.int x, ?_, ?_⟩
      · have hm := zyargs_mem (o := ps.length) hx
        rw [show ps.length + (i - ps.length) = i by omega] at hm
        exact xrefs_mem2 (o := 0) (by rw [Nat.zero_add]; exact hm)
      · rw [q2, show ps.length + (i - ps.length) = i by omega]
        refine zyv_sym (by omega) ?_
        have e1 : xv0 ps.length (xfv (as.map xI)) i = xI x := by
          have := xv0_ge (x := xfv (as.map xI)) (m := ps.length) (k := i - ps.length)
          rw [show ps.length + (i - ps.length) = i by omega, xfv_map, hx] at this
          exact this
        show Int32.ofInt (xv0 ps.length (xfv (as.map xI)) i) = x
        rw [e1]
        exact xofI x
