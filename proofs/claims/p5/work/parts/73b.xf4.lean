/-! A CONTRACT OF (a reference, an int, a reference) -/
def xFq (l : Launch) (mi : zyB) (B : zCx) (en : zEn) (me : zMe) (dep p0 q0 : Nat) (fp : zyR) (rt : Bool) (Φ : (Nat → Int) → zyEm → Prop) (Ψ : (Nat → Int) → zyEm → zyEm → Int → Prop) : Prop := ∀ z : Int32, xMt l mi B en me dep [.ref (zad B p0), .int z, .ref (zad B q0)] (Φ (xfv [xI z])) (fun E E2 vo => xFr fp E E2 ∧ ∃ z2 : Int32, vo = (if rt = true then some (.int z2) else none) ∧ Ψ (xfv [xI z]) E E2 (xI z2))
def xv0q (x : Nat → Int) : Nat → Int
  | 1 => x 0
  | _ => 0
theorem xv0q_r {x : Nat → Int} (h : xRg x) : xRg (xv0q x) := fun k => by
  unfold xv0q
  split
  · exact h 0
  · omega
theorem xfv1_r (z : Int32) : xRg (xfv [xI z]) := fun k => by
  cases k with
  | zero => exact xI_r z
  | succ k => show -2147483648 ≤ (0 : Int) ∧ (0 : Int) < 2147483648; omega
theorem xcutq {l : Launch} {mi : zyB} {B : zCx} {y0 : Nat} {en : zEn} {me : zMe} (hOK : zOK y0 en me) (hc0 : en.2.2.2.2.2.1 = 0) (hs0 : en.2.2.2.2.2.2.1 = 0) {dep p0 q0 : Nat} {fpm : zyR} {rt : Bool} {Φ : (Nat → Int) → zyEm → Prop} {Ψ : (Nat → Int) → zyEm → zyEm → Int → Prop} {ι : Type} (φ : ι → zyPh) (tb : ι → Nat → List zyCt) (fp : ι → zyR) (sp : ι → Nat) (xs rs : ι → List zyXp) (hCon : ∀ i, zyCons l (mi, tb i, fp i, [], sp i) zyJ0) (n : Nat)
    (hrun : ∀ i, zyok (zybtx mi (rs i)) (mi, tb i, fp i, [], sp i) (zystx mi (xs i)) n (zyln (φ i).2.2.1, (φ i).2.2.1) en.1 en.2.2.2.2 (φ i).1 (φ i).2.1 (φ i).2.2.2.2 (dep, 0, 0) [] ((φ i).2.2.2.1, []) = true)
    (hfp : ∀ i, xsubR (fp i) fpm = true) (hckX : ∀ i, (xs i).all xckX = true) (hckR : ∀ i, (rs i).all (fun x => xckX x && xrtB rt x) = true)
    (i0 : ι) (hi0 : (φ i0).1 = 0 ∧ (φ i0).2.1 = (8 * p0 + 3) :: zysym 1 :: (8 * q0 + 3) :: List.replicate (en.2.2.1 - 3) 13 ∧ (φ i0).2.2.2.1 = [] ∧ (φ i0).2.2.2.2 = []) (hna : 3 ≤ en.2.2.1 ∧ 2 ≤ (φ i0).2.2.1.length)
    (Inv : ι → (Nat → Int) → zyEm → (Nat → Int) → zyEm → Prop) (Mu : ι → (Nat → Int) → zyEm → (Nat → Int) → zyEm → Nat)
    (h0 : ∀ (x : Nat → Int) (E : zyEm), xRg x → zyTy mi E → Φ x E → xEnv (xv0q x) (φ i0).2.2.1 ∧ Inv i0 x E (xv0q x) E)
    (hstop : ∀ (x0 : Nat → Int) (s : State) (Wg : zyWt), xRu l mi en dep B s Wg → xRg x0 → zyTy mi (zyEl mi B s.heap) → Φ x0 (zyEl mi B s.heap) → ∀ (i : ι) (v : Nat → Int) (H : Heap), zyTy mi (zyEl mi B H) → xRg v → Inv i x0 (zyEl mi B s.heap) v (zyEl mi B H) → xKc (φ i).2.2.2.1 v (zyEl mi B H) → xFr fpm (zyEl mi B s.heap) (zyEl mi B H) → xIH mi en.2.2.1 B s fpm φ (fun i => Inv i x0 (zyEl mi B s.heap)) (fun i => Mu i x0 (zyEl mi B s.heap)) (Mu i x0 (zyEl mi B s.heap) v (zyEl mi B H)) Wg →
      ∀ x ∈ xs i, ∀ (ρ2 : Nat → Int32) (v2 : Nat → Int) (N2 : Nat) (H2 : Heap) (locs : List Loc) (lsB : Array Slot) (stA : List Value), zyAt mi B s en.2.2.1 x ρ2 N2 H2 locs lsB stA → xBd ρ2 x.2.2.2.2.1 → (∀ k, xI (ρ2 k) = v2 k) → xRg v2 → xXs x v2 (zyEl mi B H) (zyEl mi B H2) → (∀ k, k < (φ i).2.2.1.length → v2 k = v k) → xFr (fp i) (zyEl mi B H) (zyEl mi B H2) → xFr fpm (zyEl mi B s.heap) (zyEl mi B H2) → zyTy mi (zyEl mi B H2) → Wg H2 locs x.1 lsB stA)
    (hret : ∀ (x0 : Nat → Int) (E0 E E2 : zyEm), xRg x0 → zyTy mi E0 → Φ x0 E0 → ∀ (i : ι) (v : Nat → Int), zyTy mi E → xRg v → Inv i x0 E0 v E → xKc (φ i).2.2.2.1 v E → xFr fpm E0 E → ∀ x ∈ rs i, ∀ (v2 : Nat → Int), xRg v2 → xXs x v2 E E2 → (∀ k, k < (φ i).2.2.1.length → v2 k = v k) → xFr (fp i) E E2 → xFr fpm E0 E2 → zyTy mi E2 → Ψ x0 E0 E2 (xrv x.2.2.1 v2)) : xFq l mi B en me dep p0 q0 fpm rt Φ Ψ := by
  intro z
  have hx0 := xfv1_r z
  refine xcutM (As := [.ref (zad B p0), .int z, .ref (zad B q0)]) (x0 := xfv [xI z]) (v0 := xv0q (xfv [xI z])) hOK hc0 hs0 hx0 (xv0q_r hx0) φ tb fp sp xs rs hCon n hrun hfp hckX hckR i0 ⟨hi0.1, ?_, hi0.2.2⟩ (show 3 ≤ _ from hna.1) (fun i c hc hn => ?_) Inv Mu (fun E => h0 _ E hx0) hstop hret
  · rw [hi0.2.1, List.length_cons, List.length_cons, List.length_cons, List.length_replicate]
    omega
  · rw [hi0.2.1] at hc
    match i, hc with
    | 0, hc =>
      have hc : some (8 * p0 + 3) = some c := hc
      cases hc
      exact ⟨.ref (zad B p0), List.mem_cons_self, Or.inl ⟨Or.inr (Or.inr (Or.inr (Or.inl ⟨by omega, by rw [show (8 * p0 + 3) / 8 = p0 by omega]⟩))), fun q => by omega, fun q => by omega⟩⟩
    | 1, hc =>
      have hc : some (zysym 1) = some c := hc
      cases hc
      exact ⟨.int z, List.mem_cons_of_mem _ List.mem_cons_self, zyv_sym (by omega) (xofI z)⟩
    | 2, hc =>
      have hc : some (8 * q0 + 3) = some c := hc
      cases hc
      exact ⟨.ref (zad B q0), List.mem_cons_of_mem _ (List.mem_cons_of_mem _ List.mem_cons_self), Or.inl ⟨Or.inr (Or.inr (Or.inr (Or.inl ⟨by omega, by rw [show (8 * q0 + 3) / 8 = q0 by omega]⟩))), fun q => by omega, fun q => by omega⟩⟩
    | k + 3, hc =>
      have hc : (List.replicate (en.2.2.1 - 3) 13)[k]? = some c := hc
      exact absurd (List.eq_of_mem_replicate (List.mem_of_getElem? hc)) hn
section XGO
variable {l : Launch} {mi : zyB} {en : zEn} {dep : Nat} {B : zCx} {s : State} {fpm : zyR} {ι : Type} {φ : ι → zyPh} {Inv : ι → (Nat → Int) → zyEm → Prop} {Mu : ι → (Nat → Int) → zyEm → Nat} {M : Nat} {Wg : zyWt} {x : zyXp} {ρ2 : Nat → Int32} {v2 : Nat → Int} {N : Nat} {H : Heap} {locs : List Loc} {lsB : Array Slot} {stA : List Value}
theorem xCaq (hRu : xRu l mi en dep B s Wg) (hIH : xIH mi en.2.2.1 B s fpm φ Inv Mu M Wg) (hAt : zyAt mi B s en.2.2.1 x ρ2 N H locs lsB stA) (hB : xBd ρ2 x.2.2.2.2.1) (hv : ∀ k, xI (ρ2 k) = v2 k) (hFr : xFr fpm (zyEl mi B s.heap) (zyEl mi B H)) {en2 : zEn} {me2 : zMe} {dep2 p0 q0 : Nat} {fp2 : zyR} {rt2 : Bool} {Φ2 : (Nat → Int) → zyEm → Prop} {Ψ2 : (Nat → Int) → zyEm → zyEm → Int → Prop} (hFc : xFq l mi B en2 me2 dep2 p0 q0 fp2 rt2 Φ2 Ψ2) {ix ax : Nat} (hrow : en.1 x.1 = (.invokevirtual ix, x.1 + 3, ax)) (hkd : zG zKd (ax / 16) = some 0) (hen2 : zG zxMeta (ax / 16) = some en2) (hme2 : zG zMeth (ax / 16) = some me2) (hcl : ∃ c, zG mi p0 = some c ∧ c.1 = en2.2.2.2.1 ∧ c.1 < 12) (hsh : en2.2.1 = 3 ∧ en2.2.2.2.2.2.1 = 0 ∧ en2.2.2.2.2.2.2.1 = 0) (hdp : dep2 + 1 ≤ dep) (cn : Nat) (cr : List Nat) (A : Int) (hst : x.2.2.1 = (8 * q0 + 3) :: cn :: (8 * p0 + 3) :: cr) (hck : (decide (cn % 8 ≤ 1) && xofB x.2.2.2.2.1 cn && cr.all (fun c => decide (c % 8 ≤ 1) || decide (c % 8 = 3)) && decide (cr.length ≤ 8)) = true) (hA : xc v2 cn = A) (hsub : xsubR fp2 fpm = true) (hΦ : Φ2 (xfv [A]) (zyEl mi B H))
    (kk : ∀ (H3 : Heap) (r : Int), zyTy mi (zyEl mi B H3) → xFr fp2 (zyEl mi B H) (zyEl mi B H3) → xFr fpm (zyEl mi B s.heap) (zyEl mi B H3) → (-2147483648 ≤ r ∧ r < 2147483648) → Ψ2 (xfv [A]) (zyEl mi B H) (zyEl mi B H3) r → ∃ (i2 : ι) (cs : List Nat) (L : List Int), (φ i2).1 = x.1 + 3 ∧ xJ mi B en.2.2.1 x v2 (φ i2) (zyEl mi B H3) cs L ∧ (if rt2 = true then ∃ (k : Nat) (t2 : List Nat), (φ i2).2.2.2.2 = zysym k :: t2 ∧ k < (φ i2).2.2.1.length ∧ xfv L k = r ∧ xst x.2.2.2.2.1 v2 L (φ i2).2.2.1.length t2 cr else xst x.2.2.2.2.1 v2 L (φ i2).2.2.1.length (φ i2).2.2.2.2 cr) ∧ Inv i2 (xfv L) (zyEl mi B H3) ∧ Mu i2 (xfv L) (zyEl mi B H3) < M) : Wg H locs x.1 lsB stA := by
  have hs := hAt.2.2.2.2.2
  rw [hst] at hs
  obtain ⟨w0, t0, rfl, a0, hs⟩ := zySt_c hs
  obtain ⟨w1, t1, rfl, a1, hs⟩ := zySt_c hs
  obtain ⟨w2, q3, rfl, a2, g3⟩ := zySt_c hs
  rw [Bool.and_eq_true, Bool.and_eq_true, Bool.and_eq_true, decide_eq_true_eq, decide_eq_true_eq, List.all_eq_true] at hck
  obtain ⟨⟨⟨c1, c0⟩, c2⟩, c3⟩ := hck
  have c2a : ∀ c ∈ cr, c % 8 ≤ 1 ∨ c % 8 = 3 := fun c hc => by
    have := c2 c hc
    rw [Bool.or_eq_true, decide_eq_true_eq, decide_eq_true_eq] at this
    exact this
  obtain ⟨zn, rfl⟩ := zyv_int a1 (by omega)
  have e0 := zyv_3 a0 (by omega)
  have e2 := zyv_3 a2 (by omega)
  rw [show (8 * q0 + 3) / 8 = q0 by omega] at e0
  rw [show (8 * p0 + 3) / 8 = p0 by omega] at e2
  have e0 : w0 = .ref (zad B q0) := e0
  have e2 : w2 = .ref (zad B p0) := e2
  have en : xI zn = A := by
    rw [show zn = zyw ρ2 cn from zyw_of a1 c1, xofB_iff hv hB c0]
    exact hA
  have hM2 := hFc zn
  rw [en] at hM2
  rw [e0, e2]
  refine hRu.1 x.1 ix ax en2 me2 dep2 p0 [.int zn, .ref (zad B q0)] _ _ q3 H locs lsB (by rw [xcat c2a g3]; exact c3) hrow hkd hen2 hme2 hcl hsh.1.symm hsh.2.1 hsh.2.2 hM2 hdp hAt.1 hAt.2.2.1 hAt.2.2.2.1.1 hΦ (fun H3 locs3 vo hI3 hO3 hlo3 hΨ => ?_)
  obtain ⟨hf, z, hvo, hΨ⟩ := hΨ
  have hFr3 := xFr_trans hFr (xFr_mono hsub hf)
  obtain ⟨i2, cs, L, k1, k2, k3, k4, k5⟩ := kk H3 (xI z) (zyTy_of hI3) hf hFr3 (xI_r z) hΨ
  have g := (xe_env k2.2.2.2.1).2
  rw [← k1]
  refine hIH i2 (xfv L) H3 locs3 lsB _ hI3 (fun q hq => (hO3 q hq).trans (hAt.2.1 q hq)) hFr3 g k4 (xJ_s hAt hB hv k2 hlo3 ?_) k5
  cases hr : rt2 with
  | true =>
    rw [hr] at k3 hvo
    rw [if_pos rfl] at k3 hvo
    obtain ⟨k, t2, w1, w2, w3, w4⟩ := k3
    rw [w1, hvo]
    refine ⟨zyv_sym w2 ?_, xst_g hv hB g w4 g3⟩
    show Int32.ofInt (xfv L k) = z
    rw [w3]
    exact xofI z
  | false =>
    rw [hr] at k3 hvo
    rw [if_neg (by decide)] at k3 hvo
    rw [hvo]
    exact xst_g hv hB g k3 g3
end XGO
