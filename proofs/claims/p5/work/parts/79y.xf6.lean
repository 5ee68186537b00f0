/-! A BYTE made of an int and stored at once -/
def xI8 (a : Int) : Int := xI (Int32.ofInt a).toInt8.toInt32
theorem xI8_r (a : Int) : -128 ≤ xI8 a ∧ xI8 a ≤ 127 := by
  unfold xI8 xI
  rw [Int8.toInt_toInt32]
  have h1 := Int8.le_toInt (Int32.ofInt a).toInt8
  have h2 := Int8.toInt_lt (Int32.ofInt a).toInt8
  omega
/-- the k-th byte of an int, the highest first -/
def fby (x k : Int) : Int := xI8 (xop 9 x (24 - 8 * k))
section XSB
variable {l : Launch} {mi : zyB} {en : zEn} {dep : Nat} {B : zCx} {s : State} {fpm : zyR} {ι : Type} {φ : ι → zyPh} {Inv : ι → (Nat → Int) → zyEm → Prop} {Mu : ι → (Nat → Int) → zyEm → Nat} {M : Nat} {Wg : zyWt} {x : zyXp} {ρ2 : Nat → Int32} {v2 : Nat → Int} {N : Nat} {H : Heap} {locs : List Loc} {lsB : Array Slot} {stA : List Value}
theorem xSb (hRu : xRu l mi en dep B s Wg) (hIH : xIH mi en.2.2.1 B s fpm φ Inv Mu M Wg) (hAt : zyAt mi B s en.2.2.1 x ρ2 N H locs lsB stA) (hB : xBd ρ2 x.2.2.2.2.1) (hv : ∀ k, xI (ρ2 k) = v2 k) (hFr : xFr fpm (zyEl mi B s.heap) (zyEl mi B H)) (a : Nat) {ax ax2 : Nat} {c : zyCl} (cv cj : Nat) (V J : Int) (hst : x.2.2.1 = [cv, cj, 8 * a + 3]) (hrow : en.1 x.1 = (.i2b, x.1 + 1, ax)) (hrow2 : en.1 (x.1 + 1) = (.bastore, x.1 + 1 + 1, ax2)) (h22 : c.1 = 22) (hg : zG mi a = some c) (hck : (decide (cv % 8 ≤ 1) && xofB x.2.2.2.2.1 cv && decide (cj % 8 ≤ 1) && xofB x.2.2.2.2.1 cj) = true) (hV : xc v2 cv = V) (hJ : xc v2 cj = J) (hJ0 : 0 ≤ J) (hJn : J < (c.2.1 : Int)) (hrows : ∀ r ∈ c.2.2, (r.1 : Int) ≤ J → J ≤ (r.2.1 : Int) → r.2.2 % 8 = 2 ∧ ((r.2.2 / 34359738368 : Nat) : Int) ≤ -128 + 2147483648 ∧ 127 + 2147483648 ≤ ((r.2.2 / 8 % 4294967296 : Nat) : Int)) (hin : zyin fpm a J.toNat = true)
    (kk : ∀ (H3 : Heap), zyTy mi (zyEl mi B H3) → xE (zyEl mi B H3) a J = xI8 V → (∀ (a2 : Nat) (k2 : Int), 0 ≤ k2 → ¬ (a2 = a ∧ k2 = J) → xE (zyEl mi B H3) a2 k2 = xE (zyEl mi B H) a2 k2) → (∀ a2 k2, ¬ (a2 = a ∧ k2 = J.toNat) → zyEl mi B H3 a2 k2 = zyEl mi B H a2 k2) → xFr fpm (zyEl mi B s.heap) (zyEl mi B H3) → ∃ (i2 : ι) (cs : List Nat) (L : List Int), (φ i2).1 = x.1 + 1 + 1 ∧ xJ mi B en.2.2.1 x v2 (φ i2) (zyEl mi B H3) cs L ∧ (φ i2).2.2.2.2 = [] ∧ Inv i2 (xfv L) (zyEl mi B H3) ∧ Mu i2 (xfv L) (zyEl mi B H3) < M) : Wg H locs x.1 lsB stA := by
  have hs := hAt.2.2.2.2.2
  rw [hst] at hs
  obtain ⟨w0, t0, rfl, a0, hs⟩ := zySt_c hs
  obtain ⟨w1, t1, rfl, a1, hs⟩ := zySt_c hs
  obtain ⟨w2, t2, rfl, a2, hs⟩ := zySt_c hs
  have e3 := zySt_n hs
  subst e3
  rw [Bool.and_eq_true, Bool.and_eq_true, Bool.and_eq_true, decide_eq_true_eq, decide_eq_true_eq] at hck
  obtain ⟨⟨⟨k1, k2⟩, k3⟩, k4⟩ := hck
  obtain ⟨z0, rfl⟩ := zyv_int a0 (by omega)
  obtain ⟨z1, rfl⟩ := zyv_int a1 (by omega)
  have e2 := zyv_3 a2 (by omega)
  rw [show (8 * a + 3) / 8 = a by omega] at e2
  have e2 : w2 = .ref (zad B a) := e2
  have e0 : xI z0 = V := by
    rw [show z0 = zyw ρ2 cv from zyw_of a0 k1, xofB_iff hv hB k2]
    exact hV
  have e1 : xI z1 = J := by
    rw [show z1 = zyw ρ2 cj from zyw_of a1 k3, xofB_iff hv hB k4]
    exact hJ
  have r1 := xI_r z1
  have e1 : z1 = Int32.ofNat J.toNat := by
    apply xI_inj
    rw [e1, xI_nat (by omega)]
    have : xsg J.toNat = ((J.toNat : Nat) : Int) := if_pos (by omega)
    omega
  have e8 : xI z0.toInt8.toInt32 = xI8 V := by
    unfold xI8
    rw [← e0, xofI]
  have rg := xI8_r V
  rw [e2, e1]
  refine hRu.2.2 x.1 ax z0 _ H locs lsB hrow ?_
  have bz := xI_zB z0.toInt8.toInt32
  refine hRu.2.1 (x.1 + 1) ax2 a J.toNat c z0.toInt8.toInt32 H locs lsB (Or.inr (Or.inl ⟨h22, hrow2, ?_, ?_⟩)) hg (by omega) (fun r hr q1 q2 => ?_) hAt.1 hAt.2.2.1 (fun H3 locs3 hI3 hO3 hlo3 h1 h2 => ?_)
  · have e8 : z0.toInt8.toInt32.toInt = xI8 V := e8
    omega
  · have e8 : z0.toInt8.toInt32.toInt = xI8 V := e8
    omega
  · obtain ⟨p1, p2, p3⟩ := hrows r hr (by omega) (by omega)
    exact ⟨p1, by omega, by omega⟩
  · have hFr3 : xFr fpm (zyEl mi B s.heap) (zyEl mi B H3) := by
      intro a2 k2 hk
      rw [h2 a2 k2 (fun z => by rw [z.1, z.2] at hk; rw [hk] at hin; cases hin)]
      exact hFr a2 k2 hk
    obtain ⟨i2, cs, L, p1, p2, p3, p4, p5⟩ := kk H3 (zyTy_of hI3) (by rw [xE_s h1 rfl]; exact e8) (fun a2 k2 hk0 hne => by
      unfold xE
      rw [h2 a2 k2.toNat (fun z => hne ⟨z.1, by omega⟩)]) h2 hFr3
    have g := (xe_env p2.2.2.2.1).2
    rw [← p1]
    refine hIH i2 (xfv L) H3 locs3 lsB [] hI3 (fun q hq => (hO3 q hq).trans (hAt.2.1 q hq)) hFr3 g p4 (xJ_s hAt hB hv p2 hlo3 ?_) p5
    rw [p3]
    trivial
end XSB
