/-! isWord: to the phase behind the comparison of longs, one int on the stack -/
section XLG2
variable {l : Launch} {en : zEn} {B : zCx} {s : State} {fpm : zyR} {ι : Type} {φ : ι → zyPh} {Inv : ι → (Nat → Int) → zyEm → Prop} {Mu : ι → (Nat → Int) → zyEm → Nat} {M : Nat} {Wg : zyWt} {x : zyXp} {ρ2 : Nat → Int32} {v2 : Nat → Int} {N : Nat} {H : Heap} {locs : List Loc} {lsB : Array Slot} {stA : List Value}
theorem xLgo2 (hRl : xRl zymx en B s Wg) (hIH : xIH zymx en.2.2.1 B s fpm φ Inv Mu M Wg) (hAt : zyAt zymx B s en.2.2.1 x ρ2 N H locs lsB stA) (hB : xBd ρ2 x.2.2.2.2.1) (hv : ∀ k, xI (ρ2 k) = v2 k) (hFr : xFr fpm (zyEl zymx B s.heap) (zyEl zymx B H)) (hen : en.1 = zxi316) (hl0 : x.2.1[0]? = some 595) (c1 : Nat) (hl1 : x.2.1[1]? = some c1) (hc8 : Nat.ble (Nat.mod c1 8) 1 = true) (hcB : xofB x.2.2.2.2.1 c1 = true) (W : Int) (hW : xc v2 c1 = W) (hW0 : 0 ≤ W ∧ W < 9) (hst : x.2.2.1 = []) (hpc : x.1 = 15) {L L2 : Int64} (h1 : zyEl zymx B H 74 43 = some (.long L)) (h2 : zyEl zymx B H 85 W.toNat = some (.long L2))
    (kk : ∃ (i2 : ι) (cs : List Nat) (Ls : List Int) (k : Nat), (φ i2).1 = 26 ∧ xJ zymx B en.2.2.1 x v2 (φ i2) (zyEl zymx B H) cs Ls ∧ (φ i2).2.2.2.2 = [zysym k] ∧ k < (φ i2).2.2.1.length ∧ xfv Ls k = xI (lg_cmp L L2) ∧ Inv i2 (xfv Ls) (zyEl zymx B H) ∧ Mu i2 (xfv Ls) (zyEl zymx B H) < M) : Wg H locs x.1 lsB stA := by
  have hs := hAt.2.2.2.2.2
  rw [hst] at hs
  have e3 := zySt_n hs
  subst e3
  have hc8 : c1 % 8 ≤ 1 := Nat.le_of_ble_eq_true hc8
  obtain ⟨w1, g1, g2⟩ := hAt.2.2.2.2.1 0 595 hl0 (by decide)
  have e4 := zyv_3 g2 (by decide)
  have e4 : w1 = .ref (zad B 74) := e4
  subst e4
  obtain ⟨w2, g3, g4⟩ := hAt.2.2.2.2.1 1 c1 hl1 (by omega)
  obtain ⟨z, rfl⟩ := zyv_int g4 (by omega)
  have e0 : xI z = W := by
    rw [show z = zyw ρ2 c1 from zyw_of g4 hc8, xofB_iff hv hB hcB]
    exact hW
  have e1 : z = Int32.ofNat W.toNat := by
    apply xI_inj
    rw [e0, xI_nat (by omega)]
    have : xsg W.toNat = ((W.toNat : Nat) : Int) := if_pos (by omega)
    omega
  rw [e1] at g3
  rw [hpc]
  refine xLi hRl hen (c74 := zymr74) rfl rfl (c85 := (21, 9, [(0, 8, 147573952589676412932)])) rfl rfl hAt.1 g1 (q := W.toNat) g3 (show W.toNat < 9 by omega) h1 (zyMI_ref hAt.1 (q := 44) (p := 85) (c := zymr74) rfl (by decide) rfl (by decide) (by decide) rfl) h2 ?_
  obtain ⟨i2, cs, Ls, k, p1, p2, p3, p4, p5, p6, p7⟩ := kk
  have g := (xe_env p2.2.2.2.1).2
  rw [← p1]
  refine hIH i2 (xfv Ls) H locs lsB _ hAt.1 hAt.2.1 hFr g p6 (xJ_s hAt hB hv p2 hAt.2.2.1 ?_) p7
  rw [p3]
  refine ⟨zyv_sym p4 ?_, trivial⟩
  show Int32.ofInt (xfv Ls k) = _
  rw [p5]
  exact xofI _
end XLG2
theorem xcmp_0 {a b : Int64} : xI (lg_cmp a b) = 0 ↔ a = b := by
  rw [← lg_cmp_eq]
  constructor
  · intro h
    apply xI_inj
    rw [h]
    rfl
  · intro h
    rw [h]
    rfl
