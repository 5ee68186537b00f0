/-! LETTERS: to a phase behind the store of a long -/
theorem zyMI_code {mi : zyB} {B : zCx} {s : State} {H : Heap} (hI : zyMI mi B zyJ0 s H) {a k q : Nat} {c : zyCl} {r : Nat × Nat × Nat} (hg : zG mi a = some c) (hk : k < zyLen c) (hr : c.2.2[q]? = some r) (h1 : r.1 ≤ k) (h2 : k ≤ r.2.1) : ∃ w ρ N, zyEl mi B H a k = some w ∧ zyv ρ N (zad B) r.2.2 w := by
  obtain ⟨w, g1, g2⟩ := hI.2.1 a c k hg hk
  have g3 := g2 r (List.mem_of_getElem? hr) h1 h2
  exact ⟨w, _, _, g1, g3.2⟩
theorem zyMI_ref {mi : zyB} {B : zCx} {s : State} {H : Heap} (hI : zyMI mi B zyJ0 s H) {a k q p : Nat} {c : zyCl} {r : Nat × Nat × Nat} (hg : zG mi a = some c) (hk : k < zyLen c) (hr : c.2.2[q]? = some r) (h1 : r.1 ≤ k) (h2 : k ≤ r.2.1) (h3 : r.2.2 = 8 * p + 3) : zyEl mi B H a k = some (.ref (zad B p)) := by
  obtain ⟨w, ρ, N, g1, g2⟩ := zyMI_code hI hg hk hr h1 h2
  rw [h3] at g2
  have e := zyv_3 g2 (by omega)
  rw [show (8 * p + 3) / 8 = p by omega] at e
  rw [g1, e]
theorem zyMI_long {mi : zyB} {B : zCx} {s : State} {H : Heap} (hI : zyMI mi B zyJ0 s H) {a k q : Nat} {c : zyCl} {r : Nat × Nat × Nat} (hg : zG mi a = some c) (hk : k < zyLen c) (hr : c.2.2[q]? = some r) (h1 : r.1 ≤ k) (h2 : k ≤ r.2.1) (h3 : r.2.2 = 147573952589676412932) : ∃ x : Int64, zyEl mi B H a k = some (.long x) := by
  obtain ⟨w, ρ, N, g1, g2⟩ := zyMI_code hI hg hk hr h1 h2
  rw [h3] at g2
  obtain ⟨z, hx, -⟩ := zyv_4 g2 (by decide)
  exact ⟨z, by rw [g1, hx]⟩
theorem xE_some {mi : zyB} {E : zyEm} (hT : zyTy mi E) {a k q : Nat} {c : zyCl} {r : Nat × Nat × Nat} (hg : zG mi a = some c) (hk : k < zyLen c) (hr : c.2.2[q]? = some r) (h1 : r.1 ≤ k) (h2 : k ≤ r.2.1) (h3 : r.2.2 % 8 = 2) : E a k = some (.int (Int32.ofInt (xE E a (k : Int)))) := by
  obtain ⟨x, e, -, -⟩ := xTy hT hg hk hr h1 h2 h3
  rw [xE_s e (Int.toNat_natCast _), xofI]
  exact e
section XLG
variable {l : Launch} {en : zEn} {B : zCx} {s : State} {fpm : zyR} {ι : Type} {φ : ι → zyPh} {Inv : ι → (Nat → Int) → zyEm → Prop} {Mu : ι → (Nat → Int) → zyEm → Nat} {M : Nat} {Wg : zyWt} {x : zyXp} {ρ2 : Nat → Int32} {v2 : Nat → Int} {N : Nat} {H : Heap} {locs : List Loc} {lsB : Array Slot} {stA : List Value}
theorem xLgo (hRl : xRl zymx en B s Wg) (hIH : xIH zymx en.2.2.1 B s fpm φ Inv Mu M Wg) (hAt : zyAt zymx B s en.2.2.1 x ρ2 N H locs lsB stA) (hB : xBd ρ2 x.2.2.2.2.1) (hv : ∀ k, xI (ρ2 k) = v2 k) (hFr : xFr fpm (zyEl zymx B s.heap) (zyEl zymx B H)) (hen : en.1 = zxi314) (hl0 : x.2.1[0]? = some 595) (hst : x.2.2.1 = [595]) (hin : zyin fpm 74 43 = true) (y : Int64)
    (hy : (x.1 = 185 ∧ ∃ L : Int64, zyEl zymx B H 74 43 = some (.long L) ∧ 0 ≤ xE (zyEl zymx B H) 74 39 ∧ xE (zyEl zymx B H) 74 39 < 900 ∧ y = xLt L (Int32.ofInt (xE (zyEl zymx B H) 84 (xE (zyEl zymx B H) 74 39)))) ∨ (x.1 = 211 ∧ y = Int64.ofNat 18446744073709551615))
    (kk : ∀ (H3 : Heap), zyTy zymx (zyEl zymx B H3) → zyEl zymx B H3 74 43 = some (.long y) → (∀ a2 k2, ¬ (a2 = 74 ∧ k2 = 43) → zyEl zymx B H3 a2 k2 = zyEl zymx B H a2 k2) → xFr fpm (zyEl zymx B s.heap) (zyEl zymx B H3) → ∃ (i2 : ι) (cs : List Nat) (L : List Int), (φ i2).1 = 217 ∧ xJ zymx B en.2.2.1 x v2 (φ i2) (zyEl zymx B H3) cs L ∧ (φ i2).2.2.2.2 = [] ∧ Inv i2 (xfv L) (zyEl zymx B H3) ∧ Mu i2 (xfv L) (zyEl zymx B H3) < M) : Wg H locs x.1 lsB stA := by
  have hs := hAt.2.2.2.2.2
  rw [hst] at hs
  obtain ⟨w0, t0, rfl, a0, hs⟩ := zySt_c hs
  have e3 := zySt_n hs
  subst e3
  have e2 := zyv_3 a0 (by decide)
  have e2 : w0 = .ref (zad B 74) := e2
  subst e2
  obtain ⟨w1, g1, g2⟩ := hAt.2.2.2.2.1 0 595 hl0 (by decide)
  have e4 := zyv_3 g2 (by decide)
  have e4 : w1 = .ref (zad B 74) := e4
  subst e4
  have fin : ∀ (H3 : Heap) (locs3 : List Loc), zyMI zymx B zyJ0 s H3 → zyOut zymx B H H3 → (∀ x ∈ locs3, zbs B ≤ x.base) → zyEl zymx B H3 74 43 = some (.long y) → (∀ a2 k2, ¬ (a2 = 74 ∧ k2 = 43) → zyEl zymx B H3 a2 k2 = zyEl zymx B H a2 k2) → Wg H3 locs3 217 lsB [] := by
    intro H3 locs3 hI3 hO3 hlo3 h1 h2
    have hFr3 : xFr fpm (zyEl zymx B s.heap) (zyEl zymx B H3) := by
      intro a2 k2 hk
      rw [h2 a2 k2 (fun z => by rw [z.1, z.2] at hk; rw [hk] at hin; cases hin)]
      exact hFr a2 k2 hk
    obtain ⟨i2, cs, L, p1, p2, p3, p4, p5⟩ := kk H3 (zyTy_of hI3) h1 h2 hFr3
    have g := (xe_env p2.2.2.2.1).2
    rw [← p1]
    refine hIH i2 (xfv L) H3 locs3 lsB [] hI3 (fun q hq => (hO3 q hq).trans (hAt.2.1 q hq)) hFr3 g p4 (xJ_s hAt hB hv p2 hlo3 ?_) p5
    rw [p3]
    trivial
  have r43 : ∀ r ∈ zymr74.2.2, r.1 ≤ 43 → 43 ≤ r.2.1 → r.2.2 = 147573952589676412932 := by decide
  rcases hy with ⟨hpc, L, h1, h2, h3, h4⟩ | ⟨hpc, h4⟩
  · rw [hpc]
    have hT := zyTy_of hAt.1
    have i39 := xE_some hT (a := 74) (k := 39) (q := 39) (c := zymr74) rfl (by decide) rfl (by decide) (by decide) (by decide)
    have i84 := xE_some hT (a := 84) (k := (xE (zyEl zymx B H) 74 39).toNat) (q := 0) rfl (show _ < 900 by omega) rfl (Nat.zero_le _) (show _ ≤ 899 by omega) (by decide)
    have e9 : ((39 : Nat) : Int) = 39 := rfl
    rw [e9] at i39
    have e8 : (((xE (zyEl zymx B H) 74 39).toNat : Nat) : Int) = xE (zyEl zymx B H) 74 39 := by omega
    rw [e8] at i84
    have e7 : Int32.ofInt (xE (zyEl zymx B H) 74 39) = Int32.ofNat (xE (zyEl zymx B H) 74 39).toNat := by
      apply xI_inj
      rw [xI_ofInt (by omega), xI_nat (by omega)]
      have : xsg (xE (zyEl zymx B H) 74 39).toNat = (((xE (zyEl zymx B H) 74 39).toNat : Nat) : Int) := if_pos (by omega)
      omega
    rw [e7] at i39
    refine xLw hRl hen (c74 := zymr74) rfl rfl (c84 := _) rfl rfl rfl r43 hAt.1 hAt.2.2.1 g1 (q := (xE (zyEl zymx B H) 74 39).toNat) (by omega) h1 i39 i84 (zyMI_ref hAt.1 (q := 32) (p := 84) (c := zymr74) rfl (by decide) rfl (by decide) (by decide) rfl) (fun H3 locs3 hI3 hO3 hlo3 k1 k2 => ?_)
    rw [← h4] at k1
    exact fin H3 locs3 hI3 hO3 hlo3 k1 k2
  · rw [hpc]
    refine xLw1 hRl hen (c74 := zymr74) rfl rfl r43 hAt.1 hAt.2.2.1 (fun H3 locs3 hI3 hO3 hlo3 k1 k2 => ?_)
    rw [← h4] at k1
    exact fin H3 locs3 hI3 hO3 hlo3 k1 k2
theorem xLgo0 (hRl : xRl zymx en B s Wg) (hIH : xIH zymx en.2.2.1 B s fpm φ Inv Mu M Wg) (hAt : zyAt zymx B s en.2.2.1 x ρ2 N H locs lsB stA) (hB : xBd ρ2 x.2.2.2.2.1) (hv : ∀ k, xI (ρ2 k) = v2 k) (hFr : xFr fpm (zyEl zymx B s.heap) (zyEl zymx B H)) (hen : en.1 = zxi314) (hl0 : x.2.1[0]? = some 595) (hst : x.2.2.1 = []) (hin : zyin fpm 74 43 = true) (hpc : x.1 = 142)
    (kk : ∀ (H3 : Heap), zyTy zymx (zyEl zymx B H3) → zyEl zymx B H3 74 43 = some (.long (Int64.ofNat 0)) → (∀ a2 k2, ¬ (a2 = 74 ∧ k2 = 43) → zyEl zymx B H3 a2 k2 = zyEl zymx B H a2 k2) → xFr fpm (zyEl zymx B s.heap) (zyEl zymx B H3) → ∃ (i2 : ι) (cs : List Nat) (L : List Int), (φ i2).1 = 147 ∧ xJ zymx B en.2.2.1 x v2 (φ i2) (zyEl zymx B H3) cs L ∧ (φ i2).2.2.2.2 = [] ∧ Inv i2 (xfv L) (zyEl zymx B H3) ∧ Mu i2 (xfv L) (zyEl zymx B H3) < M) : Wg H locs x.1 lsB stA := by
  have hs := hAt.2.2.2.2.2
  rw [hst] at hs
  have e3 := zySt_n hs
  subst e3
  obtain ⟨w1, g1, g2⟩ := hAt.2.2.2.2.1 0 595 hl0 (by decide)
  have e4 := zyv_3 g2 (by decide)
  have e4 : w1 = .ref (zad B 74) := e4
  subst e4
  have fin : ∀ (H3 : Heap) (locs3 : List Loc), zyMI zymx B zyJ0 s H3 → zyOut zymx B H H3 → (∀ x ∈ locs3, zbs B ≤ x.base) → zyEl zymx B H3 74 43 = some (.long (Int64.ofNat 0)) → (∀ a2 k2, ¬ (a2 = 74 ∧ k2 = 43) → zyEl zymx B H3 a2 k2 = zyEl zymx B H a2 k2) → Wg H3 locs3 147 lsB [] := by
    intro H3 locs3 hI3 hO3 hlo3 h1 h2
    have hFr3 : xFr fpm (zyEl zymx B s.heap) (zyEl zymx B H3) := by
      intro a2 k2 hk
      rw [h2 a2 k2 (fun z => by rw [z.1, z.2] at hk; rw [hk] at hin; cases hin)]
      exact hFr a2 k2 hk
    obtain ⟨i2, cs, L, p1, p2, p3, p4, p5⟩ := kk H3 (zyTy_of hI3) h1 h2 hFr3
    have g := (xe_env p2.2.2.2.1).2
    rw [← p1]
    refine hIH i2 (xfv L) H3 locs3 lsB [] hI3 (fun q hq => (hO3 q hq).trans (hAt.2.1 q hq)) hFr3 g p4 (xJ_s hAt hB hv p2 hlo3 ?_) p5
    rw [p3]
    trivial
  have r43 : ∀ r ∈ zymr74.2.2, r.1 ≤ 43 → 43 ≤ r.2.1 → r.2.2 = 147573952589676412932 := by decide
  rw [hpc]
  exact xLw0 hRl hen (c74 := zymr74) rfl rfl r43 hAt.1 hAt.2.2.1 g1 fin
end XLG
