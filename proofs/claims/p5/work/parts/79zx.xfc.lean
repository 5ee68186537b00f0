/-! facing(s) OF THE REFERENCE where c may hold any ints but its first two -/
noncomputable def zymz75 (r c : Nat) : zyCl := (20, 556, [(0, 0, Nat.mul 8 r), (1, 1, Nat.mul 8 c), (2, 555, 34359738362)])
noncomputable def zymz (r c : Nat) : zyB := zymrX (zymz75 r c)
theorem zgrunZ : zyAllP (fun r c => zyAll (fun s => zyk1 (zymz r c) 203 3 5 [595, Nat.mul 8 s] [13] (Nat.mul 8 (zgF r c s))) (zgNS r c)) = true := by decide +kernel
theorem zyElz (r c : Nat) (B : zCx) (H : Heap) : zyEl (zymz r c) B H = zyEl zymx B H := zyElX (x := zymz75 r c) (y := zymx75) rfl rfl B H
theorem zymz_X (r c : Nat) : zymz r c = zymrX (zymz75 r c) := rfl
theorem zyMI_z {r c : Nat} {B : zCx} {J : zyJt} {U : State} {H : Heap} (hI : zyMI zymx B J U H) (h0 : zyEl zymx B H 75 0 = some (.int (Int32.ofNat r))) (h1 : zyEl zymx B H 75 1 = some (.int (Int32.ofNat c))) : zyMI (zymz r c) B J U H := by
  refine ⟨fun a cl hg => ?_, fun a cl k hg hk => ?_, by rw [zyElz r c]; exact hI.2.2.1, hI.2.2.2⟩
  · by_cases e : a = 75
    · subst e
      have hg : some (zymz75 r c) = some cl := hg
      cases hg
      exact hI.1 75 zymx75 rfl
    · exact hI.1 a cl (by rw [← hg, zymz_X]; exact zGX _ _ a (fun q => e q))
  · by_cases e : a = 75
    · subst e
      have hg : some (zymz75 r c) = some cl := hg
      cases hg
      have hk : k < 556 := hk
      obtain ⟨w, q1, q2⟩ := hI.2.1 75 zymx75 k rfl hk
      refine ⟨w, by rw [zyElz r c]; exact q1, fun b hb b1 b2 => ?_⟩
      have hb : b ∈ [(0, 0, Nat.mul 8 r), (1, 1, Nat.mul 8 c), (2, 555, 34359738362)] := hb
      rcases List.mem_cons.mp hb with e | hb
      · subst e
        have b1 : 0 ≤ k := b1
        have b2 : k ≤ 0 := b2
        have hk0 : k = 0 := by omega
        subst hk0
        rw [h0] at q1
        cases q1
        exact ⟨by show ¬ 8 * r % 8 = 1; omega, zyv_mk rfl⟩
      · rcases List.mem_cons.mp hb with e | hb
        · subst e
          have b1 : 1 ≤ k := b1
          have b2 : k ≤ 1 := b2
          have hk0 : k = 1 := by omega
          subst hk0
          rw [h1] at q1
          cases q1
          exact ⟨by show ¬ 8 * c % 8 = 1; omega, zyv_mk rfl⟩
        · rw [List.mem_singleton.mp hb] at b1 b2 ⊢
          exact q2 (0, 555, 34359738362) List.mem_cons_self (Nat.zero_le _) b2
    · obtain ⟨w, q1, q2⟩ := hI.2.1 a cl k (by rw [← hg, zymz_X]; exact zGX _ _ a (fun q => e q)) hk
      exact ⟨w, by rw [zyElz r c]; exact q1, q2⟩
theorem zyMI_zx {r c : Nat} {B : zCx} {J : zyJt} {U : State} {H : Heap} (hI : zyMI (zymz r c) B J U H) : zyMI zymx B J U H := by
  refine ⟨fun a cl hg => ?_, fun a cl k hg hk => ?_, by rw [← zyElz r c]; exact hI.2.2.1, hI.2.2.2⟩
  · by_cases e : a = 75
    · subst e
      have hg : some zymx75 = some cl := hg
      cases hg
      exact hI.1 75 (zymz75 r c) rfl
    · exact hI.1 a cl (by rw [zymz_X, zGX (zymz75 r c) zymx75 a e]; exact hg)
  · by_cases e : a = 75
    · subst e
      have hg : some zymx75 = some cl := hg
      cases hg
      have hk : k < 556 := hk
      obtain ⟨w, q1, q2⟩ := hI.2.1 75 (zymz75 r c) k rfl hk
      have hx : ∃ x : Int32, w = .int x := by
        by_cases k0 : k = 0
        · have h := (q2 (0, 0, Nat.mul 8 r) List.mem_cons_self (by show 0 ≤ k; omega) (by show k ≤ 0; omega)).2
          exact ⟨_, zyv_0 h (by show 8 * r % 8 = 0; omega)⟩
        · by_cases k1 : k = 1
          · have h := (q2 (1, 1, Nat.mul 8 c) (List.mem_cons_of_mem _ List.mem_cons_self) (by show 1 ≤ k; omega) (by show k ≤ 1; omega)).2
            exact ⟨_, zyv_0 h (by show 8 * c % 8 = 0; omega)⟩
          · have h := (q2 (2, 555, 34359738362) (List.mem_cons_of_mem _ (List.mem_cons_of_mem _ List.mem_cons_self)) (by show 2 ≤ k; omega) (by show k ≤ 555; omega)).2
            obtain ⟨x, hx⟩ := zyv_int h (by decide)
            exact ⟨x, hx⟩
      obtain ⟨x, rfl⟩ := hx
      refine ⟨.int x, by rw [← zyElz r c]; exact q1, fun b3 hb3 _ _ => ?_⟩
      have hb3 : b3 ∈ [(0, 555, 34359738362)] := hb3
      rw [List.mem_singleton.mp hb3]
      exact ⟨by decide, zyv_bd (lo := 0) (hi := 4294967295) (Nat.zero_le _) (by have := zB_lt x; omega) (by decide)⟩
    · obtain ⟨w, q1, q2⟩ := hI.2.1 a cl k (by rw [zymz_X, zGX (zymz75 r c) zymx75 a e]; exact hg) hk
      exact ⟨w, by rw [← zyElz r c]; exact q1, q2⟩
theorem zyOut_z {r c : Nat} {B : zCx} {H0 H : Heap} (h : zyOut (zymz r c) B H0 H) : zyOut zymx B H0 H := by
  intro q hq
  refine h q (fun a cl hg => ?_)
  by_cases e : a = 75
  · subst e
    exact hq 75 zymx75 rfl
  · exact hq a cl (by rw [← hg, zymz_X]; exact zGX _ _ a (fun q => e q))
theorem xofN {v : Int} (h0 : 0 ≤ v) (h1 : v < 2147483648) : Int32.ofInt v = Int32.ofNat v.toNat := by
  apply xI_inj
  rw [xI_ofInt ⟨by omega, h1⟩, xI_nat (by omega)]
  have : xsg v.toNat = ((v.toNat : Nat) : Int) := if_pos (by omega)
  omega
/-- the slot that faces -/
def xΦfa (x : Nat → Int) (E : zyEm) : Prop := (1 ≤ xE E 75 0 ∧ xE E 75 0 ≤ 4) ∧ (1 ≤ xE E 75 1 ∧ xE E 75 1 ≤ 5) ∧ 0 ≤ x 0 ∧ x 0 < sN (xE E 75 0) (xE E 75 1)
def xΨfa (x : Nat → Int) (E _ : zyEm) (r : Int) : Prop := r = pF (xE E 75 0) (xE E 75 1) (x 0)
noncomputable def fpffa : zyR := []
theorem xFa {l : Launch} {en : zEn} {me : zMe} (hen : zG zxMeta 203 = some en) (hme : zG zMeth 203 = some me) : xFc l zymx en me 5 [74] 1 fpffa true xΦfa xΨfa := by
  intro B xs hx
  refine zyMet_pt (fun a s hp => ?_)
  obtain ⟨rfl, hK, hI, hΦ⟩ := hp
  obtain ⟨z, rfl⟩ : ∃ z, xs = [z] := List.length_eq_one_iff.mp hx
  obtain ⟨⟨r1, r2⟩, ⟨c1, c2⟩, s1, s2⟩ := (show xΦfa (xfv [xI z]) (zyEl zymx B s.heap) from hΦ)
  have s1 : 0 ≤ xI z := s1
  have s2 : xI z < sN _ _ := s2
  have hT := zyTy_of hI
  have e0 := xE_some hT (a := 75) (k := 0) (q := 0) (c := zymx75) rfl (by decide) rfl (by decide) (by decide) (by decide)
  have e1 := xE_some hT (a := 75) (k := 1) (q := 0) (c := zymx75) rfl (by decide) rfl (by decide) (by decide) (by decide)
  have e0 : zyEl zymx B s.heap 75 0 = some (.int (Int32.ofInt (xE (zyEl zymx B s.heap) 75 0))) := e0
  have e1 : zyEl zymx B s.heap 75 1 = some (.int (Int32.ofInt (xE (zyEl zymx B s.heap) 75 1))) := e1
  obtain ⟨r, hr⟩ : ∃ r : Nat, xE (zyEl zymx B s.heap) 75 0 = (r : Int) := ⟨_, (Int.toNat_of_nonneg (by omega)).symm⟩
  obtain ⟨c, hc⟩ : ∃ c : Nat, xE (zyEl zymx B s.heap) 75 1 = (c : Int) := ⟨_, (Int.toNat_of_nonneg (by omega)).symm⟩
  rw [hr] at r1 r2 e0 s2
  rw [hc] at c1 c2 e1 s2
  rw [xofN (by omega) (by omega)] at e0 e1
  rw [sN_n] at s2
  have e0 : zyEl zymx B s.heap 75 0 = some (.int (Int32.ofNat r)) := e0
  have e1 : zyEl zymx B s.heap 75 1 = some (.int (Int32.ofNat c)) := e1
  have hz : z = Int32.ofNat (xI z).toNat := by
    have := xofI z
    rw [xofN s1 (xI_r z).2] at this
    exact this.symm
  have hq : (xI z).toNat < zgNS r c := by omega
  have hm := zyHc_p2 (l := l) (mi := zymz r c) (en := en) (me := me) (dep := 5) (zgNS_le (by omega) (by omega)) (fun s hs => zyk1_ok zyJ0_r.1 (zyAll_iff (zyAllP_iff zgrunZ (by omega) (by omega) (by omega) (by omega)) s hs) hen hme)
  refine ⟨_, _, hm B [z] rfl, ⟨rfl, hK, zyMI_z hI e0 e1, (xI z).toNat, hq, by rw [← hz]⟩, fun o t hq2 => ?_⟩
  obtain ⟨vo, f1, k1, k2, ⟨k3, k4⟩, k5⟩ := hq2
  rw [zyElz, zyElz] at k3
  have k4 := k4 (xI z).toNat hq (by rw [← hz])
  refine ⟨vo, f1, k1, zyMI_zx k2, ⟨fun a k _ => by rw [k3], Int32.ofNat (zgF r c (xI z).toNat), k4, ?_⟩, zyOut_z k5⟩
  show xI (Int32.ofNat (zgF r c (xI z).toNat)) = pF (xE (zyEl zymx B s.heap) 75 0) (xE (zyEl zymx B s.heap) 75 1) (xI z)
  have hb : zgF r c (xI z).toNat < 4294967296 := by
    have hg := zgfacts (by omega) (by omega) (by omega) (by omega) hq
    have hn := zgNS_le (r := r) (c := c) (by omega) (by omega)
    rcases hg.2.2 with h | h
    · rw [zgF_none h]
      omega
    · have := h.2.1
      omega
  rw [xI_nat hb, hr, hc]
  rfl
