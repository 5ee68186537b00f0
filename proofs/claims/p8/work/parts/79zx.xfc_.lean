section
/-! facing(s) OF THE REFERENCE where c may hold any ints but its first two -/
noncomputable def zymz75 (r c : Nat) : zyCl := (20, 556, [(0, 0, Nat.mul 8 r), (1, 1, Nat.mul 8 c), (2, 555, 34359738362)])
noncomputable def zymz (r c : Nat) : zyB := zymrX (zymz75 r c)
theorem zgrunZ : zyAllP (fun r c => zyAll (fun s => zyk1 (zymz r c) 203 3 5 [595, Nat.mul 8 s] [13] (Nat.mul 8 (zgF r c s))) (zgNS r c)) = true := by decide +kernel
theorem zyElz (r c : Nat) (B : zCx) (H : Heap) : zyEl (zymz r c) B H = zyEl zymx B H := zyElX (x := zymz75 r c) (y := zymx75) rfl rfl B H
theorem zymz_X (r c : Nat) : zymz r c = zymrX (zymz75 r c) := rfl
theorem zyMI_z {r c : Nat} {B : zCx} {J : zyJt} {U : State} {H : Heap} (hI : zyMI zymx B J U H) (h0 : zyEl zymx B H 75 0 = some (.int (Int32.ofNat r))) (h1 : zyEl zymx B H 75 1 = some (.int (Int32.ofNat c))) : zyMI (zymz r c) B J U H := by
  refine ⟨fun a cl hg => ?_, fun a cl k hg hk => ?_, by rw [zyElz r c]; exact hI.2.2.1, hI.2.2.2⟩
  · by_cases e : a = 75
    · subst e
      have hg : some (zymz75 r c) = some cl := hg
      cases hg
      exact hI.1 75 zymx75 rfl
    · exact hI.1 a cl (by rw [← hg, zymz_X]; exact zGX _ _ a (fun q => e q))
  · by_cases e : a = 75
    · subst e
      have hg : some (zymz75 r c) = some cl := hg
      cases hg
      have hk : k < 556 := hk
      obtain ⟨w, q1, q2⟩ := hI.2.1 75 zymx75 k rfl hk
      refine ⟨w, by rw [zyElz r c]; exact q1, fun b hb b1 b2 => ?_⟩
      have hb : b ∈ [(0, 0, Nat.mul 8 r), (1, 1, Nat.mul 8 c), (2, 555, 34359738362)] := hb
      rcases List.mem_cons.mp hb with e | hb
      · subst e
        have b1 : 0 ≤ k := b1
        have b2 : k ≤ 0 := b2
        have hk0 : k = 0 := by omega
        subst hk0
        rw [h0] at q1
        cases q1
        exact ⟨by show ¬ 8 * r % 8 = 1; omega, zyv_mk rfl⟩
      · rcases List.mem_cons.mp hb with e | hb
        · subst e
          have b1 : 1 ≤ k := b1
          have b2 : k ≤ 1 := b2
          have hk0 : k = 1 := by omega
          subst hk0
          rw [h1] at q1
          cases q1
          exact ⟨by show ¬ 8 * c % 8 = 1; omega, zyv_mk rfl⟩
        · rw [List.mem_singleton.mp hb] at b1 b2 ⊢
          exact q2 (0, 555, 34359738362) List.mem_cons_self (Nat.zero_le _) b2
    · obtain ⟨w, q1, q2⟩ := hI.2.1 a cl k (by rw [← hg, zymz_X]; exact zGX _ _ a (fun q => e q)) hk
      exact ⟨w, by rw [zyElz r c]; exact q1, q2⟩
theorem zyMI_zx {r c : Nat} {B : zCx} {J : zyJt} {U : State} {H : Heap} (hI : zyMI (zymz r c) B J U H) : zyMI zymx B J U H := by
  refine ⟨fun a cl hg => ?_, fun a cl k hg hk => ?_, by rw [← zyElz r c]; exact hI.2.2.1, hI.2.2.2⟩
  · by_cases e : a = 75
    · subst e
      have hg : some zymx75 = some cl := hg
      cases hg
      exact hI.1 75 (zymz75 r c) rfl
    · exact hI.1 a cl (by rw [zymz_X, zGX (zymz75 r c) zymx75 a e]; exact hg)
  · by_cases e : a = 75
    · subst e
      have hg : some zymx75 = some cl := hg
      cases hg
      have hk : k < 556 := hk
      obtain ⟨w, q1, q2⟩ := hI.2.1 75 (zymz75 r c) k rfl hk
      have hx : ∃ x : Int32, w = .int x := by
        by_cases k0 : k = 0
        · have h := (q2 (0, 0, Nat.mul 8 r) List.mem_cons_self (by show 0 ≤ k; omega) (by show k ≤ 0; omega)).2
          exact ⟨_, zyv_0 h (by show 8 * r % 8 = 0; omega)⟩
        · by_cases k1 : k = 1
          · have h := (q2 (1, 1, Nat.mul 8 c) (List.mem_cons_of_mem _ List.mem_cons_self) (by show 1 ≤ k; omega) (by show k ≤ 1; omega)).2
            exact ⟨_, zyv_0 h (by show 8 * c % 8 = 0; omega)⟩
          · have h := (q2 (2, 555, 34359738362) (List.mem_cons_of_mem _ (List.mem_cons_of_mem _ List.mem_cons_self)) (by show 2 ≤ k; omega) (by show k ≤ 555; omega)).2
            obtain ⟨x, hx⟩ := zyv_int h (by decide)
            exact ⟨x, hx⟩
      obtain ⟨x, rfl⟩ := hx
      refine ⟨.int x, by rw [← zyElz r c]; exact q1, fun b3 hb3 _ _ => ?_⟩
      have hb3 : b3 ∈ [(0, 555, 34359738362)] := hb3
      rw [List.mem_singleton.mp hb3]
      exact ⟨by decide, zyv_bd (lo := 0) (hi := 4294967295) (Nat.zero_le _) (by have := zB_lt x; omega) (by decide)⟩
    · obtain ⟨w, q1, q2⟩ := hI.2.1 a cl k (by rw [zymz_X, zGX (zymz75 r c) zymx75 a e]; exact hg) hk
      exact ⟨w, by rw [← zyElz r c]; exact q1, q2⟩
theorem zyOut_z {r c : Nat} {B : zCx} {H0 H : Heap} (h : zyOut (zymz r c) B H0 H) : zyOut zymx B H0 H := by
  intro q hq
  refine h q (fun a cl hg => ?_)
  by_cases e : a = 75
  · subst e
    exact hq 75 zymx75 rfl
  · exact hq a cl (by rw [← hg, zymz_X]; exact zGX _ _ a (fun q => e q))
theorem xofN {v : Int} (h0 : 0 ≤ v) (h1 : v < 2147483648) : Int32.ofInt v = Int32.ofNat v.toNat := by
  apply xI_inj
  rw [xI_ofInt ⟨by omega, h1⟩, xI_nat (by omega)]
  have : xsg v.toNat = ((v.toNat : Nat) : Int) := if_pos (by omega)
  omega
/-- the slot that faces -/
def xΦfa (x : Nat → Int) (E : zyEm) : Prop := (1 ≤ xE E 75 0 ∧ xE E 75 0 ≤ 4) ∧ (1 ≤ xE E 75 1 ∧ xE E 75 1 ≤ 5) ∧ 0 ≤ x 0 ∧ x 0 < sN (xE E 75 0) (xE E 75 1)
def xΨfa (x : Nat → Int) (E _ : zyEm) (r : Int) : Prop := r = pF (xE E 75 0) (xE E 75 1) (x 0)
noncomputable def fpffa : zyR := []
theorem xFa {l : Launch} {en : zEn} {me : zMe} (hen : zG zxMeta 203 = some en) (hme : zG zMeth 203 = some me) : xFc l zymx en me 5 [74] 1 fpffa true xΦfa xΨfa := by
  intro B xs hx
  refine zyMet_pt (fun a s hp => ?_)
  obtain ⟨rfl, hK, hI, hΦ⟩ := hp
  obtain ⟨z, rfl⟩ : ∃ z, xs = [z] := List.length_eq_one_iff.mp hx
  obtain ⟨⟨r1, r2⟩, ⟨c1, c2⟩, s1, s2⟩ := (show xΦfa (xfv [xI z]) (zyEl zymx B s.heap) from hΦ)
  have s1 : 0 ≤ xI z := s1
  have s2 : xI z < sN _ _ := s2
  have hT := zyTy_of hI
  have e0 := xE_some hT (a := 75) (k := 0) (q := 0) (c := zymx75) rfl (by decide) rfl (by decide) (by decide) (by decide)
  have e1 := xE_some hT (a := 75) (k := 1) (q := 0) (c := zymx75) rfl (by decide) rfl (by decide) (by decide) (by decide)
  have e0 : zyEl zymx B s.heap 75 0 = some (.int (Int32.ofInt (xE (zyEl zymx B s.heap) 75 0))) := e0
  have e1 : zyEl zymx B s.heap 75 1 = some (.int (Int32.ofInt (xE (zyEl zymx B s.heap) 75 1))) := e1
  obtain ⟨r, hr⟩ : ∃ r : Nat, xE (zyEl zymx B s.heap) 75 0 = (r : Int) := ⟨_, (Int.toNat_of_nonneg (by omega)).symm⟩
  obtain ⟨c, hc⟩ : ∃ c : Nat, xE (zyEl zymx B s.heap) 75 1 = (c : Int) := ⟨_, (Int.toNat_of_nonneg (by omega)).symm⟩
  rw [hr] at r1 r2 e0 s2
  rw [hc] at c1 c2 e1 s2
  rw [xofN (by omega) (by omega)] at e0 e1
  rw [sN_n] at s2
  have e0 : zyEl zymx B s.heap 75 0 = some (.int (Int32.ofNat r)) := e0
  have e1 : zyEl zymx B s.heap 75 1 = some (.int (Int32.ofNat c)) := e1
  have hz : z = Int32.ofNat (xI z).toNat := by
    have := xofI z
    rw [xofN s1 (xI_r z).2] at this
    exact this.symm
  have hq : (xI z).toNat < zgNS r c := by omega
  have hm := zyHc_p2 (l := l) (mi := zymz r c) (en := en) (me := me) (dep := 5) (zgNS_le (by omega) (by omega)) (fun s hs => zyk1_ok zyJ0_r.1 (zyAll_iff (zyAllP_iff zgrunZ (by omega) (by omega) (by omega) (by omega)) s hs) hen hme)
  refine ⟨_, _, hm B [z] rfl, ⟨rfl, hK, zyMI_z hI e0 e1, (xI z).toNat, hq, by rw [← hz]⟩, fun o t hq2 => ?_⟩
  obtain ⟨vo, f1, k1, k2, ⟨k3, k4⟩, k5⟩ := hq2
  rw [zyElz, zyElz] at k3
  have k4 := k4 (xI z).toNat hq (by rw [← hz])
  refine ⟨vo, f1, k1, zyMI_zx k2, ⟨fun a k _ => by rw [k3], Int32.ofNat (zgF r c (xI z).toNat), k4, ?_⟩, zyOut_z k5⟩
  show xI (Int32.ofNat (zgF r c (xI z).toNat)) = pF (xE (zyEl zymx B s.heap) 75 0) (xE (zyEl zymx B s.heap) 75 1) (xI z)
  have hb : zgF r c (xI z).toNat < 4294967296 := by
    have hg := zgfacts (by omega) (by omega) (by omega) (by omega) hq
    have hn := zgNS_le (r := r) (c := c) (by omega) (by omega)
    rcases hg.2.2 with h | h
    · rw [zgF_none h]
      omega
    · have := h.2.1
      omega
  rw [xI_nat hb, hr, hc]
  rfl
end
section
/-! THE REFERENCE: starts (printed by m25.py) -/
noncomputable def zxfbi_zx0 : zyXp := (0, [595, 34359738369, 68719476737, 13], [], [], [], [])
noncomputable def zpfbi_z : zyPh := (0, [595, 34359738369, 68719476737, 13], [(0, 4294967295), (0, 4294967295), (0, 4294967295), (0, 4294967295)], [], [])
noncomputable def zxfbi_ax0 : zyXp := (2, [595, 34359738369, 68719476737, 0], [], [], [(34359738369, 2147483784, 2147483784)], [])
noncomputable def zpfbi_a : zyPh := (0, [595, 34359738369, 68719476737, 13], [(0, 4294967295), (2147483784, 2147483784), (0, 4294967295), (0, 4294967295)], [], [])
noncomputable def zxfbi_hx0 : zyXp := (2, [595, 34359738369, 68719476737, 103079215113], [], [(20, 0, 103079215105, 137438953473), (24, 171798691841, 75, 103079216193), (23, 0, 171798691841, 68719476737)], [(34359738369, 2147483784, 2147483784), (103079215105, 2147483648, 2147483655), (137438953473, 2147483649, 2147483656), (103079215113, 2147483649, 2147483656)], [])
noncomputable def zxfbi_hr0 : zyXp := (0, [], [103079215105], [(20, 0, 103079215105, 137438953473), (24, 171798691841, 75, 103079216193), (22, 0, 171798691841, 68719476737)], [(103079215105, 2147483648, 2147483655), (137438953473, 2147483649, 2147483656)], [])
noncomputable def zxfbi_hr1 : zyXp := (0, [], [34359738360], [(21, 0, 103079215105, 137438953473)], [(103079215105, 2147483648, 2147483656), (137438953473, 2147483648, 2147483656)], [])
noncomputable def zpfbi_h : zyPh := (2, [595, 34359738369, 68719476737, 103079215105], [(0, 4294967295), (2147483784, 2147483784), (0, 4294967295), (2147483648, 2147483656), (2147483648, 2147483656)], [(1228802, 137438953473)], [])
noncomputable def zpfbi (i : Nat) : zyPh := zif (Nat.beq i 0) (zpfbi_z) (zif (Nat.beq i 1) (zpfbi_a) (zpfbi_h))
noncomputable def zXfbi (i : Nat) : List zyXp := zif (Nat.beq i 0) ([zxfbi_zx0]) (zif (Nat.beq i 1) ([zxfbi_ax0]) ([zxfbi_hx0]))
noncomputable def zRfbi (i : Nat) : List zyXp := zif (Nat.beq i 0) ([]) (zif (Nat.beq i 1) ([]) ([zxfbi_hr0, zxfbi_hr1]))
noncomputable def zFfbi (i : Nat) : zyR := zif (Nat.beq i 0) ([]) (zif (Nat.beq i 1) ([]) ([]))
noncomputable def zSfbi (i : Nat) : Nat := zif (Nat.beq i 0) (0) (zif (Nat.beq i 1) (0) (0))
/-- which bobbin starts there -/
def xΦbi (x : Nat → Int) (E : zyEm) : Prop := x 0 = 136 ∧ 0 ≤ xE E 75 2 ∧ xE E 75 2 ≤ 8
def xΨbi (x : Nat → Int) (E _ : zyEm) (r : Int) : Prop := (r < 0 ∧ ∀ b, 0 ≤ b → b < xE E 75 2 → ¬ xE E 75 (136 + b) = x 1) ∨ (0 ≤ r ∧ r < xE E 75 2 ∧ xE E 75 (136 + r) = x 1)
noncomputable def fpfbi : zyR := []
theorem zyfbi_run : zyrS zymx zxi267 (267, 0, 0, 1, 0) 2 zpfbi (fun _ _ => []) zFfbi zSfbi zXfbi zRfbi 3 = true := by decide +kernel
theorem zyfbi_ck : zyAll (fun i => xsubR (zFfbi i) fpfbi && ((zXfbi i).all xckX && (zRfbi i).all (fun x => xckX x && xrtB true x))) 3 = true := by decide +kernel
def xIfbi (i : Nat) (x0 : Nat → Int) (E0 : zyEm) (v : Nat → Int) (E : zyEm) : Prop := if i = 0 then (E = E0 ∧ (v 1) = x0 0 ∧ (v 2) = x0 1) else if i = 1 then (E = E0 ∧ (v 1) = 136 ∧ (v 2) = x0 1) else (E = E0 ∧ (v 1) = 136 ∧ (v 2) = x0 1 ∧ (0 ≤ (v 3) ∧ (v 3) ≤ xE E0 75 2) ∧ ∀ b, 0 ≤ b → b < (v 3) → ¬ xE E0 75 (136 + b) = x0 1)
def xMfbi (i : Nat) (x0 : Nat → Int) (E0 : zyEm) (v : Nat → Int) (E : zyEm) : Nat := if i = 0 then (1000) else if i = 1 then (900) else ((100 - (v 3)).toNat)
theorem xBi {l : Launch} {en : zEn} {me : zMe} (hen : zG zxMeta 267 = some en) (hme : zG zMeth 267 = some me) : xFc l zymx en me 2 [74] 2 fpfbi true xΦbi xΨbi := by
  have een : zG zxMeta 267 = some (zxi267, 3, 4, 11, 267, 0, 0, 1, 0) := rfl
  obtain ⟨me1, hme1, hOK⟩ := zall hen
  rw [hme] at hme1
  cases hme1
  rw [een] at hen
  cases hen
  have hr := zyfbi_run
  have hck := fun i hi => zyAll_iff zyfbi_ck i hi
  simp only [Bool.and_eq_true] at hck
  intro B
  refine xcut (mi := zymx) (B := B) hOK rfl rfl (ι := Fin 3) (fun i => zpfbi i.val) (fun _ _ => []) (fun i => zFfbi i.val) (fun i => zSfbi i.val) (fun i => zXfbi i.val) (fun i => zRfbi i.val) (fun i y2 ct en2 me2 h => by cases h) 200000 (fun i => zyAll_iff hr i.val i.isLt) (fun i => (hck i.val i.isLt).1) (fun i => (hck i.val i.isLt).2.1) (fun i => (hck i.val i.isLt).2.2) ⟨0, by decide⟩ ⟨rfl, rfl, rfl, rfl⟩ ⟨by decide, by decide⟩ (fun i x0 E0 v E => xIfbi i.val x0 E0 v E) (fun i x0 E0 v E => xMfbi i.val x0 E0 v E) ?_ ?_ ?_
  · intro x0 E hx0 hT hΦ
    have hΦ : xΦbi x0 E := hΦ
    refine ⟨fun k p hp => ?_, ?_⟩
    · have hk : k < 4 := (List.getElem?_eq_some_iff.mp hp).1
      have hk : k = 0 ∨ k = 1 ∨ k = 2 ∨ k = 3 := by omega
      rcases hk with rfl | rfl | rfl | rfl
      · have hp : some (0, 4294967295) = some p := hp
        cases hp
        show ((0 : Nat) : Int) ≤ 0 + 2147483648 ∧ 0 + 2147483648 ≤ ((4294967295 : Nat) : Int)
        omega
      · have hp : some (0, 4294967295) = some p := hp
        cases hp
        show ((0 : Nat) : Int) ≤ x0 0 + 2147483648 ∧ x0 0 + 2147483648 ≤ ((4294967295 : Nat) : Int)
        have hx := hx0 0
        omega
      · have hp : some (0, 4294967295) = some p := hp
        cases hp
        show ((0 : Nat) : Int) ≤ x0 1 + 2147483648 ∧ x0 1 + 2147483648 ≤ ((4294967295 : Nat) : Int)
        have hx := hx0 1
        omega
      · have hp : some (0, 4294967295) = some p := hp
        cases hp
        show ((0 : Nat) : Int) ≤ x0 2 + 2147483648 ∧ x0 2 + 2147483648 ≤ ((4294967295 : Nat) : Int)
        have hx := hx0 2
        omega
    · show E = E ∧ (x0 0) = x0 0 ∧ (x0 1) = x0 1
      exact ⟨rfl, rfl, rfl⟩
  · intro x0 s Wg hRu hrx hT0 hΦ i v H hT hrv hInv hKc hFr0 hIH x hx ρ2 v2 N2 H2 locs lsB stA hAt hB hv hr2 hXs hag hfr hFr hT2
    rcases i with ⟨i, hi⟩
    have hi2 : i = 0 ∨ i = 1 ∨ i = 2 := by omega
    rcases hi2 with rfl | rfl | rfl
    · have hx : x ∈ [zxfbi_zx0] := hx
      have hag : ∀ k, k < 4 → v2 k = v k := hag
      have hfr : xFr [] _ _ := hfr
      have ex := List.mem_singleton.mp hx
      subst ex
      obtain ⟨hF, hBd, hM⟩ := hXs
      have r1 := hr2 1
      have r2 := hr2 2
      have g1 : v2 1 = v 1 := hag 1 (by decide)
      have g2 : v2 2 = v 2 := hag 2 (by decide)
      have e75_2 : xE (zyEl zymx B H2) 75 2 = xE (zyEl zymx B H) 75 2 := xFr_E hfr rfl
      have q75_2 : xE (zyEl zymx B H) 75 2 = xE (zyEl zymx B s.heap) 75 2 := xFr_E hFr0 rfl
      have e75 : ∀ i, xE (zyEl zymx B H2) 75 i = xE (zyEl zymx B H) 75 i := fun i => xFr_E hfr rfl
      have q75 : ∀ i, xE (zyEl zymx B H) 75 i = xE (zyEl zymx B s.heap) 75 i := fun i => xFr_E hFr0 rfl
      have hI : (zyEl zymx B H) = (zyEl zymx B s.heap) ∧ (v 1) = x0 0 ∧ (v 2) = x0 1 := hInv
      obtain ⟨hE, i1, i2⟩ := hI
      obtain ⟨hP1, hP2, hP3⟩ := (show xΦbi x0 (zyEl zymx B s.heap) from hΦ)
      refine xGo hIH hAt hB hv hFr ⟨1, by decide⟩ [0, 34359738369, 68719476737, 0] [0, (v2 1), (v2 2), 0] rfl ⟨by decide +kernel, ⟨rfl, by decide +kernel⟩, (xcs_c rfl (xcs_c rfl (xcs_c rfl (xcs_c rfl xcs_n)))), (xe_0 (xe_c (by omega) (by omega) rfl (xe_f (by omega) (xe_0 xe_n)))), xkq_n⟩ xst_n ?_ ?_
      · show (zyEl zymx B H2) = (zyEl zymx B s.heap) ∧ ((v2 1) : Int) = 136 ∧ ((v2 2) : Int) = x0 1
        exact ⟨(xFr_n hfr).trans hE, by omega, by omega⟩
      · show 900 < 1000
        omega
    · have hx : x ∈ [zxfbi_ax0] := hx
      have hag : ∀ k, k < 4 → v2 k = v k := hag
      have hfr : xFr [] _ _ := hfr
      have ex := List.mem_singleton.mp hx
      subst ex
      obtain ⟨hF, hBd, hM⟩ := hXs
      have r2 := hr2 2
      have g1 : v2 1 = v 1 := hag 1 (by decide)
      have g2 : v2 2 = v 2 := hag 2 (by decide)
      have b0 : ((2147483784 : Nat) : Int) ≤ (v2 1) + 2147483648 ∧ (v2 1) + 2147483648 ≤ ((2147483784 : Nat) : Int) := xXb hBd 0 rfl
      have e75_2 : xE (zyEl zymx B H2) 75 2 = xE (zyEl zymx B H) 75 2 := xFr_E hfr rfl
      have q75_2 : xE (zyEl zymx B H) 75 2 = xE (zyEl zymx B s.heap) 75 2 := xFr_E hFr0 rfl
      have e75 : ∀ i, xE (zyEl zymx B H2) 75 i = xE (zyEl zymx B H) 75 i := fun i => xFr_E hfr rfl
      have q75 : ∀ i, xE (zyEl zymx B H) 75 i = xE (zyEl zymx B s.heap) 75 i := fun i => xFr_E hFr0 rfl
      have hI : (zyEl zymx B H) = (zyEl zymx B s.heap) ∧ (v 1) = 136 ∧ (v 2) = x0 1 := hInv
      obtain ⟨hE, i1, i2⟩ := hI
      obtain ⟨hP1, hP2, hP3⟩ := (show xΦbi x0 (zyEl zymx B s.heap) from hΦ)
      have z75_2 : ((0 : Nat) : Int) ≤ xE (zyEl zymx B H2) 75 2 + 2147483648 ∧ xE (zyEl zymx B H2) 75 2 + 2147483648 ≤ ((4294967295 : Nat) : Int) := xTyF hT2 75 2 0 rfl rfl rfl rfl rfl rfl
      refine xGo hIH hAt hB hv hFr ⟨2, by decide⟩ [0, 34359738369, 68719476737, 0] [0, (v2 1), (v2 2), 0, xE (zyEl zymx B H2) 75 2] rfl ⟨by decide +kernel, ⟨rfl, by decide +kernel⟩, (xcs_c rfl (xcs_c rfl (xcs_c rfl (xcs_c rfl xcs_n)))), (xe_0 (xe_c (by omega) (by omega) rfl (xe_f (by omega) (xe_c (by omega) (by omega) rfl (xe_c (by omega) (by omega) rfl xe_n))))), (xkq_c hT2 75 2 (q := 0) rfl rfl rfl rfl rfl rfl rfl rfl rfl rfl rfl xkq_n)⟩ xst_n ?_ ?_
      · show (zyEl zymx B H2) = (zyEl zymx B s.heap) ∧ ((v2 1) : Int) = 136 ∧ ((v2 2) : Int) = x0 1 ∧ (0 ≤ (0 : Int) ∧ (0 : Int) ≤ xE (zyEl zymx B s.heap) 75 2) ∧ ∀ b, 0 ≤ b → b < (0 : Int) → ¬ xE (zyEl zymx B s.heap) 75 (136 + b) = x0 1
        exact ⟨(xFr_n hfr).trans hE, by omega, by omega, by omega, fun b b0 b1 => by omega⟩
      · show (100 - (0 : Int)).toNat < 900
        omega
    · have hx : x ∈ [zxfbi_hx0] := hx
      have hag : ∀ k, k < 5 → v2 k = v k := hag
      have hfr : xFr [] _ _ := hfr
      have ex := List.mem_singleton.mp hx
      subst ex
      obtain ⟨hF, hBd, hM⟩ := hXs
      have r2 := hr2 2
      have r5 := hr2 5
      have g1 : v2 1 = v 1 := hag 1 (by decide)
      have g2 : v2 2 = v 2 := hag 2 (by decide)
      have g3 : v2 3 = v 3 := hag 3 (by decide)
      have g4 : v2 4 = v 4 := hag 4 (by decide)
      have b0 : ((2147483784 : Nat) : Int) ≤ (v2 1) + 2147483648 ∧ (v2 1) + 2147483648 ≤ ((2147483784 : Nat) : Int) := xXb hBd 0 rfl
      have b1 : ((2147483648 : Nat) : Int) ≤ (v2 3) + 2147483648 ∧ (v2 3) + 2147483648 ≤ ((2147483655 : Nat) : Int) := xXb hBd 1 rfl
      have b2 : ((2147483649 : Nat) : Int) ≤ (v2 4) + 2147483648 ∧ (v2 4) + 2147483648 ≤ ((2147483656 : Nat) : Int) := xXb hBd 2 rfl
      have b3 : ((2147483649 : Nat) : Int) ≤ (v2 3 + 1) + 2147483648 ∧ (v2 3 + 1) + 2147483648 ≤ ((2147483656 : Nat) : Int) := xXb hBd 3 rfl
      have k0 : xE (zyEl zymx B H) 75 2 = v 4 := xKcf hKc 0 rfl rfl
      have f0 : (v2 3) < (v2 4) := xXf hF 0 rfl
      have f1 : (0 : Int) ≤ (v2 3 + 136) ∧ xE (zyEl zymx B H) 75 (v2 3 + 136) = (v2 5) := xXf hF 1 rfl
      have f2 : ¬ (v2 5) = (v2 2) := xXf hF 2 rfl
      have e75_2 : xE (zyEl zymx B H2) 75 2 = xE (zyEl zymx B H) 75 2 := xFr_E hfr rfl
      have q75_2 : xE (zyEl zymx B H) 75 2 = xE (zyEl zymx B s.heap) 75 2 := xFr_E hFr0 rfl
      have e75 : ∀ i, xE (zyEl zymx B H2) 75 i = xE (zyEl zymx B H) 75 i := fun i => xFr_E hfr rfl
      have q75 : ∀ i, xE (zyEl zymx B H) 75 i = xE (zyEl zymx B s.heap) 75 i := fun i => xFr_E hFr0 rfl
      have hI : (zyEl zymx B H) = (zyEl zymx B s.heap) ∧ (v 1) = 136 ∧ (v 2) = x0 1 ∧ (0 ≤ (v 3) ∧ (v 3) ≤ xE (zyEl zymx B s.heap) 75 2) ∧ ∀ b, 0 ≤ b → b < (v 3) → ¬ xE (zyEl zymx B s.heap) 75 (136 + b) = x0 1 := hInv
      obtain ⟨hE, i1, i2, i3, i4⟩ := hI
      have h752 := q75 2
      obtain ⟨hP1, hP2, hP3⟩ := (show xΦbi x0 (zyEl zymx B s.heap) from hΦ)
      have e : xE (zyEl zymx B s.heap) 75 (136 + v 3) = (v2 5) := by
        rw [← q75, show (136 : Int) + v 3 = (v2 3 + 136) by omega]
        exact f1.2
      have z75_2 : ((0 : Nat) : Int) ≤ xE (zyEl zymx B H2) 75 2 + 2147483648 ∧ xE (zyEl zymx B H2) 75 2 + 2147483648 ≤ ((4294967295 : Nat) : Int) := xTyF hT2 75 2 0 rfl rfl rfl rfl rfl rfl
      refine xGo hIH hAt hB hv hFr ⟨2, by decide⟩ [0, 34359738369, 68719476737, 103079215113] [0, (v2 1), (v2 2), (v2 3 + 1), xE (zyEl zymx B H2) 75 2] rfl ⟨by decide +kernel, ⟨rfl, by decide +kernel⟩, (xcs_c rfl (xcs_c rfl (xcs_c rfl (xcs_c rfl xcs_n)))), (xe_0 (xe_c (by omega) (by omega) rfl (xe_f (by omega) (xe_c (by omega) (by omega) rfl (xe_c (by omega) (by omega) rfl xe_n))))), (xkq_c hT2 75 2 (q := 0) rfl rfl rfl rfl rfl rfl rfl rfl rfl rfl rfl xkq_n)⟩ xst_n ?_ ?_
      · show (zyEl zymx B H2) = (zyEl zymx B s.heap) ∧ ((v2 1) : Int) = 136 ∧ ((v2 2) : Int) = x0 1 ∧ (0 ≤ ((v2 3 + 1) : Int) ∧ ((v2 3 + 1) : Int) ≤ xE (zyEl zymx B s.heap) 75 2) ∧ ∀ b, 0 ≤ b → b < ((v2 3 + 1) : Int) → ¬ xE (zyEl zymx B s.heap) 75 (136 + b) = x0 1
        refine ⟨(xFr_n hfr).trans hE, by omega, by omega, by omega, fun b b0 b1 => ?_⟩
        by_cases eb : b = v 3
        · rw [eb, e]
          omega
        · exact i4 b b0 (by omega)
      · show (100 - ((v2 3 + 1) : Int)).toNat < (100 - (v 3)).toNat
        omega
  · intro x0 E0 E E2 hrx hT0 hΦ i v hT hrv hInv hKc hFr0 x hx v2 hr2 hXs hag hfr hFr hT2
    rcases i with ⟨i, hi⟩
    have hi2 : i = 0 ∨ i = 1 ∨ i = 2 := by omega
    rcases hi2 with rfl | rfl | rfl
    · cases hx
    · cases hx
    · have hx : x ∈ [zxfbi_hr0, zxfbi_hr1] := hx
      have hag : ∀ k, k < 5 → v2 k = v k := hag
      have hfr : xFr [] _ _ := hfr
      rcases List.mem_cons.mp hx with ex | hx
      · subst ex
        obtain ⟨hF, hBd, hM⟩ := hXs
        have r2 := hr2 2
        have r5 := hr2 5
        have g1 : v2 1 = v 1 := hag 1 (by decide)
        have g2 : v2 2 = v 2 := hag 2 (by decide)
        have g3 : v2 3 = v 3 := hag 3 (by decide)
        have g4 : v2 4 = v 4 := hag 4 (by decide)
        have b0 : ((2147483648 : Nat) : Int) ≤ (v2 3) + 2147483648 ∧ (v2 3) + 2147483648 ≤ ((2147483655 : Nat) : Int) := xXb hBd 0 rfl
        have b1 : ((2147483649 : Nat) : Int) ≤ (v2 4) + 2147483648 ∧ (v2 4) + 2147483648 ≤ ((2147483656 : Nat) : Int) := xXb hBd 1 rfl
        have k0 : xE E 75 2 = v 4 := xKcf hKc 0 rfl rfl
        have f0 : (v2 3) < (v2 4) := xXf hF 0 rfl
        have f1 : (0 : Int) ≤ (v2 3 + 136) ∧ xE E 75 (v2 3 + 136) = (v2 5) := xXf hF 1 rfl
        have f2 : (v2 5) = (v2 2) := xXf hF 2 rfl
        have e75_2 : xE E2 75 2 = xE E 75 2 := xFr_E hfr rfl
        have q75_2 : xE E 75 2 = xE E0 75 2 := xFr_E hFr0 rfl
        have e75 : ∀ i, xE E2 75 i = xE E 75 i := fun i => xFr_E hfr rfl
        have q75 : ∀ i, xE E 75 i = xE E0 75 i := fun i => xFr_E hFr0 rfl
        have hI : E = E0 ∧ (v 1) = 136 ∧ (v 2) = x0 1 ∧ (0 ≤ (v 3) ∧ (v 3) ≤ xE E0 75 2) ∧ ∀ b, 0 ≤ b → b < (v 3) → ¬ xE E0 75 (136 + b) = x0 1 := hInv
        show xΨbi x0 E0 E2 (v2 3)
        obtain ⟨hE, i1, i2, i3, i4⟩ := hI
        have h752 := q75 2
        obtain ⟨hP1, hP2, hP3⟩ := (show xΦbi x0 E0 from hΦ)
        have e : xE E0 75 (136 + v 3) = (v2 5) := by
          rw [← q75, show (136 : Int) + v 3 = (v2 3 + 136) by omega]
          exact f1.2
        unfold xΨbi
        refine Or.inr ⟨by omega, by omega, ?_⟩
        rw [show (v2 3) = v 3 by omega, e]
        omega
      · skip
        have ex := List.mem_singleton.mp hx
        subst ex
        obtain ⟨hF, hBd, hM⟩ := hXs
        have g1 : v2 1 = v 1 := hag 1 (by decide)
        have g2 : v2 2 = v 2 := hag 2 (by decide)
        have g3 : v2 3 = v 3 := hag 3 (by decide)
        have g4 : v2 4 = v 4 := hag 4 (by decide)
        have b0 : ((2147483648 : Nat) : Int) ≤ (v2 3) + 2147483648 ∧ (v2 3) + 2147483648 ≤ ((2147483656 : Nat) : Int) := xXb hBd 0 rfl
        have b1 : ((2147483648 : Nat) : Int) ≤ (v2 4) + 2147483648 ∧ (v2 4) + 2147483648 ≤ ((2147483656 : Nat) : Int) := xXb hBd 1 rfl
        have k0 : xE E 75 2 = v 4 := xKcf hKc 0 rfl rfl
        have f0 : (v2 4) ≤ (v2 3) := xXf hF 0 rfl
        have e75_2 : xE E2 75 2 = xE E 75 2 := xFr_E hfr rfl
        have q75_2 : xE E 75 2 = xE E0 75 2 := xFr_E hFr0 rfl
        have e75 : ∀ i, xE E2 75 i = xE E 75 i := fun i => xFr_E hfr rfl
        have q75 : ∀ i, xE E 75 i = xE E0 75 i := fun i => xFr_E hFr0 rfl
        have hI : E = E0 ∧ (v 1) = 136 ∧ (v 2) = x0 1 ∧ (0 ≤ (v 3) ∧ (v 3) ≤ xE E0 75 2) ∧ ∀ b, 0 ≤ b → b < (v 3) → ¬ xE E0 75 (136 + b) = x0 1 := hInv
        show xΨbi x0 E0 E2 (-1)
        obtain ⟨hE, i1, i2, i3, i4⟩ := hI
        have h752 := q75 2
        obtain ⟨hP1, hP2, hP3⟩ := (show xΦbi x0 E0 from hΦ)
        unfold xΨbi
        exact Or.inl ⟨by omega, fun b b0 b1 => i4 b b0 (by omega)⟩
noncomputable def zxfit_zx0 : zyXp := (0, [595, 34359738369], [], [], [], [])
noncomputable def zpfit_z : zyPh := (0, [595, 34359738369], [(0, 4294967295), (0, 4294967295)], [], [])
noncomputable def zxfit_ax0 : zyXp := (5, [595, 34359738369], [34359738369, 1088, 595], [], [], [])
noncomputable def zpfit_a : zyPh := (0, [595, 34359738369], [(0, 4294967295), (0, 4294967295)], [], [])
noncomputable def zxfit_bx0 : zyXp := (13, [595, 34359738369], [34359738369, 595], [(20, 0, 68719476737, 0)], [(68719476737, 0, 2147483647)], [])
noncomputable def zxfit_br0 : zyXp := (0, [], [8], [(21, 0, 68719476737, 0)], [(68719476737, 2147483648, 4294967295)], [])
noncomputable def zpfit_b : zyPh := (8, [595, 34359738369], [(0, 4294967295), (0, 4294967295), (0, 4294967295)], [], [68719476737])
noncomputable def zxfit_cx0 : zyXp := (25, [595, 34359738369], [34359738369, 595, 1088, 595], [(21, 0, 68719476737, 0)], [(68719476737, 2147483648, 4294967295)], [])
noncomputable def zxfit_cr0 : zyXp := (0, [], [0], [(20, 0, 68719476737, 0)], [(68719476737, 0, 2147483647)], [])
noncomputable def zpfit_c : zyPh := (16, [595, 34359738369], [(0, 4294967295), (0, 4294967295), (0, 4294967295)], [], [68719476737])
noncomputable def zxfit_dx0 : zyXp := (28, [595, 34359738369], [103079215105, 68719476737, 595], [], [(68719476737, 2147483784, 2147483784)], [])
noncomputable def zpfit_d : zyPh := (28, [595, 34359738369], [(0, 4294967295), (0, 4294967295), (2147483784, 2147483784), (0, 4294967295)], [], [103079215105, 68719476737, 595])
noncomputable def zxfit_er0 : zyXp := (0, [], [0], [(20, 0, 68719476737, 0)], [(68719476737, 0, 2147483647)], [])
noncomputable def zxfit_er1 : zyXp := (0, [], [8], [(21, 0, 68719476737, 0)], [(68719476737, 2147483648, 4294967295)], [])
noncomputable def zpfit_e : zyPh := (31, [595, 34359738369], [(0, 4294967295), (0, 4294967295), (0, 4294967295)], [], [68719476737])
noncomputable def zpfit (i : Nat) : zyPh := zif (Nat.beq i 0) (zpfit_z) (zif (Nat.beq i 1) (zpfit_a) (zif (Nat.beq i 2) (zpfit_b) (zif (Nat.beq i 3) (zpfit_c) (zif (Nat.beq i 4) (zpfit_d) (zpfit_e)))))
noncomputable def zXfit (i : Nat) : List zyXp := zif (Nat.beq i 0) ([zxfit_zx0]) (zif (Nat.beq i 1) ([zxfit_ax0]) (zif (Nat.beq i 2) ([zxfit_bx0]) (zif (Nat.beq i 3) ([zxfit_cx0]) (zif (Nat.beq i 4) ([zxfit_dx0]) ([])))))
noncomputable def zRfit (i : Nat) : List zyXp := zif (Nat.beq i 0) ([]) (zif (Nat.beq i 1) ([]) (zif (Nat.beq i 2) ([zxfit_br0]) (zif (Nat.beq i 3) ([zxfit_cr0]) (zif (Nat.beq i 4) ([]) ([zxfit_er0, zxfit_er1])))))
noncomputable def zFfit (i : Nat) : zyR := zif (Nat.beq i 0) ([]) (zif (Nat.beq i 1) ([]) (zif (Nat.beq i 2) ([]) (zif (Nat.beq i 3) ([]) (zif (Nat.beq i 4) ([]) ([])))))
noncomputable def zSfit (i : Nat) : Nat := zif (Nat.beq i 0) (0) (zif (Nat.beq i 1) (0) (zif (Nat.beq i 2) (0) (zif (Nat.beq i 3) (0) (zif (Nat.beq i 4) (0) (0)))))
/-- is a start taken? -/
def xΦit (x : Nat → Int) (E : zyEm) : Prop := (1 ≤ xE E 75 0 ∧ xE E 75 0 ≤ 4) ∧ (1 ≤ xE E 75 1 ∧ xE E 75 1 ≤ 5) ∧ (0 ≤ x 0 ∧ x 0 < sN (xE E 75 0) (xE E 75 1)) ∧ (0 ≤ xE E 75 2 ∧ xE E 75 2 ≤ 8) ∧ ∀ b, 0 ≤ b → b < xE E 75 2 → 0 ≤ xE E 75 (136 + b)
def xΨit (x : Nat → Int) (E _ : zyEm) (r : Int) : Prop := r = if pTak (xE E 75) (x 0) (pF (xE E 75 0) (xE E 75 1) (x 0)) (xE E 75 2).toNat = true then 1 else 0
theorem pTak_iff {S : Int → Int} {s f : Int} : ∀ k : Nat, pTak S s f k = true ↔ ∃ b : Int, 0 ≤ b ∧ b < (k : Int) ∧ (S (136 + b) = s ∨ f = S (136 + b)) := by
  intro k
  induction k with
  | zero => exact ⟨fun h => (by have h : false = true := h; cases h), fun ⟨b, h1, h2, _⟩ => by omega⟩
  | succ k ih =>
    show (pTak S s f k || (decide (S (136 + (k : Int)) = s) || decide (f = S (136 + (k : Int))))) = true ↔ _
    rw [Bool.or_eq_true, Bool.or_eq_true, decide_eq_true_eq, decide_eq_true_eq, ih]
    constructor
    · rintro (⟨b, h1, h2, h3⟩ | h)
      · exact ⟨b, h1, by omega, h3⟩
      · exact ⟨k, by omega, by omega, h⟩
    · rintro ⟨b, h1, h2, h3⟩
      by_cases e : b = (k : Int)
      · rw [e] at h3
        exact Or.inr h3
      · exact Or.inl ⟨b, h1, by omega, h3⟩
theorem pTak_i {S : Int → Int} {s f m : Int} (hm : 0 ≤ m) : pTak S s f m.toNat = true ↔ ∃ b : Int, 0 ≤ b ∧ b < m ∧ (S (136 + b) = s ∨ f = S (136 + b)) := by
  rw [pTak_iff, Int.toNat_of_nonneg hm]
noncomputable def fpfit : zyR := []
theorem zyfit_run : zyrS zymx zxi273 (273, 0, 0, 2, 0) 6 zpfit (fun _ _ => []) zFfit zSfit zXfit zRfit 6 = true := by decide +kernel
theorem zyfit_ck : zyAll (fun i => xsubR (zFfit i) fpfit && ((zXfit i).all xckX && (zRfit i).all (fun x => xckX x && xrtB true x))) 6 = true := by decide +kernel
def xIfit (i : Nat) (x0 : Nat → Int) (E0 : zyEm) (v : Nat → Int) (E : zyEm) : Prop := if i = 0 then (E = E0 ∧ (v 1) = x0 0) else if i = 1 then (E = E0 ∧ (v 1) = x0 0) else if i = 2 then (E = E0 ∧ (v 1) = x0 0 ∧ (((v 2) < 0 ∧ (∀ b, 0 ≤ b → b < xE E0 75 2 → ¬ xE E0 75 (136 + b) = x0 0)) ∨ (0 ≤ (v 2) ∧ (v 2) < xE E0 75 2 ∧ xE E0 75 (136 + (v 2)) = x0 0))) else if i = 3 then (E = E0 ∧ (v 1) = x0 0 ∧ (∀ b, 0 ≤ b → b < xE E0 75 2 → ¬ xE E0 75 (136 + b) = x0 0) ∧ (v 2) = pF (xE E0 75 0) (xE E0 75 1) (x0 0)) else if i = 4 then (E = E0 ∧ (v 1) = x0 0 ∧ (∀ b, 0 ≤ b → b < xE E0 75 2 → ¬ xE E0 75 (136 + b) = x0 0) ∧ (v 2) = 136 ∧ (v 3) = pF (xE E0 75 0) (xE E0 75 1) (x0 0) ∧ 0 ≤ pF (xE E0 75 0) (xE E0 75 1) (x0 0)) else (E = E0 ∧ (∀ b, 0 ≤ b → b < xE E0 75 2 → ¬ xE E0 75 (136 + b) = x0 0) ∧ 0 ≤ pF (xE E0 75 0) (xE E0 75 1) (x0 0) ∧ (((v 2) < 0 ∧ ∀ b, 0 ≤ b → b < xE E0 75 2 → ¬ xE E0 75 (136 + b) = pF (xE E0 75 0) (xE E0 75 1) (x0 0)) ∨ (0 ≤ (v 2) ∧ (v 2) < xE E0 75 2 ∧ xE E0 75 (136 + (v 2)) = pF (xE E0 75 0) (xE E0 75 1) (x0 0))))
def xMfit (i : Nat) (x0 : Nat → Int) (E0 : zyEm) (v : Nat → Int) (E : zyEm) : Nat := if i = 0 then (9) else if i = 1 then (8) else if i = 2 then (7) else if i = 3 then (6) else if i = 4 then (5) else (4)
theorem xIt {l : Launch} {en : zEn} {me : zMe} (hen : zG zxMeta 273 = some en) (hme : zG zMeth 273 = some me) : xFc l zymx en me 6 [74] 1 fpfit true xΦit xΨit := by
  have een : zG zxMeta 273 = some (zxi273, 2, 2, 11, 273, 0, 0, 2, 0) := rfl
  obtain ⟨me1, hme1, hOK⟩ := zall hen
  rw [hme] at hme1
  cases hme1
  rw [een] at hen
  cases hen
  have hr := zyfit_run
  have hck := fun i hi => zyAll_iff zyfit_ck i hi
  simp only [Bool.and_eq_true] at hck
  obtain ⟨mefbi, hmefbi, -⟩ := zall (show zG zxMeta 267 = some (zxi267, 3, 4, 11, 267, 0, 0, 1, 0) from rfl)
  have hfbi := xBi (l := l) (show zG zxMeta 267 = some (zxi267, 3, 4, 11, 267, 0, 0, 1, 0) from rfl) hmefbi
  obtain ⟨meffa, hmeffa, -⟩ := zall (show zG zxMeta 203 = some (zxi203, 2, 3, 11, 203, 0, 0, 1, 0) from rfl)
  have hffa := xFa (l := l) (show zG zxMeta 203 = some (zxi203, 2, 3, 11, 203, 0, 0, 1, 0) from rfl) hmeffa
  intro B
  refine xcut (mi := zymx) (B := B) hOK rfl rfl (ι := Fin 6) (fun i => zpfit i.val) (fun _ _ => []) (fun i => zFfit i.val) (fun i => zSfit i.val) (fun i => zXfit i.val) (fun i => zRfit i.val) (fun i y2 ct en2 me2 h => by cases h) 200000 (fun i => zyAll_iff hr i.val i.isLt) (fun i => (hck i.val i.isLt).1) (fun i => (hck i.val i.isLt).2.1) (fun i => (hck i.val i.isLt).2.2) ⟨0, by decide⟩ ⟨rfl, rfl, rfl, rfl⟩ ⟨by decide, by decide⟩ (fun i x0 E0 v E => xIfit i.val x0 E0 v E) (fun i x0 E0 v E => xMfit i.val x0 E0 v E) ?_ ?_ ?_
  · intro x0 E hx0 hT hΦ
    have hΦ : xΦit x0 E := hΦ
    refine ⟨fun k p hp => ?_, ?_⟩
    · have hk : k < 2 := (List.getElem?_eq_some_iff.mp hp).1
      have hk : k = 0 ∨ k = 1 := by omega
      rcases hk with rfl | rfl
      · have hp : some (0, 4294967295) = some p := hp
        cases hp
        show ((0 : Nat) : Int) ≤ 0 + 2147483648 ∧ 0 + 2147483648 ≤ ((4294967295 : Nat) : Int)
        omega
      · have hp : some (0, 4294967295) = some p := hp
        cases hp
        show ((0 : Nat) : Int) ≤ x0 0 + 2147483648 ∧ x0 0 + 2147483648 ≤ ((4294967295 : Nat) : Int)
        have hx := hx0 0
        omega
    · show E = E ∧ (x0 0) = x0 0
      exact ⟨rfl, rfl⟩
  · intro x0 s Wg hRu hrx hT0 hΦ i v H hT hrv hInv hKc hFr0 hIH x hx ρ2 v2 N2 H2 locs lsB stA hAt hB hv hr2 hXs hag hfr hFr hT2
    rcases i with ⟨i, hi⟩
    have hi2 : i = 0 ∨ i = 1 ∨ i = 2 ∨ i = 3 ∨ i = 4 ∨ i = 5 := by omega
    rcases hi2 with rfl | rfl | rfl | rfl | rfl | rfl
    · have hx : x ∈ [zxfit_zx0] := hx
      have hag : ∀ k, k < 2 → v2 k = v k := hag
      have hfr : xFr [] _ _ := hfr
      have ex := List.mem_singleton.mp hx
      subst ex
      obtain ⟨hF, hBd, hM⟩ := hXs
      have r1 := hr2 1
      have g1 : v2 1 = v 1 := hag 1 (by decide)
      have e75_0 : xE (zyEl zymx B H2) 75 0 = xE (zyEl zymx B H) 75 0 := xFr_E hfr rfl
      have q75_0 : xE (zyEl zymx B H) 75 0 = xE (zyEl zymx B s.heap) 75 0 := xFr_E hFr0 rfl
      have e75_1 : xE (zyEl zymx B H2) 75 1 = xE (zyEl zymx B H) 75 1 := xFr_E hfr rfl
      have q75_1 : xE (zyEl zymx B H) 75 1 = xE (zyEl zymx B s.heap) 75 1 := xFr_E hFr0 rfl
      have e75_2 : xE (zyEl zymx B H2) 75 2 = xE (zyEl zymx B H) 75 2 := xFr_E hfr rfl
      have q75_2 : xE (zyEl zymx B H) 75 2 = xE (zyEl zymx B s.heap) 75 2 := xFr_E hFr0 rfl
      have e75 : ∀ i, xE (zyEl zymx B H2) 75 i = xE (zyEl zymx B H) 75 i := fun i => xFr_E hfr rfl
      have q75 : ∀ i, xE (zyEl zymx B H) 75 i = xE (zyEl zymx B s.heap) 75 i := fun i => xFr_E hFr0 rfl
      have hI : (zyEl zymx B H) = (zyEl zymx B s.heap) ∧ (v 1) = x0 0 := hInv
      obtain ⟨hE, i1⟩ := hI
      refine xGo hIH hAt hB hv hFr ⟨1, by decide⟩ [0, 34359738369] [0, (v2 1)] rfl ⟨by decide +kernel, ⟨rfl, by decide +kernel⟩, (xcs_c rfl (xcs_c rfl xcs_n)), (xe_0 (xe_f (by omega) xe_n)), xkq_n⟩ xst_n ?_ ?_
      · show (zyEl zymx B H2) = (zyEl zymx B s.heap) ∧ ((v2 1) : Int) = x0 0
        exact ⟨(xFr_n hfr).trans hE, by omega⟩
      · show 8 < 9
        omega
    · have hx : x ∈ [zxfit_ax0] := hx
      have hag : ∀ k, k < 2 → v2 k = v k := hag
      have hfr : xFr [] _ _ := hfr
      have ex := List.mem_singleton.mp hx
      subst ex
      obtain ⟨hF, hBd, hM⟩ := hXs
      have r1 := hr2 1
      have g1 : v2 1 = v 1 := hag 1 (by decide)
      have e75_0 : xE (zyEl zymx B H2) 75 0 = xE (zyEl zymx B H) 75 0 := xFr_E hfr rfl
      have q75_0 : xE (zyEl zymx B H) 75 0 = xE (zyEl zymx B s.heap) 75 0 := xFr_E hFr0 rfl
      have e75_1 : xE (zyEl zymx B H2) 75 1 = xE (zyEl zymx B H) 75 1 := xFr_E hfr rfl
      have q75_1 : xE (zyEl zymx B H) 75 1 = xE (zyEl zymx B s.heap) 75 1 := xFr_E hFr0 rfl
      have e75_2 : xE (zyEl zymx B H2) 75 2 = xE (zyEl zymx B H) 75 2 := xFr_E hfr rfl
      have q75_2 : xE (zyEl zymx B H) 75 2 = xE (zyEl zymx B s.heap) 75 2 := xFr_E hFr0 rfl
      have e75 : ∀ i, xE (zyEl zymx B H2) 75 i = xE (zyEl zymx B H) 75 i := fun i => xFr_E hfr rfl
      have q75 : ∀ i, xE (zyEl zymx B H) 75 i = xE (zyEl zymx B s.heap) 75 i := fun i => xFr_E hFr0 rfl
      have hI : (zyEl zymx B H) = (zyEl zymx B s.heap) ∧ (v 1) = x0 0 := hInv
      obtain ⟨hE, i1⟩ := hI
      have hEE : (zyEl zymx B H2) = (zyEl zymx B s.heap) := (xFr_n hfr).trans hE
      obtain ⟨hP1, hP2, hP3, hP4, hP5⟩ := (show xΦit x0 (zyEl zymx B s.heap) from hΦ)
      refine xCa hRu hIH hAt hB hv hFr (hfbi B) (ix := 314) (ax := 4272) rfl rfl rfl hmefbi ⟨_, rfl, rfl, by decide⟩ ⟨rfl, rfl, rfl⟩ (by decide) [1088, 34359738369] [] [136, (v2 1)] rfl ⟨rfl, rfl⟩ (by decide +kernel) (xcs_c rfl (xcs_c rfl xcs_n)) (by decide +kernel) ?_ (fun H3 r hT3 hf3 hFr3 hr3 hΨ3 => ?_)
      · show xΦbi (xfv [136, (v2 1)]) (zyEl zymx B H2)
        rw [hEE]
        exact ⟨rfl, by omega, by omega⟩
      · have hΨ3 : xΨbi (xfv [136, (v2 1)]) (zyEl zymx B H2) (zyEl zymx B H3) r := hΨ3
        have d75_0 : xE (zyEl zymx B H3) 75 0 = xE (zyEl zymx B H2) 75 0 := xFr_E hf3 rfl
        have d75_1 : xE (zyEl zymx B H3) 75 1 = xE (zyEl zymx B H2) 75 1 := xFr_E hf3 rfl
        have d75_2 : xE (zyEl zymx B H3) 75 2 = xE (zyEl zymx B H2) 75 2 := xFr_E hf3 rfl
        have d75 : ∀ i, xE (zyEl zymx B H3) 75 i = xE (zyEl zymx B H2) 75 i := fun i => xFr_E hf3 rfl
        have hg : (r < 0 ∧ ∀ b, 0 ≤ b → b < xE (zyEl zymx B H2) 75 2 → ¬ xE (zyEl zymx B H2) 75 (136 + b) = v2 1) ∨ (0 ≤ r ∧ r < xE (zyEl zymx B H2) 75 2 ∧ xE (zyEl zymx B H2) 75 (136 + r) = v2 1) := hΨ3
        rw [hEE] at hg
        have hE3 : (zyEl zymx B H3) = (zyEl zymx B s.heap) := (xFr_n hf3).trans hEE
        refine ⟨⟨2, by decide⟩, [0, 34359738369], [0, (v2 1), r], rfl, ⟨by decide +kernel, ⟨rfl, by decide +kernel⟩, (xcs_c rfl (xcs_c rfl xcs_n)), (xe_0 (xe_f (by omega) (xe_f (by omega) xe_n))), xkq_n⟩, (by rw [if_pos rfl]; exact ⟨2, [], rfl, by decide, rfl, xst_n⟩), ?_, ?_⟩
        · show (zyEl zymx B H3) = (zyEl zymx B s.heap) ∧ ((v2 1) : Int) = x0 0 ∧ (((r : Int) < 0 ∧ (∀ b, 0 ≤ b → b < xE (zyEl zymx B s.heap) 75 2 → ¬ xE (zyEl zymx B s.heap) 75 (136 + b) = x0 0)) ∨ (0 ≤ (r : Int) ∧ (r : Int) < xE (zyEl zymx B s.heap) 75 2 ∧ xE (zyEl zymx B s.heap) 75 (136 + (r : Int)) = x0 0))
          refine ⟨hE3, by omega, ?_⟩
          rw [show x0 0 = v2 1 by omega]
          exact hg
        · show 7 < 8
          omega
    · have hx : x ∈ [zxfit_bx0] := hx
      have hag : ∀ k, k < 3 → v2 k = v k := hag
      have hfr : xFr [] _ _ := hfr
      have ex := List.mem_singleton.mp hx
      subst ex
      obtain ⟨hF, hBd, hM⟩ := hXs
      have r1 := hr2 1
      have g1 : v2 1 = v 1 := hag 1 (by decide)
      have g2 : v2 2 = v 2 := hag 2 (by decide)
      have b0 : ((0 : Nat) : Int) ≤ (v2 2) + 2147483648 ∧ (v2 2) + 2147483648 ≤ ((2147483647 : Nat) : Int) := xXb hBd 0 rfl
      have f0 : (v2 2) < 0 := xXf hF 0 rfl
      have e75_0 : xE (zyEl zymx B H2) 75 0 = xE (zyEl zymx B H) 75 0 := xFr_E hfr rfl
      have q75_0 : xE (zyEl zymx B H) 75 0 = xE (zyEl zymx B s.heap) 75 0 := xFr_E hFr0 rfl
      have e75_1 : xE (zyEl zymx B H2) 75 1 = xE (zyEl zymx B H) 75 1 := xFr_E hfr rfl
      have q75_1 : xE (zyEl zymx B H) 75 1 = xE (zyEl zymx B s.heap) 75 1 := xFr_E hFr0 rfl
      have e75_2 : xE (zyEl zymx B H2) 75 2 = xE (zyEl zymx B H) 75 2 := xFr_E hfr rfl
      have q75_2 : xE (zyEl zymx B H) 75 2 = xE (zyEl zymx B s.heap) 75 2 := xFr_E hFr0 rfl
      have e75 : ∀ i, xE (zyEl zymx B H2) 75 i = xE (zyEl zymx B H) 75 i := fun i => xFr_E hfr rfl
      have q75 : ∀ i, xE (zyEl zymx B H) 75 i = xE (zyEl zymx B s.heap) 75 i := fun i => xFr_E hFr0 rfl
      have hI : (zyEl zymx B H) = (zyEl zymx B s.heap) ∧ (v 1) = x0 0 ∧ (((v 2) < 0 ∧ (∀ b, 0 ≤ b → b < xE (zyEl zymx B s.heap) 75 2 → ¬ xE (zyEl zymx B s.heap) 75 (136 + b) = x0 0)) ∨ (0 ≤ (v 2) ∧ (v 2) < xE (zyEl zymx B s.heap) 75 2 ∧ xE (zyEl zymx B s.heap) 75 (136 + (v 2)) = x0 0)) := hInv
      obtain ⟨hE, i1, i2⟩ := hI
      have hEE : (zyEl zymx B H2) = (zyEl zymx B s.heap) := (xFr_n hfr).trans hE
      obtain ⟨hP1, hP2, hP3, hP4, hP5⟩ := (show xΦit x0 (zyEl zymx B s.heap) from hΦ)
      have i3 : (∀ b, 0 ≤ b → b < xE (zyEl zymx B s.heap) 75 2 → ¬ xE (zyEl zymx B s.heap) 75 (136 + b) = x0 0) := by
        rcases i2 with ⟨h1, h2⟩ | ⟨h1, h2, h3⟩
        · exact h2
        · exfalso
          omega
      refine xCa hRu hIH hAt hB hv hFr (hffa B) (ix := 145) (ax := 3248) rfl rfl rfl hmeffa ⟨_, rfl, rfl, by decide⟩ ⟨rfl, rfl, rfl⟩ (by decide) [34359738369] [] [(v2 1)] rfl ⟨rfl, rfl⟩ (by decide +kernel) (xcs_c rfl xcs_n) (by decide +kernel) ?_ (fun H3 r hT3 hf3 hFr3 hr3 hΨ3 => ?_)
      · show xΦfa (xfv [(v2 1)]) (zyEl zymx B H2)
        rw [hEE]
        exact ⟨hP1, hP2, by show 0 ≤ v2 1; omega, by show v2 1 < _; omega⟩
      · have hΨ3 : xΨfa (xfv [(v2 1)]) (zyEl zymx B H2) (zyEl zymx B H3) r := hΨ3
        have d75_0 : xE (zyEl zymx B H3) 75 0 = xE (zyEl zymx B H2) 75 0 := xFr_E hf3 rfl
        have d75_1 : xE (zyEl zymx B H3) 75 1 = xE (zyEl zymx B H2) 75 1 := xFr_E hf3 rfl
        have d75_2 : xE (zyEl zymx B H3) 75 2 = xE (zyEl zymx B H2) 75 2 := xFr_E hf3 rfl
        have d75 : ∀ i, xE (zyEl zymx B H3) 75 i = xE (zyEl zymx B H2) 75 i := fun i => xFr_E hf3 rfl
        have hr : r = pF (xE (zyEl zymx B H2) 75 0) (xE (zyEl zymx B H2) 75 1) (v2 1) := hΨ3
        have hE3 : (zyEl zymx B H3) = (zyEl zymx B s.heap) := (xFr_n hf3).trans hEE
        refine ⟨⟨3, by decide⟩, [0, 34359738369], [0, (v2 1), r], rfl, ⟨by decide +kernel, ⟨rfl, by decide +kernel⟩, (xcs_c rfl (xcs_c rfl xcs_n)), (xe_0 (xe_f (by omega) (xe_f (by omega) xe_n))), xkq_n⟩, (by rw [if_pos rfl]; exact ⟨2, [], rfl, by decide, rfl, xst_n⟩), ?_, ?_⟩
        · show (zyEl zymx B H3) = (zyEl zymx B s.heap) ∧ ((v2 1) : Int) = x0 0 ∧ (∀ b, 0 ≤ b → b < xE (zyEl zymx B s.heap) 75 2 → ¬ xE (zyEl zymx B s.heap) 75 (136 + b) = x0 0) ∧ (r : Int) = pF (xE (zyEl zymx B s.heap) 75 0) (xE (zyEl zymx B s.heap) 75 1) (x0 0)
          refine ⟨hE3, by omega, i3, ?_⟩
          rw [hr, hEE, show v2 1 = x0 0 by omega]
        · show 6 < 7
          omega
    · have hx : x ∈ [zxfit_cx0] := hx
      have hag : ∀ k, k < 3 → v2 k = v k := hag
      have hfr : xFr [] _ _ := hfr
      have ex := List.mem_singleton.mp hx
      subst ex
      obtain ⟨hF, hBd, hM⟩ := hXs
      have r1 := hr2 1
      have g1 : v2 1 = v 1 := hag 1 (by decide)
      have g2 : v2 2 = v 2 := hag 2 (by decide)
      have b0 : ((2147483648 : Nat) : Int) ≤ (v2 2) + 2147483648 ∧ (v2 2) + 2147483648 ≤ ((4294967295 : Nat) : Int) := xXb hBd 0 rfl
      have f0 : 0 ≤ (v2 2) := xXf hF 0 rfl
      have e75_0 : xE (zyEl zymx B H2) 75 0 = xE (zyEl zymx B H) 75 0 := xFr_E hfr rfl
      have q75_0 : xE (zyEl zymx B H) 75 0 = xE (zyEl zymx B s.heap) 75 0 := xFr_E hFr0 rfl
      have e75_1 : xE (zyEl zymx B H2) 75 1 = xE (zyEl zymx B H) 75 1 := xFr_E hfr rfl
      have q75_1 : xE (zyEl zymx B H) 75 1 = xE (zyEl zymx B s.heap) 75 1 := xFr_E hFr0 rfl
      have e75_2 : xE (zyEl zymx B H2) 75 2 = xE (zyEl zymx B H) 75 2 := xFr_E hfr rfl
      have q75_2 : xE (zyEl zymx B H) 75 2 = xE (zyEl zymx B s.heap) 75 2 := xFr_E hFr0 rfl
      have e75 : ∀ i, xE (zyEl zymx B H2) 75 i = xE (zyEl zymx B H) 75 i := fun i => xFr_E hfr rfl
      have q75 : ∀ i, xE (zyEl zymx B H) 75 i = xE (zyEl zymx B s.heap) 75 i := fun i => xFr_E hFr0 rfl
      have hI : (zyEl zymx B H) = (zyEl zymx B s.heap) ∧ (v 1) = x0 0 ∧ (∀ b, 0 ≤ b → b < xE (zyEl zymx B s.heap) 75 2 → ¬ xE (zyEl zymx B s.heap) 75 (136 + b) = x0 0) ∧ (v 2) = pF (xE (zyEl zymx B s.heap) 75 0) (xE (zyEl zymx B s.heap) 75 1) (x0 0) := hInv
      obtain ⟨hE, i1, i2, i3⟩ := hI
      have hEE : (zyEl zymx B H2) = (zyEl zymx B s.heap) := (xFr_n hfr).trans hE
      obtain ⟨hP1, hP2, hP3, hP4, hP5⟩ := (show xΦit x0 (zyEl zymx B s.heap) from hΦ)
      refine xCa hRu hIH hAt hB hv hFr (hffa B) (ix := 145) (ax := 3248) rfl rfl rfl hmeffa ⟨_, rfl, rfl, by decide⟩ ⟨rfl, rfl, rfl⟩ (by decide) [34359738369] [1088, 595] [(v2 1)] rfl ⟨rfl, rfl⟩ (by decide +kernel) (xcs_c rfl xcs_n) (by decide +kernel) ?_ (fun H3 r hT3 hf3 hFr3 hr3 hΨ3 => ?_)
      · show xΦfa (xfv [(v2 1)]) (zyEl zymx B H2)
        rw [hEE]
        exact ⟨hP1, hP2, by show 0 ≤ v2 1; omega, by show v2 1 < _; omega⟩
      · have hΨ3 : xΨfa (xfv [(v2 1)]) (zyEl zymx B H2) (zyEl zymx B H3) r := hΨ3
        have d75_0 : xE (zyEl zymx B H3) 75 0 = xE (zyEl zymx B H2) 75 0 := xFr_E hf3 rfl
        have d75_1 : xE (zyEl zymx B H3) 75 1 = xE (zyEl zymx B H2) 75 1 := xFr_E hf3 rfl
        have d75_2 : xE (zyEl zymx B H3) 75 2 = xE (zyEl zymx B H2) 75 2 := xFr_E hf3 rfl
        have d75 : ∀ i, xE (zyEl zymx B H3) 75 i = xE (zyEl zymx B H2) 75 i := fun i => xFr_E hf3 rfl
        have hr : r = pF (xE (zyEl zymx B H2) 75 0) (xE (zyEl zymx B H2) 75 1) (v2 1) := hΨ3
        rw [hEE, show v2 1 = x0 0 by omega] at hr
        have hE3 : (zyEl zymx B H3) = (zyEl zymx B s.heap) := (xFr_n hf3).trans hEE
        refine ⟨⟨4, by decide⟩, [0, 34359738369], [0, (v2 1), 136, r], rfl, ⟨by decide +kernel, ⟨rfl, by decide +kernel⟩, (xcs_c rfl (xcs_c rfl xcs_n)), (xe_0 (xe_f (by omega) (xe_c (by omega) (by omega) rfl (xe_f (by omega) xe_n)))), xkq_n⟩, (by rw [if_pos rfl]; exact ⟨3, [68719476737, 595], rfl, by decide, rfl, (xst_s 2 rfl rfl rfl (by decide +kernel) rfl (xst_r rfl xst_n))⟩), ?_, ?_⟩
        · show (zyEl zymx B H3) = (zyEl zymx B s.heap) ∧ ((v2 1) : Int) = x0 0 ∧ (∀ b, 0 ≤ b → b < xE (zyEl zymx B s.heap) 75 2 → ¬ xE (zyEl zymx B s.heap) 75 (136 + b) = x0 0) ∧ (136 : Int) = 136 ∧ (r : Int) = pF (xE (zyEl zymx B s.heap) 75 0) (xE (zyEl zymx B s.heap) 75 1) (x0 0) ∧ 0 ≤ pF (xE (zyEl zymx B s.heap) 75 0) (xE (zyEl zymx B s.heap) 75 1) (x0 0)
          exact ⟨hE3, by omega, i2, rfl, hr, by omega⟩
        · show 5 < 6
          omega
    · have hx : x ∈ [zxfit_dx0] := hx
      have hag : ∀ k, k < 4 → v2 k = v k := hag
      have hfr : xFr [] _ _ := hfr
      have ex := List.mem_singleton.mp hx
      subst ex
      obtain ⟨hF, hBd, hM⟩ := hXs
      have r1 := hr2 1
      have r3 := hr2 3
      have g1 : v2 1 = v 1 := hag 1 (by decide)
      have g2 : v2 2 = v 2 := hag 2 (by decide)
      have g3 : v2 3 = v 3 := hag 3 (by decide)
      have b0 : ((2147483784 : Nat) : Int) ≤ (v2 2) + 2147483648 ∧ (v2 2) + 2147483648 ≤ ((2147483784 : Nat) : Int) := xXb hBd 0 rfl
      have e75_0 : xE (zyEl zymx B H2) 75 0 = xE (zyEl zymx B H) 75 0 := xFr_E hfr rfl
      have q75_0 : xE (zyEl zymx B H) 75 0 = xE (zyEl zymx B s.heap) 75 0 := xFr_E hFr0 rfl
      have e75_1 : xE (zyEl zymx B H2) 75 1 = xE (zyEl zymx B H) 75 1 := xFr_E hfr rfl
      have q75_1 : xE (zyEl zymx B H) 75 1 = xE (zyEl zymx B s.heap) 75 1 := xFr_E hFr0 rfl
      have e75_2 : xE (zyEl zymx B H2) 75 2 = xE (zyEl zymx B H) 75 2 := xFr_E hfr rfl
      have q75_2 : xE (zyEl zymx B H) 75 2 = xE (zyEl zymx B s.heap) 75 2 := xFr_E hFr0 rfl
      have e75 : ∀ i, xE (zyEl zymx B H2) 75 i = xE (zyEl zymx B H) 75 i := fun i => xFr_E hfr rfl
      have q75 : ∀ i, xE (zyEl zymx B H) 75 i = xE (zyEl zymx B s.heap) 75 i := fun i => xFr_E hFr0 rfl
      have hI : (zyEl zymx B H) = (zyEl zymx B s.heap) ∧ (v 1) = x0 0 ∧ (∀ b, 0 ≤ b → b < xE (zyEl zymx B s.heap) 75 2 → ¬ xE (zyEl zymx B s.heap) 75 (136 + b) = x0 0) ∧ (v 2) = 136 ∧ (v 3) = pF (xE (zyEl zymx B s.heap) 75 0) (xE (zyEl zymx B s.heap) 75 1) (x0 0) ∧ 0 ≤ pF (xE (zyEl zymx B s.heap) 75 0) (xE (zyEl zymx B s.heap) 75 1) (x0 0) := hInv
      obtain ⟨hE, i1, i2, i3, i4, i5⟩ := hI
      have hEE : (zyEl zymx B H2) = (zyEl zymx B s.heap) := (xFr_n hfr).trans hE
      obtain ⟨hP1, hP2, hP3, hP4, hP5⟩ := (show xΦit x0 (zyEl zymx B s.heap) from hΦ)
      refine xCa hRu hIH hAt hB hv hFr (hfbi B) (ix := 314) (ax := 4272) rfl rfl rfl hmefbi ⟨_, rfl, rfl, by decide⟩ ⟨rfl, rfl, rfl⟩ (by decide) [68719476737, 103079215105] [] [(v2 2), (v2 3)] rfl ⟨rfl, rfl⟩ (by decide +kernel) (xcs_c rfl (xcs_c rfl xcs_n)) (by decide +kernel) ?_ (fun H3 r hT3 hf3 hFr3 hr3 hΨ3 => ?_)
      · show xΦbi (xfv [(v2 2), (v2 3)]) (zyEl zymx B H2)
        rw [hEE]
        exact ⟨by show (v2 2) = 136; omega, by omega, by omega⟩
      · have hΨ3 : xΨbi (xfv [(v2 2), (v2 3)]) (zyEl zymx B H2) (zyEl zymx B H3) r := hΨ3
        have d75_0 : xE (zyEl zymx B H3) 75 0 = xE (zyEl zymx B H2) 75 0 := xFr_E hf3 rfl
        have d75_1 : xE (zyEl zymx B H3) 75 1 = xE (zyEl zymx B H2) 75 1 := xFr_E hf3 rfl
        have d75_2 : xE (zyEl zymx B H3) 75 2 = xE (zyEl zymx B H2) 75 2 := xFr_E hf3 rfl
        have d75 : ∀ i, xE (zyEl zymx B H3) 75 i = xE (zyEl zymx B H2) 75 i := fun i => xFr_E hf3 rfl
        have hg : (r < 0 ∧ ∀ b, 0 ≤ b → b < xE (zyEl zymx B H2) 75 2 → ¬ xE (zyEl zymx B H2) 75 (136 + b) = (v2 3)) ∨ (0 ≤ r ∧ r < xE (zyEl zymx B H2) 75 2 ∧ xE (zyEl zymx B H2) 75 (136 + r) = (v2 3)) := hΨ3
        rw [hEE] at hg
        have hE3 : (zyEl zymx B H3) = (zyEl zymx B s.heap) := (xFr_n hf3).trans hEE
        refine ⟨⟨5, by decide⟩, [0, 34359738369], [0, (v2 1), r], rfl, ⟨by decide +kernel, ⟨rfl, by decide +kernel⟩, (xcs_c rfl (xcs_c rfl xcs_n)), (xe_0 (xe_f (by omega) (xe_f (by omega) xe_n))), xkq_n⟩, (by rw [if_pos rfl]; exact ⟨2, [], rfl, by decide, rfl, xst_n⟩), ?_, ?_⟩
        · show (zyEl zymx B H3) = (zyEl zymx B s.heap) ∧ (∀ b, 0 ≤ b → b < xE (zyEl zymx B s.heap) 75 2 → ¬ xE (zyEl zymx B s.heap) 75 (136 + b) = x0 0) ∧ 0 ≤ pF (xE (zyEl zymx B s.heap) 75 0) (xE (zyEl zymx B s.heap) 75 1) (x0 0) ∧ (((r : Int) < 0 ∧ ∀ b, 0 ≤ b → b < xE (zyEl zymx B s.heap) 75 2 → ¬ xE (zyEl zymx B s.heap) 75 (136 + b) = pF (xE (zyEl zymx B s.heap) 75 0) (xE (zyEl zymx B s.heap) 75 1) (x0 0)) ∨ (0 ≤ (r : Int) ∧ (r : Int) < xE (zyEl zymx B s.heap) 75 2 ∧ xE (zyEl zymx B s.heap) 75 (136 + (r : Int)) = pF (xE (zyEl zymx B s.heap) 75 0) (xE (zyEl zymx B s.heap) 75 1) (x0 0)))
          refine ⟨hE3, i2, i5, ?_⟩
          rw [← i4, show v 3 = (v2 3) by omega]
          exact hg
        · show 4 < 5
          omega
    · cases hx
  · intro x0 E0 E E2 hrx hT0 hΦ i v hT hrv hInv hKc hFr0 x hx v2 hr2 hXs hag hfr hFr hT2
    rcases i with ⟨i, hi⟩
    have hi2 : i = 0 ∨ i = 1 ∨ i = 2 ∨ i = 3 ∨ i = 4 ∨ i = 5 := by omega
    rcases hi2 with rfl | rfl | rfl | rfl | rfl | rfl
    · cases hx
    · cases hx
    · have hx : x ∈ [zxfit_br0] := hx
      have hag : ∀ k, k < 3 → v2 k = v k := hag
      have hfr : xFr [] _ _ := hfr
      have ex := List.mem_singleton.mp hx
      subst ex
      obtain ⟨hF, hBd, hM⟩ := hXs
      have g1 : v2 1 = v 1 := hag 1 (by decide)
      have g2 : v2 2 = v 2 := hag 2 (by decide)
      have b0 : ((2147483648 : Nat) : Int) ≤ (v2 2) + 2147483648 ∧ (v2 2) + 2147483648 ≤ ((4294967295 : Nat) : Int) := xXb hBd 0 rfl
      have f0 : 0 ≤ (v2 2) := xXf hF 0 rfl
      have e75_0 : xE E2 75 0 = xE E 75 0 := xFr_E hfr rfl
      have q75_0 : xE E 75 0 = xE E0 75 0 := xFr_E hFr0 rfl
      have e75_1 : xE E2 75 1 = xE E 75 1 := xFr_E hfr rfl
      have q75_1 : xE E 75 1 = xE E0 75 1 := xFr_E hFr0 rfl
      have e75_2 : xE E2 75 2 = xE E 75 2 := xFr_E hfr rfl
      have q75_2 : xE E 75 2 = xE E0 75 2 := xFr_E hFr0 rfl
      have e75 : ∀ i, xE E2 75 i = xE E 75 i := fun i => xFr_E hfr rfl
      have q75 : ∀ i, xE E 75 i = xE E0 75 i := fun i => xFr_E hFr0 rfl
      have hI : E = E0 ∧ (v 1) = x0 0 ∧ (((v 2) < 0 ∧ (∀ b, 0 ≤ b → b < xE E0 75 2 → ¬ xE E0 75 (136 + b) = x0 0)) ∨ (0 ≤ (v 2) ∧ (v 2) < xE E0 75 2 ∧ xE E0 75 (136 + (v 2)) = x0 0)) := hInv
      show xΨit x0 E0 E2 1
      obtain ⟨hE, i1, i2⟩ := hI
      have hEE : E2 = E0 := (xFr_n hfr).trans hE
      obtain ⟨hP1, hP2, hP3, hP4, hP5⟩ := (show xΦit x0 E0 from hΦ)
      unfold xΨit
      rw [if_pos ((pTak_i (by omega)).mpr ?_)]
      rcases i2 with ⟨h1, h2⟩ | ⟨h1, h2, h3⟩
      · exfalso
        omega
      · exact ⟨v 2, h1, h2, Or.inl h3⟩
    · have hx : x ∈ [zxfit_cr0] := hx
      have hag : ∀ k, k < 3 → v2 k = v k := hag
      have hfr : xFr [] _ _ := hfr
      have ex := List.mem_singleton.mp hx
      subst ex
      obtain ⟨hF, hBd, hM⟩ := hXs
      have g1 : v2 1 = v 1 := hag 1 (by decide)
      have g2 : v2 2 = v 2 := hag 2 (by decide)
      have b0 : ((0 : Nat) : Int) ≤ (v2 2) + 2147483648 ∧ (v2 2) + 2147483648 ≤ ((2147483647 : Nat) : Int) := xXb hBd 0 rfl
      have f0 : (v2 2) < 0 := xXf hF 0 rfl
      have e75_0 : xE E2 75 0 = xE E 75 0 := xFr_E hfr rfl
      have q75_0 : xE E 75 0 = xE E0 75 0 := xFr_E hFr0 rfl
      have e75_1 : xE E2 75 1 = xE E 75 1 := xFr_E hfr rfl
      have q75_1 : xE E 75 1 = xE E0 75 1 := xFr_E hFr0 rfl
      have e75_2 : xE E2 75 2 = xE E 75 2 := xFr_E hfr rfl
      have q75_2 : xE E 75 2 = xE E0 75 2 := xFr_E hFr0 rfl
      have e75 : ∀ i, xE E2 75 i = xE E 75 i := fun i => xFr_E hfr rfl
      have q75 : ∀ i, xE E 75 i = xE E0 75 i := fun i => xFr_E hFr0 rfl
      have hI : E = E0 ∧ (v 1) = x0 0 ∧ (∀ b, 0 ≤ b → b < xE E0 75 2 → ¬ xE E0 75 (136 + b) = x0 0) ∧ (v 2) = pF (xE E0 75 0) (xE E0 75 1) (x0 0) := hInv
      show xΨit x0 E0 E2 0
      obtain ⟨hE, i1, i2, i3⟩ := hI
      have hEE : E2 = E0 := (xFr_n hfr).trans hE
      obtain ⟨hP1, hP2, hP3, hP4, hP5⟩ := (show xΦit x0 E0 from hΦ)
      unfold xΨit
      rw [if_neg (fun z => ?_)]
      obtain ⟨b, b0, b1, b2⟩ := (pTak_i (by omega)).mp z
      have b3 := hP5 b b0 b1
      rcases b2 with b2 | b2
      · exact i2 b b0 b1 b2
      · omega
    · cases hx
    · have hx : x ∈ [zxfit_er0, zxfit_er1] := hx
      have hag : ∀ k, k < 3 → v2 k = v k := hag
      have hfr : xFr [] _ _ := hfr
      rcases List.mem_cons.mp hx with ex | hx
      · subst ex
        obtain ⟨hF, hBd, hM⟩ := hXs
        have g1 : v2 1 = v 1 := hag 1 (by decide)
        have g2 : v2 2 = v 2 := hag 2 (by decide)
        have b0 : ((0 : Nat) : Int) ≤ (v2 2) + 2147483648 ∧ (v2 2) + 2147483648 ≤ ((2147483647 : Nat) : Int) := xXb hBd 0 rfl
        have f0 : (v2 2) < 0 := xXf hF 0 rfl
        have e75_0 : xE E2 75 0 = xE E 75 0 := xFr_E hfr rfl
        have q75_0 : xE E 75 0 = xE E0 75 0 := xFr_E hFr0 rfl
        have e75_1 : xE E2 75 1 = xE E 75 1 := xFr_E hfr rfl
        have q75_1 : xE E 75 1 = xE E0 75 1 := xFr_E hFr0 rfl
        have e75_2 : xE E2 75 2 = xE E 75 2 := xFr_E hfr rfl
        have q75_2 : xE E 75 2 = xE E0 75 2 := xFr_E hFr0 rfl
        have e75 : ∀ i, xE E2 75 i = xE E 75 i := fun i => xFr_E hfr rfl
        have q75 : ∀ i, xE E 75 i = xE E0 75 i := fun i => xFr_E hFr0 rfl
        have hI : E = E0 ∧ (∀ b, 0 ≤ b → b < xE E0 75 2 → ¬ xE E0 75 (136 + b) = x0 0) ∧ 0 ≤ pF (xE E0 75 0) (xE E0 75 1) (x0 0) ∧ (((v 2) < 0 ∧ ∀ b, 0 ≤ b → b < xE E0 75 2 → ¬ xE E0 75 (136 + b) = pF (xE E0 75 0) (xE E0 75 1) (x0 0)) ∨ (0 ≤ (v 2) ∧ (v 2) < xE E0 75 2 ∧ xE E0 75 (136 + (v 2)) = pF (xE E0 75 0) (xE E0 75 1) (x0 0))) := hInv
        show xΨit x0 E0 E2 0
        obtain ⟨hE, i2, i3, i4⟩ := hI
        obtain ⟨hP1, hP2, hP3, hP4, hP5⟩ := (show xΦit x0 E0 from hΦ)
        unfold xΨit
        rcases i4 with ⟨h1, h2⟩ | ⟨h1, h2, h3⟩
        · first
            | (exfalso; omega)
            | (refine Eq.symm (if_neg fun z => ?_)
               obtain ⟨b, b0, b1, b2⟩ := (pTak_i (by omega)).mp z
               rcases b2 with b2 | b2
               · exact i2 b b0 b1 b2
               · exact h2 b b0 b1 b2.symm)
        · first
            | (exfalso; omega)
            | exact (if_pos ((pTak_i (by omega)).mpr ⟨v 2, h1, h2, Or.inr h3.symm⟩)).symm
      · skip
        have ex := List.mem_singleton.mp hx
        subst ex
        obtain ⟨hF, hBd, hM⟩ := hXs
        have g1 : v2 1 = v 1 := hag 1 (by decide)
        have g2 : v2 2 = v 2 := hag 2 (by decide)
        have b0 : ((2147483648 : Nat) : Int) ≤ (v2 2) + 2147483648 ∧ (v2 2) + 2147483648 ≤ ((4294967295 : Nat) : Int) := xXb hBd 0 rfl
        have f0 : 0 ≤ (v2 2) := xXf hF 0 rfl
        have e75_0 : xE E2 75 0 = xE E 75 0 := xFr_E hfr rfl
        have q75_0 : xE E 75 0 = xE E0 75 0 := xFr_E hFr0 rfl
        have e75_1 : xE E2 75 1 = xE E 75 1 := xFr_E hfr rfl
        have q75_1 : xE E 75 1 = xE E0 75 1 := xFr_E hFr0 rfl
        have e75_2 : xE E2 75 2 = xE E 75 2 := xFr_E hfr rfl
        have q75_2 : xE E 75 2 = xE E0 75 2 := xFr_E hFr0 rfl
        have e75 : ∀ i, xE E2 75 i = xE E 75 i := fun i => xFr_E hfr rfl
        have q75 : ∀ i, xE E 75 i = xE E0 75 i := fun i => xFr_E hFr0 rfl
        have hI : E = E0 ∧ (∀ b, 0 ≤ b → b < xE E0 75 2 → ¬ xE E0 75 (136 + b) = x0 0) ∧ 0 ≤ pF (xE E0 75 0) (xE E0 75 1) (x0 0) ∧ (((v 2) < 0 ∧ ∀ b, 0 ≤ b → b < xE E0 75 2 → ¬ xE E0 75 (136 + b) = pF (xE E0 75 0) (xE E0 75 1) (x0 0)) ∨ (0 ≤ (v 2) ∧ (v 2) < xE E0 75 2 ∧ xE E0 75 (136 + (v 2)) = pF (xE E0 75 0) (xE E0 75 1) (x0 0))) := hInv
        show xΨit x0 E0 E2 1
        obtain ⟨hE, i2, i3, i4⟩ := hI
        obtain ⟨hP1, hP2, hP3, hP4, hP5⟩ := (show xΦit x0 E0 from hΦ)
        unfold xΨit
        rcases i4 with ⟨h1, h2⟩ | ⟨h1, h2, h3⟩
        · first
            | (exfalso; omega)
            | (refine Eq.symm (if_neg fun z => ?_)
               obtain ⟨b, b0, b1, b2⟩ := (pTak_i (by omega)).mp z
               rcases b2 with b2 | b2
               · exact i2 b b0 b1 b2
               · exact h2 b b0 b1 b2.symm)
        · first
            | (exfalso; omega)
            | exact (if_pos ((pTak_i (by omega)).mpr ⟨v 2, h1, h2, Or.inr h3.symm⟩)).symm
noncomputable def zxfcn_zx0 : zyXp := (0, [595, 34359738369, 13], [], [], [], [])
noncomputable def zpfcn_z : zyPh := (0, [595, 34359738369, 13], [(0, 4294967295), (0, 4294967295), (0, 4294967295)], [], [])
noncomputable def zxfcn_ax0 : zyXp := (17, [595, 34359738369, 103079215105], [34359738369, 103079216193, 603], [], [(103079215105, 2147483648, 2147483655), (103079216193, 2147483784, 2147483791)], [])
noncomputable def zpfcn_a : zyPh := (0, [595, 34359738369, 13], [(0, 4294967295), (0, 4294967295), (0, 4294967295), (2147483648, 2147483655)], [(1228802, 103079215105)], [])
noncomputable def zxfcn_bx0 : zyXp := (28, [595, 34359738369, 68719476737], [34359738369, 68719477889, 603], [], [(68719476737, 2147483648, 2147483655), (68719477889, 2147483792, 2147483799)], [])
noncomputable def zpfcn_b : zyPh := (18, [595, 34359738369, 68719476737], [(0, 4294967295), (0, 4294967295), (2147483648, 2147483655)], [], [])
noncomputable def zxfcn_cx0 : zyXp := (39, [595, 13, 68719476737], [34359738360, 68719477953, 603], [], [(68719476737, 2147483648, 2147483655), (68719477953, 2147483800, 2147483807)], [])
noncomputable def zpfcn_c : zyPh := (29, [595, 13, 68719476737], [(0, 4294967295), (0, 4294967295), (2147483648, 2147483655)], [], [])
noncomputable def zxfcn_dx0 : zyXp := (49, [595, 13, 68719476737], [103079215113, 16, 603], [], [(68719476737, 2147483648, 2147483655), (103079215105, 2147483648, 2147483655), (103079215113, 2147483649, 2147483656)], [])
noncomputable def zpfcn_d : zyPh := (40, [595, 13, 68719476737], [(0, 4294967295), (0, 4294967295), (2147483648, 2147483655), (2147483648, 2147483655)], [(1228802, 103079215105)], [])
noncomputable def zxfcn_er0 : zyXp := (0, [], [68719476737], [], [(68719476737, 2147483648, 2147483655)], [])
noncomputable def zpfcn_e : zyPh := (50, [595, 13, 68719476737], [(0, 4294967295), (0, 4294967295), (2147483648, 2147483655)], [], [])
noncomputable def zpfcn (i : Nat) : zyPh := zif (Nat.beq i 0) (zpfcn_z) (zif (Nat.beq i 1) (zpfcn_a) (zif (Nat.beq i 2) (zpfcn_b) (zif (Nat.beq i 3) (zpfcn_c) (zif (Nat.beq i 4) (zpfcn_d) (zpfcn_e)))))
noncomputable def zXfcn (i : Nat) : List zyXp := zif (Nat.beq i 0) ([zxfcn_zx0]) (zif (Nat.beq i 1) ([zxfcn_ax0]) (zif (Nat.beq i 2) ([zxfcn_bx0]) (zif (Nat.beq i 3) ([zxfcn_cx0]) (zif (Nat.beq i 4) ([zxfcn_dx0]) ([])))))
noncomputable def zRfcn (i : Nat) : List zyXp := zif (Nat.beq i 0) ([]) (zif (Nat.beq i 1) ([]) (zif (Nat.beq i 2) ([]) (zif (Nat.beq i 3) ([]) (zif (Nat.beq i 4) ([]) ([zxfcn_er0])))))
noncomputable def zFfcn (i : Nat) : zyR := zif (Nat.beq i 0) ([]) (zif (Nat.beq i 1) ([]) (zif (Nat.beq i 2) ([]) (zif (Nat.beq i 3) ([]) (zif (Nat.beq i 4) ([]) ([])))))
noncomputable def zSfcn (i : Nat) : Nat := zif (Nat.beq i 0) (0) (zif (Nat.beq i 1) (0) (zif (Nat.beq i 2) (0) (zif (Nat.beq i 3) (0) (zif (Nat.beq i 4) (0) (0)))))
/-- a bobbin comes anew -/
def xΦcn (_ : Nat → Int) (E : zyEm) : Prop := 0 ≤ xE E 75 2 ∧ xE E 75 2 ≤ 7
def xΨcn (x : Nat → Int) (E E2 : zyEm) (_ : Int) : Prop := ∀ k, 0 ≤ k → xE E2 75 k = pNew (xE E 75) (x 0) k
noncomputable def fpfcn : zyR := [(75, 2, 2), (75, 136, 159)]
theorem zyfcn_run : zyrS zymx zxi274 (274, 0, 0, 1, 0) 2 zpfcn (fun _ _ => []) zFfcn zSfcn zXfcn zRfcn 6 = true := by decide +kernel
theorem zyfcn_ck : zyAll (fun i => xsubR (zFfcn i) fpfcn && ((zXfcn i).all xckX && (zRfcn i).all (fun x => xckX x && xrtB true x))) 6 = true := by decide +kernel
def xIfcn (i : Nat) (x0 : Nat → Int) (E0 : zyEm) (v : Nat → Int) (E : zyEm) : Prop := if i = 0 then (E = E0 ∧ (v 1) = x0 0) else if i = 1 then (E = E0 ∧ (v 1) = x0 0) else if i = 2 then ((v 1) = x0 0 ∧ (v 2) = xE E0 75 2 ∧ (∀ k, 0 ≤ k → xE E 75 k = (uS (xE E0 75) (136 + xE E0 75 2) (x0 0)) k)) else if i = 3 then ((v 2) = xE E0 75 2 ∧ (∀ k, 0 ≤ k → xE E 75 k = (uS (uS (xE E0 75) (136 + xE E0 75 2) (x0 0)) (144 + xE E0 75 2) (x0 0)) k)) else if i = 4 then ((v 2) = xE E0 75 2 ∧ (∀ k, 0 ≤ k → xE E 75 k = (uS (uS (uS (xE E0 75) (136 + xE E0 75 2) (x0 0)) (144 + xE E0 75 2) (x0 0)) (152 + xE E0 75 2) (-1)) k)) else ((∀ k, 0 ≤ k → xE E 75 k = pNew (xE E0 75) (x0 0) k))
def xMfcn (i : Nat) (x0 : Nat → Int) (E0 : zyEm) (v : Nat → Int) (E : zyEm) : Nat := if i = 0 then (9) else if i = 1 then (8) else if i = 2 then (7) else if i = 3 then (6) else if i = 4 then (5) else (4)
theorem xCn {l : Launch} {en : zEn} {me : zMe} (hen : zG zxMeta 274 = some en) (hme : zG zMeth 274 = some me) : xFc l zymx en me 2 [74] 1 fpfcn true xΦcn xΨcn := by
  have een : zG zxMeta 274 = some (zxi274, 2, 3, 11, 274, 0, 0, 1, 0) := rfl
  obtain ⟨me1, hme1, hOK⟩ := zall hen
  rw [hme] at hme1
  cases hme1
  rw [een] at hen
  cases hen
  have hr := zyfcn_run
  have hck := fun i hi => zyAll_iff zyfcn_ck i hi
  simp only [Bool.and_eq_true] at hck
  intro B
  refine xcut (mi := zymx) (B := B) hOK rfl rfl (ι := Fin 6) (fun i => zpfcn i.val) (fun _ _ => []) (fun i => zFfcn i.val) (fun i => zSfcn i.val) (fun i => zXfcn i.val) (fun i => zRfcn i.val) (fun i y2 ct en2 me2 h => by cases h) 200000 (fun i => zyAll_iff hr i.val i.isLt) (fun i => (hck i.val i.isLt).1) (fun i => (hck i.val i.isLt).2.1) (fun i => (hck i.val i.isLt).2.2) ⟨0, by decide⟩ ⟨rfl, rfl, rfl, rfl⟩ ⟨by decide, by decide⟩ (fun i x0 E0 v E => xIfcn i.val x0 E0 v E) (fun i x0 E0 v E => xMfcn i.val x0 E0 v E) ?_ ?_ ?_
  · intro x0 E hx0 hT hΦ
    have hΦ : xΦcn x0 E := hΦ
    refine ⟨fun k p hp => ?_, ?_⟩
    · have hk : k < 3 := (List.getElem?_eq_some_iff.mp hp).1
      have hk : k = 0 ∨ k = 1 ∨ k = 2 := by omega
      rcases hk with rfl | rfl | rfl
      · have hp : some (0, 4294967295) = some p := hp
        cases hp
        show ((0 : Nat) : Int) ≤ 0 + 2147483648 ∧ 0 + 2147483648 ≤ ((4294967295 : Nat) : Int)
        omega
      · have hp : some (0, 4294967295) = some p := hp
        cases hp
        show ((0 : Nat) : Int) ≤ x0 0 + 2147483648 ∧ x0 0 + 2147483648 ≤ ((4294967295 : Nat) : Int)
        have hx := hx0 0
        omega
      · have hp : some (0, 4294967295) = some p := hp
        cases hp
        show ((0 : Nat) : Int) ≤ x0 1 + 2147483648 ∧ x0 1 + 2147483648 ≤ ((4294967295 : Nat) : Int)
        have hx := hx0 1
        omega
    · show E = E ∧ (x0 0) = x0 0
      exact ⟨rfl, rfl⟩
  · intro x0 s Wg hRu hrx hT0 hΦ i v H hT hrv hInv hKc hFr0 hIH x hx ρ2 v2 N2 H2 locs lsB stA hAt hB hv hr2 hXs hag hfr hFr hT2
    rcases i with ⟨i, hi⟩
    have hi2 : i = 0 ∨ i = 1 ∨ i = 2 ∨ i = 3 ∨ i = 4 ∨ i = 5 := by omega
    rcases hi2 with rfl | rfl | rfl | rfl | rfl | rfl
    · have hx : x ∈ [zxfcn_zx0] := hx
      have hag : ∀ k, k < 3 → v2 k = v k := hag
      have hfr : xFr [] _ _ := hfr
      have ex := List.mem_singleton.mp hx
      subst ex
      obtain ⟨hF, hBd, hM⟩ := hXs
      have r1 := hr2 1
      have g1 : v2 1 = v 1 := hag 1 (by decide)
      have e75_2 : xE (zyEl zymx B H2) 75 2 = xE (zyEl zymx B H) 75 2 := xFr_E hfr rfl
      have e75 : ∀ i, xE (zyEl zymx B H2) 75 i = xE (zyEl zymx B H) 75 i := fun i => xFr_E hfr rfl
      have hI : (zyEl zymx B H) = (zyEl zymx B s.heap) ∧ (v 1) = x0 0 := hInv
      have q75_2 : xE (zyEl zymx B H) 75 2 = xE (zyEl zymx B s.heap) 75 2 := by rw [hI.1]
      have q75 : ∀ i, xE (zyEl zymx B H) 75 i = xE (zyEl zymx B s.heap) 75 i := fun i => by rw [hI.1]
      obtain ⟨hE, i1⟩ := hI
      obtain ⟨hP1, hP2⟩ := (show xΦcn x0 (zyEl zymx B s.heap) from hΦ)
      have z75_2 : ((0 : Nat) : Int) ≤ xE (zyEl zymx B H2) 75 2 + 2147483648 ∧ xE (zyEl zymx B H2) 75 2 + 2147483648 ≤ ((4294967295 : Nat) : Int) := xTyF hT2 75 2 0 rfl rfl rfl rfl rfl rfl
      refine xGo hIH hAt hB hv hFr ⟨1, by decide⟩ [0, 34359738369, 0] [0, (v2 1), 0, xE (zyEl zymx B H2) 75 2] rfl ⟨by decide +kernel, ⟨rfl, by decide +kernel⟩, (xcs_c rfl (xcs_c rfl (xcs_c rfl xcs_n))), (xe_0 (xe_f (by omega) (xe_0 (xe_c (by omega) (by omega) rfl xe_n)))), (xkq_c hT2 75 2 (q := 0) rfl rfl rfl rfl rfl rfl rfl rfl rfl rfl rfl xkq_n)⟩ xst_n ?_ ?_
      · show (zyEl zymx B H2) = (zyEl zymx B s.heap) ∧ ((v2 1) : Int) = x0 0
        exact ⟨(xFr_n hfr).trans hE, by omega⟩
      · show 8 < 9
        omega
    · have hx : x ∈ [zxfcn_ax0] := hx
      have hag : ∀ k, k < 4 → v2 k = v k := hag
      have hfr : xFr [] _ _ := hfr
      have ex := List.mem_singleton.mp hx
      subst ex
      obtain ⟨hF, hBd, hM⟩ := hXs
      have r1 := hr2 1
      have g1 : v2 1 = v 1 := hag 1 (by decide)
      have g3 : v2 3 = v 3 := hag 3 (by decide)
      have b0 : ((2147483648 : Nat) : Int) ≤ (v2 3) + 2147483648 ∧ (v2 3) + 2147483648 ≤ ((2147483655 : Nat) : Int) := xXb hBd 0 rfl
      have b1 : ((2147483784 : Nat) : Int) ≤ (v2 3 + 136) + 2147483648 ∧ (v2 3 + 136) + 2147483648 ≤ ((2147483791 : Nat) : Int) := xXb hBd 1 rfl
      have k0 : xE (zyEl zymx B H) 75 2 = v 3 := xKcf hKc 0 rfl rfl
      have e75_2 : xE (zyEl zymx B H2) 75 2 = xE (zyEl zymx B H) 75 2 := xFr_E hfr rfl
      have e75 : ∀ i, xE (zyEl zymx B H2) 75 i = xE (zyEl zymx B H) 75 i := fun i => xFr_E hfr rfl
      have hI : (zyEl zymx B H) = (zyEl zymx B s.heap) ∧ (v 1) = x0 0 := hInv
      have q75_2 : xE (zyEl zymx B H) 75 2 = xE (zyEl zymx B s.heap) 75 2 := by rw [hI.1]
      have q75 : ∀ i, xE (zyEl zymx B H) 75 i = xE (zyEl zymx B s.heap) 75 i := fun i => by rw [hI.1]
      obtain ⟨hE, i1⟩ := hI
      have h752 := q75 2
      obtain ⟨hP1, hP2⟩ := (show xΦcn x0 (zyEl zymx B s.heap) from hΦ)
      refine xSt hRu hIH hAt hB hv hFr 75 (ax := 0) 34359738369 103079216193 (v2 1) (v2 3 + 136) rfl (Or.inl ⟨rfl, rfl⟩) rfl (by decide +kernel) rfl rfl (by omega) (by show (v2 3 + 136) < ((556 : Nat) : Int); omega) (fun r hr q1 q2 => by rw [List.mem_singleton.mp hr]; exact ⟨rfl, by show ((0 : Nat) : Int) ≤ (v2 1) + 2147483648; omega, by show (v2 1) + 2147483648 ≤ ((4294967295 : Nat) : Int); omega⟩) (zyin_iff.mpr ⟨(75, 136, 159), by decide, rfl, (by show 136 ≤ Int.toNat (v2 3 + 136); omega), by show Int.toNat (v2 3 + 136) ≤ 159; omega⟩) (fun H3 hT3 hst3 hne3 hfn3 hFr3 => ?_)
      have hfe3 : ∀ (a2 : Nat) (k2 : Int), ¬ a2 = 75 → xE (zyEl zymx B H3) a2 k2 = xE (zyEl zymx B H2) a2 k2 := fun a2 k2 hne => by unfold xE; rw [hfn3 a2 k2.toNat (fun z => hne z.1)]
      skip
      refine ⟨⟨2, by decide⟩, [0, 34359738369, 103079215105], [0, (v2 1), (v2 3)], rfl, ⟨by decide +kernel, ⟨rfl, by decide +kernel⟩, (xcs_c rfl (xcs_c rfl (xcs_c rfl xcs_n))), (xe_0 (xe_f (by omega) (xe_c (by omega) (by omega) rfl xe_n))), xkq_n⟩, rfl, ?_, ?_⟩
      · show ((v2 1) : Int) = x0 0 ∧ ((v2 3) : Int) = xE (zyEl zymx B s.heap) 75 2 ∧ (∀ k, 0 ≤ k → xE (zyEl zymx B H3) 75 k = (uS (xE (zyEl zymx B s.heap) 75) (136 + xE (zyEl zymx B s.heap) 75 2) (x0 0)) k)
        refine ⟨by omega, by omega, fun k k0 => ?_⟩
        · by_cases e : k = 136 + xE (zyEl zymx B s.heap) 75 2
          · rw [uS_e e, e, show 136 + xE (zyEl zymx B s.heap) 75 2 = (v2 3 + 136) by omega, hst3] <;> omega
          · rw [uS_n e, hne3 75 k k0 (fun z => e (by omega)), e75]
            exact q75 k
      · show 7 < 8
        omega
    · have hx : x ∈ [zxfcn_bx0] := hx
      have hag : ∀ k, k < 3 → v2 k = v k := hag
      have hfr : xFr [] _ _ := hfr
      have ex := List.mem_singleton.mp hx
      subst ex
      obtain ⟨hF, hBd, hM⟩ := hXs
      have r1 := hr2 1
      have g1 : v2 1 = v 1 := hag 1 (by decide)
      have g2 : v2 2 = v 2 := hag 2 (by decide)
      have b0 : ((2147483648 : Nat) : Int) ≤ (v2 2) + 2147483648 ∧ (v2 2) + 2147483648 ≤ ((2147483655 : Nat) : Int) := xXb hBd 0 rfl
      have b1 : ((2147483792 : Nat) : Int) ≤ (v2 2 + 144) + 2147483648 ∧ (v2 2 + 144) + 2147483648 ≤ ((2147483799 : Nat) : Int) := xXb hBd 1 rfl
      have e75_2 : xE (zyEl zymx B H2) 75 2 = xE (zyEl zymx B H) 75 2 := xFr_E hfr rfl
      have e75 : ∀ i, xE (zyEl zymx B H2) 75 i = xE (zyEl zymx B H) 75 i := fun i => xFr_E hfr rfl
      have hI : (v 1) = x0 0 ∧ (v 2) = xE (zyEl zymx B s.heap) 75 2 ∧ (∀ k, 0 ≤ k → xE (zyEl zymx B H) 75 k = (uS (xE (zyEl zymx B s.heap) 75) (136 + xE (zyEl zymx B s.heap) 75 2) (x0 0)) k) := hInv
      obtain ⟨i1, i2, hc⟩ := hI
      obtain ⟨hP1, hP2⟩ := (show xΦcn x0 (zyEl zymx B s.heap) from hΦ)
      refine xSt hRu hIH hAt hB hv hFr 75 (ax := 0) 34359738369 68719477889 (v2 1) (v2 2 + 144) rfl (Or.inl ⟨rfl, rfl⟩) rfl (by decide +kernel) rfl rfl (by omega) (by show (v2 2 + 144) < ((556 : Nat) : Int); omega) (fun r hr q1 q2 => by rw [List.mem_singleton.mp hr]; exact ⟨rfl, by show ((0 : Nat) : Int) ≤ (v2 1) + 2147483648; omega, by show (v2 1) + 2147483648 ≤ ((4294967295 : Nat) : Int); omega⟩) (zyin_iff.mpr ⟨(75, 136, 159), by decide, rfl, (by show 136 ≤ Int.toNat (v2 2 + 144); omega), by show Int.toNat (v2 2 + 144) ≤ 159; omega⟩) (fun H3 hT3 hst3 hne3 hfn3 hFr3 => ?_)
      have hfe3 : ∀ (a2 : Nat) (k2 : Int), ¬ a2 = 75 → xE (zyEl zymx B H3) a2 k2 = xE (zyEl zymx B H2) a2 k2 := fun a2 k2 hne => by unfold xE; rw [hfn3 a2 k2.toNat (fun z => hne z.1)]
      skip
      refine ⟨⟨3, by decide⟩, [0, 0, 68719476737], [0, 0, (v2 2)], rfl, ⟨by decide +kernel, ⟨rfl, by decide +kernel⟩, (xcs_c rfl (xcs_c rfl (xcs_c rfl xcs_n))), (xe_0 (xe_0 (xe_c (by omega) (by omega) rfl xe_n))), xkq_n⟩, rfl, ?_, ?_⟩
      · show ((v2 2) : Int) = xE (zyEl zymx B s.heap) 75 2 ∧ (∀ k, 0 ≤ k → xE (zyEl zymx B H3) 75 k = (uS (uS (xE (zyEl zymx B s.heap) 75) (136 + xE (zyEl zymx B s.heap) 75 2) (x0 0)) (144 + xE (zyEl zymx B s.heap) 75 2) (x0 0)) k)
        refine ⟨by omega, fun k k0 => ?_⟩
        · by_cases e : k = 144 + xE (zyEl zymx B s.heap) 75 2
          · rw [uS_e e, e, show 144 + xE (zyEl zymx B s.heap) 75 2 = (v2 2 + 144) by omega, hst3] <;> omega
          · rw [uS_n e, hne3 75 k k0 (fun z => e (by omega)), e75]
            exact hc k k0
      · show 6 < 7
        omega
    · have hx : x ∈ [zxfcn_cx0] := hx
      have hag : ∀ k, k < 3 → v2 k = v k := hag
      have hfr : xFr [] _ _ := hfr
      have ex := List.mem_singleton.mp hx
      subst ex
      obtain ⟨hF, hBd, hM⟩ := hXs
      have g2 : v2 2 = v 2 := hag 2 (by decide)
      have b0 : ((2147483648 : Nat) : Int) ≤ (v2 2) + 2147483648 ∧ (v2 2) + 2147483648 ≤ ((2147483655 : Nat) : Int) := xXb hBd 0 rfl
      have b1 : ((2147483800 : Nat) : Int) ≤ (v2 2 + 152) + 2147483648 ∧ (v2 2 + 152) + 2147483648 ≤ ((2147483807 : Nat) : Int) := xXb hBd 1 rfl
      have e75_2 : xE (zyEl zymx B H2) 75 2 = xE (zyEl zymx B H) 75 2 := xFr_E hfr rfl
      have e75 : ∀ i, xE (zyEl zymx B H2) 75 i = xE (zyEl zymx B H) 75 i := fun i => xFr_E hfr rfl
      have hI : (v 2) = xE (zyEl zymx B s.heap) 75 2 ∧ (∀ k, 0 ≤ k → xE (zyEl zymx B H) 75 k = (uS (uS (xE (zyEl zymx B s.heap) 75) (136 + xE (zyEl zymx B s.heap) 75 2) (x0 0)) (144 + xE (zyEl zymx B s.heap) 75 2) (x0 0)) k) := hInv
      obtain ⟨i2, hc⟩ := hI
      have h2 := hc 2 (by decide)
      rw [uS_n (by omega), uS_n (by omega)] at h2
      obtain ⟨hP1, hP2⟩ := (show xΦcn x0 (zyEl zymx B s.heap) from hΦ)
      refine xSt hRu hIH hAt hB hv hFr 75 (ax := 0) 34359738360 68719477953 (-1) (v2 2 + 152) rfl (Or.inl ⟨rfl, rfl⟩) rfl (by decide +kernel) rfl rfl (by omega) (by show (v2 2 + 152) < ((556 : Nat) : Int); omega) (fun r hr q1 q2 => by rw [List.mem_singleton.mp hr]; exact ⟨rfl, by show ((0 : Nat) : Int) ≤ (-1) + 2147483648; omega, by show (-1) + 2147483648 ≤ ((4294967295 : Nat) : Int); omega⟩) (zyin_iff.mpr ⟨(75, 136, 159), by decide, rfl, (by show 136 ≤ Int.toNat (v2 2 + 152); omega), by show Int.toNat (v2 2 + 152) ≤ 159; omega⟩) (fun H3 hT3 hst3 hne3 hfn3 hFr3 => ?_)
      have hfe3 : ∀ (a2 : Nat) (k2 : Int), ¬ a2 = 75 → xE (zyEl zymx B H3) a2 k2 = xE (zyEl zymx B H2) a2 k2 := fun a2 k2 hne => by unfold xE; rw [hfn3 a2 k2.toNat (fun z => hne z.1)]
      have d75_2 : xE (zyEl zymx B H3) 75 2 = xE (zyEl zymx B H2) 75 2 := hne3 75 2 (by decide) (fun z => by omega)
      have z75_2 : ((0 : Nat) : Int) ≤ xE (zyEl zymx B H3) 75 2 + 2147483648 ∧ xE (zyEl zymx B H3) 75 2 + 2147483648 ≤ ((4294967295 : Nat) : Int) := xTyF hT3 75 2 0 rfl rfl rfl rfl rfl rfl
      refine ⟨⟨4, by decide⟩, [0, 0, 68719476737], [0, 0, (v2 2), xE (zyEl zymx B H3) 75 2], rfl, ⟨by decide +kernel, ⟨rfl, by decide +kernel⟩, (xcs_c rfl (xcs_c rfl (xcs_c rfl xcs_n))), (xe_0 (xe_0 (xe_c (by omega) (by omega) rfl (xe_c (by omega) (by omega) rfl xe_n)))), (xkq_c hT3 75 2 (q := 0) rfl rfl rfl rfl rfl rfl rfl rfl rfl rfl rfl xkq_n)⟩, rfl, ?_, ?_⟩
      · show ((v2 2) : Int) = xE (zyEl zymx B s.heap) 75 2 ∧ (∀ k, 0 ≤ k → xE (zyEl zymx B H3) 75 k = (uS (uS (uS (xE (zyEl zymx B s.heap) 75) (136 + xE (zyEl zymx B s.heap) 75 2) (x0 0)) (144 + xE (zyEl zymx B s.heap) 75 2) (x0 0)) (152 + xE (zyEl zymx B s.heap) 75 2) (-1)) k)
        refine ⟨by omega, fun k k0 => ?_⟩
        · by_cases e : k = 152 + xE (zyEl zymx B s.heap) 75 2
          · rw [uS_e e, e, show 152 + xE (zyEl zymx B s.heap) 75 2 = (v2 2 + 152) by omega, hst3] <;> omega
          · rw [uS_n e, hne3 75 k k0 (fun z => e (by omega)), e75]
            exact hc k k0
      · show 5 < 6
        omega
    · have hx : x ∈ [zxfcn_dx0] := hx
      have hag : ∀ k, k < 4 → v2 k = v k := hag
      have hfr : xFr [] _ _ := hfr
      have ex := List.mem_singleton.mp hx
      subst ex
      obtain ⟨hF, hBd, hM⟩ := hXs
      have g2 : v2 2 = v 2 := hag 2 (by decide)
      have g3 : v2 3 = v 3 := hag 3 (by decide)
      have b0 : ((2147483648 : Nat) : Int) ≤ (v2 2) + 2147483648 ∧ (v2 2) + 2147483648 ≤ ((2147483655 : Nat) : Int) := xXb hBd 0 rfl
      have b1 : ((2147483648 : Nat) : Int) ≤ (v2 3) + 2147483648 ∧ (v2 3) + 2147483648 ≤ ((2147483655 : Nat) : Int) := xXb hBd 1 rfl
      have b2 : ((2147483649 : Nat) : Int) ≤ (v2 3 + 1) + 2147483648 ∧ (v2 3 + 1) + 2147483648 ≤ ((2147483656 : Nat) : Int) := xXb hBd 2 rfl
      have k0 : xE (zyEl zymx B H) 75 2 = v 3 := xKcf hKc 0 rfl rfl
      have e75_2 : xE (zyEl zymx B H2) 75 2 = xE (zyEl zymx B H) 75 2 := xFr_E hfr rfl
      have e75 : ∀ i, xE (zyEl zymx B H2) 75 i = xE (zyEl zymx B H) 75 i := fun i => xFr_E hfr rfl
      have hI : (v 2) = xE (zyEl zymx B s.heap) 75 2 ∧ (∀ k, 0 ≤ k → xE (zyEl zymx B H) 75 k = (uS (uS (uS (xE (zyEl zymx B s.heap) 75) (136 + xE (zyEl zymx B s.heap) 75 2) (x0 0)) (144 + xE (zyEl zymx B s.heap) 75 2) (x0 0)) (152 + xE (zyEl zymx B s.heap) 75 2) (-1)) k) := hInv
      obtain ⟨i2, hc⟩ := hI
      obtain ⟨hP1, hP2⟩ := (show xΦcn x0 (zyEl zymx B s.heap) from hΦ)
      have h2 := hc 2 (by decide)
      rw [uS_n (by omega), uS_n (by omega), uS_n (by omega)] at h2
      refine xSt hRu hIH hAt hB hv hFr 75 (ax := 0) 103079215113 16 (v2 3 + 1) 2 rfl (Or.inl ⟨rfl, rfl⟩) rfl (by decide +kernel) rfl rfl (by omega) (by show 2 < ((556 : Nat) : Int); omega) (fun r hr q1 q2 => by rw [List.mem_singleton.mp hr]; exact ⟨rfl, by show ((0 : Nat) : Int) ≤ (v2 3 + 1) + 2147483648; omega, by show (v2 3 + 1) + 2147483648 ≤ ((4294967295 : Nat) : Int); omega⟩) (zyin_iff.mpr ⟨(75, 2, 2), by decide, rfl, (by show 2 ≤ Int.toNat 2; omega), by show Int.toNat 2 ≤ 2; omega⟩) (fun H3 hT3 hst3 hne3 hfn3 hFr3 => ?_)
      have hfe3 : ∀ (a2 : Nat) (k2 : Int), ¬ a2 = 75 → xE (zyEl zymx B H3) a2 k2 = xE (zyEl zymx B H2) a2 k2 := fun a2 k2 hne => by unfold xE; rw [hfn3 a2 k2.toNat (fun z => hne z.1)]
      skip
      refine ⟨⟨5, by decide⟩, [0, 0, 68719476737], [0, 0, (v2 2)], rfl, ⟨by decide +kernel, ⟨rfl, by decide +kernel⟩, (xcs_c rfl (xcs_c rfl (xcs_c rfl xcs_n))), (xe_0 (xe_0 (xe_c (by omega) (by omega) rfl xe_n))), xkq_n⟩, rfl, ?_, ?_⟩
      · show (∀ k, 0 ≤ k → xE (zyEl zymx B H3) 75 k = pNew (xE (zyEl zymx B s.heap) 75) (x0 0) k)
        intro k k0
        unfold pNew
        · by_cases e : k = 2
          · rw [uS_e e, e, hst3] <;> omega
          · rw [uS_n e, hne3 75 k k0 (fun z => e (by omega)), e75]
            exact hc k k0
      · show 4 < 5
        omega
    · cases hx
  · intro x0 E0 E E2 hrx hT0 hΦ i v hT hrv hInv hKc hFr0 x hx v2 hr2 hXs hag hfr hFr hT2
    rcases i with ⟨i, hi⟩
    have hi2 : i = 0 ∨ i = 1 ∨ i = 2 ∨ i = 3 ∨ i = 4 ∨ i = 5 := by omega
    rcases hi2 with rfl | rfl | rfl | rfl | rfl | rfl
    · cases hx
    · cases hx
    · cases hx
    · cases hx
    · cases hx
    · have hx : x ∈ [zxfcn_er0] := hx
      have hag : ∀ k, k < 3 → v2 k = v k := hag
      have hfr : xFr [] _ _ := hfr
      have ex := List.mem_singleton.mp hx
      subst ex
      obtain ⟨hF, hBd, hM⟩ := hXs
      have g2 : v2 2 = v 2 := hag 2 (by decide)
      have b0 : ((2147483648 : Nat) : Int) ≤ (v2 2) + 2147483648 ∧ (v2 2) + 2147483648 ≤ ((2147483655 : Nat) : Int) := xXb hBd 0 rfl
      have e75_2 : xE E2 75 2 = xE E 75 2 := xFr_E hfr rfl
      have e75 : ∀ i, xE E2 75 i = xE E 75 i := fun i => xFr_E hfr rfl
      have hI : (∀ k, 0 ≤ k → xE E 75 k = pNew (xE E0 75) (x0 0) k) := hInv
      show xΨcn x0 E0 E2 (v2 2)
      intro k k0
      have hE : E2 = E := xFr_n hfr
      rw [hE]
      exact hI k k0
end
section
/-! THE REFERENCE reads a bobbin (printed by m26.py) -/
noncomputable def zxfbb_zx0 : zyXp := (0, [595, 13], [], [], [], [])
noncomputable def zpfbb_z : zyPh := (0, [595, 13], [(0, 4294967295), (0, 4294967295)], [], [])
noncomputable def zxfbb_ax0 : zyXp := (31, [595, 13], [595], [(20, 0, 206158430209, 64), (21, 0, 0, 68719476737)], [(68719476737, 2147483648, 2147483648), (206158430209, 2147483648, 2147483655)], [(1212452, 68719476737), (1212453, 103079215105)])
noncomputable def zxfbb_ar0 : zyXp := (0, [], [], [(21, 0, 206158430209, 64), (21, 0, 0, 68719476737)], [(68719476737, 2147483648, 2147483648), (137438953473, 2147483648, 2147484548), (206158430209, 2147483656, 2147483656)], [(1212452, 48), (1212453, 137438953473)])
noncomputable def zpfbb_a : zyPh := (0, [595, 13], [(0, 4294967295), (0, 4294967295), (2147483648, 2147483648), (0, 4294967295), (2147483648, 2147484548), (2147483648, 2147483652), (2147483648, 2147483656)], [(1212452, 68719476737), (1212453, 103079215105), (1212454, 137438953473), (1212456, 171798691841), (1228802, 206158430209)], [])
noncomputable def zxfbb_bx0 : zyXp := (58, [595, 13], [206158430209, 595, 595], [(3, 309237645313, 32, 240518168577), (3, 343597383681, 309237645313, 274877906945), (22, 0, 171798691841, 16), (21, 0, 206158430209, 0), (21, 0, 377957122041, 206158430209), (21, 0, 0, 68719476737)], [(68719476737, 2147483648, 2147483648), (171798691841, 2147483650, 2147483650), (206158430209, 2147483648, 2147483727), (240518168577, 2147483649, 2147483652), (274877906945, 2147483649, 2147483653), (309237645313, 2147483652, 2147483664), (343597383681, 2147483652, 2147483728)], [(1212452, 68719476737), (1212453, 103079215105)])
noncomputable def zxfbb_br0 : zyXp := (0, [], [], [(3, 309237645313, 32, 240518168577), (3, 343597383681, 309237645313, 274877906945), (23, 0, 171798691841, 16), (21, 0, 0, 68719476737), (23, 0, 171798691841, 32), (21, 0, 206158430209, 0), (20, 0, 377957122041, 206158430209)], [(68719476737, 2147483648, 2147483648), (137438953473, 2147483648, 2147484548), (171798691841, 2147483651, 2147483651), (206158430209, 2147483652, 2147484647), (240518168577, 2147483649, 2147483652), (274877906945, 2147483649, 2147483653), (309237645313, 2147483652, 2147483664), (343597383681, 2147483652, 2147483728)], [(1212452, 16), (1212453, 137438953473)])
noncomputable def zxfbb_br1 : zyXp := (0, [], [], [(3, 309237645313, 32, 240518168577), (3, 343597383681, 309237645313, 274877906945), (23, 0, 171798691841, 16), (21, 0, 0, 68719476737), (23, 0, 171798691841, 32), (21, 0, 206158430209, 0), (21, 0, 377957122041, 206158430209)], [(68719476737, 2147483648, 2147483648), (137438953473, 2147483648, 2147484548), (171798691841, 2147483651, 2147483651), (206158430209, 2147483648, 2147483727), (240518168577, 2147483649, 2147483652), (274877906945, 2147483649, 2147483653), (309237645313, 2147483652, 2147483664), (343597383681, 2147483652, 2147483728)], [(1212452, 16), (1212453, 137438953473)])
noncomputable def zxfbb_br2 : zyXp := (0, [], [], [(3, 309237645313, 32, 240518168577), (3, 343597383681, 309237645313, 274877906945), (23, 0, 171798691841, 16), (21, 0, 0, 68719476737), (22, 0, 171798691841, 32), (21, 0, 206158430209, 0), (20, 0, 377957122041, 206158430209)], [(68719476737, 2147483648, 2147483648), (137438953473, 2147483648, 2147484548), (171798691841, 2147483652, 2147483652), (206158430209, 2147483652, 2147484647), (240518168577, 2147483649, 2147483652), (274877906945, 2147483649, 2147483653), (309237645313, 2147483652, 2147483664), (343597383681, 2147483652, 2147483728)], [(1212452, 8), (1212453, 137438953473)])
noncomputable def zxfbb_br3 : zyXp := (0, [], [], [(3, 309237645313, 32, 240518168577), (3, 343597383681, 309237645313, 274877906945), (23, 0, 171798691841, 16), (21, 0, 0, 68719476737), (22, 0, 171798691841, 32), (21, 0, 206158430209, 0), (21, 0, 377957122041, 206158430209)], [(68719476737, 2147483648, 2147483648), (137438953473, 2147483648, 2147484548), (171798691841, 2147483652, 2147483652), (206158430209, 2147483648, 2147483727), (240518168577, 2147483649, 2147483652), (274877906945, 2147483649, 2147483653), (309237645313, 2147483652, 2147483664), (343597383681, 2147483652, 2147483728)], [(1212452, 8), (1212453, 137438953473)])
noncomputable def zxfbb_br4 : zyXp := (0, [], [], [(3, 309237645313, 32, 240518168577), (3, 343597383681, 309237645313, 274877906945), (23, 0, 171798691841, 16), (21, 0, 0, 68719476737), (23, 0, 171798691841, 32), (21, 0, 206158430209, 0), (20, 0, 377957122041, 206158430209)], [(68719476737, 2147483648, 2147483648), (137438953473, 2147483648, 2147484548), (171798691841, 2147483648, 2147483649), (206158430209, 2147483652, 2147484647), (240518168577, 2147483649, 2147483652), (274877906945, 2147483649, 2147483653), (309237645313, 2147483652, 2147483664), (343597383681, 2147483652, 2147483728)], [(1212452, 16), (1212453, 137438953473)])
noncomputable def zxfbb_br5 : zyXp := (0, [], [], [(3, 309237645313, 32, 240518168577), (3, 343597383681, 309237645313, 274877906945), (23, 0, 171798691841, 16), (21, 0, 0, 68719476737), (23, 0, 171798691841, 32), (21, 0, 206158430209, 0), (21, 0, 377957122041, 206158430209)], [(68719476737, 2147483648, 2147483648), (137438953473, 2147483648, 2147484548), (171798691841, 2147483648, 2147483649), (206158430209, 2147483648, 2147483727), (240518168577, 2147483649, 2147483652), (274877906945, 2147483649, 2147483653), (309237645313, 2147483652, 2147483664), (343597383681, 2147483652, 2147483728)], [(1212452, 16), (1212453, 137438953473)])
noncomputable def zxfbb_br6 : zyXp := (0, [], [], [(3, 309237645313, 32, 240518168577), (3, 343597383681, 309237645313, 274877906945), (22, 0, 171798691841, 16), (21, 0, 206158430209, 0), (20, 0, 377957122041, 206158430209), (21, 0, 0, 68719476737)], [(68719476737, 2147483648, 2147483648), (137438953473, 2147483648, 2147484548), (171798691841, 2147483650, 2147483650), (206158430209, 2147483652, 2147484647), (240518168577, 2147483649, 2147483652), (274877906945, 2147483649, 2147483653), (309237645313, 2147483652, 2147483664), (343597383681, 2147483652, 2147483728)], [(1212452, 24), (1212453, 137438953473)])
noncomputable def zpfbb_b : zyPh := (34, [595, 13], [(0, 4294967295), (0, 4294967295), (2147483648, 2147483648), (0, 4294967295), (2147483648, 2147484548), (2147483648, 2147483652), (2147483648, 2147484647), (2147483649, 2147483652), (2147483649, 2147483653)], [(1212452, 68719476737), (1212453, 103079215105), (1212454, 137438953473), (1212456, 171798691841), (1212457, 206158430209), (1228800, 240518168577), (1228801, 274877906945)], [])
noncomputable def zxfbb_cx0 : zyXp := (87, [595, 206158430209], [595], [(22, 0, 240518168577, 0), (21, 0, 0, 68719476737)], [(68719476737, 2147483648, 2147483648), (206158430209, 2147483648, 2147484647), (240518168577, 2147483648, 2147483648)], [(1212452, 68719476737), (1212453, 103079215105)])
noncomputable def zxfbb_cr0 : zyXp := (0, [], [], [(23, 0, 240518168577, 0), (21, 0, 0, 68719476737)], [(68719476737, 2147483648, 2147483648), (137438953473, 2147483648, 2147484548), (240518168577, 2147483649, 2147483649)], [(1212452, 32), (1212453, 137438953473)])
noncomputable def zpfbb_c : zyPh := (61, [595, 13], [(0, 4294967295), (0, 4294967295), (2147483648, 2147483648), (0, 4294967295), (2147483648, 2147484548), (2147483648, 2147483652), (2147483648, 2147484647), (2147483648, 2147483649)], [(1212452, 68719476737), (1212453, 103079215105), (1212454, 137438953473), (1212456, 171798691841), (1212457, 206158430209)], [240518168577, 595])
noncomputable def zxfbb_dx0 : zyXp := (92, [595, 34359738369], [34359738369, 595], [], [], [])
noncomputable def zpfbb_d : zyPh := (90, [595, 34359738369], [(0, 4294967295), (0, 4294967295)], [], [])
noncomputable def zxfbb_er0 : zyXp := (0, [], [], [], [], [])
noncomputable def zpfbb_e : zyPh := (95, [595, 13], [(0, 4294967295), (0, 4294967295), (0, 4294967295)], [], [68719476737])
noncomputable def zpfbb (i : Nat) : zyPh := zif (Nat.beq i 0) (zpfbb_z) (zif (Nat.beq i 1) (zpfbb_a) (zif (Nat.beq i 2) (zpfbb_b) (zif (Nat.beq i 3) (zpfbb_c) (zif (Nat.beq i 4) (zpfbb_d) (zpfbb_e)))))
noncomputable def zXfbb (i : Nat) : List zyXp := zif (Nat.beq i 0) ([zxfbb_zx0]) (zif (Nat.beq i 1) ([zxfbb_ax0]) (zif (Nat.beq i 2) ([zxfbb_bx0]) (zif (Nat.beq i 3) ([zxfbb_cx0]) (zif (Nat.beq i 4) ([zxfbb_dx0]) ([])))))
noncomputable def zRfbb (i : Nat) : List zyXp := zif (Nat.beq i 0) ([]) (zif (Nat.beq i 1) ([zxfbb_ar0]) (zif (Nat.beq i 2) ([zxfbb_br0, zxfbb_br1, zxfbb_br2, zxfbb_br3, zxfbb_br4, zxfbb_br5, zxfbb_br6]) (zif (Nat.beq i 3) ([zxfbb_cr0]) (zif (Nat.beq i 4) ([]) ([zxfbb_er0])))))
noncomputable def zFfbb (i : Nat) : zyR := zif (Nat.beq i 0) ([]) (zif (Nat.beq i 1) ([(74, 36, 37)]) (zif (Nat.beq i 2) ([(74, 36, 37)]) (zif (Nat.beq i 3) ([(74, 36, 37)]) (zif (Nat.beq i 4) ([]) ([])))))
noncomputable def zSfbb (i : Nat) : Nat := zif (Nat.beq i 0) (0) (zif (Nat.beq i 1) (0) (zif (Nat.beq i 2) (0) (zif (Nat.beq i 3) (0) (zif (Nat.beq i 4) (0) (0)))))
/-- a bobbin is read -/
def xΦbb (_ : Nat → Int) (E : zyEm) : Prop := xE E 74 36 = 0 ∧ xE E 74 39 ≤ xE E 74 42 ∧ (1 ≤ xE E 75 0 ∧ xE E 75 0 ≤ 4) ∧ (1 ≤ xE E 75 1 ∧ xE E 75 1 ≤ 5) ∧ (0 ≤ xE E 75 2 ∧ xE E 75 2 ≤ 8) ∧ ∀ b, 0 ≤ b → b < xE E 75 2 → 0 ≤ xE E 75 (136 + b)
def xΨbb (_ : Nat → Int) (E E2 : zyEm) (_ : Int) : Prop := ∀ p0, xE E 74 38 = tFr (xE E 84) (xE E 74 42) p0 → xRs (xE E 84) (xE E 74 42) E2 (pBobbin (xE E 84) (xE E 74 42) p0 (xE E 74 39) (xE E 75))
noncomputable def fpfbb : zyR := [(74, 36, 41), (74, 43, 43), (75, 2, 2), (75, 136, 159)]
theorem zyfbb_run : zyrS zymx zxi322 (322, 0, 0, 0, 0) 7 zpfbb (fun _ _ => []) zFfbb zSfbb zXfbb zRfbb 6 = true := by decide +kernel
theorem zyfbb_ck : zyAll (fun i => xsubR (zFfbb i) fpfbb && ((zXfbb i).all xckX && (zRfbb i).all (fun x => xckX x && xrtB false x))) 6 = true := by decide +kernel
def xIfbb (i : Nat) (x0 : Nat → Int) (E0 : zyEm) (v : Nat → Int) (E : zyEm) : Prop := if i = 0 then (E = E0) else if i = 1 then (E = E0) else if i = 2 then ((¬ 8 ≤ xE E0 75 2) ∧ xE E 74 36 = 0 ∧ (∀ k, xE E 75 k = xE E0 75 k) ∧ ((xE E0 74 39)) ≤ (xE E0 74 42) ∧ xRD (xE E0 84) (xE E0 74 42) ((xE E0 74 39)) E) else if i = 3 then ((¬ 8 ≤ xE E0 75 2) ∧ xE E 74 36 = 0 ∧ (∀ k, xE E 75 k = xE E0 75 k) ∧ (((xE E0 74 39)) ≤ (xE E0 74 42) ∧ xRD (xE E0 84) (xE E0 74 42) ((xE E0 74 39)) E) ∧ tKd (xE E0 84) (xE E0 74 42) (xE E0 74 39) = 3 ∧ (0 ≤ tNm (xE E0 84) (xE E0 74 42) (xE E0 74 39) ∧ tNm (xE E0 84) (xE E0 74 42) (xE E0 74 39) < sN (xE E0 75 0) (xE E0 75 1)) ∧ (v 7) = (if pTak (xE E0 75) (tNm (xE E0 84) (xE E0 74 42) (xE E0 74 39)) (pF (xE E0 75 0) (xE E0 75 1) (tNm (xE E0 84) (xE E0 74 42) (xE E0 74 39))) (xE E0 75 2).toNat = true then 1 else 0)) else if i = 4 then ((¬ 8 ≤ xE E0 75 2) ∧ xE E 74 36 = 0 ∧ (∀ k, xE E 75 k = xE E0 75 k) ∧ ((tNx (xE E0 84) (xE E0 74 42) (xE E0 74 39)) ≤ (xE E0 74 42) ∧ xRD (xE E0 84) (xE E0 74 42) (tNx (xE E0 84) (xE E0 74 42) (xE E0 74 39)) E) ∧ tKd (xE E0 84) (xE E0 74 42) (xE E0 74 39) = 3 ∧ (0 ≤ tNm (xE E0 84) (xE E0 74 42) (xE E0 74 39) ∧ tNm (xE E0 84) (xE E0 74 42) (xE E0 74 39) < sN (xE E0 75 0) (xE E0 75 1)) ∧ ¬ (pTak (xE E0 75) (tNm (xE E0 84) (xE E0 74 42) (xE E0 74 39)) (pF (xE E0 75 0) (xE E0 75 1) (tNm (xE E0 84) (xE E0 74 42) (xE E0 74 39))) (xE E0 75 2).toNat = true) ∧ (v 1) = tNm (xE E0 84) (xE E0 74 42) (xE E0 74 39)) else ((¬ 8 ≤ xE E0 75 2) ∧ xE E 74 36 = 0 ∧ (∀ k, 0 ≤ k → xE E 75 k = pNew (xE E0 75) (tNm (xE E0 84) (xE E0 74 42) (xE E0 74 39)) k) ∧ ((tNx (xE E0 84) (xE E0 74 42) (xE E0 74 39)) ≤ (xE E0 74 42) ∧ xRD (xE E0 84) (xE E0 74 42) (tNx (xE E0 84) (xE E0 74 42) (xE E0 74 39)) E) ∧ tKd (xE E0 84) (xE E0 74 42) (xE E0 74 39) = 3 ∧ (0 ≤ tNm (xE E0 84) (xE E0 74 42) (xE E0 74 39) ∧ tNm (xE E0 84) (xE E0 74 42) (xE E0 74 39) < sN (xE E0 75 0) (xE E0 75 1)) ∧ ¬ (pTak (xE E0 75) (tNm (xE E0 84) (xE E0 74 42) (xE E0 74 39)) (pF (xE E0 75 0) (xE E0 75 1) (tNm (xE E0 84) (xE E0 74 42) (xE E0 74 39))) (xE E0 75 2).toNat = true))
def xMfbb (i : Nat) (x0 : Nat → Int) (E0 : zyEm) (v : Nat → Int) (E : zyEm) : Nat := if i = 0 then (9) else if i = 1 then (8) else if i = 2 then (7) else if i = 3 then (6) else if i = 4 then (5) else (4)
theorem xBb {l : Launch} {en : zEn} {me : zMe} (hen : zG zxMeta 322 = some en) (hme : zG zMeth 322 = some me) : xFc l zymx en me 7 [74] 0 fpfbb false xΦbb xΨbb := by
  have een : zG zxMeta 322 = some (zxi322, 1, 2, 11, 322, 0, 0, 0, 0) := rfl
  obtain ⟨me1, hme1, hOK⟩ := zall hen
  rw [hme] at hme1
  cases hme1
  rw [een] at hen
  cases hen
  have hr := zyfbb_run
  have hck := fun i hi => zyAll_iff zyfbb_ck i hi
  simp only [Bool.and_eq_true] at hck
  obtain ⟨mefrd, hmefrd, -⟩ := zall (show zG zxMeta 314 = some (zxi314, 1, 1, 11, 314, 0, 0, 0, 0) from rfl)
  have hfrd := xRd (l := l) (show zG zxMeta 314 = some (zxi314, 1, 1, 11, 314, 0, 0, 0, 0) from rfl) hmefrd
  obtain ⟨mefit, hmefit, -⟩ := zall (show zG zxMeta 273 = some (zxi273, 2, 2, 11, 273, 0, 0, 2, 0) from rfl)
  have hfit := xIt (l := l) (show zG zxMeta 273 = some (zxi273, 2, 2, 11, 273, 0, 0, 2, 0) from rfl) hmefit
  obtain ⟨mefcn, hmefcn, -⟩ := zall (show zG zxMeta 274 = some (zxi274, 2, 3, 11, 274, 0, 0, 1, 0) from rfl)
  have hfcn := xCn (l := l) (show zG zxMeta 274 = some (zxi274, 2, 3, 11, 274, 0, 0, 1, 0) from rfl) hmefcn
  intro B
  refine xcut (mi := zymx) (B := B) hOK rfl rfl (ι := Fin 6) (fun i => zpfbb i.val) (fun _ _ => []) (fun i => zFfbb i.val) (fun i => zSfbb i.val) (fun i => zXfbb i.val) (fun i => zRfbb i.val) (fun i y2 ct en2 me2 h => by cases h) 200000 (fun i => zyAll_iff hr i.val i.isLt) (fun i => (hck i.val i.isLt).1) (fun i => (hck i.val i.isLt).2.1) (fun i => (hck i.val i.isLt).2.2) ⟨0, by decide⟩ ⟨rfl, rfl, rfl, rfl⟩ ⟨by decide, by decide⟩ (fun i x0 E0 v E => xIfbb i.val x0 E0 v E) (fun i x0 E0 v E => xMfbb i.val x0 E0 v E) ?_ ?_ ?_
  · intro x0 E hx0 hT hΦ
    have hΦ : xΦbb x0 E := hΦ
    refine ⟨fun k p hp => ?_, ?_⟩
    · have hk : k < 2 := (List.getElem?_eq_some_iff.mp hp).1
      have hk : k = 0 ∨ k = 1 := by omega
      rcases hk with rfl | rfl
      · have hp : some (0, 4294967295) = some p := hp
        cases hp
        show ((0 : Nat) : Int) ≤ 0 + 2147483648 ∧ 0 + 2147483648 ≤ ((4294967295 : Nat) : Int)
        omega
      · have hp : some (0, 4294967295) = some p := hp
        cases hp
        show ((0 : Nat) : Int) ≤ x0 0 + 2147483648 ∧ x0 0 + 2147483648 ≤ ((4294967295 : Nat) : Int)
        have hx := hx0 0
        omega
    · show E = E
      rfl
  · intro x0 s Wg hRu hrx hT0 hΦ i v H hT hrv hInv hKc hFr0 hIH x hx ρ2 v2 N2 H2 locs lsB stA hAt hB hv hr2 hXs hag hfr hFr hT2
    rcases i with ⟨i, hi⟩
    have hi2 : i = 0 ∨ i = 1 ∨ i = 2 ∨ i = 3 ∨ i = 4 ∨ i = 5 := by omega
    rcases hi2 with rfl | rfl | rfl | rfl | rfl | rfl
    · have hx : x ∈ [zxfbb_zx0] := hx
      have hag : ∀ k, k < 2 → v2 k = v k := hag
      have hfr : xFr [] _ _ := hfr
      have ex := List.mem_singleton.mp hx
      subst ex
      obtain ⟨hF, hBd, hM⟩ := hXs
      have e74_36 : xE (zyEl zymx B H2) 74 36 = xE (zyEl zymx B H) 74 36 := xFr_E hfr rfl
      have e74_37 : xE (zyEl zymx B H2) 74 37 = xE (zyEl zymx B H) 74 37 := xFr_E hfr rfl
      have e74_38 : xE (zyEl zymx B H2) 74 38 = xE (zyEl zymx B H) 74 38 := xFr_E hfr rfl
      have e74_39 : xE (zyEl zymx B H2) 74 39 = xE (zyEl zymx B H) 74 39 := xFr_E hfr rfl
      have e74_40 : xE (zyEl zymx B H2) 74 40 = xE (zyEl zymx B H) 74 40 := xFr_E hfr rfl
      have e74_41 : xE (zyEl zymx B H2) 74 41 = xE (zyEl zymx B H) 74 41 := xFr_E hfr rfl
      have e74_42 : xE (zyEl zymx B H2) 74 42 = xE (zyEl zymx B H) 74 42 := xFr_E hfr rfl
      have q74_42 : xE (zyEl zymx B H) 74 42 = xE (zyEl zymx B s.heap) 74 42 := xFr_E hFr0 rfl
      have e75_0 : xE (zyEl zymx B H2) 75 0 = xE (zyEl zymx B H) 75 0 := xFr_E hfr rfl
      have q75_0 : xE (zyEl zymx B H) 75 0 = xE (zyEl zymx B s.heap) 75 0 := xFr_E hFr0 rfl
      have e75_1 : xE (zyEl zymx B H2) 75 1 = xE (zyEl zymx B H) 75 1 := xFr_E hfr rfl
      have q75_1 : xE (zyEl zymx B H) 75 1 = xE (zyEl zymx B s.heap) 75 1 := xFr_E hFr0 rfl
      have e75_2 : xE (zyEl zymx B H2) 75 2 = xE (zyEl zymx B H) 75 2 := xFr_E hfr rfl
      have e84 : ∀ i, xE (zyEl zymx B H2) 84 i = xE (zyEl zymx B H) 84 i := fun i => xFr_E hfr rfl
      have q84 : ∀ i, xE (zyEl zymx B H) 84 i = xE (zyEl zymx B s.heap) 84 i := fun i => xFr_E hFr0 rfl
      have e75 : ∀ i, xE (zyEl zymx B H2) 75 i = xE (zyEl zymx B H) 75 i := fun i => xFr_E hfr rfl
      have hI : (zyEl zymx B H) = (zyEl zymx B s.heap) := hInv
      have q74_36 : xE (zyEl zymx B H) 74 36 = xE (zyEl zymx B s.heap) 74 36 := by rw [hI]
      have q74_37 : xE (zyEl zymx B H) 74 37 = xE (zyEl zymx B s.heap) 74 37 := by rw [hI]
      have q74_38 : xE (zyEl zymx B H) 74 38 = xE (zyEl zymx B s.heap) 74 38 := by rw [hI]
      have q74_39 : xE (zyEl zymx B H) 74 39 = xE (zyEl zymx B s.heap) 74 39 := by rw [hI]
      have q74_40 : xE (zyEl zymx B H) 74 40 = xE (zyEl zymx B s.heap) 74 40 := by rw [hI]
      have q74_41 : xE (zyEl zymx B H) 74 41 = xE (zyEl zymx B s.heap) 74 41 := by rw [hI]
      have q75_2 : xE (zyEl zymx B H) 75 2 = xE (zyEl zymx B s.heap) 75 2 := by rw [hI]
      have q75 : ∀ i, xE (zyEl zymx B H) 75 i = xE (zyEl zymx B s.heap) 75 i := fun i => by rw [hI]
      obtain ⟨hP1, hP2, hP3, hP4, hP5, hP6⟩ := (show xΦbb x0 (zyEl zymx B s.heap) from hΦ)
      have hE := hI
      have z74_36 : ((2147483648 : Nat) : Int) ≤ xE (zyEl zymx B H2) 74 36 + 2147483648 ∧ xE (zyEl zymx B H2) 74 36 + 2147483648 ≤ ((2147483657 : Nat) : Int) := xTyF hT2 74 36 36 rfl rfl rfl rfl rfl rfl
      have z74_37 : ((0 : Nat) : Int) ≤ xE (zyEl zymx B H2) 74 37 + 2147483648 ∧ xE (zyEl zymx B H2) 74 37 + 2147483648 ≤ ((4294967295 : Nat) : Int) := xTyF hT2 74 37 37 rfl rfl rfl rfl rfl rfl
      have z74_38 : ((2147483648 : Nat) : Int) ≤ xE (zyEl zymx B H2) 74 38 + 2147483648 ∧ xE (zyEl zymx B H2) 74 38 + 2147483648 ≤ ((2147484548 : Nat) : Int) := xTyF hT2 74 38 38 rfl rfl rfl rfl rfl rfl
      have z74_40 : ((2147483648 : Nat) : Int) ≤ xE (zyEl zymx B H2) 74 40 + 2147483648 ∧ xE (zyEl zymx B H2) 74 40 + 2147483648 ≤ ((2147483652 : Nat) : Int) := xTyF hT2 74 40 40 rfl rfl rfl rfl rfl rfl
      have z75_2 : ((0 : Nat) : Int) ≤ xE (zyEl zymx B H2) 75 2 + 2147483648 ∧ xE (zyEl zymx B H2) 75 2 + 2147483648 ≤ ((4294967295 : Nat) : Int) := xTyF hT2 75 2 0 rfl rfl rfl rfl rfl rfl
      refine xGo hIH hAt hB hv hFr ⟨1, by decide⟩ [0, 0] [0, 0, xE (zyEl zymx B H2) 74 36, xE (zyEl zymx B H2) 74 37, xE (zyEl zymx B H2) 74 38, xE (zyEl zymx B H2) 74 40, xE (zyEl zymx B H2) 75 2] rfl ⟨by decide +kernel, ⟨rfl, by decide +kernel⟩, (xcs_c rfl (xcs_c rfl xcs_n)), (xe_0 (xe_0 (xe_c (by omega) (by omega) rfl (xe_f (xE_r _ _ _) (xe_c (by omega) (by omega) rfl (xe_c (by omega) (by omega) rfl (xe_c (by omega) (by omega) rfl xe_n))))))), (xkq_c hT2 74 36 (q := 36) rfl rfl rfl rfl rfl rfl rfl rfl rfl rfl rfl (xkq_c hT2 74 37 (q := 37) rfl rfl rfl rfl rfl rfl rfl rfl rfl rfl rfl (xkq_c hT2 74 38 (q := 38) rfl rfl rfl rfl rfl rfl rfl rfl rfl rfl rfl (xkq_c hT2 74 40 (q := 40) rfl rfl rfl rfl rfl rfl rfl rfl rfl rfl rfl (xkq_c hT2 75 2 (q := 0) rfl rfl rfl rfl rfl rfl rfl rfl rfl rfl rfl xkq_n)))))⟩ xst_n ?_ ?_
      · show (zyEl zymx B H2) = (zyEl zymx B s.heap)
        exact (xFr_n hfr).trans hI
      · show 8 < 9
        omega
    · have hx : x ∈ [zxfbb_ax0] := hx
      have hag : ∀ k, k < 7 → v2 k = v k := hag
      have hfr : xFr [(74, 36, 37)] _ _ := hfr
      have ex := List.mem_singleton.mp hx
      subst ex
      obtain ⟨hF, hBd, hM⟩ := hXs
      have r3 := hr2 3
      have g2 : v2 2 = v 2 := hag 2 (by decide)
      have g3 : v2 3 = v 3 := hag 3 (by decide)
      have g4 : v2 4 = v 4 := hag 4 (by decide)
      have g5 : v2 5 = v 5 := hag 5 (by decide)
      have g6 : v2 6 = v 6 := hag 6 (by decide)
      have b0 : ((2147483648 : Nat) : Int) ≤ (v2 2) + 2147483648 ∧ (v2 2) + 2147483648 ≤ ((2147483648 : Nat) : Int) := xXb hBd 0 rfl
      have b1 : ((2147483648 : Nat) : Int) ≤ (v2 6) + 2147483648 ∧ (v2 6) + 2147483648 ≤ ((2147483655 : Nat) : Int) := xXb hBd 1 rfl
      have k0 : xE (zyEl zymx B H) 74 36 = v 2 := xKcf hKc 0 rfl rfl
      have k1 : xE (zyEl zymx B H) 74 37 = v 3 := xKcf hKc 1 rfl rfl
      have k2 : xE (zyEl zymx B H) 74 38 = v 4 := xKcf hKc 2 rfl rfl
      have k3 : xE (zyEl zymx B H) 74 40 = v 5 := xKcf hKc 3 rfl rfl
      have k4 : xE (zyEl zymx B H) 75 2 = v 6 := xKcf hKc 4 rfl rfl
      have f0 : (v2 6) < 8 := xXf hF 0 rfl
      have f1 : (v2 2) ≤ 0 := xXf hF 1 rfl
      have m0 : xE (zyEl zymx B H2) 74 36 = (v2 2) := xXm hM 0 rfl
      have m1 : xE (zyEl zymx B H2) 74 37 = (v2 3) := xXm hM 1 rfl
      have e74_38 : xE (zyEl zymx B H2) 74 38 = xE (zyEl zymx B H) 74 38 := xFr_E hfr rfl
      have e74_39 : xE (zyEl zymx B H2) 74 39 = xE (zyEl zymx B H) 74 39 := xFr_E hfr rfl
      have e74_40 : xE (zyEl zymx B H2) 74 40 = xE (zyEl zymx B H) 74 40 := xFr_E hfr rfl
      have e74_41 : xE (zyEl zymx B H2) 74 41 = xE (zyEl zymx B H) 74 41 := xFr_E hfr rfl
      have e74_42 : xE (zyEl zymx B H2) 74 42 = xE (zyEl zymx B H) 74 42 := xFr_E hfr rfl
      have q74_42 : xE (zyEl zymx B H) 74 42 = xE (zyEl zymx B s.heap) 74 42 := xFr_E hFr0 rfl
      have e75_0 : xE (zyEl zymx B H2) 75 0 = xE (zyEl zymx B H) 75 0 := xFr_E hfr rfl
      have q75_0 : xE (zyEl zymx B H) 75 0 = xE (zyEl zymx B s.heap) 75 0 := xFr_E hFr0 rfl
      have e75_1 : xE (zyEl zymx B H2) 75 1 = xE (zyEl zymx B H) 75 1 := xFr_E hfr rfl
      have q75_1 : xE (zyEl zymx B H) 75 1 = xE (zyEl zymx B s.heap) 75 1 := xFr_E hFr0 rfl
      have e75_2 : xE (zyEl zymx B H2) 75 2 = xE (zyEl zymx B H) 75 2 := xFr_E hfr rfl
      have e84 : ∀ i, xE (zyEl zymx B H2) 84 i = xE (zyEl zymx B H) 84 i := fun i => xFr_E hfr rfl
      have q84 : ∀ i, xE (zyEl zymx B H) 84 i = xE (zyEl zymx B s.heap) 84 i := fun i => xFr_E hFr0 rfl
      have e75 : ∀ i, xE (zyEl zymx B H2) 75 i = xE (zyEl zymx B H) 75 i := fun i => xFr_E hfr rfl
      have hI : (zyEl zymx B H) = (zyEl zymx B s.heap) := hInv
      have q74_36 : xE (zyEl zymx B H) 74 36 = xE (zyEl zymx B s.heap) 74 36 := by rw [hI]
      have q74_37 : xE (zyEl zymx B H) 74 37 = xE (zyEl zymx B s.heap) 74 37 := by rw [hI]
      have q74_38 : xE (zyEl zymx B H) 74 38 = xE (zyEl zymx B s.heap) 74 38 := by rw [hI]
      have q74_39 : xE (zyEl zymx B H) 74 39 = xE (zyEl zymx B s.heap) 74 39 := by rw [hI]
      have q74_40 : xE (zyEl zymx B H) 74 40 = xE (zyEl zymx B s.heap) 74 40 := by rw [hI]
      have q74_41 : xE (zyEl zymx B H) 74 41 = xE (zyEl zymx B s.heap) 74 41 := by rw [hI]
      have q75_2 : xE (zyEl zymx B H) 75 2 = xE (zyEl zymx B s.heap) 75 2 := by rw [hI]
      have q75 : ∀ i, xE (zyEl zymx B H) 75 i = xE (zyEl zymx B s.heap) 75 i := fun i => by rw [hI]
      have hE := hI
      have h752 := q75 2
      obtain ⟨hP1, hP2, hP3, hP4, hP5, hP6⟩ := (show xΦbb x0 (zyEl zymx B s.heap) from hΦ)
      have hc : ∀ k, xE (zyEl zymx B H) 75 k = xE (zyEl zymx B s.heap) 75 k := fun k => by rw [hE]
      refine xCa hRu hIH hAt hB hv hFr (hfrd B) (ix := 450) (ax := 5024) rfl rfl rfl hmefrd ⟨_, rfl, rfl, by decide⟩ ⟨rfl, rfl, rfl⟩ (by decide) [] [] [] rfl ⟨rfl, rfl⟩ (by decide +kernel) xcs_n (by decide +kernel) ?_ (fun H3 r hT3 hf3 hFr3 hr3 hΨ3 => ?_)
      · show xΦrd (xfv []) (zyEl zymx B H2)
        unfold xΦrd
        omega
      · have hΨ3 : xΨrd (xfv []) (zyEl zymx B H2) (zyEl zymx B H3) r := hΨ3
        have d74_36 : xE (zyEl zymx B H3) 74 36 = xE (zyEl zymx B H2) 74 36 := xFr_E hf3 rfl
        have d74_37 : xE (zyEl zymx B H3) 74 37 = xE (zyEl zymx B H2) 74 37 := xFr_E hf3 rfl
        have d74_42 : xE (zyEl zymx B H3) 74 42 = xE (zyEl zymx B H2) 74 42 := xFr_E hf3 rfl
        have d75_0 : xE (zyEl zymx B H3) 75 0 = xE (zyEl zymx B H2) 75 0 := xFr_E hf3 rfl
        have d75_1 : xE (zyEl zymx B H3) 75 1 = xE (zyEl zymx B H2) 75 1 := xFr_E hf3 rfl
        have d75_2 : xE (zyEl zymx B H3) 75 2 = xE (zyEl zymx B H2) 75 2 := xFr_E hf3 rfl
        have d84 : ∀ i, xE (zyEl zymx B H3) 84 i = xE (zyEl zymx B H2) 84 i := fun i => xFr_E hf3 rfl
        have d75 : ∀ i, xE (zyEl zymx B H3) 75 i = xE (zyEl zymx B H2) 75 i := fun i => xFr_E hf3 rfl
        have z74_36 : ((2147483648 : Nat) : Int) ≤ xE (zyEl zymx B H3) 74 36 + 2147483648 ∧ xE (zyEl zymx B H3) 74 36 + 2147483648 ≤ ((2147483657 : Nat) : Int) := xTyF hT3 74 36 36 rfl rfl rfl rfl rfl rfl
        have z74_37 : ((0 : Nat) : Int) ≤ xE (zyEl zymx B H3) 74 37 + 2147483648 ∧ xE (zyEl zymx B H3) 74 37 + 2147483648 ≤ ((4294967295 : Nat) : Int) := xTyF hT3 74 37 37 rfl rfl rfl rfl rfl rfl
        have z74_38 : ((2147483648 : Nat) : Int) ≤ xE (zyEl zymx B H3) 74 38 + 2147483648 ∧ xE (zyEl zymx B H3) 74 38 + 2147483648 ≤ ((2147484548 : Nat) : Int) := xTyF hT3 74 38 38 rfl rfl rfl rfl rfl rfl
        have z74_40 : ((2147483648 : Nat) : Int) ≤ xE (zyEl zymx B H3) 74 40 + 2147483648 ∧ xE (zyEl zymx B H3) 74 40 + 2147483648 ≤ ((2147483652 : Nat) : Int) := xTyF hT3 74 40 40 rfl rfl rfl rfl rfl rfl
        have z74_41 : ((2147483648 : Nat) : Int) ≤ xE (zyEl zymx B H3) 74 41 + 2147483648 ∧ xE (zyEl zymx B H3) 74 41 + 2147483648 ≤ ((2147484647 : Nat) : Int) := xTyF hT3 74 41 41 rfl rfl rfl rfl rfl rfl
        have z75_0 : ((0 : Nat) : Int) ≤ xE (zyEl zymx B H3) 75 0 + 2147483648 ∧ xE (zyEl zymx B H3) 75 0 + 2147483648 ≤ ((4294967295 : Nat) : Int) := xTyF hT3 75 0 0 rfl rfl rfl rfl rfl rfl
        have z75_1 : ((0 : Nat) : Int) ≤ xE (zyEl zymx B H3) 75 1 + 2147483648 ∧ xE (zyEl zymx B H3) 75 1 + 2147483648 ≤ ((4294967295 : Nat) : Int) := xTyF hT3 75 1 0 rfl rfl rfl rfl rfl rfl
        unfold xΨrd at hΨ3
        rw [show xE (zyEl zymx B H2) 84 = xE (zyEl zymx B s.heap) 84 from funext fun i => (e84 i).trans (q84 i), show xE (zyEl zymx B H2) 74 42 = xE (zyEl zymx B s.heap) 74 42 by omega, show xE (zyEl zymx B H2) 74 39 = (xE (zyEl zymx B s.heap) 74 39) by omega] at hΨ3
        refine ⟨⟨2, by decide⟩, [0, 0], [0, 0, xE (zyEl zymx B H3) 74 36, xE (zyEl zymx B H3) 74 37, xE (zyEl zymx B H3) 74 38, xE (zyEl zymx B H3) 74 40, xE (zyEl zymx B H3) 74 41, xE (zyEl zymx B H3) 75 0, xE (zyEl zymx B H3) 75 1], rfl, ⟨by decide +kernel, ⟨rfl, by decide +kernel⟩, (xcs_c rfl (xcs_c rfl xcs_n)), (xe_0 (xe_0 (xe_c (by omega) (by omega) rfl (xe_f (xE_r _ _ _) (xe_c (by omega) (by omega) rfl (xe_c (by omega) (by omega) rfl (xe_c (by omega) (by omega) rfl (xe_c (by omega) (by omega) rfl (xe_c (by omega) (by omega) rfl xe_n))))))))), (xkq_c hT3 74 36 (q := 36) rfl rfl rfl rfl rfl rfl rfl rfl rfl rfl rfl (xkq_c hT3 74 37 (q := 37) rfl rfl rfl rfl rfl rfl rfl rfl rfl rfl rfl (xkq_c hT3 74 38 (q := 38) rfl rfl rfl rfl rfl rfl rfl rfl rfl rfl rfl (xkq_c hT3 74 40 (q := 40) rfl rfl rfl rfl rfl rfl rfl rfl rfl rfl rfl (xkq_c hT3 74 41 (q := 41) rfl rfl rfl rfl rfl rfl rfl rfl rfl rfl rfl (xkq_c hT3 75 0 (q := 0) rfl rfl rfl rfl rfl rfl rfl rfl rfl rfl rfl (xkq_c hT3 75 1 (q := 0) rfl rfl rfl rfl rfl rfl rfl rfl rfl rfl rfl xkq_n)))))))⟩, (by rw [if_neg (by decide)]; exact xst_n), ?_, ?_⟩
        · show (¬ 8 ≤ xE (zyEl zymx B s.heap) 75 2) ∧ xE (zyEl zymx B H3) 74 36 = 0 ∧ (∀ k, xE (zyEl zymx B H3) 75 k = xE (zyEl zymx B s.heap) 75 k) ∧ ((xE (zyEl zymx B s.heap) 74 39)) ≤ (xE (zyEl zymx B s.heap) 74 42) ∧ xRD (xE (zyEl zymx B s.heap) 84) (xE (zyEl zymx B s.heap) 74 42) ((xE (zyEl zymx B s.heap) 74 39)) (zyEl zymx B H3)
          exact ⟨by omega, by omega, fun k => (d75 k).trans ((e75 k).trans (hc k)), hP2, hΨ3⟩
        · show 7 < 8
          omega
    · have hx : x ∈ [zxfbb_bx0] := hx
      have hag : ∀ k, k < 9 → v2 k = v k := hag
      have hfr : xFr [(74, 36, 37)] _ _ := hfr
      have ex := List.mem_singleton.mp hx
      subst ex
      obtain ⟨hF, hBd, hM⟩ := hXs
      have r3 := hr2 3
      have g2 : v2 2 = v 2 := hag 2 (by decide)
      have g3 : v2 3 = v 3 := hag 3 (by decide)
      have g4 : v2 4 = v 4 := hag 4 (by decide)
      have g5 : v2 5 = v 5 := hag 5 (by decide)
      have g6 : v2 6 = v 6 := hag 6 (by decide)
      have g7 : v2 7 = v 7 := hag 7 (by decide)
      have g8 : v2 8 = v 8 := hag 8 (by decide)
      have b0 : ((2147483648 : Nat) : Int) ≤ (v2 2) + 2147483648 ∧ (v2 2) + 2147483648 ≤ ((2147483648 : Nat) : Int) := xXb hBd 0 rfl
      have b1 : ((2147483650 : Nat) : Int) ≤ (v2 5) + 2147483648 ∧ (v2 5) + 2147483648 ≤ ((2147483650 : Nat) : Int) := xXb hBd 1 rfl
      have b2 : ((2147483648 : Nat) : Int) ≤ (v2 6) + 2147483648 ∧ (v2 6) + 2147483648 ≤ ((2147483727 : Nat) : Int) := xXb hBd 2 rfl
      have b3 : ((2147483649 : Nat) : Int) ≤ (v2 7) + 2147483648 ∧ (v2 7) + 2147483648 ≤ ((2147483652 : Nat) : Int) := xXb hBd 3 rfl
      have b4 : ((2147483649 : Nat) : Int) ≤ (v2 8) + 2147483648 ∧ (v2 8) + 2147483648 ≤ ((2147483653 : Nat) : Int) := xXb hBd 4 rfl
      have b5 : ((2147483652 : Nat) : Int) ≤ (v2 9) + 2147483648 ∧ (v2 9) + 2147483648 ≤ ((2147483664 : Nat) : Int) := xXb hBd 5 rfl
      have b6 : ((2147483652 : Nat) : Int) ≤ (v2 10) + 2147483648 ∧ (v2 10) + 2147483648 ≤ ((2147483728 : Nat) : Int) := xXb hBd 6 rfl
      have k0 : xE (zyEl zymx B H) 74 36 = v 2 := xKcf hKc 0 rfl rfl
      have k1 : xE (zyEl zymx B H) 74 37 = v 3 := xKcf hKc 1 rfl rfl
      have k2 : xE (zyEl zymx B H) 74 38 = v 4 := xKcf hKc 2 rfl rfl
      have k3 : xE (zyEl zymx B H) 74 40 = v 5 := xKcf hKc 3 rfl rfl
      have k4 : xE (zyEl zymx B H) 74 41 = v 6 := xKcf hKc 4 rfl rfl
      have k5 : xE (zyEl zymx B H) 75 0 = v 7 := xKcf hKc 5 rfl rfl
      have k6 : xE (zyEl zymx B H) 75 1 = v 8 := xKcf hKc 6 rfl rfl
      have f0 : -2147483648 ≤ 4 * (v2 7) → 4 * (v2 7) < 2147483648 → (v2 9) = 4 * (v2 7) := xXf hF 0 rfl
      have f0 := f0 (by omega) (by omega)
      have f1 : -2147483648 ≤ (v2 9) * (v2 8) → (v2 9) * (v2 8) < 2147483648 → (v2 10) = (v2 9) * (v2 8) := xXf hF 1 rfl
      have f2 : (v2 5) = 2 := xXf hF 2 rfl
      have f3 : 0 ≤ (v2 6) := xXf hF 3 rfl
      have f4 : (v2 6) ≤ (v2 10 + (-1)) := xXf hF 4 rfl
      have f5 : (v2 2) ≤ 0 := xXf hF 5 rfl
      have m0 : xE (zyEl zymx B H2) 74 36 = (v2 2) := xXm hM 0 rfl
      have m1 : xE (zyEl zymx B H2) 74 37 = (v2 3) := xXm hM 1 rfl
      have e74_38 : xE (zyEl zymx B H2) 74 38 = xE (zyEl zymx B H) 74 38 := xFr_E hfr rfl
      have e74_39 : xE (zyEl zymx B H2) 74 39 = xE (zyEl zymx B H) 74 39 := xFr_E hfr rfl
      have e74_40 : xE (zyEl zymx B H2) 74 40 = xE (zyEl zymx B H) 74 40 := xFr_E hfr rfl
      have e74_41 : xE (zyEl zymx B H2) 74 41 = xE (zyEl zymx B H) 74 41 := xFr_E hfr rfl
      have e74_42 : xE (zyEl zymx B H2) 74 42 = xE (zyEl zymx B H) 74 42 := xFr_E hfr rfl
      have q74_42 : xE (zyEl zymx B H) 74 42 = xE (zyEl zymx B s.heap) 74 42 := xFr_E hFr0 rfl
      have e75_0 : xE (zyEl zymx B H2) 75 0 = xE (zyEl zymx B H) 75 0 := xFr_E hfr rfl
      have q75_0 : xE (zyEl zymx B H) 75 0 = xE (zyEl zymx B s.heap) 75 0 := xFr_E hFr0 rfl
      have e75_1 : xE (zyEl zymx B H2) 75 1 = xE (zyEl zymx B H) 75 1 := xFr_E hfr rfl
      have q75_1 : xE (zyEl zymx B H) 75 1 = xE (zyEl zymx B s.heap) 75 1 := xFr_E hFr0 rfl
      have e75_2 : xE (zyEl zymx B H2) 75 2 = xE (zyEl zymx B H) 75 2 := xFr_E hfr rfl
      have e84 : ∀ i, xE (zyEl zymx B H2) 84 i = xE (zyEl zymx B H) 84 i := fun i => xFr_E hfr rfl
      have q84 : ∀ i, xE (zyEl zymx B H) 84 i = xE (zyEl zymx B s.heap) 84 i := fun i => xFr_E hFr0 rfl
      have e75 : ∀ i, xE (zyEl zymx B H2) 75 i = xE (zyEl zymx B H) 75 i := fun i => xFr_E hfr rfl
      have hI : (¬ 8 ≤ xE (zyEl zymx B s.heap) 75 2) ∧ xE (zyEl zymx B H) 74 36 = 0 ∧ (∀ k, xE (zyEl zymx B H) 75 k = xE (zyEl zymx B s.heap) 75 k) ∧ ((xE (zyEl zymx B s.heap) 74 39)) ≤ (xE (zyEl zymx B s.heap) 74 42) ∧ xRD (xE (zyEl zymx B s.heap) 84) (xE (zyEl zymx B s.heap) 74 42) ((xE (zyEl zymx B s.heap) 74 39)) (zyEl zymx B H) := hInv
      obtain ⟨hnb, i1, hc, hp, hs⟩ := hI
      obtain ⟨hP1, hP2, hP3, hP4, hP5, hP6⟩ := (show xΦbb x0 (zyEl zymx B s.heap) from hΦ)
      obtain ⟨s1, s1b, s2, s3, s4, s5, s6, s7, s8⟩ := xRD_i hs hp
      have h750 := hc 0
      have h751 := hc 1
      obtain ⟨w1, w2, w3⟩ := sN_of (r := xE (zyEl zymx B s.heap) 75 0) (c := (v2 8)) (A := (v2 9)) (by omega) (by omega) (by omega) f1
      rw [show (v2 8) = xE (zyEl zymx B s.heap) 75 1 by omega] at w1
      have c3 : tKd (xE (zyEl zymx B s.heap) 84) (xE (zyEl zymx B s.heap) 74 42) (xE (zyEl zymx B s.heap) 74 39) = 3 := by omega
      have s6 := s6 c3
      have hcc : xE (zyEl zymx B H2) 75 = xE (zyEl zymx B s.heap) 75 := funext fun k => (e75 k).trans (hc k)
      refine xCa hRu hIH hAt hB hv hFr (hfit B) (ix := 320) (ax := 4368) rfl rfl rfl hmefit ⟨_, rfl, rfl, by decide⟩ ⟨rfl, rfl, rfl⟩ (by decide) [206158430209] [595] [(v2 6)] rfl ⟨rfl, rfl⟩ (by decide +kernel) (xcs_c rfl xcs_n) (by decide +kernel) ?_ (fun H3 r hT3 hf3 hFr3 hr3 hΨ3 => ?_)
      · show xΦit (xfv [(v2 6)]) (zyEl zymx B H2)
        unfold xΦit
        rw [hcc]
        exact ⟨hP3, hP4, ⟨by show 0 ≤ (v2 6); omega, by show (v2 6) < _; omega⟩, hP5, hP6⟩
      · have hΨ3 : xΨit (xfv [(v2 6)]) (zyEl zymx B H2) (zyEl zymx B H3) r := hΨ3
        have d74_36 : xE (zyEl zymx B H3) 74 36 = xE (zyEl zymx B H2) 74 36 := xFr_E hf3 rfl
        have d74_37 : xE (zyEl zymx B H3) 74 37 = xE (zyEl zymx B H2) 74 37 := xFr_E hf3 rfl
        have d74_38 : xE (zyEl zymx B H3) 74 38 = xE (zyEl zymx B H2) 74 38 := xFr_E hf3 rfl
        have d74_39 : xE (zyEl zymx B H3) 74 39 = xE (zyEl zymx B H2) 74 39 := xFr_E hf3 rfl
        have d74_40 : xE (zyEl zymx B H3) 74 40 = xE (zyEl zymx B H2) 74 40 := xFr_E hf3 rfl
        have d74_41 : xE (zyEl zymx B H3) 74 41 = xE (zyEl zymx B H2) 74 41 := xFr_E hf3 rfl
        have d74_42 : xE (zyEl zymx B H3) 74 42 = xE (zyEl zymx B H2) 74 42 := xFr_E hf3 rfl
        have d75_0 : xE (zyEl zymx B H3) 75 0 = xE (zyEl zymx B H2) 75 0 := xFr_E hf3 rfl
        have d75_1 : xE (zyEl zymx B H3) 75 1 = xE (zyEl zymx B H2) 75 1 := xFr_E hf3 rfl
        have d75_2 : xE (zyEl zymx B H3) 75 2 = xE (zyEl zymx B H2) 75 2 := xFr_E hf3 rfl
        have d84 : ∀ i, xE (zyEl zymx B H3) 84 i = xE (zyEl zymx B H2) 84 i := fun i => xFr_E hf3 rfl
        have d75 : ∀ i, xE (zyEl zymx B H3) 75 i = xE (zyEl zymx B H2) 75 i := fun i => xFr_E hf3 rfl
        have z74_36 : ((2147483648 : Nat) : Int) ≤ xE (zyEl zymx B H3) 74 36 + 2147483648 ∧ xE (zyEl zymx B H3) 74 36 + 2147483648 ≤ ((2147483657 : Nat) : Int) := xTyF hT3 74 36 36 rfl rfl rfl rfl rfl rfl
        have z74_37 : ((0 : Nat) : Int) ≤ xE (zyEl zymx B H3) 74 37 + 2147483648 ∧ xE (zyEl zymx B H3) 74 37 + 2147483648 ≤ ((4294967295 : Nat) : Int) := xTyF hT3 74 37 37 rfl rfl rfl rfl rfl rfl
        have z74_38 : ((2147483648 : Nat) : Int) ≤ xE (zyEl zymx B H3) 74 38 + 2147483648 ∧ xE (zyEl zymx B H3) 74 38 + 2147483648 ≤ ((2147484548 : Nat) : Int) := xTyF hT3 74 38 38 rfl rfl rfl rfl rfl rfl
        have z74_40 : ((2147483648 : Nat) : Int) ≤ xE (zyEl zymx B H3) 74 40 + 2147483648 ∧ xE (zyEl zymx B H3) 74 40 + 2147483648 ≤ ((2147483652 : Nat) : Int) := xTyF hT3 74 40 40 rfl rfl rfl rfl rfl rfl
        have z74_41 : ((2147483648 : Nat) : Int) ≤ xE (zyEl zymx B H3) 74 41 + 2147483648 ∧ xE (zyEl zymx B H3) 74 41 + 2147483648 ≤ ((2147484647 : Nat) : Int) := xTyF hT3 74 41 41 rfl rfl rfl rfl rfl rfl
        have hr : r = if pTak (xE (zyEl zymx B H2) 75) (v2 6) (pF (xE (zyEl zymx B H2) 75 0) (xE (zyEl zymx B H2) 75 1) (v2 6)) (xE (zyEl zymx B H2) 75 2).toNat = true then 1 else 0 := hΨ3
        rw [hcc, show (v2 6) = tNm (xE (zyEl zymx B s.heap) 84) (xE (zyEl zymx B s.heap) 74 42) (xE (zyEl zymx B s.heap) 74 39) by omega] at hr
        have hE3 : (zyEl zymx B H3) = (zyEl zymx B H2) := xFr_n hf3
        have hs2 := xRD_k hs hfr rfl rfl rfl rfl rfl
        have hb01 : r = 0 ∨ r = 1 := by
          rw [hr]
          split
          · exact Or.inr rfl
          · exact Or.inl rfl
        refine ⟨⟨3, by decide⟩, [0, 0], [0, 0, xE (zyEl zymx B H3) 74 36, xE (zyEl zymx B H3) 74 37, xE (zyEl zymx B H3) 74 38, xE (zyEl zymx B H3) 74 40, xE (zyEl zymx B H3) 74 41, r], rfl, ⟨by decide +kernel, ⟨rfl, by decide +kernel⟩, (xcs_c rfl (xcs_c rfl xcs_n)), (xe_0 (xe_0 (xe_c (by omega) (by omega) rfl (xe_f (xE_r _ _ _) (xe_c (by omega) (by omega) rfl (xe_c (by omega) (by omega) rfl (xe_c (by omega) (by omega) rfl (xe_c (by omega) (by omega) rfl xe_n)))))))), (xkq_c hT3 74 36 (q := 36) rfl rfl rfl rfl rfl rfl rfl rfl rfl rfl rfl (xkq_c hT3 74 37 (q := 37) rfl rfl rfl rfl rfl rfl rfl rfl rfl rfl rfl (xkq_c hT3 74 38 (q := 38) rfl rfl rfl rfl rfl rfl rfl rfl rfl rfl rfl (xkq_c hT3 74 40 (q := 40) rfl rfl rfl rfl rfl rfl rfl rfl rfl rfl rfl (xkq_c hT3 74 41 (q := 41) rfl rfl rfl rfl rfl rfl rfl rfl rfl rfl rfl xkq_n)))))⟩, (by rw [if_pos rfl]; exact ⟨7, [595], rfl, by decide, rfl, (xst_r rfl xst_n)⟩), ?_, ?_⟩
        · show (¬ 8 ≤ xE (zyEl zymx B s.heap) 75 2) ∧ xE (zyEl zymx B H3) 74 36 = 0 ∧ (∀ k, xE (zyEl zymx B H3) 75 k = xE (zyEl zymx B s.heap) 75 k) ∧ (((xE (zyEl zymx B s.heap) 74 39)) ≤ (xE (zyEl zymx B s.heap) 74 42) ∧ xRD (xE (zyEl zymx B s.heap) 84) (xE (zyEl zymx B s.heap) 74 42) ((xE (zyEl zymx B s.heap) 74 39)) (zyEl zymx B H3)) ∧ tKd (xE (zyEl zymx B s.heap) 84) (xE (zyEl zymx B s.heap) 74 42) (xE (zyEl zymx B s.heap) 74 39) = 3 ∧ (0 ≤ tNm (xE (zyEl zymx B s.heap) 84) (xE (zyEl zymx B s.heap) 74 42) (xE (zyEl zymx B s.heap) 74 39) ∧ tNm (xE (zyEl zymx B s.heap) 84) (xE (zyEl zymx B s.heap) 74 42) (xE (zyEl zymx B s.heap) 74 39) < sN (xE (zyEl zymx B s.heap) 75 0) (xE (zyEl zymx B s.heap) 75 1)) ∧ (r : Int) = (if pTak (xE (zyEl zymx B s.heap) 75) (tNm (xE (zyEl zymx B s.heap) 84) (xE (zyEl zymx B s.heap) 74 42) (xE (zyEl zymx B s.heap) 74 39)) (pF (xE (zyEl zymx B s.heap) 75 0) (xE (zyEl zymx B s.heap) 75 1) (tNm (xE (zyEl zymx B s.heap) 84) (xE (zyEl zymx B s.heap) 74 42) (xE (zyEl zymx B s.heap) 74 39))) (xE (zyEl zymx B s.heap) 75 2).toNat = true then 1 else 0)
          refine ⟨hnb, by omega, fun k => (d75 k).trans ((e75 k).trans (hc k)), ⟨hp, by rw [hE3]; exact hs2⟩, c3, ⟨by omega, by omega⟩, hr⟩
        · show 6 < 7
          omega
    · have hx : x ∈ [zxfbb_cx0] := hx
      have hag : ∀ k, k < 8 → v2 k = v k := hag
      have hfr : xFr [(74, 36, 37)] _ _ := hfr
      have ex := List.mem_singleton.mp hx
      subst ex
      obtain ⟨hF, hBd, hM⟩ := hXs
      have r3 := hr2 3
      have g2 : v2 2 = v 2 := hag 2 (by decide)
      have g3 : v2 3 = v 3 := hag 3 (by decide)
      have g4 : v2 4 = v 4 := hag 4 (by decide)
      have g5 : v2 5 = v 5 := hag 5 (by decide)
      have g6 : v2 6 = v 6 := hag 6 (by decide)
      have g7 : v2 7 = v 7 := hag 7 (by decide)
      have b0 : ((2147483648 : Nat) : Int) ≤ (v2 2) + 2147483648 ∧ (v2 2) + 2147483648 ≤ ((2147483648 : Nat) : Int) := xXb hBd 0 rfl
      have b1 : ((2147483648 : Nat) : Int) ≤ (v2 6) + 2147483648 ∧ (v2 6) + 2147483648 ≤ ((2147484647 : Nat) : Int) := xXb hBd 1 rfl
      have b2 : ((2147483648 : Nat) : Int) ≤ (v2 7) + 2147483648 ∧ (v2 7) + 2147483648 ≤ ((2147483648 : Nat) : Int) := xXb hBd 2 rfl
      have k0 : xE (zyEl zymx B H) 74 36 = v 2 := xKcf hKc 0 rfl rfl
      have k1 : xE (zyEl zymx B H) 74 37 = v 3 := xKcf hKc 1 rfl rfl
      have k2 : xE (zyEl zymx B H) 74 38 = v 4 := xKcf hKc 2 rfl rfl
      have k3 : xE (zyEl zymx B H) 74 40 = v 5 := xKcf hKc 3 rfl rfl
      have k4 : xE (zyEl zymx B H) 74 41 = v 6 := xKcf hKc 4 rfl rfl
      have f0 : (v2 7) = 0 := xXf hF 0 rfl
      have f1 : (v2 2) ≤ 0 := xXf hF 1 rfl
      have m0 : xE (zyEl zymx B H2) 74 36 = (v2 2) := xXm hM 0 rfl
      have m1 : xE (zyEl zymx B H2) 74 37 = (v2 3) := xXm hM 1 rfl
      have e74_38 : xE (zyEl zymx B H2) 74 38 = xE (zyEl zymx B H) 74 38 := xFr_E hfr rfl
      have e74_39 : xE (zyEl zymx B H2) 74 39 = xE (zyEl zymx B H) 74 39 := xFr_E hfr rfl
      have e74_40 : xE (zyEl zymx B H2) 74 40 = xE (zyEl zymx B H) 74 40 := xFr_E hfr rfl
      have e74_41 : xE (zyEl zymx B H2) 74 41 = xE (zyEl zymx B H) 74 41 := xFr_E hfr rfl
      have e74_42 : xE (zyEl zymx B H2) 74 42 = xE (zyEl zymx B H) 74 42 := xFr_E hfr rfl
      have q74_42 : xE (zyEl zymx B H) 74 42 = xE (zyEl zymx B s.heap) 74 42 := xFr_E hFr0 rfl
      have e75_0 : xE (zyEl zymx B H2) 75 0 = xE (zyEl zymx B H) 75 0 := xFr_E hfr rfl
      have q75_0 : xE (zyEl zymx B H) 75 0 = xE (zyEl zymx B s.heap) 75 0 := xFr_E hFr0 rfl
      have e75_1 : xE (zyEl zymx B H2) 75 1 = xE (zyEl zymx B H) 75 1 := xFr_E hfr rfl
      have q75_1 : xE (zyEl zymx B H) 75 1 = xE (zyEl zymx B s.heap) 75 1 := xFr_E hFr0 rfl
      have e75_2 : xE (zyEl zymx B H2) 75 2 = xE (zyEl zymx B H) 75 2 := xFr_E hfr rfl
      have e84 : ∀ i, xE (zyEl zymx B H2) 84 i = xE (zyEl zymx B H) 84 i := fun i => xFr_E hfr rfl
      have q84 : ∀ i, xE (zyEl zymx B H) 84 i = xE (zyEl zymx B s.heap) 84 i := fun i => xFr_E hFr0 rfl
      have e75 : ∀ i, xE (zyEl zymx B H2) 75 i = xE (zyEl zymx B H) 75 i := fun i => xFr_E hfr rfl
      have hI : (¬ 8 ≤ xE (zyEl zymx B s.heap) 75 2) ∧ xE (zyEl zymx B H) 74 36 = 0 ∧ (∀ k, xE (zyEl zymx B H) 75 k = xE (zyEl zymx B s.heap) 75 k) ∧ (((xE (zyEl zymx B s.heap) 74 39)) ≤ (xE (zyEl zymx B s.heap) 74 42) ∧ xRD (xE (zyEl zymx B s.heap) 84) (xE (zyEl zymx B s.heap) 74 42) ((xE (zyEl zymx B s.heap) 74 39)) (zyEl zymx B H)) ∧ tKd (xE (zyEl zymx B s.heap) 84) (xE (zyEl zymx B s.heap) 74 42) (xE (zyEl zymx B s.heap) 74 39) = 3 ∧ (0 ≤ tNm (xE (zyEl zymx B s.heap) 84) (xE (zyEl zymx B s.heap) 74 42) (xE (zyEl zymx B s.heap) 74 39) ∧ tNm (xE (zyEl zymx B s.heap) 84) (xE (zyEl zymx B s.heap) 74 42) (xE (zyEl zymx B s.heap) 74 39) < sN (xE (zyEl zymx B s.heap) 75 0) (xE (zyEl zymx B s.heap) 75 1)) ∧ (v 7) = (if pTak (xE (zyEl zymx B s.heap) 75) (tNm (xE (zyEl zymx B s.heap) 84) (xE (zyEl zymx B s.heap) 74 42) (xE (zyEl zymx B s.heap) 74 39)) (pF (xE (zyEl zymx B s.heap) 75 0) (xE (zyEl zymx B s.heap) 75 1) (tNm (xE (zyEl zymx B s.heap) 84) (xE (zyEl zymx B s.heap) 74 42) (xE (zyEl zymx B s.heap) 74 39))) (xE (zyEl zymx B s.heap) 75 2).toNat = true then 1 else 0) := hInv
      obtain ⟨hnb, i1, hc, ⟨hp, hs⟩, c3, hnd, hr⟩ := hI
      obtain ⟨hP1, hP2, hP3, hP4, hP5, hP6⟩ := (show xΦbb x0 (zyEl zymx B s.heap) from hΦ)
      obtain ⟨s1, s1b, s2, s3, s4, s5, s6, s7, s8⟩ := xRD_i hs hp
      have s6 := s6 c3
      have ct : ¬ (pTak (xE (zyEl zymx B s.heap) 75) (tNm (xE (zyEl zymx B s.heap) 84) (xE (zyEl zymx B s.heap) 74 42) (xE (zyEl zymx B s.heap) 74 39)) (pF (xE (zyEl zymx B s.heap) 75 0) (xE (zyEl zymx B s.heap) 75 1) (tNm (xE (zyEl zymx B s.heap) 84) (xE (zyEl zymx B s.heap) 74 42) (xE (zyEl zymx B s.heap) 74 39))) (xE (zyEl zymx B s.heap) 75 2).toNat = true) := fun ct => by
        rw [if_pos ct] at hr
        omega
      have s4 := s4 (by omega)
      refine xCa hRu hIH hAt hB hv hFr (hfrd B) (ix := 450) (ax := 5024) rfl rfl rfl hmefrd ⟨_, rfl, rfl, by decide⟩ ⟨rfl, rfl, rfl⟩ (by decide) [] [] [] rfl ⟨rfl, rfl⟩ (by decide +kernel) xcs_n (by decide +kernel) ?_ (fun H3 r hT3 hf3 hFr3 hr3 hΨ3 => ?_)
      · show xΦrd (xfv []) (zyEl zymx B H2)
        unfold xΦrd
        omega
      · have hΨ3 : xΨrd (xfv []) (zyEl zymx B H2) (zyEl zymx B H3) r := hΨ3
        have d74_36 : xE (zyEl zymx B H3) 74 36 = xE (zyEl zymx B H2) 74 36 := xFr_E hf3 rfl
        have d74_37 : xE (zyEl zymx B H3) 74 37 = xE (zyEl zymx B H2) 74 37 := xFr_E hf3 rfl
        have d74_42 : xE (zyEl zymx B H3) 74 42 = xE (zyEl zymx B H2) 74 42 := xFr_E hf3 rfl
        have d75_0 : xE (zyEl zymx B H3) 75 0 = xE (zyEl zymx B H2) 75 0 := xFr_E hf3 rfl
        have d75_1 : xE (zyEl zymx B H3) 75 1 = xE (zyEl zymx B H2) 75 1 := xFr_E hf3 rfl
        have d75_2 : xE (zyEl zymx B H3) 75 2 = xE (zyEl zymx B H2) 75 2 := xFr_E hf3 rfl
        have d84 : ∀ i, xE (zyEl zymx B H3) 84 i = xE (zyEl zymx B H2) 84 i := fun i => xFr_E hf3 rfl
        have d75 : ∀ i, xE (zyEl zymx B H3) 75 i = xE (zyEl zymx B H2) 75 i := fun i => xFr_E hf3 rfl
        unfold xΨrd at hΨ3
        rw [show xE (zyEl zymx B H2) 84 = xE (zyEl zymx B s.heap) 84 from funext fun i => (e84 i).trans (q84 i), show xE (zyEl zymx B H2) 74 42 = xE (zyEl zymx B s.heap) 74 42 by omega, show xE (zyEl zymx B H2) 74 39 = tNx (xE (zyEl zymx B s.heap) 84) (xE (zyEl zymx B s.heap) 74 42) (xE (zyEl zymx B s.heap) 74 39) by omega] at hΨ3
        refine ⟨⟨4, by decide⟩, [0, 206158430209], [0, (v2 6)], rfl, ⟨by decide +kernel, ⟨rfl, by decide +kernel⟩, (xcs_c rfl (xcs_c rfl xcs_n)), (xe_0 (xe_f (by omega) xe_n)), xkq_n⟩, (by rw [if_neg (by decide)]; exact xst_n), ?_, ?_⟩
        · show (¬ 8 ≤ xE (zyEl zymx B s.heap) 75 2) ∧ xE (zyEl zymx B H3) 74 36 = 0 ∧ (∀ k, xE (zyEl zymx B H3) 75 k = xE (zyEl zymx B s.heap) 75 k) ∧ ((tNx (xE (zyEl zymx B s.heap) 84) (xE (zyEl zymx B s.heap) 74 42) (xE (zyEl zymx B s.heap) 74 39)) ≤ (xE (zyEl zymx B s.heap) 74 42) ∧ xRD (xE (zyEl zymx B s.heap) 84) (xE (zyEl zymx B s.heap) 74 42) (tNx (xE (zyEl zymx B s.heap) 84) (xE (zyEl zymx B s.heap) 74 42) (xE (zyEl zymx B s.heap) 74 39)) (zyEl zymx B H3)) ∧ tKd (xE (zyEl zymx B s.heap) 84) (xE (zyEl zymx B s.heap) 74 42) (xE (zyEl zymx B s.heap) 74 39) = 3 ∧ (0 ≤ tNm (xE (zyEl zymx B s.heap) 84) (xE (zyEl zymx B s.heap) 74 42) (xE (zyEl zymx B s.heap) 74 39) ∧ tNm (xE (zyEl zymx B s.heap) 84) (xE (zyEl zymx B s.heap) 74 42) (xE (zyEl zymx B s.heap) 74 39) < sN (xE (zyEl zymx B s.heap) 75 0) (xE (zyEl zymx B s.heap) 75 1)) ∧ ¬ (pTak (xE (zyEl zymx B s.heap) 75) (tNm (xE (zyEl zymx B s.heap) 84) (xE (zyEl zymx B s.heap) 74 42) (xE (zyEl zymx B s.heap) 74 39)) (pF (xE (zyEl zymx B s.heap) 75 0) (xE (zyEl zymx B s.heap) 75 1) (tNm (xE (zyEl zymx B s.heap) 84) (xE (zyEl zymx B s.heap) 74 42) (xE (zyEl zymx B s.heap) 74 39))) (xE (zyEl zymx B s.heap) 75 2).toNat = true) ∧ ((v2 6) : Int) = tNm (xE (zyEl zymx B s.heap) 84) (xE (zyEl zymx B s.heap) 74 42) (xE (zyEl zymx B s.heap) 74 39)
          exact ⟨hnb, by omega, fun k => (d75 k).trans ((e75 k).trans (hc k)), ⟨s4.2.1, hΨ3⟩, c3, hnd, ct, by omega⟩
        · show 5 < 6
          omega
    · have hx : x ∈ [zxfbb_dx0] := hx
      have hag : ∀ k, k < 2 → v2 k = v k := hag
      have hfr : xFr [] _ _ := hfr
      have ex := List.mem_singleton.mp hx
      subst ex
      obtain ⟨hF, hBd, hM⟩ := hXs
      have r1 := hr2 1
      have g1 : v2 1 = v 1 := hag 1 (by decide)
      have e74_36 : xE (zyEl zymx B H2) 74 36 = xE (zyEl zymx B H) 74 36 := xFr_E hfr rfl
      have e74_37 : xE (zyEl zymx B H2) 74 37 = xE (zyEl zymx B H) 74 37 := xFr_E hfr rfl
      have e74_38 : xE (zyEl zymx B H2) 74 38 = xE (zyEl zymx B H) 74 38 := xFr_E hfr rfl
      have e74_39 : xE (zyEl zymx B H2) 74 39 = xE (zyEl zymx B H) 74 39 := xFr_E hfr rfl
      have e74_40 : xE (zyEl zymx B H2) 74 40 = xE (zyEl zymx B H) 74 40 := xFr_E hfr rfl
      have e74_41 : xE (zyEl zymx B H2) 74 41 = xE (zyEl zymx B H) 74 41 := xFr_E hfr rfl
      have e74_42 : xE (zyEl zymx B H2) 74 42 = xE (zyEl zymx B H) 74 42 := xFr_E hfr rfl
      have q74_42 : xE (zyEl zymx B H) 74 42 = xE (zyEl zymx B s.heap) 74 42 := xFr_E hFr0 rfl
      have e75_0 : xE (zyEl zymx B H2) 75 0 = xE (zyEl zymx B H) 75 0 := xFr_E hfr rfl
      have q75_0 : xE (zyEl zymx B H) 75 0 = xE (zyEl zymx B s.heap) 75 0 := xFr_E hFr0 rfl
      have e75_1 : xE (zyEl zymx B H2) 75 1 = xE (zyEl zymx B H) 75 1 := xFr_E hfr rfl
      have q75_1 : xE (zyEl zymx B H) 75 1 = xE (zyEl zymx B s.heap) 75 1 := xFr_E hFr0 rfl
      have e75_2 : xE (zyEl zymx B H2) 75 2 = xE (zyEl zymx B H) 75 2 := xFr_E hfr rfl
      have e84 : ∀ i, xE (zyEl zymx B H2) 84 i = xE (zyEl zymx B H) 84 i := fun i => xFr_E hfr rfl
      have q84 : ∀ i, xE (zyEl zymx B H) 84 i = xE (zyEl zymx B s.heap) 84 i := fun i => xFr_E hFr0 rfl
      have e75 : ∀ i, xE (zyEl zymx B H2) 75 i = xE (zyEl zymx B H) 75 i := fun i => xFr_E hfr rfl
      have hI : (¬ 8 ≤ xE (zyEl zymx B s.heap) 75 2) ∧ xE (zyEl zymx B H) 74 36 = 0 ∧ (∀ k, xE (zyEl zymx B H) 75 k = xE (zyEl zymx B s.heap) 75 k) ∧ ((tNx (xE (zyEl zymx B s.heap) 84) (xE (zyEl zymx B s.heap) 74 42) (xE (zyEl zymx B s.heap) 74 39)) ≤ (xE (zyEl zymx B s.heap) 74 42) ∧ xRD (xE (zyEl zymx B s.heap) 84) (xE (zyEl zymx B s.heap) 74 42) (tNx (xE (zyEl zymx B s.heap) 84) (xE (zyEl zymx B s.heap) 74 42) (xE (zyEl zymx B s.heap) 74 39)) (zyEl zymx B H)) ∧ tKd (xE (zyEl zymx B s.heap) 84) (xE (zyEl zymx B s.heap) 74 42) (xE (zyEl zymx B s.heap) 74 39) = 3 ∧ (0 ≤ tNm (xE (zyEl zymx B s.heap) 84) (xE (zyEl zymx B s.heap) 74 42) (xE (zyEl zymx B s.heap) 74 39) ∧ tNm (xE (zyEl zymx B s.heap) 84) (xE (zyEl zymx B s.heap) 74 42) (xE (zyEl zymx B s.heap) 74 39) < sN (xE (zyEl zymx B s.heap) 75 0) (xE (zyEl zymx B s.heap) 75 1)) ∧ ¬ (pTak (xE (zyEl zymx B s.heap) 75) (tNm (xE (zyEl zymx B s.heap) 84) (xE (zyEl zymx B s.heap) 74 42) (xE (zyEl zymx B s.heap) 74 39)) (pF (xE (zyEl zymx B s.heap) 75 0) (xE (zyEl zymx B s.heap) 75 1) (tNm (xE (zyEl zymx B s.heap) 84) (xE (zyEl zymx B s.heap) 74 42) (xE (zyEl zymx B s.heap) 74 39))) (xE (zyEl zymx B s.heap) 75 2).toNat = true) ∧ (v 1) = tNm (xE (zyEl zymx B s.heap) 84) (xE (zyEl zymx B s.heap) 74 42) (xE (zyEl zymx B s.heap) 74 39) := hInv
      obtain ⟨hnb, i1, hc, ⟨hp, hs⟩, c3, hnd, ct, i2⟩ := hI
      have h752 := hc 2
      obtain ⟨hP1, hP2, hP3, hP4, hP5, hP6⟩ := (show xΦbb x0 (zyEl zymx B s.heap) from hΦ)
      have hEE : (zyEl zymx B H2) = (zyEl zymx B H) := xFr_n hfr
      have hcc : xE (zyEl zymx B H2) 75 = xE (zyEl zymx B s.heap) 75 := funext fun k => (e75 k).trans (hc k)
      refine xCa hRu hIH hAt hB hv hFr (hfcn B) (ix := 323) (ax := 4384) rfl rfl rfl hmefcn ⟨_, rfl, rfl, by decide⟩ ⟨rfl, rfl, rfl⟩ (by decide) [34359738369] [] [(v2 1)] rfl ⟨rfl, rfl⟩ (by decide +kernel) (xcs_c rfl xcs_n) (by decide +kernel) ?_ (fun H3 r hT3 hf3 hFr3 hr3 hΨ3 => ?_)
      · show xΦcn (xfv [(v2 1)]) (zyEl zymx B H2)
        unfold xΦcn
        rw [hcc]
        omega
      · have hΨ3 : xΨcn (xfv [(v2 1)]) (zyEl zymx B H2) (zyEl zymx B H3) r := hΨ3
        have d74_36 : xE (zyEl zymx B H3) 74 36 = xE (zyEl zymx B H2) 74 36 := xFr_E hf3 rfl
        have d74_37 : xE (zyEl zymx B H3) 74 37 = xE (zyEl zymx B H2) 74 37 := xFr_E hf3 rfl
        have d74_38 : xE (zyEl zymx B H3) 74 38 = xE (zyEl zymx B H2) 74 38 := xFr_E hf3 rfl
        have d74_39 : xE (zyEl zymx B H3) 74 39 = xE (zyEl zymx B H2) 74 39 := xFr_E hf3 rfl
        have d74_40 : xE (zyEl zymx B H3) 74 40 = xE (zyEl zymx B H2) 74 40 := xFr_E hf3 rfl
        have d74_41 : xE (zyEl zymx B H3) 74 41 = xE (zyEl zymx B H2) 74 41 := xFr_E hf3 rfl
        have d74_42 : xE (zyEl zymx B H3) 74 42 = xE (zyEl zymx B H2) 74 42 := xFr_E hf3 rfl
        have d75_0 : xE (zyEl zymx B H3) 75 0 = xE (zyEl zymx B H2) 75 0 := xFr_E hf3 rfl
        have d75_1 : xE (zyEl zymx B H3) 75 1 = xE (zyEl zymx B H2) 75 1 := xFr_E hf3 rfl
        have d84 : ∀ i, xE (zyEl zymx B H3) 84 i = xE (zyEl zymx B H2) 84 i := fun i => xFr_E hf3 rfl
        have hr : ∀ k, 0 ≤ k → xE (zyEl zymx B H3) 75 k = pNew (xE (zyEl zymx B H2) 75) (v2 1) k := hΨ3
        rw [hcc, show (v2 1) = tNm (xE (zyEl zymx B s.heap) 84) (xE (zyEl zymx B s.heap) 74 42) (xE (zyEl zymx B s.heap) 74 39) by omega] at hr
        refine ⟨⟨5, by decide⟩, [0, 0], [0, 0, r], rfl, ⟨by decide +kernel, ⟨rfl, by decide +kernel⟩, (xcs_c rfl (xcs_c rfl xcs_n)), (xe_0 (xe_0 (xe_f (by omega) xe_n))), xkq_n⟩, (by rw [if_pos rfl]; exact ⟨2, [], rfl, by decide, rfl, xst_n⟩), ?_, ?_⟩
        · show (¬ 8 ≤ xE (zyEl zymx B s.heap) 75 2) ∧ xE (zyEl zymx B H3) 74 36 = 0 ∧ (∀ k, 0 ≤ k → xE (zyEl zymx B H3) 75 k = pNew (xE (zyEl zymx B s.heap) 75) (tNm (xE (zyEl zymx B s.heap) 84) (xE (zyEl zymx B s.heap) 74 42) (xE (zyEl zymx B s.heap) 74 39)) k) ∧ ((tNx (xE (zyEl zymx B s.heap) 84) (xE (zyEl zymx B s.heap) 74 42) (xE (zyEl zymx B s.heap) 74 39)) ≤ (xE (zyEl zymx B s.heap) 74 42) ∧ xRD (xE (zyEl zymx B s.heap) 84) (xE (zyEl zymx B s.heap) 74 42) (tNx (xE (zyEl zymx B s.heap) 84) (xE (zyEl zymx B s.heap) 74 42) (xE (zyEl zymx B s.heap) 74 39)) (zyEl zymx B H3)) ∧ tKd (xE (zyEl zymx B s.heap) 84) (xE (zyEl zymx B s.heap) 74 42) (xE (zyEl zymx B s.heap) 74 39) = 3 ∧ (0 ≤ tNm (xE (zyEl zymx B s.heap) 84) (xE (zyEl zymx B s.heap) 74 42) (xE (zyEl zymx B s.heap) 74 39) ∧ tNm (xE (zyEl zymx B s.heap) 84) (xE (zyEl zymx B s.heap) 74 42) (xE (zyEl zymx B s.heap) 74 39) < sN (xE (zyEl zymx B s.heap) 75 0) (xE (zyEl zymx B s.heap) 75 1)) ∧ ¬ (pTak (xE (zyEl zymx B s.heap) 75) (tNm (xE (zyEl zymx B s.heap) 84) (xE (zyEl zymx B s.heap) 74 42) (xE (zyEl zymx B s.heap) 74 39)) (pF (xE (zyEl zymx B s.heap) 75 0) (xE (zyEl zymx B s.heap) 75 1) (tNm (xE (zyEl zymx B s.heap) 84) (xE (zyEl zymx B s.heap) 74 42) (xE (zyEl zymx B s.heap) 74 39))) (xE (zyEl zymx B s.heap) 75 2).toNat = true)
          exact ⟨hnb, by omega, hr, ⟨hp, xRD_k (by rw [hEE]; exact hs) hf3 rfl rfl rfl rfl rfl⟩, c3, hnd, ct⟩
        · show 4 < 5
          omega
    · cases hx
  · intro x0 E0 E E2 hrx hT0 hΦ i v hT hrv hInv hKc hFr0 x hx v2 hr2 hXs hag hfr hFr hT2
    rcases i with ⟨i, hi⟩
    have hi2 : i = 0 ∨ i = 1 ∨ i = 2 ∨ i = 3 ∨ i = 4 ∨ i = 5 := by omega
    rcases hi2 with rfl | rfl | rfl | rfl | rfl | rfl
    · cases hx
    · have hx : x ∈ [zxfbb_ar0] := hx
      have hag : ∀ k, k < 7 → v2 k = v k := hag
      have hfr : xFr [(74, 36, 37)] _ _ := hfr
      have ex := List.mem_singleton.mp hx
      subst ex
      obtain ⟨hF, hBd, hM⟩ := hXs
      have g2 : v2 2 = v 2 := hag 2 (by decide)
      have g3 : v2 3 = v 3 := hag 3 (by decide)
      have g4 : v2 4 = v 4 := hag 4 (by decide)
      have g5 : v2 5 = v 5 := hag 5 (by decide)
      have g6 : v2 6 = v 6 := hag 6 (by decide)
      have b0 : ((2147483648 : Nat) : Int) ≤ (v2 2) + 2147483648 ∧ (v2 2) + 2147483648 ≤ ((2147483648 : Nat) : Int) := xXb hBd 0 rfl
      have b1 : ((2147483648 : Nat) : Int) ≤ (v2 4) + 2147483648 ∧ (v2 4) + 2147483648 ≤ ((2147484548 : Nat) : Int) := xXb hBd 1 rfl
      have b2 : ((2147483656 : Nat) : Int) ≤ (v2 6) + 2147483648 ∧ (v2 6) + 2147483648 ≤ ((2147483656 : Nat) : Int) := xXb hBd 2 rfl
      have k0 : xE E 74 36 = v 2 := xKcf hKc 0 rfl rfl
      have k1 : xE E 74 37 = v 3 := xKcf hKc 1 rfl rfl
      have k2 : xE E 74 38 = v 4 := xKcf hKc 2 rfl rfl
      have k3 : xE E 74 40 = v 5 := xKcf hKc 3 rfl rfl
      have k4 : xE E 75 2 = v 6 := xKcf hKc 4 rfl rfl
      have f0 : 8 ≤ (v2 6) := xXf hF 0 rfl
      have f1 : (v2 2) ≤ 0 := xXf hF 1 rfl
      have m0 : xE E2 74 36 = 6 := xXm hM 0 rfl
      have m1 : xE E2 74 37 = (v2 4) := xXm hM 1 rfl
      have e74_38 : xE E2 74 38 = xE E 74 38 := xFr_E hfr rfl
      have e74_39 : xE E2 74 39 = xE E 74 39 := xFr_E hfr rfl
      have e74_40 : xE E2 74 40 = xE E 74 40 := xFr_E hfr rfl
      have e74_41 : xE E2 74 41 = xE E 74 41 := xFr_E hfr rfl
      have e74_42 : xE E2 74 42 = xE E 74 42 := xFr_E hfr rfl
      have q74_42 : xE E 74 42 = xE E0 74 42 := xFr_E hFr0 rfl
      have e75_0 : xE E2 75 0 = xE E 75 0 := xFr_E hfr rfl
      have q75_0 : xE E 75 0 = xE E0 75 0 := xFr_E hFr0 rfl
      have e75_1 : xE E2 75 1 = xE E 75 1 := xFr_E hfr rfl
      have q75_1 : xE E 75 1 = xE E0 75 1 := xFr_E hFr0 rfl
      have e75_2 : xE E2 75 2 = xE E 75 2 := xFr_E hfr rfl
      have e84 : ∀ i, xE E2 84 i = xE E 84 i := fun i => xFr_E hfr rfl
      have q84 : ∀ i, xE E 84 i = xE E0 84 i := fun i => xFr_E hFr0 rfl
      have e75 : ∀ i, xE E2 75 i = xE E 75 i := fun i => xFr_E hfr rfl
      have hI : E = E0 := hInv
      have q74_36 : xE E 74 36 = xE E0 74 36 := by rw [hI]
      have q74_37 : xE E 74 37 = xE E0 74 37 := by rw [hI]
      have q74_38 : xE E 74 38 = xE E0 74 38 := by rw [hI]
      have q74_39 : xE E 74 39 = xE E0 74 39 := by rw [hI]
      have q74_40 : xE E 74 40 = xE E0 74 40 := by rw [hI]
      have q74_41 : xE E 74 41 = xE E0 74 41 := by rw [hI]
      have q75_2 : xE E 75 2 = xE E0 75 2 := by rw [hI]
      have q75 : ∀ i, xE E 75 i = xE E0 75 i := fun i => by rw [hI]
      show xΨbb x0 E0 E2 0
      have hE := hI
      have h752 := q75 2
      obtain ⟨hP1, hP2, hP3, hP4, hP5, hP6⟩ := (show xΦbb x0 E0 from hΦ)
      unfold xΨbb
      intro p0 h0
      unfold pBobbin
      first
        | (exfalso; omega)
        | (rw [if_pos (by omega)]; exact xRs_e (xEr_n (by omega) (by omega) (by omega)))
    · have hx : x ∈ [zxfbb_br0, zxfbb_br1, zxfbb_br2, zxfbb_br3, zxfbb_br4, zxfbb_br5, zxfbb_br6] := hx
      have hag : ∀ k, k < 9 → v2 k = v k := hag
      have hfr : xFr [(74, 36, 37)] _ _ := hfr
      rcases List.mem_cons.mp hx with ex | hx
      · subst ex
        obtain ⟨hF, hBd, hM⟩ := hXs
        have g2 : v2 2 = v 2 := hag 2 (by decide)
        have g3 : v2 3 = v 3 := hag 3 (by decide)
        have g4 : v2 4 = v 4 := hag 4 (by decide)
        have g5 : v2 5 = v 5 := hag 5 (by decide)
        have g6 : v2 6 = v 6 := hag 6 (by decide)
        have g7 : v2 7 = v 7 := hag 7 (by decide)
        have g8 : v2 8 = v 8 := hag 8 (by decide)
        have b0 : ((2147483648 : Nat) : Int) ≤ (v2 2) + 2147483648 ∧ (v2 2) + 2147483648 ≤ ((2147483648 : Nat) : Int) := xXb hBd 0 rfl
        have b1 : ((2147483648 : Nat) : Int) ≤ (v2 4) + 2147483648 ∧ (v2 4) + 2147483648 ≤ ((2147484548 : Nat) : Int) := xXb hBd 1 rfl
        have b2 : ((2147483651 : Nat) : Int) ≤ (v2 5) + 2147483648 ∧ (v2 5) + 2147483648 ≤ ((2147483651 : Nat) : Int) := xXb hBd 2 rfl
        have b3 : ((2147483652 : Nat) : Int) ≤ (v2 6) + 2147483648 ∧ (v2 6) + 2147483648 ≤ ((2147484647 : Nat) : Int) := xXb hBd 3 rfl
        have b4 : ((2147483649 : Nat) : Int) ≤ (v2 7) + 2147483648 ∧ (v2 7) + 2147483648 ≤ ((2147483652 : Nat) : Int) := xXb hBd 4 rfl
        have b5 : ((2147483649 : Nat) : Int) ≤ (v2 8) + 2147483648 ∧ (v2 8) + 2147483648 ≤ ((2147483653 : Nat) : Int) := xXb hBd 5 rfl
        have b6 : ((2147483652 : Nat) : Int) ≤ (v2 9) + 2147483648 ∧ (v2 9) + 2147483648 ≤ ((2147483664 : Nat) : Int) := xXb hBd 6 rfl
        have b7 : ((2147483652 : Nat) : Int) ≤ (v2 10) + 2147483648 ∧ (v2 10) + 2147483648 ≤ ((2147483728 : Nat) : Int) := xXb hBd 7 rfl
        have k0 : xE E 74 36 = v 2 := xKcf hKc 0 rfl rfl
        have k1 : xE E 74 37 = v 3 := xKcf hKc 1 rfl rfl
        have k2 : xE E 74 38 = v 4 := xKcf hKc 2 rfl rfl
        have k3 : xE E 74 40 = v 5 := xKcf hKc 3 rfl rfl
        have k4 : xE E 74 41 = v 6 := xKcf hKc 4 rfl rfl
        have k5 : xE E 75 0 = v 7 := xKcf hKc 5 rfl rfl
        have k6 : xE E 75 1 = v 8 := xKcf hKc 6 rfl rfl
        have f0 : -2147483648 ≤ 4 * (v2 7) → 4 * (v2 7) < 2147483648 → (v2 9) = 4 * (v2 7) := xXf hF 0 rfl
        have f0 := f0 (by omega) (by omega)
        have f1 : -2147483648 ≤ (v2 9) * (v2 8) → (v2 9) * (v2 8) < 2147483648 → (v2 10) = (v2 9) * (v2 8) := xXf hF 1 rfl
        have f2 : ¬ (v2 5) = 2 := xXf hF 2 rfl
        have f3 : (v2 2) ≤ 0 := xXf hF 3 rfl
        have f4 : ¬ (v2 5) = 4 := xXf hF 4 rfl
        have f5 : 0 ≤ (v2 6) := xXf hF 5 rfl
        have f6 : (v2 10 + (-1)) < (v2 6) := xXf hF 6 rfl
        have m0 : xE E2 74 36 = 2 := xXm hM 0 rfl
        have m1 : xE E2 74 37 = (v2 4) := xXm hM 1 rfl
        have e74_38 : xE E2 74 38 = xE E 74 38 := xFr_E hfr rfl
        have e74_39 : xE E2 74 39 = xE E 74 39 := xFr_E hfr rfl
        have e74_40 : xE E2 74 40 = xE E 74 40 := xFr_E hfr rfl
        have e74_41 : xE E2 74 41 = xE E 74 41 := xFr_E hfr rfl
        have e74_42 : xE E2 74 42 = xE E 74 42 := xFr_E hfr rfl
        have q74_42 : xE E 74 42 = xE E0 74 42 := xFr_E hFr0 rfl
        have e75_0 : xE E2 75 0 = xE E 75 0 := xFr_E hfr rfl
        have q75_0 : xE E 75 0 = xE E0 75 0 := xFr_E hFr0 rfl
        have e75_1 : xE E2 75 1 = xE E 75 1 := xFr_E hfr rfl
        have q75_1 : xE E 75 1 = xE E0 75 1 := xFr_E hFr0 rfl
        have e75_2 : xE E2 75 2 = xE E 75 2 := xFr_E hfr rfl
        have e84 : ∀ i, xE E2 84 i = xE E 84 i := fun i => xFr_E hfr rfl
        have q84 : ∀ i, xE E 84 i = xE E0 84 i := fun i => xFr_E hFr0 rfl
        have e75 : ∀ i, xE E2 75 i = xE E 75 i := fun i => xFr_E hfr rfl
        have hI : (¬ 8 ≤ xE E0 75 2) ∧ xE E 74 36 = 0 ∧ (∀ k, xE E 75 k = xE E0 75 k) ∧ ((xE E0 74 39)) ≤ (xE E0 74 42) ∧ xRD (xE E0 84) (xE E0 74 42) ((xE E0 74 39)) E := hInv
        show xΨbb x0 E0 E2 0
        obtain ⟨hnb, i1, hc, hp, hs⟩ := hI
        obtain ⟨hP1, hP2, hP3, hP4, hP5, hP6⟩ := (show xΦbb x0 E0 from hΦ)
        obtain ⟨s1, s1b, s2, s3, s4, s5, s6, s7, s8⟩ := xRD_i hs hp
        have h750 := hc 0
        have h751 := hc 1
        obtain ⟨w1, w2, w3⟩ := sN_of (r := xE E0 75 0) (c := (v2 8)) (A := (v2 9)) (by omega) (by omega) (by omega) f1
        rw [show (v2 8) = xE E0 75 1 by omega] at w1
        unfold xΨbb
        intro p0 h0
        unfold pBobbin
        rw [if_neg hnb]
        refine xRs_e ?_
        unfold pNum
        by_cases c3 : tKd (xE E0 84) (xE E0 74 42) (xE E0 74 39) = 3
        · rw [if_pos c3]
          have s6 := s6 c3
          first
            | (exfalso; omega)
            | (rw [if_neg (by omega)]; exact xEr_n (by omega) (by omega) (by omega))
        · rw [if_neg c3]
          unfold pMis
          by_cases c1 : tKd (xE E0 84) (xE E0 74 42) (xE E0 74 39) = 1
          · rw [if_pos c1]
            first
              | (exfalso; omega)
              | exact xEr_n (by omega) (by omega) (by omega)
          · rw [if_neg c1]
            first
              | (exfalso; omega)
              | exact xEr_n (by omega) (by omega) (by omega)
      · skip
        rcases List.mem_cons.mp hx with ex | hx
        · subst ex
          obtain ⟨hF, hBd, hM⟩ := hXs
          have g2 : v2 2 = v 2 := hag 2 (by decide)
          have g3 : v2 3 = v 3 := hag 3 (by decide)
          have g4 : v2 4 = v 4 := hag 4 (by decide)
          have g5 : v2 5 = v 5 := hag 5 (by decide)
          have g6 : v2 6 = v 6 := hag 6 (by decide)
          have g7 : v2 7 = v 7 := hag 7 (by decide)
          have g8 : v2 8 = v 8 := hag 8 (by decide)
          have b0 : ((2147483648 : Nat) : Int) ≤ (v2 2) + 2147483648 ∧ (v2 2) + 2147483648 ≤ ((2147483648 : Nat) : Int) := xXb hBd 0 rfl
          have b1 : ((2147483648 : Nat) : Int) ≤ (v2 4) + 2147483648 ∧ (v2 4) + 2147483648 ≤ ((2147484548 : Nat) : Int) := xXb hBd 1 rfl
          have b2 : ((2147483651 : Nat) : Int) ≤ (v2 5) + 2147483648 ∧ (v2 5) + 2147483648 ≤ ((2147483651 : Nat) : Int) := xXb hBd 2 rfl
          have b3 : ((2147483648 : Nat) : Int) ≤ (v2 6) + 2147483648 ∧ (v2 6) + 2147483648 ≤ ((2147483727 : Nat) : Int) := xXb hBd 3 rfl
          have b4 : ((2147483649 : Nat) : Int) ≤ (v2 7) + 2147483648 ∧ (v2 7) + 2147483648 ≤ ((2147483652 : Nat) : Int) := xXb hBd 4 rfl
          have b5 : ((2147483649 : Nat) : Int) ≤ (v2 8) + 2147483648 ∧ (v2 8) + 2147483648 ≤ ((2147483653 : Nat) : Int) := xXb hBd 5 rfl
          have b6 : ((2147483652 : Nat) : Int) ≤ (v2 9) + 2147483648 ∧ (v2 9) + 2147483648 ≤ ((2147483664 : Nat) : Int) := xXb hBd 6 rfl
          have b7 : ((2147483652 : Nat) : Int) ≤ (v2 10) + 2147483648 ∧ (v2 10) + 2147483648 ≤ ((2147483728 : Nat) : Int) := xXb hBd 7 rfl
          have k0 : xE E 74 36 = v 2 := xKcf hKc 0 rfl rfl
          have k1 : xE E 74 37 = v 3 := xKcf hKc 1 rfl rfl
          have k2 : xE E 74 38 = v 4 := xKcf hKc 2 rfl rfl
          have k3 : xE E 74 40 = v 5 := xKcf hKc 3 rfl rfl
          have k4 : xE E 74 41 = v 6 := xKcf hKc 4 rfl rfl
          have k5 : xE E 75 0 = v 7 := xKcf hKc 5 rfl rfl
          have k6 : xE E 75 1 = v 8 := xKcf hKc 6 rfl rfl
          have f0 : -2147483648 ≤ 4 * (v2 7) → 4 * (v2 7) < 2147483648 → (v2 9) = 4 * (v2 7) := xXf hF 0 rfl
          have f0 := f0 (by omega) (by omega)
          have f1 : -2147483648 ≤ (v2 9) * (v2 8) → (v2 9) * (v2 8) < 2147483648 → (v2 10) = (v2 9) * (v2 8) := xXf hF 1 rfl
          have f2 : ¬ (v2 5) = 2 := xXf hF 2 rfl
          have f3 : (v2 2) ≤ 0 := xXf hF 3 rfl
          have f4 : ¬ (v2 5) = 4 := xXf hF 4 rfl
          have f5 : 0 ≤ (v2 6) := xXf hF 5 rfl
          have f6 : (v2 6) ≤ (v2 10 + (-1)) := xXf hF 6 rfl
          have m0 : xE E2 74 36 = 2 := xXm hM 0 rfl
          have m1 : xE E2 74 37 = (v2 4) := xXm hM 1 rfl
          have e74_38 : xE E2 74 38 = xE E 74 38 := xFr_E hfr rfl
          have e74_39 : xE E2 74 39 = xE E 74 39 := xFr_E hfr rfl
          have e74_40 : xE E2 74 40 = xE E 74 40 := xFr_E hfr rfl
          have e74_41 : xE E2 74 41 = xE E 74 41 := xFr_E hfr rfl
          have e74_42 : xE E2 74 42 = xE E 74 42 := xFr_E hfr rfl
          have q74_42 : xE E 74 42 = xE E0 74 42 := xFr_E hFr0 rfl
          have e75_0 : xE E2 75 0 = xE E 75 0 := xFr_E hfr rfl
          have q75_0 : xE E 75 0 = xE E0 75 0 := xFr_E hFr0 rfl
          have e75_1 : xE E2 75 1 = xE E 75 1 := xFr_E hfr rfl
          have q75_1 : xE E 75 1 = xE E0 75 1 := xFr_E hFr0 rfl
          have e75_2 : xE E2 75 2 = xE E 75 2 := xFr_E hfr rfl
          have e84 : ∀ i, xE E2 84 i = xE E 84 i := fun i => xFr_E hfr rfl
          have q84 : ∀ i, xE E 84 i = xE E0 84 i := fun i => xFr_E hFr0 rfl
          have e75 : ∀ i, xE E2 75 i = xE E 75 i := fun i => xFr_E hfr rfl
          have hI : (¬ 8 ≤ xE E0 75 2) ∧ xE E 74 36 = 0 ∧ (∀ k, xE E 75 k = xE E0 75 k) ∧ ((xE E0 74 39)) ≤ (xE E0 74 42) ∧ xRD (xE E0 84) (xE E0 74 42) ((xE E0 74 39)) E := hInv
          show xΨbb x0 E0 E2 0
          obtain ⟨hnb, i1, hc, hp, hs⟩ := hI
          obtain ⟨hP1, hP2, hP3, hP4, hP5, hP6⟩ := (show xΦbb x0 E0 from hΦ)
          obtain ⟨s1, s1b, s2, s3, s4, s5, s6, s7, s8⟩ := xRD_i hs hp
          have h750 := hc 0
          have h751 := hc 1
          obtain ⟨w1, w2, w3⟩ := sN_of (r := xE E0 75 0) (c := (v2 8)) (A := (v2 9)) (by omega) (by omega) (by omega) f1
          rw [show (v2 8) = xE E0 75 1 by omega] at w1
          unfold xΨbb
          intro p0 h0
          unfold pBobbin
          rw [if_neg hnb]
          refine xRs_e ?_
          unfold pNum
          by_cases c3 : tKd (xE E0 84) (xE E0 74 42) (xE E0 74 39) = 3
          · rw [if_pos c3]
            have s6 := s6 c3
            first
              | (exfalso; omega)
              | (rw [if_neg (by omega)]; exact xEr_n (by omega) (by omega) (by omega))
          · rw [if_neg c3]
            unfold pMis
            by_cases c1 : tKd (xE E0 84) (xE E0 74 42) (xE E0 74 39) = 1
            · rw [if_pos c1]
              first
                | (exfalso; omega)
                | exact xEr_n (by omega) (by omega) (by omega)
            · rw [if_neg c1]
              first
                | (exfalso; omega)
                | exact xEr_n (by omega) (by omega) (by omega)
        · skip
          rcases List.mem_cons.mp hx with ex | hx
          · subst ex
            obtain ⟨hF, hBd, hM⟩ := hXs
            have g2 : v2 2 = v 2 := hag 2 (by decide)
            have g3 : v2 3 = v 3 := hag 3 (by decide)
            have g4 : v2 4 = v 4 := hag 4 (by decide)
            have g5 : v2 5 = v 5 := hag 5 (by decide)
            have g6 : v2 6 = v 6 := hag 6 (by decide)
            have g7 : v2 7 = v 7 := hag 7 (by decide)
            have g8 : v2 8 = v 8 := hag 8 (by decide)
            have b0 : ((2147483648 : Nat) : Int) ≤ (v2 2) + 2147483648 ∧ (v2 2) + 2147483648 ≤ ((2147483648 : Nat) : Int) := xXb hBd 0 rfl
            have b1 : ((2147483648 : Nat) : Int) ≤ (v2 4) + 2147483648 ∧ (v2 4) + 2147483648 ≤ ((2147484548 : Nat) : Int) := xXb hBd 1 rfl
            have b2 : ((2147483652 : Nat) : Int) ≤ (v2 5) + 2147483648 ∧ (v2 5) + 2147483648 ≤ ((2147483652 : Nat) : Int) := xXb hBd 2 rfl
            have b3 : ((2147483652 : Nat) : Int) ≤ (v2 6) + 2147483648 ∧ (v2 6) + 2147483648 ≤ ((2147484647 : Nat) : Int) := xXb hBd 3 rfl
            have b4 : ((2147483649 : Nat) : Int) ≤ (v2 7) + 2147483648 ∧ (v2 7) + 2147483648 ≤ ((2147483652 : Nat) : Int) := xXb hBd 4 rfl
            have b5 : ((2147483649 : Nat) : Int) ≤ (v2 8) + 2147483648 ∧ (v2 8) + 2147483648 ≤ ((2147483653 : Nat) : Int) := xXb hBd 5 rfl
            have b6 : ((2147483652 : Nat) : Int) ≤ (v2 9) + 2147483648 ∧ (v2 9) + 2147483648 ≤ ((2147483664 : Nat) : Int) := xXb hBd 6 rfl
            have b7 : ((2147483652 : Nat) : Int) ≤ (v2 10) + 2147483648 ∧ (v2 10) + 2147483648 ≤ ((2147483728 : Nat) : Int) := xXb hBd 7 rfl
            have k0 : xE E 74 36 = v 2 := xKcf hKc 0 rfl rfl
            have k1 : xE E 74 37 = v 3 := xKcf hKc 1 rfl rfl
            have k2 : xE E 74 38 = v 4 := xKcf hKc 2 rfl rfl
            have k3 : xE E 74 40 = v 5 := xKcf hKc 3 rfl rfl
            have k4 : xE E 74 41 = v 6 := xKcf hKc 4 rfl rfl
            have k5 : xE E 75 0 = v 7 := xKcf hKc 5 rfl rfl
            have k6 : xE E 75 1 = v 8 := xKcf hKc 6 rfl rfl
            have f0 : -2147483648 ≤ 4 * (v2 7) → 4 * (v2 7) < 2147483648 → (v2 9) = 4 * (v2 7) := xXf hF 0 rfl
            have f0 := f0 (by omega) (by omega)
            have f1 : -2147483648 ≤ (v2 9) * (v2 8) → (v2 9) * (v2 8) < 2147483648 → (v2 10) = (v2 9) * (v2 8) := xXf hF 1 rfl
            have f2 : ¬ (v2 5) = 2 := xXf hF 2 rfl
            have f3 : (v2 2) ≤ 0 := xXf hF 3 rfl
            have f4 : (v2 5) = 4 := xXf hF 4 rfl
            have f5 : 0 ≤ (v2 6) := xXf hF 5 rfl
            have f6 : (v2 10 + (-1)) < (v2 6) := xXf hF 6 rfl
            have m0 : xE E2 74 36 = 1 := xXm hM 0 rfl
            have m1 : xE E2 74 37 = (v2 4) := xXm hM 1 rfl
            have e74_38 : xE E2 74 38 = xE E 74 38 := xFr_E hfr rfl
            have e74_39 : xE E2 74 39 = xE E 74 39 := xFr_E hfr rfl
            have e74_40 : xE E2 74 40 = xE E 74 40 := xFr_E hfr rfl
            have e74_41 : xE E2 74 41 = xE E 74 41 := xFr_E hfr rfl
            have e74_42 : xE E2 74 42 = xE E 74 42 := xFr_E hfr rfl
            have q74_42 : xE E 74 42 = xE E0 74 42 := xFr_E hFr0 rfl
            have e75_0 : xE E2 75 0 = xE E 75 0 := xFr_E hfr rfl
            have q75_0 : xE E 75 0 = xE E0 75 0 := xFr_E hFr0 rfl
            have e75_1 : xE E2 75 1 = xE E 75 1 := xFr_E hfr rfl
            have q75_1 : xE E 75 1 = xE E0 75 1 := xFr_E hFr0 rfl
            have e75_2 : xE E2 75 2 = xE E 75 2 := xFr_E hfr rfl
            have e84 : ∀ i, xE E2 84 i = xE E 84 i := fun i => xFr_E hfr rfl
            have q84 : ∀ i, xE E 84 i = xE E0 84 i := fun i => xFr_E hFr0 rfl
            have e75 : ∀ i, xE E2 75 i = xE E 75 i := fun i => xFr_E hfr rfl
            have hI : (¬ 8 ≤ xE E0 75 2) ∧ xE E 74 36 = 0 ∧ (∀ k, xE E 75 k = xE E0 75 k) ∧ ((xE E0 74 39)) ≤ (xE E0 74 42) ∧ xRD (xE E0 84) (xE E0 74 42) ((xE E0 74 39)) E := hInv
            show xΨbb x0 E0 E2 0
            obtain ⟨hnb, i1, hc, hp, hs⟩ := hI
            obtain ⟨hP1, hP2, hP3, hP4, hP5, hP6⟩ := (show xΦbb x0 E0 from hΦ)
            obtain ⟨s1, s1b, s2, s3, s4, s5, s6, s7, s8⟩ := xRD_i hs hp
            have h750 := hc 0
            have h751 := hc 1
            obtain ⟨w1, w2, w3⟩ := sN_of (r := xE E0 75 0) (c := (v2 8)) (A := (v2 9)) (by omega) (by omega) (by omega) f1
            rw [show (v2 8) = xE E0 75 1 by omega] at w1
            unfold xΨbb
            intro p0 h0
            unfold pBobbin
            rw [if_neg hnb]
            refine xRs_e ?_
            unfold pNum
            by_cases c3 : tKd (xE E0 84) (xE E0 74 42) (xE E0 74 39) = 3
            · rw [if_pos c3]
              have s6 := s6 c3
              first
                | (exfalso; omega)
                | (rw [if_neg (by omega)]; exact xEr_n (by omega) (by omega) (by omega))
            · rw [if_neg c3]
              unfold pMis
              by_cases c1 : tKd (xE E0 84) (xE E0 74 42) (xE E0 74 39) = 1
              · rw [if_pos c1]
                first
                  | (exfalso; omega)
                  | exact xEr_n (by omega) (by omega) (by omega)
              · rw [if_neg c1]
                first
                  | (exfalso; omega)
                  | exact xEr_n (by omega) (by omega) (by omega)
          · skip
            rcases List.mem_cons.mp hx with ex | hx
            · subst ex
              obtain ⟨hF, hBd, hM⟩ := hXs
              have g2 : v2 2 = v 2 := hag 2 (by decide)
              have g3 : v2 3 = v 3 := hag 3 (by decide)
              have g4 : v2 4 = v 4 := hag 4 (by decide)
              have g5 : v2 5 = v 5 := hag 5 (by decide)
              have g6 : v2 6 = v 6 := hag 6 (by decide)
              have g7 : v2 7 = v 7 := hag 7 (by decide)
              have g8 : v2 8 = v 8 := hag 8 (by decide)
              have b0 : ((2147483648 : Nat) : Int) ≤ (v2 2) + 2147483648 ∧ (v2 2) + 2147483648 ≤ ((2147483648 : Nat) : Int) := xXb hBd 0 rfl
              have b1 : ((2147483648 : Nat) : Int) ≤ (v2 4) + 2147483648 ∧ (v2 4) + 2147483648 ≤ ((2147484548 : Nat) : Int) := xXb hBd 1 rfl
              have b2 : ((2147483652 : Nat) : Int) ≤ (v2 5) + 2147483648 ∧ (v2 5) + 2147483648 ≤ ((2147483652 : Nat) : Int) := xXb hBd 2 rfl
              have b3 : ((2147483648 : Nat) : Int) ≤ (v2 6) + 2147483648 ∧ (v2 6) + 2147483648 ≤ ((2147483727 : Nat) : Int) := xXb hBd 3 rfl
              have b4 : ((2147483649 : Nat) : Int) ≤ (v2 7) + 2147483648 ∧ (v2 7) + 2147483648 ≤ ((2147483652 : Nat) : Int) := xXb hBd 4 rfl
              have b5 : ((2147483649 : Nat) : Int) ≤ (v2 8) + 2147483648 ∧ (v2 8) + 2147483648 ≤ ((2147483653 : Nat) : Int) := xXb hBd 5 rfl
              have b6 : ((2147483652 : Nat) : Int) ≤ (v2 9) + 2147483648 ∧ (v2 9) + 2147483648 ≤ ((2147483664 : Nat) : Int) := xXb hBd 6 rfl
              have b7 : ((2147483652 : Nat) : Int) ≤ (v2 10) + 2147483648 ∧ (v2 10) + 2147483648 ≤ ((2147483728 : Nat) : Int) := xXb hBd 7 rfl
              have k0 : xE E 74 36 = v 2 := xKcf hKc 0 rfl rfl
              have k1 : xE E 74 37 = v 3 := xKcf hKc 1 rfl rfl
              have k2 : xE E 74 38 = v 4 := xKcf hKc 2 rfl rfl
              have k3 : xE E 74 40 = v 5 := xKcf hKc 3 rfl rfl
              have k4 : xE E 74 41 = v 6 := xKcf hKc 4 rfl rfl
              have k5 : xE E 75 0 = v 7 := xKcf hKc 5 rfl rfl
              have k6 : xE E 75 1 = v 8 := xKcf hKc 6 rfl rfl
              have f0 : -2147483648 ≤ 4 * (v2 7) → 4 * (v2 7) < 2147483648 → (v2 9) = 4 * (v2 7) := xXf hF 0 rfl
              have f0 := f0 (by omega) (by omega)
              have f1 : -2147483648 ≤ (v2 9) * (v2 8) → (v2 9) * (v2 8) < 2147483648 → (v2 10) = (v2 9) * (v2 8) := xXf hF 1 rfl
              have f2 : ¬ (v2 5) = 2 := xXf hF 2 rfl
              have f3 : (v2 2) ≤ 0 := xXf hF 3 rfl
              have f4 : (v2 5) = 4 := xXf hF 4 rfl
              have f5 : 0 ≤ (v2 6) := xXf hF 5 rfl
              have f6 : (v2 6) ≤ (v2 10 + (-1)) := xXf hF 6 rfl
              have m0 : xE E2 74 36 = 1 := xXm hM 0 rfl
              have m1 : xE E2 74 37 = (v2 4) := xXm hM 1 rfl
              have e74_38 : xE E2 74 38 = xE E 74 38 := xFr_E hfr rfl
              have e74_39 : xE E2 74 39 = xE E 74 39 := xFr_E hfr rfl
              have e74_40 : xE E2 74 40 = xE E 74 40 := xFr_E hfr rfl
              have e74_41 : xE E2 74 41 = xE E 74 41 := xFr_E hfr rfl
              have e74_42 : xE E2 74 42 = xE E 74 42 := xFr_E hfr rfl
              have q74_42 : xE E 74 42 = xE E0 74 42 := xFr_E hFr0 rfl
              have e75_0 : xE E2 75 0 = xE E 75 0 := xFr_E hfr rfl
              have q75_0 : xE E 75 0 = xE E0 75 0 := xFr_E hFr0 rfl
              have e75_1 : xE E2 75 1 = xE E 75 1 := xFr_E hfr rfl
              have q75_1 : xE E 75 1 = xE E0 75 1 := xFr_E hFr0 rfl
              have e75_2 : xE E2 75 2 = xE E 75 2 := xFr_E hfr rfl
              have e84 : ∀ i, xE E2 84 i = xE E 84 i := fun i => xFr_E hfr rfl
              have q84 : ∀ i, xE E 84 i = xE E0 84 i := fun i => xFr_E hFr0 rfl
              have e75 : ∀ i, xE E2 75 i = xE E 75 i := fun i => xFr_E hfr rfl
              have hI : (¬ 8 ≤ xE E0 75 2) ∧ xE E 74 36 = 0 ∧ (∀ k, xE E 75 k = xE E0 75 k) ∧ ((xE E0 74 39)) ≤ (xE E0 74 42) ∧ xRD (xE E0 84) (xE E0 74 42) ((xE E0 74 39)) E := hInv
              show xΨbb x0 E0 E2 0
              obtain ⟨hnb, i1, hc, hp, hs⟩ := hI
              obtain ⟨hP1, hP2, hP3, hP4, hP5, hP6⟩ := (show xΦbb x0 E0 from hΦ)
              obtain ⟨s1, s1b, s2, s3, s4, s5, s6, s7, s8⟩ := xRD_i hs hp
              have h750 := hc 0
              have h751 := hc 1
              obtain ⟨w1, w2, w3⟩ := sN_of (r := xE E0 75 0) (c := (v2 8)) (A := (v2 9)) (by omega) (by omega) (by omega) f1
              rw [show (v2 8) = xE E0 75 1 by omega] at w1
              unfold xΨbb
              intro p0 h0
              unfold pBobbin
              rw [if_neg hnb]
              refine xRs_e ?_
              unfold pNum
              by_cases c3 : tKd (xE E0 84) (xE E0 74 42) (xE E0 74 39) = 3
              · rw [if_pos c3]
                have s6 := s6 c3
                first
                  | (exfalso; omega)
                  | (rw [if_neg (by omega)]; exact xEr_n (by omega) (by omega) (by omega))
              · rw [if_neg c3]
                unfold pMis
                by_cases c1 : tKd (xE E0 84) (xE E0 74 42) (xE E0 74 39) = 1
                · rw [if_pos c1]
                  first
                    | (exfalso; omega)
                    | exact xEr_n (by omega) (by omega) (by omega)
                · rw [if_neg c1]
                  first
                    | (exfalso; omega)
                    | exact xEr_n (by omega) (by omega) (by omega)
            · skip
              rcases List.mem_cons.mp hx with ex | hx
              · subst ex
                obtain ⟨hF, hBd, hM⟩ := hXs
                have g2 : v2 2 = v 2 := hag 2 (by decide)
                have g3 : v2 3 = v 3 := hag 3 (by decide)
                have g4 : v2 4 = v 4 := hag 4 (by decide)
                have g5 : v2 5 = v 5 := hag 5 (by decide)
                have g6 : v2 6 = v 6 := hag 6 (by decide)
                have g7 : v2 7 = v 7 := hag 7 (by decide)
                have g8 : v2 8 = v 8 := hag 8 (by decide)
                have b0 : ((2147483648 : Nat) : Int) ≤ (v2 2) + 2147483648 ∧ (v2 2) + 2147483648 ≤ ((2147483648 : Nat) : Int) := xXb hBd 0 rfl
                have b1 : ((2147483648 : Nat) : Int) ≤ (v2 4) + 2147483648 ∧ (v2 4) + 2147483648 ≤ ((2147484548 : Nat) : Int) := xXb hBd 1 rfl
                have b2 : ((2147483648 : Nat) : Int) ≤ (v2 5) + 2147483648 ∧ (v2 5) + 2147483648 ≤ ((2147483649 : Nat) : Int) := xXb hBd 2 rfl
                have b3 : ((2147483652 : Nat) : Int) ≤ (v2 6) + 2147483648 ∧ (v2 6) + 2147483648 ≤ ((2147484647 : Nat) : Int) := xXb hBd 3 rfl
                have b4 : ((2147483649 : Nat) : Int) ≤ (v2 7) + 2147483648 ∧ (v2 7) + 2147483648 ≤ ((2147483652 : Nat) : Int) := xXb hBd 4 rfl
                have b5 : ((2147483649 : Nat) : Int) ≤ (v2 8) + 2147483648 ∧ (v2 8) + 2147483648 ≤ ((2147483653 : Nat) : Int) := xXb hBd 5 rfl
                have b6 : ((2147483652 : Nat) : Int) ≤ (v2 9) + 2147483648 ∧ (v2 9) + 2147483648 ≤ ((2147483664 : Nat) : Int) := xXb hBd 6 rfl
                have b7 : ((2147483652 : Nat) : Int) ≤ (v2 10) + 2147483648 ∧ (v2 10) + 2147483648 ≤ ((2147483728 : Nat) : Int) := xXb hBd 7 rfl
                have k0 : xE E 74 36 = v 2 := xKcf hKc 0 rfl rfl
                have k1 : xE E 74 37 = v 3 := xKcf hKc 1 rfl rfl
                have k2 : xE E 74 38 = v 4 := xKcf hKc 2 rfl rfl
                have k3 : xE E 74 40 = v 5 := xKcf hKc 3 rfl rfl
                have k4 : xE E 74 41 = v 6 := xKcf hKc 4 rfl rfl
                have k5 : xE E 75 0 = v 7 := xKcf hKc 5 rfl rfl
                have k6 : xE E 75 1 = v 8 := xKcf hKc 6 rfl rfl
                have f0 : -2147483648 ≤ 4 * (v2 7) → 4 * (v2 7) < 2147483648 → (v2 9) = 4 * (v2 7) := xXf hF 0 rfl
                have f0 := f0 (by omega) (by omega)
                have f1 : -2147483648 ≤ (v2 9) * (v2 8) → (v2 9) * (v2 8) < 2147483648 → (v2 10) = (v2 9) * (v2 8) := xXf hF 1 rfl
                have f2 : ¬ (v2 5) = 2 := xXf hF 2 rfl
                have f3 : (v2 2) ≤ 0 := xXf hF 3 rfl
                have f4 : ¬ (v2 5) = 4 := xXf hF 4 rfl
                have f5 : 0 ≤ (v2 6) := xXf hF 5 rfl
                have f6 : (v2 10 + (-1)) < (v2 6) := xXf hF 6 rfl
                have m0 : xE E2 74 36 = 2 := xXm hM 0 rfl
                have m1 : xE E2 74 37 = (v2 4) := xXm hM 1 rfl
                have e74_38 : xE E2 74 38 = xE E 74 38 := xFr_E hfr rfl
                have e74_39 : xE E2 74 39 = xE E 74 39 := xFr_E hfr rfl
                have e74_40 : xE E2 74 40 = xE E 74 40 := xFr_E hfr rfl
                have e74_41 : xE E2 74 41 = xE E 74 41 := xFr_E hfr rfl
                have e74_42 : xE E2 74 42 = xE E 74 42 := xFr_E hfr rfl
                have q74_42 : xE E 74 42 = xE E0 74 42 := xFr_E hFr0 rfl
                have e75_0 : xE E2 75 0 = xE E 75 0 := xFr_E hfr rfl
                have q75_0 : xE E 75 0 = xE E0 75 0 := xFr_E hFr0 rfl
                have e75_1 : xE E2 75 1 = xE E 75 1 := xFr_E hfr rfl
                have q75_1 : xE E 75 1 = xE E0 75 1 := xFr_E hFr0 rfl
                have e75_2 : xE E2 75 2 = xE E 75 2 := xFr_E hfr rfl
                have e84 : ∀ i, xE E2 84 i = xE E 84 i := fun i => xFr_E hfr rfl
                have q84 : ∀ i, xE E 84 i = xE E0 84 i := fun i => xFr_E hFr0 rfl
                have e75 : ∀ i, xE E2 75 i = xE E 75 i := fun i => xFr_E hfr rfl
                have hI : (¬ 8 ≤ xE E0 75 2) ∧ xE E 74 36 = 0 ∧ (∀ k, xE E 75 k = xE E0 75 k) ∧ ((xE E0 74 39)) ≤ (xE E0 74 42) ∧ xRD (xE E0 84) (xE E0 74 42) ((xE E0 74 39)) E := hInv
                show xΨbb x0 E0 E2 0
                obtain ⟨hnb, i1, hc, hp, hs⟩ := hI
                obtain ⟨hP1, hP2, hP3, hP4, hP5, hP6⟩ := (show xΦbb x0 E0 from hΦ)
                obtain ⟨s1, s1b, s2, s3, s4, s5, s6, s7, s8⟩ := xRD_i hs hp
                have h750 := hc 0
                have h751 := hc 1
                obtain ⟨w1, w2, w3⟩ := sN_of (r := xE E0 75 0) (c := (v2 8)) (A := (v2 9)) (by omega) (by omega) (by omega) f1
                rw [show (v2 8) = xE E0 75 1 by omega] at w1
                unfold xΨbb
                intro p0 h0
                unfold pBobbin
                rw [if_neg hnb]
                refine xRs_e ?_
                unfold pNum
                by_cases c3 : tKd (xE E0 84) (xE E0 74 42) (xE E0 74 39) = 3
                · rw [if_pos c3]
                  have s6 := s6 c3
                  first
                    | (exfalso; omega)
                    | (rw [if_neg (by omega)]; exact xEr_n (by omega) (by omega) (by omega))
                · rw [if_neg c3]
                  unfold pMis
                  by_cases c1 : tKd (xE E0 84) (xE E0 74 42) (xE E0 74 39) = 1
                  · rw [if_pos c1]
                    first
                      | (exfalso; omega)
                      | exact xEr_n (by omega) (by omega) (by omega)
                  · rw [if_neg c1]
                    first
                      | (exfalso; omega)
                      | exact xEr_n (by omega) (by omega) (by omega)
              · skip
                rcases List.mem_cons.mp hx with ex | hx
                · subst ex
                  obtain ⟨hF, hBd, hM⟩ := hXs
                  have g2 : v2 2 = v 2 := hag 2 (by decide)
                  have g3 : v2 3 = v 3 := hag 3 (by decide)
                  have g4 : v2 4 = v 4 := hag 4 (by decide)
                  have g5 : v2 5 = v 5 := hag 5 (by decide)
                  have g6 : v2 6 = v 6 := hag 6 (by decide)
                  have g7 : v2 7 = v 7 := hag 7 (by decide)
                  have g8 : v2 8 = v 8 := hag 8 (by decide)
                  have b0 : ((2147483648 : Nat) : Int) ≤ (v2 2) + 2147483648 ∧ (v2 2) + 2147483648 ≤ ((2147483648 : Nat) : Int) := xXb hBd 0 rfl
                  have b1 : ((2147483648 : Nat) : Int) ≤ (v2 4) + 2147483648 ∧ (v2 4) + 2147483648 ≤ ((2147484548 : Nat) : Int) := xXb hBd 1 rfl
                  have b2 : ((2147483648 : Nat) : Int) ≤ (v2 5) + 2147483648 ∧ (v2 5) + 2147483648 ≤ ((2147483649 : Nat) : Int) := xXb hBd 2 rfl
                  have b3 : ((2147483648 : Nat) : Int) ≤ (v2 6) + 2147483648 ∧ (v2 6) + 2147483648 ≤ ((2147483727 : Nat) : Int) := xXb hBd 3 rfl
                  have b4 : ((2147483649 : Nat) : Int) ≤ (v2 7) + 2147483648 ∧ (v2 7) + 2147483648 ≤ ((2147483652 : Nat) : Int) := xXb hBd 4 rfl
                  have b5 : ((2147483649 : Nat) : Int) ≤ (v2 8) + 2147483648 ∧ (v2 8) + 2147483648 ≤ ((2147483653 : Nat) : Int) := xXb hBd 5 rfl
                  have b6 : ((2147483652 : Nat) : Int) ≤ (v2 9) + 2147483648 ∧ (v2 9) + 2147483648 ≤ ((2147483664 : Nat) : Int) := xXb hBd 6 rfl
                  have b7 : ((2147483652 : Nat) : Int) ≤ (v2 10) + 2147483648 ∧ (v2 10) + 2147483648 ≤ ((2147483728 : Nat) : Int) := xXb hBd 7 rfl
                  have k0 : xE E 74 36 = v 2 := xKcf hKc 0 rfl rfl
                  have k1 : xE E 74 37 = v 3 := xKcf hKc 1 rfl rfl
                  have k2 : xE E 74 38 = v 4 := xKcf hKc 2 rfl rfl
                  have k3 : xE E 74 40 = v 5 := xKcf hKc 3 rfl rfl
                  have k4 : xE E 74 41 = v 6 := xKcf hKc 4 rfl rfl
                  have k5 : xE E 75 0 = v 7 := xKcf hKc 5 rfl rfl
                  have k6 : xE E 75 1 = v 8 := xKcf hKc 6 rfl rfl
                  have f0 : -2147483648 ≤ 4 * (v2 7) → 4 * (v2 7) < 2147483648 → (v2 9) = 4 * (v2 7) := xXf hF 0 rfl
                  have f0 := f0 (by omega) (by omega)
                  have f1 : -2147483648 ≤ (v2 9) * (v2 8) → (v2 9) * (v2 8) < 2147483648 → (v2 10) = (v2 9) * (v2 8) := xXf hF 1 rfl
                  have f2 : ¬ (v2 5) = 2 := xXf hF 2 rfl
                  have f3 : (v2 2) ≤ 0 := xXf hF 3 rfl
                  have f4 : ¬ (v2 5) = 4 := xXf hF 4 rfl
                  have f5 : 0 ≤ (v2 6) := xXf hF 5 rfl
                  have f6 : (v2 6) ≤ (v2 10 + (-1)) := xXf hF 6 rfl
                  have m0 : xE E2 74 36 = 2 := xXm hM 0 rfl
                  have m1 : xE E2 74 37 = (v2 4) := xXm hM 1 rfl
                  have e74_38 : xE E2 74 38 = xE E 74 38 := xFr_E hfr rfl
                  have e74_39 : xE E2 74 39 = xE E 74 39 := xFr_E hfr rfl
                  have e74_40 : xE E2 74 40 = xE E 74 40 := xFr_E hfr rfl
                  have e74_41 : xE E2 74 41 = xE E 74 41 := xFr_E hfr rfl
                  have e74_42 : xE E2 74 42 = xE E 74 42 := xFr_E hfr rfl
                  have q74_42 : xE E 74 42 = xE E0 74 42 := xFr_E hFr0 rfl
                  have e75_0 : xE E2 75 0 = xE E 75 0 := xFr_E hfr rfl
                  have q75_0 : xE E 75 0 = xE E0 75 0 := xFr_E hFr0 rfl
                  have e75_1 : xE E2 75 1 = xE E 75 1 := xFr_E hfr rfl
                  have q75_1 : xE E 75 1 = xE E0 75 1 := xFr_E hFr0 rfl
                  have e75_2 : xE E2 75 2 = xE E 75 2 := xFr_E hfr rfl
                  have e84 : ∀ i, xE E2 84 i = xE E 84 i := fun i => xFr_E hfr rfl
                  have q84 : ∀ i, xE E 84 i = xE E0 84 i := fun i => xFr_E hFr0 rfl
                  have e75 : ∀ i, xE E2 75 i = xE E 75 i := fun i => xFr_E hfr rfl
                  have hI : (¬ 8 ≤ xE E0 75 2) ∧ xE E 74 36 = 0 ∧ (∀ k, xE E 75 k = xE E0 75 k) ∧ ((xE E0 74 39)) ≤ (xE E0 74 42) ∧ xRD (xE E0 84) (xE E0 74 42) ((xE E0 74 39)) E := hInv
                  show xΨbb x0 E0 E2 0
                  obtain ⟨hnb, i1, hc, hp, hs⟩ := hI
                  obtain ⟨hP1, hP2, hP3, hP4, hP5, hP6⟩ := (show xΦbb x0 E0 from hΦ)
                  obtain ⟨s1, s1b, s2, s3, s4, s5, s6, s7, s8⟩ := xRD_i hs hp
                  have h750 := hc 0
                  have h751 := hc 1
                  obtain ⟨w1, w2, w3⟩ := sN_of (r := xE E0 75 0) (c := (v2 8)) (A := (v2 9)) (by omega) (by omega) (by omega) f1
                  rw [show (v2 8) = xE E0 75 1 by omega] at w1
                  unfold xΨbb
                  intro p0 h0
                  unfold pBobbin
                  rw [if_neg hnb]
                  refine xRs_e ?_
                  unfold pNum
                  by_cases c3 : tKd (xE E0 84) (xE E0 74 42) (xE E0 74 39) = 3
                  · rw [if_pos c3]
                    have s6 := s6 c3
                    first
                      | (exfalso; omega)
                      | (rw [if_neg (by omega)]; exact xEr_n (by omega) (by omega) (by omega))
                  · rw [if_neg c3]
                    unfold pMis
                    by_cases c1 : tKd (xE E0 84) (xE E0 74 42) (xE E0 74 39) = 1
                    · rw [if_pos c1]
                      first
                        | (exfalso; omega)
                        | exact xEr_n (by omega) (by omega) (by omega)
                    · rw [if_neg c1]
                      first
                        | (exfalso; omega)
                        | exact xEr_n (by omega) (by omega) (by omega)
                · skip
                  have ex := List.mem_singleton.mp hx
                  subst ex
                  obtain ⟨hF, hBd, hM⟩ := hXs
                  have g2 : v2 2 = v 2 := hag 2 (by decide)
                  have g3 : v2 3 = v 3 := hag 3 (by decide)
                  have g4 : v2 4 = v 4 := hag 4 (by decide)
                  have g5 : v2 5 = v 5 := hag 5 (by decide)
                  have g6 : v2 6 = v 6 := hag 6 (by decide)
                  have g7 : v2 7 = v 7 := hag 7 (by decide)
                  have g8 : v2 8 = v 8 := hag 8 (by decide)
                  have b0 : ((2147483648 : Nat) : Int) ≤ (v2 2) + 2147483648 ∧ (v2 2) + 2147483648 ≤ ((2147483648 : Nat) : Int) := xXb hBd 0 rfl
                  have b1 : ((2147483648 : Nat) : Int) ≤ (v2 4) + 2147483648 ∧ (v2 4) + 2147483648 ≤ ((2147484548 : Nat) : Int) := xXb hBd 1 rfl
                  have b2 : ((2147483650 : Nat) : Int) ≤ (v2 5) + 2147483648 ∧ (v2 5) + 2147483648 ≤ ((2147483650 : Nat) : Int) := xXb hBd 2 rfl
                  have b3 : ((2147483652 : Nat) : Int) ≤ (v2 6) + 2147483648 ∧ (v2 6) + 2147483648 ≤ ((2147484647 : Nat) : Int) := xXb hBd 3 rfl
                  have b4 : ((2147483649 : Nat) : Int) ≤ (v2 7) + 2147483648 ∧ (v2 7) + 2147483648 ≤ ((2147483652 : Nat) : Int) := xXb hBd 4 rfl
                  have b5 : ((2147483649 : Nat) : Int) ≤ (v2 8) + 2147483648 ∧ (v2 8) + 2147483648 ≤ ((2147483653 : Nat) : Int) := xXb hBd 5 rfl
                  have b6 : ((2147483652 : Nat) : Int) ≤ (v2 9) + 2147483648 ∧ (v2 9) + 2147483648 ≤ ((2147483664 : Nat) : Int) := xXb hBd 6 rfl
                  have b7 : ((2147483652 : Nat) : Int) ≤ (v2 10) + 2147483648 ∧ (v2 10) + 2147483648 ≤ ((2147483728 : Nat) : Int) := xXb hBd 7 rfl
                  have k0 : xE E 74 36 = v 2 := xKcf hKc 0 rfl rfl
                  have k1 : xE E 74 37 = v 3 := xKcf hKc 1 rfl rfl
                  have k2 : xE E 74 38 = v 4 := xKcf hKc 2 rfl rfl
                  have k3 : xE E 74 40 = v 5 := xKcf hKc 3 rfl rfl
                  have k4 : xE E 74 41 = v 6 := xKcf hKc 4 rfl rfl
                  have k5 : xE E 75 0 = v 7 := xKcf hKc 5 rfl rfl
                  have k6 : xE E 75 1 = v 8 := xKcf hKc 6 rfl rfl
                  have f0 : -2147483648 ≤ 4 * (v2 7) → 4 * (v2 7) < 2147483648 → (v2 9) = 4 * (v2 7) := xXf hF 0 rfl
                  have f0 := f0 (by omega) (by omega)
                  have f1 : -2147483648 ≤ (v2 9) * (v2 8) → (v2 9) * (v2 8) < 2147483648 → (v2 10) = (v2 9) * (v2 8) := xXf hF 1 rfl
                  have f2 : (v2 5) = 2 := xXf hF 2 rfl
                  have f3 : 0 ≤ (v2 6) := xXf hF 3 rfl
                  have f4 : (v2 10 + (-1)) < (v2 6) := xXf hF 4 rfl
                  have f5 : (v2 2) ≤ 0 := xXf hF 5 rfl
                  have m0 : xE E2 74 36 = 3 := xXm hM 0 rfl
                  have m1 : xE E2 74 37 = (v2 4) := xXm hM 1 rfl
                  have e74_38 : xE E2 74 38 = xE E 74 38 := xFr_E hfr rfl
                  have e74_39 : xE E2 74 39 = xE E 74 39 := xFr_E hfr rfl
                  have e74_40 : xE E2 74 40 = xE E 74 40 := xFr_E hfr rfl
                  have e74_41 : xE E2 74 41 = xE E 74 41 := xFr_E hfr rfl
                  have e74_42 : xE E2 74 42 = xE E 74 42 := xFr_E hfr rfl
                  have q74_42 : xE E 74 42 = xE E0 74 42 := xFr_E hFr0 rfl
                  have e75_0 : xE E2 75 0 = xE E 75 0 := xFr_E hfr rfl
                  have q75_0 : xE E 75 0 = xE E0 75 0 := xFr_E hFr0 rfl
                  have e75_1 : xE E2 75 1 = xE E 75 1 := xFr_E hfr rfl
                  have q75_1 : xE E 75 1 = xE E0 75 1 := xFr_E hFr0 rfl
                  have e75_2 : xE E2 75 2 = xE E 75 2 := xFr_E hfr rfl
                  have e84 : ∀ i, xE E2 84 i = xE E 84 i := fun i => xFr_E hfr rfl
                  have q84 : ∀ i, xE E 84 i = xE E0 84 i := fun i => xFr_E hFr0 rfl
                  have e75 : ∀ i, xE E2 75 i = xE E 75 i := fun i => xFr_E hfr rfl
                  have hI : (¬ 8 ≤ xE E0 75 2) ∧ xE E 74 36 = 0 ∧ (∀ k, xE E 75 k = xE E0 75 k) ∧ ((xE E0 74 39)) ≤ (xE E0 74 42) ∧ xRD (xE E0 84) (xE E0 74 42) ((xE E0 74 39)) E := hInv
                  show xΨbb x0 E0 E2 0
                  obtain ⟨hnb, i1, hc, hp, hs⟩ := hI
                  obtain ⟨hP1, hP2, hP3, hP4, hP5, hP6⟩ := (show xΦbb x0 E0 from hΦ)
                  obtain ⟨s1, s1b, s2, s3, s4, s5, s6, s7, s8⟩ := xRD_i hs hp
                  have h750 := hc 0
                  have h751 := hc 1
                  obtain ⟨w1, w2, w3⟩ := sN_of (r := xE E0 75 0) (c := (v2 8)) (A := (v2 9)) (by omega) (by omega) (by omega) f1
                  rw [show (v2 8) = xE E0 75 1 by omega] at w1
                  unfold xΨbb
                  intro p0 h0
                  unfold pBobbin
                  rw [if_neg hnb]
                  refine xRs_e ?_
                  unfold pNum
                  by_cases c3 : tKd (xE E0 84) (xE E0 74 42) (xE E0 74 39) = 3
                  · rw [if_pos c3]
                    have s6 := s6 c3
                    first
                      | (exfalso; omega)
                      | (rw [if_neg (by omega)]; exact xEr_n (by omega) (by omega) (by omega))
                  · rw [if_neg c3]
                    unfold pMis
                    by_cases c1 : tKd (xE E0 84) (xE E0 74 42) (xE E0 74 39) = 1
                    · rw [if_pos c1]
                      first
                        | (exfalso; omega)
                        | exact xEr_n (by omega) (by omega) (by omega)
                    · rw [if_neg c1]
                      first
                        | (exfalso; omega)
                        | exact xEr_n (by omega) (by omega) (by omega)
    · have hx : x ∈ [zxfbb_cr0] := hx
      have hag : ∀ k, k < 8 → v2 k = v k := hag
      have hfr : xFr [(74, 36, 37)] _ _ := hfr
      have ex := List.mem_singleton.mp hx
      subst ex
      obtain ⟨hF, hBd, hM⟩ := hXs
      have g2 : v2 2 = v 2 := hag 2 (by decide)
      have g3 : v2 3 = v 3 := hag 3 (by decide)
      have g4 : v2 4 = v 4 := hag 4 (by decide)
      have g5 : v2 5 = v 5 := hag 5 (by decide)
      have g6 : v2 6 = v 6 := hag 6 (by decide)
      have g7 : v2 7 = v 7 := hag 7 (by decide)
      have b0 : ((2147483648 : Nat) : Int) ≤ (v2 2) + 2147483648 ∧ (v2 2) + 2147483648 ≤ ((2147483648 : Nat) : Int) := xXb hBd 0 rfl
      have b1 : ((2147483648 : Nat) : Int) ≤ (v2 4) + 2147483648 ∧ (v2 4) + 2147483648 ≤ ((2147484548 : Nat) : Int) := xXb hBd 1 rfl
      have b2 : ((2147483649 : Nat) : Int) ≤ (v2 7) + 2147483648 ∧ (v2 7) + 2147483648 ≤ ((2147483649 : Nat) : Int) := xXb hBd 2 rfl
      have k0 : xE E 74 36 = v 2 := xKcf hKc 0 rfl rfl
      have k1 : xE E 74 37 = v 3 := xKcf hKc 1 rfl rfl
      have k2 : xE E 74 38 = v 4 := xKcf hKc 2 rfl rfl
      have k3 : xE E 74 40 = v 5 := xKcf hKc 3 rfl rfl
      have k4 : xE E 74 41 = v 6 := xKcf hKc 4 rfl rfl
      have f0 : ¬ (v2 7) = 0 := xXf hF 0 rfl
      have f1 : (v2 2) ≤ 0 := xXf hF 1 rfl
      have m0 : xE E2 74 36 = 4 := xXm hM 0 rfl
      have m1 : xE E2 74 37 = (v2 4) := xXm hM 1 rfl
      have e74_38 : xE E2 74 38 = xE E 74 38 := xFr_E hfr rfl
      have e74_39 : xE E2 74 39 = xE E 74 39 := xFr_E hfr rfl
      have e74_40 : xE E2 74 40 = xE E 74 40 := xFr_E hfr rfl
      have e74_41 : xE E2 74 41 = xE E 74 41 := xFr_E hfr rfl
      have e74_42 : xE E2 74 42 = xE E 74 42 := xFr_E hfr rfl
      have q74_42 : xE E 74 42 = xE E0 74 42 := xFr_E hFr0 rfl
      have e75_0 : xE E2 75 0 = xE E 75 0 := xFr_E hfr rfl
      have q75_0 : xE E 75 0 = xE E0 75 0 := xFr_E hFr0 rfl
      have e75_1 : xE E2 75 1 = xE E 75 1 := xFr_E hfr rfl
      have q75_1 : xE E 75 1 = xE E0 75 1 := xFr_E hFr0 rfl
      have e75_2 : xE E2 75 2 = xE E 75 2 := xFr_E hfr rfl
      have e84 : ∀ i, xE E2 84 i = xE E 84 i := fun i => xFr_E hfr rfl
      have q84 : ∀ i, xE E 84 i = xE E0 84 i := fun i => xFr_E hFr0 rfl
      have e75 : ∀ i, xE E2 75 i = xE E 75 i := fun i => xFr_E hfr rfl
      have hI : (¬ 8 ≤ xE E0 75 2) ∧ xE E 74 36 = 0 ∧ (∀ k, xE E 75 k = xE E0 75 k) ∧ (((xE E0 74 39)) ≤ (xE E0 74 42) ∧ xRD (xE E0 84) (xE E0 74 42) ((xE E0 74 39)) E) ∧ tKd (xE E0 84) (xE E0 74 42) (xE E0 74 39) = 3 ∧ (0 ≤ tNm (xE E0 84) (xE E0 74 42) (xE E0 74 39) ∧ tNm (xE E0 84) (xE E0 74 42) (xE E0 74 39) < sN (xE E0 75 0) (xE E0 75 1)) ∧ (v 7) = (if pTak (xE E0 75) (tNm (xE E0 84) (xE E0 74 42) (xE E0 74 39)) (pF (xE E0 75 0) (xE E0 75 1) (tNm (xE E0 84) (xE E0 74 42) (xE E0 74 39))) (xE E0 75 2).toNat = true then 1 else 0) := hInv
      show xΨbb x0 E0 E2 0
      obtain ⟨hnb, i1, hc, ⟨hp, hs⟩, c3, hnd, hr⟩ := hI
      obtain ⟨hP1, hP2, hP3, hP4, hP5, hP6⟩ := (show xΦbb x0 E0 from hΦ)
      obtain ⟨s1, s1b, s2, s3, s4, s5, s6, s7, s8⟩ := xRD_i hs hp
      have s6 := s6 c3
      unfold xΨbb
      intro p0 h0
      unfold pBobbin
      rw [if_neg hnb]
      refine xRs_e ?_
      unfold pNum
      have hnd2 : 0 ≤ tNm (xE E0 84) (xE E0 74 42) (xE E0 74 39) ∧ tNm (xE E0 84) (xE E0 74 42) (xE E0 74 39) ≤ sN (xE E0 75 0) (xE E0 75 1) - 1 := by omega
      rw [if_pos c3, if_pos hnd2]
      dsimp only
      by_cases ct : pTak (xE E0 75) (tNm (xE E0 84) (xE E0 74 42) (xE E0 74 39)) (pF (xE E0 75 0) (xE E0 75 1) (tNm (xE E0 84) (xE E0 74 42) (xE E0 74 39))) (xE E0 75 2).toNat = true
      · rw [if_pos ct] at hr
        rw [if_pos ct]
        first
          | (exfalso; omega)
          | exact xEr_n (by omega) (by omega) (by omega)
      · rw [if_neg ct] at hr
        exfalso
        omega
    · cases hx
    · have hx : x ∈ [zxfbb_er0] := hx
      have hag : ∀ k, k < 3 → v2 k = v k := hag
      have hfr : xFr [] _ _ := hfr
      have ex := List.mem_singleton.mp hx
      subst ex
      obtain ⟨hF, hBd, hM⟩ := hXs
      have g2 : v2 2 = v 2 := hag 2 (by decide)
      have e74_36 : xE E2 74 36 = xE E 74 36 := xFr_E hfr rfl
      have e74_37 : xE E2 74 37 = xE E 74 37 := xFr_E hfr rfl
      have e74_38 : xE E2 74 38 = xE E 74 38 := xFr_E hfr rfl
      have e74_39 : xE E2 74 39 = xE E 74 39 := xFr_E hfr rfl
      have e74_40 : xE E2 74 40 = xE E 74 40 := xFr_E hfr rfl
      have e74_41 : xE E2 74 41 = xE E 74 41 := xFr_E hfr rfl
      have e74_42 : xE E2 74 42 = xE E 74 42 := xFr_E hfr rfl
      have q74_42 : xE E 74 42 = xE E0 74 42 := xFr_E hFr0 rfl
      have e75_0 : xE E2 75 0 = xE E 75 0 := xFr_E hfr rfl
      have q75_0 : xE E 75 0 = xE E0 75 0 := xFr_E hFr0 rfl
      have e75_1 : xE E2 75 1 = xE E 75 1 := xFr_E hfr rfl
      have q75_1 : xE E 75 1 = xE E0 75 1 := xFr_E hFr0 rfl
      have e75_2 : xE E2 75 2 = xE E 75 2 := xFr_E hfr rfl
      have e84 : ∀ i, xE E2 84 i = xE E 84 i := fun i => xFr_E hfr rfl
      have q84 : ∀ i, xE E 84 i = xE E0 84 i := fun i => xFr_E hFr0 rfl
      have e75 : ∀ i, xE E2 75 i = xE E 75 i := fun i => xFr_E hfr rfl
      have hI : (¬ 8 ≤ xE E0 75 2) ∧ xE E 74 36 = 0 ∧ (∀ k, 0 ≤ k → xE E 75 k = pNew (xE E0 75) (tNm (xE E0 84) (xE E0 74 42) (xE E0 74 39)) k) ∧ ((tNx (xE E0 84) (xE E0 74 42) (xE E0 74 39)) ≤ (xE E0 74 42) ∧ xRD (xE E0 84) (xE E0 74 42) (tNx (xE E0 84) (xE E0 74 42) (xE E0 74 39)) E) ∧ tKd (xE E0 84) (xE E0 74 42) (xE E0 74 39) = 3 ∧ (0 ≤ tNm (xE E0 84) (xE E0 74 42) (xE E0 74 39) ∧ tNm (xE E0 84) (xE E0 74 42) (xE E0 74 39) < sN (xE E0 75 0) (xE E0 75 1)) ∧ ¬ (pTak (xE E0 75) (tNm (xE E0 84) (xE E0 74 42) (xE E0 74 39)) (pF (xE E0 75 0) (xE E0 75 1) (tNm (xE E0 84) (xE E0 74 42) (xE E0 74 39))) (xE E0 75 2).toNat = true) := hInv
      show xΨbb x0 E0 E2 0
      obtain ⟨hnb, i1, hc, ⟨hp, hs⟩, c3, hnd, ct⟩ := hI
      have hEE : E2 = E := xFr_n hfr
      unfold xΨbb
      intro p0 h0
      unfold pBobbin pNum
      have hnd2 : 0 ≤ tNm (xE E0 84) (xE E0 74 42) (xE E0 74 39) ∧ tNm (xE E0 84) (xE E0 74 42) (xE E0 74 39) ≤ sN (xE E0 75 0) (xE E0 75 1) - 1 := by omega
      rw [if_neg hnb, if_pos c3, if_pos hnd2]
      dsimp only
      rw [if_neg ct, hEE]
      exact ⟨i1, hp, hs, fun k k0 _ => hc k k0⟩
end
