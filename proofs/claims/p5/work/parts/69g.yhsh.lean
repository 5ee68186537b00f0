/-! THE SIMPLE BRAIDS: what goes over from one to the one before -/
def zyrow (E : zyEm) (f : Nat) : Nat → Nat := fun p => zfv E (8 * f + p)
theorem zfv_rd {r c : Nat} {E : zyEm} (hT : zyTy (zymr r c) E) {x1 x2 v : Int32} {f k : Nat} (hfk : 8 * f + k < 10400) (f0 : x1 = Int32.ofNat 8 * Int32.ofNat f) (f1 : x2 = x1 + Int32.ofNat k) (f2 : ∃ n : Nat, x2 = Int32.ofNat n ∧ n < 2147483648 ∧ E 81 n = some (.int v)) : v = Int32.ofNat (zfv E (8 * f + k)) := by
  obtain ⟨n, g1, g2, g3⟩ := f2
  rw [f1, f0, zyOm, zyOa] at g1
  have e := zyOi (by omega) (by omega) g1
  subst e
  rw [(zfv_el hT hfk).1] at g3
  exact (Value.int.inj (Option.some.inj g3)).symm
theorem zyFp_ek {ρ : Nat → Int32} {E : zyEm} {v a : Nat} (j : Nat) (hj : j < 2147483648) (h : zyFp ρ E (24, v, a, 8 * j)) : E a j = some (.int (zyw ρ v)) := by
  obtain ⟨n, g1, g2, g3⟩ := zyFp_e h
  have e : zyw ρ (8 * j) = Int32.ofNat j := by
    unfold zyw
    rw [if_neg (by omega), show 8 * j / 8 = j by omega]
  rw [e] at g1
  rw [zyOi (by omega) (by omega) g1]
  exact g3
/-- nothing but two rows changes -/
def zyFs (a : Nat) (E E2 : zyEm) : Prop := ∀ a2 k2, ¬ (a2 = 81 ∧ 8 * a ≤ k2 ∧ k2 < 8 * a + 16) → E2 a2 k2 = E a2 k2
theorem zyFs_up {a i t : Nat} {E0 E E2 : zyEm} (h : zyFs a E0 E) (hu : zyUp E E2 i t) (h1 : 8 * a ≤ i) (h2 : i < 8 * a + 16) : zyFs a E0 E2 := fun a2 k2 hn => (hu.2 a2 k2 (fun q => hn ⟨q.1, by omega, by omega⟩)).trans (h a2 k2 hn)
def zyΦsh (as : List Int32) (E : zyEm) : Prop := ∃ a m : Nat, as = [Int32.ofNat a] ∧ a < 1299 ∧ m ≤ 8 ∧ E 74 21 = some (.int (Int32.ofNat m)) ∧ zPm (zyrow E a) m ∧ zPm (zyrow E (a + 1)) m
def zyΨsh (as : List Int32) (E E2 : zyEm) (vo : Option Value) : Prop := (∃ z : Int32, vo = some (.int z) ∧ (z = 0 ∨ z = 1)) ∧ ∀ a m : Nat, as = [Int32.ofNat a] → a < 1299 → m ≤ 8 → E 74 21 = some (.int (Int32.ofNat m)) → zyFs a E E2 ∧ zPm (zyrow E2 a) m ∧ zPm (zyrow E2 (a + 1)) m
/-- what holds at a phase; k the place -/
def zyIsh (i : Nat) (a m k : Nat) (E0 : zyEm) (ρ : Nat → Int32) (E : zyEm) : Prop := zyFs a E0 E ∧ ρ 1 = Int32.ofNat a ∧ (1 ≤ i → ρ 2 = Int32.ofNat (a + 1) ∧ ρ 4 = Int32.ofNat k) ∧ (¬ i = 5 → zPm (zyrow E a) m) ∧ (¬ i = 7 → zPm (zyrow E (a + 1)) m) ∧ (2 ≤ i → i ≤ 6 → k + 1 < m ∧ zyrow E (a + 1) (k + 1) < zyrow E (a + 1) k) ∧
  (i = 3 → ∃ p, ρ 8 = Int32.ofNat p ∧ p < m ∧ zyrow E a p = k) ∧ (i = 4 → ∃ p q, ρ 5 = Int32.ofNat p ∧ ρ 8 = Int32.ofNat q ∧ p < m ∧ q < m ∧ zyrow E a p = k ∧ zyrow E a q = k + 1) ∧
  (i = 5 → ∃ p q g, ρ 5 = Int32.ofNat p ∧ ρ 6 = Int32.ofNat q ∧ p < m ∧ q < m ∧ g p = k ∧ g q = k + 1 ∧ zPm g m ∧ ∀ j, j < 8 → zyrow E a j = if j = p then k + 1 else g j) ∧
  (i = 7 → ∃ h, ρ 7 = Int32.ofNat (h k) ∧ h k < 8 ∧ k + 1 < m ∧ h (k + 1) < h k ∧ zPm h m ∧ ∀ j, j < 8 → zyrow E (a + 1) j = if j = k then h (k + 1) else h j)
noncomputable def zyMsh (i : Nat) (m k : Nat) (h : Nat → Nat) : Nat := if i = 0 ∨ i = 8 then (zinv h m * 9 + 8) * 20 + 11 else (zinv h m * 9 + (8 - k)) * 20 + (11 - i)
noncomputable def zyMs2 (i : Nat) (E0 : zyEm) (ρ : Nat → Int32) (E : zyEm) : Nat := zyMsh i (zyN1 (zyI E0 74 21)) (zyN1 (ρ 4)) (fun j => if i = 7 ∧ j = zyN1 (ρ 4) then zyN1 (ρ 7) else zyrow E (zyN1 (ρ 1) + 1) j)
theorem zyMs2_eq {i a m k : Nat} {E0 E : zyEm} {ρ : Nat → Int32} (hm : E0 74 21 = some (.int (Int32.ofNat m))) (hm8 : m ≤ 8) (h1 : ρ 1 = Int32.ofNat a) (ha : a < 1299) (h4 : 1 ≤ i → ρ 4 = Int32.ofNat k ∧ k < 16) (h7 : ¬ i = 7) : zyMs2 i E0 ρ E = zyMsh i m k (zyrow E (a + 1)) := by
  have e1 : zyN1 (zyI E0 74 21) = m := by
    unfold zyI
    rw [hm]
    exact zyN1_of (by omega)
  have e2 : zyN1 (ρ 1) = a := by
    rw [h1]
    exact zyN1_of (by omega)
  unfold zyMs2
  rw [e1, e2]
  have e3 : (fun j => if i = 7 ∧ j = zyN1 (ρ 4) then zyN1 (ρ 7) else zyrow E (a + 1) j) = zyrow E (a + 1) := by
    funext j
    rw [if_neg (fun q => h7 q.1)]
  rw [e3]
  unfold zyMsh
  by_cases e : i = 0 ∨ i = 8
  · rw [if_pos e, if_pos e]
  · rw [if_neg e, if_neg e]
    obtain ⟨q1, q2⟩ := h4 (by omega)
    rw [q1, zyN1_of (by omega)]
theorem zyMs2_7 {a m k : Nat} {E0 E : zyEm} {ρ : Nat → Int32} {h : Nat → Nat} (hm : E0 74 21 = some (.int (Int32.ofNat m))) (hm8 : m ≤ 8) (h1 : ρ 1 = Int32.ofNat a) (ha : a < 1299) (h4 : ρ 4 = Int32.ofNat k) (hk : k < 16) (h7 : ρ 7 = Int32.ofNat (h k)) (h8 : h k < 8) (hh : ∀ j, j < 8 → zyrow E (a + 1) j = if j = k then h (k + 1) else h j) : zyMs2 7 E0 ρ E = zyMsh 7 m k h := by
  have e1 : zyN1 (zyI E0 74 21) = m := by
    unfold zyI
    rw [hm]
    exact zyN1_of (by omega)
  unfold zyMs2
  rw [e1, h1, h4, h7, zyN1_of (by omega), zyN1_of (by omega), zyN1_of (by omega)]
  unfold zyMsh
  rw [if_neg (by decide), if_neg (by decide)]
  rw [zinv_congr (g := h) (fun j hj => ?_)]
  by_cases e : j = k
  · rw [if_pos ⟨rfl, e⟩, e]
  · rw [if_neg (fun q => e q.2), hh j (by omega), if_neg e]
theorem zyMsh_e {i m k : Nat} {h : Nat → Nat} (hi : i = 0 ∨ i = 8) : zyMsh i m k h = (zinv h m * 9 + 8) * 20 + 11 := if_pos hi
theorem zyMsh_m {i m k : Nat} {h : Nat → Nat} (hi : ¬ (i = 0 ∨ i = 8)) : zyMsh i m k h = (zinv h m * 9 + (8 - k)) * 20 + (11 - i) := if_neg hi
theorem zysh_run : zyAllP (fun r c => zyrS (zymr r c) zxi233 (233, 0, 0, 2, 0) 4 zpsh (fun _ _ => []) zFsh zSsh zXsh zRsh 9) = true := by decide +kernel
theorem zyrow_up {E E2 : zyEm} {f p t g : Nat} (h : zyUp E E2 (8 * f + p) t) (ht : t < 8) (hp : p < 8) {j : Nat} (hj : j < 8) : zyrow E2 g j = if g = f ∧ j = p then t else zyrow E g j := by
  unfold zyrow
  rw [zyUp_v h ht]
  by_cases e : g = f ∧ j = p
  · rw [if_pos e, if_pos (by omega)]
  · rw [if_neg e, if_neg (by omega)]
theorem zyrow_lt {r c : Nat} {E : zyEm} (hT : zyTy (zymr r c) E) {f p : Nat} (h : 8 * f + p < 10400) : zyrow E f p < 8 := (zfv_el hT h).2
theorem zyshares {l : Launch} {r c : Nat} (h1 : 1 ≤ r) (h2 : r ≤ 4) (h3 : 1 ≤ c) (h4 : c ≤ 5) {en : zEn} {me : zMe} (hen : zG zxMeta 233 = some en) (hme : zG zMeth 233 = some me) : zyHc l (zymr r c) en me 4 1 zyΦsh zyΨsh := by
  have een : zG zxMeta 233 = some (zxi233, 2, 8, 11, 233, 0, 0, 2, 0) := rfl
  obtain ⟨me1, hme1, hOK⟩ := zall hen
  rw [hme] at hme1
  cases hme1
  rw [een] at hen
  cases hen
  have hr := zyAllP_iff zysh_run h1 h2 h3 h4
  obtain ⟨mecf, hmecf, -⟩ := zall (show zG zxMeta 229 = some (zxi229, 3, 4, 11, 229, 0, 0, 1, 0) from rfl)
  have hcf := zycomesFrom (l := l) h1 h2 h3 h4 (show zG zxMeta 229 = some (zxi229, 3, 4, 11, 229, 0, 0, 1, 0) from rfl) hmecf
  obtain ⟨meie, hmeie, -⟩ := zall (show zG zxMeta 230 = some (zxi230, 3, 3, 11, 230, 0, 0, 2, 0) from rfl)
  have hie := zyisEnded (l := l) h1 h2 h3 h4 (show zG zxMeta 230 = some (zxi230, 3, 3, 11, 230, 0, 0, 2, 0) from rfl) hmeie
  obtain ⟨mela, hmela, -⟩ := zall (show zG zxMeta 227 = some (zxi227, 4, 4, 11, 227, 0, 0, 0, 0) from rfl)
  have hla := zylays (l := l) h1 h2 h3 h4 (show zG zxMeta 227 = some (zxi227, 4, 4, 11, 227, 0, 0, 0, 0) from rfl) hmela
  refine zycutS (mi := zymr r c) hOK rfl rfl ⟨_, rfl, rfl⟩ (ι := Fin 9) (fun i => zpsh i.val) (fun _ _ => []) (fun i => zFsh i.val) (fun i => zSsh i.val) (fun i => zXsh i.val) (fun i => zRsh i.val) (fun i y2 ct en2 me2 h => by cases h) 200000 (fun i => zyAll_iff hr i.val i.isLt) ⟨0, by decide⟩ ⟨rfl, rfl, rfl, rfl⟩ ⟨by decide, by decide⟩
    (fun i as E0 ρ E => ∃ a m k : Nat, as = [Int32.ofNat a] ∧ a < 1299 ∧ m ≤ 8 ∧ E0 74 21 = some (.int (Int32.ofNat m)) ∧ k ≤ 7 ∧ zyIsh i.val a m k E0 ρ E) (fun i _ E0 ρ E => zyMs2 i.val E0 ρ E) ?_ ?_ ?_
  · intro as E hlen hT hΦ
    obtain ⟨a, m, rfl, b1, b2, b3, b4, b5⟩ := hΦ
    refine ⟨zEnv_c (zyfull _) (zEnv_c ?_ (zEnv_c (zyfull _) (zEnv_c (zyfull _) (zEnv_c (zyfull _) (zEnv_c (zyfull _) (zEnv_c (zyfull _) (zEnv_c (zyfull _) zEnv_nil))))))), a, m, 0, rfl, b1, b2, b3, Nat.zero_le _, fun _ _ _ => rfl, rfl, fun h => absurd (show 1 ≤ 0 from h) (by decide), fun _ => b4, fun _ => b5, fun h => absurd (show 2 ≤ 0 from h) (by decide), fun h => absurd (show 0 = 3 from h) (by decide), fun h => absurd (show 0 = 4 from h) (by decide), fun h => absurd (show 0 = 5 from h) (by decide), fun h => absurd (show 0 = 7 from h) (by decide)⟩
    show 2147483648 ≤ zB (Int32.ofNat a) ∧ zB (Int32.ofNat a) ≤ 2147484946
    rw [zyBn (by omega)]
    omega
  · intro as B s Wg hRu hT0 hΦ hlen i ρ H hT hInv hIH x hx ρ2 N2 H2 locs lsB stA hAt hXs hag hfr hT2
    rcases i with ⟨i, hi⟩
    have hi2 : i = 0 ∨ i = 1 ∨ i = 2 ∨ i = 3 ∨ i = 4 ∨ i = 5 ∨ i = 6 ∨ i = 7 ∨ i = 8 := by omega
    rcases hi2 with rfl | rfl | rfl | rfl | rfl | rfl | rfl | rfl | rfl
    · obtain ⟨a, m, k, has, ha, hm, hst, hk, hI⟩ := hInv
      obtain ⟨i1, i2, i3, i4, i5, i6, i7, i8, i9, i10⟩ := (show zyIsh 0 a m k (zyEl (zymr r c) B s.heap) ρ (zyEl (zymr r c) B H) from hI)
      have hEE : zyEl (zymr r c) B H2 = zyEl (zymr r c) B H := zyfr0 hfr
      obtain ⟨hF, hB, -⟩ := hXs
      have hg4 : ∀ k, k < 8 → ρ2 k = ρ k := hag
      have a1 : ρ2 1 = Int32.ofNat a := (hg4 1 (by decide)).trans i2
      have hx : x ∈ [zxsh_ax0] := hx
      have ex := List.mem_singleton.mp hx
      subst ex
      have b2 : ρ2 1 + Int32.ofNat 1 = Int32.ofNat (a + 1) := by rw [a1, zyOa]
      refine zyGoB hIH hAt hB ⟨1, by decide⟩ [595, 34359738369, 34359738377, 0, 0, 0, 0, 0] rfl rfl rfl rfl ⟨a, m, 0, has, ha, hm, hst, Nat.zero_le _, by rw [hEE]; exact i1, a1, fun _ => ⟨b2, rfl⟩, fun _ => by rw [hEE]; exact i4 (by decide), fun _ => by rw [hEE]; exact i5 (by decide), fun h => absurd (show 2 ≤ 1 from h) (by decide), fun h => absurd (show 1 = 3 from h) (by decide), fun h => absurd (show 1 = 4 from h) (by decide), fun h => absurd (show 1 = 5 from h) (by decide), fun h => absurd (show 1 = 7 from h) (by decide)⟩ ?_
      show zyMs2 1 _ _ _ < zyMs2 0 _ _ _
      refine Nat.lt_of_le_of_lt (Nat.le_of_eq (zyMs2_eq (i := 1) (a := a) (m := m) (k := 0) hst hm a1 ha (fun _ => ⟨rfl, by omega⟩) (by decide))) (Nat.lt_of_lt_of_eq ?_ (zyMs2_eq (i := 0) (a := a) (m := m) (k := 0) hst hm i2 ha (fun h => absurd h (by decide)) (by decide)).symm)
      rw [hEE, zyMsh_m (i := 1) (by decide), zyMsh_e (i := 0) (by decide)]
      omega
    · obtain ⟨a, m, k, has, ha, hm, hst, hk, hI⟩ := hInv
      obtain ⟨i1, i2, i3, i4, i5, i6, i7, i8, i9, i10⟩ := (show zyIsh 1 a m k (zyEl (zymr r c) B s.heap) ρ (zyEl (zymr r c) B H) from hI)
      have hEE : zyEl (zymr r c) B H2 = zyEl (zymr r c) B H := zyfr0 hfr
      obtain ⟨hF, hB, -⟩ := hXs
      have hg4 : ∀ k, k < 8 → ρ2 k = ρ k := hag
      have a1 : ρ2 1 = Int32.ofNat a := (hg4 1 (by decide)).trans i2
      have a2 : ρ2 2 = Int32.ofNat (a + 1) := (hg4 2 (by decide)).trans (i3 (show 1 ≤ 1 by decide)).1
      have a4 : ρ2 4 = Int32.ofNat k := (hg4 4 (by decide)).trans (i3 (show 1 ≤ 1 by decide)).2
      have hx : x ∈ [zxsh_bx0, zxsh_bx1] := hx
      have b4 : ρ2 4 + Int32.ofNat 1 = Int32.ofNat (k + 1) := by rw [a4, zyOa]
      have T1 : zyTy (zymr r c) (zyEl (zymr r c) B H) := hT
      have hms : zyEl (zymr r c) B H 74 21 = some (.int (Int32.ofNat m)) := (i1 74 21 (fun q => absurd q.1 (by decide))).trans hst
      rcases List.mem_cons.mp hx with ex | hx
      · subst ex
        obtain ⟨n0, w1, w2, w3⟩ := zyXe hF 0 rfl
        have w1 : Int32.ofNat 21 = Int32.ofNat n0 := w1
        have w3 : zyEl (zymr r c) B H 74 n0 = some (.int (ρ2 8)) := w3
        have g0 : zyEl (zymr r c) B H 74 21 = some (.int (ρ2 8)) := by rw [zyOi (by omega) (by omega) w1]; exact w3
        have em : ρ2 8 = Int32.ofNat m := by
          rw [hms] at g0
          exact (Value.int.inj (Option.some.inj g0)).symm
        have f1 := zyX20 hF 1 rfl
        have f1 : ρ2 4 + Int32.ofNat 1 < ρ2 8 := f1
        rw [b4, em, zyOl (by omega) (by omega)] at f1
        have w1 := zyXop hF 2 rfl (by decide)
        have w1 : ρ2 9 = Int32.ofNat 8 * ρ2 2 := w1
        have w2 := zyXop hF 3 rfl (by decide)
        have w2 : ρ2 10 = ρ2 9 + ρ2 4 := w2
        have v1 := zfv_rd T1 (f := a + 1) (k := k) (by omega) (w1.trans (by rw [a2])) (w2.trans (by rw [a4])) (zyXe hF 4 rfl)
        have w1 := zyXop hF 5 rfl (by decide)
        have w1 : ρ2 12 = Int32.ofNat 8 * ρ2 2 := w1
        have w2 := zyXop hF 6 rfl (by decide)
        have w2 : ρ2 13 = ρ2 12 + (ρ2 4 + Int32.ofNat 1) := w2
        have v2 := zfv_rd T1 (f := a + 1) (k := k + 1) (by omega) (w1.trans (by rw [a2])) (w2.trans (by rw [b4])) (zyXe hF 7 rfl)
        have v1 : ρ2 11 = Int32.ofNat (zyrow (zyEl (zymr r c) B H) (a + 1) k) := v1
        have v2 : ρ2 14 = Int32.ofNat (zyrow (zyEl (zymr r c) B H) (a + 1) (k + 1)) := v2
        have f8 := zyX20 hF 8 rfl
        have f8 : ρ2 14 < ρ2 11 := f8
        have l1 := zyrow_lt T1 (f := a + 1) (p := k) (by omega)
        have l2 := zyrow_lt T1 (f := a + 1) (p := k + 1) (by omega)
        rw [v1, v2, zyOl (by omega) (by omega)] at f8
        refine zyCa1 hRu hIH hAt hB hie (ix := 210) (ax := 3680) rfl rfl rfl hmeie ⟨rfl, rfl, rfl, rfl⟩ (by decide) [34359738369, 137438953473] rfl (by decide) rfl ⟨2, by decide⟩ [595, 34359738369, 68719476737, 103079215105, 137438953473, 0, 0, 0] [(0, 4294967295), (2147483648, 2147484946), (2147483649, 2147484947), (2147483648, 2147483649), (2147483648, 2147483654), (0, 4294967295), (0, 4294967295), (0, 4294967295)] 2147483648 2147483649 rfl (by decide) rfl rfl rfl rfl rfl ?_ ?_
        · show zyΦie [ρ2 1, ρ2 4] _
          rw [a1, a4, hEE]
          obtain ⟨p, q1, q2⟩ := (i4 (by decide) k (by omega)).2
          obtain ⟨p', q3, q4⟩ := (i4 (by decide) (k + 1) (by omega)).2
          exact ⟨a, k, rfl, by omega, by omega, ⟨p, by omega, q2⟩, p', by omega, q4⟩
        · intro E3 vo hT3 hΨ
          obtain ⟨e3, z, ez, hz⟩ := (show zyΨie [ρ2 1, ρ2 4] _ E3 vo from hΨ)
          rw [hEE] at e3
          subst e3
          refine ⟨z, ez, ?_, ?_, ⟨a, m, k, has, ha, hm, hst, hk, i1, (zyρi_n (by decide)).trans a1, fun _ => ⟨(zyρi_n (by decide)).trans a2, (zyρi_n (by decide)).trans a4⟩, fun _ => i4 (by decide), fun _ => i5 (by decide), fun _ _ => ⟨f1, f8⟩, fun h => absurd (show 2 = 3 from h) (by decide), fun h => absurd (show 2 = 4 from h) (by decide), fun h => absurd (show 2 = 5 from h) (by decide), fun h => absurd (show 2 = 7 from h) (by decide)⟩, ?_⟩
          · rcases hz with rfl | rfl <;> decide
          · rcases hz with rfl | rfl <;> decide
          · show zyMs2 2 _ _ _ < zyMs2 1 _ _ _
            refine Nat.lt_of_le_of_lt (Nat.le_of_eq (zyMs2_eq (i := 2) (a := a) (m := m) (k := k) hst hm ((zyρi_n (by decide)).trans a1) ha (fun _ => ⟨(zyρi_n (by decide)).trans a4, by omega⟩) (by decide))) (Nat.lt_of_lt_of_eq ?_ (zyMs2_eq (i := 1) (a := a) (m := m) (k := k) hst hm i2 ha (fun _ => ⟨(i3 (by decide)).2, by omega⟩) (by decide)).symm)
            rw [zyMsh_m (i := 2) (by decide), zyMsh_m (i := 1) (by decide)]
            omega
      · have ex := List.mem_singleton.mp hx
        subst ex
        have hk6 : k + 1 ≤ 7 := by
          have q : 2147483648 ≤ zB (ρ2 4) ∧ zB (ρ2 4) ≤ 2147483654 := zyXb hB 3 rfl
          rw [a4, zyBn (by omega)] at q
          omega
        refine zyGoB hIH hAt hB ⟨1, by decide⟩ [595, 34359738369, 68719476737, 103079215105, 137438953481, 0, 0, 0] rfl rfl rfl rfl ⟨a, m, k + 1, has, ha, hm, hst, hk6, by rw [hEE]; exact i1, a1, fun _ => ⟨a2, b4⟩, fun _ => by rw [hEE]; exact i4 (by decide), fun _ => by rw [hEE]; exact i5 (by decide), fun h => absurd (show 2 ≤ 1 from h) (by decide), fun h => absurd (show 1 = 3 from h) (by decide), fun h => absurd (show 1 = 4 from h) (by decide), fun h => absurd (show 1 = 5 from h) (by decide), fun h => absurd (show 1 = 7 from h) (by decide)⟩ ?_
        show zyMs2 1 _ _ _ < zyMs2 1 _ _ _
        refine Nat.lt_of_le_of_lt (Nat.le_of_eq (zyMs2_eq (i := 1) (a := a) (m := m) (k := k + 1) hst hm a1 ha (fun _ => ⟨b4, by omega⟩) (by decide))) (Nat.lt_of_lt_of_eq ?_ (zyMs2_eq (i := 1) (a := a) (m := m) (k := k) hst hm i2 ha (fun _ => ⟨(i3 (by decide)).2, by omega⟩) (by decide)).symm)
        rw [hEE, zyMsh_m (i := 1) (by decide), zyMsh_m (i := 1) (by decide)]
        omega
    · obtain ⟨a, m, k, has, ha, hm, hst, hk, hI⟩ := hInv
      obtain ⟨i1, i2, i3, i4, i5, i6, i7, i8, i9, i10⟩ := (show zyIsh 2 a m k (zyEl (zymr r c) B s.heap) ρ (zyEl (zymr r c) B H) from hI)
      have hEE : zyEl (zymr r c) B H2 = zyEl (zymr r c) B H := zyfr0 hfr
      obtain ⟨hF, hB, -⟩ := hXs
      have hg4 : ∀ k, k < 9 → ρ2 k = ρ k := hag
      have a1 : ρ2 1 = Int32.ofNat a := (hg4 1 (by decide)).trans i2
      have a2 : ρ2 2 = Int32.ofNat (a + 1) := (hg4 2 (by decide)).trans (i3 (show 1 ≤ 2 by decide)).1
      have a4 : ρ2 4 = Int32.ofNat k := (hg4 4 (by decide)).trans (i3 (show 1 ≤ 2 by decide)).2
      have hx : x ∈ [zxsh_cx0, zxsh_cx1] := hx
      have b4 : ρ2 4 + Int32.ofNat 1 = Int32.ofNat (k + 1) := by rw [a4, zyOa]
      obtain ⟨d1, d2⟩ := i6 (by decide) (by decide)
      have hk6 : k + 1 ≤ 7 := by omega
      rcases List.mem_cons.mp hx with ex | hx
      · subst ex
        refine zyGoB hIH hAt hB ⟨1, by decide⟩ [595, 34359738369, 68719476737, 103079215105, 137438953481, 0, 0, 0] rfl rfl rfl rfl ⟨a, m, k + 1, has, ha, hm, hst, hk6, by rw [hEE]; exact i1, a1, fun _ => ⟨a2, b4⟩, fun _ => by rw [hEE]; exact i4 (by decide), fun _ => by rw [hEE]; exact i5 (by decide), fun h => absurd (show 2 ≤ 1 from h) (by decide), fun h => absurd (show 1 = 3 from h) (by decide), fun h => absurd (show 1 = 4 from h) (by decide), fun h => absurd (show 1 = 5 from h) (by decide), fun h => absurd (show 1 = 7 from h) (by decide)⟩ ?_
        show zyMs2 1 _ _ _ < zyMs2 2 _ _ _
        refine Nat.lt_of_le_of_lt (Nat.le_of_eq (zyMs2_eq (i := 1) (a := a) (m := m) (k := k + 1) hst hm a1 ha (fun _ => ⟨b4, by omega⟩) (by decide))) (Nat.lt_of_lt_of_eq ?_ (zyMs2_eq (i := 2) (a := a) (m := m) (k := k) hst hm i2 ha (fun _ => ⟨(i3 (by decide)).2, by omega⟩) (by decide)).symm)
        rw [hEE, zyMsh_m (i := 1) (by decide), zyMsh_m (i := 2) (by decide)]
        omega
      · have ex := List.mem_singleton.mp hx
        subst ex
        refine zyCa1 hRu hIH hAt hB hcf (ix := 201) (ax := 3664) rfl rfl rfl hmecf ⟨rfl, rfl, rfl, rfl⟩ (by decide) [34359738369, 137438953473] rfl (by decide) rfl ⟨3, by decide⟩ [595, 34359738369, 68719476737, 103079215105, 137438953473, 0, 0, 0] [(0, 4294967295), (2147483648, 2147484946), (2147483649, 2147484947), (2147483648, 2147483649), (2147483648, 2147483654), (0, 4294967295), (0, 4294967295), (0, 4294967295)] 2147483648 2147483655 rfl (by decide) rfl rfl rfl rfl rfl ?_ ?_
        · show zyΦcf [ρ2 1, ρ2 4] _
          rw [a1, a4, hEE]
          obtain ⟨p, q1, q2⟩ := (i4 (by decide) k (by omega)).2
          exact ⟨a, k, rfl, by omega, by omega, p, by omega, q2⟩
        · intro E3 vo hT3 hΨ
          have hΨ : zyΨcf [ρ2 1, ρ2 4] _ E3 vo := hΨ
          rw [a1, a4, hEE] at hΨ
          obtain ⟨e3, q⟩ := hΨ
          subst e3
          obtain ⟨p, p1, ez, p2, p3⟩ := q a k rfl (by omega) (by omega)
          obtain ⟨p0, q1, q2⟩ := (i4 (by decide) k (by omega)).2
          have pm : p < m := by
            apply Classical.byContradiction
            intro hn
            exact p3 p0 (by omega) q2
          refine ⟨_, ez, ?_, ?_, ⟨a, m, k, has, ha, hm, hst, hk, i1, (zyρi_n (by decide)).trans a1, fun _ => ⟨(zyρi_n (by decide)).trans a2, (zyρi_n (by decide)).trans a4⟩, fun _ => i4 (by decide), fun _ => i5 (by decide), fun _ _ => ⟨d1, d2⟩, fun _ => ⟨p, zyρi_e, pm, p2⟩, fun h => absurd (show 3 = 4 from h) (by decide), fun h => absurd (show 3 = 5 from h) (by decide), fun h => absurd (show 3 = 7 from h) (by decide)⟩, ?_⟩
          · rw [zyBn (by omega)]
            omega
          · rw [zyBn (by omega)]
            omega
          · show zyMs2 3 _ _ _ < zyMs2 2 _ _ _
            refine Nat.lt_of_le_of_lt (Nat.le_of_eq (zyMs2_eq (i := 3) (a := a) (m := m) (k := k) hst hm ((zyρi_n (by decide)).trans a1) ha (fun _ => ⟨(zyρi_n (by decide)).trans a4, by omega⟩) (by decide))) (Nat.lt_of_lt_of_eq ?_ (zyMs2_eq (i := 2) (a := a) (m := m) (k := k) hst hm i2 ha (fun _ => ⟨(i3 (by decide)).2, by omega⟩) (by decide)).symm)
            rw [zyMsh_m (i := 3) (by decide), zyMsh_m (i := 2) (by decide)]
            omega
    · obtain ⟨a, m, k, has, ha, hm, hst, hk, hI⟩ := hInv
      obtain ⟨i1, i2, i3, i4, i5, i6, i7, i8, i9, i10⟩ := (show zyIsh 3 a m k (zyEl (zymr r c) B s.heap) ρ (zyEl (zymr r c) B H) from hI)
      have hEE : zyEl (zymr r c) B H2 = zyEl (zymr r c) B H := zyfr0 hfr
      obtain ⟨hF, hB, -⟩ := hXs
      have hg4 : ∀ k, k < 9 → ρ2 k = ρ k := hag
      have a1 : ρ2 1 = Int32.ofNat a := (hg4 1 (by decide)).trans i2
      have a2 : ρ2 2 = Int32.ofNat (a + 1) := (hg4 2 (by decide)).trans (i3 (show 1 ≤ 3 by decide)).1
      have a4 : ρ2 4 = Int32.ofNat k := (hg4 4 (by decide)).trans (i3 (show 1 ≤ 3 by decide)).2
      have hx : x ∈ [zxsh_dx0] := hx
      have ex := List.mem_singleton.mp hx
      subst ex
      have b4 : ρ2 4 + Int32.ofNat 1 = Int32.ofNat (k + 1) := by rw [a4, zyOa]
      obtain ⟨d1, d2⟩ := i6 (by decide) (by decide)
      obtain ⟨p, r1, r2, r3⟩ := i7 rfl
      have a8 := (hg4 8 (by decide)).trans r1
      refine zyCa1 hRu hIH hAt hB hcf (ix := 201) (ax := 3664) rfl rfl rfl hmecf ⟨rfl, rfl, rfl, rfl⟩ (by decide) [34359738369, 137438953481] rfl (by decide) rfl ⟨4, by decide⟩ [595, 34359738369, 68719476737, 103079215105, 137438953473, 274877906945, 0, 0] [(0, 4294967295), (2147483648, 2147484946), (2147483649, 2147484947), (2147483648, 2147483649), (2147483648, 2147483654), (2147483648, 2147483655), (0, 4294967295), (0, 4294967295)] 2147483648 2147483655 rfl (by decide) rfl rfl rfl rfl rfl ?_ ?_
      · show zyΦcf [ρ2 1, ρ2 4 + Int32.ofNat 1] _
        rw [a1, b4, hEE]
        obtain ⟨p, q1, q2⟩ := (i4 (by decide) (k + 1) (by omega)).2
        exact ⟨a, k + 1, rfl, by omega, by omega, p, by omega, q2⟩
      · intro E3 vo hT3 hΨ
        have hΨ : zyΨcf [ρ2 1, ρ2 4 + Int32.ofNat 1] _ E3 vo := hΨ
        rw [a1, b4, hEE] at hΨ
        obtain ⟨e3, q⟩ := hΨ
        subst e3
        obtain ⟨q', p1, ez, p2, p3⟩ := q a (k + 1) rfl (by omega) (by omega)
        obtain ⟨p0, q1, q2⟩ := (i4 (by decide) (k + 1) (by omega)).2
        have pm : q' < m := by
          apply Classical.byContradiction
          intro hn
          exact p3 p0 (by omega) q2
        refine ⟨_, ez, ?_, ?_, ⟨a, m, k, has, ha, hm, hst, hk, i1, (zyρi_n (by decide)).trans a1, fun _ => ⟨(zyρi_n (by decide)).trans a2, (zyρi_n (by decide)).trans a4⟩, fun _ => i4 (by decide), fun _ => i5 (by decide), fun _ _ => ⟨d1, d2⟩, fun h => absurd (show 4 = 3 from h) (by decide), fun _ => ⟨p, q', (zyρi_n (by decide)).trans a8, zyρi_e, r2, pm, r3, p2⟩, fun h => absurd (show 4 = 5 from h) (by decide), fun h => absurd (show 4 = 7 from h) (by decide)⟩, ?_⟩
        · rw [zyBn (by omega)]
          omega
        · rw [zyBn (by omega)]
          omega
        · show zyMs2 4 _ _ _ < zyMs2 3 _ _ _
          refine Nat.lt_of_le_of_lt (Nat.le_of_eq (zyMs2_eq (i := 4) (a := a) (m := m) (k := k) hst hm ((zyρi_n (by decide)).trans a1) ha (fun _ => ⟨(zyρi_n (by decide)).trans a4, by omega⟩) (by decide))) (Nat.lt_of_lt_of_eq ?_ (zyMs2_eq (i := 3) (a := a) (m := m) (k := k) hst hm i2 ha (fun _ => ⟨(i3 (by decide)).2, by omega⟩) (by decide)).symm)
          rw [zyMsh_m (i := 4) (by decide), zyMsh_m (i := 3) (by decide)]
          omega
    · obtain ⟨a, m, k, has, ha, hm, hst, hk, hI⟩ := hInv
      obtain ⟨i1, i2, i3, i4, i5, i6, i7, i8, i9, i10⟩ := (show zyIsh 4 a m k (zyEl (zymr r c) B s.heap) ρ (zyEl (zymr r c) B H) from hI)
      have hEE : zyEl (zymr r c) B H2 = zyEl (zymr r c) B H := zyfr0 hfr
      obtain ⟨hF, hB, -⟩ := hXs
      have hg4 : ∀ k, k < 9 → ρ2 k = ρ k := hag
      have a1 : ρ2 1 = Int32.ofNat a := (hg4 1 (by decide)).trans i2
      have a2 : ρ2 2 = Int32.ofNat (a + 1) := (hg4 2 (by decide)).trans (i3 (show 1 ≤ 4 by decide)).1
      have a4 : ρ2 4 = Int32.ofNat k := (hg4 4 (by decide)).trans (i3 (show 1 ≤ 4 by decide)).2
      have hx : x ∈ [zxsh_ex0] := hx
      have ex := List.mem_singleton.mp hx
      subst ex
      have b4 : ρ2 4 + Int32.ofNat 1 = Int32.ofNat (k + 1) := by rw [a4, zyOa]
      obtain ⟨d1, d2⟩ := i6 (by decide) (by decide)
      obtain ⟨p, q, r1, r2, r3, r4, r5, r6⟩ := i8 rfl
      have a5 := (hg4 5 (by decide)).trans r1
      have a8 := (hg4 8 (by decide)).trans r2
      refine zyCa0 hRu hIH hAt hB hla (ix := 213) (ax := 3632) rfl rfl rfl hmela ⟨rfl, rfl, rfl, rfl⟩ (by decide) [34359738369, 171798691841, 137438953481] rfl (by decide) rfl ⟨5, by decide⟩ [595, 34359738369, 68719476737, 103079215105, 137438953473, 171798691841, 274877906945, 0] rfl rfl rfl rfl ?_ ?_
      · show zyΦla [ρ2 1, ρ2 5, ρ2 4 + Int32.ofNat 1] _
        rw [a1, a5, b4]
        exact ⟨a, p, k + 1, rfl, by omega, by omega, by omega⟩
      · intro E3 vo hT3 hΨ
        have hΨ : zyΨla [ρ2 1, ρ2 5, ρ2 4 + Int32.ofNat 1] _ E3 vo := hΨ
        rw [a1, a5, b4, hEE] at hΨ
        obtain ⟨ev, hu⟩ := hΨ
        have hu := hu a p (k + 1) rfl (by omega) (by omega) (by omega)
        have rb : ∀ j, j < 8 → zyrow E3 (a + 1) j = zyrow (zyEl (zymr r c) B H) (a + 1) j := fun j hj => by rw [zyrow_up hu (by omega) (by omega) hj, if_neg (fun z => absurd z.1 (by omega))]
        have ra : ∀ j, j < 8 → zyrow E3 a j = if j = p then k + 1 else zyrow (zyEl (zymr r c) B H) a j := fun j hj => by
          rw [zyrow_up hu (by omega) (by omega) hj]
          by_cases e : j = p
          · rw [if_pos ⟨rfl, e⟩, if_pos e]
          · rw [if_neg (fun z => e z.2), if_neg e]
        refine ⟨ev, ⟨a, m, k, has, ha, hm, hst, hk, zyFs_up i1 hu (by omega) (by omega), a1, fun _ => ⟨a2, a4⟩, fun h => absurd rfl h, fun _ => zPm_congr (fun j hj => rb j (by omega)) (i5 (by decide)), fun _ _ => ⟨d1, by rw [rb _ (by omega), rb _ (by omega)]; exact d2⟩, fun h => absurd (show 5 = 3 from h) (by decide), fun h => absurd (show 5 = 4 from h) (by decide), fun _ => ⟨p, q, _, a5, a8, r3, r4, r5, r6, i4 (by decide), ra⟩, fun h => absurd (show 5 = 7 from h) (by decide)⟩, ?_⟩
        show zyMs2 5 _ _ _ < zyMs2 4 _ _ _
        refine Nat.lt_of_le_of_lt (Nat.le_of_eq (zyMs2_eq (i := 5) (a := a) (m := m) (k := k) hst hm a1 ha (fun _ => ⟨a4, by omega⟩) (by decide))) (Nat.lt_of_lt_of_eq ?_ (zyMs2_eq (i := 4) (a := a) (m := m) (k := k) hst hm i2 ha (fun _ => ⟨(i3 (by decide)).2, by omega⟩) (by decide)).symm)
        rw [zyMsh_m (i := 5) (by decide), zyMsh_m (i := 4) (by decide), zinv_congr (n := m) (fun j hj => rb j (by omega))]
        omega
    · obtain ⟨a, m, k, has, ha, hm, hst, hk, hI⟩ := hInv
      obtain ⟨i1, i2, i3, i4, i5, i6, i7, i8, i9, i10⟩ := (show zyIsh 5 a m k (zyEl (zymr r c) B s.heap) ρ (zyEl (zymr r c) B H) from hI)
      have hEE : zyEl (zymr r c) B H2 = zyEl (zymr r c) B H := zyfr0 hfr
      obtain ⟨hF, hB, -⟩ := hXs
      have hg4 : ∀ k, k < 8 → ρ2 k = ρ k := hag
      have a1 : ρ2 1 = Int32.ofNat a := (hg4 1 (by decide)).trans i2
      have a2 : ρ2 2 = Int32.ofNat (a + 1) := (hg4 2 (by decide)).trans (i3 (show 1 ≤ 5 by decide)).1
      have a4 : ρ2 4 = Int32.ofNat k := (hg4 4 (by decide)).trans (i3 (show 1 ≤ 5 by decide)).2
      have hx : x ∈ [zxsh_fx0] := hx
      have ex := List.mem_singleton.mp hx
      subst ex
      obtain ⟨d1, d2⟩ := i6 (by decide) (by decide)
      obtain ⟨p, q, g, r1, r2, r3, r4, r5, r6, r7, r8⟩ := i9 rfl
      have a6 := (hg4 6 (by decide)).trans r2
      refine zyCa0 hRu hIH hAt hB hla (ix := 213) (ax := 3632) rfl rfl rfl hmela ⟨rfl, rfl, rfl, rfl⟩ (by decide) [34359738369, 206158430209, 137438953473] rfl (by decide) rfl ⟨6, by decide⟩ [595, 34359738369, 68719476737, 103079215105, 137438953473, 0, 0, 0] rfl rfl rfl rfl ?_ ?_
      · show zyΦla [ρ2 1, ρ2 6, ρ2 4] _
        rw [a1, a6, a4]
        exact ⟨a, q, k, rfl, by omega, by omega, by omega⟩
      · intro E3 vo hT3 hΨ
        have hΨ : zyΨla [ρ2 1, ρ2 6, ρ2 4] _ E3 vo := hΨ
        rw [a1, a6, a4, hEE] at hΨ
        obtain ⟨ev, hu⟩ := hΨ
        have hu := hu a q k rfl (by omega) (by omega) (by omega)
        have rb : ∀ j, j < 8 → zyrow E3 (a + 1) j = zyrow (zyEl (zymr r c) B H) (a + 1) j := fun j hj => by rw [zyrow_up hu (by omega) (by omega) hj, if_neg (fun z => absurd z.1 (by omega))]
        have ra : ∀ j, j < 8 → zyrow E3 a j = if j = q then k else if j = p then k + 1 else g j := fun j hj => by
          rw [zyrow_up hu (by omega) (by omega) hj, r8 j hj]
          by_cases e : j = q
          · rw [if_pos ⟨rfl, e⟩, if_pos e]
          · rw [if_neg (fun z => e z.2), if_neg e]
        refine ⟨ev, ⟨a, m, k, has, ha, hm, hst, hk, zyFs_up i1 hu (by omega) (by omega), a1, fun _ => ⟨a2, a4⟩, fun _ => zPm_ch r3 r4 (by omega) d1 (by omega) r5 r6 r7 (fun j hj => ra j (by omega)), fun _ => zPm_congr (fun j hj => rb j (by omega)) (i5 (by decide)), fun _ _ => ⟨d1, by rw [rb _ (by omega), rb _ (by omega)]; exact d2⟩, fun h => absurd (show 6 = 3 from h) (by decide), fun h => absurd (show 6 = 4 from h) (by decide), fun h => absurd (show 6 = 5 from h) (by decide), fun h => absurd (show 6 = 7 from h) (by decide)⟩, ?_⟩
        show zyMs2 6 _ _ _ < zyMs2 5 _ _ _
        refine Nat.lt_of_le_of_lt (Nat.le_of_eq (zyMs2_eq (i := 6) (a := a) (m := m) (k := k) hst hm a1 ha (fun _ => ⟨a4, by omega⟩) (by decide))) (Nat.lt_of_lt_of_eq ?_ (zyMs2_eq (i := 5) (a := a) (m := m) (k := k) hst hm i2 ha (fun _ => ⟨(i3 (by decide)).2, by omega⟩) (by decide)).symm)
        rw [zyMsh_m (i := 6) (by decide), zyMsh_m (i := 5) (by decide), zinv_congr (n := m) (fun j hj => rb j (by omega))]
        omega
    · obtain ⟨a, m, k, has, ha, hm, hst, hk, hI⟩ := hInv
      obtain ⟨i1, i2, i3, i4, i5, i6, i7, i8, i9, i10⟩ := (show zyIsh 6 a m k (zyEl (zymr r c) B s.heap) ρ (zyEl (zymr r c) B H) from hI)
      have hEE : zyEl (zymr r c) B H2 = zyEl (zymr r c) B H := zyfr0 hfr
      obtain ⟨hF, hB, -⟩ := hXs
      have hg4 : ∀ k, k < 8 → ρ2 k = ρ k := hag
      have a1 : ρ2 1 = Int32.ofNat a := (hg4 1 (by decide)).trans i2
      have a2 : ρ2 2 = Int32.ofNat (a + 1) := (hg4 2 (by decide)).trans (i3 (show 1 ≤ 6 by decide)).1
      have a4 : ρ2 4 = Int32.ofNat k := (hg4 4 (by decide)).trans (i3 (show 1 ≤ 6 by decide)).2
      have hx : x ∈ [zxsh_gx0] := hx
      have ex := List.mem_singleton.mp hx
      subst ex
      have b4 : ρ2 4 + Int32.ofNat 1 = Int32.ofNat (k + 1) := by rw [a4, zyOa]
      have T1 : zyTy (zymr r c) (zyEl (zymr r c) B H) := hT
      obtain ⟨d1, d2⟩ := i6 (by decide) (by decide)
      have w1 := zyXop hF 0 rfl (by decide)
      have w1 : ρ2 8 = Int32.ofNat 8 * ρ2 2 := w1
      have w2 := zyXop hF 1 rfl (by decide)
      have w2 : ρ2 9 = ρ2 8 + ρ2 4 := w2
      have v1 := zfv_rd T1 (f := a + 1) (k := k) (by omega) (w1.trans (by rw [a2])) (w2.trans (by rw [a4])) (zyXe hF 2 rfl)
      have w1 := zyXop hF 3 rfl (by decide)
      have w1 : ρ2 11 = Int32.ofNat 8 * ρ2 2 := w1
      have w2 := zyXop hF 4 rfl (by decide)
      have w2 : ρ2 12 = ρ2 11 + (ρ2 4 + Int32.ofNat 1) := w2
      have v2 := zfv_rd T1 (f := a + 1) (k := k + 1) (by omega) (w1.trans (by rw [a2])) (w2.trans (by rw [b4])) (zyXe hF 5 rfl)
      have v1 : ρ2 10 = Int32.ofNat (zyrow (zyEl (zymr r c) B H) (a + 1) k) := v1
      have v2 : ρ2 13 = Int32.ofNat (zyrow (zyEl (zymr r c) B H) (a + 1) (k + 1)) := v2
      have l1 := zyrow_lt T1 (f := a + 1) (p := k) (by omega)
      have l2 := zyrow_lt T1 (f := a + 1) (p := k + 1) (by omega)
      refine zyCa0 hRu hIH hAt hB hla (ix := 213) (ax := 3632) rfl rfl rfl hmela ⟨rfl, rfl, rfl, rfl⟩ (by decide) [68719476737, 137438953473, 446676598785] rfl (by decide) rfl ⟨7, by decide⟩ [595, 34359738369, 68719476737, 103079215105, 137438953473, 0, 0, 343597383681] rfl rfl rfl rfl ?_ ?_
      · show zyΦla [ρ2 2, ρ2 4, ρ2 13] _
        rw [a2, a4, v2]
        exact ⟨a + 1, k, _, rfl, by omega, by omega, l2⟩
      · intro E3 vo hT3 hΨ
        have hΨ : zyΨla [ρ2 2, ρ2 4, ρ2 13] _ E3 vo := hΨ
        rw [a2, a4, v2, hEE] at hΨ
        obtain ⟨ev, hu⟩ := hΨ
        have hu := hu (a + 1) k _ rfl (by omega) (by omega) l2
        have ra : ∀ j, j < 8 → zyrow E3 a j = zyrow (zyEl (zymr r c) B H) a j := fun j hj => by rw [zyrow_up hu l2 (by omega) hj, if_neg (fun z => absurd z.1 (by omega))]
        have rb : ∀ j, j < 8 → zyrow E3 (a + 1) j = if j = k then zyrow (zyEl (zymr r c) B H) (a + 1) (k + 1) else zyrow (zyEl (zymr r c) B H) (a + 1) j := fun j hj => by
          rw [zyrow_up hu l2 (by omega) hj]
          by_cases e : j = k
          · rw [if_pos ⟨rfl, e⟩, if_pos e]
          · rw [if_neg (fun z => e z.2), if_neg e]
        refine ⟨ev, ⟨a, m, k, has, ha, hm, hst, hk, zyFs_up i1 hu (by omega) (by omega), a1, fun _ => ⟨a2, a4⟩, fun _ => zPm_congr (fun j hj => ra j (by omega)) (i4 (by decide)), fun h => absurd rfl h, fun _ h => absurd (show 7 ≤ 6 from h) (by decide), fun h => absurd (show 7 = 3 from h) (by decide), fun h => absurd (show 7 = 4 from h) (by decide), fun h => absurd (show 7 = 5 from h) (by decide), fun _ => ⟨zyrow (zyEl (zymr r c) B H) (a + 1), v1, l1, d1, d2, i5 (by decide), rb⟩⟩, ?_⟩
        show zyMs2 7 _ _ _ < zyMs2 6 _ _ _
        refine Nat.lt_of_le_of_lt (Nat.le_of_eq (zyMs2_7 (h := zyrow (zyEl (zymr r c) B H) (a + 1)) hst hm a1 ha a4 (by omega) v1 l1 rb)) (Nat.lt_of_lt_of_eq ?_ (zyMs2_eq (i := 6) (a := a) (m := m) (k := k) hst hm i2 ha (fun _ => ⟨(i3 (by decide)).2, by omega⟩) (by decide)).symm)
        rw [zyMsh_m (i := 7) (by decide), zyMsh_m (i := 6) (by decide)]
        omega
    · obtain ⟨a, m, k, has, ha, hm, hst, hk, hI⟩ := hInv
      obtain ⟨i1, i2, i3, i4, i5, i6, i7, i8, i9, i10⟩ := (show zyIsh 7 a m k (zyEl (zymr r c) B s.heap) ρ (zyEl (zymr r c) B H) from hI)
      have hEE : zyEl (zymr r c) B H2 = zyEl (zymr r c) B H := zyfr0 hfr
      obtain ⟨hF, hB, -⟩ := hXs
      have hg4 : ∀ k, k < 8 → ρ2 k = ρ k := hag
      have a1 : ρ2 1 = Int32.ofNat a := (hg4 1 (by decide)).trans i2
      have a2 : ρ2 2 = Int32.ofNat (a + 1) := (hg4 2 (by decide)).trans (i3 (show 1 ≤ 7 by decide)).1
      have a4 : ρ2 4 = Int32.ofNat k := (hg4 4 (by decide)).trans (i3 (show 1 ≤ 7 by decide)).2
      have hx : x ∈ [zxsh_hx0] := hx
      have ex := List.mem_singleton.mp hx
      subst ex
      have b4 : ρ2 4 + Int32.ofNat 1 = Int32.ofNat (k + 1) := by rw [a4, zyOa]
      obtain ⟨h, r1, r2, d1, d2, r3, r4⟩ := i10 rfl
      have a7 := (hg4 7 (by decide)).trans r1
      refine zyCa0 hRu hIH hAt hB hla (ix := 213) (ax := 3632) rfl rfl rfl hmela ⟨rfl, rfl, rfl, rfl⟩ (by decide) [68719476737, 137438953481, 240518168577] rfl (by decide) rfl ⟨8, by decide⟩ [595, 34359738369, 68719476737, 103079215105, 137438953473, 0, 0, 0] rfl rfl rfl rfl ?_ ?_
      · show zyΦla [ρ2 2, ρ2 4 + Int32.ofNat 1, ρ2 7] _
        rw [a2, b4, a7]
        exact ⟨a + 1, k + 1, _, rfl, by omega, by omega, r2⟩
      · intro E3 vo hT3 hΨ
        have hΨ : zyΨla [ρ2 2, ρ2 4 + Int32.ofNat 1, ρ2 7] _ E3 vo := hΨ
        rw [a2, b4, a7, hEE] at hΨ
        obtain ⟨ev, hu⟩ := hΨ
        have hu := hu (a + 1) (k + 1) _ rfl (by omega) (by omega) r2
        have ra : ∀ j, j < 8 → zyrow E3 a j = zyrow (zyEl (zymr r c) B H) a j := fun j hj => by rw [zyrow_up hu r2 (by omega) hj, if_neg (fun z => absurd z.1 (by omega))]
        have rb : ∀ j, j < 8 → zyrow E3 (a + 1) j = zsw h k j := fun j hj => by
          rw [zyrow_up hu r2 (by omega) hj, r4 j hj]
          unfold zsw
          by_cases e : j = k + 1
          · rw [if_pos ⟨rfl, e⟩, if_neg (by omega), if_pos e]
          · rw [if_neg (fun z => e z.2)]
            by_cases e2 : j = k
            · rw [if_pos e2, if_pos e2]
            · rw [if_neg e2, if_neg e2, if_neg e]
        refine ⟨ev, ⟨a, m, k, has, ha, hm, hst, hk, zyFs_up i1 hu (by omega) (by omega), a1, fun _ => ⟨a2, a4⟩, fun _ => zPm_congr (fun j hj => ra j (by omega)) (i4 (by decide)), fun _ => zPm_congr (fun j hj => rb j (by omega)) (zPm_sw d1 r3), fun _ h => absurd (show 8 ≤ 6 from h) (by decide), fun h => absurd (show 8 = 3 from h) (by decide), fun h => absurd (show 8 = 4 from h) (by decide), fun h => absurd (show 8 = 5 from h) (by decide), fun h => absurd (show 8 = 7 from h) (by decide)⟩, ?_⟩
        show zyMs2 8 _ _ _ < zyMs2 7 _ _ _
        refine Nat.lt_of_le_of_lt (Nat.le_of_eq (zyMs2_eq (i := 8) (a := a) (m := m) (k := k) hst hm a1 ha (fun _ => ⟨a4, by omega⟩) (by decide))) (Nat.lt_of_lt_of_eq ?_ (zyMs2_7 (h := h) hst hm i2 ha (i3 (by decide)).2 (by omega) r1 r2 r4).symm)
        rw [zyMsh_e (i := 8) (by decide), zyMsh_m (i := 7) (by decide), zinv_congr (n := m) (fun j hj => rb j (by omega))]
        have := zinv_lt d2 d1
        omega
    · obtain ⟨a, m, k, has, ha, hm, hst, hk, hI⟩ := hInv
      obtain ⟨i1, i2, i3, i4, i5, i6, i7, i8, i9, i10⟩ := (show zyIsh 8 a m k (zyEl (zymr r c) B s.heap) ρ (zyEl (zymr r c) B H) from hI)
      have hEE : zyEl (zymr r c) B H2 = zyEl (zymr r c) B H := zyfr0 hfr
      obtain ⟨hF, hB, -⟩ := hXs
      have hg4 : ∀ k, k < 8 → ρ2 k = ρ k := hag
      have a1 : ρ2 1 = Int32.ofNat a := (hg4 1 (by decide)).trans i2
      have a2 : ρ2 2 = Int32.ofNat (a + 1) := (hg4 2 (by decide)).trans (i3 (show 1 ≤ 8 by decide)).1
      have a4 : ρ2 4 = Int32.ofNat k := (hg4 4 (by decide)).trans (i3 (show 1 ≤ 8 by decide)).2
      have hx : x ∈ [zxsh_ix0] := hx
      have ex := List.mem_singleton.mp hx
      subst ex
      refine zyGoB hIH hAt hB ⟨1, by decide⟩ [595, 34359738369, 68719476737, 8, 0, 0, 0, 0] rfl rfl rfl rfl ⟨a, m, 0, has, ha, hm, hst, Nat.zero_le _, by rw [hEE]; exact i1, a1, fun _ => ⟨a2, rfl⟩, fun _ => by rw [hEE]; exact i4 (by decide), fun _ => by rw [hEE]; exact i5 (by decide), fun h => absurd (show 2 ≤ 1 from h) (by decide), fun h => absurd (show 1 = 3 from h) (by decide), fun h => absurd (show 1 = 4 from h) (by decide), fun h => absurd (show 1 = 5 from h) (by decide), fun h => absurd (show 1 = 7 from h) (by decide)⟩ ?_
      show zyMs2 1 _ _ _ < zyMs2 8 _ _ _
      refine Nat.lt_of_le_of_lt (Nat.le_of_eq (zyMs2_eq (i := 1) (a := a) (m := m) (k := 0) hst hm a1 ha (fun _ => ⟨rfl, by omega⟩) (by decide))) (Nat.lt_of_lt_of_eq ?_ (zyMs2_eq (i := 8) (a := a) (m := m) (k := k) hst hm i2 ha (fun _ => ⟨(i3 (by decide)).2, by omega⟩) (by decide)).symm)
      rw [hEE, zyMsh_m (i := 1) (by decide), zyMsh_e (i := 8) (by decide)]
      omega
  · intro as E0 E E2 hT0 hΦ hlen i ρ hT hInv x hx ρ2 N2 B vo hXs hag hfr hT2 hvo
    rcases i with ⟨i, hi⟩
    have hi2 : i = 1 ∨ i = 0 ∨ i = 2 ∨ i = 3 ∨ i = 4 ∨ i = 5 ∨ i = 6 ∨ i = 7 ∨ i = 8 := by omega
    rcases hi2 with rfl | rfl | rfl | rfl | rfl | rfl | rfl | rfl | rfl
    rotate_left
    · cases hx
    · cases hx
    · cases hx
    · cases hx
    · cases hx
    · cases hx
    · cases hx
    · cases hx
    have hx : x ∈ [zxsh_br0] := hx
    have ex := List.mem_singleton.mp hx
    subst ex
    obtain ⟨a, m, k, has, ha, hm, hst, hk, hI⟩ := hInv
    obtain ⟨i1, i2, i3, i4, i5, -⟩ := (show zyIsh 1 a m k E0 ρ E from hI)
    obtain ⟨hF, hB, -⟩ := hXs
    have hb : 2147483648 ≤ zB (ρ2 3) ∧ zB (ρ2 3) ≤ 2147483649 := zyXb hB 0 rfl
    rw [zyfr0 hfr]
    refine ⟨⟨ρ2 3, zyvo_1 (c := 103079215105) (by decide) (show zyvo (zyXn B ρ2 N2) [103079215105] vo from hvo), zybool hb.1 hb.2⟩, fun a' m' e c1 c2 c3 => ?_⟩
    rw [has] at e
    have e1 := zyOi (by omega) (by omega) (List.cons.inj e).1
    rw [hst] at c3
    have e2 := zyOi (by omega) (by omega) (Value.int.inj (Option.some.inj c3))
    subst e1
    subst e2
    exact ⟨i1, i4 (by decide), i5 (by decide)⟩
