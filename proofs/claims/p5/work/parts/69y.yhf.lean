/-! LETTERS OF A STEP are spelled: as many as there are inversions -/
noncomputable def zyIyo : zyIn := (206, ([595, 73786976312018076282], [], [73786976277658337594], 1, [], []), [(0, 2, [595, 34359738369], [(0, 4294967295), (2147483648, 2147483727)], [], [])], 0, 0, [])
noncomputable def zyIif : zyIn := (220, ([595, 73786976312018075706, 73786976312018075706], [], [73786976312018075658], 2, [], []), [(0, 5, [595, 34359738369, 68719476737, 13, 13], [(0, 4294967295), (2147483648, 2147483655), (2147483648, 2147483655), (0, 4294967295), (0, 4294967295)], [], [])], 0, 0, [0])
noncomputable def zyITf : List (List (List zyIn)) := [[[zyIyo, zyIif]]]
theorem zyif_run : zyAllP (fun r c => zand (zychk (zymr r c) zydr zyITf 0 zyIyo) (zychk (zymr r c) zydr zyITf 1 zyIif)) = true := by decide +kernel
noncomputable def zyTif : Nat → List zyCt := fun y => zif (Nat.beq y 220) [([595, 73786976312018075706, 73786976312018075706], [], [73786976312018075658], 2, [], [])] []
theorem zyTif_ok {l : Launch} {J : zyJt} (hJ : zyJp zydr J) {r c : Nat} (h1 : 1 ≤ r) (h2 : r ≤ 4) (h3 : 1 ≤ c) (h4 : c ≤ 5) : ∀ y2 ct en2 me2, ct ∈ zyTif y2 → zG zxMeta y2 = some en2 → zG zMeth y2 = some me2 → zyCon l (zymr r c) J en2 me2 ct := by
  intro y2 ct en2 me2 hct hen hme
  unfold zyTif at hct
  by_cases e : y2 = 220
  · subst e
    have hct : ct ∈ [([595, 73786976312018075706, 73786976312018075706], [], [73786976312018075658], 2, [], [])] := hct
    rw [List.mem_singleton.mp hct]
    obtain ⟨q1, q2⟩ := zand_iff (zyAllP_iff zyif_run h1 h2 h3 h4)
    have c0 : zyCo l (zymr r c) J zyITf 0 := zychk_ok (IT := zyITf) (i := 0) q1 hJ (fun d hd => absurd hd (Nat.not_lt_zero d))
    have c1 : zyCo l (zymr r c) J zyITf 1 := zychk_ok (IT := zyITf) (i := 1) q2 hJ (fun d hd => by
      have : d = 0 := by omega
      subst this
      exact c0)
    exact c1 en2 me2 hen hme
  · rw [zybeq_ne e, zif_f] at hct
    cases hct
def zli (E : zyEm) (j : Nat) : Nat := zyN1 (zyI E 79 j)
def zth (E : zyEm) (j : Nat) : Nat := zyN1 (zyI E 78 j)
theorem zli_el {r c : Nat} {E : zyEm} (hT : zyTy (zymr r c) E) {i : Nat} (hi : i < 8) : E 79 i = some (.int (Int32.ofNat (zli E i))) ∧ zli E i < 8 := by
  obtain ⟨x, h1, h2, h3⟩ := (hT 79 (20, 8, [(0, 7, 73786976312018075706)]) i rfl (show i < 8 from hi) (0, 7, 73786976312018075706) List.mem_cons_self (Nat.zero_le _) (by dsimp only; omega)).1 rfl
  have h2 : 2147483648 ≤ zB x := h2
  have h3 : zB x ≤ 2147483655 := h3
  have e : zli E i = zyN1 x := by
    unfold zli zyI
    rw [h1]
  obtain ⟨q1, q2⟩ := zyOn h2
  rw [e]
  exact ⟨by rw [h1, ← q1], by omega⟩
theorem zth_el {r c : Nat} {E : zyEm} (hT : zyTy (zymr r c) E) {i : Nat} (hi : i < 8) : E 78 i = some (.int (Int32.ofNat (zth E i))) ∧ zth E i < 80 := by
  obtain ⟨x, h1, h2, h3⟩ := (hT 78 (20, 8, [(0, 7, 73786976312018076282)]) i rfl (show i < 8 from hi) (0, 7, 73786976312018076282) List.mem_cons_self (Nat.zero_le _) (by dsimp only; omega)).1 rfl
  have h2 : 2147483648 ≤ zB x := h2
  have h3 : zB x ≤ 2147483727 := h3
  have e : zth E i = zyN1 x := by
    unfold zth zyI
    rw [h1]
  obtain ⟨q1, q2⟩ := zyOn h2
  rw [e]
  exact ⟨by rw [h1, ← q1], by omega⟩
theorem zli_eq {E E2 : zyEm} {j : Nat} (h : E2 79 j = E 79 j) : zli E2 j = zli E j := by
  unfold zli
  rw [zyI_eq h]
theorem zth_eq {E E2 : zyEm} {j : Nat} (h : E2 78 j = E 78 j) : zth E2 j = zth E j := by
  unfold zth
  rw [zyI_eq h]
/-- the keys in line -/
noncomputable def zyh (c : Nat) (E : zyEm) (j : Nat) : Nat := zky c (zth E (zli E j))
def zyFss (E E2 : zyEm) : Prop := ∀ a k, ¬ a = 79 → ¬ a = 80 → ¬ (a = 74 ∧ k = 14) → E2 a k = E a k
def zyΦss (_ : List Int32) (E : zyEm) : Prop := ∃ m q : Nat, m ≤ 8 ∧ q ≤ 1900 ∧ E 75 2 = some (.int (Int32.ofNat m)) ∧ E 74 14 = some (.int (Int32.ofNat q)) ∧ zSv E m (min q 300)
def zyΨss (_ : List Int32) (E E2 : zyEm) (vo : Option Value) : Prop := vo = none ∧ zyFss E E2 ∧ ∀ m q : Nat, m ≤ 8 → q ≤ 1900 → E 75 2 = some (.int (Int32.ofNat m)) → E 74 14 = some (.int (Int32.ofNat q)) → ∃ q', q ≤ q' ∧ q' ≤ q + 28 ∧ E2 74 14 = some (.int (Int32.ofNat q')) ∧ zSv E2 m (min q' 300)
noncomputable def zyMss (i m k : Nat) (h : Nat → Nat) : Nat := if i ≤ 1 then 100000 - i else if i = 6 then (zinv h m * 9 + 8) * 20 + 11 else (zinv h m * 9 + (8 - k)) * 20 + (12 - i)
noncomputable def zyMs3 (c i : Nat) (E0 : zyEm) (ρ : Nat → Int32) (E : zyEm) : Nat := zyMss i (zyN1 (zyI E0 75 2)) (zyN1 (ρ 1)) (fun j => zky c (zth E (if i = 5 ∧ j = zyN1 (ρ 1) then zyN1 (ρ 2) else zli E j)))
def zyIss (c i m q0 q k : Nat) (E0 : zyEm) (ρ : Nat → Int32) (E : zyEm) : Prop := zyFss E0 E ∧ E 74 14 = some (.int (Int32.ofNat q)) ∧ zSv E m (min q 300) ∧ q0 ≤ q ∧ (i ≤ 1 → q = q0) ∧ (2 ≤ i → i ≤ 5 → ρ 1 = Int32.ofNat k) ∧ (i = 2 ∨ i = 6 → q + zinv (zyh c E) m ≤ q0 + 28) ∧
  (i = 3 ∨ i = 4 → k + 1 < m ∧ ρ 2 = Int32.ofNat (zli E k) ∧ ρ 3 = Int32.ofNat (zli E (k + 1)) ∧ q + zinv (zyh c E) m ≤ q0 + 28 + (i - 3)) ∧ (i = 3 → (ρ 4 = 1 ↔ zyh c E (k + 1) < zyh c E k)) ∧ (i = 4 → zyh c E (k + 1) < zyh c E k) ∧
  (i = 5 → ∃ g : Nat → Nat, k + 1 < m ∧ ρ 2 = Int32.ofNat (g k) ∧ g k < 8 ∧ zky c (zth E (g (k + 1))) < zky c (zth E (g k)) ∧ (∀ j, j < 8 → zli E j = if j = k then g (k + 1) else g j) ∧ q + zinv (fun j => zky c (zth E (g j))) m ≤ q0 + 29)
theorem zyMs3_eq {c i m k : Nat} {E0 E : zyEm} {ρ : Nat → Int32} (hm : E0 75 2 = some (.int (Int32.ofNat m))) (hm8 : m ≤ 8) (h1 : 2 ≤ i → i ≤ 5 → ρ 1 = Int32.ofNat k) (hk : k < 16) (h5 : ¬ i = 5) (hi : i ≤ 6) : zyMs3 c i E0 ρ E = zyMss i m k (zyh c E) := by
  unfold zyMs3
  rw [zyI_of hm (by omega)]
  have e3 : (fun j => zky c (zth E (if i = 5 ∧ j = zyN1 (ρ 1) then zyN1 (ρ 2) else zli E j))) = zyh c E := by
    funext j
    rw [if_neg (fun q => h5 q.1)]
    rfl
  rw [e3]
  unfold zyMss
  by_cases e : i ≤ 1
  · rw [if_pos e, if_pos e]
  · rw [if_neg e, if_neg e]
    by_cases e6 : i = 6
    · rw [if_pos e6, if_pos e6]
    · rw [if_neg e6, if_neg e6, h1 (by omega) (by omega), zyN1_of (by omega)]
theorem zyMs3_5 {c m k : Nat} {E0 E : zyEm} {ρ : Nat → Int32} {g : Nat → Nat} (hm : E0 75 2 = some (.int (Int32.ofNat m))) (hm8 : m ≤ 8) (h1 : ρ 1 = Int32.ofNat k) (hk : k < 16) (h2 : ρ 2 = Int32.ofNat (g k)) (h3 : g k < 8) (hh : ∀ j, j < 8 → zli E j = if j = k then g (k + 1) else g j) : zyMs3 c 5 E0 ρ E = zyMss 5 m k (fun j => zky c (zth E (g j))) := by
  unfold zyMs3
  rw [zyI_of hm (by omega), h1, h2, zyN1_of (by omega), zyN1_of (by omega)]
  unfold zyMss
  rw [if_neg (by decide), if_neg (by decide), if_neg (by decide), if_neg (by decide)]
  rw [zinv_congr (g := fun j => zky c (zth E (g j))) (fun j hj => ?_)]
  by_cases e : j = k
  · rw [if_pos ⟨rfl, e⟩, e]
  · rw [if_neg (fun q => e q.2), hh j (by omega), if_neg e]
theorem zyMss_m {i m k : Nat} {h : Nat → Nat} (hi : 2 ≤ i ∧ i ≤ 5) : zyMss i m k h = (zinv h m * 9 + (8 - k)) * 20 + (12 - i) := by
  unfold zyMss
  rw [if_neg (by omega), if_neg (by omega)]
theorem zyMss_6 {m k : Nat} {h : Nat → Nat} : zyMss 6 m k h = (zinv h m * 9 + 8) * 20 + 11 := rfl
theorem zyh_eq {c : Nat} {E E2 : zyEm} {j : Nat} (h1 : E2 79 j = E 79 j) (h2 : ∀ q, E2 78 q = E 78 q) : zyh c E2 j = zyh c E j := by
  unfold zyh
  rw [zli_eq h1, zth_eq (h2 _)]
theorem zyss_run : zyAllP (fun r c => zyrS (zymr r c) zxi223 (223, 0, 0, 0, 0) 5 zpss (fun _ => zyTif) zFss zSss zXss zRss 7) = true := by decide +kernel
theorem zyspellsStep {l : Launch} {r c : Nat} (h1 : 1 ≤ r) (h2 : r ≤ 4) (h3 : 1 ≤ c) (h4 : c ≤ 5) {en : zEn} {me : zMe} (hen : zG zxMeta 223 = some en) (hme : zG zMeth 223 = some me) : zyHc l (zymr r c) en me 5 0 zyΦss zyΨss := by
  have een : zG zxMeta 223 = some (zxi223, 1, 4, 11, 223, 0, 0, 0, 0) := rfl
  obtain ⟨me1, hme1, hOK⟩ := zall hen
  rw [hme] at hme1
  cases hme1
  rw [een] at hen
  cases hen
  have hr := zyAllP_iff zyss_run h1 h2 h3 h4
  obtain ⟨mesd, hmesd, -⟩ := zall (show zG zxMeta 221 = some (zxi221, 1, 3, 11, 221, 0, 0, 0, 0) from rfl)
  have hsd := zystands (l := l) h1 h2 h3 h4 (show zG zxMeta 221 = some (zxi221, 1, 3, 11, 221, 0, 0, 0, 0) from rfl) hmesd
  obtain ⟨meah, hmeah, -⟩ := zall (show zG zxMeta 207 = some (zxi207, 3, 3, 11, 207, 0, 0, 2, 0) from rfl)
  have hah := zyisAhead (l := l) h1 h2 h3 h4 (show zG zxMeta 207 = some (zxi207, 3, 3, 11, 207, 0, 0, 2, 0) from rfl) hmeah
  obtain ⟨mesp, hmesp, -⟩ := zall (show zG zxMeta 222 = some (zxi222, 2, 2, 11, 222, 0, 0, 0, 0) from rfl)
  have hsp := zyspells (l := l) h1 h2 h3 h4 (show zG zxMeta 222 = some (zxi222, 2, 2, 11, 222, 0, 0, 0, 0) from rfl) hmesp
  have hCon : ∀ i : Fin 7, zyCons l (zymr r c, zyTif, zFss i.val, [], zSss i.val) zyJ0 := fun _ => zyTif_ok zyJ0_r.1 h1 h2 h3 h4
  refine zycutS (mi := zymr r c) hOK rfl rfl ⟨_, rfl, rfl⟩ (ι := Fin 7) (fun i => zpss i.val) (fun _ => zyTif) (fun i => zFss i.val) (fun i => zSss i.val) (fun i => zXss i.val) (fun i => zRss i.val) hCon 200000 (fun i => zyAll_iff hr i.val i.isLt) ⟨0, by decide⟩ ⟨rfl, rfl, rfl, rfl⟩ ⟨by decide, by decide⟩
    (fun i as E0 ρ E => ∃ m q0 q k : Nat, m ≤ 8 ∧ q0 ≤ 1900 ∧ E0 75 2 = some (.int (Int32.ofNat m)) ∧ E0 74 14 = some (.int (Int32.ofNat q0)) ∧ k ≤ 7 ∧ zyIss c i.val m q0 q k E0 ρ E) (fun i as E0 ρ E => zyMs3 c i.val E0 ρ E) ?_ ?_ ?_
  · intro as E hlen hT hΦ
    obtain ⟨m, q, b1, b2, b3, b4, b5⟩ := hΦ
    exact ⟨zEnv_c (zyfull _) (zEnv_c (zyfull _) (zEnv_c (zyfull _) (zEnv_c (zyfull _) zEnv_nil))), m, q, q, 0, b1, b2, b3, b4, Nat.zero_le _, fun _ _ _ _ _ => rfl, b4, b5, Nat.le_refl _, fun _ => rfl, fun h => absurd (show 2 ≤ 0 from h) (by decide), fun h => absurd (show 0 = 2 ∨ 0 = 6 from h) (by decide), fun h => absurd (show 0 = 3 ∨ 0 = 4 from h) (by decide), fun h => absurd (show 0 = 3 from h) (by decide), fun h => absurd (show 0 = 4 from h) (by decide), fun h => absurd (show 0 = 5 from h) (by decide)⟩
  · intro as B s Wg hRu hT0 hΦ hlen i ρ H hT hInv hIH x hx ρ2 N2 H2 locs lsB stA hAt hXs hag hfr hT2
    rcases i with ⟨i, hi⟩
    have hi2 : i = 0 ∨ i = 1 ∨ i = 2 ∨ i = 3 ∨ i = 4 ∨ i = 5 ∨ i = 6 := by omega
    rcases hi2 with rfl | rfl | rfl | rfl | rfl | rfl | rfl
    · have hx : x ∈ [zxss_ax0] := hx
      have hg : ∀ k, k < 4 → ρ2 k = ρ k := hag
      have hI := hInv
      have hI : ∃ m q0 q k : Nat, m ≤ 8 ∧ q0 ≤ 1900 ∧ (zyEl (zymr r c) B s.heap) 75 2 = some (.int (Int32.ofNat m)) ∧ (zyEl (zymr r c) B s.heap) 74 14 = some (.int (Int32.ofNat q0)) ∧ k ≤ 7 ∧ zyIss c 0 m q0 q k (zyEl (zymr r c) B s.heap) ρ (zyEl (zymr r c) B H) := hI
      obtain ⟨hF, hB, hM⟩ := hXs
      have hEE : (zyEl (zymr r c) B H2) = (zyEl (zymr r c) B H) := zyfr0 hfr
      have ex := List.mem_singleton.mp hx
      subst ex
      obtain ⟨m, q0, q, k, hm, hq, s1, s2, hk, i1, i2, i3, i4, i5, i6, i7, i8, i9, i10, i11⟩ := hI
      have T1 : zyTy (zymr r c) (zyEl (zymr r c) B H) := hT
      refine zyCa0 hRu hIH hAt hB hsd (ix := 188) (ax := 3536) rfl rfl rfl hmesd ⟨rfl, rfl, rfl, rfl⟩ (by decide) [] rfl (by decide) rfl ⟨1, by decide⟩ [595, 0, 0, 0] rfl rfl rfl rfl trivial ?_
      intro E3 vo hT3 hΨ
      obtain ⟨ev, q1⟩ := (show zyΨsd [] _ E3 vo from hΨ)
      rw [hEE] at q1
      refine ⟨ev, ⟨m, q0, q, 0, hm, hq, s1, s2, Nat.zero_le _, fun a k n1 n2 n3 => (q1 a k n1).trans (i1 a k n1 n2 n3), (q1 74 14 (by decide)).trans i2, fun j hj => by rw [zyI_eq (q1 80 j (by decide))]; exact i3 j hj, i4, fun _ => i5 (by decide), fun h => absurd (show 2 ≤ 1 from h) (by decide), fun h => absurd (show 1 = 2 ∨ 1 = 6 from h) (by decide), fun h => absurd (show 1 = 3 ∨ 1 = 4 from h) (by decide), fun h => absurd (show 1 = 3 from h) (by decide), fun h => absurd (show 1 = 4 from h) (by decide), fun h => absurd (show 1 = 5 from h) (by decide)⟩, (show 100000 - 1 < 100000 - 0 by decide)⟩
    · have hx : x ∈ [zxss_bx0] := hx
      have hg : ∀ k, k < 4 → ρ2 k = ρ k := hag
      have hI := hInv
      have hI : ∃ m q0 q k : Nat, m ≤ 8 ∧ q0 ≤ 1900 ∧ (zyEl (zymr r c) B s.heap) 75 2 = some (.int (Int32.ofNat m)) ∧ (zyEl (zymr r c) B s.heap) 74 14 = some (.int (Int32.ofNat q0)) ∧ k ≤ 7 ∧ zyIss c 1 m q0 q k (zyEl (zymr r c) B s.heap) ρ (zyEl (zymr r c) B H) := hI
      obtain ⟨hF, hB, hM⟩ := hXs
      have hEE : (zyEl (zymr r c) B H2) = (zyEl (zymr r c) B H) := zyfr0 hfr
      have ex := List.mem_singleton.mp hx
      subst ex
      obtain ⟨m, q0, q, k, hm, hq, s1, s2, hk, i1, i2, i3, i4, i5, i6, i7, i8, i9, i10, i11⟩ := hI
      have T1 : zyTy (zymr r c) (zyEl (zymr r c) B H) := hT
      have e0 := i5 (by decide)
      have z28 := zinv_28 (h := zyh c (zyEl (zymr r c) B H)) hm
      refine zyGoB hIH hAt hB ⟨2, by decide⟩ [595, 0, 0, 0] rfl rfl rfl rfl ⟨m, q0, q, 0, hm, hq, s1, s2, Nat.zero_le _, by rw [hEE]; exact i1, by rw [hEE]; exact i2, by rw [hEE]; exact i3, i4, fun h => absurd (show 2 ≤ 1 from h) (by decide), fun _ _ => rfl, fun _ => by rw [hEE]; omega, fun h => absurd (show 2 = 3 ∨ 2 = 4 from h) (by decide), fun h => absurd (show 2 = 3 from h) (by decide), fun h => absurd (show 2 = 4 from h) (by decide), fun h => absurd (show 2 = 5 from h) (by decide)⟩ ?_
      show zyMs3 c 2 _ _ _ < 100000 - 1
      refine Nat.lt_of_le_of_lt (Nat.le_of_eq (zyMs3_eq (c := c) (i := 2) (m := m) (k := 0) s1 hm (fun _ _ => rfl) (by omega) (by decide) (by decide))) ?_
      rw [hEE, zyMss_m (by decide)]
      omega
    · have hx : x ∈ [zxss_cx0] := hx
      have hg : ∀ k, k < 4 → ρ2 k = ρ k := hag
      have hI := hInv
      have hI : ∃ m q0 q k : Nat, m ≤ 8 ∧ q0 ≤ 1900 ∧ (zyEl (zymr r c) B s.heap) 75 2 = some (.int (Int32.ofNat m)) ∧ (zyEl (zymr r c) B s.heap) 74 14 = some (.int (Int32.ofNat q0)) ∧ k ≤ 7 ∧ zyIss c 2 m q0 q k (zyEl (zymr r c) B s.heap) ρ (zyEl (zymr r c) B H) := hI
      obtain ⟨hF, hB, hM⟩ := hXs
      have hEE : (zyEl (zymr r c) B H2) = (zyEl (zymr r c) B H) := zyfr0 hfr
      have ex := List.mem_singleton.mp hx
      subst ex
      obtain ⟨m, q0, q, k, hm, hq, s1, s2, hk, i1, i2, i3, i4, i5, i6, i7, i8, i9, i10, i11⟩ := hI
      have T1 : zyTy (zymr r c) (zyEl (zymr r c) B H) := hT
      have a1 : ρ2 1 = Int32.ofNat k := (hg 1 (by decide)).trans (i6 (by decide) (by decide))
      have b1 : ρ2 1 + Int32.ofNat 1 = Int32.ofNat (k + 1) := by rw [a1, zyOa]
      obtain ⟨n3, w1, w2, w3⟩ := zyXe hF 0 rfl
      have w1 : Int32.ofNat 2 = Int32.ofNat n3 := w1
      have w3 : zyEl (zymr r c) B H 75 n3 = some (.int (ρ2 4)) := w3
      have em : ρ2 4 = Int32.ofNat m := zyEk w1 (by decide) w2 w3 ((i1 75 2 (by decide) (by decide) (fun z => absurd z.1 (by decide))).trans s1)
      have f1 := zyX20 hF 1 rfl
      have f1 : ρ2 1 + Int32.ofNat 1 < ρ2 4 := f1
      rw [b1, em, zyOl (by omega) (by omega)] at f1
      obtain ⟨na, u1, u2, u3⟩ := zyXe hF 2 rfl
      have u1 : ρ2 1 = Int32.ofNat na := u1
      have u3 : zyEl (zymr r c) B H 79 na = some (.int (ρ2 5)) := u3
      rw [a1] at u1
      have e5 := zyEk u1 (by omega) u2 u3 (zli_el T1 (i := k) (by omega)).1
      obtain ⟨nb, u1, u2, u3⟩ := zyXe hF 3 rfl
      have u1 : ρ2 1 + Int32.ofNat 1 = Int32.ofNat nb := u1
      have u3 : zyEl (zymr r c) B H 79 nb = some (.int (ρ2 6)) := u3
      rw [b1] at u1
      have e6 := zyEk u1 (by omega) u2 u3 (zli_el T1 (i := k + 1) (by omega)).1
      have l5 := (zli_el T1 (i := k) (by omega)).2
      have l6 := (zli_el T1 (i := k + 1) (by omega)).2
      obtain ⟨nc, u1, u2, u3⟩ := zyXe hF 4 rfl
      have u1 : ρ2 6 = Int32.ofNat nc := u1
      have u3 : zyEl (zymr r c) B H 78 nc = some (.int (ρ2 7)) := u3
      rw [e6] at u1
      have e7 := zyEk u1 (by omega) u2 u3 (zth_el T1 l6).1
      obtain ⟨nd, u1, u2, u3⟩ := zyXe hF 5 rfl
      have u1 : ρ2 5 = Int32.ofNat nd := u1
      have u3 : zyEl (zymr r c) B H 78 nd = some (.int (ρ2 8)) := u3
      rw [e5] at u1
      have e8 := zyEk u1 (by omega) u2 u3 (zth_el T1 l5).1
      have l7 := (zth_el T1 l6).2
      have l8 := (zth_el T1 l5).2
      have zz := i7 (Or.inl rfl)
      refine zyCa1 hRu hIH hAt hB hah (ix := 182) (ax := 3312) rfl rfl rfl hmeah ⟨rfl, rfl, rfl, rfl⟩ (by decide) [240518168577, 274877906945] rfl (by decide) rfl ⟨3, by decide⟩ [595, 34359738369, 171798691841, 206158430209] [(0, 4294967295), (2147483648, 2147483654), (2147483648, 2147483655), (2147483648, 2147483655)] 2147483648 2147483649 rfl (by decide) rfl rfl rfl rfl rfl ?_ ?_
      · show zyΦah [ρ2 7, ρ2 8] _
        rw [e7, e8]
        exact ⟨_, _, rfl, l7, l8⟩
      · intro E3 vo hT3 hΨ
        have hΨ : zyΨah c [ρ2 7, ρ2 8] _ E3 vo := hΨ
        rw [e7, e8, hEE] at hΨ
        obtain ⟨e3, z, ez, hz, hzz⟩ := hΨ
        subst e3
        have hzz := hzz _ _ rfl l7 l8
        refine ⟨z, ez, ?_, ?_, ⟨m, q0, q, k, hm, hq, s1, s2, hk, i1, i2, i3, i4, fun h => absurd (show 3 ≤ 1 from h) (by decide), fun _ _ => (zyρi_n (by decide)).trans a1, fun h => absurd (show 3 = 2 ∨ 3 = 6 from h) (by decide), fun _ => ⟨f1, (zyρi_n (by decide)).trans e5, (zyρi_n (by decide)).trans e6, zz⟩, fun _ => ⟨fun q => hzz.mp (zyρi_e.symm.trans q), fun q => zyρi_e.trans (hzz.mpr q)⟩, fun h => absurd (show 3 = 4 from h) (by decide), fun h => absurd (show 3 = 5 from h) (by decide)⟩, ?_⟩
        · rcases hz with rfl | rfl <;> decide
        · rcases hz with rfl | rfl <;> decide
        · show zyMs3 c 3 _ _ _ < zyMs3 c 2 _ _ _
          refine Nat.lt_of_le_of_lt (Nat.le_of_eq (zyMs3_eq (c := c) (i := 3) (m := m) (k := k) s1 hm (fun _ _ => (zyρi_n (by decide)).trans a1) (by omega) (by decide) (by decide))) (Nat.lt_of_lt_of_eq ?_ (zyMs3_eq (c := c) (i := 2) (m := m) (k := k) s1 hm i6 (by omega) (by decide) (by decide)).symm)
          rw [zyMss_m (i := 3) (by decide), zyMss_m (i := 2) (by decide)]
          omega
    · have hx : x ∈ [zxss_dx0, zxss_dx1, zxss_dx2] := hx
      have hg : ∀ k, k < 5 → ρ2 k = ρ k := hag
      have hI := hInv
      have hI : ∃ m q0 q k : Nat, m ≤ 8 ∧ q0 ≤ 1900 ∧ (zyEl (zymr r c) B s.heap) 75 2 = some (.int (Int32.ofNat m)) ∧ (zyEl (zymr r c) B s.heap) 74 14 = some (.int (Int32.ofNat q0)) ∧ k ≤ 7 ∧ zyIss c 3 m q0 q k (zyEl (zymr r c) B s.heap) ρ (zyEl (zymr r c) B H) := hI
      obtain ⟨hF, hB, hM⟩ := hXs
      have hEE : (zyEl (zymr r c) B H2) = (zyEl (zymr r c) B H) := zyfr0 hfr
      rcases List.mem_cons.mp hx with ex | hx
      · subst ex
        obtain ⟨m, q0, q, k, hm, hq, s1, s2, hk, i1, i2, i3, i4, i5, i6, i7, i8, i9, i10, i11⟩ := hI
        have T1 : zyTy (zymr r c) (zyEl (zymr r c) B H) := hT
        have a1 : ρ2 1 = Int32.ofNat k := (hg 1 (by decide)).trans (i6 (by decide) (by decide))
        have b1 : ρ2 1 + Int32.ofNat 1 = Int32.ofNat (k + 1) := by rw [a1, zyOa]
        obtain ⟨k1, e2, e3, zz⟩ := i8 (Or.inl rfl)
        have a2 := (hg 2 (by decide)).trans e2
        have a3 := (hg 3 (by decide)).trans e3
        have a4 : ρ2 4 = ρ 4 := hg 4 (by decide)
        have f0 := zyX23 hF 0 rfl
        have f0 : ¬ ρ2 4 = Int32.ofNat 0 := f0
        have z4 : 2147483649 ≤ zB (ρ2 4) ∧ zB (ρ2 4) ≤ 2147483649 := zyXb hB 3 rfl
        have z4 : ρ2 4 = 1 := by
          rcases zybool (x := ρ2 4) (by omega) (by omega) with q | q
          · exact absurd q f0
          · exact q
        have dsc := (i9 rfl).mp (by rw [← a4]; exact z4)
        have ee := b1
        have hval : zVl m (ρ2 1 + Int32.ofNat 1) := ⟨true, k, k1, Or.inl ⟨rfl, ee⟩⟩
        refine zyCa0 hRu hIH hAt hB hsp (ix := 194) (ax := 3552) rfl rfl rfl hmesp ⟨rfl, rfl, rfl, rfl⟩ (by decide) [34359738377] rfl (by decide) rfl ⟨4, by decide⟩ [595, 34359738369, 68719476737, 103079215105] rfl rfl rfl rfl ?_ ?_
        · show zyΦsp [ρ2 1 + Int32.ofNat 1] _
          rw [hEE]
          refine ⟨_, q, rfl, ?_, ?_, by omega, i2⟩
          · rw [ee]
            rw [zyBn (by omega)]
            omega
          · rw [ee]
            rw [zyBn (by omega)]
            omega
        · intro E3 vo hT3 hΨ
          have hΨ : zyΨsp [ρ2 1 + Int32.ofNat 1] _ E3 vo := hΨ
          rw [hEE] at hΨ
          obtain ⟨ev, hq2⟩ := hΨ
          obtain ⟨p1, p2, p3⟩ := hq2 q (by omega) i2
          have hh : ∀ j, zyh c E3 j = zyh c (zyEl (zymr r c) B H) j := fun j => zyh_eq (p3 79 j (fun z => absurd z.1 (by decide)) (fun z => absurd z.1 (by decide))) (fun q => p3 78 q (fun z => absurd z.1 (by decide)) (fun z => absurd z.1 (by decide)))
          have hz : zinv (zyh c E3) m = zinv (zyh c (zyEl (zymr r c) B H)) m := zinv_congr (fun j _ => hh j)
          refine ⟨ev, ⟨m, q0, q + 1, k, hm, hq, s1, s2, hk, fun a k n1 n2 n3 => (p3 a k n3 (fun z => n2 z.1)).trans (i1 a k n1 n2 n3), p1, fun j hj => ?_, by omega, fun h => absurd (show 4 ≤ 1 from h) (by decide), fun _ _ => a1, fun h => absurd (show 4 = 2 ∨ 4 = 6 from h) (by decide), fun _ => ⟨k1, by rw [zli_eq (p3 79 k (fun z => absurd z.1 (by decide)) (fun z => absurd z.1 (by decide)))]; exact a2, by rw [zli_eq (p3 79 (k + 1) (fun z => absurd z.1 (by decide)) (fun z => absurd z.1 (by decide)))]; exact a3, (by show q + 1 + zinv (zyh c E3) m ≤ q0 + 28 + (4 - 3); have zz : q + zinv (zyh c (zyEl (zymr r c) B H)) m ≤ q0 + 28 + (3 - 3) := zz; rw [hz]; omega)⟩, fun h => absurd (show 4 = 3 from h) (by decide), fun _ => by rw [hh, hh]; exact dsc, fun h => absurd (show 4 = 5 from h) (by decide)⟩, ?_⟩
          · by_cases e : j = q
            · rw [e, zyI_s (p2 _ rfl (by omega))]
              exact hval
            · rw [zyI_eq (p3 80 j (fun z => absurd z.1 (by decide)) (fun z => e z.2.1))]
              exact i3 j (by omega)
          · show zyMs3 c 4 _ _ _ < zyMs3 c 3 _ _ _
            refine Nat.lt_of_le_of_lt (Nat.le_of_eq (zyMs3_eq (c := c) (i := 4) (m := m) (k := k) s1 hm (fun _ _ => a1) (by omega) (by decide) (by decide))) (Nat.lt_of_lt_of_eq ?_ (zyMs3_eq (c := c) (i := 3) (m := m) (k := k) s1 hm i6 (by omega) (by decide) (by decide)).symm)
            rw [zyMss_m (i := 4) (by decide), zyMss_m (i := 3) (by decide), hz]
            omega
      · skip
        rcases List.mem_cons.mp hx with ex | hx
        · subst ex
          obtain ⟨m, q0, q, k, hm, hq, s1, s2, hk, i1, i2, i3, i4, i5, i6, i7, i8, i9, i10, i11⟩ := hI
          have T1 : zyTy (zymr r c) (zyEl (zymr r c) B H) := hT
          have a1 : ρ2 1 = Int32.ofNat k := (hg 1 (by decide)).trans (i6 (by decide) (by decide))
          have b1 : ρ2 1 + Int32.ofNat 1 = Int32.ofNat (k + 1) := by rw [a1, zyOa]
          obtain ⟨k1, e2, e3, zz⟩ := i8 (Or.inl rfl)
          have a2 := (hg 2 (by decide)).trans e2
          have a3 := (hg 3 (by decide)).trans e3
          have a4 : ρ2 4 = ρ 4 := hg 4 (by decide)
          have f0 := zyX23 hF 0 rfl
          have f0 : ¬ ρ2 4 = Int32.ofNat 0 := f0
          have z4 : 2147483649 ≤ zB (ρ2 4) ∧ zB (ρ2 4) ≤ 2147483649 := zyXb hB 3 rfl
          have z4 : ρ2 4 = 1 := by
            rcases zybool (x := ρ2 4) (by omega) (by omega) with q | q
            · exact absurd q f0
            · exact q
          have dsc := (i9 rfl).mp (by rw [← a4]; exact z4)
          have f2 := zyXop hF 2 rfl (by decide)
          have f2 : ρ2 6 = Int32.ofNat 0 - ρ2 1 := f2
          have ee : ρ2 6 + Int32.ofNat 4294967295 = Int32.ofNat (4294967295 - k) := by
            rw [f2, a1]
            apply zN_inj
            rw [zN_add, zN_sub, zN_of, zN_of, zN_of, zN_of]
            omega
          have hval : zVl m (ρ2 6 + Int32.ofNat 4294967295) := ⟨false, k, k1, Or.inr ⟨rfl, ee⟩⟩
          refine zyCa0 hRu hIH hAt hB hsp (ix := 194) (ax := 3552) rfl rfl rfl hmesp ⟨rfl, rfl, rfl, rfl⟩ (by decide) [240518168569] rfl (by decide) rfl ⟨4, by decide⟩ [595, 34359738369, 68719476737, 103079215105] rfl rfl rfl rfl ?_ ?_
          · show zyΦsp [ρ2 6 + Int32.ofNat 4294967295] _
            rw [hEE]
            refine ⟨_, q, rfl, ?_, ?_, by omega, i2⟩
            · rw [ee]
              rw [zyBng (by omega)]
              omega
            · rw [ee]
              rw [zyBng (by omega)]
              omega
          · intro E3 vo hT3 hΨ
            have hΨ : zyΨsp [ρ2 6 + Int32.ofNat 4294967295] _ E3 vo := hΨ
            rw [hEE] at hΨ
            obtain ⟨ev, hq2⟩ := hΨ
            obtain ⟨p1, p2, p3⟩ := hq2 q (by omega) i2
            have hh : ∀ j, zyh c E3 j = zyh c (zyEl (zymr r c) B H) j := fun j => zyh_eq (p3 79 j (fun z => absurd z.1 (by decide)) (fun z => absurd z.1 (by decide))) (fun q => p3 78 q (fun z => absurd z.1 (by decide)) (fun z => absurd z.1 (by decide)))
            have hz : zinv (zyh c E3) m = zinv (zyh c (zyEl (zymr r c) B H)) m := zinv_congr (fun j _ => hh j)
            refine ⟨ev, ⟨m, q0, q + 1, k, hm, hq, s1, s2, hk, fun a k n1 n2 n3 => (p3 a k n3 (fun z => n2 z.1)).trans (i1 a k n1 n2 n3), p1, fun j hj => ?_, by omega, fun h => absurd (show 4 ≤ 1 from h) (by decide), fun _ _ => a1, fun h => absurd (show 4 = 2 ∨ 4 = 6 from h) (by decide), fun _ => ⟨k1, by rw [zli_eq (p3 79 k (fun z => absurd z.1 (by decide)) (fun z => absurd z.1 (by decide)))]; exact a2, by rw [zli_eq (p3 79 (k + 1) (fun z => absurd z.1 (by decide)) (fun z => absurd z.1 (by decide)))]; exact a3, (by show q + 1 + zinv (zyh c E3) m ≤ q0 + 28 + (4 - 3); have zz : q + zinv (zyh c (zyEl (zymr r c) B H)) m ≤ q0 + 28 + (3 - 3) := zz; rw [hz]; omega)⟩, fun h => absurd (show 4 = 3 from h) (by decide), fun _ => by rw [hh, hh]; exact dsc, fun h => absurd (show 4 = 5 from h) (by decide)⟩, ?_⟩
            · by_cases e : j = q
              · rw [e, zyI_s (p2 _ rfl (by omega))]
                exact hval
              · rw [zyI_eq (p3 80 j (fun z => absurd z.1 (by decide)) (fun z => e z.2.1))]
                exact i3 j (by omega)
            · show zyMs3 c 4 _ _ _ < zyMs3 c 3 _ _ _
              refine Nat.lt_of_le_of_lt (Nat.le_of_eq (zyMs3_eq (c := c) (i := 4) (m := m) (k := k) s1 hm (fun _ _ => a1) (by omega) (by decide) (by decide))) (Nat.lt_of_lt_of_eq ?_ (zyMs3_eq (c := c) (i := 3) (m := m) (k := k) s1 hm i6 (by omega) (by decide) (by decide)).symm)
              rw [zyMss_m (i := 4) (by decide), zyMss_m (i := 3) (by decide), hz]
              omega
        · skip
          have ex := List.mem_singleton.mp hx
          subst ex
          obtain ⟨m, q0, q, k, hm, hq, s1, s2, hk, i1, i2, i3, i4, i5, i6, i7, i8, i9, i10, i11⟩ := hI
          have T1 : zyTy (zymr r c) (zyEl (zymr r c) B H) := hT
          have a1 : ρ2 1 = Int32.ofNat k := (hg 1 (by decide)).trans (i6 (by decide) (by decide))
          have b1 : ρ2 1 + Int32.ofNat 1 = Int32.ofNat (k + 1) := by rw [a1, zyOa]
          obtain ⟨k1, e2, e3, zz⟩ := i8 (Or.inl rfl)
          refine zyGoB hIH hAt hB ⟨2, by decide⟩ [595, 34359738377, 0, 0] rfl rfl rfl rfl ⟨m, q0, q, k + 1, hm, hq, s1, s2, by omega, by rw [hEE]; exact i1, by rw [hEE]; exact i2, by rw [hEE]; exact i3, i4, fun h => absurd (show 2 ≤ 1 from h) (by decide), fun _ _ => b1, fun _ => by rw [hEE]; exact zz, fun h => absurd (show 2 = 3 ∨ 2 = 4 from h) (by decide), fun h => absurd (show 2 = 3 from h) (by decide), fun h => absurd (show 2 = 4 from h) (by decide), fun h => absurd (show 2 = 5 from h) (by decide)⟩ ?_
          show zyMs3 c 2 _ _ _ < zyMs3 c 3 _ _ _
          refine Nat.lt_of_le_of_lt (Nat.le_of_eq (zyMs3_eq (c := c) (i := 2) (m := m) (k := k + 1) s1 hm (fun _ _ => b1) (by omega) (by decide) (by decide))) (Nat.lt_of_lt_of_eq ?_ (zyMs3_eq (c := c) (i := 3) (m := m) (k := k) s1 hm i6 (by omega) (by decide) (by decide)).symm)
          rw [hEE, zyMss_m (i := 2) (by decide), zyMss_m (i := 3) (by decide)]
          omega
    · have hx : x ∈ [zxss_ex0] := hx
      have hg : ∀ k, k < 4 → ρ2 k = ρ k := hag
      have hI := hInv
      have hI : ∃ m q0 q k : Nat, m ≤ 8 ∧ q0 ≤ 1900 ∧ (zyEl (zymr r c) B s.heap) 75 2 = some (.int (Int32.ofNat m)) ∧ (zyEl (zymr r c) B s.heap) 74 14 = some (.int (Int32.ofNat q0)) ∧ k ≤ 7 ∧ zyIss c 4 m q0 q k (zyEl (zymr r c) B s.heap) ρ (zyEl (zymr r c) B H) := hI
      obtain ⟨hF, hB, hM⟩ := hXs
      have hEE : (zyEl (zymr r c) B H2) = (zyEl (zymr r c) B H) := zyfr0 hfr
      have ex := List.mem_singleton.mp hx
      subst ex
      obtain ⟨m, q0, q, k, hm, hq, s1, s2, hk, i1, i2, i3, i4, i5, i6, i7, i8, i9, i10, i11⟩ := hI
      have T1 : zyTy (zymr r c) (zyEl (zymr r c) B H) := hT
      have a1 : ρ2 1 = Int32.ofNat k := (hg 1 (by decide)).trans (i6 (by decide) (by decide))
      have b1 : ρ2 1 + Int32.ofNat 1 = Int32.ofNat (k + 1) := by rw [a1, zyOa]
      obtain ⟨k1, e2, e3, zz⟩ := i8 (Or.inr rfl)
      have zz : q + zinv (zyh c (zyEl (zymr r c) B H)) m ≤ q0 + 28 + (4 - 3) := zz
      have dsc := i10 rfl
      have a2 := (hg 2 (by decide)).trans e2
      have a3 := (hg 3 (by decide)).trans e3
      have l5 := (zli_el T1 (i := k) (by omega)).2
      have l6 := (zli_el T1 (i := k + 1) (by omega)).2
      refine zyAsB hRu hIH hAt hB 79 k (20, 8, [(0, 7, 73786976312018075706)]) rfl rfl rfl (cv := 103079215105) (cj := 34359738369) rfl (by decide) (by decide) ⟨5, by decide⟩ [595, 34359738369, 68719476737, 103079215105] rfl rfl rfl rfl (show k < 8 by omega) a1 ?_ ?_
      · intro r0 hr0 _ _
        rw [List.mem_singleton.mp hr0]
        refine ⟨rfl, ?_⟩
        show 2147483648 ≤ zB (ρ2 3) ∧ zB (ρ2 3) ≤ 2147483655
        rw [a3, zyBn (by omega)]
        omega
      · intro E3 hT3 p1 p2
        have p1 : E3 79 k = some (.int (ρ2 3)) := p1
        rw [hEE] at p2
        have ht : ∀ j, zth E3 j = zth (zyEl (zymr r c) B H) j := fun j => zth_eq (p2 78 j (fun z => absurd z.1 (by decide)))
        have hl : ∀ j, j < 8 → zli E3 j = if j = k then zli (zyEl (zymr r c) B H) (k + 1) else zli (zyEl (zymr r c) B H) j := fun j hj => by
          by_cases e : j = k
          · rw [if_pos e, e]
            unfold zli
            rw [zyI_s p1, a3, zyN1_of (by omega)]
            rfl
          · rw [if_neg e]
            exact zli_eq (p2 79 j (fun z => e z.2))
        have hz : zinv (fun j => zky c (zth E3 (zli (zyEl (zymr r c) B H) j))) m = zinv (zyh c (zyEl (zymr r c) B H)) m := zinv_congr (fun j _ => by rw [ht]; rfl)
        refine ⟨⟨m, q0, q, k, hm, hq, s1, s2, hk, fun a k n1 n2 n3 => (p2 a k (fun z => n1 z.1)).trans (i1 a k n1 n2 n3), (p2 74 14 (fun z => absurd z.1 (by decide))).trans i2, fun j hj => by rw [zyI_eq (p2 80 j (fun z => absurd z.1 (by decide)))]; exact i3 j hj, i4, fun h => absurd (show 5 ≤ 1 from h) (by decide), fun _ _ => a1, fun h => absurd (show 5 = 2 ∨ 5 = 6 from h) (by decide), fun h => absurd (show 5 = 3 ∨ 5 = 4 from h) (by decide), fun h => absurd (show 5 = 3 from h) (by decide), fun h => absurd (show 5 = 4 from h) (by decide), fun _ => ⟨zli (zyEl (zymr r c) B H), k1, a2, l5, by rw [ht, ht]; exact dsc, hl, by rw [hz]; omega⟩⟩, ?_⟩
        show zyMs3 c 5 _ _ _ < zyMs3 c 4 _ _ _
        refine Nat.lt_of_le_of_lt (Nat.le_of_eq (zyMs3_5 (c := c) (m := m) (k := k) (g := zli (zyEl (zymr r c) B H)) s1 hm a1 (by omega) a2 l5 hl)) (Nat.lt_of_lt_of_eq ?_ (zyMs3_eq (c := c) (i := 4) (m := m) (k := k) s1 hm i6 (by omega) (by decide) (by decide)).symm)
        rw [zyMss_m (i := 5) (by decide), zyMss_m (i := 4) (by decide), hz]
        omega
    · have hx : x ∈ [zxss_fx0] := hx
      have hg : ∀ k, k < 4 → ρ2 k = ρ k := hag
      have hI := hInv
      have hI : ∃ m q0 q k : Nat, m ≤ 8 ∧ q0 ≤ 1900 ∧ (zyEl (zymr r c) B s.heap) 75 2 = some (.int (Int32.ofNat m)) ∧ (zyEl (zymr r c) B s.heap) 74 14 = some (.int (Int32.ofNat q0)) ∧ k ≤ 7 ∧ zyIss c 5 m q0 q k (zyEl (zymr r c) B s.heap) ρ (zyEl (zymr r c) B H) := hI
      obtain ⟨hF, hB, hM⟩ := hXs
      have hEE : (zyEl (zymr r c) B H2) = (zyEl (zymr r c) B H) := zyfr0 hfr
      have ex := List.mem_singleton.mp hx
      subst ex
      obtain ⟨m, q0, q, k, hm, hq, s1, s2, hk, i1, i2, i3, i4, i5, i6, i7, i8, i9, i10, i11⟩ := hI
      have T1 : zyTy (zymr r c) (zyEl (zymr r c) B H) := hT
      have a1 : ρ2 1 = Int32.ofNat k := (hg 1 (by decide)).trans (i6 (by decide) (by decide))
      have b1 : ρ2 1 + Int32.ofNat 1 = Int32.ofNat (k + 1) := by rw [a1, zyOa]
      obtain ⟨g, k1, e2, l2, dsc, hl, zz⟩ := i11 rfl
      have a2 := (hg 2 (by decide)).trans e2
      refine zyAsB hRu hIH hAt hB 79 (k + 1) (20, 8, [(0, 7, 73786976312018075706)]) rfl rfl rfl (cv := 68719476737) (cj := 34359738377) rfl (by decide) (by decide) ⟨6, by decide⟩ [595, 0, 0, 0] rfl rfl rfl rfl (show k + 1 < 8 by omega) b1 ?_ ?_
      · intro r0 hr0 _ _
        rw [List.mem_singleton.mp hr0]
        refine ⟨rfl, ?_⟩
        show 2147483648 ≤ zB (ρ2 2) ∧ zB (ρ2 2) ≤ 2147483655
        rw [a2, zyBn (by omega)]
        omega
      · intro E3 hT3 p1 p2
        have p1 : E3 79 (k + 1) = some (.int (ρ2 2)) := p1
        rw [hEE] at p2
        have ht : ∀ j, zth E3 j = zth (zyEl (zymr r c) B H) j := fun j => zth_eq (p2 78 j (fun z => absurd z.1 (by decide)))
        have hl2 : ∀ j, j < 8 → zyh c E3 j = zsw (fun j => zky c (zth (zyEl (zymr r c) B H) (g j))) k j := fun j hj => by
          unfold zyh zsw
          rw [ht]
          by_cases e : j = k + 1
          · rw [if_neg (by omega), if_pos e, e]
            have : zli E3 (k + 1) = g k := by
              unfold zli
              rw [zyI_s p1, a2, zyN1_of (by omega)]
            rw [this]
          · rw [zli_eq (p2 79 j (fun z => e z.2)), hl j hj]
            by_cases e2 : j = k
            · rw [if_pos e2, if_pos e2]
            · rw [if_neg e2, if_neg e2, if_neg e]
        have hz : zinv (zyh c E3) m = zinv (zsw (fun j => zky c (zth (zyEl (zymr r c) B H) (g j))) k) m := zinv_congr (fun j hj => hl2 j (by omega))
        have hlt := zinv_lt (h := fun j => zky c (zth (zyEl (zymr r c) B H) (g j))) dsc k1
        refine ⟨⟨m, q0, q, k, hm, hq, s1, s2, hk, fun a k n1 n2 n3 => (p2 a k (fun z => n1 z.1)).trans (i1 a k n1 n2 n3), (p2 74 14 (fun z => absurd z.1 (by decide))).trans i2, fun j hj => by rw [zyI_eq (p2 80 j (fun z => absurd z.1 (by decide)))]; exact i3 j hj, i4, fun h => absurd (show 6 ≤ 1 from h) (by decide), fun _ h => absurd (show 6 ≤ 5 from h) (by decide), fun _ => by rw [hz]; omega, fun h => absurd (show 6 = 3 ∨ 6 = 4 from h) (by decide), fun h => absurd (show 6 = 3 from h) (by decide), fun h => absurd (show 6 = 4 from h) (by decide), fun h => absurd (show 6 = 5 from h) (by decide)⟩, ?_⟩
        show zyMs3 c 6 _ _ _ < zyMs3 c 5 _ _ _
        refine Nat.lt_of_le_of_lt (Nat.le_of_eq (zyMs3_eq (c := c) (i := 6) (m := m) (k := k) s1 hm (fun _ h => absurd (show 6 ≤ 5 from h) (by decide)) (by omega) (by decide) (by decide))) (Nat.lt_of_lt_of_eq ?_ (zyMs3_5 (c := c) (m := m) (k := k) (g := g) s1 hm (i6 (by decide) (by decide)) (by omega) e2 l2 hl).symm)
        rw [zyMss_6, zyMss_m (i := 5) (by decide), hz]
        omega
    · have hx : x ∈ [zxss_gx0] := hx
      have hg : ∀ k, k < 4 → ρ2 k = ρ k := hag
      have hI := hInv
      have hI : ∃ m q0 q k : Nat, m ≤ 8 ∧ q0 ≤ 1900 ∧ (zyEl (zymr r c) B s.heap) 75 2 = some (.int (Int32.ofNat m)) ∧ (zyEl (zymr r c) B s.heap) 74 14 = some (.int (Int32.ofNat q0)) ∧ k ≤ 7 ∧ zyIss c 6 m q0 q k (zyEl (zymr r c) B s.heap) ρ (zyEl (zymr r c) B H) := hI
      obtain ⟨hF, hB, hM⟩ := hXs
      have hEE : (zyEl (zymr r c) B H2) = (zyEl (zymr r c) B H) := zyfr0 hfr
      have ex := List.mem_singleton.mp hx
      subst ex
      obtain ⟨m, q0, q, k, hm, hq, s1, s2, hk, i1, i2, i3, i4, i5, i6, i7, i8, i9, i10, i11⟩ := hI
      have T1 : zyTy (zymr r c) (zyEl (zymr r c) B H) := hT
      have zz := i7 (Or.inr rfl)
      refine zyGoB hIH hAt hB ⟨2, by decide⟩ [595, 0, 0, 0] rfl rfl rfl rfl ⟨m, q0, q, 0, hm, hq, s1, s2, Nat.zero_le _, by rw [hEE]; exact i1, by rw [hEE]; exact i2, by rw [hEE]; exact i3, i4, fun h => absurd (show 2 ≤ 1 from h) (by decide), fun _ _ => rfl, fun _ => by rw [hEE]; exact zz, fun h => absurd (show 2 = 3 ∨ 2 = 4 from h) (by decide), fun h => absurd (show 2 = 3 from h) (by decide), fun h => absurd (show 2 = 4 from h) (by decide), fun h => absurd (show 2 = 5 from h) (by decide)⟩ ?_
      show zyMs3 c 2 _ _ _ < zyMs3 c 6 _ _ _
      refine Nat.lt_of_le_of_lt (Nat.le_of_eq (zyMs3_eq (c := c) (i := 2) (m := m) (k := 0) s1 hm (fun _ _ => rfl) (by omega) (by decide) (by decide))) (Nat.lt_of_lt_of_eq ?_ (zyMs3_eq (c := c) (i := 6) (m := m) (k := k) s1 hm i6 (by omega) (by decide) (by decide)).symm)
      rw [hEE, zyMss_m (i := 2) (by decide), zyMss_6]
      omega
  · intro as E0 E E2 hT0 hΦ hlen i ρ hT hInv x hx ρ2 N2 B vo hXs hag hfr hT2 hvo
    rcases i with ⟨i, hi⟩
    have hi2 : i = 0 ∨ i = 1 ∨ i = 2 ∨ i = 3 ∨ i = 4 ∨ i = 5 ∨ i = 6 := by omega
    rcases hi2 with rfl | rfl | rfl | rfl | rfl | rfl | rfl
    · cases hx
    · cases hx
    · have hx : x ∈ [zxss_cr0] := hx
      have hg : ∀ k, k < 4 → ρ2 k = ρ k := hag
      have hI := hInv
      have hI : ∃ m q0 q k : Nat, m ≤ 8 ∧ q0 ≤ 1900 ∧ E0 75 2 = some (.int (Int32.ofNat m)) ∧ E0 74 14 = some (.int (Int32.ofNat q0)) ∧ k ≤ 7 ∧ zyIss c 2 m q0 q k E0 ρ E := hI
      obtain ⟨hF, hB, hM⟩ := hXs
      have hEE : E2 = E := zyfr0 hfr
      have ex := List.mem_singleton.mp hx
      subst ex
      obtain ⟨m, q0, q, k, hm, hq, s1, s2, hk, i1, i2, i3, i4, i5, i6, i7, -⟩ := hI
      have zz := i7 (Or.inl rfl)
      rw [hEE]
      refine ⟨zyvo_0 (show zyvo _ [] vo from hvo), i1, fun m' q' c1 c2 c3 c4 => ?_⟩
      rw [s1] at c3
      rw [s2] at c4
      have e1 := zyOi (by omega) (by omega) (Value.int.inj (Option.some.inj c3))
      have e2 := zyOi (by omega) (by omega) (Value.int.inj (Option.some.inj c4))
      subst e1
      subst e2
      exact ⟨q, i4, by omega, i2, i3⟩
    · cases hx
    · cases hx
    · cases hx
    · cases hx
