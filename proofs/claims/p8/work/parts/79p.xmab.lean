/-! THE CLASS's frame, plan 18 -/
noncomputable def xgeoB17 (M : List (Nat × Nat)) (r c : Nat) : Bool := zand (zyAll (fun s => zand (xtb M (20 * 16384 + s) (8 * zgT c s)) (zand (xtb M (21 * 16384 + s) (8 * zgF r c s)) (zand (xtb M (22 * 16384 + s) (8 * zgG r c s)) (zand (xtb M (23 * 16384 + s) (8 * zgXn c s)) (xtb M (24 * 16384 + s) (8 * zgYn c s)))))) (zgNS r c))
  (zand (zyAll (fun g => zand (xtb M (25 * 16384 + g) (8 * zg1n r c g)) (xtb M (26 * 16384 + g) (8 * zg2n r c g))) (zgNG r c))
  (zand (zyAll (fun g => zand (xtb M (27 * 16384 + g) (8 * 0)) (zand (xtb M (28 * 16384 + g) (8 * 1)) (zand (xtb M (29 * 16384 + g) (8 * 0)) (xtb M (30 * 16384 + g) (8 * 0))))) 31)
  (zand (xtb M (18 * 16384 + 5) (8 * 0)) (zand (xtb M (18 * 16384 + 8) (8 * 0)) (zand (xtb M (19 * 16384 + 2) (8 * zgNS r c)) (xtb M (19 * 16384 + 3) (8 * zgNG r c)))))))
/-- the frame of plan 18 -/
def xGeo17 (E : zyEm) (r c : Nat) : Prop := (∀ s : Nat, s < zgNS r c → xE E 20 s = xsg (zgT c s) ∧ xE E 21 s = xsg (zgF r c s) ∧ xE E 22 s = xsg (zgG r c s) ∧ xE E 23 s = xsg (zgXn c s) ∧ xE E 24 s = xsg (zgYn c s)) ∧ ∀ g : Nat, g < zgNG r c → xE E 25 g = xsg (zg1n r c g) ∧ xE E 26 g = xsg (zg2n r c g)
theorem xGeo17_of {M : List (Nat × Nat)} {v : Nat → Int} {E2 : zyEm} (hM : ∀ p ∈ M, xE E2 (p.1 / 16384) ((p.1 % 16384 : Nat) : Int) = xc v p.2) {r c : Nat} (h1 : 1 ≤ r) (h2 : r ≤ 4) (h3 : 1 ≤ c) (h4 : c ≤ 5) (hS : zgNS r c ≤ 80) (hG : zgNG r c ≤ 31) (h : xgeoB17 M r c = true) (hr : xE E2 19 0 = r) (hc : xE E2 19 1 = c) (hn : zyAll (fun s => zand (Nat.ble (Nat.succ (zgT c s)) 4294967296) (zand (Nat.ble (Nat.succ (zgF r c s)) 4294967296) (Nat.ble (Nat.succ (zgG r c s)) 4294967296))) (zgNS r c) = true) (hn2 : zyAll (fun g => zand (Nat.ble (Nat.succ (zg1n r c g)) 4294967296) (Nat.ble (Nat.succ (zg2n r c g)) 4294967296)) (zgNG r c) = true) : xAb17 E2 (pClr r c) ∧ xGeo17 E2 r c := by
  obtain ⟨b1, h⟩ := zand_iff h
  obtain ⟨b2, h⟩ := zand_iff h
  obtain ⟨b3, h⟩ := zand_iff h
  obtain ⟨b4, h⟩ := zand_iff h
  obtain ⟨b5, h⟩ := zand_iff h
  obtain ⟨b6, b7⟩ := zand_iff h
  have g1 : xGeo17 E2 r c := by
    refine ⟨fun s hs => ?_, fun g hg => ?_⟩
    · obtain ⟨q1, q⟩ := zand_iff (zyAll_iff b1 s hs)
      obtain ⟨q2, q⟩ := zand_iff q
      obtain ⟨q3, q⟩ := zand_iff q
      obtain ⟨q4, q5⟩ := zand_iff q
      obtain ⟨n1, n⟩ := zand_iff (zyAll_iff hn s hs)
      obtain ⟨n2, n3⟩ := zand_iff n
      exact ⟨xtb_E hM (by omega) (zbleT n1) q1, xtb_E hM (by omega) (zbleT n2) q2, xtb_E hM (by omega) (zbleT n3) q3, xtb_E hM (by omega) (Nat.mod_lt _ (by decide)) q4, xtb_E hM (by omega) (Nat.mod_lt _ (by decide)) q5⟩
    · obtain ⟨q1, q2⟩ := zand_iff (zyAll_iff b2 g hg)
      obtain ⟨n1, n2⟩ := zand_iff (zyAll_iff hn2 g hg)
      exact ⟨xtb_E hM (by omega) (zbleT n1) q1, xtb_E hM (by omega) (zbleT n2) q2⟩
  have e5 : xE E2 18 5 = 0 := xtb_E hM (k := 5) (n := 0) (by omega) (by omega) b4
  have e8 : xE E2 18 8 = 0 := xtb_E hM (k := 8) (n := 0) (by omega) (by omega) b5
  have f2 : xE E2 19 2 = _ := xtb_E hM (k := 2) (by omega) (by omega) b6
  have f3 : xE E2 19 3 = _ := xtb_E hM (k := 3) (by omega) (by omega) b7
  rw [xsg_n (by omega)] at f2 f3
  refine ⟨⟨?_, ?_, ?_, ?_, ?_, ?_, ?_⟩, g1⟩
  · show 1 ≤ (r : Int) ∧ (r : Int) ≤ 4 ∧ 1 ≤ (c : Int) ∧ (c : Int) ≤ 5 ∧ (0 : Int) ≤ 0 ∧ (0 : Int) ≤ 8 ∧ (-1 : Int) ≤ 60
    omega
  · show xE E2 19 0 = r ∧ xE E2 19 1 = c ∧ xE E2 19 2 = sN r c ∧ xE E2 19 3 = gN r c
    rw [sN_n, gN_n h1 h3]
    exact ⟨hr, hc, f2, f3⟩
  · intro s s0 s1
    have s1 : s < sN r c := s1
    rw [sN_n] at s1
    have := (g1.1 s.toNat (by omega)).2.1
    rw [Int.toNat_of_nonneg s0] at this
    rw [this]
    rfl
  · refine ⟨e5, fun b b0 b1 => ?_⟩
    have b1 : b < 0 := b1
    omega
  · intro g g0 g1
    obtain ⟨q1, q⟩ := zand_iff (zyAll_iff b3 g.toNat (by omega))
    obtain ⟨q2, q⟩ := zand_iff q
    obtain ⟨q3, q4⟩ := zand_iff q
    have w1 := xtb_E hM (by omega) (by omega) q1
    have w2 := xtb_E hM (by omega) (by omega) q2
    have w3 := xtb_E hM (by omega) (by omega) q3
    have w4 := xtb_E hM (by omega) (by omega) q4
    rw [Int.toNat_of_nonneg g0] at w1 w2 w3 w4
    rw [w1, w2, w3, w4]
    unfold pClr
    rw [if_neg (by omega), if_neg (by omega), if_neg (by omega), if_neg (by omega), if_neg (by omega), if_neg (by omega), if_neg (by omega), if_pos (by omega), if_neg (by omega), if_neg (by omega), if_neg (by omega), if_neg (by omega), if_neg (by omega), if_neg (by omega), if_neg (by omega), if_neg (by omega)]
    exact ⟨rfl, rfl, rfl, rfl⟩
  · exact Or.inl ⟨e8, rfl⟩
  · intro k k0 k1
    have k1 : k < -1 := k1
    omega
/-- where a switch stands, something faces: as it was, or so -/
def xJk17 (E E2 : zyEm) : Prop := ∀ i, 0 ≤ i → i ≤ 79 → (xE E2 21 i = xE E 21 i ∧ xE E2 22 i = xE E 22 i) ∨ (0 ≤ xE E2 22 i → 0 ≤ xE E2 21 i)
theorem xJk17_of {E E2 : zyEm} {r c : Nat} (h1 : 1 ≤ r) (h2 : r ≤ 4) (h3 : 1 ≤ c) (h4 : c ≤ 5) (hS : zgNS r c ≤ 80) (hG : xGeo17 E2 r c) (h : ∀ i : Int, (zgNS r c : Int) ≤ i → i ≤ 79 → xE E2 21 i = xE E 21 i ∧ xE E2 22 i = xE E 22 i) : xJk17 E E2 := by
  intro i i0 i1
  by_cases hi : i < (zgNS r c : Int)
  · right
    intro hg
    obtain ⟨-, w1, w2, -, -⟩ := hG.1 i.toNat (by omega)
    rw [Int.toNat_of_nonneg i0] at w1 w2
    obtain ⟨-, q⟩ := zand_iff (zyAll_iff (zyAllP_iff zgAll h1 h2 h3 h4) i.toNat (by omega))
    rcases zif_iff q with ⟨q1, -⟩ | ⟨-, q1⟩
    · rw [w2, zbeqT q1] at hg
      exact absurd hg (by decide)
    · obtain ⟨q2, -⟩ := zand_iff q1
      obtain ⟨-, q3⟩ := zand_iff q2
      have q3 := zbleT q3
      rw [w1, xsg_n (by omega)]
      omega
  · left
    exact h i (by omega) i1
def xΦcl17 (x : Nat → Int) (_ : zyEm) : Prop := 1 ≤ x 0 ∧ x 0 ≤ 4 ∧ 1 ≤ x 1 ∧ x 1 ≤ 5
def xΦcl17_ (rc : Nat × Nat) (x : Nat → Int) (_ : zyEm) : Prop := x 0 = rc.1 ∧ x 1 = rc.2
def xΨcl17 (x : Nat → Int) (E E2 : zyEm) (_ : Int) : Prop := xAb17 E2 (pClr (x 0) (x 1)) ∧ xGeo17 E2 (x 0).toNat (x 1).toNat ∧ xJk17 E E2
noncomputable def zxfcl17_11_ar0 : zyXp := (0, [], [], [], [(34359738369, 2147483649, 2147483649), (68719476737, 2147483649, 2147483649)], [(311296, 34359738369), (311297, 68719476737), (311298, 32), (311299, 0), (294917, 0), (294920, 0), (540673, 0), (327680, 8), (327681, 16), (327682, 24), (327683, 0), (344064, 34359738360), (344065, 34359738360), (344066, 34359738360), (344067, 34359738360), (360448, 34359738360), (360449, 34359738360), (360450, 34359738360), (360451, 34359738360), (376832, 0), (376833, 8), (376834, 0), (376835, 34359738360), (393216, 34359738360), (393217, 0), (393218, 8), (393219, 0), (442368, 0), (442369, 0), (442370, 0), (442371, 0), (442372, 0), (442373, 0), (442374, 0), (442375, 0), (442376, 0), (442377, 0), (442378, 0), (442379, 0), (442380, 0), (442381, 0), (442382, 0), (442383, 0), (442384, 0), (442385, 0), (442386, 0), (442387, 0), (442388, 0), (442389, 0), (442390, 0), (442391, 0), (442392, 0), (442393, 0), (442394, 0), (442395, 0), (442396, 0), (442397, 0), (442398, 0), (458752, 8), (458753, 8), (458754, 8), (458755, 8), (458756, 8), (458757, 8), (458758, 8), (458759, 8), (458760, 8), (458761, 8), (458762, 8), (458763, 8), (458764, 8), (458765, 8), (458766, 8), (458767, 8), (458768, 8), (458769, 8), (458770, 8), (458771, 8), (458772, 8), (458773, 8), (458774, 8), (458775, 8), (458776, 8), (458777, 8), (458778, 8), (458779, 8), (458780, 8), (458781, 8), (458782, 8), (475136, 0), (475137, 0), (475138, 0), (475139, 0), (475140, 0), (475141, 0), (475142, 0), (475143, 0), (475144, 0), (475145, 0), (475146, 0), (475147, 0), (475148, 0), (475149, 0), (475150, 0), (475151, 0), (475152, 0), (475153, 0), (475154, 0), (475155, 0), (475156, 0), (475157, 0), (475158, 0), (475159, 0), (475160, 0), (475161, 0), (475162, 0), (475163, 0), (475164, 0), (475165, 0), (475166, 0), (491520, 0), (491521, 0), (491522, 0), (491523, 0), (491524, 0), (491525, 0), (491526, 0), (491527, 0), (491528, 0), (491529, 0), (491530, 0), (491531, 0), (491532, 0), (491533, 0), (491534, 0), (491535, 0), (491536, 0), (491537, 0), (491538, 0), (491539, 0), (491540, 0), (491541, 0), (491542, 0), (491543, 0), (491544, 0), (491545, 0), (491546, 0), (491547, 0), (491548, 0), (491549, 0), (491550, 0)])
noncomputable def zpfcl17_11_a : zyPh := (0, [147, 34359738369, 68719476737, 13], [(0, 4294967295), (2147483649, 2147483649), (2147483649, 2147483649), (0, 4294967295)], [], [])
noncomputable def zpfcl17_11 (i : Nat) : zyPh := zpfcl17_11_a
noncomputable def zXfcl17_11 (i : Nat) : List zyXp := []
noncomputable def zRfcl17_11 (i : Nat) : List zyXp := [zxfcl17_11_ar0]
noncomputable def zFfcl17_11 (i : Nat) : zyR := [(18, 5, 5), (18, 8, 8), (19, 0, 3), (20, 0, 3), (21, 0, 3), (22, 0, 3), (23, 0, 3), (24, 0, 3), (25, 0, 30), (26, 0, 30), (27, 0, 30), (28, 0, 30), (29, 0, 30), (30, 0, 30), (33, 1, 1)]
noncomputable def zSfcl17_11 (i : Nat) : Nat := 0
theorem zyfcl17_11_geo : xgeoB17 (zxfcl17_11_ar0).2.2.2.2.2 1 1 = true := by decide +kernel
noncomputable def fpfcl17_11 : zyR := [(18, 5, 5), (18, 8, 8), (19, 0, 3), (20, 0, 79), (21, 0, 79), (22, 0, 79), (23, 0, 79), (24, 0, 79), (25, 0, 30), (26, 0, 30), (27, 0, 30), (28, 0, 30), (29, 0, 30), (30, 0, 30), (33, 1, 1)]
theorem zyfcl17_11_run : zyrS zymc zxi31 (31, 0, 0, 0, 0) 3 zpfcl17_11 (fun _ _ => []) zFfcl17_11 zSfcl17_11 zXfcl17_11 zRfcl17_11 1 = true := by decide +kernel
theorem zyfcl17_11_ck : zyAll (fun i => xsubR (zFfcl17_11 i) fpfcl17_11 && ((zXfcl17_11 i).all xckX && (zRfcl17_11 i).all (fun x => xckX x && xrtB false x))) 1 = true := by decide +kernel
def xIfcl17_11 (i : Nat) (x0 : Nat → Int) (E0 : zyEm) (v : Nat → Int) (E : zyEm) : Prop := (E = E0)
def xMfcl17_11 (i : Nat) (x0 : Nat → Int) (E0 : zyEm) (v : Nat → Int) (E : zyEm) : Nat := (0)
theorem xCl17_11 {l : Launch} {en : zEn} {me : zMe} (hen : zG zxMeta 31 = some en) (hme : zG zMeth 31 = some me) : xFc l zymc en me 3 [18] 2 fpfcl17_11 false (xΦcl17_ (1, 1)) xΨcl17 := by
  have een : zG zxMeta 31 = some (zxi31, 3, 4, 3, 31, 0, 0, 0, 0) := rfl
  obtain ⟨me1, hme1, hOK⟩ := zall hen
  rw [hme] at hme1
  cases hme1
  rw [een] at hen
  cases hen
  have hr := zyfcl17_11_run
  have hck := fun i hi => zyAll_iff zyfcl17_11_ck i hi
  simp only [Bool.and_eq_true] at hck
  intro B
  refine xcut (mi := zymc) (B := B) hOK rfl rfl (ι := Fin 1) (fun i => zpfcl17_11 i.val) (fun _ _ => []) (fun i => zFfcl17_11 i.val) (fun i => zSfcl17_11 i.val) (fun i => zXfcl17_11 i.val) (fun i => zRfcl17_11 i.val) (fun i y2 ct en2 me2 h => by cases h) 200000 (fun i => zyAll_iff hr i.val i.isLt) (fun i => (hck i.val i.isLt).1) (fun i => (hck i.val i.isLt).2.1) (fun i => (hck i.val i.isLt).2.2) ⟨0, by decide⟩ ⟨rfl, rfl, rfl, rfl⟩ ⟨by decide, by decide⟩ (fun i x0 E0 v E => xIfcl17_11 i.val x0 E0 v E) (fun i x0 E0 v E => xMfcl17_11 i.val x0 E0 v E) ?_ ?_ ?_
  · intro x0 E hx0 hT hΦ
    have hΦ : (xΦcl17_ (1, 1)) x0 E := hΦ
    refine ⟨fun k p hp => ?_, ?_⟩
    · have hk : k < 4 := (List.getElem?_eq_some_iff.mp hp).1
      have hk : k = 0 ∨ k = 1 ∨ k = 2 ∨ k = 3 := by omega
      rcases hk with rfl | rfl | rfl | rfl
      · have hp : some (0, 4294967295) = some p := hp
        cases hp
        show ((0 : Nat) : Int) ≤ 0 + 2147483648 ∧ 0 + 2147483648 ≤ ((4294967295 : Nat) : Int)
        omega
      · have hp : some (2147483649, 2147483649) = some p := hp
        cases hp
        show ((2147483649 : Nat) : Int) ≤ x0 0 + 2147483648 ∧ x0 0 + 2147483648 ≤ ((2147483649 : Nat) : Int)
        have hx := hx0 0
        have hP1 : x0 0 = ((1 : Nat) : Int) := hΦ.1
        have hP2 : x0 1 = ((1 : Nat) : Int) := hΦ.2
        omega
      · have hp : some (2147483649, 2147483649) = some p := hp
        cases hp
        show ((2147483649 : Nat) : Int) ≤ x0 1 + 2147483648 ∧ x0 1 + 2147483648 ≤ ((2147483649 : Nat) : Int)
        have hx := hx0 1
        have hP1 : x0 0 = ((1 : Nat) : Int) := hΦ.1
        have hP2 : x0 1 = ((1 : Nat) : Int) := hΦ.2
        omega
      · have hp : some (0, 4294967295) = some p := hp
        cases hp
        show ((0 : Nat) : Int) ≤ x0 2 + 2147483648 ∧ x0 2 + 2147483648 ≤ ((4294967295 : Nat) : Int)
        have hx := hx0 2
        omega
    · show E = E
      rfl
  · intro x0 s Wg hRu hrx hT0 hΦ i v H hT hrv hInv hKc hFr0 hIH x hx ρ2 v2 N2 H2 locs lsB stA hAt hB hv hr2 hXs hag hfr hFr hT2
    rcases i with ⟨i, hi⟩
    have hi2 : i = 0 := by omega
    rcases hi2 with rfl
    · cases hx
  · intro x0 E0 E E2 hrx hT0 hΦ i v hT hrv hInv hKc hFr0 x hx v2 hr2 hXs hag hfr hFr hT2
    rcases i with ⟨i, hi⟩
    have hi2 : i = 0 := by omega
    rcases hi2 with rfl
    · have hx : x ∈ [zxfcl17_11_ar0] := hx
      have hag : ∀ k, k < 4 → v2 k = v k := hag
      have hfr : xFr [(18, 5, 5), (18, 8, 8), (19, 0, 3), (20, 0, 3), (21, 0, 3), (22, 0, 3), (23, 0, 3), (24, 0, 3), (25, 0, 30), (26, 0, 30), (27, 0, 30), (28, 0, 30), (29, 0, 30), (30, 0, 30), (33, 1, 1)] _ _ := hfr
      have ex := List.mem_singleton.mp hx
      subst ex
      obtain ⟨hF, hBd, hM⟩ := hXs
      have g1 : v2 1 = v 1 := hag 1 (by decide)
      have g2 : v2 2 = v 2 := hag 2 (by decide)
      have b0 : ((2147483649 : Nat) : Int) ≤ (v2 1) + 2147483648 ∧ (v2 1) + 2147483648 ≤ ((2147483649 : Nat) : Int) := xXb hBd 0 rfl
      have b1 : ((2147483649 : Nat) : Int) ≤ (v2 2) + 2147483648 ∧ (v2 2) + 2147483648 ≤ ((2147483649 : Nat) : Int) := xXb hBd 1 rfl
      have m0 : xE E2 19 0 = (v2 1) := xXm hM 0 rfl
      have m1 : xE E2 19 1 = (v2 2) := xXm hM 1 rfl
      have hI : E = E0 := hInv
      show xΨcl17 x0 E0 E2 0
      have hP := hΦ
      have hP1 : x0 0 = ((1 : Nat) : Int) := hP.1
      have hP2 : x0 1 = ((1 : Nat) : Int) := hP.2
      unfold xΨcl17
      rw [hP1, hP2]
      obtain ⟨A, G⟩ := xGeo17_of hM (by decide) (by decide) (by decide) (by decide) (by decide) (by decide) zyfcl17_11_geo (by omega) (by omega) (by decide +kernel) (by decide +kernel)
      subst hI
      exact ⟨A, G, xJk17_of (by decide) (by decide) (by decide) (by decide) (by decide) G (fun i h1 h2 => by
        have h1 : ((4 : Nat) : Int) ≤ i := h1
        exact ⟨xFr_E hfr (xin_no (lo := 4) (by decide) (by omega)), xFr_E hfr (xin_no (lo := 4) (by decide) (by omega))⟩)⟩
noncomputable def zxfcl17_12_ar0 : zyXp := (0, [], [], [], [(34359738369, 2147483649, 2147483649), (68719476737, 2147483650, 2147483650)], [(311296, 34359738369), (311297, 68719476737), (311298, 64), (311299, 8), (294917, 0), (294920, 0), (540673, 0), (327680, 8), (327681, 16), (327682, 24), (327683, 0), (327684, 56), (327685, 32), (327686, 40), (327687, 48), (344064, 34359738360), (344065, 56), (344066, 34359738360), (344067, 34359738360), (344068, 34359738360), (344069, 34359738360), (344070, 34359738360), (344071, 8), (360448, 34359738360), (360449, 0), (360450, 34359738360), (360451, 34359738360), (360452, 34359738360), (360453, 34359738360), (360454, 34359738360), (360455, 0), (376832, 0), (376833, 8), (376834, 0), (376835, 34359738360), (376836, 16), (376837, 24), (376838, 16), (376839, 8), (393216, 34359738360), (393217, 0), (393218, 8), (393219, 0), (393220, 34359738360), (393221, 0), (393222, 8), (393223, 0), (409600, 8), (425984, 56), (442368, 0), (442369, 0), (442370, 0), (442371, 0), (442372, 0), (442373, 0), (442374, 0), (442375, 0), (442376, 0), (442377, 0), (442378, 0), (442379, 0), (442380, 0), (442381, 0), (442382, 0), (442383, 0), (442384, 0), (442385, 0), (442386, 0), (442387, 0), (442388, 0), (442389, 0), (442390, 0), (442391, 0), (442392, 0), (442393, 0), (442394, 0), (442395, 0), (442396, 0), (442397, 0), (442398, 0), (458752, 8), (458753, 8), (458754, 8), (458755, 8), (458756, 8), (458757, 8), (458758, 8), (458759, 8), (458760, 8), (458761, 8), (458762, 8), (458763, 8), (458764, 8), (458765, 8), (458766, 8), (458767, 8), (458768, 8), (458769, 8), (458770, 8), (458771, 8), (458772, 8), (458773, 8), (458774, 8), (458775, 8), (458776, 8), (458777, 8), (458778, 8), (458779, 8), (458780, 8), (458781, 8), (458782, 8), (475136, 0), (475137, 0), (475138, 0), (475139, 0), (475140, 0), (475141, 0), (475142, 0), (475143, 0), (475144, 0), (475145, 0), (475146, 0), (475147, 0), (475148, 0), (475149, 0), (475150, 0), (475151, 0), (475152, 0), (475153, 0), (475154, 0), (475155, 0), (475156, 0), (475157, 0), (475158, 0), (475159, 0), (475160, 0), (475161, 0), (475162, 0), (475163, 0), (475164, 0), (475165, 0), (475166, 0), (491520, 0), (491521, 0), (491522, 0), (491523, 0), (491524, 0), (491525, 0), (491526, 0), (491527, 0), (491528, 0), (491529, 0), (491530, 0), (491531, 0), (491532, 0), (491533, 0), (491534, 0), (491535, 0), (491536, 0), (491537, 0), (491538, 0), (491539, 0), (491540, 0), (491541, 0), (491542, 0), (491543, 0), (491544, 0), (491545, 0), (491546, 0), (491547, 0), (491548, 0), (491549, 0), (491550, 0)])
noncomputable def zpfcl17_12_a : zyPh := (0, [147, 34359738369, 68719476737, 13], [(0, 4294967295), (2147483649, 2147483649), (2147483650, 2147483650), (0, 4294967295)], [], [])
noncomputable def zpfcl17_12 (i : Nat) : zyPh := zpfcl17_12_a
noncomputable def zXfcl17_12 (i : Nat) : List zyXp := []
noncomputable def zRfcl17_12 (i : Nat) : List zyXp := [zxfcl17_12_ar0]
noncomputable def zFfcl17_12 (i : Nat) : zyR := [(18, 5, 5), (18, 8, 8), (19, 0, 3), (20, 0, 7), (21, 0, 7), (22, 0, 7), (23, 0, 7), (24, 0, 7), (25, 0, 30), (26, 0, 30), (27, 0, 30), (28, 0, 30), (29, 0, 30), (30, 0, 30), (33, 1, 1)]
noncomputable def zSfcl17_12 (i : Nat) : Nat := 0
theorem zyfcl17_12_geo : xgeoB17 (zxfcl17_12_ar0).2.2.2.2.2 1 2 = true := by decide +kernel
noncomputable def fpfcl17_12 : zyR := [(18, 5, 5), (18, 8, 8), (19, 0, 3), (20, 0, 79), (21, 0, 79), (22, 0, 79), (23, 0, 79), (24, 0, 79), (25, 0, 30), (26, 0, 30), (27, 0, 30), (28, 0, 30), (29, 0, 30), (30, 0, 30), (33, 1, 1)]
theorem zyfcl17_12_run : zyrS zymc zxi31 (31, 0, 0, 0, 0) 3 zpfcl17_12 (fun _ _ => []) zFfcl17_12 zSfcl17_12 zXfcl17_12 zRfcl17_12 1 = true := by decide +kernel
theorem zyfcl17_12_ck : zyAll (fun i => xsubR (zFfcl17_12 i) fpfcl17_12 && ((zXfcl17_12 i).all xckX && (zRfcl17_12 i).all (fun x => xckX x && xrtB false x))) 1 = true := by decide +kernel
def xIfcl17_12 (i : Nat) (x0 : Nat → Int) (E0 : zyEm) (v : Nat → Int) (E : zyEm) : Prop := (E = E0)
def xMfcl17_12 (i : Nat) (x0 : Nat → Int) (E0 : zyEm) (v : Nat → Int) (E : zyEm) : Nat := (0)
theorem xCl17_12 {l : Launch} {en : zEn} {me : zMe} (hen : zG zxMeta 31 = some en) (hme : zG zMeth 31 = some me) : xFc l zymc en me 3 [18] 2 fpfcl17_12 false (xΦcl17_ (1, 2)) xΨcl17 := by
  have een : zG zxMeta 31 = some (zxi31, 3, 4, 3, 31, 0, 0, 0, 0) := rfl
  obtain ⟨me1, hme1, hOK⟩ := zall hen
  rw [hme] at hme1
  cases hme1
  rw [een] at hen
  cases hen
  have hr := zyfcl17_12_run
  have hck := fun i hi => zyAll_iff zyfcl17_12_ck i hi
  simp only [Bool.and_eq_true] at hck
  intro B
  refine xcut (mi := zymc) (B := B) hOK rfl rfl (ι := Fin 1) (fun i => zpfcl17_12 i.val) (fun _ _ => []) (fun i => zFfcl17_12 i.val) (fun i => zSfcl17_12 i.val) (fun i => zXfcl17_12 i.val) (fun i => zRfcl17_12 i.val) (fun i y2 ct en2 me2 h => by cases h) 200000 (fun i => zyAll_iff hr i.val i.isLt) (fun i => (hck i.val i.isLt).1) (fun i => (hck i.val i.isLt).2.1) (fun i => (hck i.val i.isLt).2.2) ⟨0, by decide⟩ ⟨rfl, rfl, rfl, rfl⟩ ⟨by decide, by decide⟩ (fun i x0 E0 v E => xIfcl17_12 i.val x0 E0 v E) (fun i x0 E0 v E => xMfcl17_12 i.val x0 E0 v E) ?_ ?_ ?_
  · intro x0 E hx0 hT hΦ
    have hΦ : (xΦcl17_ (1, 2)) x0 E := hΦ
    refine ⟨fun k p hp => ?_, ?_⟩
    · have hk : k < 4 := (List.getElem?_eq_some_iff.mp hp).1
      have hk : k = 0 ∨ k = 1 ∨ k = 2 ∨ k = 3 := by omega
      rcases hk with rfl | rfl | rfl | rfl
      · have hp : some (0, 4294967295) = some p := hp
        cases hp
        show ((0 : Nat) : Int) ≤ 0 + 2147483648 ∧ 0 + 2147483648 ≤ ((4294967295 : Nat) : Int)
        omega
      · have hp : some (2147483649, 2147483649) = some p := hp
        cases hp
        show ((2147483649 : Nat) : Int) ≤ x0 0 + 2147483648 ∧ x0 0 + 2147483648 ≤ ((2147483649 : Nat) : Int)
        have hx := hx0 0
        have hP1 : x0 0 = ((1 : Nat) : Int) := hΦ.1
        have hP2 : x0 1 = ((2 : Nat) : Int) := hΦ.2
        omega
      · have hp : some (2147483650, 2147483650) = some p := hp
        cases hp
        show ((2147483650 : Nat) : Int) ≤ x0 1 + 2147483648 ∧ x0 1 + 2147483648 ≤ ((2147483650 : Nat) : Int)
        have hx := hx0 1
        have hP1 : x0 0 = ((1 : Nat) : Int) := hΦ.1
        have hP2 : x0 1 = ((2 : Nat) : Int) := hΦ.2
        omega
      · have hp : some (0, 4294967295) = some p := hp
        cases hp
        show ((0 : Nat) : Int) ≤ x0 2 + 2147483648 ∧ x0 2 + 2147483648 ≤ ((4294967295 : Nat) : Int)
        have hx := hx0 2
        omega
    · show E = E
      rfl
  · intro x0 s Wg hRu hrx hT0 hΦ i v H hT hrv hInv hKc hFr0 hIH x hx ρ2 v2 N2 H2 locs lsB stA hAt hB hv hr2 hXs hag hfr hFr hT2
    rcases i with ⟨i, hi⟩
    have hi2 : i = 0 := by omega
    rcases hi2 with rfl
    · cases hx
  · intro x0 E0 E E2 hrx hT0 hΦ i v hT hrv hInv hKc hFr0 x hx v2 hr2 hXs hag hfr hFr hT2
    rcases i with ⟨i, hi⟩
    have hi2 : i = 0 := by omega
    rcases hi2 with rfl
    · have hx : x ∈ [zxfcl17_12_ar0] := hx
      have hag : ∀ k, k < 4 → v2 k = v k := hag
      have hfr : xFr [(18, 5, 5), (18, 8, 8), (19, 0, 3), (20, 0, 7), (21, 0, 7), (22, 0, 7), (23, 0, 7), (24, 0, 7), (25, 0, 30), (26, 0, 30), (27, 0, 30), (28, 0, 30), (29, 0, 30), (30, 0, 30), (33, 1, 1)] _ _ := hfr
      have ex := List.mem_singleton.mp hx
      subst ex
      obtain ⟨hF, hBd, hM⟩ := hXs
      have g1 : v2 1 = v 1 := hag 1 (by decide)
      have g2 : v2 2 = v 2 := hag 2 (by decide)
      have b0 : ((2147483649 : Nat) : Int) ≤ (v2 1) + 2147483648 ∧ (v2 1) + 2147483648 ≤ ((2147483649 : Nat) : Int) := xXb hBd 0 rfl
      have b1 : ((2147483650 : Nat) : Int) ≤ (v2 2) + 2147483648 ∧ (v2 2) + 2147483648 ≤ ((2147483650 : Nat) : Int) := xXb hBd 1 rfl
      have m0 : xE E2 19 0 = (v2 1) := xXm hM 0 rfl
      have m1 : xE E2 19 1 = (v2 2) := xXm hM 1 rfl
      have hI : E = E0 := hInv
      show xΨcl17 x0 E0 E2 0
      have hP := hΦ
      have hP1 : x0 0 = ((1 : Nat) : Int) := hP.1
      have hP2 : x0 1 = ((2 : Nat) : Int) := hP.2
      unfold xΨcl17
      rw [hP1, hP2]
      obtain ⟨A, G⟩ := xGeo17_of hM (by decide) (by decide) (by decide) (by decide) (by decide) (by decide) zyfcl17_12_geo (by omega) (by omega) (by decide +kernel) (by decide +kernel)
      subst hI
      exact ⟨A, G, xJk17_of (by decide) (by decide) (by decide) (by decide) (by decide) G (fun i h1 h2 => by
        have h1 : ((8 : Nat) : Int) ≤ i := h1
        exact ⟨xFr_E hfr (xin_no (lo := 8) (by decide) (by omega)), xFr_E hfr (xin_no (lo := 8) (by decide) (by omega))⟩)⟩
noncomputable def zxfcl17_13_ar0 : zyXp := (0, [], [], [], [(34359738369, 2147483649, 2147483649), (68719476737, 2147483651, 2147483651)], [(311296, 34359738369), (311297, 68719476737), (311298, 96), (311299, 16), (294917, 0), (294920, 0), (540673, 0), (327680, 8), (327681, 16), (327682, 24), (327683, 0), (327684, 56), (327685, 32), (327686, 40), (327687, 48), (327688, 72), (327689, 80), (327690, 88), (327691, 64), (344064, 34359738360), (344065, 56), (344066, 34359738360), (344067, 34359738360), (344068, 34359738360), (344069, 88), (344070, 34359738360), (344071, 8), (344072, 34359738360), (344073, 34359738360), (344074, 34359738360), (344075, 40), (360448, 34359738360), (360449, 0), (360450, 34359738360), (360451, 34359738360), (360452, 34359738360), (360453, 8), (360454, 34359738360), (360455, 0), (360456, 34359738360), (360457, 34359738360), (360458, 34359738360), (360459, 8), (376832, 0), (376833, 8), (376834, 0), (376835, 34359738360), (376836, 16), (376837, 24), (376838, 16), (376839, 8), (376840, 32), (376841, 40), (376842, 32), (376843, 24), (393216, 34359738360), (393217, 0), (393218, 8), (393219, 0), (393220, 34359738360), (393221, 0), (393222, 8), (393223, 0), (393224, 34359738360), (393225, 0), (393226, 8), (393227, 0), (409600, 8), (409601, 40), (425984, 56), (425985, 88), (442368, 0), (442369, 0), (442370, 0), (442371, 0), (442372, 0), (442373, 0), (442374, 0), (442375, 0), (442376, 0), (442377, 0), (442378, 0), (442379, 0), (442380, 0), (442381, 0), (442382, 0), (442383, 0), (442384, 0), (442385, 0), (442386, 0), (442387, 0), (442388, 0), (442389, 0), (442390, 0), (442391, 0), (442392, 0), (442393, 0), (442394, 0), (442395, 0), (442396, 0), (442397, 0), (442398, 0), (458752, 8), (458753, 8), (458754, 8), (458755, 8), (458756, 8), (458757, 8), (458758, 8), (458759, 8), (458760, 8), (458761, 8), (458762, 8), (458763, 8), (458764, 8), (458765, 8), (458766, 8), (458767, 8), (458768, 8), (458769, 8), (458770, 8), (458771, 8), (458772, 8), (458773, 8), (458774, 8), (458775, 8), (458776, 8), (458777, 8), (458778, 8), (458779, 8), (458780, 8), (458781, 8), (458782, 8), (475136, 0), (475137, 0), (475138, 0), (475139, 0), (475140, 0), (475141, 0), (475142, 0), (475143, 0), (475144, 0), (475145, 0), (475146, 0), (475147, 0), (475148, 0), (475149, 0), (475150, 0), (475151, 0), (475152, 0), (475153, 0), (475154, 0), (475155, 0), (475156, 0), (475157, 0), (475158, 0), (475159, 0), (475160, 0), (475161, 0), (475162, 0), (475163, 0), (475164, 0), (475165, 0), (475166, 0), (491520, 0), (491521, 0), (491522, 0), (491523, 0), (491524, 0), (491525, 0), (491526, 0), (491527, 0), (491528, 0), (491529, 0), (491530, 0), (491531, 0), (491532, 0), (491533, 0), (491534, 0), (491535, 0), (491536, 0), (491537, 0), (491538, 0), (491539, 0), (491540, 0), (491541, 0), (491542, 0), (491543, 0), (491544, 0), (491545, 0), (491546, 0), (491547, 0), (491548, 0), (491549, 0), (491550, 0)])
noncomputable def zpfcl17_13_a : zyPh := (0, [147, 34359738369, 68719476737, 13], [(0, 4294967295), (2147483649, 2147483649), (2147483651, 2147483651), (0, 4294967295)], [], [])
noncomputable def zpfcl17_13 (i : Nat) : zyPh := zpfcl17_13_a
noncomputable def zXfcl17_13 (i : Nat) : List zyXp := []
noncomputable def zRfcl17_13 (i : Nat) : List zyXp := [zxfcl17_13_ar0]
noncomputable def zFfcl17_13 (i : Nat) : zyR := [(18, 5, 5), (18, 8, 8), (19, 0, 3), (20, 0, 11), (21, 0, 11), (22, 0, 11), (23, 0, 11), (24, 0, 11), (25, 0, 30), (26, 0, 30), (27, 0, 30), (28, 0, 30), (29, 0, 30), (30, 0, 30), (33, 1, 1)]
noncomputable def zSfcl17_13 (i : Nat) : Nat := 0
theorem zyfcl17_13_geo : xgeoB17 (zxfcl17_13_ar0).2.2.2.2.2 1 3 = true := by decide +kernel
noncomputable def fpfcl17_13 : zyR := [(18, 5, 5), (18, 8, 8), (19, 0, 3), (20, 0, 79), (21, 0, 79), (22, 0, 79), (23, 0, 79), (24, 0, 79), (25, 0, 30), (26, 0, 30), (27, 0, 30), (28, 0, 30), (29, 0, 30), (30, 0, 30), (33, 1, 1)]
theorem zyfcl17_13_run : zyrS zymc zxi31 (31, 0, 0, 0, 0) 3 zpfcl17_13 (fun _ _ => []) zFfcl17_13 zSfcl17_13 zXfcl17_13 zRfcl17_13 1 = true := by decide +kernel
theorem zyfcl17_13_ck : zyAll (fun i => xsubR (zFfcl17_13 i) fpfcl17_13 && ((zXfcl17_13 i).all xckX && (zRfcl17_13 i).all (fun x => xckX x && xrtB false x))) 1 = true := by decide +kernel
def xIfcl17_13 (i : Nat) (x0 : Nat → Int) (E0 : zyEm) (v : Nat → Int) (E : zyEm) : Prop := (E = E0)
def xMfcl17_13 (i : Nat) (x0 : Nat → Int) (E0 : zyEm) (v : Nat → Int) (E : zyEm) : Nat := (0)
theorem xCl17_13 {l : Launch} {en : zEn} {me : zMe} (hen : zG zxMeta 31 = some en) (hme : zG zMeth 31 = some me) : xFc l zymc en me 3 [18] 2 fpfcl17_13 false (xΦcl17_ (1, 3)) xΨcl17 := by
  have een : zG zxMeta 31 = some (zxi31, 3, 4, 3, 31, 0, 0, 0, 0) := rfl
  obtain ⟨me1, hme1, hOK⟩ := zall hen
  rw [hme] at hme1
  cases hme1
  rw [een] at hen
  cases hen
  have hr := zyfcl17_13_run
  have hck := fun i hi => zyAll_iff zyfcl17_13_ck i hi
  simp only [Bool.and_eq_true] at hck
  intro B
  refine xcut (mi := zymc) (B := B) hOK rfl rfl (ι := Fin 1) (fun i => zpfcl17_13 i.val) (fun _ _ => []) (fun i => zFfcl17_13 i.val) (fun i => zSfcl17_13 i.val) (fun i => zXfcl17_13 i.val) (fun i => zRfcl17_13 i.val) (fun i y2 ct en2 me2 h => by cases h) 200000 (fun i => zyAll_iff hr i.val i.isLt) (fun i => (hck i.val i.isLt).1) (fun i => (hck i.val i.isLt).2.1) (fun i => (hck i.val i.isLt).2.2) ⟨0, by decide⟩ ⟨rfl, rfl, rfl, rfl⟩ ⟨by decide, by decide⟩ (fun i x0 E0 v E => xIfcl17_13 i.val x0 E0 v E) (fun i x0 E0 v E => xMfcl17_13 i.val x0 E0 v E) ?_ ?_ ?_
  · intro x0 E hx0 hT hΦ
    have hΦ : (xΦcl17_ (1, 3)) x0 E := hΦ
    refine ⟨fun k p hp => ?_, ?_⟩
    · have hk : k < 4 := (List.getElem?_eq_some_iff.mp hp).1
      have hk : k = 0 ∨ k = 1 ∨ k = 2 ∨ k = 3 := by omega
      rcases hk with rfl | rfl | rfl | rfl
      · have hp : some (0, 4294967295) = some p := hp
        cases hp
        show ((0 : Nat) : Int) ≤ 0 + 2147483648 ∧ 0 + 2147483648 ≤ ((4294967295 : Nat) : Int)
        omega
      · have hp : some (2147483649, 2147483649) = some p := hp
        cases hp
        show ((2147483649 : Nat) : Int) ≤ x0 0 + 2147483648 ∧ x0 0 + 2147483648 ≤ ((2147483649 : Nat) : Int)
        have hx := hx0 0
        have hP1 : x0 0 = ((1 : Nat) : Int) := hΦ.1
        have hP2 : x0 1 = ((3 : Nat) : Int) := hΦ.2
        omega
      · have hp : some (2147483651, 2147483651) = some p := hp
        cases hp
        show ((2147483651 : Nat) : Int) ≤ x0 1 + 2147483648 ∧ x0 1 + 2147483648 ≤ ((2147483651 : Nat) : Int)
        have hx := hx0 1
        have hP1 : x0 0 = ((1 : Nat) : Int) := hΦ.1
        have hP2 : x0 1 = ((3 : Nat) : Int) := hΦ.2
        omega
      · have hp : some (0, 4294967295) = some p := hp
        cases hp
        show ((0 : Nat) : Int) ≤ x0 2 + 2147483648 ∧ x0 2 + 2147483648 ≤ ((4294967295 : Nat) : Int)
        have hx := hx0 2
        omega
    · show E = E
      rfl
  · intro x0 s Wg hRu hrx hT0 hΦ i v H hT hrv hInv hKc hFr0 hIH x hx ρ2 v2 N2 H2 locs lsB stA hAt hB hv hr2 hXs hag hfr hFr hT2
    rcases i with ⟨i, hi⟩
    have hi2 : i = 0 := by omega
    rcases hi2 with rfl
    · cases hx
  · intro x0 E0 E E2 hrx hT0 hΦ i v hT hrv hInv hKc hFr0 x hx v2 hr2 hXs hag hfr hFr hT2
    rcases i with ⟨i, hi⟩
    have hi2 : i = 0 := by omega
    rcases hi2 with rfl
    · have hx : x ∈ [zxfcl17_13_ar0] := hx
      have hag : ∀ k, k < 4 → v2 k = v k := hag
      have hfr : xFr [(18, 5, 5), (18, 8, 8), (19, 0, 3), (20, 0, 11), (21, 0, 11), (22, 0, 11), (23, 0, 11), (24, 0, 11), (25, 0, 30), (26, 0, 30), (27, 0, 30), (28, 0, 30), (29, 0, 30), (30, 0, 30), (33, 1, 1)] _ _ := hfr
      have ex := List.mem_singleton.mp hx
      subst ex
      obtain ⟨hF, hBd, hM⟩ := hXs
      have g1 : v2 1 = v 1 := hag 1 (by decide)
      have g2 : v2 2 = v 2 := hag 2 (by decide)
      have b0 : ((2147483649 : Nat) : Int) ≤ (v2 1) + 2147483648 ∧ (v2 1) + 2147483648 ≤ ((2147483649 : Nat) : Int) := xXb hBd 0 rfl
      have b1 : ((2147483651 : Nat) : Int) ≤ (v2 2) + 2147483648 ∧ (v2 2) + 2147483648 ≤ ((2147483651 : Nat) : Int) := xXb hBd 1 rfl
      have m0 : xE E2 19 0 = (v2 1) := xXm hM 0 rfl
      have m1 : xE E2 19 1 = (v2 2) := xXm hM 1 rfl
      have hI : E = E0 := hInv
      show xΨcl17 x0 E0 E2 0
      have hP := hΦ
      have hP1 : x0 0 = ((1 : Nat) : Int) := hP.1
      have hP2 : x0 1 = ((3 : Nat) : Int) := hP.2
      unfold xΨcl17
      rw [hP1, hP2]
      obtain ⟨A, G⟩ := xGeo17_of hM (by decide) (by decide) (by decide) (by decide) (by decide) (by decide) zyfcl17_13_geo (by omega) (by omega) (by decide +kernel) (by decide +kernel)
      subst hI
      exact ⟨A, G, xJk17_of (by decide) (by decide) (by decide) (by decide) (by decide) G (fun i h1 h2 => by
        have h1 : ((12 : Nat) : Int) ≤ i := h1
        exact ⟨xFr_E hfr (xin_no (lo := 12) (by decide) (by omega)), xFr_E hfr (xin_no (lo := 12) (by decide) (by omega))⟩)⟩
noncomputable def zxfcl17_14_ar0 : zyXp := (0, [], [], [], [(34359738369, 2147483649, 2147483649), (68719476737, 2147483652, 2147483652)], [(311296, 34359738369), (311297, 68719476737), (311298, 128), (311299, 24), (294917, 0), (294920, 0), (540673, 0), (327680, 8), (327681, 16), (327682, 24), (327683, 0), (327684, 56), (327685, 32), (327686, 40), (327687, 48), (327688, 72), (327689, 80), (327690, 88), (327691, 64), (327692, 120), (327693, 96), (327694, 104), (327695, 112), (344064, 34359738360), (344065, 56), (344066, 34359738360), (344067, 34359738360), (344068, 34359738360), (344069, 88), (344070, 34359738360), (344071, 8), (344072, 34359738360), (344073, 120), (344074, 34359738360), (344075, 40), (344076, 34359738360), (344077, 34359738360), (344078, 34359738360), (344079, 72), (360448, 34359738360), (360449, 0), (360450, 34359738360), (360451, 34359738360), (360452, 34359738360), (360453, 8), (360454, 34359738360), (360455, 0), (360456, 34359738360), (360457, 16), (360458, 34359738360), (360459, 8), (360460, 34359738360), (360461, 34359738360), (360462, 34359738360), (360463, 16), (376832, 0), (376833, 8), (376834, 0), (376835, 34359738360), (376836, 16), (376837, 24), (376838, 16), (376839, 8), (376840, 32), (376841, 40), (376842, 32), (376843, 24), (376844, 48), (376845, 56), (376846, 48), (376847, 40), (393216, 34359738360), (393217, 0), (393218, 8), (393219, 0), (393220, 34359738360), (393221, 0), (393222, 8), (393223, 0), (393224, 34359738360), (393225, 0), (393226, 8), (393227, 0), (393228, 34359738360), (393229, 0), (393230, 8), (393231, 0), (409600, 8), (409601, 40), (409602, 72), (425984, 56), (425985, 88), (425986, 120), (442368, 0), (442369, 0), (442370, 0), (442371, 0), (442372, 0), (442373, 0), (442374, 0), (442375, 0), (442376, 0), (442377, 0), (442378, 0), (442379, 0), (442380, 0), (442381, 0), (442382, 0), (442383, 0), (442384, 0), (442385, 0), (442386, 0), (442387, 0), (442388, 0), (442389, 0), (442390, 0), (442391, 0), (442392, 0), (442393, 0), (442394, 0), (442395, 0), (442396, 0), (442397, 0), (442398, 0), (458752, 8), (458753, 8), (458754, 8), (458755, 8), (458756, 8), (458757, 8), (458758, 8), (458759, 8), (458760, 8), (458761, 8), (458762, 8), (458763, 8), (458764, 8), (458765, 8), (458766, 8), (458767, 8), (458768, 8), (458769, 8), (458770, 8), (458771, 8), (458772, 8), (458773, 8), (458774, 8), (458775, 8), (458776, 8), (458777, 8), (458778, 8), (458779, 8), (458780, 8), (458781, 8), (458782, 8), (475136, 0), (475137, 0), (475138, 0), (475139, 0), (475140, 0), (475141, 0), (475142, 0), (475143, 0), (475144, 0), (475145, 0), (475146, 0), (475147, 0), (475148, 0), (475149, 0), (475150, 0), (475151, 0), (475152, 0), (475153, 0), (475154, 0), (475155, 0), (475156, 0), (475157, 0), (475158, 0), (475159, 0), (475160, 0), (475161, 0), (475162, 0), (475163, 0), (475164, 0), (475165, 0), (475166, 0), (491520, 0), (491521, 0), (491522, 0), (491523, 0), (491524, 0), (491525, 0), (491526, 0), (491527, 0), (491528, 0), (491529, 0), (491530, 0), (491531, 0), (491532, 0), (491533, 0), (491534, 0), (491535, 0), (491536, 0), (491537, 0), (491538, 0), (491539, 0), (491540, 0), (491541, 0), (491542, 0), (491543, 0), (491544, 0), (491545, 0), (491546, 0), (491547, 0), (491548, 0), (491549, 0), (491550, 0)])
noncomputable def zpfcl17_14_a : zyPh := (0, [147, 34359738369, 68719476737, 13], [(0, 4294967295), (2147483649, 2147483649), (2147483652, 2147483652), (0, 4294967295)], [], [])
noncomputable def zpfcl17_14 (i : Nat) : zyPh := zpfcl17_14_a
noncomputable def zXfcl17_14 (i : Nat) : List zyXp := []
noncomputable def zRfcl17_14 (i : Nat) : List zyXp := [zxfcl17_14_ar0]
noncomputable def zFfcl17_14 (i : Nat) : zyR := [(18, 5, 5), (18, 8, 8), (19, 0, 3), (20, 0, 15), (21, 0, 15), (22, 0, 15), (23, 0, 15), (24, 0, 15), (25, 0, 30), (26, 0, 30), (27, 0, 30), (28, 0, 30), (29, 0, 30), (30, 0, 30), (33, 1, 1)]
noncomputable def zSfcl17_14 (i : Nat) : Nat := 0
theorem zyfcl17_14_geo : xgeoB17 (zxfcl17_14_ar0).2.2.2.2.2 1 4 = true := by decide +kernel
noncomputable def fpfcl17_14 : zyR := [(18, 5, 5), (18, 8, 8), (19, 0, 3), (20, 0, 79), (21, 0, 79), (22, 0, 79), (23, 0, 79), (24, 0, 79), (25, 0, 30), (26, 0, 30), (27, 0, 30), (28, 0, 30), (29, 0, 30), (30, 0, 30), (33, 1, 1)]
theorem zyfcl17_14_run : zyrS zymc zxi31 (31, 0, 0, 0, 0) 3 zpfcl17_14 (fun _ _ => []) zFfcl17_14 zSfcl17_14 zXfcl17_14 zRfcl17_14 1 = true := by decide +kernel
theorem zyfcl17_14_ck : zyAll (fun i => xsubR (zFfcl17_14 i) fpfcl17_14 && ((zXfcl17_14 i).all xckX && (zRfcl17_14 i).all (fun x => xckX x && xrtB false x))) 1 = true := by decide +kernel
def xIfcl17_14 (i : Nat) (x0 : Nat → Int) (E0 : zyEm) (v : Nat → Int) (E : zyEm) : Prop := (E = E0)
def xMfcl17_14 (i : Nat) (x0 : Nat → Int) (E0 : zyEm) (v : Nat → Int) (E : zyEm) : Nat := (0)
theorem xCl17_14 {l : Launch} {en : zEn} {me : zMe} (hen : zG zxMeta 31 = some en) (hme : zG zMeth 31 = some me) : xFc l zymc en me 3 [18] 2 fpfcl17_14 false (xΦcl17_ (1, 4)) xΨcl17 := by
  have een : zG zxMeta 31 = some (zxi31, 3, 4, 3, 31, 0, 0, 0, 0) := rfl
  obtain ⟨me1, hme1, hOK⟩ := zall hen
  rw [hme] at hme1
  cases hme1
  rw [een] at hen
  cases hen
  have hr := zyfcl17_14_run
  have hck := fun i hi => zyAll_iff zyfcl17_14_ck i hi
  simp only [Bool.and_eq_true] at hck
  intro B
  refine xcut (mi := zymc) (B := B) hOK rfl rfl (ι := Fin 1) (fun i => zpfcl17_14 i.val) (fun _ _ => []) (fun i => zFfcl17_14 i.val) (fun i => zSfcl17_14 i.val) (fun i => zXfcl17_14 i.val) (fun i => zRfcl17_14 i.val) (fun i y2 ct en2 me2 h => by cases h) 200000 (fun i => zyAll_iff hr i.val i.isLt) (fun i => (hck i.val i.isLt).1) (fun i => (hck i.val i.isLt).2.1) (fun i => (hck i.val i.isLt).2.2) ⟨0, by decide⟩ ⟨rfl, rfl, rfl, rfl⟩ ⟨by decide, by decide⟩ (fun i x0 E0 v E => xIfcl17_14 i.val x0 E0 v E) (fun i x0 E0 v E => xMfcl17_14 i.val x0 E0 v E) ?_ ?_ ?_
  · intro x0 E hx0 hT hΦ
    have hΦ : (xΦcl17_ (1, 4)) x0 E := hΦ
    refine ⟨fun k p hp => ?_, ?_⟩
    · have hk : k < 4 := (List.getElem?_eq_some_iff.mp hp).1
      have hk : k = 0 ∨ k = 1 ∨ k = 2 ∨ k = 3 := by omega
      rcases hk with rfl | rfl | rfl | rfl
      · have hp : some (0, 4294967295) = some p := hp
        cases hp
        show ((0 : Nat) : Int) ≤ 0 + 2147483648 ∧ 0 + 2147483648 ≤ ((4294967295 : Nat) : Int)
        omega
      · have hp : some (2147483649, 2147483649) = some p := hp
        cases hp
        show ((2147483649 : Nat) : Int) ≤ x0 0 + 2147483648 ∧ x0 0 + 2147483648 ≤ ((2147483649 : Nat) : Int)
        have hx := hx0 0
        have hP1 : x0 0 = ((1 : Nat) : Int) := hΦ.1
        have hP2 : x0 1 = ((4 : Nat) : Int) := hΦ.2
        omega
      · have hp : some (2147483652, 2147483652) = some p := hp
        cases hp
        show ((2147483652 : Nat) : Int) ≤ x0 1 + 2147483648 ∧ x0 1 + 2147483648 ≤ ((2147483652 : Nat) : Int)
        have hx := hx0 1
        have hP1 : x0 0 = ((1 : Nat) : Int) := hΦ.1
        have hP2 : x0 1 = ((4 : Nat) : Int) := hΦ.2
        omega
      · have hp : some (0, 4294967295) = some p := hp
        cases hp
        show ((0 : Nat) : Int) ≤ x0 2 + 2147483648 ∧ x0 2 + 2147483648 ≤ ((4294967295 : Nat) : Int)
        have hx := hx0 2
        omega
    · show E = E
      rfl
  · intro x0 s Wg hRu hrx hT0 hΦ i v H hT hrv hInv hKc hFr0 hIH x hx ρ2 v2 N2 H2 locs lsB stA hAt hB hv hr2 hXs hag hfr hFr hT2
    rcases i with ⟨i, hi⟩
    have hi2 : i = 0 := by omega
    rcases hi2 with rfl
    · cases hx
  · intro x0 E0 E E2 hrx hT0 hΦ i v hT hrv hInv hKc hFr0 x hx v2 hr2 hXs hag hfr hFr hT2
    rcases i with ⟨i, hi⟩
    have hi2 : i = 0 := by omega
    rcases hi2 with rfl
    · have hx : x ∈ [zxfcl17_14_ar0] := hx
      have hag : ∀ k, k < 4 → v2 k = v k := hag
      have hfr : xFr [(18, 5, 5), (18, 8, 8), (19, 0, 3), (20, 0, 15), (21, 0, 15), (22, 0, 15), (23, 0, 15), (24, 0, 15), (25, 0, 30), (26, 0, 30), (27, 0, 30), (28, 0, 30), (29, 0, 30), (30, 0, 30), (33, 1, 1)] _ _ := hfr
      have ex := List.mem_singleton.mp hx
      subst ex
      obtain ⟨hF, hBd, hM⟩ := hXs
      have g1 : v2 1 = v 1 := hag 1 (by decide)
      have g2 : v2 2 = v 2 := hag 2 (by decide)
      have b0 : ((2147483649 : Nat) : Int) ≤ (v2 1) + 2147483648 ∧ (v2 1) + 2147483648 ≤ ((2147483649 : Nat) : Int) := xXb hBd 0 rfl
      have b1 : ((2147483652 : Nat) : Int) ≤ (v2 2) + 2147483648 ∧ (v2 2) + 2147483648 ≤ ((2147483652 : Nat) : Int) := xXb hBd 1 rfl
      have m0 : xE E2 19 0 = (v2 1) := xXm hM 0 rfl
      have m1 : xE E2 19 1 = (v2 2) := xXm hM 1 rfl
      have hI : E = E0 := hInv
      show xΨcl17 x0 E0 E2 0
      have hP := hΦ
      have hP1 : x0 0 = ((1 : Nat) : Int) := hP.1
      have hP2 : x0 1 = ((4 : Nat) : Int) := hP.2
      unfold xΨcl17
      rw [hP1, hP2]
      obtain ⟨A, G⟩ := xGeo17_of hM (by decide) (by decide) (by decide) (by decide) (by decide) (by decide) zyfcl17_14_geo (by omega) (by omega) (by decide +kernel) (by decide +kernel)
      subst hI
      exact ⟨A, G, xJk17_of (by decide) (by decide) (by decide) (by decide) (by decide) G (fun i h1 h2 => by
        have h1 : ((16 : Nat) : Int) ≤ i := h1
        exact ⟨xFr_E hfr (xin_no (lo := 16) (by decide) (by omega)), xFr_E hfr (xin_no (lo := 16) (by decide) (by omega))⟩)⟩
noncomputable def zxfcl17_15_ar0 : zyXp := (0, [], [], [], [(34359738369, 2147483649, 2147483649), (68719476737, 2147483653, 2147483653)], [(311296, 34359738369), (311297, 68719476737), (311298, 160), (311299, 32), (294917, 0), (294920, 0), (540673, 0), (327680, 8), (327681, 16), (327682, 24), (327683, 0), (327684, 56), (327685, 32), (327686, 40), (327687, 48), (327688, 72), (327689, 80), (327690, 88), (327691, 64), (327692, 120), (327693, 96), (327694, 104), (327695, 112), (327696, 136), (327697, 144), (327698, 152), (327699, 128), (344064, 34359738360), (344065, 56), (344066, 34359738360), (344067, 34359738360), (344068, 34359738360), (344069, 88), (344070, 34359738360), (344071, 8), (344072, 34359738360), (344073, 120), (344074, 34359738360), (344075, 40), (344076, 34359738360), (344077, 152), (344078, 34359738360), (344079, 72), (344080, 34359738360), (344081, 34359738360), (344082, 34359738360), (344083, 104), (360448, 34359738360), (360449, 0), (360450, 34359738360), (360451, 34359738360), (360452, 34359738360), (360453, 8), (360454, 34359738360), (360455, 0), (360456, 34359738360), (360457, 16), (360458, 34359738360), (360459, 8), (360460, 34359738360), (360461, 24), (360462, 34359738360), (360463, 16), (360464, 34359738360), (360465, 34359738360), (360466, 34359738360), (360467, 24), (376832, 0), (376833, 8), (376834, 0), (376835, 34359738360), (376836, 16), (376837, 24), (376838, 16), (376839, 8), (376840, 32), (376841, 40), (376842, 32), (376843, 24), (376844, 48), (376845, 56), (376846, 48), (376847, 40), (376848, 64), (376849, 72), (376850, 64), (376851, 56), (393216, 34359738360), (393217, 0), (393218, 8), (393219, 0), (393220, 34359738360), (393221, 0), (393222, 8), (393223, 0), (393224, 34359738360), (393225, 0), (393226, 8), (393227, 0), (393228, 34359738360), (393229, 0), (393230, 8), (393231, 0), (393232, 34359738360), (393233, 0), (393234, 8), (393235, 0), (409600, 8), (409601, 40), (409602, 72), (409603, 104), (425984, 56), (425985, 88), (425986, 120), (425987, 152), (442368, 0), (442369, 0), (442370, 0), (442371, 0), (442372, 0), (442373, 0), (442374, 0), (442375, 0), (442376, 0), (442377, 0), (442378, 0), (442379, 0), (442380, 0), (442381, 0), (442382, 0), (442383, 0), (442384, 0), (442385, 0), (442386, 0), (442387, 0), (442388, 0), (442389, 0), (442390, 0), (442391, 0), (442392, 0), (442393, 0), (442394, 0), (442395, 0), (442396, 0), (442397, 0), (442398, 0), (458752, 8), (458753, 8), (458754, 8), (458755, 8), (458756, 8), (458757, 8), (458758, 8), (458759, 8), (458760, 8), (458761, 8), (458762, 8), (458763, 8), (458764, 8), (458765, 8), (458766, 8), (458767, 8), (458768, 8), (458769, 8), (458770, 8), (458771, 8), (458772, 8), (458773, 8), (458774, 8), (458775, 8), (458776, 8), (458777, 8), (458778, 8), (458779, 8), (458780, 8), (458781, 8), (458782, 8), (475136, 0), (475137, 0), (475138, 0), (475139, 0), (475140, 0), (475141, 0), (475142, 0), (475143, 0), (475144, 0), (475145, 0), (475146, 0), (475147, 0), (475148, 0), (475149, 0), (475150, 0), (475151, 0), (475152, 0), (475153, 0), (475154, 0), (475155, 0), (475156, 0), (475157, 0), (475158, 0), (475159, 0), (475160, 0), (475161, 0), (475162, 0), (475163, 0), (475164, 0), (475165, 0), (475166, 0), (491520, 0), (491521, 0), (491522, 0), (491523, 0), (491524, 0), (491525, 0), (491526, 0), (491527, 0), (491528, 0), (491529, 0), (491530, 0), (491531, 0), (491532, 0), (491533, 0), (491534, 0), (491535, 0), (491536, 0), (491537, 0), (491538, 0), (491539, 0), (491540, 0), (491541, 0), (491542, 0), (491543, 0), (491544, 0), (491545, 0), (491546, 0), (491547, 0), (491548, 0), (491549, 0), (491550, 0)])
noncomputable def zpfcl17_15_a : zyPh := (0, [147, 34359738369, 68719476737, 13], [(0, 4294967295), (2147483649, 2147483649), (2147483653, 2147483653), (0, 4294967295)], [], [])
noncomputable def zpfcl17_15 (i : Nat) : zyPh := zpfcl17_15_a
noncomputable def zXfcl17_15 (i : Nat) : List zyXp := []
noncomputable def zRfcl17_15 (i : Nat) : List zyXp := [zxfcl17_15_ar0]
noncomputable def zFfcl17_15 (i : Nat) : zyR := [(18, 5, 5), (18, 8, 8), (19, 0, 3), (20, 0, 19), (21, 0, 19), (22, 0, 19), (23, 0, 19), (24, 0, 19), (25, 0, 30), (26, 0, 30), (27, 0, 30), (28, 0, 30), (29, 0, 30), (30, 0, 30), (33, 1, 1)]
noncomputable def zSfcl17_15 (i : Nat) : Nat := 0
theorem zyfcl17_15_geo : xgeoB17 (zxfcl17_15_ar0).2.2.2.2.2 1 5 = true := by decide +kernel
noncomputable def fpfcl17_15 : zyR := [(18, 5, 5), (18, 8, 8), (19, 0, 3), (20, 0, 79), (21, 0, 79), (22, 0, 79), (23, 0, 79), (24, 0, 79), (25, 0, 30), (26, 0, 30), (27, 0, 30), (28, 0, 30), (29, 0, 30), (30, 0, 30), (33, 1, 1)]
theorem zyfcl17_15_run : zyrS zymc zxi31 (31, 0, 0, 0, 0) 3 zpfcl17_15 (fun _ _ => []) zFfcl17_15 zSfcl17_15 zXfcl17_15 zRfcl17_15 1 = true := by decide +kernel
theorem zyfcl17_15_ck : zyAll (fun i => xsubR (zFfcl17_15 i) fpfcl17_15 && ((zXfcl17_15 i).all xckX && (zRfcl17_15 i).all (fun x => xckX x && xrtB false x))) 1 = true := by decide +kernel
def xIfcl17_15 (i : Nat) (x0 : Nat → Int) (E0 : zyEm) (v : Nat → Int) (E : zyEm) : Prop := (E = E0)
def xMfcl17_15 (i : Nat) (x0 : Nat → Int) (E0 : zyEm) (v : Nat → Int) (E : zyEm) : Nat := (0)
theorem xCl17_15 {l : Launch} {en : zEn} {me : zMe} (hen : zG zxMeta 31 = some en) (hme : zG zMeth 31 = some me) : xFc l zymc en me 3 [18] 2 fpfcl17_15 false (xΦcl17_ (1, 5)) xΨcl17 := by
  have een : zG zxMeta 31 = some (zxi31, 3, 4, 3, 31, 0, 0, 0, 0) := rfl
  obtain ⟨me1, hme1, hOK⟩ := zall hen
  rw [hme] at hme1
  cases hme1
  rw [een] at hen
  cases hen
  have hr := zyfcl17_15_run
  have hck := fun i hi => zyAll_iff zyfcl17_15_ck i hi
  simp only [Bool.and_eq_true] at hck
  intro B
  refine xcut (mi := zymc) (B := B) hOK rfl rfl (ι := Fin 1) (fun i => zpfcl17_15 i.val) (fun _ _ => []) (fun i => zFfcl17_15 i.val) (fun i => zSfcl17_15 i.val) (fun i => zXfcl17_15 i.val) (fun i => zRfcl17_15 i.val) (fun i y2 ct en2 me2 h => by cases h) 200000 (fun i => zyAll_iff hr i.val i.isLt) (fun i => (hck i.val i.isLt).1) (fun i => (hck i.val i.isLt).2.1) (fun i => (hck i.val i.isLt).2.2) ⟨0, by decide⟩ ⟨rfl, rfl, rfl, rfl⟩ ⟨by decide, by decide⟩ (fun i x0 E0 v E => xIfcl17_15 i.val x0 E0 v E) (fun i x0 E0 v E => xMfcl17_15 i.val x0 E0 v E) ?_ ?_ ?_
  · intro x0 E hx0 hT hΦ
    have hΦ : (xΦcl17_ (1, 5)) x0 E := hΦ
    refine ⟨fun k p hp => ?_, ?_⟩
    · have hk : k < 4 := (List.getElem?_eq_some_iff.mp hp).1
      have hk : k = 0 ∨ k = 1 ∨ k = 2 ∨ k = 3 := by omega
      rcases hk with rfl | rfl | rfl | rfl
      · have hp : some (0, 4294967295) = some p := hp
        cases hp
        show ((0 : Nat) : Int) ≤ 0 + 2147483648 ∧ 0 + 2147483648 ≤ ((4294967295 : Nat) : Int)
        omega
      · have hp : some (2147483649, 2147483649) = some p := hp
        cases hp
        show ((2147483649 : Nat) : Int) ≤ x0 0 + 2147483648 ∧ x0 0 + 2147483648 ≤ ((2147483649 : Nat) : Int)
        have hx := hx0 0
        have hP1 : x0 0 = ((1 : Nat) : Int) := hΦ.1
        have hP2 : x0 1 = ((5 : Nat) : Int) := hΦ.2
        omega
      · have hp : some (2147483653, 2147483653) = some p := hp
        cases hp
        show ((2147483653 : Nat) : Int) ≤ x0 1 + 2147483648 ∧ x0 1 + 2147483648 ≤ ((2147483653 : Nat) : Int)
        have hx := hx0 1
        have hP1 : x0 0 = ((1 : Nat) : Int) := hΦ.1
        have hP2 : x0 1 = ((5 : Nat) : Int) := hΦ.2
        omega
      · have hp : some (0, 4294967295) = some p := hp
        cases hp
        show ((0 : Nat) : Int) ≤ x0 2 + 2147483648 ∧ x0 2 + 2147483648 ≤ ((4294967295 : Nat) : Int)
        have hx := hx0 2
        omega
    · show E = E
      rfl
  · intro x0 s Wg hRu hrx hT0 hΦ i v H hT hrv hInv hKc hFr0 hIH x hx ρ2 v2 N2 H2 locs lsB stA hAt hB hv hr2 hXs hag hfr hFr hT2
    rcases i with ⟨i, hi⟩
    have hi2 : i = 0 := by omega
    rcases hi2 with rfl
    · cases hx
  · intro x0 E0 E E2 hrx hT0 hΦ i v hT hrv hInv hKc hFr0 x hx v2 hr2 hXs hag hfr hFr hT2
    rcases i with ⟨i, hi⟩
    have hi2 : i = 0 := by omega
    rcases hi2 with rfl
    · have hx : x ∈ [zxfcl17_15_ar0] := hx
      have hag : ∀ k, k < 4 → v2 k = v k := hag
      have hfr : xFr [(18, 5, 5), (18, 8, 8), (19, 0, 3), (20, 0, 19), (21, 0, 19), (22, 0, 19), (23, 0, 19), (24, 0, 19), (25, 0, 30), (26, 0, 30), (27, 0, 30), (28, 0, 30), (29, 0, 30), (30, 0, 30), (33, 1, 1)] _ _ := hfr
      have ex := List.mem_singleton.mp hx
      subst ex
      obtain ⟨hF, hBd, hM⟩ := hXs
      have g1 : v2 1 = v 1 := hag 1 (by decide)
      have g2 : v2 2 = v 2 := hag 2 (by decide)
      have b0 : ((2147483649 : Nat) : Int) ≤ (v2 1) + 2147483648 ∧ (v2 1) + 2147483648 ≤ ((2147483649 : Nat) : Int) := xXb hBd 0 rfl
      have b1 : ((2147483653 : Nat) : Int) ≤ (v2 2) + 2147483648 ∧ (v2 2) + 2147483648 ≤ ((2147483653 : Nat) : Int) := xXb hBd 1 rfl
      have m0 : xE E2 19 0 = (v2 1) := xXm hM 0 rfl
      have m1 : xE E2 19 1 = (v2 2) := xXm hM 1 rfl
      have hI : E = E0 := hInv
      show xΨcl17 x0 E0 E2 0
      have hP := hΦ
      have hP1 : x0 0 = ((1 : Nat) : Int) := hP.1
      have hP2 : x0 1 = ((5 : Nat) : Int) := hP.2
      unfold xΨcl17
      rw [hP1, hP2]
      obtain ⟨A, G⟩ := xGeo17_of hM (by decide) (by decide) (by decide) (by decide) (by decide) (by decide) zyfcl17_15_geo (by omega) (by omega) (by decide +kernel) (by decide +kernel)
      subst hI
      exact ⟨A, G, xJk17_of (by decide) (by decide) (by decide) (by decide) (by decide) G (fun i h1 h2 => by
        have h1 : ((20 : Nat) : Int) ≤ i := h1
        exact ⟨xFr_E hfr (xin_no (lo := 20) (by decide) (by omega)), xFr_E hfr (xin_no (lo := 20) (by decide) (by omega))⟩)⟩
noncomputable def zxfcl17_21_ar0 : zyXp := (0, [], [], [], [(34359738369, 2147483650, 2147483650), (68719476737, 2147483649, 2147483649)], [(311296, 34359738369), (311297, 68719476737), (311298, 64), (311299, 8), (294917, 0), (294920, 0), (540673, 0), (327680, 8), (327681, 16), (327682, 24), (327683, 0), (327684, 56), (327685, 32), (327686, 40), (327687, 48), (344064, 34359738360), (344065, 34359738360), (344066, 32), (344067, 34359738360), (344068, 16), (344069, 34359738360), (344070, 34359738360), (344071, 34359738360), (360448, 34359738360), (360449, 34359738360), (360450, 0), (360451, 34359738360), (360452, 0), (360453, 34359738360), (360454, 34359738360), (360455, 34359738360), (376832, 0), (376833, 8), (376834, 0), (376835, 34359738360), (376836, 0), (376837, 8), (376838, 0), (376839, 34359738360), (393216, 34359738360), (393217, 0), (393218, 8), (393219, 0), (393220, 8), (393221, 16), (393222, 24), (393223, 16), (409600, 16), (425984, 32), (442368, 0), (442369, 0), (442370, 0), (442371, 0), (442372, 0), (442373, 0), (442374, 0), (442375, 0), (442376, 0), (442377, 0), (442378, 0), (442379, 0), (442380, 0), (442381, 0), (442382, 0), (442383, 0), (442384, 0), (442385, 0), (442386, 0), (442387, 0), (442388, 0), (442389, 0), (442390, 0), (442391, 0), (442392, 0), (442393, 0), (442394, 0), (442395, 0), (442396, 0), (442397, 0), (442398, 0), (458752, 8), (458753, 8), (458754, 8), (458755, 8), (458756, 8), (458757, 8), (458758, 8), (458759, 8), (458760, 8), (458761, 8), (458762, 8), (458763, 8), (458764, 8), (458765, 8), (458766, 8), (458767, 8), (458768, 8), (458769, 8), (458770, 8), (458771, 8), (458772, 8), (458773, 8), (458774, 8), (458775, 8), (458776, 8), (458777, 8), (458778, 8), (458779, 8), (458780, 8), (458781, 8), (458782, 8), (475136, 0), (475137, 0), (475138, 0), (475139, 0), (475140, 0), (475141, 0), (475142, 0), (475143, 0), (475144, 0), (475145, 0), (475146, 0), (475147, 0), (475148, 0), (475149, 0), (475150, 0), (475151, 0), (475152, 0), (475153, 0), (475154, 0), (475155, 0), (475156, 0), (475157, 0), (475158, 0), (475159, 0), (475160, 0), (475161, 0), (475162, 0), (475163, 0), (475164, 0), (475165, 0), (475166, 0), (491520, 0), (491521, 0), (491522, 0), (491523, 0), (491524, 0), (491525, 0), (491526, 0), (491527, 0), (491528, 0), (491529, 0), (491530, 0), (491531, 0), (491532, 0), (491533, 0), (491534, 0), (491535, 0), (491536, 0), (491537, 0), (491538, 0), (491539, 0), (491540, 0), (491541, 0), (491542, 0), (491543, 0), (491544, 0), (491545, 0), (491546, 0), (491547, 0), (491548, 0), (491549, 0), (491550, 0)])
noncomputable def zpfcl17_21_a : zyPh := (0, [147, 34359738369, 68719476737, 13], [(0, 4294967295), (2147483650, 2147483650), (2147483649, 2147483649), (0, 4294967295)], [], [])
noncomputable def zpfcl17_21 (i : Nat) : zyPh := zpfcl17_21_a
noncomputable def zXfcl17_21 (i : Nat) : List zyXp := []
noncomputable def zRfcl17_21 (i : Nat) : List zyXp := [zxfcl17_21_ar0]
noncomputable def zFfcl17_21 (i : Nat) : zyR := [(18, 5, 5), (18, 8, 8), (19, 0, 3), (20, 0, 7), (21, 0, 7), (22, 0, 7), (23, 0, 7), (24, 0, 7), (25, 0, 30), (26, 0, 30), (27, 0, 30), (28, 0, 30), (29, 0, 30), (30, 0, 30), (33, 1, 1)]
noncomputable def zSfcl17_21 (i : Nat) : Nat := 0
theorem zyfcl17_21_geo : xgeoB17 (zxfcl17_21_ar0).2.2.2.2.2 2 1 = true := by decide +kernel
noncomputable def fpfcl17_21 : zyR := [(18, 5, 5), (18, 8, 8), (19, 0, 3), (20, 0, 79), (21, 0, 79), (22, 0, 79), (23, 0, 79), (24, 0, 79), (25, 0, 30), (26, 0, 30), (27, 0, 30), (28, 0, 30), (29, 0, 30), (30, 0, 30), (33, 1, 1)]
theorem zyfcl17_21_run : zyrS zymc zxi31 (31, 0, 0, 0, 0) 3 zpfcl17_21 (fun _ _ => []) zFfcl17_21 zSfcl17_21 zXfcl17_21 zRfcl17_21 1 = true := by decide +kernel
theorem zyfcl17_21_ck : zyAll (fun i => xsubR (zFfcl17_21 i) fpfcl17_21 && ((zXfcl17_21 i).all xckX && (zRfcl17_21 i).all (fun x => xckX x && xrtB false x))) 1 = true := by decide +kernel
def xIfcl17_21 (i : Nat) (x0 : Nat → Int) (E0 : zyEm) (v : Nat → Int) (E : zyEm) : Prop := (E = E0)
def xMfcl17_21 (i : Nat) (x0 : Nat → Int) (E0 : zyEm) (v : Nat → Int) (E : zyEm) : Nat := (0)
theorem xCl17_21 {l : Launch} {en : zEn} {me : zMe} (hen : zG zxMeta 31 = some en) (hme : zG zMeth 31 = some me) : xFc l zymc en me 3 [18] 2 fpfcl17_21 false (xΦcl17_ (2, 1)) xΨcl17 := by
  have een : zG zxMeta 31 = some (zxi31, 3, 4, 3, 31, 0, 0, 0, 0) := rfl
  obtain ⟨me1, hme1, hOK⟩ := zall hen
  rw [hme] at hme1
  cases hme1
  rw [een] at hen
  cases hen
  have hr := zyfcl17_21_run
  have hck := fun i hi => zyAll_iff zyfcl17_21_ck i hi
  simp only [Bool.and_eq_true] at hck
  intro B
  refine xcut (mi := zymc) (B := B) hOK rfl rfl (ι := Fin 1) (fun i => zpfcl17_21 i.val) (fun _ _ => []) (fun i => zFfcl17_21 i.val) (fun i => zSfcl17_21 i.val) (fun i => zXfcl17_21 i.val) (fun i => zRfcl17_21 i.val) (fun i y2 ct en2 me2 h => by cases h) 200000 (fun i => zyAll_iff hr i.val i.isLt) (fun i => (hck i.val i.isLt).1) (fun i => (hck i.val i.isLt).2.1) (fun i => (hck i.val i.isLt).2.2) ⟨0, by decide⟩ ⟨rfl, rfl, rfl, rfl⟩ ⟨by decide, by decide⟩ (fun i x0 E0 v E => xIfcl17_21 i.val x0 E0 v E) (fun i x0 E0 v E => xMfcl17_21 i.val x0 E0 v E) ?_ ?_ ?_
  · intro x0 E hx0 hT hΦ
    have hΦ : (xΦcl17_ (2, 1)) x0 E := hΦ
    refine ⟨fun k p hp => ?_, ?_⟩
    · have hk : k < 4 := (List.getElem?_eq_some_iff.mp hp).1
      have hk : k = 0 ∨ k = 1 ∨ k = 2 ∨ k = 3 := by omega
      rcases hk with rfl | rfl | rfl | rfl
      · have hp : some (0, 4294967295) = some p := hp
        cases hp
        show ((0 : Nat) : Int) ≤ 0 + 2147483648 ∧ 0 + 2147483648 ≤ ((4294967295 : Nat) : Int)
        omega
      · have hp : some (2147483650, 2147483650) = some p := hp
        cases hp
        show ((2147483650 : Nat) : Int) ≤ x0 0 + 2147483648 ∧ x0 0 + 2147483648 ≤ ((2147483650 : Nat) : Int)
        have hx := hx0 0
        have hP1 : x0 0 = ((2 : Nat) : Int) := hΦ.1
        have hP2 : x0 1 = ((1 : Nat) : Int) := hΦ.2
        omega
      · have hp : some (2147483649, 2147483649) = some p := hp
        cases hp
        show ((2147483649 : Nat) : Int) ≤ x0 1 + 2147483648 ∧ x0 1 + 2147483648 ≤ ((2147483649 : Nat) : Int)
        have hx := hx0 1
        have hP1 : x0 0 = ((2 : Nat) : Int) := hΦ.1
        have hP2 : x0 1 = ((1 : Nat) : Int) := hΦ.2
        omega
      · have hp : some (0, 4294967295) = some p := hp
        cases hp
        show ((0 : Nat) : Int) ≤ x0 2 + 2147483648 ∧ x0 2 + 2147483648 ≤ ((4294967295 : Nat) : Int)
        have hx := hx0 2
        omega
    · show E = E
      rfl
  · intro x0 s Wg hRu hrx hT0 hΦ i v H hT hrv hInv hKc hFr0 hIH x hx ρ2 v2 N2 H2 locs lsB stA hAt hB hv hr2 hXs hag hfr hFr hT2
    rcases i with ⟨i, hi⟩
    have hi2 : i = 0 := by omega
    rcases hi2 with rfl
    · cases hx
  · intro x0 E0 E E2 hrx hT0 hΦ i v hT hrv hInv hKc hFr0 x hx v2 hr2 hXs hag hfr hFr hT2
    rcases i with ⟨i, hi⟩
    have hi2 : i = 0 := by omega
    rcases hi2 with rfl
    · have hx : x ∈ [zxfcl17_21_ar0] := hx
      have hag : ∀ k, k < 4 → v2 k = v k := hag
      have hfr : xFr [(18, 5, 5), (18, 8, 8), (19, 0, 3), (20, 0, 7), (21, 0, 7), (22, 0, 7), (23, 0, 7), (24, 0, 7), (25, 0, 30), (26, 0, 30), (27, 0, 30), (28, 0, 30), (29, 0, 30), (30, 0, 30), (33, 1, 1)] _ _ := hfr
      have ex := List.mem_singleton.mp hx
      subst ex
      obtain ⟨hF, hBd, hM⟩ := hXs
      have g1 : v2 1 = v 1 := hag 1 (by decide)
      have g2 : v2 2 = v 2 := hag 2 (by decide)
      have b0 : ((2147483650 : Nat) : Int) ≤ (v2 1) + 2147483648 ∧ (v2 1) + 2147483648 ≤ ((2147483650 : Nat) : Int) := xXb hBd 0 rfl
      have b1 : ((2147483649 : Nat) : Int) ≤ (v2 2) + 2147483648 ∧ (v2 2) + 2147483648 ≤ ((2147483649 : Nat) : Int) := xXb hBd 1 rfl
      have m0 : xE E2 19 0 = (v2 1) := xXm hM 0 rfl
      have m1 : xE E2 19 1 = (v2 2) := xXm hM 1 rfl
      have hI : E = E0 := hInv
      show xΨcl17 x0 E0 E2 0
      have hP := hΦ
      have hP1 : x0 0 = ((2 : Nat) : Int) := hP.1
      have hP2 : x0 1 = ((1 : Nat) : Int) := hP.2
      unfold xΨcl17
      rw [hP1, hP2]
      obtain ⟨A, G⟩ := xGeo17_of hM (by decide) (by decide) (by decide) (by decide) (by decide) (by decide) zyfcl17_21_geo (by omega) (by omega) (by decide +kernel) (by decide +kernel)
      subst hI
      exact ⟨A, G, xJk17_of (by decide) (by decide) (by decide) (by decide) (by decide) G (fun i h1 h2 => by
        have h1 : ((8 : Nat) : Int) ≤ i := h1
        exact ⟨xFr_E hfr (xin_no (lo := 8) (by decide) (by omega)), xFr_E hfr (xin_no (lo := 8) (by decide) (by omega))⟩)⟩
noncomputable def zxfcl17_22_ar0 : zyXp := (0, [], [], [], [(34359738369, 2147483650, 2147483650), (68719476737, 2147483650, 2147483650)], [(311296, 34359738369), (311297, 68719476737), (311298, 128), (311299, 32), (294917, 0), (294920, 0), (540673, 0), (327680, 8), (327681, 16), (327682, 24), (327683, 0), (327684, 56), (327685, 32), (327686, 40), (327687, 48), (327688, 88), (327689, 64), (327690, 72), (327691, 80), (327692, 104), (327693, 112), (327694, 120), (327695, 96), (344064, 34359738360), (344065, 56), (344066, 64), (344067, 34359738360), (344068, 34359738360), (344069, 34359738360), (344070, 96), (344071, 8), (344072, 16), (344073, 120), (344074, 34359738360), (344075, 34359738360), (344076, 48), (344077, 34359738360), (344078, 34359738360), (344079, 72), (360448, 34359738360), (360449, 0), (360450, 16), (360451, 34359738360), (360452, 34359738360), (360453, 34359738360), (360454, 24), (360455, 0), (360456, 16), (360457, 8), (360458, 34359738360), (360459, 34359738360), (360460, 24), (360461, 34359738360), (360462, 34359738360), (360463, 8), (376832, 0), (376833, 8), (376834, 0), (376835, 34359738360), (376836, 16), (376837, 24), (376838, 16), (376839, 8), (376840, 0), (376841, 8), (376842, 0), (376843, 34359738360), (376844, 16), (376845, 24), (376846, 16), (376847, 8), (393216, 34359738360), (393217, 0), (393218, 8), (393219, 0), (393220, 34359738360), (393221, 0), (393222, 8), (393223, 0), (393224, 8), (393225, 16), (393226, 24), (393227, 16), (393228, 8), (393229, 16), (393230, 24), (393231, 16), (409600, 8), (409601, 72), (409602, 16), (409603, 48), (425984, 56), (425985, 120), (425986, 64), (425987, 96), (442368, 0), (442369, 0), (442370, 0), (442371, 0), (442372, 0), (442373, 0), (442374, 0), (442375, 0), (442376, 0), (442377, 0), (442378, 0), (442379, 0), (442380, 0), (442381, 0), (442382, 0), (442383, 0), (442384, 0), (442385, 0), (442386, 0), (442387, 0), (442388, 0), (442389, 0), (442390, 0), (442391, 0), (442392, 0), (442393, 0), (442394, 0), (442395, 0), (442396, 0), (442397, 0), (442398, 0), (458752, 8), (458753, 8), (458754, 8), (458755, 8), (458756, 8), (458757, 8), (458758, 8), (458759, 8), (458760, 8), (458761, 8), (458762, 8), (458763, 8), (458764, 8), (458765, 8), (458766, 8), (458767, 8), (458768, 8), (458769, 8), (458770, 8), (458771, 8), (458772, 8), (458773, 8), (458774, 8), (458775, 8), (458776, 8), (458777, 8), (458778, 8), (458779, 8), (458780, 8), (458781, 8), (458782, 8), (475136, 0), (475137, 0), (475138, 0), (475139, 0), (475140, 0), (475141, 0), (475142, 0), (475143, 0), (475144, 0), (475145, 0), (475146, 0), (475147, 0), (475148, 0), (475149, 0), (475150, 0), (475151, 0), (475152, 0), (475153, 0), (475154, 0), (475155, 0), (475156, 0), (475157, 0), (475158, 0), (475159, 0), (475160, 0), (475161, 0), (475162, 0), (475163, 0), (475164, 0), (475165, 0), (475166, 0), (491520, 0), (491521, 0), (491522, 0), (491523, 0), (491524, 0), (491525, 0), (491526, 0), (491527, 0), (491528, 0), (491529, 0), (491530, 0), (491531, 0), (491532, 0), (491533, 0), (491534, 0), (491535, 0), (491536, 0), (491537, 0), (491538, 0), (491539, 0), (491540, 0), (491541, 0), (491542, 0), (491543, 0), (491544, 0), (491545, 0), (491546, 0), (491547, 0), (491548, 0), (491549, 0), (491550, 0)])
noncomputable def zpfcl17_22_a : zyPh := (0, [147, 34359738369, 68719476737, 13], [(0, 4294967295), (2147483650, 2147483650), (2147483650, 2147483650), (0, 4294967295)], [], [])
noncomputable def zpfcl17_22 (i : Nat) : zyPh := zpfcl17_22_a
noncomputable def zXfcl17_22 (i : Nat) : List zyXp := []
noncomputable def zRfcl17_22 (i : Nat) : List zyXp := [zxfcl17_22_ar0]
noncomputable def zFfcl17_22 (i : Nat) : zyR := [(18, 5, 5), (18, 8, 8), (19, 0, 3), (20, 0, 15), (21, 0, 15), (22, 0, 15), (23, 0, 15), (24, 0, 15), (25, 0, 30), (26, 0, 30), (27, 0, 30), (28, 0, 30), (29, 0, 30), (30, 0, 30), (33, 1, 1)]
noncomputable def zSfcl17_22 (i : Nat) : Nat := 0
theorem zyfcl17_22_geo : xgeoB17 (zxfcl17_22_ar0).2.2.2.2.2 2 2 = true := by decide +kernel
noncomputable def fpfcl17_22 : zyR := [(18, 5, 5), (18, 8, 8), (19, 0, 3), (20, 0, 79), (21, 0, 79), (22, 0, 79), (23, 0, 79), (24, 0, 79), (25, 0, 30), (26, 0, 30), (27, 0, 30), (28, 0, 30), (29, 0, 30), (30, 0, 30), (33, 1, 1)]
theorem zyfcl17_22_run : zyrS zymc zxi31 (31, 0, 0, 0, 0) 3 zpfcl17_22 (fun _ _ => []) zFfcl17_22 zSfcl17_22 zXfcl17_22 zRfcl17_22 1 = true := by decide +kernel
theorem zyfcl17_22_ck : zyAll (fun i => xsubR (zFfcl17_22 i) fpfcl17_22 && ((zXfcl17_22 i).all xckX && (zRfcl17_22 i).all (fun x => xckX x && xrtB false x))) 1 = true := by decide +kernel
def xIfcl17_22 (i : Nat) (x0 : Nat → Int) (E0 : zyEm) (v : Nat → Int) (E : zyEm) : Prop := (E = E0)
def xMfcl17_22 (i : Nat) (x0 : Nat → Int) (E0 : zyEm) (v : Nat → Int) (E : zyEm) : Nat := (0)
theorem xCl17_22 {l : Launch} {en : zEn} {me : zMe} (hen : zG zxMeta 31 = some en) (hme : zG zMeth 31 = some me) : xFc l zymc en me 3 [18] 2 fpfcl17_22 false (xΦcl17_ (2, 2)) xΨcl17 := by
  have een : zG zxMeta 31 = some (zxi31, 3, 4, 3, 31, 0, 0, 0, 0) := rfl
  obtain ⟨me1, hme1, hOK⟩ := zall hen
  rw [hme] at hme1
  cases hme1
  rw [een] at hen
  cases hen
  have hr := zyfcl17_22_run
  have hck := fun i hi => zyAll_iff zyfcl17_22_ck i hi
  simp only [Bool.and_eq_true] at hck
  intro B
  refine xcut (mi := zymc) (B := B) hOK rfl rfl (ι := Fin 1) (fun i => zpfcl17_22 i.val) (fun _ _ => []) (fun i => zFfcl17_22 i.val) (fun i => zSfcl17_22 i.val) (fun i => zXfcl17_22 i.val) (fun i => zRfcl17_22 i.val) (fun i y2 ct en2 me2 h => by cases h) 200000 (fun i => zyAll_iff hr i.val i.isLt) (fun i => (hck i.val i.isLt).1) (fun i => (hck i.val i.isLt).2.1) (fun i => (hck i.val i.isLt).2.2) ⟨0, by decide⟩ ⟨rfl, rfl, rfl, rfl⟩ ⟨by decide, by decide⟩ (fun i x0 E0 v E => xIfcl17_22 i.val x0 E0 v E) (fun i x0 E0 v E => xMfcl17_22 i.val x0 E0 v E) ?_ ?_ ?_
  · intro x0 E hx0 hT hΦ
    have hΦ : (xΦcl17_ (2, 2)) x0 E := hΦ
    refine ⟨fun k p hp => ?_, ?_⟩
    · have hk : k < 4 := (List.getElem?_eq_some_iff.mp hp).1
      have hk : k = 0 ∨ k = 1 ∨ k = 2 ∨ k = 3 := by omega
      rcases hk with rfl | rfl | rfl | rfl
      · have hp : some (0, 4294967295) = some p := hp
        cases hp
        show ((0 : Nat) : Int) ≤ 0 + 2147483648 ∧ 0 + 2147483648 ≤ ((4294967295 : Nat) : Int)
        omega
      · have hp : some (2147483650, 2147483650) = some p := hp
        cases hp
        show ((2147483650 : Nat) : Int) ≤ x0 0 + 2147483648 ∧ x0 0 + 2147483648 ≤ ((2147483650 : Nat) : Int)
        have hx := hx0 0
        have hP1 : x0 0 = ((2 : Nat) : Int) := hΦ.1
        have hP2 : x0 1 = ((2 : Nat) : Int) := hΦ.2
        omega
      · have hp : some (2147483650, 2147483650) = some p := hp
        cases hp
        show ((2147483650 : Nat) : Int) ≤ x0 1 + 2147483648 ∧ x0 1 + 2147483648 ≤ ((2147483650 : Nat) : Int)
        have hx := hx0 1
        have hP1 : x0 0 = ((2 : Nat) : Int) := hΦ.1
        have hP2 : x0 1 = ((2 : Nat) : Int) := hΦ.2
        omega
      · have hp : some (0, 4294967295) = some p := hp
        cases hp
        show ((0 : Nat) : Int) ≤ x0 2 + 2147483648 ∧ x0 2 + 2147483648 ≤ ((4294967295 : Nat) : Int)
        have hx := hx0 2
        omega
    · show E = E
      rfl
  · intro x0 s Wg hRu hrx hT0 hΦ i v H hT hrv hInv hKc hFr0 hIH x hx ρ2 v2 N2 H2 locs lsB stA hAt hB hv hr2 hXs hag hfr hFr hT2
    rcases i with ⟨i, hi⟩
    have hi2 : i = 0 := by omega
    rcases hi2 with rfl
    · cases hx
  · intro x0 E0 E E2 hrx hT0 hΦ i v hT hrv hInv hKc hFr0 x hx v2 hr2 hXs hag hfr hFr hT2
    rcases i with ⟨i, hi⟩
    have hi2 : i = 0 := by omega
    rcases hi2 with rfl
    · have hx : x ∈ [zxfcl17_22_ar0] := hx
      have hag : ∀ k, k < 4 → v2 k = v k := hag
      have hfr : xFr [(18, 5, 5), (18, 8, 8), (19, 0, 3), (20, 0, 15), (21, 0, 15), (22, 0, 15), (23, 0, 15), (24, 0, 15), (25, 0, 30), (26, 0, 30), (27, 0, 30), (28, 0, 30), (29, 0, 30), (30, 0, 30), (33, 1, 1)] _ _ := hfr
      have ex := List.mem_singleton.mp hx
      subst ex
      obtain ⟨hF, hBd, hM⟩ := hXs
      have g1 : v2 1 = v 1 := hag 1 (by decide)
      have g2 : v2 2 = v 2 := hag 2 (by decide)
      have b0 : ((2147483650 : Nat) : Int) ≤ (v2 1) + 2147483648 ∧ (v2 1) + 2147483648 ≤ ((2147483650 : Nat) : Int) := xXb hBd 0 rfl
      have b1 : ((2147483650 : Nat) : Int) ≤ (v2 2) + 2147483648 ∧ (v2 2) + 2147483648 ≤ ((2147483650 : Nat) : Int) := xXb hBd 1 rfl
      have m0 : xE E2 19 0 = (v2 1) := xXm hM 0 rfl
      have m1 : xE E2 19 1 = (v2 2) := xXm hM 1 rfl
      have hI : E = E0 := hInv
      show xΨcl17 x0 E0 E2 0
      have hP := hΦ
      have hP1 : x0 0 = ((2 : Nat) : Int) := hP.1
      have hP2 : x0 1 = ((2 : Nat) : Int) := hP.2
      unfold xΨcl17
      rw [hP1, hP2]
      obtain ⟨A, G⟩ := xGeo17_of hM (by decide) (by decide) (by decide) (by decide) (by decide) (by decide) zyfcl17_22_geo (by omega) (by omega) (by decide +kernel) (by decide +kernel)
      subst hI
      exact ⟨A, G, xJk17_of (by decide) (by decide) (by decide) (by decide) (by decide) G (fun i h1 h2 => by
        have h1 : ((16 : Nat) : Int) ≤ i := h1
        exact ⟨xFr_E hfr (xin_no (lo := 16) (by decide) (by omega)), xFr_E hfr (xin_no (lo := 16) (by decide) (by omega))⟩)⟩
noncomputable def zxfcl17_23_ar0 : zyXp := (0, [], [], [], [(34359738369, 2147483650, 2147483650), (68719476737, 2147483651, 2147483651)], [(311296, 34359738369), (311297, 68719476737), (311298, 192), (311299, 56), (294917, 0), (294920, 0), (540673, 0), (327680, 8), (327681, 16), (327682, 24), (327683, 0), (327684, 56), (327685, 32), (327686, 40), (327687, 48), (327688, 72), (327689, 80), (327690, 88), (327691, 64), (327692, 120), (327693, 96), (327694, 104), (327695, 112), (327696, 136), (327697, 144), (327698, 152), (327699, 128), (327700, 184), (327701, 160), (327702, 168), (327703, 176), (344064, 34359738360), (344065, 56), (344066, 96), (344067, 34359738360), (344068, 34359738360), (344069, 88), (344070, 128), (344071, 8), (344072, 34359738360), (344073, 34359738360), (344074, 160), (344075, 40), (344076, 16), (344077, 152), (344078, 34359738360), (344079, 34359738360), (344080, 48), (344081, 184), (344082, 34359738360), (344083, 104), (344084, 80), (344085, 34359738360), (344086, 34359738360), (344087, 136), (360448, 34359738360), (360449, 0), (360450, 32), (360451, 34359738360), (360452, 34359738360), (360453, 8), (360454, 40), (360455, 0), (360456, 34359738360), (360457, 34359738360), (360458, 48), (360459, 8), (360460, 32), (360461, 16), (360462, 34359738360), (360463, 34359738360), (360464, 40), (360465, 24), (360466, 34359738360), (360467, 16), (360468, 48), (360469, 34359738360), (360470, 34359738360), (360471, 24), (376832, 0), (376833, 8), (376834, 0), (376835, 34359738360), (376836, 16), (376837, 24), (376838, 16), (376839, 8), (376840, 32), (376841, 40), (376842, 32), (376843, 24), (376844, 0), (376845, 8), (376846, 0), (376847, 34359738360), (376848, 16), (376849, 24), (376850, 16), (376851, 8), (376852, 32), (376853, 40), (376854, 32), (376855, 24), (393216, 34359738360), (393217, 0), (393218, 8), (393219, 0), (393220, 34359738360), (393221, 0), (393222, 8), (393223, 0), (393224, 34359738360), (393225, 0), (393226, 8), (393227, 0), (393228, 8), (393229, 16), (393230, 24), (393231, 16), (393232, 8), (393233, 16), (393234, 24), (393235, 16), (393236, 8), (393237, 16), (393238, 24), (393239, 16), (409600, 8), (409601, 40), (409602, 104), (409603, 136), (409604, 16), (409605, 48), (409606, 80), (425984, 56), (425985, 88), (425986, 152), (425987, 184), (425988, 96), (425989, 128), (425990, 160), (442368, 0), (442369, 0), (442370, 0), (442371, 0), (442372, 0), (442373, 0), (442374, 0), (442375, 0), (442376, 0), (442377, 0), (442378, 0), (442379, 0), (442380, 0), (442381, 0), (442382, 0), (442383, 0), (442384, 0), (442385, 0), (442386, 0), (442387, 0), (442388, 0), (442389, 0), (442390, 0), (442391, 0), (442392, 0), (442393, 0), (442394, 0), (442395, 0), (442396, 0), (442397, 0), (442398, 0), (458752, 8), (458753, 8), (458754, 8), (458755, 8), (458756, 8), (458757, 8), (458758, 8), (458759, 8), (458760, 8), (458761, 8), (458762, 8), (458763, 8), (458764, 8), (458765, 8), (458766, 8), (458767, 8), (458768, 8), (458769, 8), (458770, 8), (458771, 8), (458772, 8), (458773, 8), (458774, 8), (458775, 8), (458776, 8), (458777, 8), (458778, 8), (458779, 8), (458780, 8), (458781, 8), (458782, 8), (475136, 0), (475137, 0), (475138, 0), (475139, 0), (475140, 0), (475141, 0), (475142, 0), (475143, 0), (475144, 0), (475145, 0), (475146, 0), (475147, 0), (475148, 0), (475149, 0), (475150, 0), (475151, 0), (475152, 0), (475153, 0), (475154, 0), (475155, 0), (475156, 0), (475157, 0), (475158, 0), (475159, 0), (475160, 0), (475161, 0), (475162, 0), (475163, 0), (475164, 0), (475165, 0), (475166, 0), (491520, 0), (491521, 0), (491522, 0), (491523, 0), (491524, 0), (491525, 0), (491526, 0), (491527, 0), (491528, 0), (491529, 0), (491530, 0), (491531, 0), (491532, 0), (491533, 0), (491534, 0), (491535, 0), (491536, 0), (491537, 0), (491538, 0), (491539, 0), (491540, 0), (491541, 0), (491542, 0), (491543, 0), (491544, 0), (491545, 0), (491546, 0), (491547, 0), (491548, 0), (491549, 0), (491550, 0)])
noncomputable def zpfcl17_23_a : zyPh := (0, [147, 34359738369, 68719476737, 13], [(0, 4294967295), (2147483650, 2147483650), (2147483651, 2147483651), (0, 4294967295)], [], [])
noncomputable def zpfcl17_23 (i : Nat) : zyPh := zpfcl17_23_a
noncomputable def zXfcl17_23 (i : Nat) : List zyXp := []
noncomputable def zRfcl17_23 (i : Nat) : List zyXp := [zxfcl17_23_ar0]
noncomputable def zFfcl17_23 (i : Nat) : zyR := [(18, 5, 5), (18, 8, 8), (19, 0, 3), (20, 0, 23), (21, 0, 23), (22, 0, 23), (23, 0, 23), (24, 0, 23), (25, 0, 30), (26, 0, 30), (27, 0, 30), (28, 0, 30), (29, 0, 30), (30, 0, 30), (33, 1, 1)]
noncomputable def zSfcl17_23 (i : Nat) : Nat := 0
theorem zyfcl17_23_geo : xgeoB17 (zxfcl17_23_ar0).2.2.2.2.2 2 3 = true := by decide +kernel
noncomputable def fpfcl17_23 : zyR := [(18, 5, 5), (18, 8, 8), (19, 0, 3), (20, 0, 79), (21, 0, 79), (22, 0, 79), (23, 0, 79), (24, 0, 79), (25, 0, 30), (26, 0, 30), (27, 0, 30), (28, 0, 30), (29, 0, 30), (30, 0, 30), (33, 1, 1)]
theorem zyfcl17_23_run : zyrS zymc zxi31 (31, 0, 0, 0, 0) 3 zpfcl17_23 (fun _ _ => []) zFfcl17_23 zSfcl17_23 zXfcl17_23 zRfcl17_23 1 = true := by decide +kernel
theorem zyfcl17_23_ck : zyAll (fun i => xsubR (zFfcl17_23 i) fpfcl17_23 && ((zXfcl17_23 i).all xckX && (zRfcl17_23 i).all (fun x => xckX x && xrtB false x))) 1 = true := by decide +kernel
def xIfcl17_23 (i : Nat) (x0 : Nat → Int) (E0 : zyEm) (v : Nat → Int) (E : zyEm) : Prop := (E = E0)
def xMfcl17_23 (i : Nat) (x0 : Nat → Int) (E0 : zyEm) (v : Nat → Int) (E : zyEm) : Nat := (0)
theorem xCl17_23 {l : Launch} {en : zEn} {me : zMe} (hen : zG zxMeta 31 = some en) (hme : zG zMeth 31 = some me) : xFc l zymc en me 3 [18] 2 fpfcl17_23 false (xΦcl17_ (2, 3)) xΨcl17 := by
  have een : zG zxMeta 31 = some (zxi31, 3, 4, 3, 31, 0, 0, 0, 0) := rfl
  obtain ⟨me1, hme1, hOK⟩ := zall hen
  rw [hme] at hme1
  cases hme1
  rw [een] at hen
  cases hen
  have hr := zyfcl17_23_run
  have hck := fun i hi => zyAll_iff zyfcl17_23_ck i hi
  simp only [Bool.and_eq_true] at hck
  intro B
  refine xcut (mi := zymc) (B := B) hOK rfl rfl (ι := Fin 1) (fun i => zpfcl17_23 i.val) (fun _ _ => []) (fun i => zFfcl17_23 i.val) (fun i => zSfcl17_23 i.val) (fun i => zXfcl17_23 i.val) (fun i => zRfcl17_23 i.val) (fun i y2 ct en2 me2 h => by cases h) 200000 (fun i => zyAll_iff hr i.val i.isLt) (fun i => (hck i.val i.isLt).1) (fun i => (hck i.val i.isLt).2.1) (fun i => (hck i.val i.isLt).2.2) ⟨0, by decide⟩ ⟨rfl, rfl, rfl, rfl⟩ ⟨by decide, by decide⟩ (fun i x0 E0 v E => xIfcl17_23 i.val x0 E0 v E) (fun i x0 E0 v E => xMfcl17_23 i.val x0 E0 v E) ?_ ?_ ?_
  · intro x0 E hx0 hT hΦ
    have hΦ : (xΦcl17_ (2, 3)) x0 E := hΦ
    refine ⟨fun k p hp => ?_, ?_⟩
    · have hk : k < 4 := (List.getElem?_eq_some_iff.mp hp).1
      have hk : k = 0 ∨ k = 1 ∨ k = 2 ∨ k = 3 := by omega
      rcases hk with rfl | rfl | rfl | rfl
      · have hp : some (0, 4294967295) = some p := hp
        cases hp
        show ((0 : Nat) : Int) ≤ 0 + 2147483648 ∧ 0 + 2147483648 ≤ ((4294967295 : Nat) : Int)
        omega
      · have hp : some (2147483650, 2147483650) = some p := hp
        cases hp
        show ((2147483650 : Nat) : Int) ≤ x0 0 + 2147483648 ∧ x0 0 + 2147483648 ≤ ((2147483650 : Nat) : Int)
        have hx := hx0 0
        have hP1 : x0 0 = ((2 : Nat) : Int) := hΦ.1
        have hP2 : x0 1 = ((3 : Nat) : Int) := hΦ.2
        omega
      · have hp : some (2147483651, 2147483651) = some p := hp
        cases hp
        show ((2147483651 : Nat) : Int) ≤ x0 1 + 2147483648 ∧ x0 1 + 2147483648 ≤ ((2147483651 : Nat) : Int)
        have hx := hx0 1
        have hP1 : x0 0 = ((2 : Nat) : Int) := hΦ.1
        have hP2 : x0 1 = ((3 : Nat) : Int) := hΦ.2
        omega
      · have hp : some (0, 4294967295) = some p := hp
        cases hp
        show ((0 : Nat) : Int) ≤ x0 2 + 2147483648 ∧ x0 2 + 2147483648 ≤ ((4294967295 : Nat) : Int)
        have hx := hx0 2
        omega
    · show E = E
      rfl
  · intro x0 s Wg hRu hrx hT0 hΦ i v H hT hrv hInv hKc hFr0 hIH x hx ρ2 v2 N2 H2 locs lsB stA hAt hB hv hr2 hXs hag hfr hFr hT2
    rcases i with ⟨i, hi⟩
    have hi2 : i = 0 := by omega
    rcases hi2 with rfl
    · cases hx
  · intro x0 E0 E E2 hrx hT0 hΦ i v hT hrv hInv hKc hFr0 x hx v2 hr2 hXs hag hfr hFr hT2
    rcases i with ⟨i, hi⟩
    have hi2 : i = 0 := by omega
    rcases hi2 with rfl
    · have hx : x ∈ [zxfcl17_23_ar0] := hx
      have hag : ∀ k, k < 4 → v2 k = v k := hag
      have hfr : xFr [(18, 5, 5), (18, 8, 8), (19, 0, 3), (20, 0, 23), (21, 0, 23), (22, 0, 23), (23, 0, 23), (24, 0, 23), (25, 0, 30), (26, 0, 30), (27, 0, 30), (28, 0, 30), (29, 0, 30), (30, 0, 30), (33, 1, 1)] _ _ := hfr
      have ex := List.mem_singleton.mp hx
      subst ex
      obtain ⟨hF, hBd, hM⟩ := hXs
      have g1 : v2 1 = v 1 := hag 1 (by decide)
      have g2 : v2 2 = v 2 := hag 2 (by decide)
      have b0 : ((2147483650 : Nat) : Int) ≤ (v2 1) + 2147483648 ∧ (v2 1) + 2147483648 ≤ ((2147483650 : Nat) : Int) := xXb hBd 0 rfl
      have b1 : ((2147483651 : Nat) : Int) ≤ (v2 2) + 2147483648 ∧ (v2 2) + 2147483648 ≤ ((2147483651 : Nat) : Int) := xXb hBd 1 rfl
      have m0 : xE E2 19 0 = (v2 1) := xXm hM 0 rfl
      have m1 : xE E2 19 1 = (v2 2) := xXm hM 1 rfl
      have hI : E = E0 := hInv
      show xΨcl17 x0 E0 E2 0
      have hP := hΦ
      have hP1 : x0 0 = ((2 : Nat) : Int) := hP.1
      have hP2 : x0 1 = ((3 : Nat) : Int) := hP.2
      unfold xΨcl17
      rw [hP1, hP2]
      obtain ⟨A, G⟩ := xGeo17_of hM (by decide) (by decide) (by decide) (by decide) (by decide) (by decide) zyfcl17_23_geo (by omega) (by omega) (by decide +kernel) (by decide +kernel)
      subst hI
      exact ⟨A, G, xJk17_of (by decide) (by decide) (by decide) (by decide) (by decide) G (fun i h1 h2 => by
        have h1 : ((24 : Nat) : Int) ≤ i := h1
        exact ⟨xFr_E hfr (xin_no (lo := 24) (by decide) (by omega)), xFr_E hfr (xin_no (lo := 24) (by decide) (by omega))⟩)⟩
noncomputable def zxfcl17_24_ar0 : zyXp := (0, [], [], [], [(34359738369, 2147483650, 2147483650), (68719476737, 2147483652, 2147483652)], [(311296, 34359738369), (311297, 68719476737), (311298, 256), (311299, 80), (294917, 0), (294920, 0), (540673, 0), (327680, 8), (327681, 16), (327682, 24), (327683, 0), (327684, 56), (327685, 32), (327686, 40), (327687, 48), (327688, 72), (327689, 80), (327690, 88), (327691, 64), (327692, 120), (327693, 96), (327694, 104), (327695, 112), (327696, 152), (327697, 128), (327698, 136), (327699, 144), (327700, 168), (327701, 176), (327702, 184), (327703, 160), (327704, 216), (327705, 192), (327706, 200), (327707, 208), (327708, 232), (327709, 240), (327710, 248), (327711, 224), (344064, 34359738360), (344065, 56), (344066, 128), (344067, 34359738360), (344068, 34359738360), (344069, 88), (344070, 160), (344071, 8), (344072, 34359738360), (344073, 120), (344074, 192), (344075, 40), (344076, 34359738360), (344077, 34359738360), (344078, 224), (344079, 72), (344080, 16), (344081, 184), (344082, 34359738360), (344083, 34359738360), (344084, 48), (344085, 216), (344086, 34359738360), (344087, 136), (344088, 80), (344089, 248), (344090, 34359738360), (344091, 168), (344092, 112), (344093, 34359738360), (344094, 34359738360), (344095, 200), (360448, 34359738360), (360449, 0), (360450, 48), (360451, 34359738360), (360452, 34359738360), (360453, 8), (360454, 56), (360455, 0), (360456, 34359738360), (360457, 16), (360458, 64), (360459, 8), (360460, 34359738360), (360461, 34359738360), (360462, 72), (360463, 16), (360464, 48), (360465, 24), (360466, 34359738360), (360467, 34359738360), (360468, 56), (360469, 32), (360470, 34359738360), (360471, 24), (360472, 64), (360473, 40), (360474, 34359738360), (360475, 32), (360476, 72), (360477, 34359738360), (360478, 34359738360), (360479, 40), (376832, 0), (376833, 8), (376834, 0), (376835, 34359738360), (376836, 16), (376837, 24), (376838, 16), (376839, 8), (376840, 32), (376841, 40), (376842, 32), (376843, 24), (376844, 48), (376845, 56), (376846, 48), (376847, 40), (376848, 0), (376849, 8), (376850, 0), (376851, 34359738360), (376852, 16), (376853, 24), (376854, 16), (376855, 8), (376856, 32), (376857, 40), (376858, 32), (376859, 24), (376860, 48), (376861, 56), (376862, 48), (376863, 40), (393216, 34359738360), (393217, 0), (393218, 8), (393219, 0), (393220, 34359738360), (393221, 0), (393222, 8), (393223, 0), (393224, 34359738360), (393225, 0), (393226, 8), (393227, 0), (393228, 34359738360), (393229, 0), (393230, 8), (393231, 0), (393232, 8), (393233, 16), (393234, 24), (393235, 16), (393236, 8), (393237, 16), (393238, 24), (393239, 16), (393240, 8), (393241, 16), (393242, 24), (393243, 16), (393244, 8), (393245, 16), (393246, 24), (393247, 16), (409600, 8), (409601, 40), (409602, 72), (409603, 136), (409604, 168), (409605, 200), (409606, 16), (409607, 48), (409608, 80), (409609, 112), (425984, 56), (425985, 88), (425986, 120), (425987, 184), (425988, 216), (425989, 248), (425990, 128), (425991, 160), (425992, 192), (425993, 224), (442368, 0), (442369, 0), (442370, 0), (442371, 0), (442372, 0), (442373, 0), (442374, 0), (442375, 0), (442376, 0), (442377, 0), (442378, 0), (442379, 0), (442380, 0), (442381, 0), (442382, 0), (442383, 0), (442384, 0), (442385, 0), (442386, 0), (442387, 0), (442388, 0), (442389, 0), (442390, 0), (442391, 0), (442392, 0), (442393, 0), (442394, 0), (442395, 0), (442396, 0), (442397, 0), (442398, 0), (458752, 8), (458753, 8), (458754, 8), (458755, 8), (458756, 8), (458757, 8), (458758, 8), (458759, 8), (458760, 8), (458761, 8), (458762, 8), (458763, 8), (458764, 8), (458765, 8), (458766, 8), (458767, 8), (458768, 8), (458769, 8), (458770, 8), (458771, 8), (458772, 8), (458773, 8), (458774, 8), (458775, 8), (458776, 8), (458777, 8), (458778, 8), (458779, 8), (458780, 8), (458781, 8), (458782, 8), (475136, 0), (475137, 0), (475138, 0), (475139, 0), (475140, 0), (475141, 0), (475142, 0), (475143, 0), (475144, 0), (475145, 0), (475146, 0), (475147, 0), (475148, 0), (475149, 0), (475150, 0), (475151, 0), (475152, 0), (475153, 0), (475154, 0), (475155, 0), (475156, 0), (475157, 0), (475158, 0), (475159, 0), (475160, 0), (475161, 0), (475162, 0), (475163, 0), (475164, 0), (475165, 0), (475166, 0), (491520, 0), (491521, 0), (491522, 0), (491523, 0), (491524, 0), (491525, 0), (491526, 0), (491527, 0), (491528, 0), (491529, 0), (491530, 0), (491531, 0), (491532, 0), (491533, 0), (491534, 0), (491535, 0), (491536, 0), (491537, 0), (491538, 0), (491539, 0), (491540, 0), (491541, 0), (491542, 0), (491543, 0), (491544, 0), (491545, 0), (491546, 0), (491547, 0), (491548, 0), (491549, 0), (491550, 0)])
noncomputable def zpfcl17_24_a : zyPh := (0, [147, 34359738369, 68719476737, 13], [(0, 4294967295), (2147483650, 2147483650), (2147483652, 2147483652), (0, 4294967295)], [], [])
noncomputable def zpfcl17_24 (i : Nat) : zyPh := zpfcl17_24_a
noncomputable def zXfcl17_24 (i : Nat) : List zyXp := []
noncomputable def zRfcl17_24 (i : Nat) : List zyXp := [zxfcl17_24_ar0]
noncomputable def zFfcl17_24 (i : Nat) : zyR := [(18, 5, 5), (18, 8, 8), (19, 0, 3), (20, 0, 31), (21, 0, 31), (22, 0, 31), (23, 0, 31), (24, 0, 31), (25, 0, 30), (26, 0, 30), (27, 0, 30), (28, 0, 30), (29, 0, 30), (30, 0, 30), (33, 1, 1)]
noncomputable def zSfcl17_24 (i : Nat) : Nat := 0
theorem zyfcl17_24_geo : xgeoB17 (zxfcl17_24_ar0).2.2.2.2.2 2 4 = true := by decide +kernel
noncomputable def fpfcl17_24 : zyR := [(18, 5, 5), (18, 8, 8), (19, 0, 3), (20, 0, 79), (21, 0, 79), (22, 0, 79), (23, 0, 79), (24, 0, 79), (25, 0, 30), (26, 0, 30), (27, 0, 30), (28, 0, 30), (29, 0, 30), (30, 0, 30), (33, 1, 1)]
theorem zyfcl17_24_run : zyrS zymc zxi31 (31, 0, 0, 0, 0) 3 zpfcl17_24 (fun _ _ => []) zFfcl17_24 zSfcl17_24 zXfcl17_24 zRfcl17_24 1 = true := by decide +kernel
theorem zyfcl17_24_ck : zyAll (fun i => xsubR (zFfcl17_24 i) fpfcl17_24 && ((zXfcl17_24 i).all xckX && (zRfcl17_24 i).all (fun x => xckX x && xrtB false x))) 1 = true := by decide +kernel
def xIfcl17_24 (i : Nat) (x0 : Nat → Int) (E0 : zyEm) (v : Nat → Int) (E : zyEm) : Prop := (E = E0)
def xMfcl17_24 (i : Nat) (x0 : Nat → Int) (E0 : zyEm) (v : Nat → Int) (E : zyEm) : Nat := (0)
theorem xCl17_24 {l : Launch} {en : zEn} {me : zMe} (hen : zG zxMeta 31 = some en) (hme : zG zMeth 31 = some me) : xFc l zymc en me 3 [18] 2 fpfcl17_24 false (xΦcl17_ (2, 4)) xΨcl17 := by
  have een : zG zxMeta 31 = some (zxi31, 3, 4, 3, 31, 0, 0, 0, 0) := rfl
  obtain ⟨me1, hme1, hOK⟩ := zall hen
  rw [hme] at hme1
  cases hme1
  rw [een] at hen
  cases hen
  have hr := zyfcl17_24_run
  have hck := fun i hi => zyAll_iff zyfcl17_24_ck i hi
  simp only [Bool.and_eq_true] at hck
  intro B
  refine xcut (mi := zymc) (B := B) hOK rfl rfl (ι := Fin 1) (fun i => zpfcl17_24 i.val) (fun _ _ => []) (fun i => zFfcl17_24 i.val) (fun i => zSfcl17_24 i.val) (fun i => zXfcl17_24 i.val) (fun i => zRfcl17_24 i.val) (fun i y2 ct en2 me2 h => by cases h) 200000 (fun i => zyAll_iff hr i.val i.isLt) (fun i => (hck i.val i.isLt).1) (fun i => (hck i.val i.isLt).2.1) (fun i => (hck i.val i.isLt).2.2) ⟨0, by decide⟩ ⟨rfl, rfl, rfl, rfl⟩ ⟨by decide, by decide⟩ (fun i x0 E0 v E => xIfcl17_24 i.val x0 E0 v E) (fun i x0 E0 v E => xMfcl17_24 i.val x0 E0 v E) ?_ ?_ ?_
  · intro x0 E hx0 hT hΦ
    have hΦ : (xΦcl17_ (2, 4)) x0 E := hΦ
    refine ⟨fun k p hp => ?_, ?_⟩
    · have hk : k < 4 := (List.getElem?_eq_some_iff.mp hp).1
      have hk : k = 0 ∨ k = 1 ∨ k = 2 ∨ k = 3 := by omega
      rcases hk with rfl | rfl | rfl | rfl
      · have hp : some (0, 4294967295) = some p := hp
        cases hp
        show ((0 : Nat) : Int) ≤ 0 + 2147483648 ∧ 0 + 2147483648 ≤ ((4294967295 : Nat) : Int)
        omega
      · have hp : some (2147483650, 2147483650) = some p := hp
        cases hp
        show ((2147483650 : Nat) : Int) ≤ x0 0 + 2147483648 ∧ x0 0 + 2147483648 ≤ ((2147483650 : Nat) : Int)
        have hx := hx0 0
        have hP1 : x0 0 = ((2 : Nat) : Int) := hΦ.1
        have hP2 : x0 1 = ((4 : Nat) : Int) := hΦ.2
        omega
      · have hp : some (2147483652, 2147483652) = some p := hp
        cases hp
        show ((2147483652 : Nat) : Int) ≤ x0 1 + 2147483648 ∧ x0 1 + 2147483648 ≤ ((2147483652 : Nat) : Int)
        have hx := hx0 1
        have hP1 : x0 0 = ((2 : Nat) : Int) := hΦ.1
        have hP2 : x0 1 = ((4 : Nat) : Int) := hΦ.2
        omega
      · have hp : some (0, 4294967295) = some p := hp
        cases hp
        show ((0 : Nat) : Int) ≤ x0 2 + 2147483648 ∧ x0 2 + 2147483648 ≤ ((4294967295 : Nat) : Int)
        have hx := hx0 2
        omega
    · show E = E
      rfl
  · intro x0 s Wg hRu hrx hT0 hΦ i v H hT hrv hInv hKc hFr0 hIH x hx ρ2 v2 N2 H2 locs lsB stA hAt hB hv hr2 hXs hag hfr hFr hT2
    rcases i with ⟨i, hi⟩
    have hi2 : i = 0 := by omega
    rcases hi2 with rfl
    · cases hx
  · intro x0 E0 E E2 hrx hT0 hΦ i v hT hrv hInv hKc hFr0 x hx v2 hr2 hXs hag hfr hFr hT2
    rcases i with ⟨i, hi⟩
    have hi2 : i = 0 := by omega
    rcases hi2 with rfl
    · have hx : x ∈ [zxfcl17_24_ar0] := hx
      have hag : ∀ k, k < 4 → v2 k = v k := hag
      have hfr : xFr [(18, 5, 5), (18, 8, 8), (19, 0, 3), (20, 0, 31), (21, 0, 31), (22, 0, 31), (23, 0, 31), (24, 0, 31), (25, 0, 30), (26, 0, 30), (27, 0, 30), (28, 0, 30), (29, 0, 30), (30, 0, 30), (33, 1, 1)] _ _ := hfr
      have ex := List.mem_singleton.mp hx
      subst ex
      obtain ⟨hF, hBd, hM⟩ := hXs
      have g1 : v2 1 = v 1 := hag 1 (by decide)
      have g2 : v2 2 = v 2 := hag 2 (by decide)
      have b0 : ((2147483650 : Nat) : Int) ≤ (v2 1) + 2147483648 ∧ (v2 1) + 2147483648 ≤ ((2147483650 : Nat) : Int) := xXb hBd 0 rfl
      have b1 : ((2147483652 : Nat) : Int) ≤ (v2 2) + 2147483648 ∧ (v2 2) + 2147483648 ≤ ((2147483652 : Nat) : Int) := xXb hBd 1 rfl
      have m0 : xE E2 19 0 = (v2 1) := xXm hM 0 rfl
      have m1 : xE E2 19 1 = (v2 2) := xXm hM 1 rfl
      have hI : E = E0 := hInv
      show xΨcl17 x0 E0 E2 0
      have hP := hΦ
      have hP1 : x0 0 = ((2 : Nat) : Int) := hP.1
      have hP2 : x0 1 = ((4 : Nat) : Int) := hP.2
      unfold xΨcl17
      rw [hP1, hP2]
      obtain ⟨A, G⟩ := xGeo17_of hM (by decide) (by decide) (by decide) (by decide) (by decide) (by decide) zyfcl17_24_geo (by omega) (by omega) (by decide +kernel) (by decide +kernel)
      subst hI
      exact ⟨A, G, xJk17_of (by decide) (by decide) (by decide) (by decide) (by decide) G (fun i h1 h2 => by
        have h1 : ((32 : Nat) : Int) ≤ i := h1
        exact ⟨xFr_E hfr (xin_no (lo := 32) (by decide) (by omega)), xFr_E hfr (xin_no (lo := 32) (by decide) (by omega))⟩)⟩
noncomputable def zxfcl17_25_ar0 : zyXp := (0, [], [], [], [(34359738369, 2147483650, 2147483650), (68719476737, 2147483653, 2147483653)], [(311296, 34359738369), (311297, 68719476737), (311298, 320), (311299, 104), (294917, 0), (294920, 0), (540673, 0), (327680, 8), (327681, 16), (327682, 24), (327683, 0), (327684, 56), (327685, 32), (327686, 40), (327687, 48), (327688, 72), (327689, 80), (327690, 88), (327691, 64), (327692, 120), (327693, 96), (327694, 104), (327695, 112), (327696, 136), (327697, 144), (327698, 152), (327699, 128), (327700, 184), (327701, 160), (327702, 168), (327703, 176), (327704, 200), (327705, 208), (327706, 216), (327707, 192), (327708, 248), (327709, 224), (327710, 232), (327711, 240), (327712, 264), (327713, 272), (327714, 280), (327715, 256), (327716, 312), (327717, 288), (327718, 296), (327719, 304), (344064, 34359738360), (344065, 56), (344066, 160), (344067, 34359738360), (344068, 34359738360), (344069, 88), (344070, 192), (344071, 8), (344072, 34359738360), (344073, 120), (344074, 224), (344075, 40), (344076, 34359738360), (344077, 152), (344078, 256), (344079, 72), (344080, 34359738360), (344081, 34359738360), (344082, 288), (344083, 104), (344084, 16), (344085, 216), (344086, 34359738360), (344087, 34359738360), (344088, 48), (344089, 248), (344090, 34359738360), (344091, 168), (344092, 80), (344093, 280), (344094, 34359738360), (344095, 200), (344096, 112), (344097, 312), (344098, 34359738360), (344099, 232), (344100, 144), (344101, 34359738360), (344102, 34359738360), (344103, 264), (360448, 34359738360), (360449, 0), (360450, 64), (360451, 34359738360), (360452, 34359738360), (360453, 8), (360454, 72), (360455, 0), (360456, 34359738360), (360457, 16), (360458, 80), (360459, 8), (360460, 34359738360), (360461, 24), (360462, 88), (360463, 16), (360464, 34359738360), (360465, 34359738360), (360466, 96), (360467, 24), (360468, 64), (360469, 32), (360470, 34359738360), (360471, 34359738360), (360472, 72), (360473, 40), (360474, 34359738360), (360475, 32), (360476, 80), (360477, 48), (360478, 34359738360), (360479, 40), (360480, 88), (360481, 56), (360482, 34359738360), (360483, 48), (360484, 96), (360485, 34359738360), (360486, 34359738360), (360487, 56), (376832, 0), (376833, 8), (376834, 0), (376835, 34359738360), (376836, 16), (376837, 24), (376838, 16), (376839, 8), (376840, 32), (376841, 40), (376842, 32), (376843, 24), (376844, 48), (376845, 56), (376846, 48), (376847, 40), (376848, 64), (376849, 72), (376850, 64), (376851, 56), (376852, 0), (376853, 8), (376854, 0), (376855, 34359738360), (376856, 16), (376857, 24), (376858, 16), (376859, 8), (376860, 32), (376861, 40), (376862, 32), (376863, 24), (376864, 48), (376865, 56), (376866, 48), (376867, 40), (376868, 64), (376869, 72), (376870, 64), (376871, 56), (393216, 34359738360), (393217, 0), (393218, 8), (393219, 0), (393220, 34359738360), (393221, 0), (393222, 8), (393223, 0), (393224, 34359738360), (393225, 0), (393226, 8), (393227, 0), (393228, 34359738360), (393229, 0), (393230, 8), (393231, 0), (393232, 34359738360), (393233, 0), (393234, 8), (393235, 0), (393236, 8), (393237, 16), (393238, 24), (393239, 16), (393240, 8), (393241, 16), (393242, 24), (393243, 16), (393244, 8), (393245, 16), (393246, 24), (393247, 16), (393248, 8), (393249, 16), (393250, 24), (393251, 16), (393252, 8), (393253, 16), (393254, 24), (393255, 16), (409600, 8), (409601, 40), (409602, 72), (409603, 104), (409604, 168), (409605, 200), (409606, 232), (409607, 264), (409608, 16), (409609, 48), (409610, 80), (409611, 112), (409612, 144), (425984, 56), (425985, 88), (425986, 120), (425987, 152), (425988, 216), (425989, 248), (425990, 280), (425991, 312), (425992, 160), (425993, 192), (425994, 224), (425995, 256), (425996, 288), (442368, 0), (442369, 0), (442370, 0), (442371, 0), (442372, 0), (442373, 0), (442374, 0), (442375, 0), (442376, 0), (442377, 0), (442378, 0), (442379, 0), (442380, 0), (442381, 0), (442382, 0), (442383, 0), (442384, 0), (442385, 0), (442386, 0), (442387, 0), (442388, 0), (442389, 0), (442390, 0), (442391, 0), (442392, 0), (442393, 0), (442394, 0), (442395, 0), (442396, 0), (442397, 0), (442398, 0), (458752, 8), (458753, 8), (458754, 8), (458755, 8), (458756, 8), (458757, 8), (458758, 8), (458759, 8), (458760, 8), (458761, 8), (458762, 8), (458763, 8), (458764, 8), (458765, 8), (458766, 8), (458767, 8), (458768, 8), (458769, 8), (458770, 8), (458771, 8), (458772, 8), (458773, 8), (458774, 8), (458775, 8), (458776, 8), (458777, 8), (458778, 8), (458779, 8), (458780, 8), (458781, 8), (458782, 8), (475136, 0), (475137, 0), (475138, 0), (475139, 0), (475140, 0), (475141, 0), (475142, 0), (475143, 0), (475144, 0), (475145, 0), (475146, 0), (475147, 0), (475148, 0), (475149, 0), (475150, 0), (475151, 0), (475152, 0), (475153, 0), (475154, 0), (475155, 0), (475156, 0), (475157, 0), (475158, 0), (475159, 0), (475160, 0), (475161, 0), (475162, 0), (475163, 0), (475164, 0), (475165, 0), (475166, 0), (491520, 0), (491521, 0), (491522, 0), (491523, 0), (491524, 0), (491525, 0), (491526, 0), (491527, 0), (491528, 0), (491529, 0), (491530, 0), (491531, 0), (491532, 0), (491533, 0), (491534, 0), (491535, 0), (491536, 0), (491537, 0), (491538, 0), (491539, 0), (491540, 0), (491541, 0), (491542, 0), (491543, 0), (491544, 0), (491545, 0), (491546, 0), (491547, 0), (491548, 0), (491549, 0), (491550, 0)])
noncomputable def zpfcl17_25_a : zyPh := (0, [147, 34359738369, 68719476737, 13], [(0, 4294967295), (2147483650, 2147483650), (2147483653, 2147483653), (0, 4294967295)], [], [])
noncomputable def zpfcl17_25 (i : Nat) : zyPh := zpfcl17_25_a
noncomputable def zXfcl17_25 (i : Nat) : List zyXp := []
noncomputable def zRfcl17_25 (i : Nat) : List zyXp := [zxfcl17_25_ar0]
noncomputable def zFfcl17_25 (i : Nat) : zyR := [(18, 5, 5), (18, 8, 8), (19, 0, 3), (20, 0, 39), (21, 0, 39), (22, 0, 39), (23, 0, 39), (24, 0, 39), (25, 0, 30), (26, 0, 30), (27, 0, 30), (28, 0, 30), (29, 0, 30), (30, 0, 30), (33, 1, 1)]
noncomputable def zSfcl17_25 (i : Nat) : Nat := 0
theorem zyfcl17_25_geo : xgeoB17 (zxfcl17_25_ar0).2.2.2.2.2 2 5 = true := by decide +kernel
noncomputable def fpfcl17_25 : zyR := [(18, 5, 5), (18, 8, 8), (19, 0, 3), (20, 0, 79), (21, 0, 79), (22, 0, 79), (23, 0, 79), (24, 0, 79), (25, 0, 30), (26, 0, 30), (27, 0, 30), (28, 0, 30), (29, 0, 30), (30, 0, 30), (33, 1, 1)]
theorem zyfcl17_25_run : zyrS zymc zxi31 (31, 0, 0, 0, 0) 3 zpfcl17_25 (fun _ _ => []) zFfcl17_25 zSfcl17_25 zXfcl17_25 zRfcl17_25 1 = true := by decide +kernel
theorem zyfcl17_25_ck : zyAll (fun i => xsubR (zFfcl17_25 i) fpfcl17_25 && ((zXfcl17_25 i).all xckX && (zRfcl17_25 i).all (fun x => xckX x && xrtB false x))) 1 = true := by decide +kernel
def xIfcl17_25 (i : Nat) (x0 : Nat → Int) (E0 : zyEm) (v : Nat → Int) (E : zyEm) : Prop := (E = E0)
def xMfcl17_25 (i : Nat) (x0 : Nat → Int) (E0 : zyEm) (v : Nat → Int) (E : zyEm) : Nat := (0)
theorem xCl17_25 {l : Launch} {en : zEn} {me : zMe} (hen : zG zxMeta 31 = some en) (hme : zG zMeth 31 = some me) : xFc l zymc en me 3 [18] 2 fpfcl17_25 false (xΦcl17_ (2, 5)) xΨcl17 := by
  have een : zG zxMeta 31 = some (zxi31, 3, 4, 3, 31, 0, 0, 0, 0) := rfl
  obtain ⟨me1, hme1, hOK⟩ := zall hen
  rw [hme] at hme1
  cases hme1
  rw [een] at hen
  cases hen
  have hr := zyfcl17_25_run
  have hck := fun i hi => zyAll_iff zyfcl17_25_ck i hi
  simp only [Bool.and_eq_true] at hck
  intro B
  refine xcut (mi := zymc) (B := B) hOK rfl rfl (ι := Fin 1) (fun i => zpfcl17_25 i.val) (fun _ _ => []) (fun i => zFfcl17_25 i.val) (fun i => zSfcl17_25 i.val) (fun i => zXfcl17_25 i.val) (fun i => zRfcl17_25 i.val) (fun i y2 ct en2 me2 h => by cases h) 200000 (fun i => zyAll_iff hr i.val i.isLt) (fun i => (hck i.val i.isLt).1) (fun i => (hck i.val i.isLt).2.1) (fun i => (hck i.val i.isLt).2.2) ⟨0, by decide⟩ ⟨rfl, rfl, rfl, rfl⟩ ⟨by decide, by decide⟩ (fun i x0 E0 v E => xIfcl17_25 i.val x0 E0 v E) (fun i x0 E0 v E => xMfcl17_25 i.val x0 E0 v E) ?_ ?_ ?_
  · intro x0 E hx0 hT hΦ
    have hΦ : (xΦcl17_ (2, 5)) x0 E := hΦ
    refine ⟨fun k p hp => ?_, ?_⟩
    · have hk : k < 4 := (List.getElem?_eq_some_iff.mp hp).1
      have hk : k = 0 ∨ k = 1 ∨ k = 2 ∨ k = 3 := by omega
      rcases hk with rfl | rfl | rfl | rfl
      · have hp : some (0, 4294967295) = some p := hp
        cases hp
        show ((0 : Nat) : Int) ≤ 0 + 2147483648 ∧ 0 + 2147483648 ≤ ((4294967295 : Nat) : Int)
        omega
      · have hp : some (2147483650, 2147483650) = some p := hp
        cases hp
        show ((2147483650 : Nat) : Int) ≤ x0 0 + 2147483648 ∧ x0 0 + 2147483648 ≤ ((2147483650 : Nat) : Int)
        have hx := hx0 0
        have hP1 : x0 0 = ((2 : Nat) : Int) := hΦ.1
        have hP2 : x0 1 = ((5 : Nat) : Int) := hΦ.2
        omega
      · have hp : some (2147483653, 2147483653) = some p := hp
        cases hp
        show ((2147483653 : Nat) : Int) ≤ x0 1 + 2147483648 ∧ x0 1 + 2147483648 ≤ ((2147483653 : Nat) : Int)
        have hx := hx0 1
        have hP1 : x0 0 = ((2 : Nat) : Int) := hΦ.1
        have hP2 : x0 1 = ((5 : Nat) : Int) := hΦ.2
        omega
      · have hp : some (0, 4294967295) = some p := hp
        cases hp
        show ((0 : Nat) : Int) ≤ x0 2 + 2147483648 ∧ x0 2 + 2147483648 ≤ ((4294967295 : Nat) : Int)
        have hx := hx0 2
        omega
    · show E = E
      rfl
  · intro x0 s Wg hRu hrx hT0 hΦ i v H hT hrv hInv hKc hFr0 hIH x hx ρ2 v2 N2 H2 locs lsB stA hAt hB hv hr2 hXs hag hfr hFr hT2
    rcases i with ⟨i, hi⟩
    have hi2 : i = 0 := by omega
    rcases hi2 with rfl
    · cases hx
  · intro x0 E0 E E2 hrx hT0 hΦ i v hT hrv hInv hKc hFr0 x hx v2 hr2 hXs hag hfr hFr hT2
    rcases i with ⟨i, hi⟩
    have hi2 : i = 0 := by omega
    rcases hi2 with rfl
    · have hx : x ∈ [zxfcl17_25_ar0] := hx
      have hag : ∀ k, k < 4 → v2 k = v k := hag
      have hfr : xFr [(18, 5, 5), (18, 8, 8), (19, 0, 3), (20, 0, 39), (21, 0, 39), (22, 0, 39), (23, 0, 39), (24, 0, 39), (25, 0, 30), (26, 0, 30), (27, 0, 30), (28, 0, 30), (29, 0, 30), (30, 0, 30), (33, 1, 1)] _ _ := hfr
      have ex := List.mem_singleton.mp hx
      subst ex
      obtain ⟨hF, hBd, hM⟩ := hXs
      have g1 : v2 1 = v 1 := hag 1 (by decide)
      have g2 : v2 2 = v 2 := hag 2 (by decide)
      have b0 : ((2147483650 : Nat) : Int) ≤ (v2 1) + 2147483648 ∧ (v2 1) + 2147483648 ≤ ((2147483650 : Nat) : Int) := xXb hBd 0 rfl
      have b1 : ((2147483653 : Nat) : Int) ≤ (v2 2) + 2147483648 ∧ (v2 2) + 2147483648 ≤ ((2147483653 : Nat) : Int) := xXb hBd 1 rfl
      have m0 : xE E2 19 0 = (v2 1) := xXm hM 0 rfl
      have m1 : xE E2 19 1 = (v2 2) := xXm hM 1 rfl
      have hI : E = E0 := hInv
      show xΨcl17 x0 E0 E2 0
      have hP := hΦ
      have hP1 : x0 0 = ((2 : Nat) : Int) := hP.1
      have hP2 : x0 1 = ((5 : Nat) : Int) := hP.2
      unfold xΨcl17
      rw [hP1, hP2]
      obtain ⟨A, G⟩ := xGeo17_of hM (by decide) (by decide) (by decide) (by decide) (by decide) (by decide) zyfcl17_25_geo (by omega) (by omega) (by decide +kernel) (by decide +kernel)
      subst hI
      exact ⟨A, G, xJk17_of (by decide) (by decide) (by decide) (by decide) (by decide) G (fun i h1 h2 => by
        have h1 : ((40 : Nat) : Int) ≤ i := h1
        exact ⟨xFr_E hfr (xin_no (lo := 40) (by decide) (by omega)), xFr_E hfr (xin_no (lo := 40) (by decide) (by omega))⟩)⟩
noncomputable def zxfcl17_31_ar0 : zyXp := (0, [], [], [], [(34359738369, 2147483651, 2147483651), (68719476737, 2147483649, 2147483649)], [(311296, 34359738369), (311297, 68719476737), (311298, 96), (311299, 16), (294917, 0), (294920, 0), (540673, 0), (327680, 8), (327681, 16), (327682, 24), (327683, 0), (327684, 56), (327685, 32), (327686, 40), (327687, 48), (327688, 72), (327689, 80), (327690, 88), (327691, 64), (344064, 34359738360), (344065, 34359738360), (344066, 32), (344067, 34359738360), (344068, 16), (344069, 34359738360), (344070, 64), (344071, 34359738360), (344072, 48), (344073, 34359738360), (344074, 34359738360), (344075, 34359738360), (360448, 34359738360), (360449, 34359738360), (360450, 0), (360451, 34359738360), (360452, 0), (360453, 34359738360), (360454, 8), (360455, 34359738360), (360456, 8), (360457, 34359738360), (360458, 34359738360), (360459, 34359738360), (376832, 0), (376833, 8), (376834, 0), (376835, 34359738360), (376836, 0), (376837, 8), (376838, 0), (376839, 34359738360), (376840, 0), (376841, 8), (376842, 0), (376843, 34359738360), (393216, 34359738360), (393217, 0), (393218, 8), (393219, 0), (393220, 8), (393221, 16), (393222, 24), (393223, 16), (393224, 24), (393225, 32), (393226, 40), (393227, 32), (409600, 16), (409601, 48), (425984, 32), (425985, 64), (442368, 0), (442369, 0), (442370, 0), (442371, 0), (442372, 0), (442373, 0), (442374, 0), (442375, 0), (442376, 0), (442377, 0), (442378, 0), (442379, 0), (442380, 0), (442381, 0), (442382, 0), (442383, 0), (442384, 0), (442385, 0), (442386, 0), (442387, 0), (442388, 0), (442389, 0), (442390, 0), (442391, 0), (442392, 0), (442393, 0), (442394, 0), (442395, 0), (442396, 0), (442397, 0), (442398, 0), (458752, 8), (458753, 8), (458754, 8), (458755, 8), (458756, 8), (458757, 8), (458758, 8), (458759, 8), (458760, 8), (458761, 8), (458762, 8), (458763, 8), (458764, 8), (458765, 8), (458766, 8), (458767, 8), (458768, 8), (458769, 8), (458770, 8), (458771, 8), (458772, 8), (458773, 8), (458774, 8), (458775, 8), (458776, 8), (458777, 8), (458778, 8), (458779, 8), (458780, 8), (458781, 8), (458782, 8), (475136, 0), (475137, 0), (475138, 0), (475139, 0), (475140, 0), (475141, 0), (475142, 0), (475143, 0), (475144, 0), (475145, 0), (475146, 0), (475147, 0), (475148, 0), (475149, 0), (475150, 0), (475151, 0), (475152, 0), (475153, 0), (475154, 0), (475155, 0), (475156, 0), (475157, 0), (475158, 0), (475159, 0), (475160, 0), (475161, 0), (475162, 0), (475163, 0), (475164, 0), (475165, 0), (475166, 0), (491520, 0), (491521, 0), (491522, 0), (491523, 0), (491524, 0), (491525, 0), (491526, 0), (491527, 0), (491528, 0), (491529, 0), (491530, 0), (491531, 0), (491532, 0), (491533, 0), (491534, 0), (491535, 0), (491536, 0), (491537, 0), (491538, 0), (491539, 0), (491540, 0), (491541, 0), (491542, 0), (491543, 0), (491544, 0), (491545, 0), (491546, 0), (491547, 0), (491548, 0), (491549, 0), (491550, 0)])
noncomputable def zpfcl17_31_a : zyPh := (0, [147, 34359738369, 68719476737, 13], [(0, 4294967295), (2147483651, 2147483651), (2147483649, 2147483649), (0, 4294967295)], [], [])
noncomputable def zpfcl17_31 (i : Nat) : zyPh := zpfcl17_31_a
noncomputable def zXfcl17_31 (i : Nat) : List zyXp := []
noncomputable def zRfcl17_31 (i : Nat) : List zyXp := [zxfcl17_31_ar0]
noncomputable def zFfcl17_31 (i : Nat) : zyR := [(18, 5, 5), (18, 8, 8), (19, 0, 3), (20, 0, 11), (21, 0, 11), (22, 0, 11), (23, 0, 11), (24, 0, 11), (25, 0, 30), (26, 0, 30), (27, 0, 30), (28, 0, 30), (29, 0, 30), (30, 0, 30), (33, 1, 1)]
noncomputable def zSfcl17_31 (i : Nat) : Nat := 0
theorem zyfcl17_31_geo : xgeoB17 (zxfcl17_31_ar0).2.2.2.2.2 3 1 = true := by decide +kernel
noncomputable def fpfcl17_31 : zyR := [(18, 5, 5), (18, 8, 8), (19, 0, 3), (20, 0, 79), (21, 0, 79), (22, 0, 79), (23, 0, 79), (24, 0, 79), (25, 0, 30), (26, 0, 30), (27, 0, 30), (28, 0, 30), (29, 0, 30), (30, 0, 30), (33, 1, 1)]
theorem zyfcl17_31_run : zyrS zymc zxi31 (31, 0, 0, 0, 0) 3 zpfcl17_31 (fun _ _ => []) zFfcl17_31 zSfcl17_31 zXfcl17_31 zRfcl17_31 1 = true := by decide +kernel
theorem zyfcl17_31_ck : zyAll (fun i => xsubR (zFfcl17_31 i) fpfcl17_31 && ((zXfcl17_31 i).all xckX && (zRfcl17_31 i).all (fun x => xckX x && xrtB false x))) 1 = true := by decide +kernel
def xIfcl17_31 (i : Nat) (x0 : Nat → Int) (E0 : zyEm) (v : Nat → Int) (E : zyEm) : Prop := (E = E0)
def xMfcl17_31 (i : Nat) (x0 : Nat → Int) (E0 : zyEm) (v : Nat → Int) (E : zyEm) : Nat := (0)
theorem xCl17_31 {l : Launch} {en : zEn} {me : zMe} (hen : zG zxMeta 31 = some en) (hme : zG zMeth 31 = some me) : xFc l zymc en me 3 [18] 2 fpfcl17_31 false (xΦcl17_ (3, 1)) xΨcl17 := by
  have een : zG zxMeta 31 = some (zxi31, 3, 4, 3, 31, 0, 0, 0, 0) := rfl
  obtain ⟨me1, hme1, hOK⟩ := zall hen
  rw [hme] at hme1
  cases hme1
  rw [een] at hen
  cases hen
  have hr := zyfcl17_31_run
  have hck := fun i hi => zyAll_iff zyfcl17_31_ck i hi
  simp only [Bool.and_eq_true] at hck
  intro B
  refine xcut (mi := zymc) (B := B) hOK rfl rfl (ι := Fin 1) (fun i => zpfcl17_31 i.val) (fun _ _ => []) (fun i => zFfcl17_31 i.val) (fun i => zSfcl17_31 i.val) (fun i => zXfcl17_31 i.val) (fun i => zRfcl17_31 i.val) (fun i y2 ct en2 me2 h => by cases h) 200000 (fun i => zyAll_iff hr i.val i.isLt) (fun i => (hck i.val i.isLt).1) (fun i => (hck i.val i.isLt).2.1) (fun i => (hck i.val i.isLt).2.2) ⟨0, by decide⟩ ⟨rfl, rfl, rfl, rfl⟩ ⟨by decide, by decide⟩ (fun i x0 E0 v E => xIfcl17_31 i.val x0 E0 v E) (fun i x0 E0 v E => xMfcl17_31 i.val x0 E0 v E) ?_ ?_ ?_
  · intro x0 E hx0 hT hΦ
    have hΦ : (xΦcl17_ (3, 1)) x0 E := hΦ
    refine ⟨fun k p hp => ?_, ?_⟩
    · have hk : k < 4 := (List.getElem?_eq_some_iff.mp hp).1
      have hk : k = 0 ∨ k = 1 ∨ k = 2 ∨ k = 3 := by omega
      rcases hk with rfl | rfl | rfl | rfl
      · have hp : some (0, 4294967295) = some p := hp
        cases hp
        show ((0 : Nat) : Int) ≤ 0 + 2147483648 ∧ 0 + 2147483648 ≤ ((4294967295 : Nat) : Int)
        omega
      · have hp : some (2147483651, 2147483651) = some p := hp
        cases hp
        show ((2147483651 : Nat) : Int) ≤ x0 0 + 2147483648 ∧ x0 0 + 2147483648 ≤ ((2147483651 : Nat) : Int)
        have hx := hx0 0
        have hP1 : x0 0 = ((3 : Nat) : Int) := hΦ.1
        have hP2 : x0 1 = ((1 : Nat) : Int) := hΦ.2
        omega
      · have hp : some (2147483649, 2147483649) = some p := hp
        cases hp
        show ((2147483649 : Nat) : Int) ≤ x0 1 + 2147483648 ∧ x0 1 + 2147483648 ≤ ((2147483649 : Nat) : Int)
        have hx := hx0 1
        have hP1 : x0 0 = ((3 : Nat) : Int) := hΦ.1
        have hP2 : x0 1 = ((1 : Nat) : Int) := hΦ.2
        omega
      · have hp : some (0, 4294967295) = some p := hp
        cases hp
        show ((0 : Nat) : Int) ≤ x0 2 + 2147483648 ∧ x0 2 + 2147483648 ≤ ((4294967295 : Nat) : Int)
        have hx := hx0 2
        omega
    · show E = E
      rfl
  · intro x0 s Wg hRu hrx hT0 hΦ i v H hT hrv hInv hKc hFr0 hIH x hx ρ2 v2 N2 H2 locs lsB stA hAt hB hv hr2 hXs hag hfr hFr hT2
    rcases i with ⟨i, hi⟩
    have hi2 : i = 0 := by omega
    rcases hi2 with rfl
    · cases hx
  · intro x0 E0 E E2 hrx hT0 hΦ i v hT hrv hInv hKc hFr0 x hx v2 hr2 hXs hag hfr hFr hT2
    rcases i with ⟨i, hi⟩
    have hi2 : i = 0 := by omega
    rcases hi2 with rfl
    · have hx : x ∈ [zxfcl17_31_ar0] := hx
      have hag : ∀ k, k < 4 → v2 k = v k := hag
      have hfr : xFr [(18, 5, 5), (18, 8, 8), (19, 0, 3), (20, 0, 11), (21, 0, 11), (22, 0, 11), (23, 0, 11), (24, 0, 11), (25, 0, 30), (26, 0, 30), (27, 0, 30), (28, 0, 30), (29, 0, 30), (30, 0, 30), (33, 1, 1)] _ _ := hfr
      have ex := List.mem_singleton.mp hx
      subst ex
      obtain ⟨hF, hBd, hM⟩ := hXs
      have g1 : v2 1 = v 1 := hag 1 (by decide)
      have g2 : v2 2 = v 2 := hag 2 (by decide)
      have b0 : ((2147483651 : Nat) : Int) ≤ (v2 1) + 2147483648 ∧ (v2 1) + 2147483648 ≤ ((2147483651 : Nat) : Int) := xXb hBd 0 rfl
      have b1 : ((2147483649 : Nat) : Int) ≤ (v2 2) + 2147483648 ∧ (v2 2) + 2147483648 ≤ ((2147483649 : Nat) : Int) := xXb hBd 1 rfl
      have m0 : xE E2 19 0 = (v2 1) := xXm hM 0 rfl
      have m1 : xE E2 19 1 = (v2 2) := xXm hM 1 rfl
      have hI : E = E0 := hInv
      show xΨcl17 x0 E0 E2 0
      have hP := hΦ
      have hP1 : x0 0 = ((3 : Nat) : Int) := hP.1
      have hP2 : x0 1 = ((1 : Nat) : Int) := hP.2
      unfold xΨcl17
      rw [hP1, hP2]
      obtain ⟨A, G⟩ := xGeo17_of hM (by decide) (by decide) (by decide) (by decide) (by decide) (by decide) zyfcl17_31_geo (by omega) (by omega) (by decide +kernel) (by decide +kernel)
      subst hI
      exact ⟨A, G, xJk17_of (by decide) (by decide) (by decide) (by decide) (by decide) G (fun i h1 h2 => by
        have h1 : ((12 : Nat) : Int) ≤ i := h1
        exact ⟨xFr_E hfr (xin_no (lo := 12) (by decide) (by omega)), xFr_E hfr (xin_no (lo := 12) (by decide) (by omega))⟩)⟩
noncomputable def zxfcl17_32_ar0 : zyXp := (0, [], [], [], [(34359738369, 2147483651, 2147483651), (68719476737, 2147483650, 2147483650)], [(311296, 34359738369), (311297, 68719476737), (311298, 192), (311299, 56), (294917, 0), (294920, 0), (540673, 0), (327680, 8), (327681, 16), (327682, 24), (327683, 0), (327684, 56), (327685, 32), (327686, 40), (327687, 48), (327688, 88), (327689, 64), (327690, 72), (327691, 80), (327692, 104), (327693, 112), (327694, 120), (327695, 96), (327696, 136), (327697, 144), (327698, 152), (327699, 128), (327700, 184), (327701, 160), (327702, 168), (327703, 176), (344064, 34359738360), (344065, 56), (344066, 64), (344067, 34359738360), (344068, 34359738360), (344069, 34359738360), (344070, 96), (344071, 8), (344072, 16), (344073, 120), (344074, 128), (344075, 34359738360), (344076, 48), (344077, 34359738360), (344078, 160), (344079, 72), (344080, 80), (344081, 184), (344082, 34359738360), (344083, 34359738360), (344084, 112), (344085, 34359738360), (344086, 34359738360), (344087, 136), (360448, 34359738360), (360449, 0), (360450, 24), (360451, 34359738360), (360452, 34359738360), (360453, 34359738360), (360454, 32), (360455, 0), (360456, 24), (360457, 8), (360458, 40), (360459, 34359738360), (360460, 32), (360461, 34359738360), (360462, 48), (360463, 8), (360464, 40), (360465, 16), (360466, 34359738360), (360467, 34359738360), (360468, 48), (360469, 34359738360), (360470, 34359738360), (360471, 16), (376832, 0), (376833, 8), (376834, 0), (376835, 34359738360), (376836, 16), (376837, 24), (376838, 16), (376839, 8), (376840, 0), (376841, 8), (376842, 0), (376843, 34359738360), (376844, 16), (376845, 24), (376846, 16), (376847, 8), (376848, 0), (376849, 8), (376850, 0), (376851, 34359738360), (376852, 16), (376853, 24), (376854, 16), (376855, 8), (393216, 34359738360), (393217, 0), (393218, 8), (393219, 0), (393220, 34359738360), (393221, 0), (393222, 8), (393223, 0), (393224, 8), (393225, 16), (393226, 24), (393227, 16), (393228, 8), (393229, 16), (393230, 24), (393231, 16), (393232, 24), (393233, 32), (393234, 40), (393235, 32), (393236, 24), (393237, 32), (393238, 40), (393239, 32), (409600, 8), (409601, 72), (409602, 136), (409603, 16), (409604, 48), (409605, 80), (409606, 112), (425984, 56), (425985, 120), (425986, 184), (425987, 64), (425988, 96), (425989, 128), (425990, 160), (442368, 0), (442369, 0), (442370, 0), (442371, 0), (442372, 0), (442373, 0), (442374, 0), (442375, 0), (442376, 0), (442377, 0), (442378, 0), (442379, 0), (442380, 0), (442381, 0), (442382, 0), (442383, 0), (442384, 0), (442385, 0), (442386, 0), (442387, 0), (442388, 0), (442389, 0), (442390, 0), (442391, 0), (442392, 0), (442393, 0), (442394, 0), (442395, 0), (442396, 0), (442397, 0), (442398, 0), (458752, 8), (458753, 8), (458754, 8), (458755, 8), (458756, 8), (458757, 8), (458758, 8), (458759, 8), (458760, 8), (458761, 8), (458762, 8), (458763, 8), (458764, 8), (458765, 8), (458766, 8), (458767, 8), (458768, 8), (458769, 8), (458770, 8), (458771, 8), (458772, 8), (458773, 8), (458774, 8), (458775, 8), (458776, 8), (458777, 8), (458778, 8), (458779, 8), (458780, 8), (458781, 8), (458782, 8), (475136, 0), (475137, 0), (475138, 0), (475139, 0), (475140, 0), (475141, 0), (475142, 0), (475143, 0), (475144, 0), (475145, 0), (475146, 0), (475147, 0), (475148, 0), (475149, 0), (475150, 0), (475151, 0), (475152, 0), (475153, 0), (475154, 0), (475155, 0), (475156, 0), (475157, 0), (475158, 0), (475159, 0), (475160, 0), (475161, 0), (475162, 0), (475163, 0), (475164, 0), (475165, 0), (475166, 0), (491520, 0), (491521, 0), (491522, 0), (491523, 0), (491524, 0), (491525, 0), (491526, 0), (491527, 0), (491528, 0), (491529, 0), (491530, 0), (491531, 0), (491532, 0), (491533, 0), (491534, 0), (491535, 0), (491536, 0), (491537, 0), (491538, 0), (491539, 0), (491540, 0), (491541, 0), (491542, 0), (491543, 0), (491544, 0), (491545, 0), (491546, 0), (491547, 0), (491548, 0), (491549, 0), (491550, 0)])
noncomputable def zpfcl17_32_a : zyPh := (0, [147, 34359738369, 68719476737, 13], [(0, 4294967295), (2147483651, 2147483651), (2147483650, 2147483650), (0, 4294967295)], [], [])
noncomputable def zpfcl17_32 (i : Nat) : zyPh := zpfcl17_32_a
noncomputable def zXfcl17_32 (i : Nat) : List zyXp := []
noncomputable def zRfcl17_32 (i : Nat) : List zyXp := [zxfcl17_32_ar0]
noncomputable def zFfcl17_32 (i : Nat) : zyR := [(18, 5, 5), (18, 8, 8), (19, 0, 3), (20, 0, 23), (21, 0, 23), (22, 0, 23), (23, 0, 23), (24, 0, 23), (25, 0, 30), (26, 0, 30), (27, 0, 30), (28, 0, 30), (29, 0, 30), (30, 0, 30), (33, 1, 1)]
noncomputable def zSfcl17_32 (i : Nat) : Nat := 0
theorem zyfcl17_32_geo : xgeoB17 (zxfcl17_32_ar0).2.2.2.2.2 3 2 = true := by decide +kernel
noncomputable def fpfcl17_32 : zyR := [(18, 5, 5), (18, 8, 8), (19, 0, 3), (20, 0, 79), (21, 0, 79), (22, 0, 79), (23, 0, 79), (24, 0, 79), (25, 0, 30), (26, 0, 30), (27, 0, 30), (28, 0, 30), (29, 0, 30), (30, 0, 30), (33, 1, 1)]
theorem zyfcl17_32_run : zyrS zymc zxi31 (31, 0, 0, 0, 0) 3 zpfcl17_32 (fun _ _ => []) zFfcl17_32 zSfcl17_32 zXfcl17_32 zRfcl17_32 1 = true := by decide +kernel
theorem zyfcl17_32_ck : zyAll (fun i => xsubR (zFfcl17_32 i) fpfcl17_32 && ((zXfcl17_32 i).all xckX && (zRfcl17_32 i).all (fun x => xckX x && xrtB false x))) 1 = true := by decide +kernel
def xIfcl17_32 (i : Nat) (x0 : Nat → Int) (E0 : zyEm) (v : Nat → Int) (E : zyEm) : Prop := (E = E0)
def xMfcl17_32 (i : Nat) (x0 : Nat → Int) (E0 : zyEm) (v : Nat → Int) (E : zyEm) : Nat := (0)
theorem xCl17_32 {l : Launch} {en : zEn} {me : zMe} (hen : zG zxMeta 31 = some en) (hme : zG zMeth 31 = some me) : xFc l zymc en me 3 [18] 2 fpfcl17_32 false (xΦcl17_ (3, 2)) xΨcl17 := by
  have een : zG zxMeta 31 = some (zxi31, 3, 4, 3, 31, 0, 0, 0, 0) := rfl
  obtain ⟨me1, hme1, hOK⟩ := zall hen
  rw [hme] at hme1
  cases hme1
  rw [een] at hen
  cases hen
  have hr := zyfcl17_32_run
  have hck := fun i hi => zyAll_iff zyfcl17_32_ck i hi
  simp only [Bool.and_eq_true] at hck
  intro B
  refine xcut (mi := zymc) (B := B) hOK rfl rfl (ι := Fin 1) (fun i => zpfcl17_32 i.val) (fun _ _ => []) (fun i => zFfcl17_32 i.val) (fun i => zSfcl17_32 i.val) (fun i => zXfcl17_32 i.val) (fun i => zRfcl17_32 i.val) (fun i y2 ct en2 me2 h => by cases h) 200000 (fun i => zyAll_iff hr i.val i.isLt) (fun i => (hck i.val i.isLt).1) (fun i => (hck i.val i.isLt).2.1) (fun i => (hck i.val i.isLt).2.2) ⟨0, by decide⟩ ⟨rfl, rfl, rfl, rfl⟩ ⟨by decide, by decide⟩ (fun i x0 E0 v E => xIfcl17_32 i.val x0 E0 v E) (fun i x0 E0 v E => xMfcl17_32 i.val x0 E0 v E) ?_ ?_ ?_
  · intro x0 E hx0 hT hΦ
    have hΦ : (xΦcl17_ (3, 2)) x0 E := hΦ
    refine ⟨fun k p hp => ?_, ?_⟩
    · have hk : k < 4 := (List.getElem?_eq_some_iff.mp hp).1
      have hk : k = 0 ∨ k = 1 ∨ k = 2 ∨ k = 3 := by omega
      rcases hk with rfl | rfl | rfl | rfl
      · have hp : some (0, 4294967295) = some p := hp
        cases hp
        show ((0 : Nat) : Int) ≤ 0 + 2147483648 ∧ 0 + 2147483648 ≤ ((4294967295 : Nat) : Int)
        omega
      · have hp : some (2147483651, 2147483651) = some p := hp
        cases hp
        show ((2147483651 : Nat) : Int) ≤ x0 0 + 2147483648 ∧ x0 0 + 2147483648 ≤ ((2147483651 : Nat) : Int)
        have hx := hx0 0
        have hP1 : x0 0 = ((3 : Nat) : Int) := hΦ.1
        have hP2 : x0 1 = ((2 : Nat) : Int) := hΦ.2
        omega
      · have hp : some (2147483650, 2147483650) = some p := hp
        cases hp
        show ((2147483650 : Nat) : Int) ≤ x0 1 + 2147483648 ∧ x0 1 + 2147483648 ≤ ((2147483650 : Nat) : Int)
        have hx := hx0 1
        have hP1 : x0 0 = ((3 : Nat) : Int) := hΦ.1
        have hP2 : x0 1 = ((2 : Nat) : Int) := hΦ.2
        omega
      · have hp : some (0, 4294967295) = some p := hp
        cases hp
        show ((0 : Nat) : Int) ≤ x0 2 + 2147483648 ∧ x0 2 + 2147483648 ≤ ((4294967295 : Nat) : Int)
        have hx := hx0 2
        omega
    · show E = E
      rfl
  · intro x0 s Wg hRu hrx hT0 hΦ i v H hT hrv hInv hKc hFr0 hIH x hx ρ2 v2 N2 H2 locs lsB stA hAt hB hv hr2 hXs hag hfr hFr hT2
    rcases i with ⟨i, hi⟩
    have hi2 : i = 0 := by omega
    rcases hi2 with rfl
    · cases hx
  · intro x0 E0 E E2 hrx hT0 hΦ i v hT hrv hInv hKc hFr0 x hx v2 hr2 hXs hag hfr hFr hT2
    rcases i with ⟨i, hi⟩
    have hi2 : i = 0 := by omega
    rcases hi2 with rfl
    · have hx : x ∈ [zxfcl17_32_ar0] := hx
      have hag : ∀ k, k < 4 → v2 k = v k := hag
      have hfr : xFr [(18, 5, 5), (18, 8, 8), (19, 0, 3), (20, 0, 23), (21, 0, 23), (22, 0, 23), (23, 0, 23), (24, 0, 23), (25, 0, 30), (26, 0, 30), (27, 0, 30), (28, 0, 30), (29, 0, 30), (30, 0, 30), (33, 1, 1)] _ _ := hfr
      have ex := List.mem_singleton.mp hx
      subst ex
      obtain ⟨hF, hBd, hM⟩ := hXs
      have g1 : v2 1 = v 1 := hag 1 (by decide)
      have g2 : v2 2 = v 2 := hag 2 (by decide)
      have b0 : ((2147483651 : Nat) : Int) ≤ (v2 1) + 2147483648 ∧ (v2 1) + 2147483648 ≤ ((2147483651 : Nat) : Int) := xXb hBd 0 rfl
      have b1 : ((2147483650 : Nat) : Int) ≤ (v2 2) + 2147483648 ∧ (v2 2) + 2147483648 ≤ ((2147483650 : Nat) : Int) := xXb hBd 1 rfl
      have m0 : xE E2 19 0 = (v2 1) := xXm hM 0 rfl
      have m1 : xE E2 19 1 = (v2 2) := xXm hM 1 rfl
      have hI : E = E0 := hInv
      show xΨcl17 x0 E0 E2 0
      have hP := hΦ
      have hP1 : x0 0 = ((3 : Nat) : Int) := hP.1
      have hP2 : x0 1 = ((2 : Nat) : Int) := hP.2
      unfold xΨcl17
      rw [hP1, hP2]
      obtain ⟨A, G⟩ := xGeo17_of hM (by decide) (by decide) (by decide) (by decide) (by decide) (by decide) zyfcl17_32_geo (by omega) (by omega) (by decide +kernel) (by decide +kernel)
      subst hI
      exact ⟨A, G, xJk17_of (by decide) (by decide) (by decide) (by decide) (by decide) G (fun i h1 h2 => by
        have h1 : ((24 : Nat) : Int) ≤ i := h1
        exact ⟨xFr_E hfr (xin_no (lo := 24) (by decide) (by omega)), xFr_E hfr (xin_no (lo := 24) (by decide) (by omega))⟩)⟩
noncomputable def zxfcl17_33_ar0 : zyXp := (0, [], [], [], [(34359738369, 2147483651, 2147483651), (68719476737, 2147483651, 2147483651)], [(311296, 34359738369), (311297, 68719476737), (311298, 288), (311299, 96), (294917, 0), (294920, 0), (540673, 0), (327680, 8), (327681, 16), (327682, 24), (327683, 0), (327684, 56), (327685, 32), (327686, 40), (327687, 48), (327688, 72), (327689, 80), (327690, 88), (327691, 64), (327692, 120), (327693, 96), (327694, 104), (327695, 112), (327696, 136), (327697, 144), (327698, 152), (327699, 128), (327700, 184), (327701, 160), (327702, 168), (327703, 176), (327704, 200), (327705, 208), (327706, 216), (327707, 192), (327708, 248), (327709, 224), (327710, 232), (327711, 240), (327712, 264), (327713, 272), (327714, 280), (327715, 256), (344064, 34359738360), (344065, 56), (344066, 96), (344067, 34359738360), (344068, 34359738360), (344069, 88), (344070, 128), (344071, 8), (344072, 34359738360), (344073, 34359738360), (344074, 160), (344075, 40), (344076, 16), (344077, 152), (344078, 192), (344079, 34359738360), (344080, 48), (344081, 184), (344082, 224), (344083, 104), (344084, 80), (344085, 34359738360), (344086, 256), (344087, 136), (344088, 112), (344089, 248), (344090, 34359738360), (344091, 34359738360), (344092, 144), (344093, 280), (344094, 34359738360), (344095, 200), (344096, 176), (344097, 34359738360), (344098, 34359738360), (344099, 232), (360448, 34359738360), (360449, 0), (360450, 48), (360451, 34359738360), (360452, 34359738360), (360453, 8), (360454, 56), (360455, 0), (360456, 34359738360), (360457, 34359738360), (360458, 64), (360459, 8), (360460, 48), (360461, 16), (360462, 72), (360463, 34359738360), (360464, 56), (360465, 24), (360466, 80), (360467, 16), (360468, 64), (360469, 34359738360), (360470, 88), (360471, 24), (360472, 72), (360473, 32), (360474, 34359738360), (360475, 34359738360), (360476, 80), (360477, 40), (360478, 34359738360), (360479, 32), (360480, 88), (360481, 34359738360), (360482, 34359738360), (360483, 40), (376832, 0), (376833, 8), (376834, 0), (376835, 34359738360), (376836, 16), (376837, 24), (376838, 16), (376839, 8), (376840, 32), (376841, 40), (376842, 32), (376843, 24), (376844, 0), (376845, 8), (376846, 0), (376847, 34359738360), (376848, 16), (376849, 24), (376850, 16), (376851, 8), (376852, 32), (376853, 40), (376854, 32), (376855, 24), (376856, 0), (376857, 8), (376858, 0), (376859, 34359738360), (376860, 16), (376861, 24), (376862, 16), (376863, 8), (376864, 32), (376865, 40), (376866, 32), (376867, 24), (393216, 34359738360), (393217, 0), (393218, 8), (393219, 0), (393220, 34359738360), (393221, 0), (393222, 8), (393223, 0), (393224, 34359738360), (393225, 0), (393226, 8), (393227, 0), (393228, 8), (393229, 16), (393230, 24), (393231, 16), (393232, 8), (393233, 16), (393234, 24), (393235, 16), (393236, 8), (393237, 16), (393238, 24), (393239, 16), (393240, 24), (393241, 32), (393242, 40), (393243, 32), (393244, 24), (393245, 32), (393246, 40), (393247, 32), (393248, 24), (393249, 32), (393250, 40), (393251, 32), (409600, 8), (409601, 40), (409602, 104), (409603, 136), (409604, 200), (409605, 232), (409606, 16), (409607, 48), (409608, 80), (409609, 112), (409610, 144), (409611, 176), (425984, 56), (425985, 88), (425986, 152), (425987, 184), (425988, 248), (425989, 280), (425990, 96), (425991, 128), (425992, 160), (425993, 192), (425994, 224), (425995, 256), (442368, 0), (442369, 0), (442370, 0), (442371, 0), (442372, 0), (442373, 0), (442374, 0), (442375, 0), (442376, 0), (442377, 0), (442378, 0), (442379, 0), (442380, 0), (442381, 0), (442382, 0), (442383, 0), (442384, 0), (442385, 0), (442386, 0), (442387, 0), (442388, 0), (442389, 0), (442390, 0), (442391, 0), (442392, 0), (442393, 0), (442394, 0), (442395, 0), (442396, 0), (442397, 0), (442398, 0), (458752, 8), (458753, 8), (458754, 8), (458755, 8), (458756, 8), (458757, 8), (458758, 8), (458759, 8), (458760, 8), (458761, 8), (458762, 8), (458763, 8), (458764, 8), (458765, 8), (458766, 8), (458767, 8), (458768, 8), (458769, 8), (458770, 8), (458771, 8), (458772, 8), (458773, 8), (458774, 8), (458775, 8), (458776, 8), (458777, 8), (458778, 8), (458779, 8), (458780, 8), (458781, 8), (458782, 8), (475136, 0), (475137, 0), (475138, 0), (475139, 0), (475140, 0), (475141, 0), (475142, 0), (475143, 0), (475144, 0), (475145, 0), (475146, 0), (475147, 0), (475148, 0), (475149, 0), (475150, 0), (475151, 0), (475152, 0), (475153, 0), (475154, 0), (475155, 0), (475156, 0), (475157, 0), (475158, 0), (475159, 0), (475160, 0), (475161, 0), (475162, 0), (475163, 0), (475164, 0), (475165, 0), (475166, 0), (491520, 0), (491521, 0), (491522, 0), (491523, 0), (491524, 0), (491525, 0), (491526, 0), (491527, 0), (491528, 0), (491529, 0), (491530, 0), (491531, 0), (491532, 0), (491533, 0), (491534, 0), (491535, 0), (491536, 0), (491537, 0), (491538, 0), (491539, 0), (491540, 0), (491541, 0), (491542, 0), (491543, 0), (491544, 0), (491545, 0), (491546, 0), (491547, 0), (491548, 0), (491549, 0), (491550, 0)])
noncomputable def zpfcl17_33_a : zyPh := (0, [147, 34359738369, 68719476737, 13], [(0, 4294967295), (2147483651, 2147483651), (2147483651, 2147483651), (0, 4294967295)], [], [])
noncomputable def zpfcl17_33 (i : Nat) : zyPh := zpfcl17_33_a
noncomputable def zXfcl17_33 (i : Nat) : List zyXp := []
noncomputable def zRfcl17_33 (i : Nat) : List zyXp := [zxfcl17_33_ar0]
noncomputable def zFfcl17_33 (i : Nat) : zyR := [(18, 5, 5), (18, 8, 8), (19, 0, 3), (20, 0, 35), (21, 0, 35), (22, 0, 35), (23, 0, 35), (24, 0, 35), (25, 0, 30), (26, 0, 30), (27, 0, 30), (28, 0, 30), (29, 0, 30), (30, 0, 30), (33, 1, 1)]
noncomputable def zSfcl17_33 (i : Nat) : Nat := 0
theorem zyfcl17_33_geo : xgeoB17 (zxfcl17_33_ar0).2.2.2.2.2 3 3 = true := by decide +kernel
noncomputable def fpfcl17_33 : zyR := [(18, 5, 5), (18, 8, 8), (19, 0, 3), (20, 0, 79), (21, 0, 79), (22, 0, 79), (23, 0, 79), (24, 0, 79), (25, 0, 30), (26, 0, 30), (27, 0, 30), (28, 0, 30), (29, 0, 30), (30, 0, 30), (33, 1, 1)]
theorem zyfcl17_33_run : zyrS zymc zxi31 (31, 0, 0, 0, 0) 3 zpfcl17_33 (fun _ _ => []) zFfcl17_33 zSfcl17_33 zXfcl17_33 zRfcl17_33 1 = true := by decide +kernel
theorem zyfcl17_33_ck : zyAll (fun i => xsubR (zFfcl17_33 i) fpfcl17_33 && ((zXfcl17_33 i).all xckX && (zRfcl17_33 i).all (fun x => xckX x && xrtB false x))) 1 = true := by decide +kernel
def xIfcl17_33 (i : Nat) (x0 : Nat → Int) (E0 : zyEm) (v : Nat → Int) (E : zyEm) : Prop := (E = E0)
def xMfcl17_33 (i : Nat) (x0 : Nat → Int) (E0 : zyEm) (v : Nat → Int) (E : zyEm) : Nat := (0)
theorem xCl17_33 {l : Launch} {en : zEn} {me : zMe} (hen : zG zxMeta 31 = some en) (hme : zG zMeth 31 = some me) : xFc l zymc en me 3 [18] 2 fpfcl17_33 false (xΦcl17_ (3, 3)) xΨcl17 := by
  have een : zG zxMeta 31 = some (zxi31, 3, 4, 3, 31, 0, 0, 0, 0) := rfl
  obtain ⟨me1, hme1, hOK⟩ := zall hen
  rw [hme] at hme1
  cases hme1
  rw [een] at hen
  cases hen
  have hr := zyfcl17_33_run
  have hck := fun i hi => zyAll_iff zyfcl17_33_ck i hi
  simp only [Bool.and_eq_true] at hck
  intro B
  refine xcut (mi := zymc) (B := B) hOK rfl rfl (ι := Fin 1) (fun i => zpfcl17_33 i.val) (fun _ _ => []) (fun i => zFfcl17_33 i.val) (fun i => zSfcl17_33 i.val) (fun i => zXfcl17_33 i.val) (fun i => zRfcl17_33 i.val) (fun i y2 ct en2 me2 h => by cases h) 200000 (fun i => zyAll_iff hr i.val i.isLt) (fun i => (hck i.val i.isLt).1) (fun i => (hck i.val i.isLt).2.1) (fun i => (hck i.val i.isLt).2.2) ⟨0, by decide⟩ ⟨rfl, rfl, rfl, rfl⟩ ⟨by decide, by decide⟩ (fun i x0 E0 v E => xIfcl17_33 i.val x0 E0 v E) (fun i x0 E0 v E => xMfcl17_33 i.val x0 E0 v E) ?_ ?_ ?_
  · intro x0 E hx0 hT hΦ
    have hΦ : (xΦcl17_ (3, 3)) x0 E := hΦ
    refine ⟨fun k p hp => ?_, ?_⟩
    · have hk : k < 4 := (List.getElem?_eq_some_iff.mp hp).1
      have hk : k = 0 ∨ k = 1 ∨ k = 2 ∨ k = 3 := by omega
      rcases hk with rfl | rfl | rfl | rfl
      · have hp : some (0, 4294967295) = some p := hp
        cases hp
        show ((0 : Nat) : Int) ≤ 0 + 2147483648 ∧ 0 + 2147483648 ≤ ((4294967295 : Nat) : Int)
        omega
      · have hp : some (2147483651, 2147483651) = some p := hp
        cases hp
        show ((2147483651 : Nat) : Int) ≤ x0 0 + 2147483648 ∧ x0 0 + 2147483648 ≤ ((2147483651 : Nat) : Int)
        have hx := hx0 0
        have hP1 : x0 0 = ((3 : Nat) : Int) := hΦ.1
        have hP2 : x0 1 = ((3 : Nat) : Int) := hΦ.2
        omega
      · have hp : some (2147483651, 2147483651) = some p := hp
        cases hp
        show ((2147483651 : Nat) : Int) ≤ x0 1 + 2147483648 ∧ x0 1 + 2147483648 ≤ ((2147483651 : Nat) : Int)
        have hx := hx0 1
        have hP1 : x0 0 = ((3 : Nat) : Int) := hΦ.1
        have hP2 : x0 1 = ((3 : Nat) : Int) := hΦ.2
        omega
      · have hp : some (0, 4294967295) = some p := hp
        cases hp
        show ((0 : Nat) : Int) ≤ x0 2 + 2147483648 ∧ x0 2 + 2147483648 ≤ ((4294967295 : Nat) : Int)
        have hx := hx0 2
        omega
    · show E = E
      rfl
  · intro x0 s Wg hRu hrx hT0 hΦ i v H hT hrv hInv hKc hFr0 hIH x hx ρ2 v2 N2 H2 locs lsB stA hAt hB hv hr2 hXs hag hfr hFr hT2
    rcases i with ⟨i, hi⟩
    have hi2 : i = 0 := by omega
    rcases hi2 with rfl
    · cases hx
  · intro x0 E0 E E2 hrx hT0 hΦ i v hT hrv hInv hKc hFr0 x hx v2 hr2 hXs hag hfr hFr hT2
    rcases i with ⟨i, hi⟩
    have hi2 : i = 0 := by omega
    rcases hi2 with rfl
    · have hx : x ∈ [zxfcl17_33_ar0] := hx
      have hag : ∀ k, k < 4 → v2 k = v k := hag
      have hfr : xFr [(18, 5, 5), (18, 8, 8), (19, 0, 3), (20, 0, 35), (21, 0, 35), (22, 0, 35), (23, 0, 35), (24, 0, 35), (25, 0, 30), (26, 0, 30), (27, 0, 30), (28, 0, 30), (29, 0, 30), (30, 0, 30), (33, 1, 1)] _ _ := hfr
      have ex := List.mem_singleton.mp hx
      subst ex
      obtain ⟨hF, hBd, hM⟩ := hXs
      have g1 : v2 1 = v 1 := hag 1 (by decide)
      have g2 : v2 2 = v 2 := hag 2 (by decide)
      have b0 : ((2147483651 : Nat) : Int) ≤ (v2 1) + 2147483648 ∧ (v2 1) + 2147483648 ≤ ((2147483651 : Nat) : Int) := xXb hBd 0 rfl
      have b1 : ((2147483651 : Nat) : Int) ≤ (v2 2) + 2147483648 ∧ (v2 2) + 2147483648 ≤ ((2147483651 : Nat) : Int) := xXb hBd 1 rfl
      have m0 : xE E2 19 0 = (v2 1) := xXm hM 0 rfl
      have m1 : xE E2 19 1 = (v2 2) := xXm hM 1 rfl
      have hI : E = E0 := hInv
      show xΨcl17 x0 E0 E2 0
      have hP := hΦ
      have hP1 : x0 0 = ((3 : Nat) : Int) := hP.1
      have hP2 : x0 1 = ((3 : Nat) : Int) := hP.2
      unfold xΨcl17
      rw [hP1, hP2]
      obtain ⟨A, G⟩ := xGeo17_of hM (by decide) (by decide) (by decide) (by decide) (by decide) (by decide) zyfcl17_33_geo (by omega) (by omega) (by decide +kernel) (by decide +kernel)
      subst hI
      exact ⟨A, G, xJk17_of (by decide) (by decide) (by decide) (by decide) (by decide) G (fun i h1 h2 => by
        have h1 : ((36 : Nat) : Int) ≤ i := h1
        exact ⟨xFr_E hfr (xin_no (lo := 36) (by decide) (by omega)), xFr_E hfr (xin_no (lo := 36) (by decide) (by omega))⟩)⟩
noncomputable def zxfcl17_34_ar0 : zyXp := (0, [], [], [], [(34359738369, 2147483651, 2147483651), (68719476737, 2147483652, 2147483652)], [(311296, 34359738369), (311297, 68719476737), (311298, 384), (311299, 136), (294917, 0), (294920, 0), (540673, 0), (327680, 8), (327681, 16), (327682, 24), (327683, 0), (327684, 56), (327685, 32), (327686, 40), (327687, 48), (327688, 72), (327689, 80), (327690, 88), (327691, 64), (327692, 120), (327693, 96), (327694, 104), (327695, 112), (327696, 152), (327697, 128), (327698, 136), (327699, 144), (327700, 168), (327701, 176), (327702, 184), (327703, 160), (327704, 216), (327705, 192), (327706, 200), (327707, 208), (327708, 232), (327709, 240), (327710, 248), (327711, 224), (327712, 264), (327713, 272), (327714, 280), (327715, 256), (327716, 312), (327717, 288), (327718, 296), (327719, 304), (327720, 328), (327721, 336), (327722, 344), (327723, 320), (327724, 376), (327725, 352), (327726, 360), (327727, 368), (344064, 34359738360), (344065, 56), (344066, 128), (344067, 34359738360), (344068, 34359738360), (344069, 88), (344070, 160), (344071, 8), (344072, 34359738360), (344073, 120), (344074, 192), (344075, 40), (344076, 34359738360), (344077, 34359738360), (344078, 224), (344079, 72), (344080, 16), (344081, 184), (344082, 256), (344083, 34359738360), (344084, 48), (344085, 216), (344086, 288), (344087, 136), (344088, 80), (344089, 248), (344090, 320), (344091, 168), (344092, 112), (344093, 34359738360), (344094, 352), (344095, 200), (344096, 144), (344097, 312), (344098, 34359738360), (344099, 34359738360), (344100, 176), (344101, 344), (344102, 34359738360), (344103, 264), (344104, 208), (344105, 376), (344106, 34359738360), (344107, 296), (344108, 240), (344109, 34359738360), (344110, 34359738360), (344111, 328), (360448, 34359738360), (360449, 0), (360450, 72), (360451, 34359738360), (360452, 34359738360), (360453, 8), (360454, 80), (360455, 0), (360456, 34359738360), (360457, 16), (360458, 88), (360459, 8), (360460, 34359738360), (360461, 34359738360), (360462, 96), (360463, 16), (360464, 72), (360465, 24), (360466, 104), (360467, 34359738360), (360468, 80), (360469, 32), (360470, 112), (360471, 24), (360472, 88), (360473, 40), (360474, 120), (360475, 32), (360476, 96), (360477, 34359738360), (360478, 128), (360479, 40), (360480, 104), (360481, 48), (360482, 34359738360), (360483, 34359738360), (360484, 112), (360485, 56), (360486, 34359738360), (360487, 48), (360488, 120), (360489, 64), (360490, 34359738360), (360491, 56), (360492, 128), (360493, 34359738360), (360494, 34359738360), (360495, 64), (376832, 0), (376833, 8), (376834, 0), (376835, 34359738360), (376836, 16), (376837, 24), (376838, 16), (376839, 8), (376840, 32), (376841, 40), (376842, 32), (376843, 24), (376844, 48), (376845, 56), (376846, 48), (376847, 40), (376848, 0), (376849, 8), (376850, 0), (376851, 34359738360), (376852, 16), (376853, 24), (376854, 16), (376855, 8), (376856, 32), (376857, 40), (376858, 32), (376859, 24), (376860, 48), (376861, 56), (376862, 48), (376863, 40), (376864, 0), (376865, 8), (376866, 0), (376867, 34359738360), (376868, 16), (376869, 24), (376870, 16), (376871, 8), (376872, 32), (376873, 40), (376874, 32), (376875, 24), (376876, 48), (376877, 56), (376878, 48), (376879, 40), (393216, 34359738360), (393217, 0), (393218, 8), (393219, 0), (393220, 34359738360), (393221, 0), (393222, 8), (393223, 0), (393224, 34359738360), (393225, 0), (393226, 8), (393227, 0), (393228, 34359738360), (393229, 0), (393230, 8), (393231, 0), (393232, 8), (393233, 16), (393234, 24), (393235, 16), (393236, 8), (393237, 16), (393238, 24), (393239, 16), (393240, 8), (393241, 16), (393242, 24), (393243, 16), (393244, 8), (393245, 16), (393246, 24), (393247, 16), (393248, 24), (393249, 32), (393250, 40), (393251, 32), (393252, 24), (393253, 32), (393254, 40), (393255, 32), (393256, 24), (393257, 32), (393258, 40), (393259, 32), (393260, 24), (393261, 32), (393262, 40), (393263, 32), (409600, 8), (409601, 40), (409602, 72), (409603, 136), (409604, 168), (409605, 200), (409606, 264), (409607, 296), (409608, 328), (409609, 16), (409610, 48), (409611, 80), (409612, 112), (409613, 144), (409614, 176), (409615, 208), (409616, 240), (425984, 56), (425985, 88), (425986, 120), (425987, 184), (425988, 216), (425989, 248), (425990, 312), (425991, 344), (425992, 376), (425993, 128), (425994, 160), (425995, 192), (425996, 224), (425997, 256), (425998, 288), (425999, 320), (426000, 352), (442368, 0), (442369, 0), (442370, 0), (442371, 0), (442372, 0), (442373, 0), (442374, 0), (442375, 0), (442376, 0), (442377, 0), (442378, 0), (442379, 0), (442380, 0), (442381, 0), (442382, 0), (442383, 0), (442384, 0), (442385, 0), (442386, 0), (442387, 0), (442388, 0), (442389, 0), (442390, 0), (442391, 0), (442392, 0), (442393, 0), (442394, 0), (442395, 0), (442396, 0), (442397, 0), (442398, 0), (458752, 8), (458753, 8), (458754, 8), (458755, 8), (458756, 8), (458757, 8), (458758, 8), (458759, 8), (458760, 8), (458761, 8), (458762, 8), (458763, 8), (458764, 8), (458765, 8), (458766, 8), (458767, 8), (458768, 8), (458769, 8), (458770, 8), (458771, 8), (458772, 8), (458773, 8), (458774, 8), (458775, 8), (458776, 8), (458777, 8), (458778, 8), (458779, 8), (458780, 8), (458781, 8), (458782, 8), (475136, 0), (475137, 0), (475138, 0), (475139, 0), (475140, 0), (475141, 0), (475142, 0), (475143, 0), (475144, 0), (475145, 0), (475146, 0), (475147, 0), (475148, 0), (475149, 0), (475150, 0), (475151, 0), (475152, 0), (475153, 0), (475154, 0), (475155, 0), (475156, 0), (475157, 0), (475158, 0), (475159, 0), (475160, 0), (475161, 0), (475162, 0), (475163, 0), (475164, 0), (475165, 0), (475166, 0), (491520, 0), (491521, 0), (491522, 0), (491523, 0), (491524, 0), (491525, 0), (491526, 0), (491527, 0), (491528, 0), (491529, 0), (491530, 0), (491531, 0), (491532, 0), (491533, 0), (491534, 0), (491535, 0), (491536, 0), (491537, 0), (491538, 0), (491539, 0), (491540, 0), (491541, 0), (491542, 0), (491543, 0), (491544, 0), (491545, 0), (491546, 0), (491547, 0), (491548, 0), (491549, 0), (491550, 0)])
noncomputable def zpfcl17_34_a : zyPh := (0, [147, 34359738369, 68719476737, 13], [(0, 4294967295), (2147483651, 2147483651), (2147483652, 2147483652), (0, 4294967295)], [], [])
noncomputable def zpfcl17_34 (i : Nat) : zyPh := zpfcl17_34_a
noncomputable def zXfcl17_34 (i : Nat) : List zyXp := []
noncomputable def zRfcl17_34 (i : Nat) : List zyXp := [zxfcl17_34_ar0]
noncomputable def zFfcl17_34 (i : Nat) : zyR := [(18, 5, 5), (18, 8, 8), (19, 0, 3), (20, 0, 47), (21, 0, 47), (22, 0, 47), (23, 0, 47), (24, 0, 47), (25, 0, 30), (26, 0, 30), (27, 0, 30), (28, 0, 30), (29, 0, 30), (30, 0, 30), (33, 1, 1)]
noncomputable def zSfcl17_34 (i : Nat) : Nat := 0
theorem zyfcl17_34_geo : xgeoB17 (zxfcl17_34_ar0).2.2.2.2.2 3 4 = true := by decide +kernel
noncomputable def fpfcl17_34 : zyR := [(18, 5, 5), (18, 8, 8), (19, 0, 3), (20, 0, 79), (21, 0, 79), (22, 0, 79), (23, 0, 79), (24, 0, 79), (25, 0, 30), (26, 0, 30), (27, 0, 30), (28, 0, 30), (29, 0, 30), (30, 0, 30), (33, 1, 1)]
theorem zyfcl17_34_run : zyrS zymc zxi31 (31, 0, 0, 0, 0) 3 zpfcl17_34 (fun _ _ => []) zFfcl17_34 zSfcl17_34 zXfcl17_34 zRfcl17_34 1 = true := by decide +kernel
theorem zyfcl17_34_ck : zyAll (fun i => xsubR (zFfcl17_34 i) fpfcl17_34 && ((zXfcl17_34 i).all xckX && (zRfcl17_34 i).all (fun x => xckX x && xrtB false x))) 1 = true := by decide +kernel
def xIfcl17_34 (i : Nat) (x0 : Nat → Int) (E0 : zyEm) (v : Nat → Int) (E : zyEm) : Prop := (E = E0)
def xMfcl17_34 (i : Nat) (x0 : Nat → Int) (E0 : zyEm) (v : Nat → Int) (E : zyEm) : Nat := (0)
theorem xCl17_34 {l : Launch} {en : zEn} {me : zMe} (hen : zG zxMeta 31 = some en) (hme : zG zMeth 31 = some me) : xFc l zymc en me 3 [18] 2 fpfcl17_34 false (xΦcl17_ (3, 4)) xΨcl17 := by
  have een : zG zxMeta 31 = some (zxi31, 3, 4, 3, 31, 0, 0, 0, 0) := rfl
  obtain ⟨me1, hme1, hOK⟩ := zall hen
  rw [hme] at hme1
  cases hme1
  rw [een] at hen
  cases hen
  have hr := zyfcl17_34_run
  have hck := fun i hi => zyAll_iff zyfcl17_34_ck i hi
  simp only [Bool.and_eq_true] at hck
  intro B
  refine xcut (mi := zymc) (B := B) hOK rfl rfl (ι := Fin 1) (fun i => zpfcl17_34 i.val) (fun _ _ => []) (fun i => zFfcl17_34 i.val) (fun i => zSfcl17_34 i.val) (fun i => zXfcl17_34 i.val) (fun i => zRfcl17_34 i.val) (fun i y2 ct en2 me2 h => by cases h) 200000 (fun i => zyAll_iff hr i.val i.isLt) (fun i => (hck i.val i.isLt).1) (fun i => (hck i.val i.isLt).2.1) (fun i => (hck i.val i.isLt).2.2) ⟨0, by decide⟩ ⟨rfl, rfl, rfl, rfl⟩ ⟨by decide, by decide⟩ (fun i x0 E0 v E => xIfcl17_34 i.val x0 E0 v E) (fun i x0 E0 v E => xMfcl17_34 i.val x0 E0 v E) ?_ ?_ ?_
  · intro x0 E hx0 hT hΦ
    have hΦ : (xΦcl17_ (3, 4)) x0 E := hΦ
    refine ⟨fun k p hp => ?_, ?_⟩
    · have hk : k < 4 := (List.getElem?_eq_some_iff.mp hp).1
      have hk : k = 0 ∨ k = 1 ∨ k = 2 ∨ k = 3 := by omega
      rcases hk with rfl | rfl | rfl | rfl
      · have hp : some (0, 4294967295) = some p := hp
        cases hp
        show ((0 : Nat) : Int) ≤ 0 + 2147483648 ∧ 0 + 2147483648 ≤ ((4294967295 : Nat) : Int)
        omega
      · have hp : some (2147483651, 2147483651) = some p := hp
        cases hp
        show ((2147483651 : Nat) : Int) ≤ x0 0 + 2147483648 ∧ x0 0 + 2147483648 ≤ ((2147483651 : Nat) : Int)
        have hx := hx0 0
        have hP1 : x0 0 = ((3 : Nat) : Int) := hΦ.1
        have hP2 : x0 1 = ((4 : Nat) : Int) := hΦ.2
        omega
      · have hp : some (2147483652, 2147483652) = some p := hp
        cases hp
        show ((2147483652 : Nat) : Int) ≤ x0 1 + 2147483648 ∧ x0 1 + 2147483648 ≤ ((2147483652 : Nat) : Int)
        have hx := hx0 1
        have hP1 : x0 0 = ((3 : Nat) : Int) := hΦ.1
        have hP2 : x0 1 = ((4 : Nat) : Int) := hΦ.2
        omega
      · have hp : some (0, 4294967295) = some p := hp
        cases hp
        show ((0 : Nat) : Int) ≤ x0 2 + 2147483648 ∧ x0 2 + 2147483648 ≤ ((4294967295 : Nat) : Int)
        have hx := hx0 2
        omega
    · show E = E
      rfl
  · intro x0 s Wg hRu hrx hT0 hΦ i v H hT hrv hInv hKc hFr0 hIH x hx ρ2 v2 N2 H2 locs lsB stA hAt hB hv hr2 hXs hag hfr hFr hT2
    rcases i with ⟨i, hi⟩
    have hi2 : i = 0 := by omega
    rcases hi2 with rfl
    · cases hx
  · intro x0 E0 E E2 hrx hT0 hΦ i v hT hrv hInv hKc hFr0 x hx v2 hr2 hXs hag hfr hFr hT2
    rcases i with ⟨i, hi⟩
    have hi2 : i = 0 := by omega
    rcases hi2 with rfl
    · have hx : x ∈ [zxfcl17_34_ar0] := hx
      have hag : ∀ k, k < 4 → v2 k = v k := hag
      have hfr : xFr [(18, 5, 5), (18, 8, 8), (19, 0, 3), (20, 0, 47), (21, 0, 47), (22, 0, 47), (23, 0, 47), (24, 0, 47), (25, 0, 30), (26, 0, 30), (27, 0, 30), (28, 0, 30), (29, 0, 30), (30, 0, 30), (33, 1, 1)] _ _ := hfr
      have ex := List.mem_singleton.mp hx
      subst ex
      obtain ⟨hF, hBd, hM⟩ := hXs
      have g1 : v2 1 = v 1 := hag 1 (by decide)
      have g2 : v2 2 = v 2 := hag 2 (by decide)
      have b0 : ((2147483651 : Nat) : Int) ≤ (v2 1) + 2147483648 ∧ (v2 1) + 2147483648 ≤ ((2147483651 : Nat) : Int) := xXb hBd 0 rfl
      have b1 : ((2147483652 : Nat) : Int) ≤ (v2 2) + 2147483648 ∧ (v2 2) + 2147483648 ≤ ((2147483652 : Nat) : Int) := xXb hBd 1 rfl
      have m0 : xE E2 19 0 = (v2 1) := xXm hM 0 rfl
      have m1 : xE E2 19 1 = (v2 2) := xXm hM 1 rfl
      have hI : E = E0 := hInv
      show xΨcl17 x0 E0 E2 0
      have hP := hΦ
      have hP1 : x0 0 = ((3 : Nat) : Int) := hP.1
      have hP2 : x0 1 = ((4 : Nat) : Int) := hP.2
      unfold xΨcl17
      rw [hP1, hP2]
      obtain ⟨A, G⟩ := xGeo17_of hM (by decide) (by decide) (by decide) (by decide) (by decide) (by decide) zyfcl17_34_geo (by omega) (by omega) (by decide +kernel) (by decide +kernel)
      subst hI
      exact ⟨A, G, xJk17_of (by decide) (by decide) (by decide) (by decide) (by decide) G (fun i h1 h2 => by
        have h1 : ((48 : Nat) : Int) ≤ i := h1
        exact ⟨xFr_E hfr (xin_no (lo := 48) (by decide) (by omega)), xFr_E hfr (xin_no (lo := 48) (by decide) (by omega))⟩)⟩
noncomputable def zxfcl17_35_ar0 : zyXp := (0, [], [], [], [(34359738369, 2147483651, 2147483651), (68719476737, 2147483653, 2147483653)], [(311296, 34359738369), (311297, 68719476737), (311298, 480), (311299, 176), (294917, 0), (294920, 0), (540673, 0), (327680, 8), (327681, 16), (327682, 24), (327683, 0), (327684, 56), (327685, 32), (327686, 40), (327687, 48), (327688, 72), (327689, 80), (327690, 88), (327691, 64), (327692, 120), (327693, 96), (327694, 104), (327695, 112), (327696, 136), (327697, 144), (327698, 152), (327699, 128), (327700, 184), (327701, 160), (327702, 168), (327703, 176), (327704, 200), (327705, 208), (327706, 216), (327707, 192), (327708, 248), (327709, 224), (327710, 232), (327711, 240), (327712, 264), (327713, 272), (327714, 280), (327715, 256), (327716, 312), (327717, 288), (327718, 296), (327719, 304), (327720, 328), (327721, 336), (327722, 344), (327723, 320), (327724, 376), (327725, 352), (327726, 360), (327727, 368), (327728, 392), (327729, 400), (327730, 408), (327731, 384), (327732, 440), (327733, 416), (327734, 424), (327735, 432), (327736, 456), (327737, 464), (327738, 472), (327739, 448), (344064, 34359738360), (344065, 56), (344066, 160), (344067, 34359738360), (344068, 34359738360), (344069, 88), (344070, 192), (344071, 8), (344072, 34359738360), (344073, 120), (344074, 224), (344075, 40), (344076, 34359738360), (344077, 152), (344078, 256), (344079, 72), (344080, 34359738360), (344081, 34359738360), (344082, 288), (344083, 104), (344084, 16), (344085, 216), (344086, 320), (344087, 34359738360), (344088, 48), (344089, 248), (344090, 352), (344091, 168), (344092, 80), (344093, 280), (344094, 384), (344095, 200), (344096, 112), (344097, 312), (344098, 416), (344099, 232), (344100, 144), (344101, 34359738360), (344102, 448), (344103, 264), (344104, 176), (344105, 376), (344106, 34359738360), (344107, 34359738360), (344108, 208), (344109, 408), (344110, 34359738360), (344111, 328), (344112, 240), (344113, 440), (344114, 34359738360), (344115, 360), (344116, 272), (344117, 472), (344118, 34359738360), (344119, 392), (344120, 304), (344121, 34359738360), (344122, 34359738360), (344123, 424), (360448, 34359738360), (360449, 0), (360450, 96), (360451, 34359738360), (360452, 34359738360), (360453, 8), (360454, 104), (360455, 0), (360456, 34359738360), (360457, 16), (360458, 112), (360459, 8), (360460, 34359738360), (360461, 24), (360462, 120), (360463, 16), (360464, 34359738360), (360465, 34359738360), (360466, 128), (360467, 24), (360468, 96), (360469, 32), (360470, 136), (360471, 34359738360), (360472, 104), (360473, 40), (360474, 144), (360475, 32), (360476, 112), (360477, 48), (360478, 152), (360479, 40), (360480, 120), (360481, 56), (360482, 160), (360483, 48), (360484, 128), (360485, 34359738360), (360486, 168), (360487, 56), (360488, 136), (360489, 64), (360490, 34359738360), (360491, 34359738360), (360492, 144), (360493, 72), (360494, 34359738360), (360495, 64), (360496, 152), (360497, 80), (360498, 34359738360), (360499, 72), (360500, 160), (360501, 88), (360502, 34359738360), (360503, 80), (360504, 168), (360505, 34359738360), (360506, 34359738360), (360507, 88), (376832, 0), (376833, 8), (376834, 0), (376835, 34359738360), (376836, 16), (376837, 24), (376838, 16), (376839, 8), (376840, 32), (376841, 40), (376842, 32), (376843, 24), (376844, 48), (376845, 56), (376846, 48), (376847, 40), (376848, 64), (376849, 72), (376850, 64), (376851, 56), (376852, 0), (376853, 8), (376854, 0), (376855, 34359738360), (376856, 16), (376857, 24), (376858, 16), (376859, 8), (376860, 32), (376861, 40), (376862, 32), (376863, 24), (376864, 48), (376865, 56), (376866, 48), (376867, 40), (376868, 64), (376869, 72), (376870, 64), (376871, 56), (376872, 0), (376873, 8), (376874, 0), (376875, 34359738360), (376876, 16), (376877, 24), (376878, 16), (376879, 8), (376880, 32), (376881, 40), (376882, 32), (376883, 24), (376884, 48), (376885, 56), (376886, 48), (376887, 40), (376888, 64), (376889, 72), (376890, 64), (376891, 56), (393216, 34359738360), (393217, 0), (393218, 8), (393219, 0), (393220, 34359738360), (393221, 0), (393222, 8), (393223, 0), (393224, 34359738360), (393225, 0), (393226, 8), (393227, 0), (393228, 34359738360), (393229, 0), (393230, 8), (393231, 0), (393232, 34359738360), (393233, 0), (393234, 8), (393235, 0), (393236, 8), (393237, 16), (393238, 24), (393239, 16), (393240, 8), (393241, 16), (393242, 24), (393243, 16), (393244, 8), (393245, 16), (393246, 24), (393247, 16), (393248, 8), (393249, 16), (393250, 24), (393251, 16), (393252, 8), (393253, 16), (393254, 24), (393255, 16), (393256, 24), (393257, 32), (393258, 40), (393259, 32), (393260, 24), (393261, 32), (393262, 40), (393263, 32), (393264, 24), (393265, 32), (393266, 40), (393267, 32), (393268, 24), (393269, 32), (393270, 40), (393271, 32), (393272, 24), (393273, 32), (393274, 40), (393275, 32), (409600, 8), (409601, 40), (409602, 72), (409603, 104), (409604, 168), (409605, 200), (409606, 232), (409607, 264), (409608, 328), (409609, 360), (409610, 392), (409611, 424), (409612, 16), (409613, 48), (409614, 80), (409615, 112), (409616, 144), (409617, 176), (409618, 208), (409619, 240), (409620, 272), (409621, 304), (425984, 56), (425985, 88), (425986, 120), (425987, 152), (425988, 216), (425989, 248), (425990, 280), (425991, 312), (425992, 376), (425993, 408), (425994, 440), (425995, 472), (425996, 160), (425997, 192), (425998, 224), (425999, 256), (426000, 288), (426001, 320), (426002, 352), (426003, 384), (426004, 416), (426005, 448), (442368, 0), (442369, 0), (442370, 0), (442371, 0), (442372, 0), (442373, 0), (442374, 0), (442375, 0), (442376, 0), (442377, 0), (442378, 0), (442379, 0), (442380, 0), (442381, 0), (442382, 0), (442383, 0), (442384, 0), (442385, 0), (442386, 0), (442387, 0), (442388, 0), (442389, 0), (442390, 0), (442391, 0), (442392, 0), (442393, 0), (442394, 0), (442395, 0), (442396, 0), (442397, 0), (442398, 0), (458752, 8), (458753, 8), (458754, 8), (458755, 8), (458756, 8), (458757, 8), (458758, 8), (458759, 8), (458760, 8), (458761, 8), (458762, 8), (458763, 8), (458764, 8), (458765, 8), (458766, 8), (458767, 8), (458768, 8), (458769, 8), (458770, 8), (458771, 8), (458772, 8), (458773, 8), (458774, 8), (458775, 8), (458776, 8), (458777, 8), (458778, 8), (458779, 8), (458780, 8), (458781, 8), (458782, 8), (475136, 0), (475137, 0), (475138, 0), (475139, 0), (475140, 0), (475141, 0), (475142, 0), (475143, 0), (475144, 0), (475145, 0), (475146, 0), (475147, 0), (475148, 0), (475149, 0), (475150, 0), (475151, 0), (475152, 0), (475153, 0), (475154, 0), (475155, 0), (475156, 0), (475157, 0), (475158, 0), (475159, 0), (475160, 0), (475161, 0), (475162, 0), (475163, 0), (475164, 0), (475165, 0), (475166, 0), (491520, 0), (491521, 0), (491522, 0), (491523, 0), (491524, 0), (491525, 0), (491526, 0), (491527, 0), (491528, 0), (491529, 0), (491530, 0), (491531, 0), (491532, 0), (491533, 0), (491534, 0), (491535, 0), (491536, 0), (491537, 0), (491538, 0), (491539, 0), (491540, 0), (491541, 0), (491542, 0), (491543, 0), (491544, 0), (491545, 0), (491546, 0), (491547, 0), (491548, 0), (491549, 0), (491550, 0)])
noncomputable def zpfcl17_35_a : zyPh := (0, [147, 34359738369, 68719476737, 13], [(0, 4294967295), (2147483651, 2147483651), (2147483653, 2147483653), (0, 4294967295)], [], [])
noncomputable def zpfcl17_35 (i : Nat) : zyPh := zpfcl17_35_a
noncomputable def zXfcl17_35 (i : Nat) : List zyXp := []
noncomputable def zRfcl17_35 (i : Nat) : List zyXp := [zxfcl17_35_ar0]
noncomputable def zFfcl17_35 (i : Nat) : zyR := [(18, 5, 5), (18, 8, 8), (19, 0, 3), (20, 0, 59), (21, 0, 59), (22, 0, 59), (23, 0, 59), (24, 0, 59), (25, 0, 30), (26, 0, 30), (27, 0, 30), (28, 0, 30), (29, 0, 30), (30, 0, 30), (33, 1, 1)]
noncomputable def zSfcl17_35 (i : Nat) : Nat := 0
theorem zyfcl17_35_geo : xgeoB17 (zxfcl17_35_ar0).2.2.2.2.2 3 5 = true := by decide +kernel
noncomputable def fpfcl17_35 : zyR := [(18, 5, 5), (18, 8, 8), (19, 0, 3), (20, 0, 79), (21, 0, 79), (22, 0, 79), (23, 0, 79), (24, 0, 79), (25, 0, 30), (26, 0, 30), (27, 0, 30), (28, 0, 30), (29, 0, 30), (30, 0, 30), (33, 1, 1)]
theorem zyfcl17_35_run : zyrS zymc zxi31 (31, 0, 0, 0, 0) 3 zpfcl17_35 (fun _ _ => []) zFfcl17_35 zSfcl17_35 zXfcl17_35 zRfcl17_35 1 = true := by decide +kernel
theorem zyfcl17_35_ck : zyAll (fun i => xsubR (zFfcl17_35 i) fpfcl17_35 && ((zXfcl17_35 i).all xckX && (zRfcl17_35 i).all (fun x => xckX x && xrtB false x))) 1 = true := by decide +kernel
def xIfcl17_35 (i : Nat) (x0 : Nat → Int) (E0 : zyEm) (v : Nat → Int) (E : zyEm) : Prop := (E = E0)
def xMfcl17_35 (i : Nat) (x0 : Nat → Int) (E0 : zyEm) (v : Nat → Int) (E : zyEm) : Nat := (0)
theorem xCl17_35 {l : Launch} {en : zEn} {me : zMe} (hen : zG zxMeta 31 = some en) (hme : zG zMeth 31 = some me) : xFc l zymc en me 3 [18] 2 fpfcl17_35 false (xΦcl17_ (3, 5)) xΨcl17 := by
  have een : zG zxMeta 31 = some (zxi31, 3, 4, 3, 31, 0, 0, 0, 0) := rfl
  obtain ⟨me1, hme1, hOK⟩ := zall hen
  rw [hme] at hme1
  cases hme1
  rw [een] at hen
  cases hen
  have hr := zyfcl17_35_run
  have hck := fun i hi => zyAll_iff zyfcl17_35_ck i hi
  simp only [Bool.and_eq_true] at hck
  intro B
  refine xcut (mi := zymc) (B := B) hOK rfl rfl (ι := Fin 1) (fun i => zpfcl17_35 i.val) (fun _ _ => []) (fun i => zFfcl17_35 i.val) (fun i => zSfcl17_35 i.val) (fun i => zXfcl17_35 i.val) (fun i => zRfcl17_35 i.val) (fun i y2 ct en2 me2 h => by cases h) 200000 (fun i => zyAll_iff hr i.val i.isLt) (fun i => (hck i.val i.isLt).1) (fun i => (hck i.val i.isLt).2.1) (fun i => (hck i.val i.isLt).2.2) ⟨0, by decide⟩ ⟨rfl, rfl, rfl, rfl⟩ ⟨by decide, by decide⟩ (fun i x0 E0 v E => xIfcl17_35 i.val x0 E0 v E) (fun i x0 E0 v E => xMfcl17_35 i.val x0 E0 v E) ?_ ?_ ?_
  · intro x0 E hx0 hT hΦ
    have hΦ : (xΦcl17_ (3, 5)) x0 E := hΦ
    refine ⟨fun k p hp => ?_, ?_⟩
    · have hk : k < 4 := (List.getElem?_eq_some_iff.mp hp).1
      have hk : k = 0 ∨ k = 1 ∨ k = 2 ∨ k = 3 := by omega
      rcases hk with rfl | rfl | rfl | rfl
      · have hp : some (0, 4294967295) = some p := hp
        cases hp
        show ((0 : Nat) : Int) ≤ 0 + 2147483648 ∧ 0 + 2147483648 ≤ ((4294967295 : Nat) : Int)
        omega
      · have hp : some (2147483651, 2147483651) = some p := hp
        cases hp
        show ((2147483651 : Nat) : Int) ≤ x0 0 + 2147483648 ∧ x0 0 + 2147483648 ≤ ((2147483651 : Nat) : Int)
        have hx := hx0 0
        have hP1 : x0 0 = ((3 : Nat) : Int) := hΦ.1
        have hP2 : x0 1 = ((5 : Nat) : Int) := hΦ.2
        omega
      · have hp : some (2147483653, 2147483653) = some p := hp
        cases hp
        show ((2147483653 : Nat) : Int) ≤ x0 1 + 2147483648 ∧ x0 1 + 2147483648 ≤ ((2147483653 : Nat) : Int)
        have hx := hx0 1
        have hP1 : x0 0 = ((3 : Nat) : Int) := hΦ.1
        have hP2 : x0 1 = ((5 : Nat) : Int) := hΦ.2
        omega
      · have hp : some (0, 4294967295) = some p := hp
        cases hp
        show ((0 : Nat) : Int) ≤ x0 2 + 2147483648 ∧ x0 2 + 2147483648 ≤ ((4294967295 : Nat) : Int)
        have hx := hx0 2
        omega
    · show E = E
      rfl
  · intro x0 s Wg hRu hrx hT0 hΦ i v H hT hrv hInv hKc hFr0 hIH x hx ρ2 v2 N2 H2 locs lsB stA hAt hB hv hr2 hXs hag hfr hFr hT2
    rcases i with ⟨i, hi⟩
    have hi2 : i = 0 := by omega
    rcases hi2 with rfl
    · cases hx
  · intro x0 E0 E E2 hrx hT0 hΦ i v hT hrv hInv hKc hFr0 x hx v2 hr2 hXs hag hfr hFr hT2
    rcases i with ⟨i, hi⟩
    have hi2 : i = 0 := by omega
    rcases hi2 with rfl
    · have hx : x ∈ [zxfcl17_35_ar0] := hx
      have hag : ∀ k, k < 4 → v2 k = v k := hag
      have hfr : xFr [(18, 5, 5), (18, 8, 8), (19, 0, 3), (20, 0, 59), (21, 0, 59), (22, 0, 59), (23, 0, 59), (24, 0, 59), (25, 0, 30), (26, 0, 30), (27, 0, 30), (28, 0, 30), (29, 0, 30), (30, 0, 30), (33, 1, 1)] _ _ := hfr
      have ex := List.mem_singleton.mp hx
      subst ex
      obtain ⟨hF, hBd, hM⟩ := hXs
      have g1 : v2 1 = v 1 := hag 1 (by decide)
      have g2 : v2 2 = v 2 := hag 2 (by decide)
      have b0 : ((2147483651 : Nat) : Int) ≤ (v2 1) + 2147483648 ∧ (v2 1) + 2147483648 ≤ ((2147483651 : Nat) : Int) := xXb hBd 0 rfl
      have b1 : ((2147483653 : Nat) : Int) ≤ (v2 2) + 2147483648 ∧ (v2 2) + 2147483648 ≤ ((2147483653 : Nat) : Int) := xXb hBd 1 rfl
      have m0 : xE E2 19 0 = (v2 1) := xXm hM 0 rfl
      have m1 : xE E2 19 1 = (v2 2) := xXm hM 1 rfl
      have hI : E = E0 := hInv
      show xΨcl17 x0 E0 E2 0
      have hP := hΦ
      have hP1 : x0 0 = ((3 : Nat) : Int) := hP.1
      have hP2 : x0 1 = ((5 : Nat) : Int) := hP.2
      unfold xΨcl17
      rw [hP1, hP2]
      obtain ⟨A, G⟩ := xGeo17_of hM (by decide) (by decide) (by decide) (by decide) (by decide) (by decide) zyfcl17_35_geo (by omega) (by omega) (by decide +kernel) (by decide +kernel)
      subst hI
      exact ⟨A, G, xJk17_of (by decide) (by decide) (by decide) (by decide) (by decide) G (fun i h1 h2 => by
        have h1 : ((60 : Nat) : Int) ≤ i := h1
        exact ⟨xFr_E hfr (xin_no (lo := 60) (by decide) (by omega)), xFr_E hfr (xin_no (lo := 60) (by decide) (by omega))⟩)⟩
noncomputable def zxfcl17_41_ar0 : zyXp := (0, [], [], [], [(34359738369, 2147483652, 2147483652), (68719476737, 2147483649, 2147483649)], [(311296, 34359738369), (311297, 68719476737), (311298, 128), (311299, 24), (294917, 0), (294920, 0), (540673, 0), (327680, 8), (327681, 16), (327682, 24), (327683, 0), (327684, 56), (327685, 32), (327686, 40), (327687, 48), (327688, 72), (327689, 80), (327690, 88), (327691, 64), (327692, 120), (327693, 96), (327694, 104), (327695, 112), (344064, 34359738360), (344065, 34359738360), (344066, 32), (344067, 34359738360), (344068, 16), (344069, 34359738360), (344070, 64), (344071, 34359738360), (344072, 48), (344073, 34359738360), (344074, 96), (344075, 34359738360), (344076, 80), (344077, 34359738360), (344078, 34359738360), (344079, 34359738360), (360448, 34359738360), (360449, 34359738360), (360450, 0), (360451, 34359738360), (360452, 0), (360453, 34359738360), (360454, 8), (360455, 34359738360), (360456, 8), (360457, 34359738360), (360458, 16), (360459, 34359738360), (360460, 16), (360461, 34359738360), (360462, 34359738360), (360463, 34359738360), (376832, 0), (376833, 8), (376834, 0), (376835, 34359738360), (376836, 0), (376837, 8), (376838, 0), (376839, 34359738360), (376840, 0), (376841, 8), (376842, 0), (376843, 34359738360), (376844, 0), (376845, 8), (376846, 0), (376847, 34359738360), (393216, 34359738360), (393217, 0), (393218, 8), (393219, 0), (393220, 8), (393221, 16), (393222, 24), (393223, 16), (393224, 24), (393225, 32), (393226, 40), (393227, 32), (393228, 40), (393229, 48), (393230, 56), (393231, 48), (409600, 16), (409601, 48), (409602, 80), (425984, 32), (425985, 64), (425986, 96), (442368, 0), (442369, 0), (442370, 0), (442371, 0), (442372, 0), (442373, 0), (442374, 0), (442375, 0), (442376, 0), (442377, 0), (442378, 0), (442379, 0), (442380, 0), (442381, 0), (442382, 0), (442383, 0), (442384, 0), (442385, 0), (442386, 0), (442387, 0), (442388, 0), (442389, 0), (442390, 0), (442391, 0), (442392, 0), (442393, 0), (442394, 0), (442395, 0), (442396, 0), (442397, 0), (442398, 0), (458752, 8), (458753, 8), (458754, 8), (458755, 8), (458756, 8), (458757, 8), (458758, 8), (458759, 8), (458760, 8), (458761, 8), (458762, 8), (458763, 8), (458764, 8), (458765, 8), (458766, 8), (458767, 8), (458768, 8), (458769, 8), (458770, 8), (458771, 8), (458772, 8), (458773, 8), (458774, 8), (458775, 8), (458776, 8), (458777, 8), (458778, 8), (458779, 8), (458780, 8), (458781, 8), (458782, 8), (475136, 0), (475137, 0), (475138, 0), (475139, 0), (475140, 0), (475141, 0), (475142, 0), (475143, 0), (475144, 0), (475145, 0), (475146, 0), (475147, 0), (475148, 0), (475149, 0), (475150, 0), (475151, 0), (475152, 0), (475153, 0), (475154, 0), (475155, 0), (475156, 0), (475157, 0), (475158, 0), (475159, 0), (475160, 0), (475161, 0), (475162, 0), (475163, 0), (475164, 0), (475165, 0), (475166, 0), (491520, 0), (491521, 0), (491522, 0), (491523, 0), (491524, 0), (491525, 0), (491526, 0), (491527, 0), (491528, 0), (491529, 0), (491530, 0), (491531, 0), (491532, 0), (491533, 0), (491534, 0), (491535, 0), (491536, 0), (491537, 0), (491538, 0), (491539, 0), (491540, 0), (491541, 0), (491542, 0), (491543, 0), (491544, 0), (491545, 0), (491546, 0), (491547, 0), (491548, 0), (491549, 0), (491550, 0)])
noncomputable def zpfcl17_41_a : zyPh := (0, [147, 34359738369, 68719476737, 13], [(0, 4294967295), (2147483652, 2147483652), (2147483649, 2147483649), (0, 4294967295)], [], [])
noncomputable def zpfcl17_41 (i : Nat) : zyPh := zpfcl17_41_a
noncomputable def zXfcl17_41 (i : Nat) : List zyXp := []
noncomputable def zRfcl17_41 (i : Nat) : List zyXp := [zxfcl17_41_ar0]
noncomputable def zFfcl17_41 (i : Nat) : zyR := [(18, 5, 5), (18, 8, 8), (19, 0, 3), (20, 0, 15), (21, 0, 15), (22, 0, 15), (23, 0, 15), (24, 0, 15), (25, 0, 30), (26, 0, 30), (27, 0, 30), (28, 0, 30), (29, 0, 30), (30, 0, 30), (33, 1, 1)]
noncomputable def zSfcl17_41 (i : Nat) : Nat := 0
theorem zyfcl17_41_geo : xgeoB17 (zxfcl17_41_ar0).2.2.2.2.2 4 1 = true := by decide +kernel
noncomputable def fpfcl17_41 : zyR := [(18, 5, 5), (18, 8, 8), (19, 0, 3), (20, 0, 79), (21, 0, 79), (22, 0, 79), (23, 0, 79), (24, 0, 79), (25, 0, 30), (26, 0, 30), (27, 0, 30), (28, 0, 30), (29, 0, 30), (30, 0, 30), (33, 1, 1)]
theorem zyfcl17_41_run : zyrS zymc zxi31 (31, 0, 0, 0, 0) 3 zpfcl17_41 (fun _ _ => []) zFfcl17_41 zSfcl17_41 zXfcl17_41 zRfcl17_41 1 = true := by decide +kernel
theorem zyfcl17_41_ck : zyAll (fun i => xsubR (zFfcl17_41 i) fpfcl17_41 && ((zXfcl17_41 i).all xckX && (zRfcl17_41 i).all (fun x => xckX x && xrtB false x))) 1 = true := by decide +kernel
def xIfcl17_41 (i : Nat) (x0 : Nat → Int) (E0 : zyEm) (v : Nat → Int) (E : zyEm) : Prop := (E = E0)
def xMfcl17_41 (i : Nat) (x0 : Nat → Int) (E0 : zyEm) (v : Nat → Int) (E : zyEm) : Nat := (0)
theorem xCl17_41 {l : Launch} {en : zEn} {me : zMe} (hen : zG zxMeta 31 = some en) (hme : zG zMeth 31 = some me) : xFc l zymc en me 3 [18] 2 fpfcl17_41 false (xΦcl17_ (4, 1)) xΨcl17 := by
  have een : zG zxMeta 31 = some (zxi31, 3, 4, 3, 31, 0, 0, 0, 0) := rfl
  obtain ⟨me1, hme1, hOK⟩ := zall hen
  rw [hme] at hme1
  cases hme1
  rw [een] at hen
  cases hen
  have hr := zyfcl17_41_run
  have hck := fun i hi => zyAll_iff zyfcl17_41_ck i hi
  simp only [Bool.and_eq_true] at hck
  intro B
  refine xcut (mi := zymc) (B := B) hOK rfl rfl (ι := Fin 1) (fun i => zpfcl17_41 i.val) (fun _ _ => []) (fun i => zFfcl17_41 i.val) (fun i => zSfcl17_41 i.val) (fun i => zXfcl17_41 i.val) (fun i => zRfcl17_41 i.val) (fun i y2 ct en2 me2 h => by cases h) 200000 (fun i => zyAll_iff hr i.val i.isLt) (fun i => (hck i.val i.isLt).1) (fun i => (hck i.val i.isLt).2.1) (fun i => (hck i.val i.isLt).2.2) ⟨0, by decide⟩ ⟨rfl, rfl, rfl, rfl⟩ ⟨by decide, by decide⟩ (fun i x0 E0 v E => xIfcl17_41 i.val x0 E0 v E) (fun i x0 E0 v E => xMfcl17_41 i.val x0 E0 v E) ?_ ?_ ?_
  · intro x0 E hx0 hT hΦ
    have hΦ : (xΦcl17_ (4, 1)) x0 E := hΦ
    refine ⟨fun k p hp => ?_, ?_⟩
    · have hk : k < 4 := (List.getElem?_eq_some_iff.mp hp).1
      have hk : k = 0 ∨ k = 1 ∨ k = 2 ∨ k = 3 := by omega
      rcases hk with rfl | rfl | rfl | rfl
      · have hp : some (0, 4294967295) = some p := hp
        cases hp
        show ((0 : Nat) : Int) ≤ 0 + 2147483648 ∧ 0 + 2147483648 ≤ ((4294967295 : Nat) : Int)
        omega
      · have hp : some (2147483652, 2147483652) = some p := hp
        cases hp
        show ((2147483652 : Nat) : Int) ≤ x0 0 + 2147483648 ∧ x0 0 + 2147483648 ≤ ((2147483652 : Nat) : Int)
        have hx := hx0 0
        have hP1 : x0 0 = ((4 : Nat) : Int) := hΦ.1
        have hP2 : x0 1 = ((1 : Nat) : Int) := hΦ.2
        omega
      · have hp : some (2147483649, 2147483649) = some p := hp
        cases hp
        show ((2147483649 : Nat) : Int) ≤ x0 1 + 2147483648 ∧ x0 1 + 2147483648 ≤ ((2147483649 : Nat) : Int)
        have hx := hx0 1
        have hP1 : x0 0 = ((4 : Nat) : Int) := hΦ.1
        have hP2 : x0 1 = ((1 : Nat) : Int) := hΦ.2
        omega
      · have hp : some (0, 4294967295) = some p := hp
        cases hp
        show ((0 : Nat) : Int) ≤ x0 2 + 2147483648 ∧ x0 2 + 2147483648 ≤ ((4294967295 : Nat) : Int)
        have hx := hx0 2
        omega
    · show E = E
      rfl
  · intro x0 s Wg hRu hrx hT0 hΦ i v H hT hrv hInv hKc hFr0 hIH x hx ρ2 v2 N2 H2 locs lsB stA hAt hB hv hr2 hXs hag hfr hFr hT2
    rcases i with ⟨i, hi⟩
    have hi2 : i = 0 := by omega
    rcases hi2 with rfl
    · cases hx
  · intro x0 E0 E E2 hrx hT0 hΦ i v hT hrv hInv hKc hFr0 x hx v2 hr2 hXs hag hfr hFr hT2
    rcases i with ⟨i, hi⟩
    have hi2 : i = 0 := by omega
    rcases hi2 with rfl
    · have hx : x ∈ [zxfcl17_41_ar0] := hx
      have hag : ∀ k, k < 4 → v2 k = v k := hag
      have hfr : xFr [(18, 5, 5), (18, 8, 8), (19, 0, 3), (20, 0, 15), (21, 0, 15), (22, 0, 15), (23, 0, 15), (24, 0, 15), (25, 0, 30), (26, 0, 30), (27, 0, 30), (28, 0, 30), (29, 0, 30), (30, 0, 30), (33, 1, 1)] _ _ := hfr
      have ex := List.mem_singleton.mp hx
      subst ex
      obtain ⟨hF, hBd, hM⟩ := hXs
      have g1 : v2 1 = v 1 := hag 1 (by decide)
      have g2 : v2 2 = v 2 := hag 2 (by decide)
      have b0 : ((2147483652 : Nat) : Int) ≤ (v2 1) + 2147483648 ∧ (v2 1) + 2147483648 ≤ ((2147483652 : Nat) : Int) := xXb hBd 0 rfl
      have b1 : ((2147483649 : Nat) : Int) ≤ (v2 2) + 2147483648 ∧ (v2 2) + 2147483648 ≤ ((2147483649 : Nat) : Int) := xXb hBd 1 rfl
      have m0 : xE E2 19 0 = (v2 1) := xXm hM 0 rfl
      have m1 : xE E2 19 1 = (v2 2) := xXm hM 1 rfl
      have hI : E = E0 := hInv
      show xΨcl17 x0 E0 E2 0
      have hP := hΦ
      have hP1 : x0 0 = ((4 : Nat) : Int) := hP.1
      have hP2 : x0 1 = ((1 : Nat) : Int) := hP.2
      unfold xΨcl17
      rw [hP1, hP2]
      obtain ⟨A, G⟩ := xGeo17_of hM (by decide) (by decide) (by decide) (by decide) (by decide) (by decide) zyfcl17_41_geo (by omega) (by omega) (by decide +kernel) (by decide +kernel)
      subst hI
      exact ⟨A, G, xJk17_of (by decide) (by decide) (by decide) (by decide) (by decide) G (fun i h1 h2 => by
        have h1 : ((16 : Nat) : Int) ≤ i := h1
        exact ⟨xFr_E hfr (xin_no (lo := 16) (by decide) (by omega)), xFr_E hfr (xin_no (lo := 16) (by decide) (by omega))⟩)⟩
noncomputable def zxfcl17_42_ar0 : zyXp := (0, [], [], [], [(34359738369, 2147483652, 2147483652), (68719476737, 2147483650, 2147483650)], [(311296, 34359738369), (311297, 68719476737), (311298, 256), (311299, 80), (294917, 0), (294920, 0), (540673, 0), (327680, 8), (327681, 16), (327682, 24), (327683, 0), (327684, 56), (327685, 32), (327686, 40), (327687, 48), (327688, 88), (327689, 64), (327690, 72), (327691, 80), (327692, 104), (327693, 112), (327694, 120), (327695, 96), (327696, 136), (327697, 144), (327698, 152), (327699, 128), (327700, 184), (327701, 160), (327702, 168), (327703, 176), (327704, 216), (327705, 192), (327706, 200), (327707, 208), (327708, 232), (327709, 240), (327710, 248), (327711, 224), (344064, 34359738360), (344065, 56), (344066, 64), (344067, 34359738360), (344068, 34359738360), (344069, 34359738360), (344070, 96), (344071, 8), (344072, 16), (344073, 120), (344074, 128), (344075, 34359738360), (344076, 48), (344077, 34359738360), (344078, 160), (344079, 72), (344080, 80), (344081, 184), (344082, 192), (344083, 34359738360), (344084, 112), (344085, 34359738360), (344086, 224), (344087, 136), (344088, 144), (344089, 248), (344090, 34359738360), (344091, 34359738360), (344092, 176), (344093, 34359738360), (344094, 34359738360), (344095, 200), (360448, 34359738360), (360449, 0), (360450, 32), (360451, 34359738360), (360452, 34359738360), (360453, 34359738360), (360454, 40), (360455, 0), (360456, 32), (360457, 8), (360458, 48), (360459, 34359738360), (360460, 40), (360461, 34359738360), (360462, 56), (360463, 8), (360464, 48), (360465, 16), (360466, 64), (360467, 34359738360), (360468, 56), (360469, 34359738360), (360470, 72), (360471, 16), (360472, 64), (360473, 24), (360474, 34359738360), (360475, 34359738360), (360476, 72), (360477, 34359738360), (360478, 34359738360), (360479, 24), (376832, 0), (376833, 8), (376834, 0), (376835, 34359738360), (376836, 16), (376837, 24), (376838, 16), (376839, 8), (376840, 0), (376841, 8), (376842, 0), (376843, 34359738360), (376844, 16), (376845, 24), (376846, 16), (376847, 8), (376848, 0), (376849, 8), (376850, 0), (376851, 34359738360), (376852, 16), (376853, 24), (376854, 16), (376855, 8), (376856, 0), (376857, 8), (376858, 0), (376859, 34359738360), (376860, 16), (376861, 24), (376862, 16), (376863, 8), (393216, 34359738360), (393217, 0), (393218, 8), (393219, 0), (393220, 34359738360), (393221, 0), (393222, 8), (393223, 0), (393224, 8), (393225, 16), (393226, 24), (393227, 16), (393228, 8), (393229, 16), (393230, 24), (393231, 16), (393232, 24), (393233, 32), (393234, 40), (393235, 32), (393236, 24), (393237, 32), (393238, 40), (393239, 32), (393240, 40), (393241, 48), (393242, 56), (393243, 48), (393244, 40), (393245, 48), (393246, 56), (393247, 48), (409600, 8), (409601, 72), (409602, 136), (409603, 200), (409604, 16), (409605, 48), (409606, 80), (409607, 112), (409608, 144), (409609, 176), (425984, 56), (425985, 120), (425986, 184), (425987, 248), (425988, 64), (425989, 96), (425990, 128), (425991, 160), (425992, 192), (425993, 224), (442368, 0), (442369, 0), (442370, 0), (442371, 0), (442372, 0), (442373, 0), (442374, 0), (442375, 0), (442376, 0), (442377, 0), (442378, 0), (442379, 0), (442380, 0), (442381, 0), (442382, 0), (442383, 0), (442384, 0), (442385, 0), (442386, 0), (442387, 0), (442388, 0), (442389, 0), (442390, 0), (442391, 0), (442392, 0), (442393, 0), (442394, 0), (442395, 0), (442396, 0), (442397, 0), (442398, 0), (458752, 8), (458753, 8), (458754, 8), (458755, 8), (458756, 8), (458757, 8), (458758, 8), (458759, 8), (458760, 8), (458761, 8), (458762, 8), (458763, 8), (458764, 8), (458765, 8), (458766, 8), (458767, 8), (458768, 8), (458769, 8), (458770, 8), (458771, 8), (458772, 8), (458773, 8), (458774, 8), (458775, 8), (458776, 8), (458777, 8), (458778, 8), (458779, 8), (458780, 8), (458781, 8), (458782, 8), (475136, 0), (475137, 0), (475138, 0), (475139, 0), (475140, 0), (475141, 0), (475142, 0), (475143, 0), (475144, 0), (475145, 0), (475146, 0), (475147, 0), (475148, 0), (475149, 0), (475150, 0), (475151, 0), (475152, 0), (475153, 0), (475154, 0), (475155, 0), (475156, 0), (475157, 0), (475158, 0), (475159, 0), (475160, 0), (475161, 0), (475162, 0), (475163, 0), (475164, 0), (475165, 0), (475166, 0), (491520, 0), (491521, 0), (491522, 0), (491523, 0), (491524, 0), (491525, 0), (491526, 0), (491527, 0), (491528, 0), (491529, 0), (491530, 0), (491531, 0), (491532, 0), (491533, 0), (491534, 0), (491535, 0), (491536, 0), (491537, 0), (491538, 0), (491539, 0), (491540, 0), (491541, 0), (491542, 0), (491543, 0), (491544, 0), (491545, 0), (491546, 0), (491547, 0), (491548, 0), (491549, 0), (491550, 0)])
noncomputable def zpfcl17_42_a : zyPh := (0, [147, 34359738369, 68719476737, 13], [(0, 4294967295), (2147483652, 2147483652), (2147483650, 2147483650), (0, 4294967295)], [], [])
noncomputable def zpfcl17_42 (i : Nat) : zyPh := zpfcl17_42_a
noncomputable def zXfcl17_42 (i : Nat) : List zyXp := []
noncomputable def zRfcl17_42 (i : Nat) : List zyXp := [zxfcl17_42_ar0]
noncomputable def zFfcl17_42 (i : Nat) : zyR := [(18, 5, 5), (18, 8, 8), (19, 0, 3), (20, 0, 31), (21, 0, 31), (22, 0, 31), (23, 0, 31), (24, 0, 31), (25, 0, 30), (26, 0, 30), (27, 0, 30), (28, 0, 30), (29, 0, 30), (30, 0, 30), (33, 1, 1)]
noncomputable def zSfcl17_42 (i : Nat) : Nat := 0
theorem zyfcl17_42_geo : xgeoB17 (zxfcl17_42_ar0).2.2.2.2.2 4 2 = true := by decide +kernel
noncomputable def fpfcl17_42 : zyR := [(18, 5, 5), (18, 8, 8), (19, 0, 3), (20, 0, 79), (21, 0, 79), (22, 0, 79), (23, 0, 79), (24, 0, 79), (25, 0, 30), (26, 0, 30), (27, 0, 30), (28, 0, 30), (29, 0, 30), (30, 0, 30), (33, 1, 1)]
theorem zyfcl17_42_run : zyrS zymc zxi31 (31, 0, 0, 0, 0) 3 zpfcl17_42 (fun _ _ => []) zFfcl17_42 zSfcl17_42 zXfcl17_42 zRfcl17_42 1 = true := by decide +kernel
theorem zyfcl17_42_ck : zyAll (fun i => xsubR (zFfcl17_42 i) fpfcl17_42 && ((zXfcl17_42 i).all xckX && (zRfcl17_42 i).all (fun x => xckX x && xrtB false x))) 1 = true := by decide +kernel
def xIfcl17_42 (i : Nat) (x0 : Nat → Int) (E0 : zyEm) (v : Nat → Int) (E : zyEm) : Prop := (E = E0)
def xMfcl17_42 (i : Nat) (x0 : Nat → Int) (E0 : zyEm) (v : Nat → Int) (E : zyEm) : Nat := (0)
theorem xCl17_42 {l : Launch} {en : zEn} {me : zMe} (hen : zG zxMeta 31 = some en) (hme : zG zMeth 31 = some me) : xFc l zymc en me 3 [18] 2 fpfcl17_42 false (xΦcl17_ (4, 2)) xΨcl17 := by
  have een : zG zxMeta 31 = some (zxi31, 3, 4, 3, 31, 0, 0, 0, 0) := rfl
  obtain ⟨me1, hme1, hOK⟩ := zall hen
  rw [hme] at hme1
  cases hme1
  rw [een] at hen
  cases hen
  have hr := zyfcl17_42_run
  have hck := fun i hi => zyAll_iff zyfcl17_42_ck i hi
  simp only [Bool.and_eq_true] at hck
  intro B
  refine xcut (mi := zymc) (B := B) hOK rfl rfl (ι := Fin 1) (fun i => zpfcl17_42 i.val) (fun _ _ => []) (fun i => zFfcl17_42 i.val) (fun i => zSfcl17_42 i.val) (fun i => zXfcl17_42 i.val) (fun i => zRfcl17_42 i.val) (fun i y2 ct en2 me2 h => by cases h) 200000 (fun i => zyAll_iff hr i.val i.isLt) (fun i => (hck i.val i.isLt).1) (fun i => (hck i.val i.isLt).2.1) (fun i => (hck i.val i.isLt).2.2) ⟨0, by decide⟩ ⟨rfl, rfl, rfl, rfl⟩ ⟨by decide, by decide⟩ (fun i x0 E0 v E => xIfcl17_42 i.val x0 E0 v E) (fun i x0 E0 v E => xMfcl17_42 i.val x0 E0 v E) ?_ ?_ ?_
  · intro x0 E hx0 hT hΦ
    have hΦ : (xΦcl17_ (4, 2)) x0 E := hΦ
    refine ⟨fun k p hp => ?_, ?_⟩
    · have hk : k < 4 := (List.getElem?_eq_some_iff.mp hp).1
      have hk : k = 0 ∨ k = 1 ∨ k = 2 ∨ k = 3 := by omega
      rcases hk with rfl | rfl | rfl | rfl
      · have hp : some (0, 4294967295) = some p := hp
        cases hp
        show ((0 : Nat) : Int) ≤ 0 + 2147483648 ∧ 0 + 2147483648 ≤ ((4294967295 : Nat) : Int)
        omega
      · have hp : some (2147483652, 2147483652) = some p := hp
        cases hp
        show ((2147483652 : Nat) : Int) ≤ x0 0 + 2147483648 ∧ x0 0 + 2147483648 ≤ ((2147483652 : Nat) : Int)
        have hx := hx0 0
        have hP1 : x0 0 = ((4 : Nat) : Int) := hΦ.1
        have hP2 : x0 1 = ((2 : Nat) : Int) := hΦ.2
        omega
      · have hp : some (2147483650, 2147483650) = some p := hp
        cases hp
        show ((2147483650 : Nat) : Int) ≤ x0 1 + 2147483648 ∧ x0 1 + 2147483648 ≤ ((2147483650 : Nat) : Int)
        have hx := hx0 1
        have hP1 : x0 0 = ((4 : Nat) : Int) := hΦ.1
        have hP2 : x0 1 = ((2 : Nat) : Int) := hΦ.2
        omega
      · have hp : some (0, 4294967295) = some p := hp
        cases hp
        show ((0 : Nat) : Int) ≤ x0 2 + 2147483648 ∧ x0 2 + 2147483648 ≤ ((4294967295 : Nat) : Int)
        have hx := hx0 2
        omega
    · show E = E
      rfl
  · intro x0 s Wg hRu hrx hT0 hΦ i v H hT hrv hInv hKc hFr0 hIH x hx ρ2 v2 N2 H2 locs lsB stA hAt hB hv hr2 hXs hag hfr hFr hT2
    rcases i with ⟨i, hi⟩
    have hi2 : i = 0 := by omega
    rcases hi2 with rfl
    · cases hx
  · intro x0 E0 E E2 hrx hT0 hΦ i v hT hrv hInv hKc hFr0 x hx v2 hr2 hXs hag hfr hFr hT2
    rcases i with ⟨i, hi⟩
    have hi2 : i = 0 := by omega
    rcases hi2 with rfl
    · have hx : x ∈ [zxfcl17_42_ar0] := hx
      have hag : ∀ k, k < 4 → v2 k = v k := hag
      have hfr : xFr [(18, 5, 5), (18, 8, 8), (19, 0, 3), (20, 0, 31), (21, 0, 31), (22, 0, 31), (23, 0, 31), (24, 0, 31), (25, 0, 30), (26, 0, 30), (27, 0, 30), (28, 0, 30), (29, 0, 30), (30, 0, 30), (33, 1, 1)] _ _ := hfr
      have ex := List.mem_singleton.mp hx
      subst ex
      obtain ⟨hF, hBd, hM⟩ := hXs
      have g1 : v2 1 = v 1 := hag 1 (by decide)
      have g2 : v2 2 = v 2 := hag 2 (by decide)
      have b0 : ((2147483652 : Nat) : Int) ≤ (v2 1) + 2147483648 ∧ (v2 1) + 2147483648 ≤ ((2147483652 : Nat) : Int) := xXb hBd 0 rfl
      have b1 : ((2147483650 : Nat) : Int) ≤ (v2 2) + 2147483648 ∧ (v2 2) + 2147483648 ≤ ((2147483650 : Nat) : Int) := xXb hBd 1 rfl
      have m0 : xE E2 19 0 = (v2 1) := xXm hM 0 rfl
      have m1 : xE E2 19 1 = (v2 2) := xXm hM 1 rfl
      have hI : E = E0 := hInv
      show xΨcl17 x0 E0 E2 0
      have hP := hΦ
      have hP1 : x0 0 = ((4 : Nat) : Int) := hP.1
      have hP2 : x0 1 = ((2 : Nat) : Int) := hP.2
      unfold xΨcl17
      rw [hP1, hP2]
      obtain ⟨A, G⟩ := xGeo17_of hM (by decide) (by decide) (by decide) (by decide) (by decide) (by decide) zyfcl17_42_geo (by omega) (by omega) (by decide +kernel) (by decide +kernel)
      subst hI
      exact ⟨A, G, xJk17_of (by decide) (by decide) (by decide) (by decide) (by decide) G (fun i h1 h2 => by
        have h1 : ((32 : Nat) : Int) ≤ i := h1
        exact ⟨xFr_E hfr (xin_no (lo := 32) (by decide) (by omega)), xFr_E hfr (xin_no (lo := 32) (by decide) (by omega))⟩)⟩
noncomputable def zxfcl17_43_ar0 : zyXp := (0, [], [], [], [(34359738369, 2147483652, 2147483652), (68719476737, 2147483651, 2147483651)], [(311296, 34359738369), (311297, 68719476737), (311298, 384), (311299, 136), (294917, 0), (294920, 0), (540673, 0), (327680, 8), (327681, 16), (327682, 24), (327683, 0), (327684, 56), (327685, 32), (327686, 40), (327687, 48), (327688, 72), (327689, 80), (327690, 88), (327691, 64), (327692, 120), (327693, 96), (327694, 104), (327695, 112), (327696, 136), (327697, 144), (327698, 152), (327699, 128), (327700, 184), (327701, 160), (327702, 168), (327703, 176), (327704, 200), (327705, 208), (327706, 216), (327707, 192), (327708, 248), (327709, 224), (327710, 232), (327711, 240), (327712, 264), (327713, 272), (327714, 280), (327715, 256), (327716, 312), (327717, 288), (327718, 296), (327719, 304), (327720, 328), (327721, 336), (327722, 344), (327723, 320), (327724, 376), (327725, 352), (327726, 360), (327727, 368), (344064, 34359738360), (344065, 56), (344066, 96), (344067, 34359738360), (344068, 34359738360), (344069, 88), (344070, 128), (344071, 8), (344072, 34359738360), (344073, 34359738360), (344074, 160), (344075, 40), (344076, 16), (344077, 152), (344078, 192), (344079, 34359738360), (344080, 48), (344081, 184), (344082, 224), (344083, 104), (344084, 80), (344085, 34359738360), (344086, 256), (344087, 136), (344088, 112), (344089, 248), (344090, 288), (344091, 34359738360), (344092, 144), (344093, 280), (344094, 320), (344095, 200), (344096, 176), (344097, 34359738360), (344098, 352), (344099, 232), (344100, 208), (344101, 344), (344102, 34359738360), (344103, 34359738360), (344104, 240), (344105, 376), (344106, 34359738360), (344107, 296), (344108, 272), (344109, 34359738360), (344110, 34359738360), (344111, 328), (360448, 34359738360), (360449, 0), (360450, 64), (360451, 34359738360), (360452, 34359738360), (360453, 8), (360454, 72), (360455, 0), (360456, 34359738360), (360457, 34359738360), (360458, 80), (360459, 8), (360460, 64), (360461, 16), (360462, 88), (360463, 34359738360), (360464, 72), (360465, 24), (360466, 96), (360467, 16), (360468, 80), (360469, 34359738360), (360470, 104), (360471, 24), (360472, 88), (360473, 32), (360474, 112), (360475, 34359738360), (360476, 96), (360477, 40), (360478, 120), (360479, 32), (360480, 104), (360481, 34359738360), (360482, 128), (360483, 40), (360484, 112), (360485, 48), (360486, 34359738360), (360487, 34359738360), (360488, 120), (360489, 56), (360490, 34359738360), (360491, 48), (360492, 128), (360493, 34359738360), (360494, 34359738360), (360495, 56), (376832, 0), (376833, 8), (376834, 0), (376835, 34359738360), (376836, 16), (376837, 24), (376838, 16), (376839, 8), (376840, 32), (376841, 40), (376842, 32), (376843, 24), (376844, 0), (376845, 8), (376846, 0), (376847, 34359738360), (376848, 16), (376849, 24), (376850, 16), (376851, 8), (376852, 32), (376853, 40), (376854, 32), (376855, 24), (376856, 0), (376857, 8), (376858, 0), (376859, 34359738360), (376860, 16), (376861, 24), (376862, 16), (376863, 8), (376864, 32), (376865, 40), (376866, 32), (376867, 24), (376868, 0), (376869, 8), (376870, 0), (376871, 34359738360), (376872, 16), (376873, 24), (376874, 16), (376875, 8), (376876, 32), (376877, 40), (376878, 32), (376879, 24), (393216, 34359738360), (393217, 0), (393218, 8), (393219, 0), (393220, 34359738360), (393221, 0), (393222, 8), (393223, 0), (393224, 34359738360), (393225, 0), (393226, 8), (393227, 0), (393228, 8), (393229, 16), (393230, 24), (393231, 16), (393232, 8), (393233, 16), (393234, 24), (393235, 16), (393236, 8), (393237, 16), (393238, 24), (393239, 16), (393240, 24), (393241, 32), (393242, 40), (393243, 32), (393244, 24), (393245, 32), (393246, 40), (393247, 32), (393248, 24), (393249, 32), (393250, 40), (393251, 32), (393252, 40), (393253, 48), (393254, 56), (393255, 48), (393256, 40), (393257, 48), (393258, 56), (393259, 48), (393260, 40), (393261, 48), (393262, 56), (393263, 48), (409600, 8), (409601, 40), (409602, 104), (409603, 136), (409604, 200), (409605, 232), (409606, 296), (409607, 328), (409608, 16), (409609, 48), (409610, 80), (409611, 112), (409612, 144), (409613, 176), (409614, 208), (409615, 240), (409616, 272), (425984, 56), (425985, 88), (425986, 152), (425987, 184), (425988, 248), (425989, 280), (425990, 344), (425991, 376), (425992, 96), (425993, 128), (425994, 160), (425995, 192), (425996, 224), (425997, 256), (425998, 288), (425999, 320), (426000, 352), (442368, 0), (442369, 0), (442370, 0), (442371, 0), (442372, 0), (442373, 0), (442374, 0), (442375, 0), (442376, 0), (442377, 0), (442378, 0), (442379, 0), (442380, 0), (442381, 0), (442382, 0), (442383, 0), (442384, 0), (442385, 0), (442386, 0), (442387, 0), (442388, 0), (442389, 0), (442390, 0), (442391, 0), (442392, 0), (442393, 0), (442394, 0), (442395, 0), (442396, 0), (442397, 0), (442398, 0), (458752, 8), (458753, 8), (458754, 8), (458755, 8), (458756, 8), (458757, 8), (458758, 8), (458759, 8), (458760, 8), (458761, 8), (458762, 8), (458763, 8), (458764, 8), (458765, 8), (458766, 8), (458767, 8), (458768, 8), (458769, 8), (458770, 8), (458771, 8), (458772, 8), (458773, 8), (458774, 8), (458775, 8), (458776, 8), (458777, 8), (458778, 8), (458779, 8), (458780, 8), (458781, 8), (458782, 8), (475136, 0), (475137, 0), (475138, 0), (475139, 0), (475140, 0), (475141, 0), (475142, 0), (475143, 0), (475144, 0), (475145, 0), (475146, 0), (475147, 0), (475148, 0), (475149, 0), (475150, 0), (475151, 0), (475152, 0), (475153, 0), (475154, 0), (475155, 0), (475156, 0), (475157, 0), (475158, 0), (475159, 0), (475160, 0), (475161, 0), (475162, 0), (475163, 0), (475164, 0), (475165, 0), (475166, 0), (491520, 0), (491521, 0), (491522, 0), (491523, 0), (491524, 0), (491525, 0), (491526, 0), (491527, 0), (491528, 0), (491529, 0), (491530, 0), (491531, 0), (491532, 0), (491533, 0), (491534, 0), (491535, 0), (491536, 0), (491537, 0), (491538, 0), (491539, 0), (491540, 0), (491541, 0), (491542, 0), (491543, 0), (491544, 0), (491545, 0), (491546, 0), (491547, 0), (491548, 0), (491549, 0), (491550, 0)])
noncomputable def zpfcl17_43_a : zyPh := (0, [147, 34359738369, 68719476737, 13], [(0, 4294967295), (2147483652, 2147483652), (2147483651, 2147483651), (0, 4294967295)], [], [])
noncomputable def zpfcl17_43 (i : Nat) : zyPh := zpfcl17_43_a
noncomputable def zXfcl17_43 (i : Nat) : List zyXp := []
noncomputable def zRfcl17_43 (i : Nat) : List zyXp := [zxfcl17_43_ar0]
noncomputable def zFfcl17_43 (i : Nat) : zyR := [(18, 5, 5), (18, 8, 8), (19, 0, 3), (20, 0, 47), (21, 0, 47), (22, 0, 47), (23, 0, 47), (24, 0, 47), (25, 0, 30), (26, 0, 30), (27, 0, 30), (28, 0, 30), (29, 0, 30), (30, 0, 30), (33, 1, 1)]
noncomputable def zSfcl17_43 (i : Nat) : Nat := 0
theorem zyfcl17_43_geo : xgeoB17 (zxfcl17_43_ar0).2.2.2.2.2 4 3 = true := by decide +kernel
noncomputable def fpfcl17_43 : zyR := [(18, 5, 5), (18, 8, 8), (19, 0, 3), (20, 0, 79), (21, 0, 79), (22, 0, 79), (23, 0, 79), (24, 0, 79), (25, 0, 30), (26, 0, 30), (27, 0, 30), (28, 0, 30), (29, 0, 30), (30, 0, 30), (33, 1, 1)]
theorem zyfcl17_43_run : zyrS zymc zxi31 (31, 0, 0, 0, 0) 3 zpfcl17_43 (fun _ _ => []) zFfcl17_43 zSfcl17_43 zXfcl17_43 zRfcl17_43 1 = true := by decide +kernel
theorem zyfcl17_43_ck : zyAll (fun i => xsubR (zFfcl17_43 i) fpfcl17_43 && ((zXfcl17_43 i).all xckX && (zRfcl17_43 i).all (fun x => xckX x && xrtB false x))) 1 = true := by decide +kernel
def xIfcl17_43 (i : Nat) (x0 : Nat → Int) (E0 : zyEm) (v : Nat → Int) (E : zyEm) : Prop := (E = E0)
def xMfcl17_43 (i : Nat) (x0 : Nat → Int) (E0 : zyEm) (v : Nat → Int) (E : zyEm) : Nat := (0)
theorem xCl17_43 {l : Launch} {en : zEn} {me : zMe} (hen : zG zxMeta 31 = some en) (hme : zG zMeth 31 = some me) : xFc l zymc en me 3 [18] 2 fpfcl17_43 false (xΦcl17_ (4, 3)) xΨcl17 := by
  have een : zG zxMeta 31 = some (zxi31, 3, 4, 3, 31, 0, 0, 0, 0) := rfl
  obtain ⟨me1, hme1, hOK⟩ := zall hen
  rw [hme] at hme1
  cases hme1
  rw [een] at hen
  cases hen
  have hr := zyfcl17_43_run
  have hck := fun i hi => zyAll_iff zyfcl17_43_ck i hi
  simp only [Bool.and_eq_true] at hck
  intro B
  refine xcut (mi := zymc) (B := B) hOK rfl rfl (ι := Fin 1) (fun i => zpfcl17_43 i.val) (fun _ _ => []) (fun i => zFfcl17_43 i.val) (fun i => zSfcl17_43 i.val) (fun i => zXfcl17_43 i.val) (fun i => zRfcl17_43 i.val) (fun i y2 ct en2 me2 h => by cases h) 200000 (fun i => zyAll_iff hr i.val i.isLt) (fun i => (hck i.val i.isLt).1) (fun i => (hck i.val i.isLt).2.1) (fun i => (hck i.val i.isLt).2.2) ⟨0, by decide⟩ ⟨rfl, rfl, rfl, rfl⟩ ⟨by decide, by decide⟩ (fun i x0 E0 v E => xIfcl17_43 i.val x0 E0 v E) (fun i x0 E0 v E => xMfcl17_43 i.val x0 E0 v E) ?_ ?_ ?_
  · intro x0 E hx0 hT hΦ
    have hΦ : (xΦcl17_ (4, 3)) x0 E := hΦ
    refine ⟨fun k p hp => ?_, ?_⟩
    · have hk : k < 4 := (List.getElem?_eq_some_iff.mp hp).1
      have hk : k = 0 ∨ k = 1 ∨ k = 2 ∨ k = 3 := by omega
      rcases hk with rfl | rfl | rfl | rfl
      · have hp : some (0, 4294967295) = some p := hp
        cases hp
        show ((0 : Nat) : Int) ≤ 0 + 2147483648 ∧ 0 + 2147483648 ≤ ((4294967295 : Nat) : Int)
        omega
      · have hp : some (2147483652, 2147483652) = some p := hp
        cases hp
        show ((2147483652 : Nat) : Int) ≤ x0 0 + 2147483648 ∧ x0 0 + 2147483648 ≤ ((2147483652 : Nat) : Int)
        have hx := hx0 0
        have hP1 : x0 0 = ((4 : Nat) : Int) := hΦ.1
        have hP2 : x0 1 = ((3 : Nat) : Int) := hΦ.2
        omega
      · have hp : some (2147483651, 2147483651) = some p := hp
        cases hp
        show ((2147483651 : Nat) : Int) ≤ x0 1 + 2147483648 ∧ x0 1 + 2147483648 ≤ ((2147483651 : Nat) : Int)
        have hx := hx0 1
        have hP1 : x0 0 = ((4 : Nat) : Int) := hΦ.1
        have hP2 : x0 1 = ((3 : Nat) : Int) := hΦ.2
        omega
      · have hp : some (0, 4294967295) = some p := hp
        cases hp
        show ((0 : Nat) : Int) ≤ x0 2 + 2147483648 ∧ x0 2 + 2147483648 ≤ ((4294967295 : Nat) : Int)
        have hx := hx0 2
        omega
    · show E = E
      rfl
  · intro x0 s Wg hRu hrx hT0 hΦ i v H hT hrv hInv hKc hFr0 hIH x hx ρ2 v2 N2 H2 locs lsB stA hAt hB hv hr2 hXs hag hfr hFr hT2
    rcases i with ⟨i, hi⟩
    have hi2 : i = 0 := by omega
    rcases hi2 with rfl
    · cases hx
  · intro x0 E0 E E2 hrx hT0 hΦ i v hT hrv hInv hKc hFr0 x hx v2 hr2 hXs hag hfr hFr hT2
    rcases i with ⟨i, hi⟩
    have hi2 : i = 0 := by omega
    rcases hi2 with rfl
    · have hx : x ∈ [zxfcl17_43_ar0] := hx
      have hag : ∀ k, k < 4 → v2 k = v k := hag
      have hfr : xFr [(18, 5, 5), (18, 8, 8), (19, 0, 3), (20, 0, 47), (21, 0, 47), (22, 0, 47), (23, 0, 47), (24, 0, 47), (25, 0, 30), (26, 0, 30), (27, 0, 30), (28, 0, 30), (29, 0, 30), (30, 0, 30), (33, 1, 1)] _ _ := hfr
      have ex := List.mem_singleton.mp hx
      subst ex
      obtain ⟨hF, hBd, hM⟩ := hXs
      have g1 : v2 1 = v 1 := hag 1 (by decide)
      have g2 : v2 2 = v 2 := hag 2 (by decide)
      have b0 : ((2147483652 : Nat) : Int) ≤ (v2 1) + 2147483648 ∧ (v2 1) + 2147483648 ≤ ((2147483652 : Nat) : Int) := xXb hBd 0 rfl
      have b1 : ((2147483651 : Nat) : Int) ≤ (v2 2) + 2147483648 ∧ (v2 2) + 2147483648 ≤ ((2147483651 : Nat) : Int) := xXb hBd 1 rfl
      have m0 : xE E2 19 0 = (v2 1) := xXm hM 0 rfl
      have m1 : xE E2 19 1 = (v2 2) := xXm hM 1 rfl
      have hI : E = E0 := hInv
      show xΨcl17 x0 E0 E2 0
      have hP := hΦ
      have hP1 : x0 0 = ((4 : Nat) : Int) := hP.1
      have hP2 : x0 1 = ((3 : Nat) : Int) := hP.2
      unfold xΨcl17
      rw [hP1, hP2]
      obtain ⟨A, G⟩ := xGeo17_of hM (by decide) (by decide) (by decide) (by decide) (by decide) (by decide) zyfcl17_43_geo (by omega) (by omega) (by decide +kernel) (by decide +kernel)
      subst hI
      exact ⟨A, G, xJk17_of (by decide) (by decide) (by decide) (by decide) (by decide) G (fun i h1 h2 => by
        have h1 : ((48 : Nat) : Int) ≤ i := h1
        exact ⟨xFr_E hfr (xin_no (lo := 48) (by decide) (by omega)), xFr_E hfr (xin_no (lo := 48) (by decide) (by omega))⟩)⟩
noncomputable def zxfcl17_44_ar0 : zyXp := (0, [], [], [], [(34359738369, 2147483652, 2147483652), (68719476737, 2147483652, 2147483652)], [(311296, 34359738369), (311297, 68719476737), (311298, 512), (311299, 192), (294917, 0), (294920, 0), (540673, 0), (327680, 8), (327681, 16), (327682, 24), (327683, 0), (327684, 56), (327685, 32), (327686, 40), (327687, 48), (327688, 72), (327689, 80), (327690, 88), (327691, 64), (327692, 120), (327693, 96), (327694, 104), (327695, 112), (327696, 152), (327697, 128), (327698, 136), (327699, 144), (327700, 168), (327701, 176), (327702, 184), (327703, 160), (327704, 216), (327705, 192), (327706, 200), (327707, 208), (327708, 232), (327709, 240), (327710, 248), (327711, 224), (327712, 264), (327713, 272), (327714, 280), (327715, 256), (327716, 312), (327717, 288), (327718, 296), (327719, 304), (327720, 328), (327721, 336), (327722, 344), (327723, 320), (327724, 376), (327725, 352), (327726, 360), (327727, 368), (327728, 408), (327729, 384), (327730, 392), (327731, 400), (327732, 424), (327733, 432), (327734, 440), (327735, 416), (327736, 472), (327737, 448), (327738, 456), (327739, 464), (327740, 488), (327741, 496), (327742, 504), (327743, 480), (344064, 34359738360), (344065, 56), (344066, 128), (344067, 34359738360), (344068, 34359738360), (344069, 88), (344070, 160), (344071, 8), (344072, 34359738360), (344073, 120), (344074, 192), (344075, 40), (344076, 34359738360), (344077, 34359738360), (344078, 224), (344079, 72), (344080, 16), (344081, 184), (344082, 256), (344083, 34359738360), (344084, 48), (344085, 216), (344086, 288), (344087, 136), (344088, 80), (344089, 248), (344090, 320), (344091, 168), (344092, 112), (344093, 34359738360), (344094, 352), (344095, 200), (344096, 144), (344097, 312), (344098, 384), (344099, 34359738360), (344100, 176), (344101, 344), (344102, 416), (344103, 264), (344104, 208), (344105, 376), (344106, 448), (344107, 296), (344108, 240), (344109, 34359738360), (344110, 480), (344111, 328), (344112, 272), (344113, 440), (344114, 34359738360), (344115, 34359738360), (344116, 304), (344117, 472), (344118, 34359738360), (344119, 392), (344120, 336), (344121, 504), (344122, 34359738360), (344123, 424), (344124, 368), (344125, 34359738360), (344126, 34359738360), (344127, 456), (360448, 34359738360), (360449, 0), (360450, 96), (360451, 34359738360), (360452, 34359738360), (360453, 8), (360454, 104), (360455, 0), (360456, 34359738360), (360457, 16), (360458, 112), (360459, 8), (360460, 34359738360), (360461, 34359738360), (360462, 120), (360463, 16), (360464, 96), (360465, 24), (360466, 128), (360467, 34359738360), (360468, 104), (360469, 32), (360470, 136), (360471, 24), (360472, 112), (360473, 40), (360474, 144), (360475, 32), (360476, 120), (360477, 34359738360), (360478, 152), (360479, 40), (360480, 128), (360481, 48), (360482, 160), (360483, 34359738360), (360484, 136), (360485, 56), (360486, 168), (360487, 48), (360488, 144), (360489, 64), (360490, 176), (360491, 56), (360492, 152), (360493, 34359738360), (360494, 184), (360495, 64), (360496, 160), (360497, 72), (360498, 34359738360), (360499, 34359738360), (360500, 168), (360501, 80), (360502, 34359738360), (360503, 72), (360504, 176), (360505, 88), (360506, 34359738360), (360507, 80), (360508, 184), (360509, 34359738360), (360510, 34359738360), (360511, 88), (376832, 0), (376833, 8), (376834, 0), (376835, 34359738360), (376836, 16), (376837, 24), (376838, 16), (376839, 8), (376840, 32), (376841, 40), (376842, 32), (376843, 24), (376844, 48), (376845, 56), (376846, 48), (376847, 40), (376848, 0), (376849, 8), (376850, 0), (376851, 34359738360), (376852, 16), (376853, 24), (376854, 16), (376855, 8), (376856, 32), (376857, 40), (376858, 32), (376859, 24), (376860, 48), (376861, 56), (376862, 48), (376863, 40), (376864, 0), (376865, 8), (376866, 0), (376867, 34359738360), (376868, 16), (376869, 24), (376870, 16), (376871, 8), (376872, 32), (376873, 40), (376874, 32), (376875, 24), (376876, 48), (376877, 56), (376878, 48), (376879, 40), (376880, 0), (376881, 8), (376882, 0), (376883, 34359738360), (376884, 16), (376885, 24), (376886, 16), (376887, 8), (376888, 32), (376889, 40), (376890, 32), (376891, 24), (376892, 48), (376893, 56), (376894, 48), (376895, 40), (393216, 34359738360), (393217, 0), (393218, 8), (393219, 0), (393220, 34359738360), (393221, 0), (393222, 8), (393223, 0), (393224, 34359738360), (393225, 0), (393226, 8), (393227, 0), (393228, 34359738360), (393229, 0), (393230, 8), (393231, 0), (393232, 8), (393233, 16), (393234, 24), (393235, 16), (393236, 8), (393237, 16), (393238, 24), (393239, 16), (393240, 8), (393241, 16), (393242, 24), (393243, 16), (393244, 8), (393245, 16), (393246, 24), (393247, 16), (393248, 24), (393249, 32), (393250, 40), (393251, 32), (393252, 24), (393253, 32), (393254, 40), (393255, 32), (393256, 24), (393257, 32), (393258, 40), (393259, 32), (393260, 24), (393261, 32), (393262, 40), (393263, 32), (393264, 40), (393265, 48), (393266, 56), (393267, 48), (393268, 40), (393269, 48), (393270, 56), (393271, 48), (393272, 40), (393273, 48), (393274, 56), (393275, 48), (393276, 40), (393277, 48), (393278, 56), (393279, 48), (409600, 8), (409601, 40), (409602, 72), (409603, 136), (409604, 168), (409605, 200), (409606, 264), (409607, 296), (409608, 328), (409609, 392), (409610, 424), (409611, 456), (409612, 16), (409613, 48), (409614, 80), (409615, 112), (409616, 144), (409617, 176), (409618, 208), (409619, 240), (409620, 272), (409621, 304), (409622, 336), (409623, 368), (425984, 56), (425985, 88), (425986, 120), (425987, 184), (425988, 216), (425989, 248), (425990, 312), (425991, 344), (425992, 376), (425993, 440), (425994, 472), (425995, 504), (425996, 128), (425997, 160), (425998, 192), (425999, 224), (426000, 256), (426001, 288), (426002, 320), (426003, 352), (426004, 384), (426005, 416), (426006, 448), (426007, 480), (442368, 0), (442369, 0), (442370, 0), (442371, 0), (442372, 0), (442373, 0), (442374, 0), (442375, 0), (442376, 0), (442377, 0), (442378, 0), (442379, 0), (442380, 0), (442381, 0), (442382, 0), (442383, 0), (442384, 0), (442385, 0), (442386, 0), (442387, 0), (442388, 0), (442389, 0), (442390, 0), (442391, 0), (442392, 0), (442393, 0), (442394, 0), (442395, 0), (442396, 0), (442397, 0), (442398, 0), (458752, 8), (458753, 8), (458754, 8), (458755, 8), (458756, 8), (458757, 8), (458758, 8), (458759, 8), (458760, 8), (458761, 8), (458762, 8), (458763, 8), (458764, 8), (458765, 8), (458766, 8), (458767, 8), (458768, 8), (458769, 8), (458770, 8), (458771, 8), (458772, 8), (458773, 8), (458774, 8), (458775, 8), (458776, 8), (458777, 8), (458778, 8), (458779, 8), (458780, 8), (458781, 8), (458782, 8), (475136, 0), (475137, 0), (475138, 0), (475139, 0), (475140, 0), (475141, 0), (475142, 0), (475143, 0), (475144, 0), (475145, 0), (475146, 0), (475147, 0), (475148, 0), (475149, 0), (475150, 0), (475151, 0), (475152, 0), (475153, 0), (475154, 0), (475155, 0), (475156, 0), (475157, 0), (475158, 0), (475159, 0), (475160, 0), (475161, 0), (475162, 0), (475163, 0), (475164, 0), (475165, 0), (475166, 0), (491520, 0), (491521, 0), (491522, 0), (491523, 0), (491524, 0), (491525, 0), (491526, 0), (491527, 0), (491528, 0), (491529, 0), (491530, 0), (491531, 0), (491532, 0), (491533, 0), (491534, 0), (491535, 0), (491536, 0), (491537, 0), (491538, 0), (491539, 0), (491540, 0), (491541, 0), (491542, 0), (491543, 0), (491544, 0), (491545, 0), (491546, 0), (491547, 0), (491548, 0), (491549, 0), (491550, 0)])
noncomputable def zpfcl17_44_a : zyPh := (0, [147, 34359738369, 68719476737, 13], [(0, 4294967295), (2147483652, 2147483652), (2147483652, 2147483652), (0, 4294967295)], [], [])
noncomputable def zpfcl17_44 (i : Nat) : zyPh := zpfcl17_44_a
noncomputable def zXfcl17_44 (i : Nat) : List zyXp := []
noncomputable def zRfcl17_44 (i : Nat) : List zyXp := [zxfcl17_44_ar0]
noncomputable def zFfcl17_44 (i : Nat) : zyR := [(18, 5, 5), (18, 8, 8), (19, 0, 3), (20, 0, 63), (21, 0, 63), (22, 0, 63), (23, 0, 63), (24, 0, 63), (25, 0, 30), (26, 0, 30), (27, 0, 30), (28, 0, 30), (29, 0, 30), (30, 0, 30), (33, 1, 1)]
noncomputable def zSfcl17_44 (i : Nat) : Nat := 0
theorem zyfcl17_44_geo : xgeoB17 (zxfcl17_44_ar0).2.2.2.2.2 4 4 = true := by decide +kernel
noncomputable def fpfcl17_44 : zyR := [(18, 5, 5), (18, 8, 8), (19, 0, 3), (20, 0, 79), (21, 0, 79), (22, 0, 79), (23, 0, 79), (24, 0, 79), (25, 0, 30), (26, 0, 30), (27, 0, 30), (28, 0, 30), (29, 0, 30), (30, 0, 30), (33, 1, 1)]
theorem zyfcl17_44_run : zyrS zymc zxi31 (31, 0, 0, 0, 0) 3 zpfcl17_44 (fun _ _ => []) zFfcl17_44 zSfcl17_44 zXfcl17_44 zRfcl17_44 1 = true := by decide +kernel
theorem zyfcl17_44_ck : zyAll (fun i => xsubR (zFfcl17_44 i) fpfcl17_44 && ((zXfcl17_44 i).all xckX && (zRfcl17_44 i).all (fun x => xckX x && xrtB false x))) 1 = true := by decide +kernel
def xIfcl17_44 (i : Nat) (x0 : Nat → Int) (E0 : zyEm) (v : Nat → Int) (E : zyEm) : Prop := (E = E0)
def xMfcl17_44 (i : Nat) (x0 : Nat → Int) (E0 : zyEm) (v : Nat → Int) (E : zyEm) : Nat := (0)
theorem xCl17_44 {l : Launch} {en : zEn} {me : zMe} (hen : zG zxMeta 31 = some en) (hme : zG zMeth 31 = some me) : xFc l zymc en me 3 [18] 2 fpfcl17_44 false (xΦcl17_ (4, 4)) xΨcl17 := by
  have een : zG zxMeta 31 = some (zxi31, 3, 4, 3, 31, 0, 0, 0, 0) := rfl
  obtain ⟨me1, hme1, hOK⟩ := zall hen
  rw [hme] at hme1
  cases hme1
  rw [een] at hen
  cases hen
  have hr := zyfcl17_44_run
  have hck := fun i hi => zyAll_iff zyfcl17_44_ck i hi
  simp only [Bool.and_eq_true] at hck
  intro B
  refine xcut (mi := zymc) (B := B) hOK rfl rfl (ι := Fin 1) (fun i => zpfcl17_44 i.val) (fun _ _ => []) (fun i => zFfcl17_44 i.val) (fun i => zSfcl17_44 i.val) (fun i => zXfcl17_44 i.val) (fun i => zRfcl17_44 i.val) (fun i y2 ct en2 me2 h => by cases h) 200000 (fun i => zyAll_iff hr i.val i.isLt) (fun i => (hck i.val i.isLt).1) (fun i => (hck i.val i.isLt).2.1) (fun i => (hck i.val i.isLt).2.2) ⟨0, by decide⟩ ⟨rfl, rfl, rfl, rfl⟩ ⟨by decide, by decide⟩ (fun i x0 E0 v E => xIfcl17_44 i.val x0 E0 v E) (fun i x0 E0 v E => xMfcl17_44 i.val x0 E0 v E) ?_ ?_ ?_
  · intro x0 E hx0 hT hΦ
    have hΦ : (xΦcl17_ (4, 4)) x0 E := hΦ
    refine ⟨fun k p hp => ?_, ?_⟩
    · have hk : k < 4 := (List.getElem?_eq_some_iff.mp hp).1
      have hk : k = 0 ∨ k = 1 ∨ k = 2 ∨ k = 3 := by omega
      rcases hk with rfl | rfl | rfl | rfl
      · have hp : some (0, 4294967295) = some p := hp
        cases hp
        show ((0 : Nat) : Int) ≤ 0 + 2147483648 ∧ 0 + 2147483648 ≤ ((4294967295 : Nat) : Int)
        omega
      · have hp : some (2147483652, 2147483652) = some p := hp
        cases hp
        show ((2147483652 : Nat) : Int) ≤ x0 0 + 2147483648 ∧ x0 0 + 2147483648 ≤ ((2147483652 : Nat) : Int)
        have hx := hx0 0
        have hP1 : x0 0 = ((4 : Nat) : Int) := hΦ.1
        have hP2 : x0 1 = ((4 : Nat) : Int) := hΦ.2
        omega
      · have hp : some (2147483652, 2147483652) = some p := hp
        cases hp
        show ((2147483652 : Nat) : Int) ≤ x0 1 + 2147483648 ∧ x0 1 + 2147483648 ≤ ((2147483652 : Nat) : Int)
        have hx := hx0 1
        have hP1 : x0 0 = ((4 : Nat) : Int) := hΦ.1
        have hP2 : x0 1 = ((4 : Nat) : Int) := hΦ.2
        omega
      · have hp : some (0, 4294967295) = some p := hp
        cases hp
        show ((0 : Nat) : Int) ≤ x0 2 + 2147483648 ∧ x0 2 + 2147483648 ≤ ((4294967295 : Nat) : Int)
        have hx := hx0 2
        omega
    · show E = E
      rfl
  · intro x0 s Wg hRu hrx hT0 hΦ i v H hT hrv hInv hKc hFr0 hIH x hx ρ2 v2 N2 H2 locs lsB stA hAt hB hv hr2 hXs hag hfr hFr hT2
    rcases i with ⟨i, hi⟩
    have hi2 : i = 0 := by omega
    rcases hi2 with rfl
    · cases hx
  · intro x0 E0 E E2 hrx hT0 hΦ i v hT hrv hInv hKc hFr0 x hx v2 hr2 hXs hag hfr hFr hT2
    rcases i with ⟨i, hi⟩
    have hi2 : i = 0 := by omega
    rcases hi2 with rfl
    · have hx : x ∈ [zxfcl17_44_ar0] := hx
      have hag : ∀ k, k < 4 → v2 k = v k := hag
      have hfr : xFr [(18, 5, 5), (18, 8, 8), (19, 0, 3), (20, 0, 63), (21, 0, 63), (22, 0, 63), (23, 0, 63), (24, 0, 63), (25, 0, 30), (26, 0, 30), (27, 0, 30), (28, 0, 30), (29, 0, 30), (30, 0, 30), (33, 1, 1)] _ _ := hfr
      have ex := List.mem_singleton.mp hx
      subst ex
      obtain ⟨hF, hBd, hM⟩ := hXs
      have g1 : v2 1 = v 1 := hag 1 (by decide)
      have g2 : v2 2 = v 2 := hag 2 (by decide)
      have b0 : ((2147483652 : Nat) : Int) ≤ (v2 1) + 2147483648 ∧ (v2 1) + 2147483648 ≤ ((2147483652 : Nat) : Int) := xXb hBd 0 rfl
      have b1 : ((2147483652 : Nat) : Int) ≤ (v2 2) + 2147483648 ∧ (v2 2) + 2147483648 ≤ ((2147483652 : Nat) : Int) := xXb hBd 1 rfl
      have m0 : xE E2 19 0 = (v2 1) := xXm hM 0 rfl
      have m1 : xE E2 19 1 = (v2 2) := xXm hM 1 rfl
      have hI : E = E0 := hInv
      show xΨcl17 x0 E0 E2 0
      have hP := hΦ
      have hP1 : x0 0 = ((4 : Nat) : Int) := hP.1
      have hP2 : x0 1 = ((4 : Nat) : Int) := hP.2
      unfold xΨcl17
      rw [hP1, hP2]
      obtain ⟨A, G⟩ := xGeo17_of hM (by decide) (by decide) (by decide) (by decide) (by decide) (by decide) zyfcl17_44_geo (by omega) (by omega) (by decide +kernel) (by decide +kernel)
      subst hI
      exact ⟨A, G, xJk17_of (by decide) (by decide) (by decide) (by decide) (by decide) G (fun i h1 h2 => by
        have h1 : ((64 : Nat) : Int) ≤ i := h1
        exact ⟨xFr_E hfr (xin_no (lo := 64) (by decide) (by omega)), xFr_E hfr (xin_no (lo := 64) (by decide) (by omega))⟩)⟩
noncomputable def zxfcl17_45_ar0 : zyXp := (0, [], [], [], [(34359738369, 2147483652, 2147483652), (68719476737, 2147483653, 2147483653)], [(311296, 34359738369), (311297, 68719476737), (311298, 640), (311299, 248), (294917, 0), (294920, 0), (540673, 0), (327680, 8), (327681, 16), (327682, 24), (327683, 0), (327684, 56), (327685, 32), (327686, 40), (327687, 48), (327688, 72), (327689, 80), (327690, 88), (327691, 64), (327692, 120), (327693, 96), (327694, 104), (327695, 112), (327696, 136), (327697, 144), (327698, 152), (327699, 128), (327700, 184), (327701, 160), (327702, 168), (327703, 176), (327704, 200), (327705, 208), (327706, 216), (327707, 192), (327708, 248), (327709, 224), (327710, 232), (327711, 240), (327712, 264), (327713, 272), (327714, 280), (327715, 256), (327716, 312), (327717, 288), (327718, 296), (327719, 304), (327720, 328), (327721, 336), (327722, 344), (327723, 320), (327724, 376), (327725, 352), (327726, 360), (327727, 368), (327728, 392), (327729, 400), (327730, 408), (327731, 384), (327732, 440), (327733, 416), (327734, 424), (327735, 432), (327736, 456), (327737, 464), (327738, 472), (327739, 448), (327740, 504), (327741, 480), (327742, 488), (327743, 496), (327744, 520), (327745, 528), (327746, 536), (327747, 512), (327748, 568), (327749, 544), (327750, 552), (327751, 560), (327752, 584), (327753, 592), (327754, 600), (327755, 576), (327756, 632), (327757, 608), (327758, 616), (327759, 624), (344064, 34359738360), (344065, 56), (344066, 160), (344067, 34359738360), (344068, 34359738360), (344069, 88), (344070, 192), (344071, 8), (344072, 34359738360), (344073, 120), (344074, 224), (344075, 40), (344076, 34359738360), (344077, 152), (344078, 256), (344079, 72), (344080, 34359738360), (344081, 34359738360), (344082, 288), (344083, 104), (344084, 16), (344085, 216), (344086, 320), (344087, 34359738360), (344088, 48), (344089, 248), (344090, 352), (344091, 168), (344092, 80), (344093, 280), (344094, 384), (344095, 200), (344096, 112), (344097, 312), (344098, 416), (344099, 232), (344100, 144), (344101, 34359738360), (344102, 448), (344103, 264), (344104, 176), (344105, 376), (344106, 480), (344107, 34359738360), (344108, 208), (344109, 408), (344110, 512), (344111, 328), (344112, 240), (344113, 440), (344114, 544), (344115, 360), (344116, 272), (344117, 472), (344118, 576), (344119, 392), (344120, 304), (344121, 34359738360), (344122, 608), (344123, 424), (344124, 336), (344125, 536), (344126, 34359738360), (344127, 34359738360), (344128, 368), (344129, 568), (344130, 34359738360), (344131, 488), (344132, 400), (344133, 600), (344134, 34359738360), (344135, 520), (344136, 432), (344137, 632), (344138, 34359738360), (344139, 552), (344140, 464), (344141, 34359738360), (344142, 34359738360), (344143, 584), (360448, 34359738360), (360449, 0), (360450, 128), (360451, 34359738360), (360452, 34359738360), (360453, 8), (360454, 136), (360455, 0), (360456, 34359738360), (360457, 16), (360458, 144), (360459, 8), (360460, 34359738360), (360461, 24), (360462, 152), (360463, 16), (360464, 34359738360), (360465, 34359738360), (360466, 160), (360467, 24), (360468, 128), (360469, 32), (360470, 168), (360471, 34359738360), (360472, 136), (360473, 40), (360474, 176), (360475, 32), (360476, 144), (360477, 48), (360478, 184), (360479, 40), (360480, 152), (360481, 56), (360482, 192), (360483, 48), (360484, 160), (360485, 34359738360), (360486, 200), (360487, 56), (360488, 168), (360489, 64), (360490, 208), (360491, 34359738360), (360492, 176), (360493, 72), (360494, 216), (360495, 64), (360496, 184), (360497, 80), (360498, 224), (360499, 72), (360500, 192), (360501, 88), (360502, 232), (360503, 80), (360504, 200), (360505, 34359738360), (360506, 240), (360507, 88), (360508, 208), (360509, 96), (360510, 34359738360), (360511, 34359738360), (360512, 216), (360513, 104), (360514, 34359738360), (360515, 96), (360516, 224), (360517, 112), (360518, 34359738360), (360519, 104), (360520, 232), (360521, 120), (360522, 34359738360), (360523, 112), (360524, 240), (360525, 34359738360), (360526, 34359738360), (360527, 120), (376832, 0), (376833, 8), (376834, 0), (376835, 34359738360), (376836, 16), (376837, 24), (376838, 16), (376839, 8), (376840, 32), (376841, 40), (376842, 32), (376843, 24), (376844, 48), (376845, 56), (376846, 48), (376847, 40), (376848, 64), (376849, 72), (376850, 64), (376851, 56), (376852, 0), (376853, 8), (376854, 0), (376855, 34359738360), (376856, 16), (376857, 24), (376858, 16), (376859, 8), (376860, 32), (376861, 40), (376862, 32), (376863, 24), (376864, 48), (376865, 56), (376866, 48), (376867, 40), (376868, 64), (376869, 72), (376870, 64), (376871, 56), (376872, 0), (376873, 8), (376874, 0), (376875, 34359738360), (376876, 16), (376877, 24), (376878, 16), (376879, 8), (376880, 32), (376881, 40), (376882, 32), (376883, 24), (376884, 48), (376885, 56), (376886, 48), (376887, 40), (376888, 64), (376889, 72), (376890, 64), (376891, 56), (376892, 0), (376893, 8), (376894, 0), (376895, 34359738360), (376896, 16), (376897, 24), (376898, 16), (376899, 8), (376900, 32), (376901, 40), (376902, 32), (376903, 24), (376904, 48), (376905, 56), (376906, 48), (376907, 40), (376908, 64), (376909, 72), (376910, 64), (376911, 56), (393216, 34359738360), (393217, 0), (393218, 8), (393219, 0), (393220, 34359738360), (393221, 0), (393222, 8), (393223, 0), (393224, 34359738360), (393225, 0), (393226, 8), (393227, 0), (393228, 34359738360), (393229, 0), (393230, 8), (393231, 0), (393232, 34359738360), (393233, 0), (393234, 8), (393235, 0), (393236, 8), (393237, 16), (393238, 24), (393239, 16), (393240, 8), (393241, 16), (393242, 24), (393243, 16), (393244, 8), (393245, 16), (393246, 24), (393247, 16), (393248, 8), (393249, 16), (393250, 24), (393251, 16), (393252, 8), (393253, 16), (393254, 24), (393255, 16), (393256, 24), (393257, 32), (393258, 40), (393259, 32), (393260, 24), (393261, 32), (393262, 40), (393263, 32), (393264, 24), (393265, 32), (393266, 40), (393267, 32), (393268, 24), (393269, 32), (393270, 40), (393271, 32), (393272, 24), (393273, 32), (393274, 40), (393275, 32), (393276, 40), (393277, 48), (393278, 56), (393279, 48), (393280, 40), (393281, 48), (393282, 56), (393283, 48), (393284, 40), (393285, 48), (393286, 56), (393287, 48), (393288, 40), (393289, 48), (393290, 56), (393291, 48), (393292, 40), (393293, 48), (393294, 56), (393295, 48), (409600, 8), (409601, 40), (409602, 72), (409603, 104), (409604, 168), (409605, 200), (409606, 232), (409607, 264), (409608, 328), (409609, 360), (409610, 392), (409611, 424), (409612, 488), (409613, 520), (409614, 552), (409615, 584), (409616, 16), (409617, 48), (409618, 80), (409619, 112), (409620, 144), (409621, 176), (409622, 208), (409623, 240), (409624, 272), (409625, 304), (409626, 336), (409627, 368), (409628, 400), (409629, 432), (409630, 464), (425984, 56), (425985, 88), (425986, 120), (425987, 152), (425988, 216), (425989, 248), (425990, 280), (425991, 312), (425992, 376), (425993, 408), (425994, 440), (425995, 472), (425996, 536), (425997, 568), (425998, 600), (425999, 632), (426000, 160), (426001, 192), (426002, 224), (426003, 256), (426004, 288), (426005, 320), (426006, 352), (426007, 384), (426008, 416), (426009, 448), (426010, 480), (426011, 512), (426012, 544), (426013, 576), (426014, 608), (442368, 0), (442369, 0), (442370, 0), (442371, 0), (442372, 0), (442373, 0), (442374, 0), (442375, 0), (442376, 0), (442377, 0), (442378, 0), (442379, 0), (442380, 0), (442381, 0), (442382, 0), (442383, 0), (442384, 0), (442385, 0), (442386, 0), (442387, 0), (442388, 0), (442389, 0), (442390, 0), (442391, 0), (442392, 0), (442393, 0), (442394, 0), (442395, 0), (442396, 0), (442397, 0), (442398, 0), (458752, 8), (458753, 8), (458754, 8), (458755, 8), (458756, 8), (458757, 8), (458758, 8), (458759, 8), (458760, 8), (458761, 8), (458762, 8), (458763, 8), (458764, 8), (458765, 8), (458766, 8), (458767, 8), (458768, 8), (458769, 8), (458770, 8), (458771, 8), (458772, 8), (458773, 8), (458774, 8), (458775, 8), (458776, 8), (458777, 8), (458778, 8), (458779, 8), (458780, 8), (458781, 8), (458782, 8), (475136, 0), (475137, 0), (475138, 0), (475139, 0), (475140, 0), (475141, 0), (475142, 0), (475143, 0), (475144, 0), (475145, 0), (475146, 0), (475147, 0), (475148, 0), (475149, 0), (475150, 0), (475151, 0), (475152, 0), (475153, 0), (475154, 0), (475155, 0), (475156, 0), (475157, 0), (475158, 0), (475159, 0), (475160, 0), (475161, 0), (475162, 0), (475163, 0), (475164, 0), (475165, 0), (475166, 0), (491520, 0), (491521, 0), (491522, 0), (491523, 0), (491524, 0), (491525, 0), (491526, 0), (491527, 0), (491528, 0), (491529, 0), (491530, 0), (491531, 0), (491532, 0), (491533, 0), (491534, 0), (491535, 0), (491536, 0), (491537, 0), (491538, 0), (491539, 0), (491540, 0), (491541, 0), (491542, 0), (491543, 0), (491544, 0), (491545, 0), (491546, 0), (491547, 0), (491548, 0), (491549, 0), (491550, 0)])
noncomputable def zpfcl17_45_a : zyPh := (0, [147, 34359738369, 68719476737, 13], [(0, 4294967295), (2147483652, 2147483652), (2147483653, 2147483653), (0, 4294967295)], [], [])
noncomputable def zpfcl17_45 (i : Nat) : zyPh := zpfcl17_45_a
noncomputable def zXfcl17_45 (i : Nat) : List zyXp := []
noncomputable def zRfcl17_45 (i : Nat) : List zyXp := [zxfcl17_45_ar0]
noncomputable def zFfcl17_45 (i : Nat) : zyR := [(18, 5, 5), (18, 8, 8), (19, 0, 3), (20, 0, 79), (21, 0, 79), (22, 0, 79), (23, 0, 79), (24, 0, 79), (25, 0, 30), (26, 0, 30), (27, 0, 30), (28, 0, 30), (29, 0, 30), (30, 0, 30), (33, 1, 1)]
noncomputable def zSfcl17_45 (i : Nat) : Nat := 0
theorem zyfcl17_45_geo : xgeoB17 (zxfcl17_45_ar0).2.2.2.2.2 4 5 = true := by decide +kernel
noncomputable def fpfcl17_45 : zyR := [(18, 5, 5), (18, 8, 8), (19, 0, 3), (20, 0, 79), (21, 0, 79), (22, 0, 79), (23, 0, 79), (24, 0, 79), (25, 0, 30), (26, 0, 30), (27, 0, 30), (28, 0, 30), (29, 0, 30), (30, 0, 30), (33, 1, 1)]
theorem zyfcl17_45_run : zyrS zymc zxi31 (31, 0, 0, 0, 0) 3 zpfcl17_45 (fun _ _ => []) zFfcl17_45 zSfcl17_45 zXfcl17_45 zRfcl17_45 1 = true := by decide +kernel
theorem zyfcl17_45_ck : zyAll (fun i => xsubR (zFfcl17_45 i) fpfcl17_45 && ((zXfcl17_45 i).all xckX && (zRfcl17_45 i).all (fun x => xckX x && xrtB false x))) 1 = true := by decide +kernel
def xIfcl17_45 (i : Nat) (x0 : Nat → Int) (E0 : zyEm) (v : Nat → Int) (E : zyEm) : Prop := (E = E0)
def xMfcl17_45 (i : Nat) (x0 : Nat → Int) (E0 : zyEm) (v : Nat → Int) (E : zyEm) : Nat := (0)
theorem xCl17_45 {l : Launch} {en : zEn} {me : zMe} (hen : zG zxMeta 31 = some en) (hme : zG zMeth 31 = some me) : xFc l zymc en me 3 [18] 2 fpfcl17_45 false (xΦcl17_ (4, 5)) xΨcl17 := by
  have een : zG zxMeta 31 = some (zxi31, 3, 4, 3, 31, 0, 0, 0, 0) := rfl
  obtain ⟨me1, hme1, hOK⟩ := zall hen
  rw [hme] at hme1
  cases hme1
  rw [een] at hen
  cases hen
  have hr := zyfcl17_45_run
  have hck := fun i hi => zyAll_iff zyfcl17_45_ck i hi
  simp only [Bool.and_eq_true] at hck
  intro B
  refine xcut (mi := zymc) (B := B) hOK rfl rfl (ι := Fin 1) (fun i => zpfcl17_45 i.val) (fun _ _ => []) (fun i => zFfcl17_45 i.val) (fun i => zSfcl17_45 i.val) (fun i => zXfcl17_45 i.val) (fun i => zRfcl17_45 i.val) (fun i y2 ct en2 me2 h => by cases h) 200000 (fun i => zyAll_iff hr i.val i.isLt) (fun i => (hck i.val i.isLt).1) (fun i => (hck i.val i.isLt).2.1) (fun i => (hck i.val i.isLt).2.2) ⟨0, by decide⟩ ⟨rfl, rfl, rfl, rfl⟩ ⟨by decide, by decide⟩ (fun i x0 E0 v E => xIfcl17_45 i.val x0 E0 v E) (fun i x0 E0 v E => xMfcl17_45 i.val x0 E0 v E) ?_ ?_ ?_
  · intro x0 E hx0 hT hΦ
    have hΦ : (xΦcl17_ (4, 5)) x0 E := hΦ
    refine ⟨fun k p hp => ?_, ?_⟩
    · have hk : k < 4 := (List.getElem?_eq_some_iff.mp hp).1
      have hk : k = 0 ∨ k = 1 ∨ k = 2 ∨ k = 3 := by omega
      rcases hk with rfl | rfl | rfl | rfl
      · have hp : some (0, 4294967295) = some p := hp
        cases hp
        show ((0 : Nat) : Int) ≤ 0 + 2147483648 ∧ 0 + 2147483648 ≤ ((4294967295 : Nat) : Int)
        omega
      · have hp : some (2147483652, 2147483652) = some p := hp
        cases hp
        show ((2147483652 : Nat) : Int) ≤ x0 0 + 2147483648 ∧ x0 0 + 2147483648 ≤ ((2147483652 : Nat) : Int)
        have hx := hx0 0
        have hP1 : x0 0 = ((4 : Nat) : Int) := hΦ.1
        have hP2 : x0 1 = ((5 : Nat) : Int) := hΦ.2
        omega
      · have hp : some (2147483653, 2147483653) = some p := hp
        cases hp
        show ((2147483653 : Nat) : Int) ≤ x0 1 + 2147483648 ∧ x0 1 + 2147483648 ≤ ((2147483653 : Nat) : Int)
        have hx := hx0 1
        have hP1 : x0 0 = ((4 : Nat) : Int) := hΦ.1
        have hP2 : x0 1 = ((5 : Nat) : Int) := hΦ.2
        omega
      · have hp : some (0, 4294967295) = some p := hp
        cases hp
        show ((0 : Nat) : Int) ≤ x0 2 + 2147483648 ∧ x0 2 + 2147483648 ≤ ((4294967295 : Nat) : Int)
        have hx := hx0 2
        omega
    · show E = E
      rfl
  · intro x0 s Wg hRu hrx hT0 hΦ i v H hT hrv hInv hKc hFr0 hIH x hx ρ2 v2 N2 H2 locs lsB stA hAt hB hv hr2 hXs hag hfr hFr hT2
    rcases i with ⟨i, hi⟩
    have hi2 : i = 0 := by omega
    rcases hi2 with rfl
    · cases hx
  · intro x0 E0 E E2 hrx hT0 hΦ i v hT hrv hInv hKc hFr0 x hx v2 hr2 hXs hag hfr hFr hT2
    rcases i with ⟨i, hi⟩
    have hi2 : i = 0 := by omega
    rcases hi2 with rfl
    · have hx : x ∈ [zxfcl17_45_ar0] := hx
      have hag : ∀ k, k < 4 → v2 k = v k := hag
      have hfr : xFr [(18, 5, 5), (18, 8, 8), (19, 0, 3), (20, 0, 79), (21, 0, 79), (22, 0, 79), (23, 0, 79), (24, 0, 79), (25, 0, 30), (26, 0, 30), (27, 0, 30), (28, 0, 30), (29, 0, 30), (30, 0, 30), (33, 1, 1)] _ _ := hfr
      have ex := List.mem_singleton.mp hx
      subst ex
      obtain ⟨hF, hBd, hM⟩ := hXs
      have g1 : v2 1 = v 1 := hag 1 (by decide)
      have g2 : v2 2 = v 2 := hag 2 (by decide)
      have b0 : ((2147483652 : Nat) : Int) ≤ (v2 1) + 2147483648 ∧ (v2 1) + 2147483648 ≤ ((2147483652 : Nat) : Int) := xXb hBd 0 rfl
      have b1 : ((2147483653 : Nat) : Int) ≤ (v2 2) + 2147483648 ∧ (v2 2) + 2147483648 ≤ ((2147483653 : Nat) : Int) := xXb hBd 1 rfl
      have m0 : xE E2 19 0 = (v2 1) := xXm hM 0 rfl
      have m1 : xE E2 19 1 = (v2 2) := xXm hM 1 rfl
      have hI : E = E0 := hInv
      show xΨcl17 x0 E0 E2 0
      have hP := hΦ
      have hP1 : x0 0 = ((4 : Nat) : Int) := hP.1
      have hP2 : x0 1 = ((5 : Nat) : Int) := hP.2
      unfold xΨcl17
      rw [hP1, hP2]
      obtain ⟨A, G⟩ := xGeo17_of hM (by decide) (by decide) (by decide) (by decide) (by decide) (by decide) zyfcl17_45_geo (by omega) (by omega) (by decide +kernel) (by decide +kernel)
      subst hI
      exact ⟨A, G, xJk17_of (by decide) (by decide) (by decide) (by decide) (by decide) G (fun i h1 h2 => by
        have h1 : ((80 : Nat) : Int) ≤ i := h1
        exact ⟨xFr_E hfr (xin_no (lo := 80) (by decide) (by omega)), xFr_E hfr (xin_no (lo := 80) (by decide) (by omega))⟩)⟩
theorem xCl17 {l : Launch} {en : zEn} {me : zMe} (hen : zG zxMeta 31 = some en) (hme : zG zMeth 31 = some me) : xFc l zymc en me 3 [18] 2 [(18, 5, 5), (18, 8, 8), (19, 0, 3), (20, 0, 79), (21, 0, 79), (22, 0, 79), (23, 0, 79), (24, 0, 79), (25, 0, 30), (26, 0, 30), (27, 0, 30), (28, 0, 30), (29, 0, 30), (30, 0, 30), (33, 1, 1)] false xΦcl17 xΨcl17 := by
  refine xFc_cases (ι := {q : Nat × Nat // (1 ≤ q.1 ∧ q.1 ≤ 4) ∧ 1 ≤ q.2 ∧ q.2 ≤ 5}) (Φi := fun q => xΦcl17_ q.1) (fun q => ?_) (fun x E hx h => ⟨⟨((x 0).toNat, (x 1).toNat), ⟨by have := h.1; have := h.2.1; omega, by have := h.2.1; omega⟩, by have := h.2.2.1; omega, by have := h.2.2.2; omega⟩, by have h0 := h.1; show x 0 = (((x 0).toNat : Nat) : Int); omega, by have h0 := h.2.2.1; show x 1 = (((x 1).toNat : Nat) : Int); omega⟩)
  obtain ⟨⟨r, c⟩, ⟨r1, r2⟩, c1, c2⟩ := q
  have r1 : 1 ≤ r := r1
  have r2 : r ≤ 4 := r2
  have c1 : 1 ≤ c := c1
  have c2 : c ≤ 5 := c2
  have hr : r = 1 ∨ r = 2 ∨ r = 3 ∨ r = 4 := by omega
  have hc : c = 1 ∨ c = 2 ∨ c = 3 ∨ c = 4 ∨ c = 5 := by omega
  rcases hr with rfl | rfl | rfl | rfl <;> rcases hc with rfl | rfl | rfl | rfl | rfl
  · exact xCl17_11 hen hme
  · exact xCl17_12 hen hme
  · exact xCl17_13 hen hme
  · exact xCl17_14 hen hme
  · exact xCl17_15 hen hme
  · exact xCl17_21 hen hme
  · exact xCl17_22 hen hme
  · exact xCl17_23 hen hme
  · exact xCl17_24 hen hme
  · exact xCl17_25 hen hme
  · exact xCl17_31 hen hme
  · exact xCl17_32 hen hme
  · exact xCl17_33 hen hme
  · exact xCl17_34 hen hme
  · exact xCl17_35 hen hme
  · exact xCl17_41 hen hme
  · exact xCl17_42 hen hme
  · exact xCl17_43 hen hme
  · exact xCl17_44 hen hme
  · exact xCl17_45 hen hme
