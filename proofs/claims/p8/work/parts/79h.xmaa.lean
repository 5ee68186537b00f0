/-! THE CLASS's frame is built: for each size by a run -/
theorem xFc_cases {l : Launch} {mi : zyB} {en : zEn} {me : zMe} {dep na : Nat} {ps : List Nat} {fp : zyR} {rt : Bool} {ι : Type} {Φi : ι → (Nat → Int) → zyEm → Prop} {Φ : (Nat → Int) → zyEm → Prop} {Ψ : (Nat → Int) → zyEm → zyEm → Int → Prop} (h : ∀ i, xFc l mi en me dep ps na fp rt (Φi i) Ψ) (hc : ∀ x E, xRg x → Φ x E → ∃ i, Φi i x E) : xFc l mi en me dep ps na fp rt Φ Ψ := by
  intro B xs hx
  refine zyMet_pt (fun a s hp => ?_)
  obtain ⟨rfl, hK, hI, hΦ⟩ := hp
  obtain ⟨i, hi⟩ := hc _ _ (fun k => by rw [xfv_map]; exact xI_r _) hΦ
  exact ⟨_, _, h i B xs hx, ⟨rfl, hK, hI, hi⟩, fun o t hq => hq⟩
def zgXn (c s : Nat) : Nat := (4294967295 + 2 * (s / 4 % c) + (if s % 4 = 1 then 2 else if s % 4 = 3 then 0 else 1)) % 4294967296
def zgYn (c s : Nat) : Nat := (4294967295 + 2 * (s / 4 / c) + (if s % 4 = 2 then 2 else if s % 4 = 0 then 0 else 1)) % 4294967296
def zg1n (r c g : Nat) : Nat := if g < r * (c - 1) then 4 * (g / (c - 1) * c + g % (c - 1)) + 1 else 4 * (g - r * (c - 1)) + 2
def zg2n (r c g : Nat) : Nat := if g < r * (c - 1) then 4 * (g / (c - 1) * c + g % (c - 1)) + 7 else 4 * (g - r * (c - 1) + c)
noncomputable def xtb (M : List (Nat × Nat)) (key code : Nat) : Bool := List.rec (motive := fun _ => Bool) false (fun p _ ih => zif (zand (Nat.beq p.1 key) (Nat.beq p.2 code)) true ih) M
theorem xtb_m {key code : Nat} : ∀ {M : List (Nat × Nat)}, xtb M key code = true → (key, code) ∈ M := by
  intro M
  induction M with
  | nil => intro h; cases h
  | cons p t ih =>
    intro h
    have h : zif (zand (Nat.beq p.1 key) (Nat.beq p.2 code)) true (xtb t key code) = true := h
    rcases zif_iff h with ⟨h1, -⟩ | ⟨-, h1⟩
    · obtain ⟨q1, q2⟩ := zand_iff h1
      have q1 := zbeqT q1
      have q2 := zbeqT q2
      rw [← q1, ← q2]
      exact List.mem_cons_self
    · exact List.mem_cons_of_mem _ (ih h1)
theorem xtb_E {M : List (Nat × Nat)} {v : Nat → Int} {E2 : zyEm} (hM : ∀ p ∈ M, xE E2 (p.1 / 16384) ((p.1 % 16384 : Nat) : Int) = xc v p.2) {a k n : Nat} (hk : k < 16384) (hn : n < 4294967296) (h : xtb M (a * 16384 + k) (8 * n) = true) : xE E2 a (k : Int) = xsg n := by
  have e := hM _ (xtb_m h)
  dsimp only at e
  rw [show (a * 16384 + k) / 16384 = a by omega, show (a * 16384 + k) % 16384 = k by omega] at e
  rw [e]
  unfold xc
  rw [if_neg (by omega), show 8 * n / 8 = n by omega, Nat.mod_eq_of_lt hn]
theorem xsg_n {n : Nat} (h : n < 2147483648) : xsg n = (n : Int) := if_pos h
theorem xin_no {l : zyR} {a lo k : Nat} (h : l.all (fun p => !decide (p.1 = a) || decide (p.2.2 < lo)) = true) (hk : lo ≤ k) : zyin l a k = false := by
  cases hq : zyin l a k with
  | false => rfl
  | true =>
    obtain ⟨p, hp, e1, e2, e3⟩ := zyin_iff.mp hq
    have := List.all_eq_true.mp h p hp
    rw [Bool.or_eq_true, Bool.not_eq_true', decide_eq_false_iff_not, decide_eq_true_eq] at this
    omega
theorem sN_n (r c : Nat) : sN r c = ((zgNS r c : Nat) : Int) := by
  show 4 * ((r : Int) * c) = ((4 * (r * c) : Nat) : Int)
  rw [Int.natCast_mul, Int.natCast_mul]
  rfl
theorem gN_n {r c : Nat} (h1 : 1 ≤ r) (h2 : 1 ≤ c) : gN r c = ((zgNG r c : Nat) : Int) := by
  show (r : Int) * (c - 1) + (r - 1) * c = ((r * (c - 1) + (r - 1) * c : Nat) : Int)
  rw [Int.natCast_add, Int.natCast_mul, Int.natCast_mul, Int.natCast_sub h1, Int.natCast_sub h2]
  rfl
noncomputable def xgeoB0 (M : List (Nat × Nat)) (r c : Nat) : Bool := zand (zyAll (fun s => zand (xtb M (3 * 16384 + s) (8 * zgT c s)) (zand (xtb M (4 * 16384 + s) (8 * zgF r c s)) (zand (xtb M (5 * 16384 + s) (8 * zgG r c s)) (zand (xtb M (6 * 16384 + s) (8 * zgXn c s)) (xtb M (7 * 16384 + s) (8 * zgYn c s)))))) (zgNS r c))
  (zand (zyAll (fun g => zand (xtb M (8 * 16384 + g) (8 * zg1n r c g)) (xtb M (9 * 16384 + g) (8 * zg2n r c g))) (zgNG r c))
  (zand (zyAll (fun g => zand (xtb M (10 * 16384 + g) (8 * 0)) (zand (xtb M (11 * 16384 + g) (8 * 1)) (zand (xtb M (12 * 16384 + g) (8 * 0)) (xtb M (13 * 16384 + g) (8 * 0))))) 31)
  (zand (xtb M (1 * 16384 + 5) (8 * 0)) (zand (xtb M (1 * 16384 + 8) (8 * 0)) (zand (xtb M (2 * 16384 + 2) (8 * zgNS r c)) (xtb M (2 * 16384 + 3) (8 * zgNG r c)))))))
/-- the frame of plan 1 -/
def xGeo0 (E : zyEm) (r c : Nat) : Prop := (∀ s : Nat, s < zgNS r c → xE E 3 s = xsg (zgT c s) ∧ xE E 4 s = xsg (zgF r c s) ∧ xE E 5 s = xsg (zgG r c s) ∧ xE E 6 s = xsg (zgXn c s) ∧ xE E 7 s = xsg (zgYn c s)) ∧ ∀ g : Nat, g < zgNG r c → xE E 8 g = xsg (zg1n r c g) ∧ xE E 9 g = xsg (zg2n r c g)
theorem xGeo0_of {M : List (Nat × Nat)} {v : Nat → Int} {E2 : zyEm} (hM : ∀ p ∈ M, xE E2 (p.1 / 16384) ((p.1 % 16384 : Nat) : Int) = xc v p.2) {r c : Nat} (h1 : 1 ≤ r) (h2 : r ≤ 4) (h3 : 1 ≤ c) (h4 : c ≤ 5) (hS : zgNS r c ≤ 80) (hG : zgNG r c ≤ 31) (h : xgeoB0 M r c = true) (hr : xE E2 2 0 = r) (hc : xE E2 2 1 = c) (hn : zyAll (fun s => zand (Nat.ble (Nat.succ (zgT c s)) 4294967296) (zand (Nat.ble (Nat.succ (zgF r c s)) 4294967296) (Nat.ble (Nat.succ (zgG r c s)) 4294967296))) (zgNS r c) = true) (hn2 : zyAll (fun g => zand (Nat.ble (Nat.succ (zg1n r c g)) 4294967296) (Nat.ble (Nat.succ (zg2n r c g)) 4294967296)) (zgNG r c) = true) : xAb0 E2 (pClr r c) ∧ xGeo0 E2 r c := by
  obtain ⟨b1, h⟩ := zand_iff h
  obtain ⟨b2, h⟩ := zand_iff h
  obtain ⟨b3, h⟩ := zand_iff h
  obtain ⟨b4, h⟩ := zand_iff h
  obtain ⟨b5, h⟩ := zand_iff h
  obtain ⟨b6, b7⟩ := zand_iff h
  have g1 : xGeo0 E2 r c := by
    refine ⟨fun s hs => ?_, fun g hg => ?_⟩
    · obtain ⟨q1, q⟩ := zand_iff (zyAll_iff b1 s hs)
      obtain ⟨q2, q⟩ := zand_iff q
      obtain ⟨q3, q⟩ := zand_iff q
      obtain ⟨q4, q5⟩ := zand_iff q
      obtain ⟨n1, n⟩ := zand_iff (zyAll_iff hn s hs)
      obtain ⟨n2, n3⟩ := zand_iff n
      exact ⟨xtb_E hM (by omega) (zbleT n1) q1, xtb_E hM (by omega) (zbleT n2) q2, xtb_E hM (by omega) (zbleT n3) q3, xtb_E hM (by omega) (Nat.mod_lt _ (by decide)) q4, xtb_E hM (by omega) (Nat.mod_lt _ (by decide)) q5⟩
    · obtain ⟨q1, q2⟩ := zand_iff (zyAll_iff b2 g hg)
      obtain ⟨n1, n2⟩ := zand_iff (zyAll_iff hn2 g hg)
      exact ⟨xtb_E hM (by omega) (zbleT n1) q1, xtb_E hM (by omega) (zbleT n2) q2⟩
  have e5 : xE E2 1 5 = 0 := xtb_E hM (k := 5) (n := 0) (by omega) (by omega) b4
  have e8 : xE E2 1 8 = 0 := xtb_E hM (k := 8) (n := 0) (by omega) (by omega) b5
  have f2 : xE E2 2 2 = _ := xtb_E hM (k := 2) (by omega) (by omega) b6
  have f3 : xE E2 2 3 = _ := xtb_E hM (k := 3) (by omega) (by omega) b7
  rw [xsg_n (by omega)] at f2 f3
  refine ⟨⟨?_, ?_, ?_, ?_, ?_, ?_, ?_⟩, g1⟩
  · show 1 ≤ (r : Int) ∧ (r : Int) ≤ 4 ∧ 1 ≤ (c : Int) ∧ (c : Int) ≤ 5 ∧ (0 : Int) ≤ 0 ∧ (0 : Int) ≤ 8 ∧ (-1 : Int) ≤ 60
    omega
  · show xE E2 2 0 = r ∧ xE E2 2 1 = c ∧ xE E2 2 2 = sN r c ∧ xE E2 2 3 = gN r c
    rw [sN_n, gN_n h1 h3]
    exact ⟨hr, hc, f2, f3⟩
  · intro s s0 s1
    have s1 : s < sN r c := s1
    rw [sN_n] at s1
    have := (g1.1 s.toNat (by omega)).2.1
    rw [Int.toNat_of_nonneg s0] at this
    rw [this]
    rfl
  · refine ⟨e5, fun b b0 b1 => ?_⟩
    have b1 : b < 0 := b1
    omega
  · intro g g0 g1
    obtain ⟨q1, q⟩ := zand_iff (zyAll_iff b3 g.toNat (by omega))
    obtain ⟨q2, q⟩ := zand_iff q
    obtain ⟨q3, q4⟩ := zand_iff q
    have w1 := xtb_E hM (by omega) (by omega) q1
    have w2 := xtb_E hM (by omega) (by omega) q2
    have w3 := xtb_E hM (by omega) (by omega) q3
    have w4 := xtb_E hM (by omega) (by omega) q4
    rw [Int.toNat_of_nonneg g0] at w1 w2 w3 w4
    rw [w1, w2, w3, w4]
    unfold pClr
    rw [if_neg (by omega), if_neg (by omega), if_neg (by omega), if_neg (by omega), if_neg (by omega), if_neg (by omega), if_neg (by omega), if_pos (by omega), if_neg (by omega), if_neg (by omega), if_neg (by omega), if_neg (by omega), if_neg (by omega), if_neg (by omega), if_neg (by omega), if_neg (by omega)]
    exact ⟨rfl, rfl, rfl, rfl⟩
  · exact Or.inl ⟨e8, rfl⟩
  · intro k k0 k1
    have k1 : k < -1 := k1
    omega
/-- where a switch stands, something faces: as it was, or so -/
def xJk0 (E E2 : zyEm) : Prop := ∀ i, 0 ≤ i → i ≤ 79 → (xE E2 4 i = xE E 4 i ∧ xE E2 5 i = xE E 5 i) ∨ (0 ≤ xE E2 5 i → 0 ≤ xE E2 4 i)
theorem xJk0_of {E E2 : zyEm} {r c : Nat} (h1 : 1 ≤ r) (h2 : r ≤ 4) (h3 : 1 ≤ c) (h4 : c ≤ 5) (hS : zgNS r c ≤ 80) (hG : xGeo0 E2 r c) (h : ∀ i : Int, (zgNS r c : Int) ≤ i → i ≤ 79 → xE E2 4 i = xE E 4 i ∧ xE E2 5 i = xE E 5 i) : xJk0 E E2 := by
  intro i i0 i1
  by_cases hi : i < (zgNS r c : Int)
  · right
    intro hg
    obtain ⟨-, w1, w2, -, -⟩ := hG.1 i.toNat (by omega)
    rw [Int.toNat_of_nonneg i0] at w1 w2
    obtain ⟨-, q⟩ := zand_iff (zyAll_iff (zyAllP_iff zgAll h1 h2 h3 h4) i.toNat (by omega))
    rcases zif_iff q with ⟨q1, -⟩ | ⟨-, q1⟩
    · rw [w2, zbeqT q1] at hg
      exact absurd hg (by decide)
    · obtain ⟨q2, -⟩ := zand_iff q1
      obtain ⟨-, q3⟩ := zand_iff q2
      have q3 := zbleT q3
      rw [w1, xsg_n (by omega)]
      omega
  · left
    exact h i (by omega) i1
def xΦcl0 (x : Nat → Int) (_ : zyEm) : Prop := 1 ≤ x 0 ∧ x 0 ≤ 4 ∧ 1 ≤ x 1 ∧ x 1 ≤ 5
def xΦcl0_ (rc : Nat × Nat) (x : Nat → Int) (_ : zyEm) : Prop := x 0 = rc.1 ∧ x 1 = rc.2
def xΨcl0 (x : Nat → Int) (E E2 : zyEm) (_ : Int) : Prop := xAb0 E2 (pClr (x 0) (x 1)) ∧ xGeo0 E2 (x 0).toNat (x 1).toNat ∧ xJk0 E E2
noncomputable def zxfcl0_11_ar0 : zyXp := (0, [], [], [], [(34359738369, 2147483649, 2147483649), (68719476737, 2147483649, 2147483649)], [(32768, 34359738369), (32769, 68719476737), (32770, 32), (32771, 0), (16389, 0), (16392, 0), (262145, 0), (49152, 8), (49153, 16), (49154, 24), (49155, 0), (65536, 34359738360), (65537, 34359738360), (65538, 34359738360), (65539, 34359738360), (81920, 34359738360), (81921, 34359738360), (81922, 34359738360), (81923, 34359738360), (98304, 0), (98305, 8), (98306, 0), (98307, 34359738360), (114688, 34359738360), (114689, 0), (114690, 8), (114691, 0), (163840, 0), (163841, 0), (163842, 0), (163843, 0), (163844, 0), (163845, 0), (163846, 0), (163847, 0), (163848, 0), (163849, 0), (163850, 0), (163851, 0), (163852, 0), (163853, 0), (163854, 0), (163855, 0), (163856, 0), (163857, 0), (163858, 0), (163859, 0), (163860, 0), (163861, 0), (163862, 0), (163863, 0), (163864, 0), (163865, 0), (163866, 0), (163867, 0), (163868, 0), (163869, 0), (163870, 0), (180224, 8), (180225, 8), (180226, 8), (180227, 8), (180228, 8), (180229, 8), (180230, 8), (180231, 8), (180232, 8), (180233, 8), (180234, 8), (180235, 8), (180236, 8), (180237, 8), (180238, 8), (180239, 8), (180240, 8), (180241, 8), (180242, 8), (180243, 8), (180244, 8), (180245, 8), (180246, 8), (180247, 8), (180248, 8), (180249, 8), (180250, 8), (180251, 8), (180252, 8), (180253, 8), (180254, 8), (196608, 0), (196609, 0), (196610, 0), (196611, 0), (196612, 0), (196613, 0), (196614, 0), (196615, 0), (196616, 0), (196617, 0), (196618, 0), (196619, 0), (196620, 0), (196621, 0), (196622, 0), (196623, 0), (196624, 0), (196625, 0), (196626, 0), (196627, 0), (196628, 0), (196629, 0), (196630, 0), (196631, 0), (196632, 0), (196633, 0), (196634, 0), (196635, 0), (196636, 0), (196637, 0), (196638, 0), (212992, 0), (212993, 0), (212994, 0), (212995, 0), (212996, 0), (212997, 0), (212998, 0), (212999, 0), (213000, 0), (213001, 0), (213002, 0), (213003, 0), (213004, 0), (213005, 0), (213006, 0), (213007, 0), (213008, 0), (213009, 0), (213010, 0), (213011, 0), (213012, 0), (213013, 0), (213014, 0), (213015, 0), (213016, 0), (213017, 0), (213018, 0), (213019, 0), (213020, 0), (213021, 0), (213022, 0)])
noncomputable def zpfcl0_11_a : zyPh := (0, [11, 34359738369, 68719476737, 13], [(0, 4294967295), (2147483649, 2147483649), (2147483649, 2147483649), (0, 4294967295)], [], [])
noncomputable def zpfcl0_11 (i : Nat) : zyPh := zpfcl0_11_a
noncomputable def zXfcl0_11 (i : Nat) : List zyXp := []
noncomputable def zRfcl0_11 (i : Nat) : List zyXp := [zxfcl0_11_ar0]
noncomputable def zFfcl0_11 (i : Nat) : zyR := [(1, 5, 5), (1, 8, 8), (2, 0, 3), (3, 0, 3), (4, 0, 3), (5, 0, 3), (6, 0, 3), (7, 0, 3), (8, 0, 30), (9, 0, 30), (10, 0, 30), (11, 0, 30), (12, 0, 30), (13, 0, 30), (16, 1, 1)]
noncomputable def zSfcl0_11 (i : Nat) : Nat := 0
theorem zyfcl0_11_geo : xgeoB0 (zxfcl0_11_ar0).2.2.2.2.2 1 1 = true := by decide +kernel
noncomputable def fpfcl0_11 : zyR := [(1, 5, 5), (1, 8, 8), (2, 0, 3), (3, 0, 79), (4, 0, 79), (5, 0, 79), (6, 0, 79), (7, 0, 79), (8, 0, 30), (9, 0, 30), (10, 0, 30), (11, 0, 30), (12, 0, 30), (13, 0, 30), (16, 1, 1)]
theorem zyfcl0_11_run : zyrS zymc zxi31 (31, 0, 0, 0, 0) 3 zpfcl0_11 (fun _ _ => []) zFfcl0_11 zSfcl0_11 zXfcl0_11 zRfcl0_11 1 = true := by decide +kernel
theorem zyfcl0_11_ck : zyAll (fun i => xsubR (zFfcl0_11 i) fpfcl0_11 && ((zXfcl0_11 i).all xckX && (zRfcl0_11 i).all (fun x => xckX x && xrtB false x))) 1 = true := by decide +kernel
def xIfcl0_11 (i : Nat) (x0 : Nat → Int) (E0 : zyEm) (v : Nat → Int) (E : zyEm) : Prop := (E = E0)
def xMfcl0_11 (i : Nat) (x0 : Nat → Int) (E0 : zyEm) (v : Nat → Int) (E : zyEm) : Nat := (0)
theorem xCl0_11 {l : Launch} {en : zEn} {me : zMe} (hen : zG zxMeta 31 = some en) (hme : zG zMeth 31 = some me) : xFc l zymc en me 3 [1] 2 fpfcl0_11 false (xΦcl0_ (1, 1)) xΨcl0 := by
  have een : zG zxMeta 31 = some (zxi31, 3, 4, 3, 31, 0, 0, 0, 0) := rfl
  obtain ⟨me1, hme1, hOK⟩ := zall hen
  rw [hme] at hme1
  cases hme1
  rw [een] at hen
  cases hen
  have hr := zyfcl0_11_run
  have hck := fun i hi => zyAll_iff zyfcl0_11_ck i hi
  simp only [Bool.and_eq_true] at hck
  intro B
  refine xcut (mi := zymc) (B := B) hOK rfl rfl (ι := Fin 1) (fun i => zpfcl0_11 i.val) (fun _ _ => []) (fun i => zFfcl0_11 i.val) (fun i => zSfcl0_11 i.val) (fun i => zXfcl0_11 i.val) (fun i => zRfcl0_11 i.val) (fun i y2 ct en2 me2 h => by cases h) 200000 (fun i => zyAll_iff hr i.val i.isLt) (fun i => (hck i.val i.isLt).1) (fun i => (hck i.val i.isLt).2.1) (fun i => (hck i.val i.isLt).2.2) ⟨0, by decide⟩ ⟨rfl, rfl, rfl, rfl⟩ ⟨by decide, by decide⟩ (fun i x0 E0 v E => xIfcl0_11 i.val x0 E0 v E) (fun i x0 E0 v E => xMfcl0_11 i.val x0 E0 v E) ?_ ?_ ?_
  · intro x0 E hx0 hT hΦ
    have hΦ : (xΦcl0_ (1, 1)) x0 E := hΦ
    refine ⟨fun k p hp => ?_, ?_⟩
    · have hk : k < 4 := (List.getElem?_eq_some_iff.mp hp).1
      have hk : k = 0 ∨ k = 1 ∨ k = 2 ∨ k = 3 := by omega
      rcases hk with rfl | rfl | rfl | rfl
      · have hp : some (0, 4294967295) = some p := hp
        cases hp
        show ((0 : Nat) : Int) ≤ 0 + 2147483648 ∧ 0 + 2147483648 ≤ ((4294967295 : Nat) : Int)
        omega
      · have hp : some (2147483649, 2147483649) = some p := hp
        cases hp
        show ((2147483649 : Nat) : Int) ≤ x0 0 + 2147483648 ∧ x0 0 + 2147483648 ≤ ((2147483649 : Nat) : Int)
        have hx := hx0 0
        have hP1 : x0 0 = ((1 : Nat) : Int) := hΦ.1
        have hP2 : x0 1 = ((1 : Nat) : Int) := hΦ.2
        omega
      · have hp : some (2147483649, 2147483649) = some p := hp
        cases hp
        show ((2147483649 : Nat) : Int) ≤ x0 1 + 2147483648 ∧ x0 1 + 2147483648 ≤ ((2147483649 : Nat) : Int)
        have hx := hx0 1
        have hP1 : x0 0 = ((1 : Nat) : Int) := hΦ.1
        have hP2 : x0 1 = ((1 : Nat) : Int) := hΦ.2
        omega
      · have hp : some (0, 4294967295) = some p := hp
        cases hp
        show ((0 : Nat) : Int) ≤ x0 2 + 2147483648 ∧ x0 2 + 2147483648 ≤ ((4294967295 : Nat) : Int)
        have hx := hx0 2
        omega
    · show E = E
      rfl
  · intro x0 s Wg hRu hrx hT0 hΦ i v H hT hrv hInv hKc hFr0 hIH x hx ρ2 v2 N2 H2 locs lsB stA hAt hB hv hr2 hXs hag hfr hFr hT2
    rcases i with ⟨i, hi⟩
    have hi2 : i = 0 := by omega
    rcases hi2 with rfl
    · cases hx
  · intro x0 E0 E E2 hrx hT0 hΦ i v hT hrv hInv hKc hFr0 x hx v2 hr2 hXs hag hfr hFr hT2
    rcases i with ⟨i, hi⟩
    have hi2 : i = 0 := by omega
    rcases hi2 with rfl
    · have hx : x ∈ [zxfcl0_11_ar0] := hx
      have hag : ∀ k, k < 4 → v2 k = v k := hag
      have hfr : xFr [(1, 5, 5), (1, 8, 8), (2, 0, 3), (3, 0, 3), (4, 0, 3), (5, 0, 3), (6, 0, 3), (7, 0, 3), (8, 0, 30), (9, 0, 30), (10, 0, 30), (11, 0, 30), (12, 0, 30), (13, 0, 30), (16, 1, 1)] _ _ := hfr
      have ex := List.mem_singleton.mp hx
      subst ex
      obtain ⟨hF, hBd, hM⟩ := hXs
      have g1 : v2 1 = v 1 := hag 1 (by decide)
      have g2 : v2 2 = v 2 := hag 2 (by decide)
      have b0 : ((2147483649 : Nat) : Int) ≤ (v2 1) + 2147483648 ∧ (v2 1) + 2147483648 ≤ ((2147483649 : Nat) : Int) := xXb hBd 0 rfl
      have b1 : ((2147483649 : Nat) : Int) ≤ (v2 2) + 2147483648 ∧ (v2 2) + 2147483648 ≤ ((2147483649 : Nat) : Int) := xXb hBd 1 rfl
      have m0 : xE E2 2 0 = (v2 1) := xXm hM 0 rfl
      have m1 : xE E2 2 1 = (v2 2) := xXm hM 1 rfl
      have hI : E = E0 := hInv
      show xΨcl0 x0 E0 E2 0
      have hP := hΦ
      have hP1 : x0 0 = ((1 : Nat) : Int) := hP.1
      have hP2 : x0 1 = ((1 : Nat) : Int) := hP.2
      unfold xΨcl0
      rw [hP1, hP2]
      obtain ⟨A, G⟩ := xGeo0_of hM (by decide) (by decide) (by decide) (by decide) (by decide) (by decide) zyfcl0_11_geo (by omega) (by omega) (by decide +kernel) (by decide +kernel)
      subst hI
      exact ⟨A, G, xJk0_of (by decide) (by decide) (by decide) (by decide) (by decide) G (fun i h1 h2 => by
        have h1 : ((4 : Nat) : Int) ≤ i := h1
        exact ⟨xFr_E hfr (xin_no (lo := 4) (by decide) (by omega)), xFr_E hfr (xin_no (lo := 4) (by decide) (by omega))⟩)⟩
noncomputable def zxfcl0_12_ar0 : zyXp := (0, [], [], [], [(34359738369, 2147483649, 2147483649), (68719476737, 2147483650, 2147483650)], [(32768, 34359738369), (32769, 68719476737), (32770, 64), (32771, 8), (16389, 0), (16392, 0), (262145, 0), (49152, 8), (49153, 16), (49154, 24), (49155, 0), (49156, 56), (49157, 32), (49158, 40), (49159, 48), (65536, 34359738360), (65537, 56), (65538, 34359738360), (65539, 34359738360), (65540, 34359738360), (65541, 34359738360), (65542, 34359738360), (65543, 8), (81920, 34359738360), (81921, 0), (81922, 34359738360), (81923, 34359738360), (81924, 34359738360), (81925, 34359738360), (81926, 34359738360), (81927, 0), (98304, 0), (98305, 8), (98306, 0), (98307, 34359738360), (98308, 16), (98309, 24), (98310, 16), (98311, 8), (114688, 34359738360), (114689, 0), (114690, 8), (114691, 0), (114692, 34359738360), (114693, 0), (114694, 8), (114695, 0), (131072, 8), (147456, 56), (163840, 0), (163841, 0), (163842, 0), (163843, 0), (163844, 0), (163845, 0), (163846, 0), (163847, 0), (163848, 0), (163849, 0), (163850, 0), (163851, 0), (163852, 0), (163853, 0), (163854, 0), (163855, 0), (163856, 0), (163857, 0), (163858, 0), (163859, 0), (163860, 0), (163861, 0), (163862, 0), (163863, 0), (163864, 0), (163865, 0), (163866, 0), (163867, 0), (163868, 0), (163869, 0), (163870, 0), (180224, 8), (180225, 8), (180226, 8), (180227, 8), (180228, 8), (180229, 8), (180230, 8), (180231, 8), (180232, 8), (180233, 8), (180234, 8), (180235, 8), (180236, 8), (180237, 8), (180238, 8), (180239, 8), (180240, 8), (180241, 8), (180242, 8), (180243, 8), (180244, 8), (180245, 8), (180246, 8), (180247, 8), (180248, 8), (180249, 8), (180250, 8), (180251, 8), (180252, 8), (180253, 8), (180254, 8), (196608, 0), (196609, 0), (196610, 0), (196611, 0), (196612, 0), (196613, 0), (196614, 0), (196615, 0), (196616, 0), (196617, 0), (196618, 0), (196619, 0), (196620, 0), (196621, 0), (196622, 0), (196623, 0), (196624, 0), (196625, 0), (196626, 0), (196627, 0), (196628, 0), (196629, 0), (196630, 0), (196631, 0), (196632, 0), (196633, 0), (196634, 0), (196635, 0), (196636, 0), (196637, 0), (196638, 0), (212992, 0), (212993, 0), (212994, 0), (212995, 0), (212996, 0), (212997, 0), (212998, 0), (212999, 0), (213000, 0), (213001, 0), (213002, 0), (213003, 0), (213004, 0), (213005, 0), (213006, 0), (213007, 0), (213008, 0), (213009, 0), (213010, 0), (213011, 0), (213012, 0), (213013, 0), (213014, 0), (213015, 0), (213016, 0), (213017, 0), (213018, 0), (213019, 0), (213020, 0), (213021, 0), (213022, 0)])
noncomputable def zpfcl0_12_a : zyPh := (0, [11, 34359738369, 68719476737, 13], [(0, 4294967295), (2147483649, 2147483649), (2147483650, 2147483650), (0, 4294967295)], [], [])
noncomputable def zpfcl0_12 (i : Nat) : zyPh := zpfcl0_12_a
noncomputable def zXfcl0_12 (i : Nat) : List zyXp := []
noncomputable def zRfcl0_12 (i : Nat) : List zyXp := [zxfcl0_12_ar0]
noncomputable def zFfcl0_12 (i : Nat) : zyR := [(1, 5, 5), (1, 8, 8), (2, 0, 3), (3, 0, 7), (4, 0, 7), (5, 0, 7), (6, 0, 7), (7, 0, 7), (8, 0, 30), (9, 0, 30), (10, 0, 30), (11, 0, 30), (12, 0, 30), (13, 0, 30), (16, 1, 1)]
noncomputable def zSfcl0_12 (i : Nat) : Nat := 0
theorem zyfcl0_12_geo : xgeoB0 (zxfcl0_12_ar0).2.2.2.2.2 1 2 = true := by decide +kernel
noncomputable def fpfcl0_12 : zyR := [(1, 5, 5), (1, 8, 8), (2, 0, 3), (3, 0, 79), (4, 0, 79), (5, 0, 79), (6, 0, 79), (7, 0, 79), (8, 0, 30), (9, 0, 30), (10, 0, 30), (11, 0, 30), (12, 0, 30), (13, 0, 30), (16, 1, 1)]
theorem zyfcl0_12_run : zyrS zymc zxi31 (31, 0, 0, 0, 0) 3 zpfcl0_12 (fun _ _ => []) zFfcl0_12 zSfcl0_12 zXfcl0_12 zRfcl0_12 1 = true := by decide +kernel
theorem zyfcl0_12_ck : zyAll (fun i => xsubR (zFfcl0_12 i) fpfcl0_12 && ((zXfcl0_12 i).all xckX && (zRfcl0_12 i).all (fun x => xckX x && xrtB false x))) 1 = true := by decide +kernel
def xIfcl0_12 (i : Nat) (x0 : Nat → Int) (E0 : zyEm) (v : Nat → Int) (E : zyEm) : Prop := (E = E0)
def xMfcl0_12 (i : Nat) (x0 : Nat → Int) (E0 : zyEm) (v : Nat → Int) (E : zyEm) : Nat := (0)
theorem xCl0_12 {l : Launch} {en : zEn} {me : zMe} (hen : zG zxMeta 31 = some en) (hme : zG zMeth 31 = some me) : xFc l zymc en me 3 [1] 2 fpfcl0_12 false (xΦcl0_ (1, 2)) xΨcl0 := by
  have een : zG zxMeta 31 = some (zxi31, 3, 4, 3, 31, 0, 0, 0, 0) := rfl
  obtain ⟨me1, hme1, hOK⟩ := zall hen
  rw [hme] at hme1
  cases hme1
  rw [een] at hen
  cases hen
  have hr := zyfcl0_12_run
  have hck := fun i hi => zyAll_iff zyfcl0_12_ck i hi
  simp only [Bool.and_eq_true] at hck
  intro B
  refine xcut (mi := zymc) (B := B) hOK rfl rfl (ι := Fin 1) (fun i => zpfcl0_12 i.val) (fun _ _ => []) (fun i => zFfcl0_12 i.val) (fun i => zSfcl0_12 i.val) (fun i => zXfcl0_12 i.val) (fun i => zRfcl0_12 i.val) (fun i y2 ct en2 me2 h => by cases h) 200000 (fun i => zyAll_iff hr i.val i.isLt) (fun i => (hck i.val i.isLt).1) (fun i => (hck i.val i.isLt).2.1) (fun i => (hck i.val i.isLt).2.2) ⟨0, by decide⟩ ⟨rfl, rfl, rfl, rfl⟩ ⟨by decide, by decide⟩ (fun i x0 E0 v E => xIfcl0_12 i.val x0 E0 v E) (fun i x0 E0 v E => xMfcl0_12 i.val x0 E0 v E) ?_ ?_ ?_
  · intro x0 E hx0 hT hΦ
    have hΦ : (xΦcl0_ (1, 2)) x0 E := hΦ
    refine ⟨fun k p hp => ?_, ?_⟩
    · have hk : k < 4 := (List.getElem?_eq_some_iff.mp hp).1
      have hk : k = 0 ∨ k = 1 ∨ k = 2 ∨ k = 3 := by omega
      rcases hk with rfl | rfl | rfl | rfl
      · have hp : some (0, 4294967295) = some p := hp
        cases hp
        show ((0 : Nat) : Int) ≤ 0 + 2147483648 ∧ 0 + 2147483648 ≤ ((4294967295 : Nat) : Int)
        omega
      · have hp : some (2147483649, 2147483649) = some p := hp
        cases hp
        show ((2147483649 : Nat) : Int) ≤ x0 0 + 2147483648 ∧ x0 0 + 2147483648 ≤ ((2147483649 : Nat) : Int)
        have hx := hx0 0
        have hP1 : x0 0 = ((1 : Nat) : Int) := hΦ.1
        have hP2 : x0 1 = ((2 : Nat) : Int) := hΦ.2
        omega
      · have hp : some (2147483650, 2147483650) = some p := hp
        cases hp
        show ((2147483650 : Nat) : Int) ≤ x0 1 + 2147483648 ∧ x0 1 + 2147483648 ≤ ((2147483650 : Nat) : Int)
        have hx := hx0 1
        have hP1 : x0 0 = ((1 : Nat) : Int) := hΦ.1
        have hP2 : x0 1 = ((2 : Nat) : Int) := hΦ.2
        omega
      · have hp : some (0, 4294967295) = some p := hp
        cases hp
        show ((0 : Nat) : Int) ≤ x0 2 + 2147483648 ∧ x0 2 + 2147483648 ≤ ((4294967295 : Nat) : Int)
        have hx := hx0 2
        omega
    · show E = E
      rfl
  · intro x0 s Wg hRu hrx hT0 hΦ i v H hT hrv hInv hKc hFr0 hIH x hx ρ2 v2 N2 H2 locs lsB stA hAt hB hv hr2 hXs hag hfr hFr hT2
    rcases i with ⟨i, hi⟩
    have hi2 : i = 0 := by omega
    rcases hi2 with rfl
    · cases hx
  · intro x0 E0 E E2 hrx hT0 hΦ i v hT hrv hInv hKc hFr0 x hx v2 hr2 hXs hag hfr hFr hT2
    rcases i with ⟨i, hi⟩
    have hi2 : i = 0 := by omega
    rcases hi2 with rfl
    · have hx : x ∈ [zxfcl0_12_ar0] := hx
      have hag : ∀ k, k < 4 → v2 k = v k := hag
      have hfr : xFr [(1, 5, 5), (1, 8, 8), (2, 0, 3), (3, 0, 7), (4, 0, 7), (5, 0, 7), (6, 0, 7), (7, 0, 7), (8, 0, 30), (9, 0, 30), (10, 0, 30), (11, 0, 30), (12, 0, 30), (13, 0, 30), (16, 1, 1)] _ _ := hfr
      have ex := List.mem_singleton.mp hx
      subst ex
      obtain ⟨hF, hBd, hM⟩ := hXs
      have g1 : v2 1 = v 1 := hag 1 (by decide)
      have g2 : v2 2 = v 2 := hag 2 (by decide)
      have b0 : ((2147483649 : Nat) : Int) ≤ (v2 1) + 2147483648 ∧ (v2 1) + 2147483648 ≤ ((2147483649 : Nat) : Int) := xXb hBd 0 rfl
      have b1 : ((2147483650 : Nat) : Int) ≤ (v2 2) + 2147483648 ∧ (v2 2) + 2147483648 ≤ ((2147483650 : Nat) : Int) := xXb hBd 1 rfl
      have m0 : xE E2 2 0 = (v2 1) := xXm hM 0 rfl
      have m1 : xE E2 2 1 = (v2 2) := xXm hM 1 rfl
      have hI : E = E0 := hInv
      show xΨcl0 x0 E0 E2 0
      have hP := hΦ
      have hP1 : x0 0 = ((1 : Nat) : Int) := hP.1
      have hP2 : x0 1 = ((2 : Nat) : Int) := hP.2
      unfold xΨcl0
      rw [hP1, hP2]
      obtain ⟨A, G⟩ := xGeo0_of hM (by decide) (by decide) (by decide) (by decide) (by decide) (by decide) zyfcl0_12_geo (by omega) (by omega) (by decide +kernel) (by decide +kernel)
      subst hI
      exact ⟨A, G, xJk0_of (by decide) (by decide) (by decide) (by decide) (by decide) G (fun i h1 h2 => by
        have h1 : ((8 : Nat) : Int) ≤ i := h1
        exact ⟨xFr_E hfr (xin_no (lo := 8) (by decide) (by omega)), xFr_E hfr (xin_no (lo := 8) (by decide) (by omega))⟩)⟩
noncomputable def zxfcl0_13_ar0 : zyXp := (0, [], [], [], [(34359738369, 2147483649, 2147483649), (68719476737, 2147483651, 2147483651)], [(32768, 34359738369), (32769, 68719476737), (32770, 96), (32771, 16), (16389, 0), (16392, 0), (262145, 0), (49152, 8), (49153, 16), (49154, 24), (49155, 0), (49156, 56), (49157, 32), (49158, 40), (49159, 48), (49160, 72), (49161, 80), (49162, 88), (49163, 64), (65536, 34359738360), (65537, 56), (65538, 34359738360), (65539, 34359738360), (65540, 34359738360), (65541, 88), (65542, 34359738360), (65543, 8), (65544, 34359738360), (65545, 34359738360), (65546, 34359738360), (65547, 40), (81920, 34359738360), (81921, 0), (81922, 34359738360), (81923, 34359738360), (81924, 34359738360), (81925, 8), (81926, 34359738360), (81927, 0), (81928, 34359738360), (81929, 34359738360), (81930, 34359738360), (81931, 8), (98304, 0), (98305, 8), (98306, 0), (98307, 34359738360), (98308, 16), (98309, 24), (98310, 16), (98311, 8), (98312, 32), (98313, 40), (98314, 32), (98315, 24), (114688, 34359738360), (114689, 0), (114690, 8), (114691, 0), (114692, 34359738360), (114693, 0), (114694, 8), (114695, 0), (114696, 34359738360), (114697, 0), (114698, 8), (114699, 0), (131072, 8), (131073, 40), (147456, 56), (147457, 88), (163840, 0), (163841, 0), (163842, 0), (163843, 0), (163844, 0), (163845, 0), (163846, 0), (163847, 0), (163848, 0), (163849, 0), (163850, 0), (163851, 0), (163852, 0), (163853, 0), (163854, 0), (163855, 0), (163856, 0), (163857, 0), (163858, 0), (163859, 0), (163860, 0), (163861, 0), (163862, 0), (163863, 0), (163864, 0), (163865, 0), (163866, 0), (163867, 0), (163868, 0), (163869, 0), (163870, 0), (180224, 8), (180225, 8), (180226, 8), (180227, 8), (180228, 8), (180229, 8), (180230, 8), (180231, 8), (180232, 8), (180233, 8), (180234, 8), (180235, 8), (180236, 8), (180237, 8), (180238, 8), (180239, 8), (180240, 8), (180241, 8), (180242, 8), (180243, 8), (180244, 8), (180245, 8), (180246, 8), (180247, 8), (180248, 8), (180249, 8), (180250, 8), (180251, 8), (180252, 8), (180253, 8), (180254, 8), (196608, 0), (196609, 0), (196610, 0), (196611, 0), (196612, 0), (196613, 0), (196614, 0), (196615, 0), (196616, 0), (196617, 0), (196618, 0), (196619, 0), (196620, 0), (196621, 0), (196622, 0), (196623, 0), (196624, 0), (196625, 0), (196626, 0), (196627, 0), (196628, 0), (196629, 0), (196630, 0), (196631, 0), (196632, 0), (196633, 0), (196634, 0), (196635, 0), (196636, 0), (196637, 0), (196638, 0), (212992, 0), (212993, 0), (212994, 0), (212995, 0), (212996, 0), (212997, 0), (212998, 0), (212999, 0), (213000, 0), (213001, 0), (213002, 0), (213003, 0), (213004, 0), (213005, 0), (213006, 0), (213007, 0), (213008, 0), (213009, 0), (213010, 0), (213011, 0), (213012, 0), (213013, 0), (213014, 0), (213015, 0), (213016, 0), (213017, 0), (213018, 0), (213019, 0), (213020, 0), (213021, 0), (213022, 0)])
noncomputable def zpfcl0_13_a : zyPh := (0, [11, 34359738369, 68719476737, 13], [(0, 4294967295), (2147483649, 2147483649), (2147483651, 2147483651), (0, 4294967295)], [], [])
noncomputable def zpfcl0_13 (i : Nat) : zyPh := zpfcl0_13_a
noncomputable def zXfcl0_13 (i : Nat) : List zyXp := []
noncomputable def zRfcl0_13 (i : Nat) : List zyXp := [zxfcl0_13_ar0]
noncomputable def zFfcl0_13 (i : Nat) : zyR := [(1, 5, 5), (1, 8, 8), (2, 0, 3), (3, 0, 11), (4, 0, 11), (5, 0, 11), (6, 0, 11), (7, 0, 11), (8, 0, 30), (9, 0, 30), (10, 0, 30), (11, 0, 30), (12, 0, 30), (13, 0, 30), (16, 1, 1)]
noncomputable def zSfcl0_13 (i : Nat) : Nat := 0
theorem zyfcl0_13_geo : xgeoB0 (zxfcl0_13_ar0).2.2.2.2.2 1 3 = true := by decide +kernel
noncomputable def fpfcl0_13 : zyR := [(1, 5, 5), (1, 8, 8), (2, 0, 3), (3, 0, 79), (4, 0, 79), (5, 0, 79), (6, 0, 79), (7, 0, 79), (8, 0, 30), (9, 0, 30), (10, 0, 30), (11, 0, 30), (12, 0, 30), (13, 0, 30), (16, 1, 1)]
theorem zyfcl0_13_run : zyrS zymc zxi31 (31, 0, 0, 0, 0) 3 zpfcl0_13 (fun _ _ => []) zFfcl0_13 zSfcl0_13 zXfcl0_13 zRfcl0_13 1 = true := by decide +kernel
theorem zyfcl0_13_ck : zyAll (fun i => xsubR (zFfcl0_13 i) fpfcl0_13 && ((zXfcl0_13 i).all xckX && (zRfcl0_13 i).all (fun x => xckX x && xrtB false x))) 1 = true := by decide +kernel
def xIfcl0_13 (i : Nat) (x0 : Nat → Int) (E0 : zyEm) (v : Nat → Int) (E : zyEm) : Prop := (E = E0)
def xMfcl0_13 (i : Nat) (x0 : Nat → Int) (E0 : zyEm) (v : Nat → Int) (E : zyEm) : Nat := (0)
theorem xCl0_13 {l : Launch} {en : zEn} {me : zMe} (hen : zG zxMeta 31 = some en) (hme : zG zMeth 31 = some me) : xFc l zymc en me 3 [1] 2 fpfcl0_13 false (xΦcl0_ (1, 3)) xΨcl0 := by
  have een : zG zxMeta 31 = some (zxi31, 3, 4, 3, 31, 0, 0, 0, 0) := rfl
  obtain ⟨me1, hme1, hOK⟩ := zall hen
  rw [hme] at hme1
  cases hme1
  rw [een] at hen
  cases hen
  have hr := zyfcl0_13_run
  have hck := fun i hi => zyAll_iff zyfcl0_13_ck i hi
  simp only [Bool.and_eq_true] at hck
  intro B
  refine xcut (mi := zymc) (B := B) hOK rfl rfl (ι := Fin 1) (fun i => zpfcl0_13 i.val) (fun _ _ => []) (fun i => zFfcl0_13 i.val) (fun i => zSfcl0_13 i.val) (fun i => zXfcl0_13 i.val) (fun i => zRfcl0_13 i.val) (fun i y2 ct en2 me2 h => by cases h) 200000 (fun i => zyAll_iff hr i.val i.isLt) (fun i => (hck i.val i.isLt).1) (fun i => (hck i.val i.isLt).2.1) (fun i => (hck i.val i.isLt).2.2) ⟨0, by decide⟩ ⟨rfl, rfl, rfl, rfl⟩ ⟨by decide, by decide⟩ (fun i x0 E0 v E => xIfcl0_13 i.val x0 E0 v E) (fun i x0 E0 v E => xMfcl0_13 i.val x0 E0 v E) ?_ ?_ ?_
  · intro x0 E hx0 hT hΦ
    have hΦ : (xΦcl0_ (1, 3)) x0 E := hΦ
    refine ⟨fun k p hp => ?_, ?_⟩
    · have hk : k < 4 := (List.getElem?_eq_some_iff.mp hp).1
      have hk : k = 0 ∨ k = 1 ∨ k = 2 ∨ k = 3 := by omega
      rcases hk with rfl | rfl | rfl | rfl
      · have hp : some (0, 4294967295) = some p := hp
        cases hp
        show ((0 : Nat) : Int) ≤ 0 + 2147483648 ∧ 0 + 2147483648 ≤ ((4294967295 : Nat) : Int)
        omega
      · have hp : some (2147483649, 2147483649) = some p := hp
        cases hp
        show ((2147483649 : Nat) : Int) ≤ x0 0 + 2147483648 ∧ x0 0 + 2147483648 ≤ ((2147483649 : Nat) : Int)
        have hx := hx0 0
        have hP1 : x0 0 = ((1 : Nat) : Int) := hΦ.1
        have hP2 : x0 1 = ((3 : Nat) : Int) := hΦ.2
        omega
      · have hp : some (2147483651, 2147483651) = some p := hp
        cases hp
        show ((2147483651 : Nat) : Int) ≤ x0 1 + 2147483648 ∧ x0 1 + 2147483648 ≤ ((2147483651 : Nat) : Int)
        have hx := hx0 1
        have hP1 : x0 0 = ((1 : Nat) : Int) := hΦ.1
        have hP2 : x0 1 = ((3 : Nat) : Int) := hΦ.2
        omega
      · have hp : some (0, 4294967295) = some p := hp
        cases hp
        show ((0 : Nat) : Int) ≤ x0 2 + 2147483648 ∧ x0 2 + 2147483648 ≤ ((4294967295 : Nat) : Int)
        have hx := hx0 2
        omega
    · show E = E
      rfl
  · intro x0 s Wg hRu hrx hT0 hΦ i v H hT hrv hInv hKc hFr0 hIH x hx ρ2 v2 N2 H2 locs lsB stA hAt hB hv hr2 hXs hag hfr hFr hT2
    rcases i with ⟨i, hi⟩
    have hi2 : i = 0 := by omega
    rcases hi2 with rfl
    · cases hx
  · intro x0 E0 E E2 hrx hT0 hΦ i v hT hrv hInv hKc hFr0 x hx v2 hr2 hXs hag hfr hFr hT2
    rcases i with ⟨i, hi⟩
    have hi2 : i = 0 := by omega
    rcases hi2 with rfl
    · have hx : x ∈ [zxfcl0_13_ar0] := hx
      have hag : ∀ k, k < 4 → v2 k = v k := hag
      have hfr : xFr [(1, 5, 5), (1, 8, 8), (2, 0, 3), (3, 0, 11), (4, 0, 11), (5, 0, 11), (6, 0, 11), (7, 0, 11), (8, 0, 30), (9, 0, 30), (10, 0, 30), (11, 0, 30), (12, 0, 30), (13, 0, 30), (16, 1, 1)] _ _ := hfr
      have ex := List.mem_singleton.mp hx
      subst ex
      obtain ⟨hF, hBd, hM⟩ := hXs
      have g1 : v2 1 = v 1 := hag 1 (by decide)
      have g2 : v2 2 = v 2 := hag 2 (by decide)
      have b0 : ((2147483649 : Nat) : Int) ≤ (v2 1) + 2147483648 ∧ (v2 1) + 2147483648 ≤ ((2147483649 : Nat) : Int) := xXb hBd 0 rfl
      have b1 : ((2147483651 : Nat) : Int) ≤ (v2 2) + 2147483648 ∧ (v2 2) + 2147483648 ≤ ((2147483651 : Nat) : Int) := xXb hBd 1 rfl
      have m0 : xE E2 2 0 = (v2 1) := xXm hM 0 rfl
      have m1 : xE E2 2 1 = (v2 2) := xXm hM 1 rfl
      have hI : E = E0 := hInv
      show xΨcl0 x0 E0 E2 0
      have hP := hΦ
      have hP1 : x0 0 = ((1 : Nat) : Int) := hP.1
      have hP2 : x0 1 = ((3 : Nat) : Int) := hP.2
      unfold xΨcl0
      rw [hP1, hP2]
      obtain ⟨A, G⟩ := xGeo0_of hM (by decide) (by decide) (by decide) (by decide) (by decide) (by decide) zyfcl0_13_geo (by omega) (by omega) (by decide +kernel) (by decide +kernel)
      subst hI
      exact ⟨A, G, xJk0_of (by decide) (by decide) (by decide) (by decide) (by decide) G (fun i h1 h2 => by
        have h1 : ((12 : Nat) : Int) ≤ i := h1
        exact ⟨xFr_E hfr (xin_no (lo := 12) (by decide) (by omega)), xFr_E hfr (xin_no (lo := 12) (by decide) (by omega))⟩)⟩
noncomputable def zxfcl0_14_ar0 : zyXp := (0, [], [], [], [(34359738369, 2147483649, 2147483649), (68719476737, 2147483652, 2147483652)], [(32768, 34359738369), (32769, 68719476737), (32770, 128), (32771, 24), (16389, 0), (16392, 0), (262145, 0), (49152, 8), (49153, 16), (49154, 24), (49155, 0), (49156, 56), (49157, 32), (49158, 40), (49159, 48), (49160, 72), (49161, 80), (49162, 88), (49163, 64), (49164, 120), (49165, 96), (49166, 104), (49167, 112), (65536, 34359738360), (65537, 56), (65538, 34359738360), (65539, 34359738360), (65540, 34359738360), (65541, 88), (65542, 34359738360), (65543, 8), (65544, 34359738360), (65545, 120), (65546, 34359738360), (65547, 40), (65548, 34359738360), (65549, 34359738360), (65550, 34359738360), (65551, 72), (81920, 34359738360), (81921, 0), (81922, 34359738360), (81923, 34359738360), (81924, 34359738360), (81925, 8), (81926, 34359738360), (81927, 0), (81928, 34359738360), (81929, 16), (81930, 34359738360), (81931, 8), (81932, 34359738360), (81933, 34359738360), (81934, 34359738360), (81935, 16), (98304, 0), (98305, 8), (98306, 0), (98307, 34359738360), (98308, 16), (98309, 24), (98310, 16), (98311, 8), (98312, 32), (98313, 40), (98314, 32), (98315, 24), (98316, 48), (98317, 56), (98318, 48), (98319, 40), (114688, 34359738360), (114689, 0), (114690, 8), (114691, 0), (114692, 34359738360), (114693, 0), (114694, 8), (114695, 0), (114696, 34359738360), (114697, 0), (114698, 8), (114699, 0), (114700, 34359738360), (114701, 0), (114702, 8), (114703, 0), (131072, 8), (131073, 40), (131074, 72), (147456, 56), (147457, 88), (147458, 120), (163840, 0), (163841, 0), (163842, 0), (163843, 0), (163844, 0), (163845, 0), (163846, 0), (163847, 0), (163848, 0), (163849, 0), (163850, 0), (163851, 0), (163852, 0), (163853, 0), (163854, 0), (163855, 0), (163856, 0), (163857, 0), (163858, 0), (163859, 0), (163860, 0), (163861, 0), (163862, 0), (163863, 0), (163864, 0), (163865, 0), (163866, 0), (163867, 0), (163868, 0), (163869, 0), (163870, 0), (180224, 8), (180225, 8), (180226, 8), (180227, 8), (180228, 8), (180229, 8), (180230, 8), (180231, 8), (180232, 8), (180233, 8), (180234, 8), (180235, 8), (180236, 8), (180237, 8), (180238, 8), (180239, 8), (180240, 8), (180241, 8), (180242, 8), (180243, 8), (180244, 8), (180245, 8), (180246, 8), (180247, 8), (180248, 8), (180249, 8), (180250, 8), (180251, 8), (180252, 8), (180253, 8), (180254, 8), (196608, 0), (196609, 0), (196610, 0), (196611, 0), (196612, 0), (196613, 0), (196614, 0), (196615, 0), (196616, 0), (196617, 0), (196618, 0), (196619, 0), (196620, 0), (196621, 0), (196622, 0), (196623, 0), (196624, 0), (196625, 0), (196626, 0), (196627, 0), (196628, 0), (196629, 0), (196630, 0), (196631, 0), (196632, 0), (196633, 0), (196634, 0), (196635, 0), (196636, 0), (196637, 0), (196638, 0), (212992, 0), (212993, 0), (212994, 0), (212995, 0), (212996, 0), (212997, 0), (212998, 0), (212999, 0), (213000, 0), (213001, 0), (213002, 0), (213003, 0), (213004, 0), (213005, 0), (213006, 0), (213007, 0), (213008, 0), (213009, 0), (213010, 0), (213011, 0), (213012, 0), (213013, 0), (213014, 0), (213015, 0), (213016, 0), (213017, 0), (213018, 0), (213019, 0), (213020, 0), (213021, 0), (213022, 0)])
noncomputable def zpfcl0_14_a : zyPh := (0, [11, 34359738369, 68719476737, 13], [(0, 4294967295), (2147483649, 2147483649), (2147483652, 2147483652), (0, 4294967295)], [], [])
noncomputable def zpfcl0_14 (i : Nat) : zyPh := zpfcl0_14_a
noncomputable def zXfcl0_14 (i : Nat) : List zyXp := []
noncomputable def zRfcl0_14 (i : Nat) : List zyXp := [zxfcl0_14_ar0]
noncomputable def zFfcl0_14 (i : Nat) : zyR := [(1, 5, 5), (1, 8, 8), (2, 0, 3), (3, 0, 15), (4, 0, 15), (5, 0, 15), (6, 0, 15), (7, 0, 15), (8, 0, 30), (9, 0, 30), (10, 0, 30), (11, 0, 30), (12, 0, 30), (13, 0, 30), (16, 1, 1)]
noncomputable def zSfcl0_14 (i : Nat) : Nat := 0
theorem zyfcl0_14_geo : xgeoB0 (zxfcl0_14_ar0).2.2.2.2.2 1 4 = true := by decide +kernel
noncomputable def fpfcl0_14 : zyR := [(1, 5, 5), (1, 8, 8), (2, 0, 3), (3, 0, 79), (4, 0, 79), (5, 0, 79), (6, 0, 79), (7, 0, 79), (8, 0, 30), (9, 0, 30), (10, 0, 30), (11, 0, 30), (12, 0, 30), (13, 0, 30), (16, 1, 1)]
theorem zyfcl0_14_run : zyrS zymc zxi31 (31, 0, 0, 0, 0) 3 zpfcl0_14 (fun _ _ => []) zFfcl0_14 zSfcl0_14 zXfcl0_14 zRfcl0_14 1 = true := by decide +kernel
theorem zyfcl0_14_ck : zyAll (fun i => xsubR (zFfcl0_14 i) fpfcl0_14 && ((zXfcl0_14 i).all xckX && (zRfcl0_14 i).all (fun x => xckX x && xrtB false x))) 1 = true := by decide +kernel
def xIfcl0_14 (i : Nat) (x0 : Nat → Int) (E0 : zyEm) (v : Nat → Int) (E : zyEm) : Prop := (E = E0)
def xMfcl0_14 (i : Nat) (x0 : Nat → Int) (E0 : zyEm) (v : Nat → Int) (E : zyEm) : Nat := (0)
theorem xCl0_14 {l : Launch} {en : zEn} {me : zMe} (hen : zG zxMeta 31 = some en) (hme : zG zMeth 31 = some me) : xFc l zymc en me 3 [1] 2 fpfcl0_14 false (xΦcl0_ (1, 4)) xΨcl0 := by
  have een : zG zxMeta 31 = some (zxi31, 3, 4, 3, 31, 0, 0, 0, 0) := rfl
  obtain ⟨me1, hme1, hOK⟩ := zall hen
  rw [hme] at hme1
  cases hme1
  rw [een] at hen
  cases hen
  have hr := zyfcl0_14_run
  have hck := fun i hi => zyAll_iff zyfcl0_14_ck i hi
  simp only [Bool.and_eq_true] at hck
  intro B
  refine xcut (mi := zymc) (B := B) hOK rfl rfl (ι := Fin 1) (fun i => zpfcl0_14 i.val) (fun _ _ => []) (fun i => zFfcl0_14 i.val) (fun i => zSfcl0_14 i.val) (fun i => zXfcl0_14 i.val) (fun i => zRfcl0_14 i.val) (fun i y2 ct en2 me2 h => by cases h) 200000 (fun i => zyAll_iff hr i.val i.isLt) (fun i => (hck i.val i.isLt).1) (fun i => (hck i.val i.isLt).2.1) (fun i => (hck i.val i.isLt).2.2) ⟨0, by decide⟩ ⟨rfl, rfl, rfl, rfl⟩ ⟨by decide, by decide⟩ (fun i x0 E0 v E => xIfcl0_14 i.val x0 E0 v E) (fun i x0 E0 v E => xMfcl0_14 i.val x0 E0 v E) ?_ ?_ ?_
  · intro x0 E hx0 hT hΦ
    have hΦ : (xΦcl0_ (1, 4)) x0 E := hΦ
    refine ⟨fun k p hp => ?_, ?_⟩
    · have hk : k < 4 := (List.getElem?_eq_some_iff.mp hp).1
      have hk : k = 0 ∨ k = 1 ∨ k = 2 ∨ k = 3 := by omega
      rcases hk with rfl | rfl | rfl | rfl
      · have hp : some (0, 4294967295) = some p := hp
        cases hp
        show ((0 : Nat) : Int) ≤ 0 + 2147483648 ∧ 0 + 2147483648 ≤ ((4294967295 : Nat) : Int)
        omega
      · have hp : some (2147483649, 2147483649) = some p := hp
        cases hp
        show ((2147483649 : Nat) : Int) ≤ x0 0 + 2147483648 ∧ x0 0 + 2147483648 ≤ ((2147483649 : Nat) : Int)
        have hx := hx0 0
        have hP1 : x0 0 = ((1 : Nat) : Int) := hΦ.1
        have hP2 : x0 1 = ((4 : Nat) : Int) := hΦ.2
        omega
      · have hp : some (2147483652, 2147483652) = some p := hp
        cases hp
        show ((2147483652 : Nat) : Int) ≤ x0 1 + 2147483648 ∧ x0 1 + 2147483648 ≤ ((2147483652 : Nat) : Int)
        have hx := hx0 1
        have hP1 : x0 0 = ((1 : Nat) : Int) := hΦ.1
        have hP2 : x0 1 = ((4 : Nat) : Int) := hΦ.2
        omega
      · have hp : some (0, 4294967295) = some p := hp
        cases hp
        show ((0 : Nat) : Int) ≤ x0 2 + 2147483648 ∧ x0 2 + 2147483648 ≤ ((4294967295 : Nat) : Int)
        have hx := hx0 2
        omega
    · show E = E
      rfl
  · intro x0 s Wg hRu hrx hT0 hΦ i v H hT hrv hInv hKc hFr0 hIH x hx ρ2 v2 N2 H2 locs lsB stA hAt hB hv hr2 hXs hag hfr hFr hT2
    rcases i with ⟨i, hi⟩
    have hi2 : i = 0 := by omega
    rcases hi2 with rfl
    · cases hx
  · intro x0 E0 E E2 hrx hT0 hΦ i v hT hrv hInv hKc hFr0 x hx v2 hr2 hXs hag hfr hFr hT2
    rcases i with ⟨i, hi⟩
    have hi2 : i = 0 := by omega
    rcases hi2 with rfl
    · have hx : x ∈ [zxfcl0_14_ar0] := hx
      have hag : ∀ k, k < 4 → v2 k = v k := hag
      have hfr : xFr [(1, 5, 5), (1, 8, 8), (2, 0, 3), (3, 0, 15), (4, 0, 15), (5, 0, 15), (6, 0, 15), (7, 0, 15), (8, 0, 30), (9, 0, 30), (10, 0, 30), (11, 0, 30), (12, 0, 30), (13, 0, 30), (16, 1, 1)] _ _ := hfr
      have ex := List.mem_singleton.mp hx
      subst ex
      obtain ⟨hF, hBd, hM⟩ := hXs
      have g1 : v2 1 = v 1 := hag 1 (by decide)
      have g2 : v2 2 = v 2 := hag 2 (by decide)
      have b0 : ((2147483649 : Nat) : Int) ≤ (v2 1) + 2147483648 ∧ (v2 1) + 2147483648 ≤ ((2147483649 : Nat) : Int) := xXb hBd 0 rfl
      have b1 : ((2147483652 : Nat) : Int) ≤ (v2 2) + 2147483648 ∧ (v2 2) + 2147483648 ≤ ((2147483652 : Nat) : Int) := xXb hBd 1 rfl
      have m0 : xE E2 2 0 = (v2 1) := xXm hM 0 rfl
      have m1 : xE E2 2 1 = (v2 2) := xXm hM 1 rfl
      have hI : E = E0 := hInv
      show xΨcl0 x0 E0 E2 0
      have hP := hΦ
      have hP1 : x0 0 = ((1 : Nat) : Int) := hP.1
      have hP2 : x0 1 = ((4 : Nat) : Int) := hP.2
      unfold xΨcl0
      rw [hP1, hP2]
      obtain ⟨A, G⟩ := xGeo0_of hM (by decide) (by decide) (by decide) (by decide) (by decide) (by decide) zyfcl0_14_geo (by omega) (by omega) (by decide +kernel) (by decide +kernel)
      subst hI
      exact ⟨A, G, xJk0_of (by decide) (by decide) (by decide) (by decide) (by decide) G (fun i h1 h2 => by
        have h1 : ((16 : Nat) : Int) ≤ i := h1
        exact ⟨xFr_E hfr (xin_no (lo := 16) (by decide) (by omega)), xFr_E hfr (xin_no (lo := 16) (by decide) (by omega))⟩)⟩
noncomputable def zxfcl0_15_ar0 : zyXp := (0, [], [], [], [(34359738369, 2147483649, 2147483649), (68719476737, 2147483653, 2147483653)], [(32768, 34359738369), (32769, 68719476737), (32770, 160), (32771, 32), (16389, 0), (16392, 0), (262145, 0), (49152, 8), (49153, 16), (49154, 24), (49155, 0), (49156, 56), (49157, 32), (49158, 40), (49159, 48), (49160, 72), (49161, 80), (49162, 88), (49163, 64), (49164, 120), (49165, 96), (49166, 104), (49167, 112), (49168, 136), (49169, 144), (49170, 152), (49171, 128), (65536, 34359738360), (65537, 56), (65538, 34359738360), (65539, 34359738360), (65540, 34359738360), (65541, 88), (65542, 34359738360), (65543, 8), (65544, 34359738360), (65545, 120), (65546, 34359738360), (65547, 40), (65548, 34359738360), (65549, 152), (65550, 34359738360), (65551, 72), (65552, 34359738360), (65553, 34359738360), (65554, 34359738360), (65555, 104), (81920, 34359738360), (81921, 0), (81922, 34359738360), (81923, 34359738360), (81924, 34359738360), (81925, 8), (81926, 34359738360), (81927, 0), (81928, 34359738360), (81929, 16), (81930, 34359738360), (81931, 8), (81932, 34359738360), (81933, 24), (81934, 34359738360), (81935, 16), (81936, 34359738360), (81937, 34359738360), (81938, 34359738360), (81939, 24), (98304, 0), (98305, 8), (98306, 0), (98307, 34359738360), (98308, 16), (98309, 24), (98310, 16), (98311, 8), (98312, 32), (98313, 40), (98314, 32), (98315, 24), (98316, 48), (98317, 56), (98318, 48), (98319, 40), (98320, 64), (98321, 72), (98322, 64), (98323, 56), (114688, 34359738360), (114689, 0), (114690, 8), (114691, 0), (114692, 34359738360), (114693, 0), (114694, 8), (114695, 0), (114696, 34359738360), (114697, 0), (114698, 8), (114699, 0), (114700, 34359738360), (114701, 0), (114702, 8), (114703, 0), (114704, 34359738360), (114705, 0), (114706, 8), (114707, 0), (131072, 8), (131073, 40), (131074, 72), (131075, 104), (147456, 56), (147457, 88), (147458, 120), (147459, 152), (163840, 0), (163841, 0), (163842, 0), (163843, 0), (163844, 0), (163845, 0), (163846, 0), (163847, 0), (163848, 0), (163849, 0), (163850, 0), (163851, 0), (163852, 0), (163853, 0), (163854, 0), (163855, 0), (163856, 0), (163857, 0), (163858, 0), (163859, 0), (163860, 0), (163861, 0), (163862, 0), (163863, 0), (163864, 0), (163865, 0), (163866, 0), (163867, 0), (163868, 0), (163869, 0), (163870, 0), (180224, 8), (180225, 8), (180226, 8), (180227, 8), (180228, 8), (180229, 8), (180230, 8), (180231, 8), (180232, 8), (180233, 8), (180234, 8), (180235, 8), (180236, 8), (180237, 8), (180238, 8), (180239, 8), (180240, 8), (180241, 8), (180242, 8), (180243, 8), (180244, 8), (180245, 8), (180246, 8), (180247, 8), (180248, 8), (180249, 8), (180250, 8), (180251, 8), (180252, 8), (180253, 8), (180254, 8), (196608, 0), (196609, 0), (196610, 0), (196611, 0), (196612, 0), (196613, 0), (196614, 0), (196615, 0), (196616, 0), (196617, 0), (196618, 0), (196619, 0), (196620, 0), (196621, 0), (196622, 0), (196623, 0), (196624, 0), (196625, 0), (196626, 0), (196627, 0), (196628, 0), (196629, 0), (196630, 0), (196631, 0), (196632, 0), (196633, 0), (196634, 0), (196635, 0), (196636, 0), (196637, 0), (196638, 0), (212992, 0), (212993, 0), (212994, 0), (212995, 0), (212996, 0), (212997, 0), (212998, 0), (212999, 0), (213000, 0), (213001, 0), (213002, 0), (213003, 0), (213004, 0), (213005, 0), (213006, 0), (213007, 0), (213008, 0), (213009, 0), (213010, 0), (213011, 0), (213012, 0), (213013, 0), (213014, 0), (213015, 0), (213016, 0), (213017, 0), (213018, 0), (213019, 0), (213020, 0), (213021, 0), (213022, 0)])
noncomputable def zpfcl0_15_a : zyPh := (0, [11, 34359738369, 68719476737, 13], [(0, 4294967295), (2147483649, 2147483649), (2147483653, 2147483653), (0, 4294967295)], [], [])
noncomputable def zpfcl0_15 (i : Nat) : zyPh := zpfcl0_15_a
noncomputable def zXfcl0_15 (i : Nat) : List zyXp := []
noncomputable def zRfcl0_15 (i : Nat) : List zyXp := [zxfcl0_15_ar0]
noncomputable def zFfcl0_15 (i : Nat) : zyR := [(1, 5, 5), (1, 8, 8), (2, 0, 3), (3, 0, 19), (4, 0, 19), (5, 0, 19), (6, 0, 19), (7, 0, 19), (8, 0, 30), (9, 0, 30), (10, 0, 30), (11, 0, 30), (12, 0, 30), (13, 0, 30), (16, 1, 1)]
noncomputable def zSfcl0_15 (i : Nat) : Nat := 0
theorem zyfcl0_15_geo : xgeoB0 (zxfcl0_15_ar0).2.2.2.2.2 1 5 = true := by decide +kernel
noncomputable def fpfcl0_15 : zyR := [(1, 5, 5), (1, 8, 8), (2, 0, 3), (3, 0, 79), (4, 0, 79), (5, 0, 79), (6, 0, 79), (7, 0, 79), (8, 0, 30), (9, 0, 30), (10, 0, 30), (11, 0, 30), (12, 0, 30), (13, 0, 30), (16, 1, 1)]
theorem zyfcl0_15_run : zyrS zymc zxi31 (31, 0, 0, 0, 0) 3 zpfcl0_15 (fun _ _ => []) zFfcl0_15 zSfcl0_15 zXfcl0_15 zRfcl0_15 1 = true := by decide +kernel
theorem zyfcl0_15_ck : zyAll (fun i => xsubR (zFfcl0_15 i) fpfcl0_15 && ((zXfcl0_15 i).all xckX && (zRfcl0_15 i).all (fun x => xckX x && xrtB false x))) 1 = true := by decide +kernel
def xIfcl0_15 (i : Nat) (x0 : Nat → Int) (E0 : zyEm) (v : Nat → Int) (E : zyEm) : Prop := (E = E0)
def xMfcl0_15 (i : Nat) (x0 : Nat → Int) (E0 : zyEm) (v : Nat → Int) (E : zyEm) : Nat := (0)
theorem xCl0_15 {l : Launch} {en : zEn} {me : zMe} (hen : zG zxMeta 31 = some en) (hme : zG zMeth 31 = some me) : xFc l zymc en me 3 [1] 2 fpfcl0_15 false (xΦcl0_ (1, 5)) xΨcl0 := by
  have een : zG zxMeta 31 = some (zxi31, 3, 4, 3, 31, 0, 0, 0, 0) := rfl
  obtain ⟨me1, hme1, hOK⟩ := zall hen
  rw [hme] at hme1
  cases hme1
  rw [een] at hen
  cases hen
  have hr := zyfcl0_15_run
  have hck := fun i hi => zyAll_iff zyfcl0_15_ck i hi
  simp only [Bool.and_eq_true] at hck
  intro B
  refine xcut (mi := zymc) (B := B) hOK rfl rfl (ι := Fin 1) (fun i => zpfcl0_15 i.val) (fun _ _ => []) (fun i => zFfcl0_15 i.val) (fun i => zSfcl0_15 i.val) (fun i => zXfcl0_15 i.val) (fun i => zRfcl0_15 i.val) (fun i y2 ct en2 me2 h => by cases h) 200000 (fun i => zyAll_iff hr i.val i.isLt) (fun i => (hck i.val i.isLt).1) (fun i => (hck i.val i.isLt).2.1) (fun i => (hck i.val i.isLt).2.2) ⟨0, by decide⟩ ⟨rfl, rfl, rfl, rfl⟩ ⟨by decide, by decide⟩ (fun i x0 E0 v E => xIfcl0_15 i.val x0 E0 v E) (fun i x0 E0 v E => xMfcl0_15 i.val x0 E0 v E) ?_ ?_ ?_
  · intro x0 E hx0 hT hΦ
    have hΦ : (xΦcl0_ (1, 5)) x0 E := hΦ
    refine ⟨fun k p hp => ?_, ?_⟩
    · have hk : k < 4 := (List.getElem?_eq_some_iff.mp hp).1
      have hk : k = 0 ∨ k = 1 ∨ k = 2 ∨ k = 3 := by omega
      rcases hk with rfl | rfl | rfl | rfl
      · have hp : some (0, 4294967295) = some p := hp
        cases hp
        show ((0 : Nat) : Int) ≤ 0 + 2147483648 ∧ 0 + 2147483648 ≤ ((4294967295 : Nat) : Int)
        omega
      · have hp : some (2147483649, 2147483649) = some p := hp
        cases hp
        show ((2147483649 : Nat) : Int) ≤ x0 0 + 2147483648 ∧ x0 0 + 2147483648 ≤ ((2147483649 : Nat) : Int)
        have hx := hx0 0
        have hP1 : x0 0 = ((1 : Nat) : Int) := hΦ.1
        have hP2 : x0 1 = ((5 : Nat) : Int) := hΦ.2
        omega
      · have hp : some (2147483653, 2147483653) = some p := hp
        cases hp
        show ((2147483653 : Nat) : Int) ≤ x0 1 + 2147483648 ∧ x0 1 + 2147483648 ≤ ((2147483653 : Nat) : Int)
        have hx := hx0 1
        have hP1 : x0 0 = ((1 : Nat) : Int) := hΦ.1
        have hP2 : x0 1 = ((5 : Nat) : Int) := hΦ.2
        omega
      · have hp : some (0, 4294967295) = some p := hp
        cases hp
        show ((0 : Nat) : Int) ≤ x0 2 + 2147483648 ∧ x0 2 + 2147483648 ≤ ((4294967295 : Nat) : Int)
        have hx := hx0 2
        omega
    · show E = E
      rfl
  · intro x0 s Wg hRu hrx hT0 hΦ i v H hT hrv hInv hKc hFr0 hIH x hx ρ2 v2 N2 H2 locs lsB stA hAt hB hv hr2 hXs hag hfr hFr hT2
    rcases i with ⟨i, hi⟩
    have hi2 : i = 0 := by omega
    rcases hi2 with rfl
    · cases hx
  · intro x0 E0 E E2 hrx hT0 hΦ i v hT hrv hInv hKc hFr0 x hx v2 hr2 hXs hag hfr hFr hT2
    rcases i with ⟨i, hi⟩
    have hi2 : i = 0 := by omega
    rcases hi2 with rfl
    · have hx : x ∈ [zxfcl0_15_ar0] := hx
      have hag : ∀ k, k < 4 → v2 k = v k := hag
      have hfr : xFr [(1, 5, 5), (1, 8, 8), (2, 0, 3), (3, 0, 19), (4, 0, 19), (5, 0, 19), (6, 0, 19), (7, 0, 19), (8, 0, 30), (9, 0, 30), (10, 0, 30), (11, 0, 30), (12, 0, 30), (13, 0, 30), (16, 1, 1)] _ _ := hfr
      have ex := List.mem_singleton.mp hx
      subst ex
      obtain ⟨hF, hBd, hM⟩ := hXs
      have g1 : v2 1 = v 1 := hag 1 (by decide)
      have g2 : v2 2 = v 2 := hag 2 (by decide)
      have b0 : ((2147483649 : Nat) : Int) ≤ (v2 1) + 2147483648 ∧ (v2 1) + 2147483648 ≤ ((2147483649 : Nat) : Int) := xXb hBd 0 rfl
      have b1 : ((2147483653 : Nat) : Int) ≤ (v2 2) + 2147483648 ∧ (v2 2) + 2147483648 ≤ ((2147483653 : Nat) : Int) := xXb hBd 1 rfl
      have m0 : xE E2 2 0 = (v2 1) := xXm hM 0 rfl
      have m1 : xE E2 2 1 = (v2 2) := xXm hM 1 rfl
      have hI : E = E0 := hInv
      show xΨcl0 x0 E0 E2 0
      have hP := hΦ
      have hP1 : x0 0 = ((1 : Nat) : Int) := hP.1
      have hP2 : x0 1 = ((5 : Nat) : Int) := hP.2
      unfold xΨcl0
      rw [hP1, hP2]
      obtain ⟨A, G⟩ := xGeo0_of hM (by decide) (by decide) (by decide) (by decide) (by decide) (by decide) zyfcl0_15_geo (by omega) (by omega) (by decide +kernel) (by decide +kernel)
      subst hI
      exact ⟨A, G, xJk0_of (by decide) (by decide) (by decide) (by decide) (by decide) G (fun i h1 h2 => by
        have h1 : ((20 : Nat) : Int) ≤ i := h1
        exact ⟨xFr_E hfr (xin_no (lo := 20) (by decide) (by omega)), xFr_E hfr (xin_no (lo := 20) (by decide) (by omega))⟩)⟩
noncomputable def zxfcl0_21_ar0 : zyXp := (0, [], [], [], [(34359738369, 2147483650, 2147483650), (68719476737, 2147483649, 2147483649)], [(32768, 34359738369), (32769, 68719476737), (32770, 64), (32771, 8), (16389, 0), (16392, 0), (262145, 0), (49152, 8), (49153, 16), (49154, 24), (49155, 0), (49156, 56), (49157, 32), (49158, 40), (49159, 48), (65536, 34359738360), (65537, 34359738360), (65538, 32), (65539, 34359738360), (65540, 16), (65541, 34359738360), (65542, 34359738360), (65543, 34359738360), (81920, 34359738360), (81921, 34359738360), (81922, 0), (81923, 34359738360), (81924, 0), (81925, 34359738360), (81926, 34359738360), (81927, 34359738360), (98304, 0), (98305, 8), (98306, 0), (98307, 34359738360), (98308, 0), (98309, 8), (98310, 0), (98311, 34359738360), (114688, 34359738360), (114689, 0), (114690, 8), (114691, 0), (114692, 8), (114693, 16), (114694, 24), (114695, 16), (131072, 16), (147456, 32), (163840, 0), (163841, 0), (163842, 0), (163843, 0), (163844, 0), (163845, 0), (163846, 0), (163847, 0), (163848, 0), (163849, 0), (163850, 0), (163851, 0), (163852, 0), (163853, 0), (163854, 0), (163855, 0), (163856, 0), (163857, 0), (163858, 0), (163859, 0), (163860, 0), (163861, 0), (163862, 0), (163863, 0), (163864, 0), (163865, 0), (163866, 0), (163867, 0), (163868, 0), (163869, 0), (163870, 0), (180224, 8), (180225, 8), (180226, 8), (180227, 8), (180228, 8), (180229, 8), (180230, 8), (180231, 8), (180232, 8), (180233, 8), (180234, 8), (180235, 8), (180236, 8), (180237, 8), (180238, 8), (180239, 8), (180240, 8), (180241, 8), (180242, 8), (180243, 8), (180244, 8), (180245, 8), (180246, 8), (180247, 8), (180248, 8), (180249, 8), (180250, 8), (180251, 8), (180252, 8), (180253, 8), (180254, 8), (196608, 0), (196609, 0), (196610, 0), (196611, 0), (196612, 0), (196613, 0), (196614, 0), (196615, 0), (196616, 0), (196617, 0), (196618, 0), (196619, 0), (196620, 0), (196621, 0), (196622, 0), (196623, 0), (196624, 0), (196625, 0), (196626, 0), (196627, 0), (196628, 0), (196629, 0), (196630, 0), (196631, 0), (196632, 0), (196633, 0), (196634, 0), (196635, 0), (196636, 0), (196637, 0), (196638, 0), (212992, 0), (212993, 0), (212994, 0), (212995, 0), (212996, 0), (212997, 0), (212998, 0), (212999, 0), (213000, 0), (213001, 0), (213002, 0), (213003, 0), (213004, 0), (213005, 0), (213006, 0), (213007, 0), (213008, 0), (213009, 0), (213010, 0), (213011, 0), (213012, 0), (213013, 0), (213014, 0), (213015, 0), (213016, 0), (213017, 0), (213018, 0), (213019, 0), (213020, 0), (213021, 0), (213022, 0)])
noncomputable def zpfcl0_21_a : zyPh := (0, [11, 34359738369, 68719476737, 13], [(0, 4294967295), (2147483650, 2147483650), (2147483649, 2147483649), (0, 4294967295)], [], [])
noncomputable def zpfcl0_21 (i : Nat) : zyPh := zpfcl0_21_a
noncomputable def zXfcl0_21 (i : Nat) : List zyXp := []
noncomputable def zRfcl0_21 (i : Nat) : List zyXp := [zxfcl0_21_ar0]
noncomputable def zFfcl0_21 (i : Nat) : zyR := [(1, 5, 5), (1, 8, 8), (2, 0, 3), (3, 0, 7), (4, 0, 7), (5, 0, 7), (6, 0, 7), (7, 0, 7), (8, 0, 30), (9, 0, 30), (10, 0, 30), (11, 0, 30), (12, 0, 30), (13, 0, 30), (16, 1, 1)]
noncomputable def zSfcl0_21 (i : Nat) : Nat := 0
theorem zyfcl0_21_geo : xgeoB0 (zxfcl0_21_ar0).2.2.2.2.2 2 1 = true := by decide +kernel
noncomputable def fpfcl0_21 : zyR := [(1, 5, 5), (1, 8, 8), (2, 0, 3), (3, 0, 79), (4, 0, 79), (5, 0, 79), (6, 0, 79), (7, 0, 79), (8, 0, 30), (9, 0, 30), (10, 0, 30), (11, 0, 30), (12, 0, 30), (13, 0, 30), (16, 1, 1)]
theorem zyfcl0_21_run : zyrS zymc zxi31 (31, 0, 0, 0, 0) 3 zpfcl0_21 (fun _ _ => []) zFfcl0_21 zSfcl0_21 zXfcl0_21 zRfcl0_21 1 = true := by decide +kernel
theorem zyfcl0_21_ck : zyAll (fun i => xsubR (zFfcl0_21 i) fpfcl0_21 && ((zXfcl0_21 i).all xckX && (zRfcl0_21 i).all (fun x => xckX x && xrtB false x))) 1 = true := by decide +kernel
def xIfcl0_21 (i : Nat) (x0 : Nat → Int) (E0 : zyEm) (v : Nat → Int) (E : zyEm) : Prop := (E = E0)
def xMfcl0_21 (i : Nat) (x0 : Nat → Int) (E0 : zyEm) (v : Nat → Int) (E : zyEm) : Nat := (0)
theorem xCl0_21 {l : Launch} {en : zEn} {me : zMe} (hen : zG zxMeta 31 = some en) (hme : zG zMeth 31 = some me) : xFc l zymc en me 3 [1] 2 fpfcl0_21 false (xΦcl0_ (2, 1)) xΨcl0 := by
  have een : zG zxMeta 31 = some (zxi31, 3, 4, 3, 31, 0, 0, 0, 0) := rfl
  obtain ⟨me1, hme1, hOK⟩ := zall hen
  rw [hme] at hme1
  cases hme1
  rw [een] at hen
  cases hen
  have hr := zyfcl0_21_run
  have hck := fun i hi => zyAll_iff zyfcl0_21_ck i hi
  simp only [Bool.and_eq_true] at hck
  intro B
  refine xcut (mi := zymc) (B := B) hOK rfl rfl (ι := Fin 1) (fun i => zpfcl0_21 i.val) (fun _ _ => []) (fun i => zFfcl0_21 i.val) (fun i => zSfcl0_21 i.val) (fun i => zXfcl0_21 i.val) (fun i => zRfcl0_21 i.val) (fun i y2 ct en2 me2 h => by cases h) 200000 (fun i => zyAll_iff hr i.val i.isLt) (fun i => (hck i.val i.isLt).1) (fun i => (hck i.val i.isLt).2.1) (fun i => (hck i.val i.isLt).2.2) ⟨0, by decide⟩ ⟨rfl, rfl, rfl, rfl⟩ ⟨by decide, by decide⟩ (fun i x0 E0 v E => xIfcl0_21 i.val x0 E0 v E) (fun i x0 E0 v E => xMfcl0_21 i.val x0 E0 v E) ?_ ?_ ?_
  · intro x0 E hx0 hT hΦ
    have hΦ : (xΦcl0_ (2, 1)) x0 E := hΦ
    refine ⟨fun k p hp => ?_, ?_⟩
    · have hk : k < 4 := (List.getElem?_eq_some_iff.mp hp).1
      have hk : k = 0 ∨ k = 1 ∨ k = 2 ∨ k = 3 := by omega
      rcases hk with rfl | rfl | rfl | rfl
      · have hp : some (0, 4294967295) = some p := hp
        cases hp
        show ((0 : Nat) : Int) ≤ 0 + 2147483648 ∧ 0 + 2147483648 ≤ ((4294967295 : Nat) : Int)
        omega
      · have hp : some (2147483650, 2147483650) = some p := hp
        cases hp
        show ((2147483650 : Nat) : Int) ≤ x0 0 + 2147483648 ∧ x0 0 + 2147483648 ≤ ((2147483650 : Nat) : Int)
        have hx := hx0 0
        have hP1 : x0 0 = ((2 : Nat) : Int) := hΦ.1
        have hP2 : x0 1 = ((1 : Nat) : Int) := hΦ.2
        omega
      · have hp : some (2147483649, 2147483649) = some p := hp
        cases hp
        show ((2147483649 : Nat) : Int) ≤ x0 1 + 2147483648 ∧ x0 1 + 2147483648 ≤ ((2147483649 : Nat) : Int)
        have hx := hx0 1
        have hP1 : x0 0 = ((2 : Nat) : Int) := hΦ.1
        have hP2 : x0 1 = ((1 : Nat) : Int) := hΦ.2
        omega
      · have hp : some (0, 4294967295) = some p := hp
        cases hp
        show ((0 : Nat) : Int) ≤ x0 2 + 2147483648 ∧ x0 2 + 2147483648 ≤ ((4294967295 : Nat) : Int)
        have hx := hx0 2
        omega
    · show E = E
      rfl
  · intro x0 s Wg hRu hrx hT0 hΦ i v H hT hrv hInv hKc hFr0 hIH x hx ρ2 v2 N2 H2 locs lsB stA hAt hB hv hr2 hXs hag hfr hFr hT2
    rcases i with ⟨i, hi⟩
    have hi2 : i = 0 := by omega
    rcases hi2 with rfl
    · cases hx
  · intro x0 E0 E E2 hrx hT0 hΦ i v hT hrv hInv hKc hFr0 x hx v2 hr2 hXs hag hfr hFr hT2
    rcases i with ⟨i, hi⟩
    have hi2 : i = 0 := by omega
    rcases hi2 with rfl
    · have hx : x ∈ [zxfcl0_21_ar0] := hx
      have hag : ∀ k, k < 4 → v2 k = v k := hag
      have hfr : xFr [(1, 5, 5), (1, 8, 8), (2, 0, 3), (3, 0, 7), (4, 0, 7), (5, 0, 7), (6, 0, 7), (7, 0, 7), (8, 0, 30), (9, 0, 30), (10, 0, 30), (11, 0, 30), (12, 0, 30), (13, 0, 30), (16, 1, 1)] _ _ := hfr
      have ex := List.mem_singleton.mp hx
      subst ex
      obtain ⟨hF, hBd, hM⟩ := hXs
      have g1 : v2 1 = v 1 := hag 1 (by decide)
      have g2 : v2 2 = v 2 := hag 2 (by decide)
      have b0 : ((2147483650 : Nat) : Int) ≤ (v2 1) + 2147483648 ∧ (v2 1) + 2147483648 ≤ ((2147483650 : Nat) : Int) := xXb hBd 0 rfl
      have b1 : ((2147483649 : Nat) : Int) ≤ (v2 2) + 2147483648 ∧ (v2 2) + 2147483648 ≤ ((2147483649 : Nat) : Int) := xXb hBd 1 rfl
      have m0 : xE E2 2 0 = (v2 1) := xXm hM 0 rfl
      have m1 : xE E2 2 1 = (v2 2) := xXm hM 1 rfl
      have hI : E = E0 := hInv
      show xΨcl0 x0 E0 E2 0
      have hP := hΦ
      have hP1 : x0 0 = ((2 : Nat) : Int) := hP.1
      have hP2 : x0 1 = ((1 : Nat) : Int) := hP.2
      unfold xΨcl0
      rw [hP1, hP2]
      obtain ⟨A, G⟩ := xGeo0_of hM (by decide) (by decide) (by decide) (by decide) (by decide) (by decide) zyfcl0_21_geo (by omega) (by omega) (by decide +kernel) (by decide +kernel)
      subst hI
      exact ⟨A, G, xJk0_of (by decide) (by decide) (by decide) (by decide) (by decide) G (fun i h1 h2 => by
        have h1 : ((8 : Nat) : Int) ≤ i := h1
        exact ⟨xFr_E hfr (xin_no (lo := 8) (by decide) (by omega)), xFr_E hfr (xin_no (lo := 8) (by decide) (by omega))⟩)⟩
noncomputable def zxfcl0_22_ar0 : zyXp := (0, [], [], [], [(34359738369, 2147483650, 2147483650), (68719476737, 2147483650, 2147483650)], [(32768, 34359738369), (32769, 68719476737), (32770, 128), (32771, 32), (16389, 0), (16392, 0), (262145, 0), (49152, 8), (49153, 16), (49154, 24), (49155, 0), (49156, 56), (49157, 32), (49158, 40), (49159, 48), (49160, 88), (49161, 64), (49162, 72), (49163, 80), (49164, 104), (49165, 112), (49166, 120), (49167, 96), (65536, 34359738360), (65537, 56), (65538, 64), (65539, 34359738360), (65540, 34359738360), (65541, 34359738360), (65542, 96), (65543, 8), (65544, 16), (65545, 120), (65546, 34359738360), (65547, 34359738360), (65548, 48), (65549, 34359738360), (65550, 34359738360), (65551, 72), (81920, 34359738360), (81921, 0), (81922, 16), (81923, 34359738360), (81924, 34359738360), (81925, 34359738360), (81926, 24), (81927, 0), (81928, 16), (81929, 8), (81930, 34359738360), (81931, 34359738360), (81932, 24), (81933, 34359738360), (81934, 34359738360), (81935, 8), (98304, 0), (98305, 8), (98306, 0), (98307, 34359738360), (98308, 16), (98309, 24), (98310, 16), (98311, 8), (98312, 0), (98313, 8), (98314, 0), (98315, 34359738360), (98316, 16), (98317, 24), (98318, 16), (98319, 8), (114688, 34359738360), (114689, 0), (114690, 8), (114691, 0), (114692, 34359738360), (114693, 0), (114694, 8), (114695, 0), (114696, 8), (114697, 16), (114698, 24), (114699, 16), (114700, 8), (114701, 16), (114702, 24), (114703, 16), (131072, 8), (131073, 72), (131074, 16), (131075, 48), (147456, 56), (147457, 120), (147458, 64), (147459, 96), (163840, 0), (163841, 0), (163842, 0), (163843, 0), (163844, 0), (163845, 0), (163846, 0), (163847, 0), (163848, 0), (163849, 0), (163850, 0), (163851, 0), (163852, 0), (163853, 0), (163854, 0), (163855, 0), (163856, 0), (163857, 0), (163858, 0), (163859, 0), (163860, 0), (163861, 0), (163862, 0), (163863, 0), (163864, 0), (163865, 0), (163866, 0), (163867, 0), (163868, 0), (163869, 0), (163870, 0), (180224, 8), (180225, 8), (180226, 8), (180227, 8), (180228, 8), (180229, 8), (180230, 8), (180231, 8), (180232, 8), (180233, 8), (180234, 8), (180235, 8), (180236, 8), (180237, 8), (180238, 8), (180239, 8), (180240, 8), (180241, 8), (180242, 8), (180243, 8), (180244, 8), (180245, 8), (180246, 8), (180247, 8), (180248, 8), (180249, 8), (180250, 8), (180251, 8), (180252, 8), (180253, 8), (180254, 8), (196608, 0), (196609, 0), (196610, 0), (196611, 0), (196612, 0), (196613, 0), (196614, 0), (196615, 0), (196616, 0), (196617, 0), (196618, 0), (196619, 0), (196620, 0), (196621, 0), (196622, 0), (196623, 0), (196624, 0), (196625, 0), (196626, 0), (196627, 0), (196628, 0), (196629, 0), (196630, 0), (196631, 0), (196632, 0), (196633, 0), (196634, 0), (196635, 0), (196636, 0), (196637, 0), (196638, 0), (212992, 0), (212993, 0), (212994, 0), (212995, 0), (212996, 0), (212997, 0), (212998, 0), (212999, 0), (213000, 0), (213001, 0), (213002, 0), (213003, 0), (213004, 0), (213005, 0), (213006, 0), (213007, 0), (213008, 0), (213009, 0), (213010, 0), (213011, 0), (213012, 0), (213013, 0), (213014, 0), (213015, 0), (213016, 0), (213017, 0), (213018, 0), (213019, 0), (213020, 0), (213021, 0), (213022, 0)])
noncomputable def zpfcl0_22_a : zyPh := (0, [11, 34359738369, 68719476737, 13], [(0, 4294967295), (2147483650, 2147483650), (2147483650, 2147483650), (0, 4294967295)], [], [])
noncomputable def zpfcl0_22 (i : Nat) : zyPh := zpfcl0_22_a
noncomputable def zXfcl0_22 (i : Nat) : List zyXp := []
noncomputable def zRfcl0_22 (i : Nat) : List zyXp := [zxfcl0_22_ar0]
noncomputable def zFfcl0_22 (i : Nat) : zyR := [(1, 5, 5), (1, 8, 8), (2, 0, 3), (3, 0, 15), (4, 0, 15), (5, 0, 15), (6, 0, 15), (7, 0, 15), (8, 0, 30), (9, 0, 30), (10, 0, 30), (11, 0, 30), (12, 0, 30), (13, 0, 30), (16, 1, 1)]
noncomputable def zSfcl0_22 (i : Nat) : Nat := 0
theorem zyfcl0_22_geo : xgeoB0 (zxfcl0_22_ar0).2.2.2.2.2 2 2 = true := by decide +kernel
noncomputable def fpfcl0_22 : zyR := [(1, 5, 5), (1, 8, 8), (2, 0, 3), (3, 0, 79), (4, 0, 79), (5, 0, 79), (6, 0, 79), (7, 0, 79), (8, 0, 30), (9, 0, 30), (10, 0, 30), (11, 0, 30), (12, 0, 30), (13, 0, 30), (16, 1, 1)]
theorem zyfcl0_22_run : zyrS zymc zxi31 (31, 0, 0, 0, 0) 3 zpfcl0_22 (fun _ _ => []) zFfcl0_22 zSfcl0_22 zXfcl0_22 zRfcl0_22 1 = true := by decide +kernel
theorem zyfcl0_22_ck : zyAll (fun i => xsubR (zFfcl0_22 i) fpfcl0_22 && ((zXfcl0_22 i).all xckX && (zRfcl0_22 i).all (fun x => xckX x && xrtB false x))) 1 = true := by decide +kernel
def xIfcl0_22 (i : Nat) (x0 : Nat → Int) (E0 : zyEm) (v : Nat → Int) (E : zyEm) : Prop := (E = E0)
def xMfcl0_22 (i : Nat) (x0 : Nat → Int) (E0 : zyEm) (v : Nat → Int) (E : zyEm) : Nat := (0)
theorem xCl0_22 {l : Launch} {en : zEn} {me : zMe} (hen : zG zxMeta 31 = some en) (hme : zG zMeth 31 = some me) : xFc l zymc en me 3 [1] 2 fpfcl0_22 false (xΦcl0_ (2, 2)) xΨcl0 := by
  have een : zG zxMeta 31 = some (zxi31, 3, 4, 3, 31, 0, 0, 0, 0) := rfl
  obtain ⟨me1, hme1, hOK⟩ := zall hen
  rw [hme] at hme1
  cases hme1
  rw [een] at hen
  cases hen
  have hr := zyfcl0_22_run
  have hck := fun i hi => zyAll_iff zyfcl0_22_ck i hi
  simp only [Bool.and_eq_true] at hck
  intro B
  refine xcut (mi := zymc) (B := B) hOK rfl rfl (ι := Fin 1) (fun i => zpfcl0_22 i.val) (fun _ _ => []) (fun i => zFfcl0_22 i.val) (fun i => zSfcl0_22 i.val) (fun i => zXfcl0_22 i.val) (fun i => zRfcl0_22 i.val) (fun i y2 ct en2 me2 h => by cases h) 200000 (fun i => zyAll_iff hr i.val i.isLt) (fun i => (hck i.val i.isLt).1) (fun i => (hck i.val i.isLt).2.1) (fun i => (hck i.val i.isLt).2.2) ⟨0, by decide⟩ ⟨rfl, rfl, rfl, rfl⟩ ⟨by decide, by decide⟩ (fun i x0 E0 v E => xIfcl0_22 i.val x0 E0 v E) (fun i x0 E0 v E => xMfcl0_22 i.val x0 E0 v E) ?_ ?_ ?_
  · intro x0 E hx0 hT hΦ
    have hΦ : (xΦcl0_ (2, 2)) x0 E := hΦ
    refine ⟨fun k p hp => ?_, ?_⟩
    · have hk : k < 4 := (List.getElem?_eq_some_iff.mp hp).1
      have hk : k = 0 ∨ k = 1 ∨ k = 2 ∨ k = 3 := by omega
      rcases hk with rfl | rfl | rfl | rfl
      · have hp : some (0, 4294967295) = some p := hp
        cases hp
        show ((0 : Nat) : Int) ≤ 0 + 2147483648 ∧ 0 + 2147483648 ≤ ((4294967295 : Nat) : Int)
        omega
      · have hp : some (2147483650, 2147483650) = some p := hp
        cases hp
        show ((2147483650 : Nat) : Int) ≤ x0 0 + 2147483648 ∧ x0 0 + 2147483648 ≤ ((2147483650 : Nat) : Int)
        have hx := hx0 0
        have hP1 : x0 0 = ((2 : Nat) : Int) := hΦ.1
        have hP2 : x0 1 = ((2 : Nat) : Int) := hΦ.2
        omega
      · have hp : some (2147483650, 2147483650) = some p := hp
        cases hp
        show ((2147483650 : Nat) : Int) ≤ x0 1 + 2147483648 ∧ x0 1 + 2147483648 ≤ ((2147483650 : Nat) : Int)
        have hx := hx0 1
        have hP1 : x0 0 = ((2 : Nat) : Int) := hΦ.1
        have hP2 : x0 1 = ((2 : Nat) : Int) := hΦ.2
        omega
      · have hp : some (0, 4294967295) = some p := hp
        cases hp
        show ((0 : Nat) : Int) ≤ x0 2 + 2147483648 ∧ x0 2 + 2147483648 ≤ ((4294967295 : Nat) : Int)
        have hx := hx0 2
        omega
    · show E = E
      rfl
  · intro x0 s Wg hRu hrx hT0 hΦ i v H hT hrv hInv hKc hFr0 hIH x hx ρ2 v2 N2 H2 locs lsB stA hAt hB hv hr2 hXs hag hfr hFr hT2
    rcases i with ⟨i, hi⟩
    have hi2 : i = 0 := by omega
    rcases hi2 with rfl
    · cases hx
  · intro x0 E0 E E2 hrx hT0 hΦ i v hT hrv hInv hKc hFr0 x hx v2 hr2 hXs hag hfr hFr hT2
    rcases i with ⟨i, hi⟩
    have hi2 : i = 0 := by omega
    rcases hi2 with rfl
    · have hx : x ∈ [zxfcl0_22_ar0] := hx
      have hag : ∀ k, k < 4 → v2 k = v k := hag
      have hfr : xFr [(1, 5, 5), (1, 8, 8), (2, 0, 3), (3, 0, 15), (4, 0, 15), (5, 0, 15), (6, 0, 15), (7, 0, 15), (8, 0, 30), (9, 0, 30), (10, 0, 30), (11, 0, 30), (12, 0, 30), (13, 0, 30), (16, 1, 1)] _ _ := hfr
      have ex := List.mem_singleton.mp hx
      subst ex
      obtain ⟨hF, hBd, hM⟩ := hXs
      have g1 : v2 1 = v 1 := hag 1 (by decide)
      have g2 : v2 2 = v 2 := hag 2 (by decide)
      have b0 : ((2147483650 : Nat) : Int) ≤ (v2 1) + 2147483648 ∧ (v2 1) + 2147483648 ≤ ((2147483650 : Nat) : Int) := xXb hBd 0 rfl
      have b1 : ((2147483650 : Nat) : Int) ≤ (v2 2) + 2147483648 ∧ (v2 2) + 2147483648 ≤ ((2147483650 : Nat) : Int) := xXb hBd 1 rfl
      have m0 : xE E2 2 0 = (v2 1) := xXm hM 0 rfl
      have m1 : xE E2 2 1 = (v2 2) := xXm hM 1 rfl
      have hI : E = E0 := hInv
      show xΨcl0 x0 E0 E2 0
      have hP := hΦ
      have hP1 : x0 0 = ((2 : Nat) : Int) := hP.1
      have hP2 : x0 1 = ((2 : Nat) : Int) := hP.2
      unfold xΨcl0
      rw [hP1, hP2]
      obtain ⟨A, G⟩ := xGeo0_of hM (by decide) (by decide) (by decide) (by decide) (by decide) (by decide) zyfcl0_22_geo (by omega) (by omega) (by decide +kernel) (by decide +kernel)
      subst hI
      exact ⟨A, G, xJk0_of (by decide) (by decide) (by decide) (by decide) (by decide) G (fun i h1 h2 => by
        have h1 : ((16 : Nat) : Int) ≤ i := h1
        exact ⟨xFr_E hfr (xin_no (lo := 16) (by decide) (by omega)), xFr_E hfr (xin_no (lo := 16) (by decide) (by omega))⟩)⟩
noncomputable def zxfcl0_23_ar0 : zyXp := (0, [], [], [], [(34359738369, 2147483650, 2147483650), (68719476737, 2147483651, 2147483651)], [(32768, 34359738369), (32769, 68719476737), (32770, 192), (32771, 56), (16389, 0), (16392, 0), (262145, 0), (49152, 8), (49153, 16), (49154, 24), (49155, 0), (49156, 56), (49157, 32), (49158, 40), (49159, 48), (49160, 72), (49161, 80), (49162, 88), (49163, 64), (49164, 120), (49165, 96), (49166, 104), (49167, 112), (49168, 136), (49169, 144), (49170, 152), (49171, 128), (49172, 184), (49173, 160), (49174, 168), (49175, 176), (65536, 34359738360), (65537, 56), (65538, 96), (65539, 34359738360), (65540, 34359738360), (65541, 88), (65542, 128), (65543, 8), (65544, 34359738360), (65545, 34359738360), (65546, 160), (65547, 40), (65548, 16), (65549, 152), (65550, 34359738360), (65551, 34359738360), (65552, 48), (65553, 184), (65554, 34359738360), (65555, 104), (65556, 80), (65557, 34359738360), (65558, 34359738360), (65559, 136), (81920, 34359738360), (81921, 0), (81922, 32), (81923, 34359738360), (81924, 34359738360), (81925, 8), (81926, 40), (81927, 0), (81928, 34359738360), (81929, 34359738360), (81930, 48), (81931, 8), (81932, 32), (81933, 16), (81934, 34359738360), (81935, 34359738360), (81936, 40), (81937, 24), (81938, 34359738360), (81939, 16), (81940, 48), (81941, 34359738360), (81942, 34359738360), (81943, 24), (98304, 0), (98305, 8), (98306, 0), (98307, 34359738360), (98308, 16), (98309, 24), (98310, 16), (98311, 8), (98312, 32), (98313, 40), (98314, 32), (98315, 24), (98316, 0), (98317, 8), (98318, 0), (98319, 34359738360), (98320, 16), (98321, 24), (98322, 16), (98323, 8), (98324, 32), (98325, 40), (98326, 32), (98327, 24), (114688, 34359738360), (114689, 0), (114690, 8), (114691, 0), (114692, 34359738360), (114693, 0), (114694, 8), (114695, 0), (114696, 34359738360), (114697, 0), (114698, 8), (114699, 0), (114700, 8), (114701, 16), (114702, 24), (114703, 16), (114704, 8), (114705, 16), (114706, 24), (114707, 16), (114708, 8), (114709, 16), (114710, 24), (114711, 16), (131072, 8), (131073, 40), (131074, 104), (131075, 136), (131076, 16), (131077, 48), (131078, 80), (147456, 56), (147457, 88), (147458, 152), (147459, 184), (147460, 96), (147461, 128), (147462, 160), (163840, 0), (163841, 0), (163842, 0), (163843, 0), (163844, 0), (163845, 0), (163846, 0), (163847, 0), (163848, 0), (163849, 0), (163850, 0), (163851, 0), (163852, 0), (163853, 0), (163854, 0), (163855, 0), (163856, 0), (163857, 0), (163858, 0), (163859, 0), (163860, 0), (163861, 0), (163862, 0), (163863, 0), (163864, 0), (163865, 0), (163866, 0), (163867, 0), (163868, 0), (163869, 0), (163870, 0), (180224, 8), (180225, 8), (180226, 8), (180227, 8), (180228, 8), (180229, 8), (180230, 8), (180231, 8), (180232, 8), (180233, 8), (180234, 8), (180235, 8), (180236, 8), (180237, 8), (180238, 8), (180239, 8), (180240, 8), (180241, 8), (180242, 8), (180243, 8), (180244, 8), (180245, 8), (180246, 8), (180247, 8), (180248, 8), (180249, 8), (180250, 8), (180251, 8), (180252, 8), (180253, 8), (180254, 8), (196608, 0), (196609, 0), (196610, 0), (196611, 0), (196612, 0), (196613, 0), (196614, 0), (196615, 0), (196616, 0), (196617, 0), (196618, 0), (196619, 0), (196620, 0), (196621, 0), (196622, 0), (196623, 0), (196624, 0), (196625, 0), (196626, 0), (196627, 0), (196628, 0), (196629, 0), (196630, 0), (196631, 0), (196632, 0), (196633, 0), (196634, 0), (196635, 0), (196636, 0), (196637, 0), (196638, 0), (212992, 0), (212993, 0), (212994, 0), (212995, 0), (212996, 0), (212997, 0), (212998, 0), (212999, 0), (213000, 0), (213001, 0), (213002, 0), (213003, 0), (213004, 0), (213005, 0), (213006, 0), (213007, 0), (213008, 0), (213009, 0), (213010, 0), (213011, 0), (213012, 0), (213013, 0), (213014, 0), (213015, 0), (213016, 0), (213017, 0), (213018, 0), (213019, 0), (213020, 0), (213021, 0), (213022, 0)])
noncomputable def zpfcl0_23_a : zyPh := (0, [11, 34359738369, 68719476737, 13], [(0, 4294967295), (2147483650, 2147483650), (2147483651, 2147483651), (0, 4294967295)], [], [])
noncomputable def zpfcl0_23 (i : Nat) : zyPh := zpfcl0_23_a
noncomputable def zXfcl0_23 (i : Nat) : List zyXp := []
noncomputable def zRfcl0_23 (i : Nat) : List zyXp := [zxfcl0_23_ar0]
noncomputable def zFfcl0_23 (i : Nat) : zyR := [(1, 5, 5), (1, 8, 8), (2, 0, 3), (3, 0, 23), (4, 0, 23), (5, 0, 23), (6, 0, 23), (7, 0, 23), (8, 0, 30), (9, 0, 30), (10, 0, 30), (11, 0, 30), (12, 0, 30), (13, 0, 30), (16, 1, 1)]
noncomputable def zSfcl0_23 (i : Nat) : Nat := 0
theorem zyfcl0_23_geo : xgeoB0 (zxfcl0_23_ar0).2.2.2.2.2 2 3 = true := by decide +kernel
noncomputable def fpfcl0_23 : zyR := [(1, 5, 5), (1, 8, 8), (2, 0, 3), (3, 0, 79), (4, 0, 79), (5, 0, 79), (6, 0, 79), (7, 0, 79), (8, 0, 30), (9, 0, 30), (10, 0, 30), (11, 0, 30), (12, 0, 30), (13, 0, 30), (16, 1, 1)]
theorem zyfcl0_23_run : zyrS zymc zxi31 (31, 0, 0, 0, 0) 3 zpfcl0_23 (fun _ _ => []) zFfcl0_23 zSfcl0_23 zXfcl0_23 zRfcl0_23 1 = true := by decide +kernel
theorem zyfcl0_23_ck : zyAll (fun i => xsubR (zFfcl0_23 i) fpfcl0_23 && ((zXfcl0_23 i).all xckX && (zRfcl0_23 i).all (fun x => xckX x && xrtB false x))) 1 = true := by decide +kernel
def xIfcl0_23 (i : Nat) (x0 : Nat → Int) (E0 : zyEm) (v : Nat → Int) (E : zyEm) : Prop := (E = E0)
def xMfcl0_23 (i : Nat) (x0 : Nat → Int) (E0 : zyEm) (v : Nat → Int) (E : zyEm) : Nat := (0)
theorem xCl0_23 {l : Launch} {en : zEn} {me : zMe} (hen : zG zxMeta 31 = some en) (hme : zG zMeth 31 = some me) : xFc l zymc en me 3 [1] 2 fpfcl0_23 false (xΦcl0_ (2, 3)) xΨcl0 := by
  have een : zG zxMeta 31 = some (zxi31, 3, 4, 3, 31, 0, 0, 0, 0) := rfl
  obtain ⟨me1, hme1, hOK⟩ := zall hen
  rw [hme] at hme1
  cases hme1
  rw [een] at hen
  cases hen
  have hr := zyfcl0_23_run
  have hck := fun i hi => zyAll_iff zyfcl0_23_ck i hi
  simp only [Bool.and_eq_true] at hck
  intro B
  refine xcut (mi := zymc) (B := B) hOK rfl rfl (ι := Fin 1) (fun i => zpfcl0_23 i.val) (fun _ _ => []) (fun i => zFfcl0_23 i.val) (fun i => zSfcl0_23 i.val) (fun i => zXfcl0_23 i.val) (fun i => zRfcl0_23 i.val) (fun i y2 ct en2 me2 h => by cases h) 200000 (fun i => zyAll_iff hr i.val i.isLt) (fun i => (hck i.val i.isLt).1) (fun i => (hck i.val i.isLt).2.1) (fun i => (hck i.val i.isLt).2.2) ⟨0, by decide⟩ ⟨rfl, rfl, rfl, rfl⟩ ⟨by decide, by decide⟩ (fun i x0 E0 v E => xIfcl0_23 i.val x0 E0 v E) (fun i x0 E0 v E => xMfcl0_23 i.val x0 E0 v E) ?_ ?_ ?_
  · intro x0 E hx0 hT hΦ
    have hΦ : (xΦcl0_ (2, 3)) x0 E := hΦ
    refine ⟨fun k p hp => ?_, ?_⟩
    · have hk : k < 4 := (List.getElem?_eq_some_iff.mp hp).1
      have hk : k = 0 ∨ k = 1 ∨ k = 2 ∨ k = 3 := by omega
      rcases hk with rfl | rfl | rfl | rfl
      · have hp : some (0, 4294967295) = some p := hp
        cases hp
        show ((0 : Nat) : Int) ≤ 0 + 2147483648 ∧ 0 + 2147483648 ≤ ((4294967295 : Nat) : Int)
        omega
      · have hp : some (2147483650, 2147483650) = some p := hp
        cases hp
        show ((2147483650 : Nat) : Int) ≤ x0 0 + 2147483648 ∧ x0 0 + 2147483648 ≤ ((2147483650 : Nat) : Int)
        have hx := hx0 0
        have hP1 : x0 0 = ((2 : Nat) : Int) := hΦ.1
        have hP2 : x0 1 = ((3 : Nat) : Int) := hΦ.2
        omega
      · have hp : some (2147483651, 2147483651) = some p := hp
        cases hp
        show ((2147483651 : Nat) : Int) ≤ x0 1 + 2147483648 ∧ x0 1 + 2147483648 ≤ ((2147483651 : Nat) : Int)
        have hx := hx0 1
        have hP1 : x0 0 = ((2 : Nat) : Int) := hΦ.1
        have hP2 : x0 1 = ((3 : Nat) : Int) := hΦ.2
        omega
      · have hp : some (0, 4294967295) = some p := hp
        cases hp
        show ((0 : Nat) : Int) ≤ x0 2 + 2147483648 ∧ x0 2 + 2147483648 ≤ ((4294967295 : Nat) : Int)
        have hx := hx0 2
        omega
    · show E = E
      rfl
  · intro x0 s Wg hRu hrx hT0 hΦ i v H hT hrv hInv hKc hFr0 hIH x hx ρ2 v2 N2 H2 locs lsB stA hAt hB hv hr2 hXs hag hfr hFr hT2
    rcases i with ⟨i, hi⟩
    have hi2 : i = 0 := by omega
    rcases hi2 with rfl
    · cases hx
  · intro x0 E0 E E2 hrx hT0 hΦ i v hT hrv hInv hKc hFr0 x hx v2 hr2 hXs hag hfr hFr hT2
    rcases i with ⟨i, hi⟩
    have hi2 : i = 0 := by omega
    rcases hi2 with rfl
    · have hx : x ∈ [zxfcl0_23_ar0] := hx
      have hag : ∀ k, k < 4 → v2 k = v k := hag
      have hfr : xFr [(1, 5, 5), (1, 8, 8), (2, 0, 3), (3, 0, 23), (4, 0, 23), (5, 0, 23), (6, 0, 23), (7, 0, 23), (8, 0, 30), (9, 0, 30), (10, 0, 30), (11, 0, 30), (12, 0, 30), (13, 0, 30), (16, 1, 1)] _ _ := hfr
      have ex := List.mem_singleton.mp hx
      subst ex
      obtain ⟨hF, hBd, hM⟩ := hXs
      have g1 : v2 1 = v 1 := hag 1 (by decide)
      have g2 : v2 2 = v 2 := hag 2 (by decide)
      have b0 : ((2147483650 : Nat) : Int) ≤ (v2 1) + 2147483648 ∧ (v2 1) + 2147483648 ≤ ((2147483650 : Nat) : Int) := xXb hBd 0 rfl
      have b1 : ((2147483651 : Nat) : Int) ≤ (v2 2) + 2147483648 ∧ (v2 2) + 2147483648 ≤ ((2147483651 : Nat) : Int) := xXb hBd 1 rfl
      have m0 : xE E2 2 0 = (v2 1) := xXm hM 0 rfl
      have m1 : xE E2 2 1 = (v2 2) := xXm hM 1 rfl
      have hI : E = E0 := hInv
      show xΨcl0 x0 E0 E2 0
      have hP := hΦ
      have hP1 : x0 0 = ((2 : Nat) : Int) := hP.1
      have hP2 : x0 1 = ((3 : Nat) : Int) := hP.2
      unfold xΨcl0
      rw [hP1, hP2]
      obtain ⟨A, G⟩ := xGeo0_of hM (by decide) (by decide) (by decide) (by decide) (by decide) (by decide) zyfcl0_23_geo (by omega) (by omega) (by decide +kernel) (by decide +kernel)
      subst hI
      exact ⟨A, G, xJk0_of (by decide) (by decide) (by decide) (by decide) (by decide) G (fun i h1 h2 => by
        have h1 : ((24 : Nat) : Int) ≤ i := h1
        exact ⟨xFr_E hfr (xin_no (lo := 24) (by decide) (by omega)), xFr_E hfr (xin_no (lo := 24) (by decide) (by omega))⟩)⟩
noncomputable def zxfcl0_24_ar0 : zyXp := (0, [], [], [], [(34359738369, 2147483650, 2147483650), (68719476737, 2147483652, 2147483652)], [(32768, 34359738369), (32769, 68719476737), (32770, 256), (32771, 80), (16389, 0), (16392, 0), (262145, 0), (49152, 8), (49153, 16), (49154, 24), (49155, 0), (49156, 56), (49157, 32), (49158, 40), (49159, 48), (49160, 72), (49161, 80), (49162, 88), (49163, 64), (49164, 120), (49165, 96), (49166, 104), (49167, 112), (49168, 152), (49169, 128), (49170, 136), (49171, 144), (49172, 168), (49173, 176), (49174, 184), (49175, 160), (49176, 216), (49177, 192), (49178, 200), (49179, 208), (49180, 232), (49181, 240), (49182, 248), (49183, 224), (65536, 34359738360), (65537, 56), (65538, 128), (65539, 34359738360), (65540, 34359738360), (65541, 88), (65542, 160), (65543, 8), (65544, 34359738360), (65545, 120), (65546, 192), (65547, 40), (65548, 34359738360), (65549, 34359738360), (65550, 224), (65551, 72), (65552, 16), (65553, 184), (65554, 34359738360), (65555, 34359738360), (65556, 48), (65557, 216), (65558, 34359738360), (65559, 136), (65560, 80), (65561, 248), (65562, 34359738360), (65563, 168), (65564, 112), (65565, 34359738360), (65566, 34359738360), (65567, 200), (81920, 34359738360), (81921, 0), (81922, 48), (81923, 34359738360), (81924, 34359738360), (81925, 8), (81926, 56), (81927, 0), (81928, 34359738360), (81929, 16), (81930, 64), (81931, 8), (81932, 34359738360), (81933, 34359738360), (81934, 72), (81935, 16), (81936, 48), (81937, 24), (81938, 34359738360), (81939, 34359738360), (81940, 56), (81941, 32), (81942, 34359738360), (81943, 24), (81944, 64), (81945, 40), (81946, 34359738360), (81947, 32), (81948, 72), (81949, 34359738360), (81950, 34359738360), (81951, 40), (98304, 0), (98305, 8), (98306, 0), (98307, 34359738360), (98308, 16), (98309, 24), (98310, 16), (98311, 8), (98312, 32), (98313, 40), (98314, 32), (98315, 24), (98316, 48), (98317, 56), (98318, 48), (98319, 40), (98320, 0), (98321, 8), (98322, 0), (98323, 34359738360), (98324, 16), (98325, 24), (98326, 16), (98327, 8), (98328, 32), (98329, 40), (98330, 32), (98331, 24), (98332, 48), (98333, 56), (98334, 48), (98335, 40), (114688, 34359738360), (114689, 0), (114690, 8), (114691, 0), (114692, 34359738360), (114693, 0), (114694, 8), (114695, 0), (114696, 34359738360), (114697, 0), (114698, 8), (114699, 0), (114700, 34359738360), (114701, 0), (114702, 8), (114703, 0), (114704, 8), (114705, 16), (114706, 24), (114707, 16), (114708, 8), (114709, 16), (114710, 24), (114711, 16), (114712, 8), (114713, 16), (114714, 24), (114715, 16), (114716, 8), (114717, 16), (114718, 24), (114719, 16), (131072, 8), (131073, 40), (131074, 72), (131075, 136), (131076, 168), (131077, 200), (131078, 16), (131079, 48), (131080, 80), (131081, 112), (147456, 56), (147457, 88), (147458, 120), (147459, 184), (147460, 216), (147461, 248), (147462, 128), (147463, 160), (147464, 192), (147465, 224), (163840, 0), (163841, 0), (163842, 0), (163843, 0), (163844, 0), (163845, 0), (163846, 0), (163847, 0), (163848, 0), (163849, 0), (163850, 0), (163851, 0), (163852, 0), (163853, 0), (163854, 0), (163855, 0), (163856, 0), (163857, 0), (163858, 0), (163859, 0), (163860, 0), (163861, 0), (163862, 0), (163863, 0), (163864, 0), (163865, 0), (163866, 0), (163867, 0), (163868, 0), (163869, 0), (163870, 0), (180224, 8), (180225, 8), (180226, 8), (180227, 8), (180228, 8), (180229, 8), (180230, 8), (180231, 8), (180232, 8), (180233, 8), (180234, 8), (180235, 8), (180236, 8), (180237, 8), (180238, 8), (180239, 8), (180240, 8), (180241, 8), (180242, 8), (180243, 8), (180244, 8), (180245, 8), (180246, 8), (180247, 8), (180248, 8), (180249, 8), (180250, 8), (180251, 8), (180252, 8), (180253, 8), (180254, 8), (196608, 0), (196609, 0), (196610, 0), (196611, 0), (196612, 0), (196613, 0), (196614, 0), (196615, 0), (196616, 0), (196617, 0), (196618, 0), (196619, 0), (196620, 0), (196621, 0), (196622, 0), (196623, 0), (196624, 0), (196625, 0), (196626, 0), (196627, 0), (196628, 0), (196629, 0), (196630, 0), (196631, 0), (196632, 0), (196633, 0), (196634, 0), (196635, 0), (196636, 0), (196637, 0), (196638, 0), (212992, 0), (212993, 0), (212994, 0), (212995, 0), (212996, 0), (212997, 0), (212998, 0), (212999, 0), (213000, 0), (213001, 0), (213002, 0), (213003, 0), (213004, 0), (213005, 0), (213006, 0), (213007, 0), (213008, 0), (213009, 0), (213010, 0), (213011, 0), (213012, 0), (213013, 0), (213014, 0), (213015, 0), (213016, 0), (213017, 0), (213018, 0), (213019, 0), (213020, 0), (213021, 0), (213022, 0)])
noncomputable def zpfcl0_24_a : zyPh := (0, [11, 34359738369, 68719476737, 13], [(0, 4294967295), (2147483650, 2147483650), (2147483652, 2147483652), (0, 4294967295)], [], [])
noncomputable def zpfcl0_24 (i : Nat) : zyPh := zpfcl0_24_a
noncomputable def zXfcl0_24 (i : Nat) : List zyXp := []
noncomputable def zRfcl0_24 (i : Nat) : List zyXp := [zxfcl0_24_ar0]
noncomputable def zFfcl0_24 (i : Nat) : zyR := [(1, 5, 5), (1, 8, 8), (2, 0, 3), (3, 0, 31), (4, 0, 31), (5, 0, 31), (6, 0, 31), (7, 0, 31), (8, 0, 30), (9, 0, 30), (10, 0, 30), (11, 0, 30), (12, 0, 30), (13, 0, 30), (16, 1, 1)]
noncomputable def zSfcl0_24 (i : Nat) : Nat := 0
theorem zyfcl0_24_geo : xgeoB0 (zxfcl0_24_ar0).2.2.2.2.2 2 4 = true := by decide +kernel
noncomputable def fpfcl0_24 : zyR := [(1, 5, 5), (1, 8, 8), (2, 0, 3), (3, 0, 79), (4, 0, 79), (5, 0, 79), (6, 0, 79), (7, 0, 79), (8, 0, 30), (9, 0, 30), (10, 0, 30), (11, 0, 30), (12, 0, 30), (13, 0, 30), (16, 1, 1)]
theorem zyfcl0_24_run : zyrS zymc zxi31 (31, 0, 0, 0, 0) 3 zpfcl0_24 (fun _ _ => []) zFfcl0_24 zSfcl0_24 zXfcl0_24 zRfcl0_24 1 = true := by decide +kernel
theorem zyfcl0_24_ck : zyAll (fun i => xsubR (zFfcl0_24 i) fpfcl0_24 && ((zXfcl0_24 i).all xckX && (zRfcl0_24 i).all (fun x => xckX x && xrtB false x))) 1 = true := by decide +kernel
def xIfcl0_24 (i : Nat) (x0 : Nat → Int) (E0 : zyEm) (v : Nat → Int) (E : zyEm) : Prop := (E = E0)
def xMfcl0_24 (i : Nat) (x0 : Nat → Int) (E0 : zyEm) (v : Nat → Int) (E : zyEm) : Nat := (0)
theorem xCl0_24 {l : Launch} {en : zEn} {me : zMe} (hen : zG zxMeta 31 = some en) (hme : zG zMeth 31 = some me) : xFc l zymc en me 3 [1] 2 fpfcl0_24 false (xΦcl0_ (2, 4)) xΨcl0 := by
  have een : zG zxMeta 31 = some (zxi31, 3, 4, 3, 31, 0, 0, 0, 0) := rfl
  obtain ⟨me1, hme1, hOK⟩ := zall hen
  rw [hme] at hme1
  cases hme1
  rw [een] at hen
  cases hen
  have hr := zyfcl0_24_run
  have hck := fun i hi => zyAll_iff zyfcl0_24_ck i hi
  simp only [Bool.and_eq_true] at hck
  intro B
  refine xcut (mi := zymc) (B := B) hOK rfl rfl (ι := Fin 1) (fun i => zpfcl0_24 i.val) (fun _ _ => []) (fun i => zFfcl0_24 i.val) (fun i => zSfcl0_24 i.val) (fun i => zXfcl0_24 i.val) (fun i => zRfcl0_24 i.val) (fun i y2 ct en2 me2 h => by cases h) 200000 (fun i => zyAll_iff hr i.val i.isLt) (fun i => (hck i.val i.isLt).1) (fun i => (hck i.val i.isLt).2.1) (fun i => (hck i.val i.isLt).2.2) ⟨0, by decide⟩ ⟨rfl, rfl, rfl, rfl⟩ ⟨by decide, by decide⟩ (fun i x0 E0 v E => xIfcl0_24 i.val x0 E0 v E) (fun i x0 E0 v E => xMfcl0_24 i.val x0 E0 v E) ?_ ?_ ?_
  · intro x0 E hx0 hT hΦ
    have hΦ : (xΦcl0_ (2, 4)) x0 E := hΦ
    refine ⟨fun k p hp => ?_, ?_⟩
    · have hk : k < 4 := (List.getElem?_eq_some_iff.mp hp).1
      have hk : k = 0 ∨ k = 1 ∨ k = 2 ∨ k = 3 := by omega
      rcases hk with rfl | rfl | rfl | rfl
      · have hp : some (0, 4294967295) = some p := hp
        cases hp
        show ((0 : Nat) : Int) ≤ 0 + 2147483648 ∧ 0 + 2147483648 ≤ ((4294967295 : Nat) : Int)
        omega
      · have hp : some (2147483650, 2147483650) = some p := hp
        cases hp
        show ((2147483650 : Nat) : Int) ≤ x0 0 + 2147483648 ∧ x0 0 + 2147483648 ≤ ((2147483650 : Nat) : Int)
        have hx := hx0 0
        have hP1 : x0 0 = ((2 : Nat) : Int) := hΦ.1
        have hP2 : x0 1 = ((4 : Nat) : Int) := hΦ.2
        omega
      · have hp : some (2147483652, 2147483652) = some p := hp
        cases hp
        show ((2147483652 : Nat) : Int) ≤ x0 1 + 2147483648 ∧ x0 1 + 2147483648 ≤ ((2147483652 : Nat) : Int)
        have hx := hx0 1
        have hP1 : x0 0 = ((2 : Nat) : Int) := hΦ.1
        have hP2 : x0 1 = ((4 : Nat) : Int) := hΦ.2
        omega
      · have hp : some (0, 4294967295) = some p := hp
        cases hp
        show ((0 : Nat) : Int) ≤ x0 2 + 2147483648 ∧ x0 2 + 2147483648 ≤ ((4294967295 : Nat) : Int)
        have hx := hx0 2
        omega
    · show E = E
      rfl
  · intro x0 s Wg hRu hrx hT0 hΦ i v H hT hrv hInv hKc hFr0 hIH x hx ρ2 v2 N2 H2 locs lsB stA hAt hB hv hr2 hXs hag hfr hFr hT2
    rcases i with ⟨i, hi⟩
    have hi2 : i = 0 := by omega
    rcases hi2 with rfl
    · cases hx
  · intro x0 E0 E E2 hrx hT0 hΦ i v hT hrv hInv hKc hFr0 x hx v2 hr2 hXs hag hfr hFr hT2
    rcases i with ⟨i, hi⟩
    have hi2 : i = 0 := by omega
    rcases hi2 with rfl
    · have hx : x ∈ [zxfcl0_24_ar0] := hx
      have hag : ∀ k, k < 4 → v2 k = v k := hag
      have hfr : xFr [(1, 5, 5), (1, 8, 8), (2, 0, 3), (3, 0, 31), (4, 0, 31), (5, 0, 31), (6, 0, 31), (7, 0, 31), (8, 0, 30), (9, 0, 30), (10, 0, 30), (11, 0, 30), (12, 0, 30), (13, 0, 30), (16, 1, 1)] _ _ := hfr
      have ex := List.mem_singleton.mp hx
      subst ex
      obtain ⟨hF, hBd, hM⟩ := hXs
      have g1 : v2 1 = v 1 := hag 1 (by decide)
      have g2 : v2 2 = v 2 := hag 2 (by decide)
      have b0 : ((2147483650 : Nat) : Int) ≤ (v2 1) + 2147483648 ∧ (v2 1) + 2147483648 ≤ ((2147483650 : Nat) : Int) := xXb hBd 0 rfl
      have b1 : ((2147483652 : Nat) : Int) ≤ (v2 2) + 2147483648 ∧ (v2 2) + 2147483648 ≤ ((2147483652 : Nat) : Int) := xXb hBd 1 rfl
      have m0 : xE E2 2 0 = (v2 1) := xXm hM 0 rfl
      have m1 : xE E2 2 1 = (v2 2) := xXm hM 1 rfl
      have hI : E = E0 := hInv
      show xΨcl0 x0 E0 E2 0
      have hP := hΦ
      have hP1 : x0 0 = ((2 : Nat) : Int) := hP.1
      have hP2 : x0 1 = ((4 : Nat) : Int) := hP.2
      unfold xΨcl0
      rw [hP1, hP2]
      obtain ⟨A, G⟩ := xGeo0_of hM (by decide) (by decide) (by decide) (by decide) (by decide) (by decide) zyfcl0_24_geo (by omega) (by omega) (by decide +kernel) (by decide +kernel)
      subst hI
      exact ⟨A, G, xJk0_of (by decide) (by decide) (by decide) (by decide) (by decide) G (fun i h1 h2 => by
        have h1 : ((32 : Nat) : Int) ≤ i := h1
        exact ⟨xFr_E hfr (xin_no (lo := 32) (by decide) (by omega)), xFr_E hfr (xin_no (lo := 32) (by decide) (by omega))⟩)⟩
noncomputable def zxfcl0_25_ar0 : zyXp := (0, [], [], [], [(34359738369, 2147483650, 2147483650), (68719476737, 2147483653, 2147483653)], [(32768, 34359738369), (32769, 68719476737), (32770, 320), (32771, 104), (16389, 0), (16392, 0), (262145, 0), (49152, 8), (49153, 16), (49154, 24), (49155, 0), (49156, 56), (49157, 32), (49158, 40), (49159, 48), (49160, 72), (49161, 80), (49162, 88), (49163, 64), (49164, 120), (49165, 96), (49166, 104), (49167, 112), (49168, 136), (49169, 144), (49170, 152), (49171, 128), (49172, 184), (49173, 160), (49174, 168), (49175, 176), (49176, 200), (49177, 208), (49178, 216), (49179, 192), (49180, 248), (49181, 224), (49182, 232), (49183, 240), (49184, 264), (49185, 272), (49186, 280), (49187, 256), (49188, 312), (49189, 288), (49190, 296), (49191, 304), (65536, 34359738360), (65537, 56), (65538, 160), (65539, 34359738360), (65540, 34359738360), (65541, 88), (65542, 192), (65543, 8), (65544, 34359738360), (65545, 120), (65546, 224), (65547, 40), (65548, 34359738360), (65549, 152), (65550, 256), (65551, 72), (65552, 34359738360), (65553, 34359738360), (65554, 288), (65555, 104), (65556, 16), (65557, 216), (65558, 34359738360), (65559, 34359738360), (65560, 48), (65561, 248), (65562, 34359738360), (65563, 168), (65564, 80), (65565, 280), (65566, 34359738360), (65567, 200), (65568, 112), (65569, 312), (65570, 34359738360), (65571, 232), (65572, 144), (65573, 34359738360), (65574, 34359738360), (65575, 264), (81920, 34359738360), (81921, 0), (81922, 64), (81923, 34359738360), (81924, 34359738360), (81925, 8), (81926, 72), (81927, 0), (81928, 34359738360), (81929, 16), (81930, 80), (81931, 8), (81932, 34359738360), (81933, 24), (81934, 88), (81935, 16), (81936, 34359738360), (81937, 34359738360), (81938, 96), (81939, 24), (81940, 64), (81941, 32), (81942, 34359738360), (81943, 34359738360), (81944, 72), (81945, 40), (81946, 34359738360), (81947, 32), (81948, 80), (81949, 48), (81950, 34359738360), (81951, 40), (81952, 88), (81953, 56), (81954, 34359738360), (81955, 48), (81956, 96), (81957, 34359738360), (81958, 34359738360), (81959, 56), (98304, 0), (98305, 8), (98306, 0), (98307, 34359738360), (98308, 16), (98309, 24), (98310, 16), (98311, 8), (98312, 32), (98313, 40), (98314, 32), (98315, 24), (98316, 48), (98317, 56), (98318, 48), (98319, 40), (98320, 64), (98321, 72), (98322, 64), (98323, 56), (98324, 0), (98325, 8), (98326, 0), (98327, 34359738360), (98328, 16), (98329, 24), (98330, 16), (98331, 8), (98332, 32), (98333, 40), (98334, 32), (98335, 24), (98336, 48), (98337, 56), (98338, 48), (98339, 40), (98340, 64), (98341, 72), (98342, 64), (98343, 56), (114688, 34359738360), (114689, 0), (114690, 8), (114691, 0), (114692, 34359738360), (114693, 0), (114694, 8), (114695, 0), (114696, 34359738360), (114697, 0), (114698, 8), (114699, 0), (114700, 34359738360), (114701, 0), (114702, 8), (114703, 0), (114704, 34359738360), (114705, 0), (114706, 8), (114707, 0), (114708, 8), (114709, 16), (114710, 24), (114711, 16), (114712, 8), (114713, 16), (114714, 24), (114715, 16), (114716, 8), (114717, 16), (114718, 24), (114719, 16), (114720, 8), (114721, 16), (114722, 24), (114723, 16), (114724, 8), (114725, 16), (114726, 24), (114727, 16), (131072, 8), (131073, 40), (131074, 72), (131075, 104), (131076, 168), (131077, 200), (131078, 232), (131079, 264), (131080, 16), (131081, 48), (131082, 80), (131083, 112), (131084, 144), (147456, 56), (147457, 88), (147458, 120), (147459, 152), (147460, 216), (147461, 248), (147462, 280), (147463, 312), (147464, 160), (147465, 192), (147466, 224), (147467, 256), (147468, 288), (163840, 0), (163841, 0), (163842, 0), (163843, 0), (163844, 0), (163845, 0), (163846, 0), (163847, 0), (163848, 0), (163849, 0), (163850, 0), (163851, 0), (163852, 0), (163853, 0), (163854, 0), (163855, 0), (163856, 0), (163857, 0), (163858, 0), (163859, 0), (163860, 0), (163861, 0), (163862, 0), (163863, 0), (163864, 0), (163865, 0), (163866, 0), (163867, 0), (163868, 0), (163869, 0), (163870, 0), (180224, 8), (180225, 8), (180226, 8), (180227, 8), (180228, 8), (180229, 8), (180230, 8), (180231, 8), (180232, 8), (180233, 8), (180234, 8), (180235, 8), (180236, 8), (180237, 8), (180238, 8), (180239, 8), (180240, 8), (180241, 8), (180242, 8), (180243, 8), (180244, 8), (180245, 8), (180246, 8), (180247, 8), (180248, 8), (180249, 8), (180250, 8), (180251, 8), (180252, 8), (180253, 8), (180254, 8), (196608, 0), (196609, 0), (196610, 0), (196611, 0), (196612, 0), (196613, 0), (196614, 0), (196615, 0), (196616, 0), (196617, 0), (196618, 0), (196619, 0), (196620, 0), (196621, 0), (196622, 0), (196623, 0), (196624, 0), (196625, 0), (196626, 0), (196627, 0), (196628, 0), (196629, 0), (196630, 0), (196631, 0), (196632, 0), (196633, 0), (196634, 0), (196635, 0), (196636, 0), (196637, 0), (196638, 0), (212992, 0), (212993, 0), (212994, 0), (212995, 0), (212996, 0), (212997, 0), (212998, 0), (212999, 0), (213000, 0), (213001, 0), (213002, 0), (213003, 0), (213004, 0), (213005, 0), (213006, 0), (213007, 0), (213008, 0), (213009, 0), (213010, 0), (213011, 0), (213012, 0), (213013, 0), (213014, 0), (213015, 0), (213016, 0), (213017, 0), (213018, 0), (213019, 0), (213020, 0), (213021, 0), (213022, 0)])
noncomputable def zpfcl0_25_a : zyPh := (0, [11, 34359738369, 68719476737, 13], [(0, 4294967295), (2147483650, 2147483650), (2147483653, 2147483653), (0, 4294967295)], [], [])
noncomputable def zpfcl0_25 (i : Nat) : zyPh := zpfcl0_25_a
noncomputable def zXfcl0_25 (i : Nat) : List zyXp := []
noncomputable def zRfcl0_25 (i : Nat) : List zyXp := [zxfcl0_25_ar0]
noncomputable def zFfcl0_25 (i : Nat) : zyR := [(1, 5, 5), (1, 8, 8), (2, 0, 3), (3, 0, 39), (4, 0, 39), (5, 0, 39), (6, 0, 39), (7, 0, 39), (8, 0, 30), (9, 0, 30), (10, 0, 30), (11, 0, 30), (12, 0, 30), (13, 0, 30), (16, 1, 1)]
noncomputable def zSfcl0_25 (i : Nat) : Nat := 0
theorem zyfcl0_25_geo : xgeoB0 (zxfcl0_25_ar0).2.2.2.2.2 2 5 = true := by decide +kernel
noncomputable def fpfcl0_25 : zyR := [(1, 5, 5), (1, 8, 8), (2, 0, 3), (3, 0, 79), (4, 0, 79), (5, 0, 79), (6, 0, 79), (7, 0, 79), (8, 0, 30), (9, 0, 30), (10, 0, 30), (11, 0, 30), (12, 0, 30), (13, 0, 30), (16, 1, 1)]
theorem zyfcl0_25_run : zyrS zymc zxi31 (31, 0, 0, 0, 0) 3 zpfcl0_25 (fun _ _ => []) zFfcl0_25 zSfcl0_25 zXfcl0_25 zRfcl0_25 1 = true := by decide +kernel
theorem zyfcl0_25_ck : zyAll (fun i => xsubR (zFfcl0_25 i) fpfcl0_25 && ((zXfcl0_25 i).all xckX && (zRfcl0_25 i).all (fun x => xckX x && xrtB false x))) 1 = true := by decide +kernel
def xIfcl0_25 (i : Nat) (x0 : Nat → Int) (E0 : zyEm) (v : Nat → Int) (E : zyEm) : Prop := (E = E0)
def xMfcl0_25 (i : Nat) (x0 : Nat → Int) (E0 : zyEm) (v : Nat → Int) (E : zyEm) : Nat := (0)
theorem xCl0_25 {l : Launch} {en : zEn} {me : zMe} (hen : zG zxMeta 31 = some en) (hme : zG zMeth 31 = some me) : xFc l zymc en me 3 [1] 2 fpfcl0_25 false (xΦcl0_ (2, 5)) xΨcl0 := by
  have een : zG zxMeta 31 = some (zxi31, 3, 4, 3, 31, 0, 0, 0, 0) := rfl
  obtain ⟨me1, hme1, hOK⟩ := zall hen
  rw [hme] at hme1
  cases hme1
  rw [een] at hen
  cases hen
  have hr := zyfcl0_25_run
  have hck := fun i hi => zyAll_iff zyfcl0_25_ck i hi
  simp only [Bool.and_eq_true] at hck
  intro B
  refine xcut (mi := zymc) (B := B) hOK rfl rfl (ι := Fin 1) (fun i => zpfcl0_25 i.val) (fun _ _ => []) (fun i => zFfcl0_25 i.val) (fun i => zSfcl0_25 i.val) (fun i => zXfcl0_25 i.val) (fun i => zRfcl0_25 i.val) (fun i y2 ct en2 me2 h => by cases h) 200000 (fun i => zyAll_iff hr i.val i.isLt) (fun i => (hck i.val i.isLt).1) (fun i => (hck i.val i.isLt).2.1) (fun i => (hck i.val i.isLt).2.2) ⟨0, by decide⟩ ⟨rfl, rfl, rfl, rfl⟩ ⟨by decide, by decide⟩ (fun i x0 E0 v E => xIfcl0_25 i.val x0 E0 v E) (fun i x0 E0 v E => xMfcl0_25 i.val x0 E0 v E) ?_ ?_ ?_
  · intro x0 E hx0 hT hΦ
    have hΦ : (xΦcl0_ (2, 5)) x0 E := hΦ
    refine ⟨fun k p hp => ?_, ?_⟩
    · have hk : k < 4 := (List.getElem?_eq_some_iff.mp hp).1
      have hk : k = 0 ∨ k = 1 ∨ k = 2 ∨ k = 3 := by omega
      rcases hk with rfl | rfl | rfl | rfl
      · have hp : some (0, 4294967295) = some p := hp
        cases hp
        show ((0 : Nat) : Int) ≤ 0 + 2147483648 ∧ 0 + 2147483648 ≤ ((4294967295 : Nat) : Int)
        omega
      · have hp : some (2147483650, 2147483650) = some p := hp
        cases hp
        show ((2147483650 : Nat) : Int) ≤ x0 0 + 2147483648 ∧ x0 0 + 2147483648 ≤ ((2147483650 : Nat) : Int)
        have hx := hx0 0
        have hP1 : x0 0 = ((2 : Nat) : Int) := hΦ.1
        have hP2 : x0 1 = ((5 : Nat) : Int) := hΦ.2
        omega
      · have hp : some (2147483653, 2147483653) = some p := hp
        cases hp
        show ((2147483653 : Nat) : Int) ≤ x0 1 + 2147483648 ∧ x0 1 + 2147483648 ≤ ((2147483653 : Nat) : Int)
        have hx := hx0 1
        have hP1 : x0 0 = ((2 : Nat) : Int) := hΦ.1
        have hP2 : x0 1 = ((5 : Nat) : Int) := hΦ.2
        omega
      · have hp : some (0, 4294967295) = some p := hp
        cases hp
        show ((0 : Nat) : Int) ≤ x0 2 + 2147483648 ∧ x0 2 + 2147483648 ≤ ((4294967295 : Nat) : Int)
        have hx := hx0 2
        omega
    · show E = E
      rfl
  · intro x0 s Wg hRu hrx hT0 hΦ i v H hT hrv hInv hKc hFr0 hIH x hx ρ2 v2 N2 H2 locs lsB stA hAt hB hv hr2 hXs hag hfr hFr hT2
    rcases i with ⟨i, hi⟩
    have hi2 : i = 0 := by omega
    rcases hi2 with rfl
    · cases hx
  · intro x0 E0 E E2 hrx hT0 hΦ i v hT hrv hInv hKc hFr0 x hx v2 hr2 hXs hag hfr hFr hT2
    rcases i with ⟨i, hi⟩
    have hi2 : i = 0 := by omega
    rcases hi2 with rfl
    · have hx : x ∈ [zxfcl0_25_ar0] := hx
      have hag : ∀ k, k < 4 → v2 k = v k := hag
      have hfr : xFr [(1, 5, 5), (1, 8, 8), (2, 0, 3), (3, 0, 39), (4, 0, 39), (5, 0, 39), (6, 0, 39), (7, 0, 39), (8, 0, 30), (9, 0, 30), (10, 0, 30), (11, 0, 30), (12, 0, 30), (13, 0, 30), (16, 1, 1)] _ _ := hfr
      have ex := List.mem_singleton.mp hx
      subst ex
      obtain ⟨hF, hBd, hM⟩ := hXs
      have g1 : v2 1 = v 1 := hag 1 (by decide)
      have g2 : v2 2 = v 2 := hag 2 (by decide)
      have b0 : ((2147483650 : Nat) : Int) ≤ (v2 1) + 2147483648 ∧ (v2 1) + 2147483648 ≤ ((2147483650 : Nat) : Int) := xXb hBd 0 rfl
      have b1 : ((2147483653 : Nat) : Int) ≤ (v2 2) + 2147483648 ∧ (v2 2) + 2147483648 ≤ ((2147483653 : Nat) : Int) := xXb hBd 1 rfl
      have m0 : xE E2 2 0 = (v2 1) := xXm hM 0 rfl
      have m1 : xE E2 2 1 = (v2 2) := xXm hM 1 rfl
      have hI : E = E0 := hInv
      show xΨcl0 x0 E0 E2 0
      have hP := hΦ
      have hP1 : x0 0 = ((2 : Nat) : Int) := hP.1
      have hP2 : x0 1 = ((5 : Nat) : Int) := hP.2
      unfold xΨcl0
      rw [hP1, hP2]
      obtain ⟨A, G⟩ := xGeo0_of hM (by decide) (by decide) (by decide) (by decide) (by decide) (by decide) zyfcl0_25_geo (by omega) (by omega) (by decide +kernel) (by decide +kernel)
      subst hI
      exact ⟨A, G, xJk0_of (by decide) (by decide) (by decide) (by decide) (by decide) G (fun i h1 h2 => by
        have h1 : ((40 : Nat) : Int) ≤ i := h1
        exact ⟨xFr_E hfr (xin_no (lo := 40) (by decide) (by omega)), xFr_E hfr (xin_no (lo := 40) (by decide) (by omega))⟩)⟩
noncomputable def zxfcl0_31_ar0 : zyXp := (0, [], [], [], [(34359738369, 2147483651, 2147483651), (68719476737, 2147483649, 2147483649)], [(32768, 34359738369), (32769, 68719476737), (32770, 96), (32771, 16), (16389, 0), (16392, 0), (262145, 0), (49152, 8), (49153, 16), (49154, 24), (49155, 0), (49156, 56), (49157, 32), (49158, 40), (49159, 48), (49160, 72), (49161, 80), (49162, 88), (49163, 64), (65536, 34359738360), (65537, 34359738360), (65538, 32), (65539, 34359738360), (65540, 16), (65541, 34359738360), (65542, 64), (65543, 34359738360), (65544, 48), (65545, 34359738360), (65546, 34359738360), (65547, 34359738360), (81920, 34359738360), (81921, 34359738360), (81922, 0), (81923, 34359738360), (81924, 0), (81925, 34359738360), (81926, 8), (81927, 34359738360), (81928, 8), (81929, 34359738360), (81930, 34359738360), (81931, 34359738360), (98304, 0), (98305, 8), (98306, 0), (98307, 34359738360), (98308, 0), (98309, 8), (98310, 0), (98311, 34359738360), (98312, 0), (98313, 8), (98314, 0), (98315, 34359738360), (114688, 34359738360), (114689, 0), (114690, 8), (114691, 0), (114692, 8), (114693, 16), (114694, 24), (114695, 16), (114696, 24), (114697, 32), (114698, 40), (114699, 32), (131072, 16), (131073, 48), (147456, 32), (147457, 64), (163840, 0), (163841, 0), (163842, 0), (163843, 0), (163844, 0), (163845, 0), (163846, 0), (163847, 0), (163848, 0), (163849, 0), (163850, 0), (163851, 0), (163852, 0), (163853, 0), (163854, 0), (163855, 0), (163856, 0), (163857, 0), (163858, 0), (163859, 0), (163860, 0), (163861, 0), (163862, 0), (163863, 0), (163864, 0), (163865, 0), (163866, 0), (163867, 0), (163868, 0), (163869, 0), (163870, 0), (180224, 8), (180225, 8), (180226, 8), (180227, 8), (180228, 8), (180229, 8), (180230, 8), (180231, 8), (180232, 8), (180233, 8), (180234, 8), (180235, 8), (180236, 8), (180237, 8), (180238, 8), (180239, 8), (180240, 8), (180241, 8), (180242, 8), (180243, 8), (180244, 8), (180245, 8), (180246, 8), (180247, 8), (180248, 8), (180249, 8), (180250, 8), (180251, 8), (180252, 8), (180253, 8), (180254, 8), (196608, 0), (196609, 0), (196610, 0), (196611, 0), (196612, 0), (196613, 0), (196614, 0), (196615, 0), (196616, 0), (196617, 0), (196618, 0), (196619, 0), (196620, 0), (196621, 0), (196622, 0), (196623, 0), (196624, 0), (196625, 0), (196626, 0), (196627, 0), (196628, 0), (196629, 0), (196630, 0), (196631, 0), (196632, 0), (196633, 0), (196634, 0), (196635, 0), (196636, 0), (196637, 0), (196638, 0), (212992, 0), (212993, 0), (212994, 0), (212995, 0), (212996, 0), (212997, 0), (212998, 0), (212999, 0), (213000, 0), (213001, 0), (213002, 0), (213003, 0), (213004, 0), (213005, 0), (213006, 0), (213007, 0), (213008, 0), (213009, 0), (213010, 0), (213011, 0), (213012, 0), (213013, 0), (213014, 0), (213015, 0), (213016, 0), (213017, 0), (213018, 0), (213019, 0), (213020, 0), (213021, 0), (213022, 0)])
noncomputable def zpfcl0_31_a : zyPh := (0, [11, 34359738369, 68719476737, 13], [(0, 4294967295), (2147483651, 2147483651), (2147483649, 2147483649), (0, 4294967295)], [], [])
noncomputable def zpfcl0_31 (i : Nat) : zyPh := zpfcl0_31_a
noncomputable def zXfcl0_31 (i : Nat) : List zyXp := []
noncomputable def zRfcl0_31 (i : Nat) : List zyXp := [zxfcl0_31_ar0]
noncomputable def zFfcl0_31 (i : Nat) : zyR := [(1, 5, 5), (1, 8, 8), (2, 0, 3), (3, 0, 11), (4, 0, 11), (5, 0, 11), (6, 0, 11), (7, 0, 11), (8, 0, 30), (9, 0, 30), (10, 0, 30), (11, 0, 30), (12, 0, 30), (13, 0, 30), (16, 1, 1)]
noncomputable def zSfcl0_31 (i : Nat) : Nat := 0
theorem zyfcl0_31_geo : xgeoB0 (zxfcl0_31_ar0).2.2.2.2.2 3 1 = true := by decide +kernel
noncomputable def fpfcl0_31 : zyR := [(1, 5, 5), (1, 8, 8), (2, 0, 3), (3, 0, 79), (4, 0, 79), (5, 0, 79), (6, 0, 79), (7, 0, 79), (8, 0, 30), (9, 0, 30), (10, 0, 30), (11, 0, 30), (12, 0, 30), (13, 0, 30), (16, 1, 1)]
theorem zyfcl0_31_run : zyrS zymc zxi31 (31, 0, 0, 0, 0) 3 zpfcl0_31 (fun _ _ => []) zFfcl0_31 zSfcl0_31 zXfcl0_31 zRfcl0_31 1 = true := by decide +kernel
theorem zyfcl0_31_ck : zyAll (fun i => xsubR (zFfcl0_31 i) fpfcl0_31 && ((zXfcl0_31 i).all xckX && (zRfcl0_31 i).all (fun x => xckX x && xrtB false x))) 1 = true := by decide +kernel
def xIfcl0_31 (i : Nat) (x0 : Nat → Int) (E0 : zyEm) (v : Nat → Int) (E : zyEm) : Prop := (E = E0)
def xMfcl0_31 (i : Nat) (x0 : Nat → Int) (E0 : zyEm) (v : Nat → Int) (E : zyEm) : Nat := (0)
theorem xCl0_31 {l : Launch} {en : zEn} {me : zMe} (hen : zG zxMeta 31 = some en) (hme : zG zMeth 31 = some me) : xFc l zymc en me 3 [1] 2 fpfcl0_31 false (xΦcl0_ (3, 1)) xΨcl0 := by
  have een : zG zxMeta 31 = some (zxi31, 3, 4, 3, 31, 0, 0, 0, 0) := rfl
  obtain ⟨me1, hme1, hOK⟩ := zall hen
  rw [hme] at hme1
  cases hme1
  rw [een] at hen
  cases hen
  have hr := zyfcl0_31_run
  have hck := fun i hi => zyAll_iff zyfcl0_31_ck i hi
  simp only [Bool.and_eq_true] at hck
  intro B
  refine xcut (mi := zymc) (B := B) hOK rfl rfl (ι := Fin 1) (fun i => zpfcl0_31 i.val) (fun _ _ => []) (fun i => zFfcl0_31 i.val) (fun i => zSfcl0_31 i.val) (fun i => zXfcl0_31 i.val) (fun i => zRfcl0_31 i.val) (fun i y2 ct en2 me2 h => by cases h) 200000 (fun i => zyAll_iff hr i.val i.isLt) (fun i => (hck i.val i.isLt).1) (fun i => (hck i.val i.isLt).2.1) (fun i => (hck i.val i.isLt).2.2) ⟨0, by decide⟩ ⟨rfl, rfl, rfl, rfl⟩ ⟨by decide, by decide⟩ (fun i x0 E0 v E => xIfcl0_31 i.val x0 E0 v E) (fun i x0 E0 v E => xMfcl0_31 i.val x0 E0 v E) ?_ ?_ ?_
  · intro x0 E hx0 hT hΦ
    have hΦ : (xΦcl0_ (3, 1)) x0 E := hΦ
    refine ⟨fun k p hp => ?_, ?_⟩
    · have hk : k < 4 := (List.getElem?_eq_some_iff.mp hp).1
      have hk : k = 0 ∨ k = 1 ∨ k = 2 ∨ k = 3 := by omega
      rcases hk with rfl | rfl | rfl | rfl
      · have hp : some (0, 4294967295) = some p := hp
        cases hp
        show ((0 : Nat) : Int) ≤ 0 + 2147483648 ∧ 0 + 2147483648 ≤ ((4294967295 : Nat) : Int)
        omega
      · have hp : some (2147483651, 2147483651) = some p := hp
        cases hp
        show ((2147483651 : Nat) : Int) ≤ x0 0 + 2147483648 ∧ x0 0 + 2147483648 ≤ ((2147483651 : Nat) : Int)
        have hx := hx0 0
        have hP1 : x0 0 = ((3 : Nat) : Int) := hΦ.1
        have hP2 : x0 1 = ((1 : Nat) : Int) := hΦ.2
        omega
      · have hp : some (2147483649, 2147483649) = some p := hp
        cases hp
        show ((2147483649 : Nat) : Int) ≤ x0 1 + 2147483648 ∧ x0 1 + 2147483648 ≤ ((2147483649 : Nat) : Int)
        have hx := hx0 1
        have hP1 : x0 0 = ((3 : Nat) : Int) := hΦ.1
        have hP2 : x0 1 = ((1 : Nat) : Int) := hΦ.2
        omega
      · have hp : some (0, 4294967295) = some p := hp
        cases hp
        show ((0 : Nat) : Int) ≤ x0 2 + 2147483648 ∧ x0 2 + 2147483648 ≤ ((4294967295 : Nat) : Int)
        have hx := hx0 2
        omega
    · show E = E
      rfl
  · intro x0 s Wg hRu hrx hT0 hΦ i v H hT hrv hInv hKc hFr0 hIH x hx ρ2 v2 N2 H2 locs lsB stA hAt hB hv hr2 hXs hag hfr hFr hT2
    rcases i with ⟨i, hi⟩
    have hi2 : i = 0 := by omega
    rcases hi2 with rfl
    · cases hx
  · intro x0 E0 E E2 hrx hT0 hΦ i v hT hrv hInv hKc hFr0 x hx v2 hr2 hXs hag hfr hFr hT2
    rcases i with ⟨i, hi⟩
    have hi2 : i = 0 := by omega
    rcases hi2 with rfl
    · have hx : x ∈ [zxfcl0_31_ar0] := hx
      have hag : ∀ k, k < 4 → v2 k = v k := hag
      have hfr : xFr [(1, 5, 5), (1, 8, 8), (2, 0, 3), (3, 0, 11), (4, 0, 11), (5, 0, 11), (6, 0, 11), (7, 0, 11), (8, 0, 30), (9, 0, 30), (10, 0, 30), (11, 0, 30), (12, 0, 30), (13, 0, 30), (16, 1, 1)] _ _ := hfr
      have ex := List.mem_singleton.mp hx
      subst ex
      obtain ⟨hF, hBd, hM⟩ := hXs
      have g1 : v2 1 = v 1 := hag 1 (by decide)
      have g2 : v2 2 = v 2 := hag 2 (by decide)
      have b0 : ((2147483651 : Nat) : Int) ≤ (v2 1) + 2147483648 ∧ (v2 1) + 2147483648 ≤ ((2147483651 : Nat) : Int) := xXb hBd 0 rfl
      have b1 : ((2147483649 : Nat) : Int) ≤ (v2 2) + 2147483648 ∧ (v2 2) + 2147483648 ≤ ((2147483649 : Nat) : Int) := xXb hBd 1 rfl
      have m0 : xE E2 2 0 = (v2 1) := xXm hM 0 rfl
      have m1 : xE E2 2 1 = (v2 2) := xXm hM 1 rfl
      have hI : E = E0 := hInv
      show xΨcl0 x0 E0 E2 0
      have hP := hΦ
      have hP1 : x0 0 = ((3 : Nat) : Int) := hP.1
      have hP2 : x0 1 = ((1 : Nat) : Int) := hP.2
      unfold xΨcl0
      rw [hP1, hP2]
      obtain ⟨A, G⟩ := xGeo0_of hM (by decide) (by decide) (by decide) (by decide) (by decide) (by decide) zyfcl0_31_geo (by omega) (by omega) (by decide +kernel) (by decide +kernel)
      subst hI
      exact ⟨A, G, xJk0_of (by decide) (by decide) (by decide) (by decide) (by decide) G (fun i h1 h2 => by
        have h1 : ((12 : Nat) : Int) ≤ i := h1
        exact ⟨xFr_E hfr (xin_no (lo := 12) (by decide) (by omega)), xFr_E hfr (xin_no (lo := 12) (by decide) (by omega))⟩)⟩
noncomputable def zxfcl0_32_ar0 : zyXp := (0, [], [], [], [(34359738369, 2147483651, 2147483651), (68719476737, 2147483650, 2147483650)], [(32768, 34359738369), (32769, 68719476737), (32770, 192), (32771, 56), (16389, 0), (16392, 0), (262145, 0), (49152, 8), (49153, 16), (49154, 24), (49155, 0), (49156, 56), (49157, 32), (49158, 40), (49159, 48), (49160, 88), (49161, 64), (49162, 72), (49163, 80), (49164, 104), (49165, 112), (49166, 120), (49167, 96), (49168, 136), (49169, 144), (49170, 152), (49171, 128), (49172, 184), (49173, 160), (49174, 168), (49175, 176), (65536, 34359738360), (65537, 56), (65538, 64), (65539, 34359738360), (65540, 34359738360), (65541, 34359738360), (65542, 96), (65543, 8), (65544, 16), (65545, 120), (65546, 128), (65547, 34359738360), (65548, 48), (65549, 34359738360), (65550, 160), (65551, 72), (65552, 80), (65553, 184), (65554, 34359738360), (65555, 34359738360), (65556, 112), (65557, 34359738360), (65558, 34359738360), (65559, 136), (81920, 34359738360), (81921, 0), (81922, 24), (81923, 34359738360), (81924, 34359738360), (81925, 34359738360), (81926, 32), (81927, 0), (81928, 24), (81929, 8), (81930, 40), (81931, 34359738360), (81932, 32), (81933, 34359738360), (81934, 48), (81935, 8), (81936, 40), (81937, 16), (81938, 34359738360), (81939, 34359738360), (81940, 48), (81941, 34359738360), (81942, 34359738360), (81943, 16), (98304, 0), (98305, 8), (98306, 0), (98307, 34359738360), (98308, 16), (98309, 24), (98310, 16), (98311, 8), (98312, 0), (98313, 8), (98314, 0), (98315, 34359738360), (98316, 16), (98317, 24), (98318, 16), (98319, 8), (98320, 0), (98321, 8), (98322, 0), (98323, 34359738360), (98324, 16), (98325, 24), (98326, 16), (98327, 8), (114688, 34359738360), (114689, 0), (114690, 8), (114691, 0), (114692, 34359738360), (114693, 0), (114694, 8), (114695, 0), (114696, 8), (114697, 16), (114698, 24), (114699, 16), (114700, 8), (114701, 16), (114702, 24), (114703, 16), (114704, 24), (114705, 32), (114706, 40), (114707, 32), (114708, 24), (114709, 32), (114710, 40), (114711, 32), (131072, 8), (131073, 72), (131074, 136), (131075, 16), (131076, 48), (131077, 80), (131078, 112), (147456, 56), (147457, 120), (147458, 184), (147459, 64), (147460, 96), (147461, 128), (147462, 160), (163840, 0), (163841, 0), (163842, 0), (163843, 0), (163844, 0), (163845, 0), (163846, 0), (163847, 0), (163848, 0), (163849, 0), (163850, 0), (163851, 0), (163852, 0), (163853, 0), (163854, 0), (163855, 0), (163856, 0), (163857, 0), (163858, 0), (163859, 0), (163860, 0), (163861, 0), (163862, 0), (163863, 0), (163864, 0), (163865, 0), (163866, 0), (163867, 0), (163868, 0), (163869, 0), (163870, 0), (180224, 8), (180225, 8), (180226, 8), (180227, 8), (180228, 8), (180229, 8), (180230, 8), (180231, 8), (180232, 8), (180233, 8), (180234, 8), (180235, 8), (180236, 8), (180237, 8), (180238, 8), (180239, 8), (180240, 8), (180241, 8), (180242, 8), (180243, 8), (180244, 8), (180245, 8), (180246, 8), (180247, 8), (180248, 8), (180249, 8), (180250, 8), (180251, 8), (180252, 8), (180253, 8), (180254, 8), (196608, 0), (196609, 0), (196610, 0), (196611, 0), (196612, 0), (196613, 0), (196614, 0), (196615, 0), (196616, 0), (196617, 0), (196618, 0), (196619, 0), (196620, 0), (196621, 0), (196622, 0), (196623, 0), (196624, 0), (196625, 0), (196626, 0), (196627, 0), (196628, 0), (196629, 0), (196630, 0), (196631, 0), (196632, 0), (196633, 0), (196634, 0), (196635, 0), (196636, 0), (196637, 0), (196638, 0), (212992, 0), (212993, 0), (212994, 0), (212995, 0), (212996, 0), (212997, 0), (212998, 0), (212999, 0), (213000, 0), (213001, 0), (213002, 0), (213003, 0), (213004, 0), (213005, 0), (213006, 0), (213007, 0), (213008, 0), (213009, 0), (213010, 0), (213011, 0), (213012, 0), (213013, 0), (213014, 0), (213015, 0), (213016, 0), (213017, 0), (213018, 0), (213019, 0), (213020, 0), (213021, 0), (213022, 0)])
noncomputable def zpfcl0_32_a : zyPh := (0, [11, 34359738369, 68719476737, 13], [(0, 4294967295), (2147483651, 2147483651), (2147483650, 2147483650), (0, 4294967295)], [], [])
noncomputable def zpfcl0_32 (i : Nat) : zyPh := zpfcl0_32_a
noncomputable def zXfcl0_32 (i : Nat) : List zyXp := []
noncomputable def zRfcl0_32 (i : Nat) : List zyXp := [zxfcl0_32_ar0]
noncomputable def zFfcl0_32 (i : Nat) : zyR := [(1, 5, 5), (1, 8, 8), (2, 0, 3), (3, 0, 23), (4, 0, 23), (5, 0, 23), (6, 0, 23), (7, 0, 23), (8, 0, 30), (9, 0, 30), (10, 0, 30), (11, 0, 30), (12, 0, 30), (13, 0, 30), (16, 1, 1)]
noncomputable def zSfcl0_32 (i : Nat) : Nat := 0
theorem zyfcl0_32_geo : xgeoB0 (zxfcl0_32_ar0).2.2.2.2.2 3 2 = true := by decide +kernel
noncomputable def fpfcl0_32 : zyR := [(1, 5, 5), (1, 8, 8), (2, 0, 3), (3, 0, 79), (4, 0, 79), (5, 0, 79), (6, 0, 79), (7, 0, 79), (8, 0, 30), (9, 0, 30), (10, 0, 30), (11, 0, 30), (12, 0, 30), (13, 0, 30), (16, 1, 1)]
theorem zyfcl0_32_run : zyrS zymc zxi31 (31, 0, 0, 0, 0) 3 zpfcl0_32 (fun _ _ => []) zFfcl0_32 zSfcl0_32 zXfcl0_32 zRfcl0_32 1 = true := by decide +kernel
theorem zyfcl0_32_ck : zyAll (fun i => xsubR (zFfcl0_32 i) fpfcl0_32 && ((zXfcl0_32 i).all xckX && (zRfcl0_32 i).all (fun x => xckX x && xrtB false x))) 1 = true := by decide +kernel
def xIfcl0_32 (i : Nat) (x0 : Nat → Int) (E0 : zyEm) (v : Nat → Int) (E : zyEm) : Prop := (E = E0)
def xMfcl0_32 (i : Nat) (x0 : Nat → Int) (E0 : zyEm) (v : Nat → Int) (E : zyEm) : Nat := (0)
theorem xCl0_32 {l : Launch} {en : zEn} {me : zMe} (hen : zG zxMeta 31 = some en) (hme : zG zMeth 31 = some me) : xFc l zymc en me 3 [1] 2 fpfcl0_32 false (xΦcl0_ (3, 2)) xΨcl0 := by
  have een : zG zxMeta 31 = some (zxi31, 3, 4, 3, 31, 0, 0, 0, 0) := rfl
  obtain ⟨me1, hme1, hOK⟩ := zall hen
  rw [hme] at hme1
  cases hme1
  rw [een] at hen
  cases hen
  have hr := zyfcl0_32_run
  have hck := fun i hi => zyAll_iff zyfcl0_32_ck i hi
  simp only [Bool.and_eq_true] at hck
  intro B
  refine xcut (mi := zymc) (B := B) hOK rfl rfl (ι := Fin 1) (fun i => zpfcl0_32 i.val) (fun _ _ => []) (fun i => zFfcl0_32 i.val) (fun i => zSfcl0_32 i.val) (fun i => zXfcl0_32 i.val) (fun i => zRfcl0_32 i.val) (fun i y2 ct en2 me2 h => by cases h) 200000 (fun i => zyAll_iff hr i.val i.isLt) (fun i => (hck i.val i.isLt).1) (fun i => (hck i.val i.isLt).2.1) (fun i => (hck i.val i.isLt).2.2) ⟨0, by decide⟩ ⟨rfl, rfl, rfl, rfl⟩ ⟨by decide, by decide⟩ (fun i x0 E0 v E => xIfcl0_32 i.val x0 E0 v E) (fun i x0 E0 v E => xMfcl0_32 i.val x0 E0 v E) ?_ ?_ ?_
  · intro x0 E hx0 hT hΦ
    have hΦ : (xΦcl0_ (3, 2)) x0 E := hΦ
    refine ⟨fun k p hp => ?_, ?_⟩
    · have hk : k < 4 := (List.getElem?_eq_some_iff.mp hp).1
      have hk : k = 0 ∨ k = 1 ∨ k = 2 ∨ k = 3 := by omega
      rcases hk with rfl | rfl | rfl | rfl
      · have hp : some (0, 4294967295) = some p := hp
        cases hp
        show ((0 : Nat) : Int) ≤ 0 + 2147483648 ∧ 0 + 2147483648 ≤ ((4294967295 : Nat) : Int)
        omega
      · have hp : some (2147483651, 2147483651) = some p := hp
        cases hp
        show ((2147483651 : Nat) : Int) ≤ x0 0 + 2147483648 ∧ x0 0 + 2147483648 ≤ ((2147483651 : Nat) : Int)
        have hx := hx0 0
        have hP1 : x0 0 = ((3 : Nat) : Int) := hΦ.1
        have hP2 : x0 1 = ((2 : Nat) : Int) := hΦ.2
        omega
      · have hp : some (2147483650, 2147483650) = some p := hp
        cases hp
        show ((2147483650 : Nat) : Int) ≤ x0 1 + 2147483648 ∧ x0 1 + 2147483648 ≤ ((2147483650 : Nat) : Int)
        have hx := hx0 1
        have hP1 : x0 0 = ((3 : Nat) : Int) := hΦ.1
        have hP2 : x0 1 = ((2 : Nat) : Int) := hΦ.2
        omega
      · have hp : some (0, 4294967295) = some p := hp
        cases hp
        show ((0 : Nat) : Int) ≤ x0 2 + 2147483648 ∧ x0 2 + 2147483648 ≤ ((4294967295 : Nat) : Int)
        have hx := hx0 2
        omega
    · show E = E
      rfl
  · intro x0 s Wg hRu hrx hT0 hΦ i v H hT hrv hInv hKc hFr0 hIH x hx ρ2 v2 N2 H2 locs lsB stA hAt hB hv hr2 hXs hag hfr hFr hT2
    rcases i with ⟨i, hi⟩
    have hi2 : i = 0 := by omega
    rcases hi2 with rfl
    · cases hx
  · intro x0 E0 E E2 hrx hT0 hΦ i v hT hrv hInv hKc hFr0 x hx v2 hr2 hXs hag hfr hFr hT2
    rcases i with ⟨i, hi⟩
    have hi2 : i = 0 := by omega
    rcases hi2 with rfl
    · have hx : x ∈ [zxfcl0_32_ar0] := hx
      have hag : ∀ k, k < 4 → v2 k = v k := hag
      have hfr : xFr [(1, 5, 5), (1, 8, 8), (2, 0, 3), (3, 0, 23), (4, 0, 23), (5, 0, 23), (6, 0, 23), (7, 0, 23), (8, 0, 30), (9, 0, 30), (10, 0, 30), (11, 0, 30), (12, 0, 30), (13, 0, 30), (16, 1, 1)] _ _ := hfr
      have ex := List.mem_singleton.mp hx
      subst ex
      obtain ⟨hF, hBd, hM⟩ := hXs
      have g1 : v2 1 = v 1 := hag 1 (by decide)
      have g2 : v2 2 = v 2 := hag 2 (by decide)
      have b0 : ((2147483651 : Nat) : Int) ≤ (v2 1) + 2147483648 ∧ (v2 1) + 2147483648 ≤ ((2147483651 : Nat) : Int) := xXb hBd 0 rfl
      have b1 : ((2147483650 : Nat) : Int) ≤ (v2 2) + 2147483648 ∧ (v2 2) + 2147483648 ≤ ((2147483650 : Nat) : Int) := xXb hBd 1 rfl
      have m0 : xE E2 2 0 = (v2 1) := xXm hM 0 rfl
      have m1 : xE E2 2 1 = (v2 2) := xXm hM 1 rfl
      have hI : E = E0 := hInv
      show xΨcl0 x0 E0 E2 0
      have hP := hΦ
      have hP1 : x0 0 = ((3 : Nat) : Int) := hP.1
      have hP2 : x0 1 = ((2 : Nat) : Int) := hP.2
      unfold xΨcl0
      rw [hP1, hP2]
      obtain ⟨A, G⟩ := xGeo0_of hM (by decide) (by decide) (by decide) (by decide) (by decide) (by decide) zyfcl0_32_geo (by omega) (by omega) (by decide +kernel) (by decide +kernel)
      subst hI
      exact ⟨A, G, xJk0_of (by decide) (by decide) (by decide) (by decide) (by decide) G (fun i h1 h2 => by
        have h1 : ((24 : Nat) : Int) ≤ i := h1
        exact ⟨xFr_E hfr (xin_no (lo := 24) (by decide) (by omega)), xFr_E hfr (xin_no (lo := 24) (by decide) (by omega))⟩)⟩
noncomputable def zxfcl0_33_ar0 : zyXp := (0, [], [], [], [(34359738369, 2147483651, 2147483651), (68719476737, 2147483651, 2147483651)], [(32768, 34359738369), (32769, 68719476737), (32770, 288), (32771, 96), (16389, 0), (16392, 0), (262145, 0), (49152, 8), (49153, 16), (49154, 24), (49155, 0), (49156, 56), (49157, 32), (49158, 40), (49159, 48), (49160, 72), (49161, 80), (49162, 88), (49163, 64), (49164, 120), (49165, 96), (49166, 104), (49167, 112), (49168, 136), (49169, 144), (49170, 152), (49171, 128), (49172, 184), (49173, 160), (49174, 168), (49175, 176), (49176, 200), (49177, 208), (49178, 216), (49179, 192), (49180, 248), (49181, 224), (49182, 232), (49183, 240), (49184, 264), (49185, 272), (49186, 280), (49187, 256), (65536, 34359738360), (65537, 56), (65538, 96), (65539, 34359738360), (65540, 34359738360), (65541, 88), (65542, 128), (65543, 8), (65544, 34359738360), (65545, 34359738360), (65546, 160), (65547, 40), (65548, 16), (65549, 152), (65550, 192), (65551, 34359738360), (65552, 48), (65553, 184), (65554, 224), (65555, 104), (65556, 80), (65557, 34359738360), (65558, 256), (65559, 136), (65560, 112), (65561, 248), (65562, 34359738360), (65563, 34359738360), (65564, 144), (65565, 280), (65566, 34359738360), (65567, 200), (65568, 176), (65569, 34359738360), (65570, 34359738360), (65571, 232), (81920, 34359738360), (81921, 0), (81922, 48), (81923, 34359738360), (81924, 34359738360), (81925, 8), (81926, 56), (81927, 0), (81928, 34359738360), (81929, 34359738360), (81930, 64), (81931, 8), (81932, 48), (81933, 16), (81934, 72), (81935, 34359738360), (81936, 56), (81937, 24), (81938, 80), (81939, 16), (81940, 64), (81941, 34359738360), (81942, 88), (81943, 24), (81944, 72), (81945, 32), (81946, 34359738360), (81947, 34359738360), (81948, 80), (81949, 40), (81950, 34359738360), (81951, 32), (81952, 88), (81953, 34359738360), (81954, 34359738360), (81955, 40), (98304, 0), (98305, 8), (98306, 0), (98307, 34359738360), (98308, 16), (98309, 24), (98310, 16), (98311, 8), (98312, 32), (98313, 40), (98314, 32), (98315, 24), (98316, 0), (98317, 8), (98318, 0), (98319, 34359738360), (98320, 16), (98321, 24), (98322, 16), (98323, 8), (98324, 32), (98325, 40), (98326, 32), (98327, 24), (98328, 0), (98329, 8), (98330, 0), (98331, 34359738360), (98332, 16), (98333, 24), (98334, 16), (98335, 8), (98336, 32), (98337, 40), (98338, 32), (98339, 24), (114688, 34359738360), (114689, 0), (114690, 8), (114691, 0), (114692, 34359738360), (114693, 0), (114694, 8), (114695, 0), (114696, 34359738360), (114697, 0), (114698, 8), (114699, 0), (114700, 8), (114701, 16), (114702, 24), (114703, 16), (114704, 8), (114705, 16), (114706, 24), (114707, 16), (114708, 8), (114709, 16), (114710, 24), (114711, 16), (114712, 24), (114713, 32), (114714, 40), (114715, 32), (114716, 24), (114717, 32), (114718, 40), (114719, 32), (114720, 24), (114721, 32), (114722, 40), (114723, 32), (131072, 8), (131073, 40), (131074, 104), (131075, 136), (131076, 200), (131077, 232), (131078, 16), (131079, 48), (131080, 80), (131081, 112), (131082, 144), (131083, 176), (147456, 56), (147457, 88), (147458, 152), (147459, 184), (147460, 248), (147461, 280), (147462, 96), (147463, 128), (147464, 160), (147465, 192), (147466, 224), (147467, 256), (163840, 0), (163841, 0), (163842, 0), (163843, 0), (163844, 0), (163845, 0), (163846, 0), (163847, 0), (163848, 0), (163849, 0), (163850, 0), (163851, 0), (163852, 0), (163853, 0), (163854, 0), (163855, 0), (163856, 0), (163857, 0), (163858, 0), (163859, 0), (163860, 0), (163861, 0), (163862, 0), (163863, 0), (163864, 0), (163865, 0), (163866, 0), (163867, 0), (163868, 0), (163869, 0), (163870, 0), (180224, 8), (180225, 8), (180226, 8), (180227, 8), (180228, 8), (180229, 8), (180230, 8), (180231, 8), (180232, 8), (180233, 8), (180234, 8), (180235, 8), (180236, 8), (180237, 8), (180238, 8), (180239, 8), (180240, 8), (180241, 8), (180242, 8), (180243, 8), (180244, 8), (180245, 8), (180246, 8), (180247, 8), (180248, 8), (180249, 8), (180250, 8), (180251, 8), (180252, 8), (180253, 8), (180254, 8), (196608, 0), (196609, 0), (196610, 0), (196611, 0), (196612, 0), (196613, 0), (196614, 0), (196615, 0), (196616, 0), (196617, 0), (196618, 0), (196619, 0), (196620, 0), (196621, 0), (196622, 0), (196623, 0), (196624, 0), (196625, 0), (196626, 0), (196627, 0), (196628, 0), (196629, 0), (196630, 0), (196631, 0), (196632, 0), (196633, 0), (196634, 0), (196635, 0), (196636, 0), (196637, 0), (196638, 0), (212992, 0), (212993, 0), (212994, 0), (212995, 0), (212996, 0), (212997, 0), (212998, 0), (212999, 0), (213000, 0), (213001, 0), (213002, 0), (213003, 0), (213004, 0), (213005, 0), (213006, 0), (213007, 0), (213008, 0), (213009, 0), (213010, 0), (213011, 0), (213012, 0), (213013, 0), (213014, 0), (213015, 0), (213016, 0), (213017, 0), (213018, 0), (213019, 0), (213020, 0), (213021, 0), (213022, 0)])
noncomputable def zpfcl0_33_a : zyPh := (0, [11, 34359738369, 68719476737, 13], [(0, 4294967295), (2147483651, 2147483651), (2147483651, 2147483651), (0, 4294967295)], [], [])
noncomputable def zpfcl0_33 (i : Nat) : zyPh := zpfcl0_33_a
noncomputable def zXfcl0_33 (i : Nat) : List zyXp := []
noncomputable def zRfcl0_33 (i : Nat) : List zyXp := [zxfcl0_33_ar0]
noncomputable def zFfcl0_33 (i : Nat) : zyR := [(1, 5, 5), (1, 8, 8), (2, 0, 3), (3, 0, 35), (4, 0, 35), (5, 0, 35), (6, 0, 35), (7, 0, 35), (8, 0, 30), (9, 0, 30), (10, 0, 30), (11, 0, 30), (12, 0, 30), (13, 0, 30), (16, 1, 1)]
noncomputable def zSfcl0_33 (i : Nat) : Nat := 0
theorem zyfcl0_33_geo : xgeoB0 (zxfcl0_33_ar0).2.2.2.2.2 3 3 = true := by decide +kernel
noncomputable def fpfcl0_33 : zyR := [(1, 5, 5), (1, 8, 8), (2, 0, 3), (3, 0, 79), (4, 0, 79), (5, 0, 79), (6, 0, 79), (7, 0, 79), (8, 0, 30), (9, 0, 30), (10, 0, 30), (11, 0, 30), (12, 0, 30), (13, 0, 30), (16, 1, 1)]
theorem zyfcl0_33_run : zyrS zymc zxi31 (31, 0, 0, 0, 0) 3 zpfcl0_33 (fun _ _ => []) zFfcl0_33 zSfcl0_33 zXfcl0_33 zRfcl0_33 1 = true := by decide +kernel
theorem zyfcl0_33_ck : zyAll (fun i => xsubR (zFfcl0_33 i) fpfcl0_33 && ((zXfcl0_33 i).all xckX && (zRfcl0_33 i).all (fun x => xckX x && xrtB false x))) 1 = true := by decide +kernel
def xIfcl0_33 (i : Nat) (x0 : Nat → Int) (E0 : zyEm) (v : Nat → Int) (E : zyEm) : Prop := (E = E0)
def xMfcl0_33 (i : Nat) (x0 : Nat → Int) (E0 : zyEm) (v : Nat → Int) (E : zyEm) : Nat := (0)
theorem xCl0_33 {l : Launch} {en : zEn} {me : zMe} (hen : zG zxMeta 31 = some en) (hme : zG zMeth 31 = some me) : xFc l zymc en me 3 [1] 2 fpfcl0_33 false (xΦcl0_ (3, 3)) xΨcl0 := by
  have een : zG zxMeta 31 = some (zxi31, 3, 4, 3, 31, 0, 0, 0, 0) := rfl
  obtain ⟨me1, hme1, hOK⟩ := zall hen
  rw [hme] at hme1
  cases hme1
  rw [een] at hen
  cases hen
  have hr := zyfcl0_33_run
  have hck := fun i hi => zyAll_iff zyfcl0_33_ck i hi
  simp only [Bool.and_eq_true] at hck
  intro B
  refine xcut (mi := zymc) (B := B) hOK rfl rfl (ι := Fin 1) (fun i => zpfcl0_33 i.val) (fun _ _ => []) (fun i => zFfcl0_33 i.val) (fun i => zSfcl0_33 i.val) (fun i => zXfcl0_33 i.val) (fun i => zRfcl0_33 i.val) (fun i y2 ct en2 me2 h => by cases h) 200000 (fun i => zyAll_iff hr i.val i.isLt) (fun i => (hck i.val i.isLt).1) (fun i => (hck i.val i.isLt).2.1) (fun i => (hck i.val i.isLt).2.2) ⟨0, by decide⟩ ⟨rfl, rfl, rfl, rfl⟩ ⟨by decide, by decide⟩ (fun i x0 E0 v E => xIfcl0_33 i.val x0 E0 v E) (fun i x0 E0 v E => xMfcl0_33 i.val x0 E0 v E) ?_ ?_ ?_
  · intro x0 E hx0 hT hΦ
    have hΦ : (xΦcl0_ (3, 3)) x0 E := hΦ
    refine ⟨fun k p hp => ?_, ?_⟩
    · have hk : k < 4 := (List.getElem?_eq_some_iff.mp hp).1
      have hk : k = 0 ∨ k = 1 ∨ k = 2 ∨ k = 3 := by omega
      rcases hk with rfl | rfl | rfl | rfl
      · have hp : some (0, 4294967295) = some p := hp
        cases hp
        show ((0 : Nat) : Int) ≤ 0 + 2147483648 ∧ 0 + 2147483648 ≤ ((4294967295 : Nat) : Int)
        omega
      · have hp : some (2147483651, 2147483651) = some p := hp
        cases hp
        show ((2147483651 : Nat) : Int) ≤ x0 0 + 2147483648 ∧ x0 0 + 2147483648 ≤ ((2147483651 : Nat) : Int)
        have hx := hx0 0
        have hP1 : x0 0 = ((3 : Nat) : Int) := hΦ.1
        have hP2 : x0 1 = ((3 : Nat) : Int) := hΦ.2
        omega
      · have hp : some (2147483651, 2147483651) = some p := hp
        cases hp
        show ((2147483651 : Nat) : Int) ≤ x0 1 + 2147483648 ∧ x0 1 + 2147483648 ≤ ((2147483651 : Nat) : Int)
        have hx := hx0 1
        have hP1 : x0 0 = ((3 : Nat) : Int) := hΦ.1
        have hP2 : x0 1 = ((3 : Nat) : Int) := hΦ.2
        omega
      · have hp : some (0, 4294967295) = some p := hp
        cases hp
        show ((0 : Nat) : Int) ≤ x0 2 + 2147483648 ∧ x0 2 + 2147483648 ≤ ((4294967295 : Nat) : Int)
        have hx := hx0 2
        omega
    · show E = E
      rfl
  · intro x0 s Wg hRu hrx hT0 hΦ i v H hT hrv hInv hKc hFr0 hIH x hx ρ2 v2 N2 H2 locs lsB stA hAt hB hv hr2 hXs hag hfr hFr hT2
    rcases i with ⟨i, hi⟩
    have hi2 : i = 0 := by omega
    rcases hi2 with rfl
    · cases hx
  · intro x0 E0 E E2 hrx hT0 hΦ i v hT hrv hInv hKc hFr0 x hx v2 hr2 hXs hag hfr hFr hT2
    rcases i with ⟨i, hi⟩
    have hi2 : i = 0 := by omega
    rcases hi2 with rfl
    · have hx : x ∈ [zxfcl0_33_ar0] := hx
      have hag : ∀ k, k < 4 → v2 k = v k := hag
      have hfr : xFr [(1, 5, 5), (1, 8, 8), (2, 0, 3), (3, 0, 35), (4, 0, 35), (5, 0, 35), (6, 0, 35), (7, 0, 35), (8, 0, 30), (9, 0, 30), (10, 0, 30), (11, 0, 30), (12, 0, 30), (13, 0, 30), (16, 1, 1)] _ _ := hfr
      have ex := List.mem_singleton.mp hx
      subst ex
      obtain ⟨hF, hBd, hM⟩ := hXs
      have g1 : v2 1 = v 1 := hag 1 (by decide)
      have g2 : v2 2 = v 2 := hag 2 (by decide)
      have b0 : ((2147483651 : Nat) : Int) ≤ (v2 1) + 2147483648 ∧ (v2 1) + 2147483648 ≤ ((2147483651 : Nat) : Int) := xXb hBd 0 rfl
      have b1 : ((2147483651 : Nat) : Int) ≤ (v2 2) + 2147483648 ∧ (v2 2) + 2147483648 ≤ ((2147483651 : Nat) : Int) := xXb hBd 1 rfl
      have m0 : xE E2 2 0 = (v2 1) := xXm hM 0 rfl
      have m1 : xE E2 2 1 = (v2 2) := xXm hM 1 rfl
      have hI : E = E0 := hInv
      show xΨcl0 x0 E0 E2 0
      have hP := hΦ
      have hP1 : x0 0 = ((3 : Nat) : Int) := hP.1
      have hP2 : x0 1 = ((3 : Nat) : Int) := hP.2
      unfold xΨcl0
      rw [hP1, hP2]
      obtain ⟨A, G⟩ := xGeo0_of hM (by decide) (by decide) (by decide) (by decide) (by decide) (by decide) zyfcl0_33_geo (by omega) (by omega) (by decide +kernel) (by decide +kernel)
      subst hI
      exact ⟨A, G, xJk0_of (by decide) (by decide) (by decide) (by decide) (by decide) G (fun i h1 h2 => by
        have h1 : ((36 : Nat) : Int) ≤ i := h1
        exact ⟨xFr_E hfr (xin_no (lo := 36) (by decide) (by omega)), xFr_E hfr (xin_no (lo := 36) (by decide) (by omega))⟩)⟩
noncomputable def zxfcl0_34_ar0 : zyXp := (0, [], [], [], [(34359738369, 2147483651, 2147483651), (68719476737, 2147483652, 2147483652)], [(32768, 34359738369), (32769, 68719476737), (32770, 384), (32771, 136), (16389, 0), (16392, 0), (262145, 0), (49152, 8), (49153, 16), (49154, 24), (49155, 0), (49156, 56), (49157, 32), (49158, 40), (49159, 48), (49160, 72), (49161, 80), (49162, 88), (49163, 64), (49164, 120), (49165, 96), (49166, 104), (49167, 112), (49168, 152), (49169, 128), (49170, 136), (49171, 144), (49172, 168), (49173, 176), (49174, 184), (49175, 160), (49176, 216), (49177, 192), (49178, 200), (49179, 208), (49180, 232), (49181, 240), (49182, 248), (49183, 224), (49184, 264), (49185, 272), (49186, 280), (49187, 256), (49188, 312), (49189, 288), (49190, 296), (49191, 304), (49192, 328), (49193, 336), (49194, 344), (49195, 320), (49196, 376), (49197, 352), (49198, 360), (49199, 368), (65536, 34359738360), (65537, 56), (65538, 128), (65539, 34359738360), (65540, 34359738360), (65541, 88), (65542, 160), (65543, 8), (65544, 34359738360), (65545, 120), (65546, 192), (65547, 40), (65548, 34359738360), (65549, 34359738360), (65550, 224), (65551, 72), (65552, 16), (65553, 184), (65554, 256), (65555, 34359738360), (65556, 48), (65557, 216), (65558, 288), (65559, 136), (65560, 80), (65561, 248), (65562, 320), (65563, 168), (65564, 112), (65565, 34359738360), (65566, 352), (65567, 200), (65568, 144), (65569, 312), (65570, 34359738360), (65571, 34359738360), (65572, 176), (65573, 344), (65574, 34359738360), (65575, 264), (65576, 208), (65577, 376), (65578, 34359738360), (65579, 296), (65580, 240), (65581, 34359738360), (65582, 34359738360), (65583, 328), (81920, 34359738360), (81921, 0), (81922, 72), (81923, 34359738360), (81924, 34359738360), (81925, 8), (81926, 80), (81927, 0), (81928, 34359738360), (81929, 16), (81930, 88), (81931, 8), (81932, 34359738360), (81933, 34359738360), (81934, 96), (81935, 16), (81936, 72), (81937, 24), (81938, 104), (81939, 34359738360), (81940, 80), (81941, 32), (81942, 112), (81943, 24), (81944, 88), (81945, 40), (81946, 120), (81947, 32), (81948, 96), (81949, 34359738360), (81950, 128), (81951, 40), (81952, 104), (81953, 48), (81954, 34359738360), (81955, 34359738360), (81956, 112), (81957, 56), (81958, 34359738360), (81959, 48), (81960, 120), (81961, 64), (81962, 34359738360), (81963, 56), (81964, 128), (81965, 34359738360), (81966, 34359738360), (81967, 64), (98304, 0), (98305, 8), (98306, 0), (98307, 34359738360), (98308, 16), (98309, 24), (98310, 16), (98311, 8), (98312, 32), (98313, 40), (98314, 32), (98315, 24), (98316, 48), (98317, 56), (98318, 48), (98319, 40), (98320, 0), (98321, 8), (98322, 0), (98323, 34359738360), (98324, 16), (98325, 24), (98326, 16), (98327, 8), (98328, 32), (98329, 40), (98330, 32), (98331, 24), (98332, 48), (98333, 56), (98334, 48), (98335, 40), (98336, 0), (98337, 8), (98338, 0), (98339, 34359738360), (98340, 16), (98341, 24), (98342, 16), (98343, 8), (98344, 32), (98345, 40), (98346, 32), (98347, 24), (98348, 48), (98349, 56), (98350, 48), (98351, 40), (114688, 34359738360), (114689, 0), (114690, 8), (114691, 0), (114692, 34359738360), (114693, 0), (114694, 8), (114695, 0), (114696, 34359738360), (114697, 0), (114698, 8), (114699, 0), (114700, 34359738360), (114701, 0), (114702, 8), (114703, 0), (114704, 8), (114705, 16), (114706, 24), (114707, 16), (114708, 8), (114709, 16), (114710, 24), (114711, 16), (114712, 8), (114713, 16), (114714, 24), (114715, 16), (114716, 8), (114717, 16), (114718, 24), (114719, 16), (114720, 24), (114721, 32), (114722, 40), (114723, 32), (114724, 24), (114725, 32), (114726, 40), (114727, 32), (114728, 24), (114729, 32), (114730, 40), (114731, 32), (114732, 24), (114733, 32), (114734, 40), (114735, 32), (131072, 8), (131073, 40), (131074, 72), (131075, 136), (131076, 168), (131077, 200), (131078, 264), (131079, 296), (131080, 328), (131081, 16), (131082, 48), (131083, 80), (131084, 112), (131085, 144), (131086, 176), (131087, 208), (131088, 240), (147456, 56), (147457, 88), (147458, 120), (147459, 184), (147460, 216), (147461, 248), (147462, 312), (147463, 344), (147464, 376), (147465, 128), (147466, 160), (147467, 192), (147468, 224), (147469, 256), (147470, 288), (147471, 320), (147472, 352), (163840, 0), (163841, 0), (163842, 0), (163843, 0), (163844, 0), (163845, 0), (163846, 0), (163847, 0), (163848, 0), (163849, 0), (163850, 0), (163851, 0), (163852, 0), (163853, 0), (163854, 0), (163855, 0), (163856, 0), (163857, 0), (163858, 0), (163859, 0), (163860, 0), (163861, 0), (163862, 0), (163863, 0), (163864, 0), (163865, 0), (163866, 0), (163867, 0), (163868, 0), (163869, 0), (163870, 0), (180224, 8), (180225, 8), (180226, 8), (180227, 8), (180228, 8), (180229, 8), (180230, 8), (180231, 8), (180232, 8), (180233, 8), (180234, 8), (180235, 8), (180236, 8), (180237, 8), (180238, 8), (180239, 8), (180240, 8), (180241, 8), (180242, 8), (180243, 8), (180244, 8), (180245, 8), (180246, 8), (180247, 8), (180248, 8), (180249, 8), (180250, 8), (180251, 8), (180252, 8), (180253, 8), (180254, 8), (196608, 0), (196609, 0), (196610, 0), (196611, 0), (196612, 0), (196613, 0), (196614, 0), (196615, 0), (196616, 0), (196617, 0), (196618, 0), (196619, 0), (196620, 0), (196621, 0), (196622, 0), (196623, 0), (196624, 0), (196625, 0), (196626, 0), (196627, 0), (196628, 0), (196629, 0), (196630, 0), (196631, 0), (196632, 0), (196633, 0), (196634, 0), (196635, 0), (196636, 0), (196637, 0), (196638, 0), (212992, 0), (212993, 0), (212994, 0), (212995, 0), (212996, 0), (212997, 0), (212998, 0), (212999, 0), (213000, 0), (213001, 0), (213002, 0), (213003, 0), (213004, 0), (213005, 0), (213006, 0), (213007, 0), (213008, 0), (213009, 0), (213010, 0), (213011, 0), (213012, 0), (213013, 0), (213014, 0), (213015, 0), (213016, 0), (213017, 0), (213018, 0), (213019, 0), (213020, 0), (213021, 0), (213022, 0)])
noncomputable def zpfcl0_34_a : zyPh := (0, [11, 34359738369, 68719476737, 13], [(0, 4294967295), (2147483651, 2147483651), (2147483652, 2147483652), (0, 4294967295)], [], [])
noncomputable def zpfcl0_34 (i : Nat) : zyPh := zpfcl0_34_a
noncomputable def zXfcl0_34 (i : Nat) : List zyXp := []
noncomputable def zRfcl0_34 (i : Nat) : List zyXp := [zxfcl0_34_ar0]
noncomputable def zFfcl0_34 (i : Nat) : zyR := [(1, 5, 5), (1, 8, 8), (2, 0, 3), (3, 0, 47), (4, 0, 47), (5, 0, 47), (6, 0, 47), (7, 0, 47), (8, 0, 30), (9, 0, 30), (10, 0, 30), (11, 0, 30), (12, 0, 30), (13, 0, 30), (16, 1, 1)]
noncomputable def zSfcl0_34 (i : Nat) : Nat := 0
theorem zyfcl0_34_geo : xgeoB0 (zxfcl0_34_ar0).2.2.2.2.2 3 4 = true := by decide +kernel
noncomputable def fpfcl0_34 : zyR := [(1, 5, 5), (1, 8, 8), (2, 0, 3), (3, 0, 79), (4, 0, 79), (5, 0, 79), (6, 0, 79), (7, 0, 79), (8, 0, 30), (9, 0, 30), (10, 0, 30), (11, 0, 30), (12, 0, 30), (13, 0, 30), (16, 1, 1)]
theorem zyfcl0_34_run : zyrS zymc zxi31 (31, 0, 0, 0, 0) 3 zpfcl0_34 (fun _ _ => []) zFfcl0_34 zSfcl0_34 zXfcl0_34 zRfcl0_34 1 = true := by decide +kernel
theorem zyfcl0_34_ck : zyAll (fun i => xsubR (zFfcl0_34 i) fpfcl0_34 && ((zXfcl0_34 i).all xckX && (zRfcl0_34 i).all (fun x => xckX x && xrtB false x))) 1 = true := by decide +kernel
def xIfcl0_34 (i : Nat) (x0 : Nat → Int) (E0 : zyEm) (v : Nat → Int) (E : zyEm) : Prop := (E = E0)
def xMfcl0_34 (i : Nat) (x0 : Nat → Int) (E0 : zyEm) (v : Nat → Int) (E : zyEm) : Nat := (0)
theorem xCl0_34 {l : Launch} {en : zEn} {me : zMe} (hen : zG zxMeta 31 = some en) (hme : zG zMeth 31 = some me) : xFc l zymc en me 3 [1] 2 fpfcl0_34 false (xΦcl0_ (3, 4)) xΨcl0 := by
  have een : zG zxMeta 31 = some (zxi31, 3, 4, 3, 31, 0, 0, 0, 0) := rfl
  obtain ⟨me1, hme1, hOK⟩ := zall hen
  rw [hme] at hme1
  cases hme1
  rw [een] at hen
  cases hen
  have hr := zyfcl0_34_run
  have hck := fun i hi => zyAll_iff zyfcl0_34_ck i hi
  simp only [Bool.and_eq_true] at hck
  intro B
  refine xcut (mi := zymc) (B := B) hOK rfl rfl (ι := Fin 1) (fun i => zpfcl0_34 i.val) (fun _ _ => []) (fun i => zFfcl0_34 i.val) (fun i => zSfcl0_34 i.val) (fun i => zXfcl0_34 i.val) (fun i => zRfcl0_34 i.val) (fun i y2 ct en2 me2 h => by cases h) 200000 (fun i => zyAll_iff hr i.val i.isLt) (fun i => (hck i.val i.isLt).1) (fun i => (hck i.val i.isLt).2.1) (fun i => (hck i.val i.isLt).2.2) ⟨0, by decide⟩ ⟨rfl, rfl, rfl, rfl⟩ ⟨by decide, by decide⟩ (fun i x0 E0 v E => xIfcl0_34 i.val x0 E0 v E) (fun i x0 E0 v E => xMfcl0_34 i.val x0 E0 v E) ?_ ?_ ?_
  · intro x0 E hx0 hT hΦ
    have hΦ : (xΦcl0_ (3, 4)) x0 E := hΦ
    refine ⟨fun k p hp => ?_, ?_⟩
    · have hk : k < 4 := (List.getElem?_eq_some_iff.mp hp).1
      have hk : k = 0 ∨ k = 1 ∨ k = 2 ∨ k = 3 := by omega
      rcases hk with rfl | rfl | rfl | rfl
      · have hp : some (0, 4294967295) = some p := hp
        cases hp
        show ((0 : Nat) : Int) ≤ 0 + 2147483648 ∧ 0 + 2147483648 ≤ ((4294967295 : Nat) : Int)
        omega
      · have hp : some (2147483651, 2147483651) = some p := hp
        cases hp
        show ((2147483651 : Nat) : Int) ≤ x0 0 + 2147483648 ∧ x0 0 + 2147483648 ≤ ((2147483651 : Nat) : Int)
        have hx := hx0 0
        have hP1 : x0 0 = ((3 : Nat) : Int) := hΦ.1
        have hP2 : x0 1 = ((4 : Nat) : Int) := hΦ.2
        omega
      · have hp : some (2147483652, 2147483652) = some p := hp
        cases hp
        show ((2147483652 : Nat) : Int) ≤ x0 1 + 2147483648 ∧ x0 1 + 2147483648 ≤ ((2147483652 : Nat) : Int)
        have hx := hx0 1
        have hP1 : x0 0 = ((3 : Nat) : Int) := hΦ.1
        have hP2 : x0 1 = ((4 : Nat) : Int) := hΦ.2
        omega
      · have hp : some (0, 4294967295) = some p := hp
        cases hp
        show ((0 : Nat) : Int) ≤ x0 2 + 2147483648 ∧ x0 2 + 2147483648 ≤ ((4294967295 : Nat) : Int)
        have hx := hx0 2
        omega
    · show E = E
      rfl
  · intro x0 s Wg hRu hrx hT0 hΦ i v H hT hrv hInv hKc hFr0 hIH x hx ρ2 v2 N2 H2 locs lsB stA hAt hB hv hr2 hXs hag hfr hFr hT2
    rcases i with ⟨i, hi⟩
    have hi2 : i = 0 := by omega
    rcases hi2 with rfl
    · cases hx
  · intro x0 E0 E E2 hrx hT0 hΦ i v hT hrv hInv hKc hFr0 x hx v2 hr2 hXs hag hfr hFr hT2
    rcases i with ⟨i, hi⟩
    have hi2 : i = 0 := by omega
    rcases hi2 with rfl
    · have hx : x ∈ [zxfcl0_34_ar0] := hx
      have hag : ∀ k, k < 4 → v2 k = v k := hag
      have hfr : xFr [(1, 5, 5), (1, 8, 8), (2, 0, 3), (3, 0, 47), (4, 0, 47), (5, 0, 47), (6, 0, 47), (7, 0, 47), (8, 0, 30), (9, 0, 30), (10, 0, 30), (11, 0, 30), (12, 0, 30), (13, 0, 30), (16, 1, 1)] _ _ := hfr
      have ex := List.mem_singleton.mp hx
      subst ex
      obtain ⟨hF, hBd, hM⟩ := hXs
      have g1 : v2 1 = v 1 := hag 1 (by decide)
      have g2 : v2 2 = v 2 := hag 2 (by decide)
      have b0 : ((2147483651 : Nat) : Int) ≤ (v2 1) + 2147483648 ∧ (v2 1) + 2147483648 ≤ ((2147483651 : Nat) : Int) := xXb hBd 0 rfl
      have b1 : ((2147483652 : Nat) : Int) ≤ (v2 2) + 2147483648 ∧ (v2 2) + 2147483648 ≤ ((2147483652 : Nat) : Int) := xXb hBd 1 rfl
      have m0 : xE E2 2 0 = (v2 1) := xXm hM 0 rfl
      have m1 : xE E2 2 1 = (v2 2) := xXm hM 1 rfl
      have hI : E = E0 := hInv
      show xΨcl0 x0 E0 E2 0
      have hP := hΦ
      have hP1 : x0 0 = ((3 : Nat) : Int) := hP.1
      have hP2 : x0 1 = ((4 : Nat) : Int) := hP.2
      unfold xΨcl0
      rw [hP1, hP2]
      obtain ⟨A, G⟩ := xGeo0_of hM (by decide) (by decide) (by decide) (by decide) (by decide) (by decide) zyfcl0_34_geo (by omega) (by omega) (by decide +kernel) (by decide +kernel)
      subst hI
      exact ⟨A, G, xJk0_of (by decide) (by decide) (by decide) (by decide) (by decide) G (fun i h1 h2 => by
        have h1 : ((48 : Nat) : Int) ≤ i := h1
        exact ⟨xFr_E hfr (xin_no (lo := 48) (by decide) (by omega)), xFr_E hfr (xin_no (lo := 48) (by decide) (by omega))⟩)⟩
noncomputable def zxfcl0_35_ar0 : zyXp := (0, [], [], [], [(34359738369, 2147483651, 2147483651), (68719476737, 2147483653, 2147483653)], [(32768, 34359738369), (32769, 68719476737), (32770, 480), (32771, 176), (16389, 0), (16392, 0), (262145, 0), (49152, 8), (49153, 16), (49154, 24), (49155, 0), (49156, 56), (49157, 32), (49158, 40), (49159, 48), (49160, 72), (49161, 80), (49162, 88), (49163, 64), (49164, 120), (49165, 96), (49166, 104), (49167, 112), (49168, 136), (49169, 144), (49170, 152), (49171, 128), (49172, 184), (49173, 160), (49174, 168), (49175, 176), (49176, 200), (49177, 208), (49178, 216), (49179, 192), (49180, 248), (49181, 224), (49182, 232), (49183, 240), (49184, 264), (49185, 272), (49186, 280), (49187, 256), (49188, 312), (49189, 288), (49190, 296), (49191, 304), (49192, 328), (49193, 336), (49194, 344), (49195, 320), (49196, 376), (49197, 352), (49198, 360), (49199, 368), (49200, 392), (49201, 400), (49202, 408), (49203, 384), (49204, 440), (49205, 416), (49206, 424), (49207, 432), (49208, 456), (49209, 464), (49210, 472), (49211, 448), (65536, 34359738360), (65537, 56), (65538, 160), (65539, 34359738360), (65540, 34359738360), (65541, 88), (65542, 192), (65543, 8), (65544, 34359738360), (65545, 120), (65546, 224), (65547, 40), (65548, 34359738360), (65549, 152), (65550, 256), (65551, 72), (65552, 34359738360), (65553, 34359738360), (65554, 288), (65555, 104), (65556, 16), (65557, 216), (65558, 320), (65559, 34359738360), (65560, 48), (65561, 248), (65562, 352), (65563, 168), (65564, 80), (65565, 280), (65566, 384), (65567, 200), (65568, 112), (65569, 312), (65570, 416), (65571, 232), (65572, 144), (65573, 34359738360), (65574, 448), (65575, 264), (65576, 176), (65577, 376), (65578, 34359738360), (65579, 34359738360), (65580, 208), (65581, 408), (65582, 34359738360), (65583, 328), (65584, 240), (65585, 440), (65586, 34359738360), (65587, 360), (65588, 272), (65589, 472), (65590, 34359738360), (65591, 392), (65592, 304), (65593, 34359738360), (65594, 34359738360), (65595, 424), (81920, 34359738360), (81921, 0), (81922, 96), (81923, 34359738360), (81924, 34359738360), (81925, 8), (81926, 104), (81927, 0), (81928, 34359738360), (81929, 16), (81930, 112), (81931, 8), (81932, 34359738360), (81933, 24), (81934, 120), (81935, 16), (81936, 34359738360), (81937, 34359738360), (81938, 128), (81939, 24), (81940, 96), (81941, 32), (81942, 136), (81943, 34359738360), (81944, 104), (81945, 40), (81946, 144), (81947, 32), (81948, 112), (81949, 48), (81950, 152), (81951, 40), (81952, 120), (81953, 56), (81954, 160), (81955, 48), (81956, 128), (81957, 34359738360), (81958, 168), (81959, 56), (81960, 136), (81961, 64), (81962, 34359738360), (81963, 34359738360), (81964, 144), (81965, 72), (81966, 34359738360), (81967, 64), (81968, 152), (81969, 80), (81970, 34359738360), (81971, 72), (81972, 160), (81973, 88), (81974, 34359738360), (81975, 80), (81976, 168), (81977, 34359738360), (81978, 34359738360), (81979, 88), (98304, 0), (98305, 8), (98306, 0), (98307, 34359738360), (98308, 16), (98309, 24), (98310, 16), (98311, 8), (98312, 32), (98313, 40), (98314, 32), (98315, 24), (98316, 48), (98317, 56), (98318, 48), (98319, 40), (98320, 64), (98321, 72), (98322, 64), (98323, 56), (98324, 0), (98325, 8), (98326, 0), (98327, 34359738360), (98328, 16), (98329, 24), (98330, 16), (98331, 8), (98332, 32), (98333, 40), (98334, 32), (98335, 24), (98336, 48), (98337, 56), (98338, 48), (98339, 40), (98340, 64), (98341, 72), (98342, 64), (98343, 56), (98344, 0), (98345, 8), (98346, 0), (98347, 34359738360), (98348, 16), (98349, 24), (98350, 16), (98351, 8), (98352, 32), (98353, 40), (98354, 32), (98355, 24), (98356, 48), (98357, 56), (98358, 48), (98359, 40), (98360, 64), (98361, 72), (98362, 64), (98363, 56), (114688, 34359738360), (114689, 0), (114690, 8), (114691, 0), (114692, 34359738360), (114693, 0), (114694, 8), (114695, 0), (114696, 34359738360), (114697, 0), (114698, 8), (114699, 0), (114700, 34359738360), (114701, 0), (114702, 8), (114703, 0), (114704, 34359738360), (114705, 0), (114706, 8), (114707, 0), (114708, 8), (114709, 16), (114710, 24), (114711, 16), (114712, 8), (114713, 16), (114714, 24), (114715, 16), (114716, 8), (114717, 16), (114718, 24), (114719, 16), (114720, 8), (114721, 16), (114722, 24), (114723, 16), (114724, 8), (114725, 16), (114726, 24), (114727, 16), (114728, 24), (114729, 32), (114730, 40), (114731, 32), (114732, 24), (114733, 32), (114734, 40), (114735, 32), (114736, 24), (114737, 32), (114738, 40), (114739, 32), (114740, 24), (114741, 32), (114742, 40), (114743, 32), (114744, 24), (114745, 32), (114746, 40), (114747, 32), (131072, 8), (131073, 40), (131074, 72), (131075, 104), (131076, 168), (131077, 200), (131078, 232), (131079, 264), (131080, 328), (131081, 360), (131082, 392), (131083, 424), (131084, 16), (131085, 48), (131086, 80), (131087, 112), (131088, 144), (131089, 176), (131090, 208), (131091, 240), (131092, 272), (131093, 304), (147456, 56), (147457, 88), (147458, 120), (147459, 152), (147460, 216), (147461, 248), (147462, 280), (147463, 312), (147464, 376), (147465, 408), (147466, 440), (147467, 472), (147468, 160), (147469, 192), (147470, 224), (147471, 256), (147472, 288), (147473, 320), (147474, 352), (147475, 384), (147476, 416), (147477, 448), (163840, 0), (163841, 0), (163842, 0), (163843, 0), (163844, 0), (163845, 0), (163846, 0), (163847, 0), (163848, 0), (163849, 0), (163850, 0), (163851, 0), (163852, 0), (163853, 0), (163854, 0), (163855, 0), (163856, 0), (163857, 0), (163858, 0), (163859, 0), (163860, 0), (163861, 0), (163862, 0), (163863, 0), (163864, 0), (163865, 0), (163866, 0), (163867, 0), (163868, 0), (163869, 0), (163870, 0), (180224, 8), (180225, 8), (180226, 8), (180227, 8), (180228, 8), (180229, 8), (180230, 8), (180231, 8), (180232, 8), (180233, 8), (180234, 8), (180235, 8), (180236, 8), (180237, 8), (180238, 8), (180239, 8), (180240, 8), (180241, 8), (180242, 8), (180243, 8), (180244, 8), (180245, 8), (180246, 8), (180247, 8), (180248, 8), (180249, 8), (180250, 8), (180251, 8), (180252, 8), (180253, 8), (180254, 8), (196608, 0), (196609, 0), (196610, 0), (196611, 0), (196612, 0), (196613, 0), (196614, 0), (196615, 0), (196616, 0), (196617, 0), (196618, 0), (196619, 0), (196620, 0), (196621, 0), (196622, 0), (196623, 0), (196624, 0), (196625, 0), (196626, 0), (196627, 0), (196628, 0), (196629, 0), (196630, 0), (196631, 0), (196632, 0), (196633, 0), (196634, 0), (196635, 0), (196636, 0), (196637, 0), (196638, 0), (212992, 0), (212993, 0), (212994, 0), (212995, 0), (212996, 0), (212997, 0), (212998, 0), (212999, 0), (213000, 0), (213001, 0), (213002, 0), (213003, 0), (213004, 0), (213005, 0), (213006, 0), (213007, 0), (213008, 0), (213009, 0), (213010, 0), (213011, 0), (213012, 0), (213013, 0), (213014, 0), (213015, 0), (213016, 0), (213017, 0), (213018, 0), (213019, 0), (213020, 0), (213021, 0), (213022, 0)])
noncomputable def zpfcl0_35_a : zyPh := (0, [11, 34359738369, 68719476737, 13], [(0, 4294967295), (2147483651, 2147483651), (2147483653, 2147483653), (0, 4294967295)], [], [])
noncomputable def zpfcl0_35 (i : Nat) : zyPh := zpfcl0_35_a
noncomputable def zXfcl0_35 (i : Nat) : List zyXp := []
noncomputable def zRfcl0_35 (i : Nat) : List zyXp := [zxfcl0_35_ar0]
noncomputable def zFfcl0_35 (i : Nat) : zyR := [(1, 5, 5), (1, 8, 8), (2, 0, 3), (3, 0, 59), (4, 0, 59), (5, 0, 59), (6, 0, 59), (7, 0, 59), (8, 0, 30), (9, 0, 30), (10, 0, 30), (11, 0, 30), (12, 0, 30), (13, 0, 30), (16, 1, 1)]
noncomputable def zSfcl0_35 (i : Nat) : Nat := 0
theorem zyfcl0_35_geo : xgeoB0 (zxfcl0_35_ar0).2.2.2.2.2 3 5 = true := by decide +kernel
noncomputable def fpfcl0_35 : zyR := [(1, 5, 5), (1, 8, 8), (2, 0, 3), (3, 0, 79), (4, 0, 79), (5, 0, 79), (6, 0, 79), (7, 0, 79), (8, 0, 30), (9, 0, 30), (10, 0, 30), (11, 0, 30), (12, 0, 30), (13, 0, 30), (16, 1, 1)]
theorem zyfcl0_35_run : zyrS zymc zxi31 (31, 0, 0, 0, 0) 3 zpfcl0_35 (fun _ _ => []) zFfcl0_35 zSfcl0_35 zXfcl0_35 zRfcl0_35 1 = true := by decide +kernel
theorem zyfcl0_35_ck : zyAll (fun i => xsubR (zFfcl0_35 i) fpfcl0_35 && ((zXfcl0_35 i).all xckX && (zRfcl0_35 i).all (fun x => xckX x && xrtB false x))) 1 = true := by decide +kernel
def xIfcl0_35 (i : Nat) (x0 : Nat → Int) (E0 : zyEm) (v : Nat → Int) (E : zyEm) : Prop := (E = E0)
def xMfcl0_35 (i : Nat) (x0 : Nat → Int) (E0 : zyEm) (v : Nat → Int) (E : zyEm) : Nat := (0)
theorem xCl0_35 {l : Launch} {en : zEn} {me : zMe} (hen : zG zxMeta 31 = some en) (hme : zG zMeth 31 = some me) : xFc l zymc en me 3 [1] 2 fpfcl0_35 false (xΦcl0_ (3, 5)) xΨcl0 := by
  have een : zG zxMeta 31 = some (zxi31, 3, 4, 3, 31, 0, 0, 0, 0) := rfl
  obtain ⟨me1, hme1, hOK⟩ := zall hen
  rw [hme] at hme1
  cases hme1
  rw [een] at hen
  cases hen
  have hr := zyfcl0_35_run
  have hck := fun i hi => zyAll_iff zyfcl0_35_ck i hi
  simp only [Bool.and_eq_true] at hck
  intro B
  refine xcut (mi := zymc) (B := B) hOK rfl rfl (ι := Fin 1) (fun i => zpfcl0_35 i.val) (fun _ _ => []) (fun i => zFfcl0_35 i.val) (fun i => zSfcl0_35 i.val) (fun i => zXfcl0_35 i.val) (fun i => zRfcl0_35 i.val) (fun i y2 ct en2 me2 h => by cases h) 200000 (fun i => zyAll_iff hr i.val i.isLt) (fun i => (hck i.val i.isLt).1) (fun i => (hck i.val i.isLt).2.1) (fun i => (hck i.val i.isLt).2.2) ⟨0, by decide⟩ ⟨rfl, rfl, rfl, rfl⟩ ⟨by decide, by decide⟩ (fun i x0 E0 v E => xIfcl0_35 i.val x0 E0 v E) (fun i x0 E0 v E => xMfcl0_35 i.val x0 E0 v E) ?_ ?_ ?_
  · intro x0 E hx0 hT hΦ
    have hΦ : (xΦcl0_ (3, 5)) x0 E := hΦ
    refine ⟨fun k p hp => ?_, ?_⟩
    · have hk : k < 4 := (List.getElem?_eq_some_iff.mp hp).1
      have hk : k = 0 ∨ k = 1 ∨ k = 2 ∨ k = 3 := by omega
      rcases hk with rfl | rfl | rfl | rfl
      · have hp : some (0, 4294967295) = some p := hp
        cases hp
        show ((0 : Nat) : Int) ≤ 0 + 2147483648 ∧ 0 + 2147483648 ≤ ((4294967295 : Nat) : Int)
        omega
      · have hp : some (2147483651, 2147483651) = some p := hp
        cases hp
        show ((2147483651 : Nat) : Int) ≤ x0 0 + 2147483648 ∧ x0 0 + 2147483648 ≤ ((2147483651 : Nat) : Int)
        have hx := hx0 0
        have hP1 : x0 0 = ((3 : Nat) : Int) := hΦ.1
        have hP2 : x0 1 = ((5 : Nat) : Int) := hΦ.2
        omega
      · have hp : some (2147483653, 2147483653) = some p := hp
        cases hp
        show ((2147483653 : Nat) : Int) ≤ x0 1 + 2147483648 ∧ x0 1 + 2147483648 ≤ ((2147483653 : Nat) : Int)
        have hx := hx0 1
        have hP1 : x0 0 = ((3 : Nat) : Int) := hΦ.1
        have hP2 : x0 1 = ((5 : Nat) : Int) := hΦ.2
        omega
      · have hp : some (0, 4294967295) = some p := hp
        cases hp
        show ((0 : Nat) : Int) ≤ x0 2 + 2147483648 ∧ x0 2 + 2147483648 ≤ ((4294967295 : Nat) : Int)
        have hx := hx0 2
        omega
    · show E = E
      rfl
  · intro x0 s Wg hRu hrx hT0 hΦ i v H hT hrv hInv hKc hFr0 hIH x hx ρ2 v2 N2 H2 locs lsB stA hAt hB hv hr2 hXs hag hfr hFr hT2
    rcases i with ⟨i, hi⟩
    have hi2 : i = 0 := by omega
    rcases hi2 with rfl
    · cases hx
  · intro x0 E0 E E2 hrx hT0 hΦ i v hT hrv hInv hKc hFr0 x hx v2 hr2 hXs hag hfr hFr hT2
    rcases i with ⟨i, hi⟩
    have hi2 : i = 0 := by omega
    rcases hi2 with rfl
    · have hx : x ∈ [zxfcl0_35_ar0] := hx
      have hag : ∀ k, k < 4 → v2 k = v k := hag
      have hfr : xFr [(1, 5, 5), (1, 8, 8), (2, 0, 3), (3, 0, 59), (4, 0, 59), (5, 0, 59), (6, 0, 59), (7, 0, 59), (8, 0, 30), (9, 0, 30), (10, 0, 30), (11, 0, 30), (12, 0, 30), (13, 0, 30), (16, 1, 1)] _ _ := hfr
      have ex := List.mem_singleton.mp hx
      subst ex
      obtain ⟨hF, hBd, hM⟩ := hXs
      have g1 : v2 1 = v 1 := hag 1 (by decide)
      have g2 : v2 2 = v 2 := hag 2 (by decide)
      have b0 : ((2147483651 : Nat) : Int) ≤ (v2 1) + 2147483648 ∧ (v2 1) + 2147483648 ≤ ((2147483651 : Nat) : Int) := xXb hBd 0 rfl
      have b1 : ((2147483653 : Nat) : Int) ≤ (v2 2) + 2147483648 ∧ (v2 2) + 2147483648 ≤ ((2147483653 : Nat) : Int) := xXb hBd 1 rfl
      have m0 : xE E2 2 0 = (v2 1) := xXm hM 0 rfl
      have m1 : xE E2 2 1 = (v2 2) := xXm hM 1 rfl
      have hI : E = E0 := hInv
      show xΨcl0 x0 E0 E2 0
      have hP := hΦ
      have hP1 : x0 0 = ((3 : Nat) : Int) := hP.1
      have hP2 : x0 1 = ((5 : Nat) : Int) := hP.2
      unfold xΨcl0
      rw [hP1, hP2]
      obtain ⟨A, G⟩ := xGeo0_of hM (by decide) (by decide) (by decide) (by decide) (by decide) (by decide) zyfcl0_35_geo (by omega) (by omega) (by decide +kernel) (by decide +kernel)
      subst hI
      exact ⟨A, G, xJk0_of (by decide) (by decide) (by decide) (by decide) (by decide) G (fun i h1 h2 => by
        have h1 : ((60 : Nat) : Int) ≤ i := h1
        exact ⟨xFr_E hfr (xin_no (lo := 60) (by decide) (by omega)), xFr_E hfr (xin_no (lo := 60) (by decide) (by omega))⟩)⟩
noncomputable def zxfcl0_41_ar0 : zyXp := (0, [], [], [], [(34359738369, 2147483652, 2147483652), (68719476737, 2147483649, 2147483649)], [(32768, 34359738369), (32769, 68719476737), (32770, 128), (32771, 24), (16389, 0), (16392, 0), (262145, 0), (49152, 8), (49153, 16), (49154, 24), (49155, 0), (49156, 56), (49157, 32), (49158, 40), (49159, 48), (49160, 72), (49161, 80), (49162, 88), (49163, 64), (49164, 120), (49165, 96), (49166, 104), (49167, 112), (65536, 34359738360), (65537, 34359738360), (65538, 32), (65539, 34359738360), (65540, 16), (65541, 34359738360), (65542, 64), (65543, 34359738360), (65544, 48), (65545, 34359738360), (65546, 96), (65547, 34359738360), (65548, 80), (65549, 34359738360), (65550, 34359738360), (65551, 34359738360), (81920, 34359738360), (81921, 34359738360), (81922, 0), (81923, 34359738360), (81924, 0), (81925, 34359738360), (81926, 8), (81927, 34359738360), (81928, 8), (81929, 34359738360), (81930, 16), (81931, 34359738360), (81932, 16), (81933, 34359738360), (81934, 34359738360), (81935, 34359738360), (98304, 0), (98305, 8), (98306, 0), (98307, 34359738360), (98308, 0), (98309, 8), (98310, 0), (98311, 34359738360), (98312, 0), (98313, 8), (98314, 0), (98315, 34359738360), (98316, 0), (98317, 8), (98318, 0), (98319, 34359738360), (114688, 34359738360), (114689, 0), (114690, 8), (114691, 0), (114692, 8), (114693, 16), (114694, 24), (114695, 16), (114696, 24), (114697, 32), (114698, 40), (114699, 32), (114700, 40), (114701, 48), (114702, 56), (114703, 48), (131072, 16), (131073, 48), (131074, 80), (147456, 32), (147457, 64), (147458, 96), (163840, 0), (163841, 0), (163842, 0), (163843, 0), (163844, 0), (163845, 0), (163846, 0), (163847, 0), (163848, 0), (163849, 0), (163850, 0), (163851, 0), (163852, 0), (163853, 0), (163854, 0), (163855, 0), (163856, 0), (163857, 0), (163858, 0), (163859, 0), (163860, 0), (163861, 0), (163862, 0), (163863, 0), (163864, 0), (163865, 0), (163866, 0), (163867, 0), (163868, 0), (163869, 0), (163870, 0), (180224, 8), (180225, 8), (180226, 8), (180227, 8), (180228, 8), (180229, 8), (180230, 8), (180231, 8), (180232, 8), (180233, 8), (180234, 8), (180235, 8), (180236, 8), (180237, 8), (180238, 8), (180239, 8), (180240, 8), (180241, 8), (180242, 8), (180243, 8), (180244, 8), (180245, 8), (180246, 8), (180247, 8), (180248, 8), (180249, 8), (180250, 8), (180251, 8), (180252, 8), (180253, 8), (180254, 8), (196608, 0), (196609, 0), (196610, 0), (196611, 0), (196612, 0), (196613, 0), (196614, 0), (196615, 0), (196616, 0), (196617, 0), (196618, 0), (196619, 0), (196620, 0), (196621, 0), (196622, 0), (196623, 0), (196624, 0), (196625, 0), (196626, 0), (196627, 0), (196628, 0), (196629, 0), (196630, 0), (196631, 0), (196632, 0), (196633, 0), (196634, 0), (196635, 0), (196636, 0), (196637, 0), (196638, 0), (212992, 0), (212993, 0), (212994, 0), (212995, 0), (212996, 0), (212997, 0), (212998, 0), (212999, 0), (213000, 0), (213001, 0), (213002, 0), (213003, 0), (213004, 0), (213005, 0), (213006, 0), (213007, 0), (213008, 0), (213009, 0), (213010, 0), (213011, 0), (213012, 0), (213013, 0), (213014, 0), (213015, 0), (213016, 0), (213017, 0), (213018, 0), (213019, 0), (213020, 0), (213021, 0), (213022, 0)])
noncomputable def zpfcl0_41_a : zyPh := (0, [11, 34359738369, 68719476737, 13], [(0, 4294967295), (2147483652, 2147483652), (2147483649, 2147483649), (0, 4294967295)], [], [])
noncomputable def zpfcl0_41 (i : Nat) : zyPh := zpfcl0_41_a
noncomputable def zXfcl0_41 (i : Nat) : List zyXp := []
noncomputable def zRfcl0_41 (i : Nat) : List zyXp := [zxfcl0_41_ar0]
noncomputable def zFfcl0_41 (i : Nat) : zyR := [(1, 5, 5), (1, 8, 8), (2, 0, 3), (3, 0, 15), (4, 0, 15), (5, 0, 15), (6, 0, 15), (7, 0, 15), (8, 0, 30), (9, 0, 30), (10, 0, 30), (11, 0, 30), (12, 0, 30), (13, 0, 30), (16, 1, 1)]
noncomputable def zSfcl0_41 (i : Nat) : Nat := 0
theorem zyfcl0_41_geo : xgeoB0 (zxfcl0_41_ar0).2.2.2.2.2 4 1 = true := by decide +kernel
noncomputable def fpfcl0_41 : zyR := [(1, 5, 5), (1, 8, 8), (2, 0, 3), (3, 0, 79), (4, 0, 79), (5, 0, 79), (6, 0, 79), (7, 0, 79), (8, 0, 30), (9, 0, 30), (10, 0, 30), (11, 0, 30), (12, 0, 30), (13, 0, 30), (16, 1, 1)]
theorem zyfcl0_41_run : zyrS zymc zxi31 (31, 0, 0, 0, 0) 3 zpfcl0_41 (fun _ _ => []) zFfcl0_41 zSfcl0_41 zXfcl0_41 zRfcl0_41 1 = true := by decide +kernel
theorem zyfcl0_41_ck : zyAll (fun i => xsubR (zFfcl0_41 i) fpfcl0_41 && ((zXfcl0_41 i).all xckX && (zRfcl0_41 i).all (fun x => xckX x && xrtB false x))) 1 = true := by decide +kernel
def xIfcl0_41 (i : Nat) (x0 : Nat → Int) (E0 : zyEm) (v : Nat → Int) (E : zyEm) : Prop := (E = E0)
def xMfcl0_41 (i : Nat) (x0 : Nat → Int) (E0 : zyEm) (v : Nat → Int) (E : zyEm) : Nat := (0)
theorem xCl0_41 {l : Launch} {en : zEn} {me : zMe} (hen : zG zxMeta 31 = some en) (hme : zG zMeth 31 = some me) : xFc l zymc en me 3 [1] 2 fpfcl0_41 false (xΦcl0_ (4, 1)) xΨcl0 := by
  have een : zG zxMeta 31 = some (zxi31, 3, 4, 3, 31, 0, 0, 0, 0) := rfl
  obtain ⟨me1, hme1, hOK⟩ := zall hen
  rw [hme] at hme1
  cases hme1
  rw [een] at hen
  cases hen
  have hr := zyfcl0_41_run
  have hck := fun i hi => zyAll_iff zyfcl0_41_ck i hi
  simp only [Bool.and_eq_true] at hck
  intro B
  refine xcut (mi := zymc) (B := B) hOK rfl rfl (ι := Fin 1) (fun i => zpfcl0_41 i.val) (fun _ _ => []) (fun i => zFfcl0_41 i.val) (fun i => zSfcl0_41 i.val) (fun i => zXfcl0_41 i.val) (fun i => zRfcl0_41 i.val) (fun i y2 ct en2 me2 h => by cases h) 200000 (fun i => zyAll_iff hr i.val i.isLt) (fun i => (hck i.val i.isLt).1) (fun i => (hck i.val i.isLt).2.1) (fun i => (hck i.val i.isLt).2.2) ⟨0, by decide⟩ ⟨rfl, rfl, rfl, rfl⟩ ⟨by decide, by decide⟩ (fun i x0 E0 v E => xIfcl0_41 i.val x0 E0 v E) (fun i x0 E0 v E => xMfcl0_41 i.val x0 E0 v E) ?_ ?_ ?_
  · intro x0 E hx0 hT hΦ
    have hΦ : (xΦcl0_ (4, 1)) x0 E := hΦ
    refine ⟨fun k p hp => ?_, ?_⟩
    · have hk : k < 4 := (List.getElem?_eq_some_iff.mp hp).1
      have hk : k = 0 ∨ k = 1 ∨ k = 2 ∨ k = 3 := by omega
      rcases hk with rfl | rfl | rfl | rfl
      · have hp : some (0, 4294967295) = some p := hp
        cases hp
        show ((0 : Nat) : Int) ≤ 0 + 2147483648 ∧ 0 + 2147483648 ≤ ((4294967295 : Nat) : Int)
        omega
      · have hp : some (2147483652, 2147483652) = some p := hp
        cases hp
        show ((2147483652 : Nat) : Int) ≤ x0 0 + 2147483648 ∧ x0 0 + 2147483648 ≤ ((2147483652 : Nat) : Int)
        have hx := hx0 0
        have hP1 : x0 0 = ((4 : Nat) : Int) := hΦ.1
        have hP2 : x0 1 = ((1 : Nat) : Int) := hΦ.2
        omega
      · have hp : some (2147483649, 2147483649) = some p := hp
        cases hp
        show ((2147483649 : Nat) : Int) ≤ x0 1 + 2147483648 ∧ x0 1 + 2147483648 ≤ ((2147483649 : Nat) : Int)
        have hx := hx0 1
        have hP1 : x0 0 = ((4 : Nat) : Int) := hΦ.1
        have hP2 : x0 1 = ((1 : Nat) : Int) := hΦ.2
        omega
      · have hp : some (0, 4294967295) = some p := hp
        cases hp
        show ((0 : Nat) : Int) ≤ x0 2 + 2147483648 ∧ x0 2 + 2147483648 ≤ ((4294967295 : Nat) : Int)
        have hx := hx0 2
        omega
    · show E = E
      rfl
  · intro x0 s Wg hRu hrx hT0 hΦ i v H hT hrv hInv hKc hFr0 hIH x hx ρ2 v2 N2 H2 locs lsB stA hAt hB hv hr2 hXs hag hfr hFr hT2
    rcases i with ⟨i, hi⟩
    have hi2 : i = 0 := by omega
    rcases hi2 with rfl
    · cases hx
  · intro x0 E0 E E2 hrx hT0 hΦ i v hT hrv hInv hKc hFr0 x hx v2 hr2 hXs hag hfr hFr hT2
    rcases i with ⟨i, hi⟩
    have hi2 : i = 0 := by omega
    rcases hi2 with rfl
    · have hx : x ∈ [zxfcl0_41_ar0] := hx
      have hag : ∀ k, k < 4 → v2 k = v k := hag
      have hfr : xFr [(1, 5, 5), (1, 8, 8), (2, 0, 3), (3, 0, 15), (4, 0, 15), (5, 0, 15), (6, 0, 15), (7, 0, 15), (8, 0, 30), (9, 0, 30), (10, 0, 30), (11, 0, 30), (12, 0, 30), (13, 0, 30), (16, 1, 1)] _ _ := hfr
      have ex := List.mem_singleton.mp hx
      subst ex
      obtain ⟨hF, hBd, hM⟩ := hXs
      have g1 : v2 1 = v 1 := hag 1 (by decide)
      have g2 : v2 2 = v 2 := hag 2 (by decide)
      have b0 : ((2147483652 : Nat) : Int) ≤ (v2 1) + 2147483648 ∧ (v2 1) + 2147483648 ≤ ((2147483652 : Nat) : Int) := xXb hBd 0 rfl
      have b1 : ((2147483649 : Nat) : Int) ≤ (v2 2) + 2147483648 ∧ (v2 2) + 2147483648 ≤ ((2147483649 : Nat) : Int) := xXb hBd 1 rfl
      have m0 : xE E2 2 0 = (v2 1) := xXm hM 0 rfl
      have m1 : xE E2 2 1 = (v2 2) := xXm hM 1 rfl
      have hI : E = E0 := hInv
      show xΨcl0 x0 E0 E2 0
      have hP := hΦ
      have hP1 : x0 0 = ((4 : Nat) : Int) := hP.1
      have hP2 : x0 1 = ((1 : Nat) : Int) := hP.2
      unfold xΨcl0
      rw [hP1, hP2]
      obtain ⟨A, G⟩ := xGeo0_of hM (by decide) (by decide) (by decide) (by decide) (by decide) (by decide) zyfcl0_41_geo (by omega) (by omega) (by decide +kernel) (by decide +kernel)
      subst hI
      exact ⟨A, G, xJk0_of (by decide) (by decide) (by decide) (by decide) (by decide) G (fun i h1 h2 => by
        have h1 : ((16 : Nat) : Int) ≤ i := h1
        exact ⟨xFr_E hfr (xin_no (lo := 16) (by decide) (by omega)), xFr_E hfr (xin_no (lo := 16) (by decide) (by omega))⟩)⟩
noncomputable def zxfcl0_42_ar0 : zyXp := (0, [], [], [], [(34359738369, 2147483652, 2147483652), (68719476737, 2147483650, 2147483650)], [(32768, 34359738369), (32769, 68719476737), (32770, 256), (32771, 80), (16389, 0), (16392, 0), (262145, 0), (49152, 8), (49153, 16), (49154, 24), (49155, 0), (49156, 56), (49157, 32), (49158, 40), (49159, 48), (49160, 88), (49161, 64), (49162, 72), (49163, 80), (49164, 104), (49165, 112), (49166, 120), (49167, 96), (49168, 136), (49169, 144), (49170, 152), (49171, 128), (49172, 184), (49173, 160), (49174, 168), (49175, 176), (49176, 216), (49177, 192), (49178, 200), (49179, 208), (49180, 232), (49181, 240), (49182, 248), (49183, 224), (65536, 34359738360), (65537, 56), (65538, 64), (65539, 34359738360), (65540, 34359738360), (65541, 34359738360), (65542, 96), (65543, 8), (65544, 16), (65545, 120), (65546, 128), (65547, 34359738360), (65548, 48), (65549, 34359738360), (65550, 160), (65551, 72), (65552, 80), (65553, 184), (65554, 192), (65555, 34359738360), (65556, 112), (65557, 34359738360), (65558, 224), (65559, 136), (65560, 144), (65561, 248), (65562, 34359738360), (65563, 34359738360), (65564, 176), (65565, 34359738360), (65566, 34359738360), (65567, 200), (81920, 34359738360), (81921, 0), (81922, 32), (81923, 34359738360), (81924, 34359738360), (81925, 34359738360), (81926, 40), (81927, 0), (81928, 32), (81929, 8), (81930, 48), (81931, 34359738360), (81932, 40), (81933, 34359738360), (81934, 56), (81935, 8), (81936, 48), (81937, 16), (81938, 64), (81939, 34359738360), (81940, 56), (81941, 34359738360), (81942, 72), (81943, 16), (81944, 64), (81945, 24), (81946, 34359738360), (81947, 34359738360), (81948, 72), (81949, 34359738360), (81950, 34359738360), (81951, 24), (98304, 0), (98305, 8), (98306, 0), (98307, 34359738360), (98308, 16), (98309, 24), (98310, 16), (98311, 8), (98312, 0), (98313, 8), (98314, 0), (98315, 34359738360), (98316, 16), (98317, 24), (98318, 16), (98319, 8), (98320, 0), (98321, 8), (98322, 0), (98323, 34359738360), (98324, 16), (98325, 24), (98326, 16), (98327, 8), (98328, 0), (98329, 8), (98330, 0), (98331, 34359738360), (98332, 16), (98333, 24), (98334, 16), (98335, 8), (114688, 34359738360), (114689, 0), (114690, 8), (114691, 0), (114692, 34359738360), (114693, 0), (114694, 8), (114695, 0), (114696, 8), (114697, 16), (114698, 24), (114699, 16), (114700, 8), (114701, 16), (114702, 24), (114703, 16), (114704, 24), (114705, 32), (114706, 40), (114707, 32), (114708, 24), (114709, 32), (114710, 40), (114711, 32), (114712, 40), (114713, 48), (114714, 56), (114715, 48), (114716, 40), (114717, 48), (114718, 56), (114719, 48), (131072, 8), (131073, 72), (131074, 136), (131075, 200), (131076, 16), (131077, 48), (131078, 80), (131079, 112), (131080, 144), (131081, 176), (147456, 56), (147457, 120), (147458, 184), (147459, 248), (147460, 64), (147461, 96), (147462, 128), (147463, 160), (147464, 192), (147465, 224), (163840, 0), (163841, 0), (163842, 0), (163843, 0), (163844, 0), (163845, 0), (163846, 0), (163847, 0), (163848, 0), (163849, 0), (163850, 0), (163851, 0), (163852, 0), (163853, 0), (163854, 0), (163855, 0), (163856, 0), (163857, 0), (163858, 0), (163859, 0), (163860, 0), (163861, 0), (163862, 0), (163863, 0), (163864, 0), (163865, 0), (163866, 0), (163867, 0), (163868, 0), (163869, 0), (163870, 0), (180224, 8), (180225, 8), (180226, 8), (180227, 8), (180228, 8), (180229, 8), (180230, 8), (180231, 8), (180232, 8), (180233, 8), (180234, 8), (180235, 8), (180236, 8), (180237, 8), (180238, 8), (180239, 8), (180240, 8), (180241, 8), (180242, 8), (180243, 8), (180244, 8), (180245, 8), (180246, 8), (180247, 8), (180248, 8), (180249, 8), (180250, 8), (180251, 8), (180252, 8), (180253, 8), (180254, 8), (196608, 0), (196609, 0), (196610, 0), (196611, 0), (196612, 0), (196613, 0), (196614, 0), (196615, 0), (196616, 0), (196617, 0), (196618, 0), (196619, 0), (196620, 0), (196621, 0), (196622, 0), (196623, 0), (196624, 0), (196625, 0), (196626, 0), (196627, 0), (196628, 0), (196629, 0), (196630, 0), (196631, 0), (196632, 0), (196633, 0), (196634, 0), (196635, 0), (196636, 0), (196637, 0), (196638, 0), (212992, 0), (212993, 0), (212994, 0), (212995, 0), (212996, 0), (212997, 0), (212998, 0), (212999, 0), (213000, 0), (213001, 0), (213002, 0), (213003, 0), (213004, 0), (213005, 0), (213006, 0), (213007, 0), (213008, 0), (213009, 0), (213010, 0), (213011, 0), (213012, 0), (213013, 0), (213014, 0), (213015, 0), (213016, 0), (213017, 0), (213018, 0), (213019, 0), (213020, 0), (213021, 0), (213022, 0)])
noncomputable def zpfcl0_42_a : zyPh := (0, [11, 34359738369, 68719476737, 13], [(0, 4294967295), (2147483652, 2147483652), (2147483650, 2147483650), (0, 4294967295)], [], [])
noncomputable def zpfcl0_42 (i : Nat) : zyPh := zpfcl0_42_a
noncomputable def zXfcl0_42 (i : Nat) : List zyXp := []
noncomputable def zRfcl0_42 (i : Nat) : List zyXp := [zxfcl0_42_ar0]
noncomputable def zFfcl0_42 (i : Nat) : zyR := [(1, 5, 5), (1, 8, 8), (2, 0, 3), (3, 0, 31), (4, 0, 31), (5, 0, 31), (6, 0, 31), (7, 0, 31), (8, 0, 30), (9, 0, 30), (10, 0, 30), (11, 0, 30), (12, 0, 30), (13, 0, 30), (16, 1, 1)]
noncomputable def zSfcl0_42 (i : Nat) : Nat := 0
theorem zyfcl0_42_geo : xgeoB0 (zxfcl0_42_ar0).2.2.2.2.2 4 2 = true := by decide +kernel
noncomputable def fpfcl0_42 : zyR := [(1, 5, 5), (1, 8, 8), (2, 0, 3), (3, 0, 79), (4, 0, 79), (5, 0, 79), (6, 0, 79), (7, 0, 79), (8, 0, 30), (9, 0, 30), (10, 0, 30), (11, 0, 30), (12, 0, 30), (13, 0, 30), (16, 1, 1)]
theorem zyfcl0_42_run : zyrS zymc zxi31 (31, 0, 0, 0, 0) 3 zpfcl0_42 (fun _ _ => []) zFfcl0_42 zSfcl0_42 zXfcl0_42 zRfcl0_42 1 = true := by decide +kernel
theorem zyfcl0_42_ck : zyAll (fun i => xsubR (zFfcl0_42 i) fpfcl0_42 && ((zXfcl0_42 i).all xckX && (zRfcl0_42 i).all (fun x => xckX x && xrtB false x))) 1 = true := by decide +kernel
def xIfcl0_42 (i : Nat) (x0 : Nat → Int) (E0 : zyEm) (v : Nat → Int) (E : zyEm) : Prop := (E = E0)
def xMfcl0_42 (i : Nat) (x0 : Nat → Int) (E0 : zyEm) (v : Nat → Int) (E : zyEm) : Nat := (0)
theorem xCl0_42 {l : Launch} {en : zEn} {me : zMe} (hen : zG zxMeta 31 = some en) (hme : zG zMeth 31 = some me) : xFc l zymc en me 3 [1] 2 fpfcl0_42 false (xΦcl0_ (4, 2)) xΨcl0 := by
  have een : zG zxMeta 31 = some (zxi31, 3, 4, 3, 31, 0, 0, 0, 0) := rfl
  obtain ⟨me1, hme1, hOK⟩ := zall hen
  rw [hme] at hme1
  cases hme1
  rw [een] at hen
  cases hen
  have hr := zyfcl0_42_run
  have hck := fun i hi => zyAll_iff zyfcl0_42_ck i hi
  simp only [Bool.and_eq_true] at hck
  intro B
  refine xcut (mi := zymc) (B := B) hOK rfl rfl (ι := Fin 1) (fun i => zpfcl0_42 i.val) (fun _ _ => []) (fun i => zFfcl0_42 i.val) (fun i => zSfcl0_42 i.val) (fun i => zXfcl0_42 i.val) (fun i => zRfcl0_42 i.val) (fun i y2 ct en2 me2 h => by cases h) 200000 (fun i => zyAll_iff hr i.val i.isLt) (fun i => (hck i.val i.isLt).1) (fun i => (hck i.val i.isLt).2.1) (fun i => (hck i.val i.isLt).2.2) ⟨0, by decide⟩ ⟨rfl, rfl, rfl, rfl⟩ ⟨by decide, by decide⟩ (fun i x0 E0 v E => xIfcl0_42 i.val x0 E0 v E) (fun i x0 E0 v E => xMfcl0_42 i.val x0 E0 v E) ?_ ?_ ?_
  · intro x0 E hx0 hT hΦ
    have hΦ : (xΦcl0_ (4, 2)) x0 E := hΦ
    refine ⟨fun k p hp => ?_, ?_⟩
    · have hk : k < 4 := (List.getElem?_eq_some_iff.mp hp).1
      have hk : k = 0 ∨ k = 1 ∨ k = 2 ∨ k = 3 := by omega
      rcases hk with rfl | rfl | rfl | rfl
      · have hp : some (0, 4294967295) = some p := hp
        cases hp
        show ((0 : Nat) : Int) ≤ 0 + 2147483648 ∧ 0 + 2147483648 ≤ ((4294967295 : Nat) : Int)
        omega
      · have hp : some (2147483652, 2147483652) = some p := hp
        cases hp
        show ((2147483652 : Nat) : Int) ≤ x0 0 + 2147483648 ∧ x0 0 + 2147483648 ≤ ((2147483652 : Nat) : Int)
        have hx := hx0 0
        have hP1 : x0 0 = ((4 : Nat) : Int) := hΦ.1
        have hP2 : x0 1 = ((2 : Nat) : Int) := hΦ.2
        omega
      · have hp : some (2147483650, 2147483650) = some p := hp
        cases hp
        show ((2147483650 : Nat) : Int) ≤ x0 1 + 2147483648 ∧ x0 1 + 2147483648 ≤ ((2147483650 : Nat) : Int)
        have hx := hx0 1
        have hP1 : x0 0 = ((4 : Nat) : Int) := hΦ.1
        have hP2 : x0 1 = ((2 : Nat) : Int) := hΦ.2
        omega
      · have hp : some (0, 4294967295) = some p := hp
        cases hp
        show ((0 : Nat) : Int) ≤ x0 2 + 2147483648 ∧ x0 2 + 2147483648 ≤ ((4294967295 : Nat) : Int)
        have hx := hx0 2
        omega
    · show E = E
      rfl
  · intro x0 s Wg hRu hrx hT0 hΦ i v H hT hrv hInv hKc hFr0 hIH x hx ρ2 v2 N2 H2 locs lsB stA hAt hB hv hr2 hXs hag hfr hFr hT2
    rcases i with ⟨i, hi⟩
    have hi2 : i = 0 := by omega
    rcases hi2 with rfl
    · cases hx
  · intro x0 E0 E E2 hrx hT0 hΦ i v hT hrv hInv hKc hFr0 x hx v2 hr2 hXs hag hfr hFr hT2
    rcases i with ⟨i, hi⟩
    have hi2 : i = 0 := by omega
    rcases hi2 with rfl
    · have hx : x ∈ [zxfcl0_42_ar0] := hx
      have hag : ∀ k, k < 4 → v2 k = v k := hag
      have hfr : xFr [(1, 5, 5), (1, 8, 8), (2, 0, 3), (3, 0, 31), (4, 0, 31), (5, 0, 31), (6, 0, 31), (7, 0, 31), (8, 0, 30), (9, 0, 30), (10, 0, 30), (11, 0, 30), (12, 0, 30), (13, 0, 30), (16, 1, 1)] _ _ := hfr
      have ex := List.mem_singleton.mp hx
      subst ex
      obtain ⟨hF, hBd, hM⟩ := hXs
      have g1 : v2 1 = v 1 := hag 1 (by decide)
      have g2 : v2 2 = v 2 := hag 2 (by decide)
      have b0 : ((2147483652 : Nat) : Int) ≤ (v2 1) + 2147483648 ∧ (v2 1) + 2147483648 ≤ ((2147483652 : Nat) : Int) := xXb hBd 0 rfl
      have b1 : ((2147483650 : Nat) : Int) ≤ (v2 2) + 2147483648 ∧ (v2 2) + 2147483648 ≤ ((2147483650 : Nat) : Int) := xXb hBd 1 rfl
      have m0 : xE E2 2 0 = (v2 1) := xXm hM 0 rfl
      have m1 : xE E2 2 1 = (v2 2) := xXm hM 1 rfl
      have hI : E = E0 := hInv
      show xΨcl0 x0 E0 E2 0
      have hP := hΦ
      have hP1 : x0 0 = ((4 : Nat) : Int) := hP.1
      have hP2 : x0 1 = ((2 : Nat) : Int) := hP.2
      unfold xΨcl0
      rw [hP1, hP2]
      obtain ⟨A, G⟩ := xGeo0_of hM (by decide) (by decide) (by decide) (by decide) (by decide) (by decide) zyfcl0_42_geo (by omega) (by omega) (by decide +kernel) (by decide +kernel)
      subst hI
      exact ⟨A, G, xJk0_of (by decide) (by decide) (by decide) (by decide) (by decide) G (fun i h1 h2 => by
        have h1 : ((32 : Nat) : Int) ≤ i := h1
        exact ⟨xFr_E hfr (xin_no (lo := 32) (by decide) (by omega)), xFr_E hfr (xin_no (lo := 32) (by decide) (by omega))⟩)⟩
noncomputable def zxfcl0_43_ar0 : zyXp := (0, [], [], [], [(34359738369, 2147483652, 2147483652), (68719476737, 2147483651, 2147483651)], [(32768, 34359738369), (32769, 68719476737), (32770, 384), (32771, 136), (16389, 0), (16392, 0), (262145, 0), (49152, 8), (49153, 16), (49154, 24), (49155, 0), (49156, 56), (49157, 32), (49158, 40), (49159, 48), (49160, 72), (49161, 80), (49162, 88), (49163, 64), (49164, 120), (49165, 96), (49166, 104), (49167, 112), (49168, 136), (49169, 144), (49170, 152), (49171, 128), (49172, 184), (49173, 160), (49174, 168), (49175, 176), (49176, 200), (49177, 208), (49178, 216), (49179, 192), (49180, 248), (49181, 224), (49182, 232), (49183, 240), (49184, 264), (49185, 272), (49186, 280), (49187, 256), (49188, 312), (49189, 288), (49190, 296), (49191, 304), (49192, 328), (49193, 336), (49194, 344), (49195, 320), (49196, 376), (49197, 352), (49198, 360), (49199, 368), (65536, 34359738360), (65537, 56), (65538, 96), (65539, 34359738360), (65540, 34359738360), (65541, 88), (65542, 128), (65543, 8), (65544, 34359738360), (65545, 34359738360), (65546, 160), (65547, 40), (65548, 16), (65549, 152), (65550, 192), (65551, 34359738360), (65552, 48), (65553, 184), (65554, 224), (65555, 104), (65556, 80), (65557, 34359738360), (65558, 256), (65559, 136), (65560, 112), (65561, 248), (65562, 288), (65563, 34359738360), (65564, 144), (65565, 280), (65566, 320), (65567, 200), (65568, 176), (65569, 34359738360), (65570, 352), (65571, 232), (65572, 208), (65573, 344), (65574, 34359738360), (65575, 34359738360), (65576, 240), (65577, 376), (65578, 34359738360), (65579, 296), (65580, 272), (65581, 34359738360), (65582, 34359738360), (65583, 328), (81920, 34359738360), (81921, 0), (81922, 64), (81923, 34359738360), (81924, 34359738360), (81925, 8), (81926, 72), (81927, 0), (81928, 34359738360), (81929, 34359738360), (81930, 80), (81931, 8), (81932, 64), (81933, 16), (81934, 88), (81935, 34359738360), (81936, 72), (81937, 24), (81938, 96), (81939, 16), (81940, 80), (81941, 34359738360), (81942, 104), (81943, 24), (81944, 88), (81945, 32), (81946, 112), (81947, 34359738360), (81948, 96), (81949, 40), (81950, 120), (81951, 32), (81952, 104), (81953, 34359738360), (81954, 128), (81955, 40), (81956, 112), (81957, 48), (81958, 34359738360), (81959, 34359738360), (81960, 120), (81961, 56), (81962, 34359738360), (81963, 48), (81964, 128), (81965, 34359738360), (81966, 34359738360), (81967, 56), (98304, 0), (98305, 8), (98306, 0), (98307, 34359738360), (98308, 16), (98309, 24), (98310, 16), (98311, 8), (98312, 32), (98313, 40), (98314, 32), (98315, 24), (98316, 0), (98317, 8), (98318, 0), (98319, 34359738360), (98320, 16), (98321, 24), (98322, 16), (98323, 8), (98324, 32), (98325, 40), (98326, 32), (98327, 24), (98328, 0), (98329, 8), (98330, 0), (98331, 34359738360), (98332, 16), (98333, 24), (98334, 16), (98335, 8), (98336, 32), (98337, 40), (98338, 32), (98339, 24), (98340, 0), (98341, 8), (98342, 0), (98343, 34359738360), (98344, 16), (98345, 24), (98346, 16), (98347, 8), (98348, 32), (98349, 40), (98350, 32), (98351, 24), (114688, 34359738360), (114689, 0), (114690, 8), (114691, 0), (114692, 34359738360), (114693, 0), (114694, 8), (114695, 0), (114696, 34359738360), (114697, 0), (114698, 8), (114699, 0), (114700, 8), (114701, 16), (114702, 24), (114703, 16), (114704, 8), (114705, 16), (114706, 24), (114707, 16), (114708, 8), (114709, 16), (114710, 24), (114711, 16), (114712, 24), (114713, 32), (114714, 40), (114715, 32), (114716, 24), (114717, 32), (114718, 40), (114719, 32), (114720, 24), (114721, 32), (114722, 40), (114723, 32), (114724, 40), (114725, 48), (114726, 56), (114727, 48), (114728, 40), (114729, 48), (114730, 56), (114731, 48), (114732, 40), (114733, 48), (114734, 56), (114735, 48), (131072, 8), (131073, 40), (131074, 104), (131075, 136), (131076, 200), (131077, 232), (131078, 296), (131079, 328), (131080, 16), (131081, 48), (131082, 80), (131083, 112), (131084, 144), (131085, 176), (131086, 208), (131087, 240), (131088, 272), (147456, 56), (147457, 88), (147458, 152), (147459, 184), (147460, 248), (147461, 280), (147462, 344), (147463, 376), (147464, 96), (147465, 128), (147466, 160), (147467, 192), (147468, 224), (147469, 256), (147470, 288), (147471, 320), (147472, 352), (163840, 0), (163841, 0), (163842, 0), (163843, 0), (163844, 0), (163845, 0), (163846, 0), (163847, 0), (163848, 0), (163849, 0), (163850, 0), (163851, 0), (163852, 0), (163853, 0), (163854, 0), (163855, 0), (163856, 0), (163857, 0), (163858, 0), (163859, 0), (163860, 0), (163861, 0), (163862, 0), (163863, 0), (163864, 0), (163865, 0), (163866, 0), (163867, 0), (163868, 0), (163869, 0), (163870, 0), (180224, 8), (180225, 8), (180226, 8), (180227, 8), (180228, 8), (180229, 8), (180230, 8), (180231, 8), (180232, 8), (180233, 8), (180234, 8), (180235, 8), (180236, 8), (180237, 8), (180238, 8), (180239, 8), (180240, 8), (180241, 8), (180242, 8), (180243, 8), (180244, 8), (180245, 8), (180246, 8), (180247, 8), (180248, 8), (180249, 8), (180250, 8), (180251, 8), (180252, 8), (180253, 8), (180254, 8), (196608, 0), (196609, 0), (196610, 0), (196611, 0), (196612, 0), (196613, 0), (196614, 0), (196615, 0), (196616, 0), (196617, 0), (196618, 0), (196619, 0), (196620, 0), (196621, 0), (196622, 0), (196623, 0), (196624, 0), (196625, 0), (196626, 0), (196627, 0), (196628, 0), (196629, 0), (196630, 0), (196631, 0), (196632, 0), (196633, 0), (196634, 0), (196635, 0), (196636, 0), (196637, 0), (196638, 0), (212992, 0), (212993, 0), (212994, 0), (212995, 0), (212996, 0), (212997, 0), (212998, 0), (212999, 0), (213000, 0), (213001, 0), (213002, 0), (213003, 0), (213004, 0), (213005, 0), (213006, 0), (213007, 0), (213008, 0), (213009, 0), (213010, 0), (213011, 0), (213012, 0), (213013, 0), (213014, 0), (213015, 0), (213016, 0), (213017, 0), (213018, 0), (213019, 0), (213020, 0), (213021, 0), (213022, 0)])
noncomputable def zpfcl0_43_a : zyPh := (0, [11, 34359738369, 68719476737, 13], [(0, 4294967295), (2147483652, 2147483652), (2147483651, 2147483651), (0, 4294967295)], [], [])
noncomputable def zpfcl0_43 (i : Nat) : zyPh := zpfcl0_43_a
noncomputable def zXfcl0_43 (i : Nat) : List zyXp := []
noncomputable def zRfcl0_43 (i : Nat) : List zyXp := [zxfcl0_43_ar0]
noncomputable def zFfcl0_43 (i : Nat) : zyR := [(1, 5, 5), (1, 8, 8), (2, 0, 3), (3, 0, 47), (4, 0, 47), (5, 0, 47), (6, 0, 47), (7, 0, 47), (8, 0, 30), (9, 0, 30), (10, 0, 30), (11, 0, 30), (12, 0, 30), (13, 0, 30), (16, 1, 1)]
noncomputable def zSfcl0_43 (i : Nat) : Nat := 0
theorem zyfcl0_43_geo : xgeoB0 (zxfcl0_43_ar0).2.2.2.2.2 4 3 = true := by decide +kernel
noncomputable def fpfcl0_43 : zyR := [(1, 5, 5), (1, 8, 8), (2, 0, 3), (3, 0, 79), (4, 0, 79), (5, 0, 79), (6, 0, 79), (7, 0, 79), (8, 0, 30), (9, 0, 30), (10, 0, 30), (11, 0, 30), (12, 0, 30), (13, 0, 30), (16, 1, 1)]
theorem zyfcl0_43_run : zyrS zymc zxi31 (31, 0, 0, 0, 0) 3 zpfcl0_43 (fun _ _ => []) zFfcl0_43 zSfcl0_43 zXfcl0_43 zRfcl0_43 1 = true := by decide +kernel
theorem zyfcl0_43_ck : zyAll (fun i => xsubR (zFfcl0_43 i) fpfcl0_43 && ((zXfcl0_43 i).all xckX && (zRfcl0_43 i).all (fun x => xckX x && xrtB false x))) 1 = true := by decide +kernel
def xIfcl0_43 (i : Nat) (x0 : Nat → Int) (E0 : zyEm) (v : Nat → Int) (E : zyEm) : Prop := (E = E0)
def xMfcl0_43 (i : Nat) (x0 : Nat → Int) (E0 : zyEm) (v : Nat → Int) (E : zyEm) : Nat := (0)
theorem xCl0_43 {l : Launch} {en : zEn} {me : zMe} (hen : zG zxMeta 31 = some en) (hme : zG zMeth 31 = some me) : xFc l zymc en me 3 [1] 2 fpfcl0_43 false (xΦcl0_ (4, 3)) xΨcl0 := by
  have een : zG zxMeta 31 = some (zxi31, 3, 4, 3, 31, 0, 0, 0, 0) := rfl
  obtain ⟨me1, hme1, hOK⟩ := zall hen
  rw [hme] at hme1
  cases hme1
  rw [een] at hen
  cases hen
  have hr := zyfcl0_43_run
  have hck := fun i hi => zyAll_iff zyfcl0_43_ck i hi
  simp only [Bool.and_eq_true] at hck
  intro B
  refine xcut (mi := zymc) (B := B) hOK rfl rfl (ι := Fin 1) (fun i => zpfcl0_43 i.val) (fun _ _ => []) (fun i => zFfcl0_43 i.val) (fun i => zSfcl0_43 i.val) (fun i => zXfcl0_43 i.val) (fun i => zRfcl0_43 i.val) (fun i y2 ct en2 me2 h => by cases h) 200000 (fun i => zyAll_iff hr i.val i.isLt) (fun i => (hck i.val i.isLt).1) (fun i => (hck i.val i.isLt).2.1) (fun i => (hck i.val i.isLt).2.2) ⟨0, by decide⟩ ⟨rfl, rfl, rfl, rfl⟩ ⟨by decide, by decide⟩ (fun i x0 E0 v E => xIfcl0_43 i.val x0 E0 v E) (fun i x0 E0 v E => xMfcl0_43 i.val x0 E0 v E) ?_ ?_ ?_
  · intro x0 E hx0 hT hΦ
    have hΦ : (xΦcl0_ (4, 3)) x0 E := hΦ
    refine ⟨fun k p hp => ?_, ?_⟩
    · have hk : k < 4 := (List.getElem?_eq_some_iff.mp hp).1
      have hk : k = 0 ∨ k = 1 ∨ k = 2 ∨ k = 3 := by omega
      rcases hk with rfl | rfl | rfl | rfl
      · have hp : some (0, 4294967295) = some p := hp
        cases hp
        show ((0 : Nat) : Int) ≤ 0 + 2147483648 ∧ 0 + 2147483648 ≤ ((4294967295 : Nat) : Int)
        omega
      · have hp : some (2147483652, 2147483652) = some p := hp
        cases hp
        show ((2147483652 : Nat) : Int) ≤ x0 0 + 2147483648 ∧ x0 0 + 2147483648 ≤ ((2147483652 : Nat) : Int)
        have hx := hx0 0
        have hP1 : x0 0 = ((4 : Nat) : Int) := hΦ.1
        have hP2 : x0 1 = ((3 : Nat) : Int) := hΦ.2
        omega
      · have hp : some (2147483651, 2147483651) = some p := hp
        cases hp
        show ((2147483651 : Nat) : Int) ≤ x0 1 + 2147483648 ∧ x0 1 + 2147483648 ≤ ((2147483651 : Nat) : Int)
        have hx := hx0 1
        have hP1 : x0 0 = ((4 : Nat) : Int) := hΦ.1
        have hP2 : x0 1 = ((3 : Nat) : Int) := hΦ.2
        omega
      · have hp : some (0, 4294967295) = some p := hp
        cases hp
        show ((0 : Nat) : Int) ≤ x0 2 + 2147483648 ∧ x0 2 + 2147483648 ≤ ((4294967295 : Nat) : Int)
        have hx := hx0 2
        omega
    · show E = E
      rfl
  · intro x0 s Wg hRu hrx hT0 hΦ i v H hT hrv hInv hKc hFr0 hIH x hx ρ2 v2 N2 H2 locs lsB stA hAt hB hv hr2 hXs hag hfr hFr hT2
    rcases i with ⟨i, hi⟩
    have hi2 : i = 0 := by omega
    rcases hi2 with rfl
    · cases hx
  · intro x0 E0 E E2 hrx hT0 hΦ i v hT hrv hInv hKc hFr0 x hx v2 hr2 hXs hag hfr hFr hT2
    rcases i with ⟨i, hi⟩
    have hi2 : i = 0 := by omega
    rcases hi2 with rfl
    · have hx : x ∈ [zxfcl0_43_ar0] := hx
      have hag : ∀ k, k < 4 → v2 k = v k := hag
      have hfr : xFr [(1, 5, 5), (1, 8, 8), (2, 0, 3), (3, 0, 47), (4, 0, 47), (5, 0, 47), (6, 0, 47), (7, 0, 47), (8, 0, 30), (9, 0, 30), (10, 0, 30), (11, 0, 30), (12, 0, 30), (13, 0, 30), (16, 1, 1)] _ _ := hfr
      have ex := List.mem_singleton.mp hx
      subst ex
      obtain ⟨hF, hBd, hM⟩ := hXs
      have g1 : v2 1 = v 1 := hag 1 (by decide)
      have g2 : v2 2 = v 2 := hag 2 (by decide)
      have b0 : ((2147483652 : Nat) : Int) ≤ (v2 1) + 2147483648 ∧ (v2 1) + 2147483648 ≤ ((2147483652 : Nat) : Int) := xXb hBd 0 rfl
      have b1 : ((2147483651 : Nat) : Int) ≤ (v2 2) + 2147483648 ∧ (v2 2) + 2147483648 ≤ ((2147483651 : Nat) : Int) := xXb hBd 1 rfl
      have m0 : xE E2 2 0 = (v2 1) := xXm hM 0 rfl
      have m1 : xE E2 2 1 = (v2 2) := xXm hM 1 rfl
      have hI : E = E0 := hInv
      show xΨcl0 x0 E0 E2 0
      have hP := hΦ
      have hP1 : x0 0 = ((4 : Nat) : Int) := hP.1
      have hP2 : x0 1 = ((3 : Nat) : Int) := hP.2
      unfold xΨcl0
      rw [hP1, hP2]
      obtain ⟨A, G⟩ := xGeo0_of hM (by decide) (by decide) (by decide) (by decide) (by decide) (by decide) zyfcl0_43_geo (by omega) (by omega) (by decide +kernel) (by decide +kernel)
      subst hI
      exact ⟨A, G, xJk0_of (by decide) (by decide) (by decide) (by decide) (by decide) G (fun i h1 h2 => by
        have h1 : ((48 : Nat) : Int) ≤ i := h1
        exact ⟨xFr_E hfr (xin_no (lo := 48) (by decide) (by omega)), xFr_E hfr (xin_no (lo := 48) (by decide) (by omega))⟩)⟩
noncomputable def zxfcl0_44_ar0 : zyXp := (0, [], [], [], [(34359738369, 2147483652, 2147483652), (68719476737, 2147483652, 2147483652)], [(32768, 34359738369), (32769, 68719476737), (32770, 512), (32771, 192), (16389, 0), (16392, 0), (262145, 0), (49152, 8), (49153, 16), (49154, 24), (49155, 0), (49156, 56), (49157, 32), (49158, 40), (49159, 48), (49160, 72), (49161, 80), (49162, 88), (49163, 64), (49164, 120), (49165, 96), (49166, 104), (49167, 112), (49168, 152), (49169, 128), (49170, 136), (49171, 144), (49172, 168), (49173, 176), (49174, 184), (49175, 160), (49176, 216), (49177, 192), (49178, 200), (49179, 208), (49180, 232), (49181, 240), (49182, 248), (49183, 224), (49184, 264), (49185, 272), (49186, 280), (49187, 256), (49188, 312), (49189, 288), (49190, 296), (49191, 304), (49192, 328), (49193, 336), (49194, 344), (49195, 320), (49196, 376), (49197, 352), (49198, 360), (49199, 368), (49200, 408), (49201, 384), (49202, 392), (49203, 400), (49204, 424), (49205, 432), (49206, 440), (49207, 416), (49208, 472), (49209, 448), (49210, 456), (49211, 464), (49212, 488), (49213, 496), (49214, 504), (49215, 480), (65536, 34359738360), (65537, 56), (65538, 128), (65539, 34359738360), (65540, 34359738360), (65541, 88), (65542, 160), (65543, 8), (65544, 34359738360), (65545, 120), (65546, 192), (65547, 40), (65548, 34359738360), (65549, 34359738360), (65550, 224), (65551, 72), (65552, 16), (65553, 184), (65554, 256), (65555, 34359738360), (65556, 48), (65557, 216), (65558, 288), (65559, 136), (65560, 80), (65561, 248), (65562, 320), (65563, 168), (65564, 112), (65565, 34359738360), (65566, 352), (65567, 200), (65568, 144), (65569, 312), (65570, 384), (65571, 34359738360), (65572, 176), (65573, 344), (65574, 416), (65575, 264), (65576, 208), (65577, 376), (65578, 448), (65579, 296), (65580, 240), (65581, 34359738360), (65582, 480), (65583, 328), (65584, 272), (65585, 440), (65586, 34359738360), (65587, 34359738360), (65588, 304), (65589, 472), (65590, 34359738360), (65591, 392), (65592, 336), (65593, 504), (65594, 34359738360), (65595, 424), (65596, 368), (65597, 34359738360), (65598, 34359738360), (65599, 456), (81920, 34359738360), (81921, 0), (81922, 96), (81923, 34359738360), (81924, 34359738360), (81925, 8), (81926, 104), (81927, 0), (81928, 34359738360), (81929, 16), (81930, 112), (81931, 8), (81932, 34359738360), (81933, 34359738360), (81934, 120), (81935, 16), (81936, 96), (81937, 24), (81938, 128), (81939, 34359738360), (81940, 104), (81941, 32), (81942, 136), (81943, 24), (81944, 112), (81945, 40), (81946, 144), (81947, 32), (81948, 120), (81949, 34359738360), (81950, 152), (81951, 40), (81952, 128), (81953, 48), (81954, 160), (81955, 34359738360), (81956, 136), (81957, 56), (81958, 168), (81959, 48), (81960, 144), (81961, 64), (81962, 176), (81963, 56), (81964, 152), (81965, 34359738360), (81966, 184), (81967, 64), (81968, 160), (81969, 72), (81970, 34359738360), (81971, 34359738360), (81972, 168), (81973, 80), (81974, 34359738360), (81975, 72), (81976, 176), (81977, 88), (81978, 34359738360), (81979, 80), (81980, 184), (81981, 34359738360), (81982, 34359738360), (81983, 88), (98304, 0), (98305, 8), (98306, 0), (98307, 34359738360), (98308, 16), (98309, 24), (98310, 16), (98311, 8), (98312, 32), (98313, 40), (98314, 32), (98315, 24), (98316, 48), (98317, 56), (98318, 48), (98319, 40), (98320, 0), (98321, 8), (98322, 0), (98323, 34359738360), (98324, 16), (98325, 24), (98326, 16), (98327, 8), (98328, 32), (98329, 40), (98330, 32), (98331, 24), (98332, 48), (98333, 56), (98334, 48), (98335, 40), (98336, 0), (98337, 8), (98338, 0), (98339, 34359738360), (98340, 16), (98341, 24), (98342, 16), (98343, 8), (98344, 32), (98345, 40), (98346, 32), (98347, 24), (98348, 48), (98349, 56), (98350, 48), (98351, 40), (98352, 0), (98353, 8), (98354, 0), (98355, 34359738360), (98356, 16), (98357, 24), (98358, 16), (98359, 8), (98360, 32), (98361, 40), (98362, 32), (98363, 24), (98364, 48), (98365, 56), (98366, 48), (98367, 40), (114688, 34359738360), (114689, 0), (114690, 8), (114691, 0), (114692, 34359738360), (114693, 0), (114694, 8), (114695, 0), (114696, 34359738360), (114697, 0), (114698, 8), (114699, 0), (114700, 34359738360), (114701, 0), (114702, 8), (114703, 0), (114704, 8), (114705, 16), (114706, 24), (114707, 16), (114708, 8), (114709, 16), (114710, 24), (114711, 16), (114712, 8), (114713, 16), (114714, 24), (114715, 16), (114716, 8), (114717, 16), (114718, 24), (114719, 16), (114720, 24), (114721, 32), (114722, 40), (114723, 32), (114724, 24), (114725, 32), (114726, 40), (114727, 32), (114728, 24), (114729, 32), (114730, 40), (114731, 32), (114732, 24), (114733, 32), (114734, 40), (114735, 32), (114736, 40), (114737, 48), (114738, 56), (114739, 48), (114740, 40), (114741, 48), (114742, 56), (114743, 48), (114744, 40), (114745, 48), (114746, 56), (114747, 48), (114748, 40), (114749, 48), (114750, 56), (114751, 48), (131072, 8), (131073, 40), (131074, 72), (131075, 136), (131076, 168), (131077, 200), (131078, 264), (131079, 296), (131080, 328), (131081, 392), (131082, 424), (131083, 456), (131084, 16), (131085, 48), (131086, 80), (131087, 112), (131088, 144), (131089, 176), (131090, 208), (131091, 240), (131092, 272), (131093, 304), (131094, 336), (131095, 368), (147456, 56), (147457, 88), (147458, 120), (147459, 184), (147460, 216), (147461, 248), (147462, 312), (147463, 344), (147464, 376), (147465, 440), (147466, 472), (147467, 504), (147468, 128), (147469, 160), (147470, 192), (147471, 224), (147472, 256), (147473, 288), (147474, 320), (147475, 352), (147476, 384), (147477, 416), (147478, 448), (147479, 480), (163840, 0), (163841, 0), (163842, 0), (163843, 0), (163844, 0), (163845, 0), (163846, 0), (163847, 0), (163848, 0), (163849, 0), (163850, 0), (163851, 0), (163852, 0), (163853, 0), (163854, 0), (163855, 0), (163856, 0), (163857, 0), (163858, 0), (163859, 0), (163860, 0), (163861, 0), (163862, 0), (163863, 0), (163864, 0), (163865, 0), (163866, 0), (163867, 0), (163868, 0), (163869, 0), (163870, 0), (180224, 8), (180225, 8), (180226, 8), (180227, 8), (180228, 8), (180229, 8), (180230, 8), (180231, 8), (180232, 8), (180233, 8), (180234, 8), (180235, 8), (180236, 8), (180237, 8), (180238, 8), (180239, 8), (180240, 8), (180241, 8), (180242, 8), (180243, 8), (180244, 8), (180245, 8), (180246, 8), (180247, 8), (180248, 8), (180249, 8), (180250, 8), (180251, 8), (180252, 8), (180253, 8), (180254, 8), (196608, 0), (196609, 0), (196610, 0), (196611, 0), (196612, 0), (196613, 0), (196614, 0), (196615, 0), (196616, 0), (196617, 0), (196618, 0), (196619, 0), (196620, 0), (196621, 0), (196622, 0), (196623, 0), (196624, 0), (196625, 0), (196626, 0), (196627, 0), (196628, 0), (196629, 0), (196630, 0), (196631, 0), (196632, 0), (196633, 0), (196634, 0), (196635, 0), (196636, 0), (196637, 0), (196638, 0), (212992, 0), (212993, 0), (212994, 0), (212995, 0), (212996, 0), (212997, 0), (212998, 0), (212999, 0), (213000, 0), (213001, 0), (213002, 0), (213003, 0), (213004, 0), (213005, 0), (213006, 0), (213007, 0), (213008, 0), (213009, 0), (213010, 0), (213011, 0), (213012, 0), (213013, 0), (213014, 0), (213015, 0), (213016, 0), (213017, 0), (213018, 0), (213019, 0), (213020, 0), (213021, 0), (213022, 0)])
noncomputable def zpfcl0_44_a : zyPh := (0, [11, 34359738369, 68719476737, 13], [(0, 4294967295), (2147483652, 2147483652), (2147483652, 2147483652), (0, 4294967295)], [], [])
noncomputable def zpfcl0_44 (i : Nat) : zyPh := zpfcl0_44_a
noncomputable def zXfcl0_44 (i : Nat) : List zyXp := []
noncomputable def zRfcl0_44 (i : Nat) : List zyXp := [zxfcl0_44_ar0]
noncomputable def zFfcl0_44 (i : Nat) : zyR := [(1, 5, 5), (1, 8, 8), (2, 0, 3), (3, 0, 63), (4, 0, 63), (5, 0, 63), (6, 0, 63), (7, 0, 63), (8, 0, 30), (9, 0, 30), (10, 0, 30), (11, 0, 30), (12, 0, 30), (13, 0, 30), (16, 1, 1)]
noncomputable def zSfcl0_44 (i : Nat) : Nat := 0
theorem zyfcl0_44_geo : xgeoB0 (zxfcl0_44_ar0).2.2.2.2.2 4 4 = true := by decide +kernel
noncomputable def fpfcl0_44 : zyR := [(1, 5, 5), (1, 8, 8), (2, 0, 3), (3, 0, 79), (4, 0, 79), (5, 0, 79), (6, 0, 79), (7, 0, 79), (8, 0, 30), (9, 0, 30), (10, 0, 30), (11, 0, 30), (12, 0, 30), (13, 0, 30), (16, 1, 1)]
theorem zyfcl0_44_run : zyrS zymc zxi31 (31, 0, 0, 0, 0) 3 zpfcl0_44 (fun _ _ => []) zFfcl0_44 zSfcl0_44 zXfcl0_44 zRfcl0_44 1 = true := by decide +kernel
theorem zyfcl0_44_ck : zyAll (fun i => xsubR (zFfcl0_44 i) fpfcl0_44 && ((zXfcl0_44 i).all xckX && (zRfcl0_44 i).all (fun x => xckX x && xrtB false x))) 1 = true := by decide +kernel
def xIfcl0_44 (i : Nat) (x0 : Nat → Int) (E0 : zyEm) (v : Nat → Int) (E : zyEm) : Prop := (E = E0)
def xMfcl0_44 (i : Nat) (x0 : Nat → Int) (E0 : zyEm) (v : Nat → Int) (E : zyEm) : Nat := (0)
theorem xCl0_44 {l : Launch} {en : zEn} {me : zMe} (hen : zG zxMeta 31 = some en) (hme : zG zMeth 31 = some me) : xFc l zymc en me 3 [1] 2 fpfcl0_44 false (xΦcl0_ (4, 4)) xΨcl0 := by
  have een : zG zxMeta 31 = some (zxi31, 3, 4, 3, 31, 0, 0, 0, 0) := rfl
  obtain ⟨me1, hme1, hOK⟩ := zall hen
  rw [hme] at hme1
  cases hme1
  rw [een] at hen
  cases hen
  have hr := zyfcl0_44_run
  have hck := fun i hi => zyAll_iff zyfcl0_44_ck i hi
  simp only [Bool.and_eq_true] at hck
  intro B
  refine xcut (mi := zymc) (B := B) hOK rfl rfl (ι := Fin 1) (fun i => zpfcl0_44 i.val) (fun _ _ => []) (fun i => zFfcl0_44 i.val) (fun i => zSfcl0_44 i.val) (fun i => zXfcl0_44 i.val) (fun i => zRfcl0_44 i.val) (fun i y2 ct en2 me2 h => by cases h) 200000 (fun i => zyAll_iff hr i.val i.isLt) (fun i => (hck i.val i.isLt).1) (fun i => (hck i.val i.isLt).2.1) (fun i => (hck i.val i.isLt).2.2) ⟨0, by decide⟩ ⟨rfl, rfl, rfl, rfl⟩ ⟨by decide, by decide⟩ (fun i x0 E0 v E => xIfcl0_44 i.val x0 E0 v E) (fun i x0 E0 v E => xMfcl0_44 i.val x0 E0 v E) ?_ ?_ ?_
  · intro x0 E hx0 hT hΦ
    have hΦ : (xΦcl0_ (4, 4)) x0 E := hΦ
    refine ⟨fun k p hp => ?_, ?_⟩
    · have hk : k < 4 := (List.getElem?_eq_some_iff.mp hp).1
      have hk : k = 0 ∨ k = 1 ∨ k = 2 ∨ k = 3 := by omega
      rcases hk with rfl | rfl | rfl | rfl
      · have hp : some (0, 4294967295) = some p := hp
        cases hp
        show ((0 : Nat) : Int) ≤ 0 + 2147483648 ∧ 0 + 2147483648 ≤ ((4294967295 : Nat) : Int)
        omega
      · have hp : some (2147483652, 2147483652) = some p := hp
        cases hp
        show ((2147483652 : Nat) : Int) ≤ x0 0 + 2147483648 ∧ x0 0 + 2147483648 ≤ ((2147483652 : Nat) : Int)
        have hx := hx0 0
        have hP1 : x0 0 = ((4 : Nat) : Int) := hΦ.1
        have hP2 : x0 1 = ((4 : Nat) : Int) := hΦ.2
        omega
      · have hp : some (2147483652, 2147483652) = some p := hp
        cases hp
        show ((2147483652 : Nat) : Int) ≤ x0 1 + 2147483648 ∧ x0 1 + 2147483648 ≤ ((2147483652 : Nat) : Int)
        have hx := hx0 1
        have hP1 : x0 0 = ((4 : Nat) : Int) := hΦ.1
        have hP2 : x0 1 = ((4 : Nat) : Int) := hΦ.2
        omega
      · have hp : some (0, 4294967295) = some p := hp
        cases hp
        show ((0 : Nat) : Int) ≤ x0 2 + 2147483648 ∧ x0 2 + 2147483648 ≤ ((4294967295 : Nat) : Int)
        have hx := hx0 2
        omega
    · show E = E
      rfl
  · intro x0 s Wg hRu hrx hT0 hΦ i v H hT hrv hInv hKc hFr0 hIH x hx ρ2 v2 N2 H2 locs lsB stA hAt hB hv hr2 hXs hag hfr hFr hT2
    rcases i with ⟨i, hi⟩
    have hi2 : i = 0 := by omega
    rcases hi2 with rfl
    · cases hx
  · intro x0 E0 E E2 hrx hT0 hΦ i v hT hrv hInv hKc hFr0 x hx v2 hr2 hXs hag hfr hFr hT2
    rcases i with ⟨i, hi⟩
    have hi2 : i = 0 := by omega
    rcases hi2 with rfl
    · have hx : x ∈ [zxfcl0_44_ar0] := hx
      have hag : ∀ k, k < 4 → v2 k = v k := hag
      have hfr : xFr [(1, 5, 5), (1, 8, 8), (2, 0, 3), (3, 0, 63), (4, 0, 63), (5, 0, 63), (6, 0, 63), (7, 0, 63), (8, 0, 30), (9, 0, 30), (10, 0, 30), (11, 0, 30), (12, 0, 30), (13, 0, 30), (16, 1, 1)] _ _ := hfr
      have ex := List.mem_singleton.mp hx
      subst ex
      obtain ⟨hF, hBd, hM⟩ := hXs
      have g1 : v2 1 = v 1 := hag 1 (by decide)
      have g2 : v2 2 = v 2 := hag 2 (by decide)
      have b0 : ((2147483652 : Nat) : Int) ≤ (v2 1) + 2147483648 ∧ (v2 1) + 2147483648 ≤ ((2147483652 : Nat) : Int) := xXb hBd 0 rfl
      have b1 : ((2147483652 : Nat) : Int) ≤ (v2 2) + 2147483648 ∧ (v2 2) + 2147483648 ≤ ((2147483652 : Nat) : Int) := xXb hBd 1 rfl
      have m0 : xE E2 2 0 = (v2 1) := xXm hM 0 rfl
      have m1 : xE E2 2 1 = (v2 2) := xXm hM 1 rfl
      have hI : E = E0 := hInv
      show xΨcl0 x0 E0 E2 0
      have hP := hΦ
      have hP1 : x0 0 = ((4 : Nat) : Int) := hP.1
      have hP2 : x0 1 = ((4 : Nat) : Int) := hP.2
      unfold xΨcl0
      rw [hP1, hP2]
      obtain ⟨A, G⟩ := xGeo0_of hM (by decide) (by decide) (by decide) (by decide) (by decide) (by decide) zyfcl0_44_geo (by omega) (by omega) (by decide +kernel) (by decide +kernel)
      subst hI
      exact ⟨A, G, xJk0_of (by decide) (by decide) (by decide) (by decide) (by decide) G (fun i h1 h2 => by
        have h1 : ((64 : Nat) : Int) ≤ i := h1
        exact ⟨xFr_E hfr (xin_no (lo := 64) (by decide) (by omega)), xFr_E hfr (xin_no (lo := 64) (by decide) (by omega))⟩)⟩
noncomputable def zxfcl0_45_ar0 : zyXp := (0, [], [], [], [(34359738369, 2147483652, 2147483652), (68719476737, 2147483653, 2147483653)], [(32768, 34359738369), (32769, 68719476737), (32770, 640), (32771, 248), (16389, 0), (16392, 0), (262145, 0), (49152, 8), (49153, 16), (49154, 24), (49155, 0), (49156, 56), (49157, 32), (49158, 40), (49159, 48), (49160, 72), (49161, 80), (49162, 88), (49163, 64), (49164, 120), (49165, 96), (49166, 104), (49167, 112), (49168, 136), (49169, 144), (49170, 152), (49171, 128), (49172, 184), (49173, 160), (49174, 168), (49175, 176), (49176, 200), (49177, 208), (49178, 216), (49179, 192), (49180, 248), (49181, 224), (49182, 232), (49183, 240), (49184, 264), (49185, 272), (49186, 280), (49187, 256), (49188, 312), (49189, 288), (49190, 296), (49191, 304), (49192, 328), (49193, 336), (49194, 344), (49195, 320), (49196, 376), (49197, 352), (49198, 360), (49199, 368), (49200, 392), (49201, 400), (49202, 408), (49203, 384), (49204, 440), (49205, 416), (49206, 424), (49207, 432), (49208, 456), (49209, 464), (49210, 472), (49211, 448), (49212, 504), (49213, 480), (49214, 488), (49215, 496), (49216, 520), (49217, 528), (49218, 536), (49219, 512), (49220, 568), (49221, 544), (49222, 552), (49223, 560), (49224, 584), (49225, 592), (49226, 600), (49227, 576), (49228, 632), (49229, 608), (49230, 616), (49231, 624), (65536, 34359738360), (65537, 56), (65538, 160), (65539, 34359738360), (65540, 34359738360), (65541, 88), (65542, 192), (65543, 8), (65544, 34359738360), (65545, 120), (65546, 224), (65547, 40), (65548, 34359738360), (65549, 152), (65550, 256), (65551, 72), (65552, 34359738360), (65553, 34359738360), (65554, 288), (65555, 104), (65556, 16), (65557, 216), (65558, 320), (65559, 34359738360), (65560, 48), (65561, 248), (65562, 352), (65563, 168), (65564, 80), (65565, 280), (65566, 384), (65567, 200), (65568, 112), (65569, 312), (65570, 416), (65571, 232), (65572, 144), (65573, 34359738360), (65574, 448), (65575, 264), (65576, 176), (65577, 376), (65578, 480), (65579, 34359738360), (65580, 208), (65581, 408), (65582, 512), (65583, 328), (65584, 240), (65585, 440), (65586, 544), (65587, 360), (65588, 272), (65589, 472), (65590, 576), (65591, 392), (65592, 304), (65593, 34359738360), (65594, 608), (65595, 424), (65596, 336), (65597, 536), (65598, 34359738360), (65599, 34359738360), (65600, 368), (65601, 568), (65602, 34359738360), (65603, 488), (65604, 400), (65605, 600), (65606, 34359738360), (65607, 520), (65608, 432), (65609, 632), (65610, 34359738360), (65611, 552), (65612, 464), (65613, 34359738360), (65614, 34359738360), (65615, 584), (81920, 34359738360), (81921, 0), (81922, 128), (81923, 34359738360), (81924, 34359738360), (81925, 8), (81926, 136), (81927, 0), (81928, 34359738360), (81929, 16), (81930, 144), (81931, 8), (81932, 34359738360), (81933, 24), (81934, 152), (81935, 16), (81936, 34359738360), (81937, 34359738360), (81938, 160), (81939, 24), (81940, 128), (81941, 32), (81942, 168), (81943, 34359738360), (81944, 136), (81945, 40), (81946, 176), (81947, 32), (81948, 144), (81949, 48), (81950, 184), (81951, 40), (81952, 152), (81953, 56), (81954, 192), (81955, 48), (81956, 160), (81957, 34359738360), (81958, 200), (81959, 56), (81960, 168), (81961, 64), (81962, 208), (81963, 34359738360), (81964, 176), (81965, 72), (81966, 216), (81967, 64), (81968, 184), (81969, 80), (81970, 224), (81971, 72), (81972, 192), (81973, 88), (81974, 232), (81975, 80), (81976, 200), (81977, 34359738360), (81978, 240), (81979, 88), (81980, 208), (81981, 96), (81982, 34359738360), (81983, 34359738360), (81984, 216), (81985, 104), (81986, 34359738360), (81987, 96), (81988, 224), (81989, 112), (81990, 34359738360), (81991, 104), (81992, 232), (81993, 120), (81994, 34359738360), (81995, 112), (81996, 240), (81997, 34359738360), (81998, 34359738360), (81999, 120), (98304, 0), (98305, 8), (98306, 0), (98307, 34359738360), (98308, 16), (98309, 24), (98310, 16), (98311, 8), (98312, 32), (98313, 40), (98314, 32), (98315, 24), (98316, 48), (98317, 56), (98318, 48), (98319, 40), (98320, 64), (98321, 72), (98322, 64), (98323, 56), (98324, 0), (98325, 8), (98326, 0), (98327, 34359738360), (98328, 16), (98329, 24), (98330, 16), (98331, 8), (98332, 32), (98333, 40), (98334, 32), (98335, 24), (98336, 48), (98337, 56), (98338, 48), (98339, 40), (98340, 64), (98341, 72), (98342, 64), (98343, 56), (98344, 0), (98345, 8), (98346, 0), (98347, 34359738360), (98348, 16), (98349, 24), (98350, 16), (98351, 8), (98352, 32), (98353, 40), (98354, 32), (98355, 24), (98356, 48), (98357, 56), (98358, 48), (98359, 40), (98360, 64), (98361, 72), (98362, 64), (98363, 56), (98364, 0), (98365, 8), (98366, 0), (98367, 34359738360), (98368, 16), (98369, 24), (98370, 16), (98371, 8), (98372, 32), (98373, 40), (98374, 32), (98375, 24), (98376, 48), (98377, 56), (98378, 48), (98379, 40), (98380, 64), (98381, 72), (98382, 64), (98383, 56), (114688, 34359738360), (114689, 0), (114690, 8), (114691, 0), (114692, 34359738360), (114693, 0), (114694, 8), (114695, 0), (114696, 34359738360), (114697, 0), (114698, 8), (114699, 0), (114700, 34359738360), (114701, 0), (114702, 8), (114703, 0), (114704, 34359738360), (114705, 0), (114706, 8), (114707, 0), (114708, 8), (114709, 16), (114710, 24), (114711, 16), (114712, 8), (114713, 16), (114714, 24), (114715, 16), (114716, 8), (114717, 16), (114718, 24), (114719, 16), (114720, 8), (114721, 16), (114722, 24), (114723, 16), (114724, 8), (114725, 16), (114726, 24), (114727, 16), (114728, 24), (114729, 32), (114730, 40), (114731, 32), (114732, 24), (114733, 32), (114734, 40), (114735, 32), (114736, 24), (114737, 32), (114738, 40), (114739, 32), (114740, 24), (114741, 32), (114742, 40), (114743, 32), (114744, 24), (114745, 32), (114746, 40), (114747, 32), (114748, 40), (114749, 48), (114750, 56), (114751, 48), (114752, 40), (114753, 48), (114754, 56), (114755, 48), (114756, 40), (114757, 48), (114758, 56), (114759, 48), (114760, 40), (114761, 48), (114762, 56), (114763, 48), (114764, 40), (114765, 48), (114766, 56), (114767, 48), (131072, 8), (131073, 40), (131074, 72), (131075, 104), (131076, 168), (131077, 200), (131078, 232), (131079, 264), (131080, 328), (131081, 360), (131082, 392), (131083, 424), (131084, 488), (131085, 520), (131086, 552), (131087, 584), (131088, 16), (131089, 48), (131090, 80), (131091, 112), (131092, 144), (131093, 176), (131094, 208), (131095, 240), (131096, 272), (131097, 304), (131098, 336), (131099, 368), (131100, 400), (131101, 432), (131102, 464), (147456, 56), (147457, 88), (147458, 120), (147459, 152), (147460, 216), (147461, 248), (147462, 280), (147463, 312), (147464, 376), (147465, 408), (147466, 440), (147467, 472), (147468, 536), (147469, 568), (147470, 600), (147471, 632), (147472, 160), (147473, 192), (147474, 224), (147475, 256), (147476, 288), (147477, 320), (147478, 352), (147479, 384), (147480, 416), (147481, 448), (147482, 480), (147483, 512), (147484, 544), (147485, 576), (147486, 608), (163840, 0), (163841, 0), (163842, 0), (163843, 0), (163844, 0), (163845, 0), (163846, 0), (163847, 0), (163848, 0), (163849, 0), (163850, 0), (163851, 0), (163852, 0), (163853, 0), (163854, 0), (163855, 0), (163856, 0), (163857, 0), (163858, 0), (163859, 0), (163860, 0), (163861, 0), (163862, 0), (163863, 0), (163864, 0), (163865, 0), (163866, 0), (163867, 0), (163868, 0), (163869, 0), (163870, 0), (180224, 8), (180225, 8), (180226, 8), (180227, 8), (180228, 8), (180229, 8), (180230, 8), (180231, 8), (180232, 8), (180233, 8), (180234, 8), (180235, 8), (180236, 8), (180237, 8), (180238, 8), (180239, 8), (180240, 8), (180241, 8), (180242, 8), (180243, 8), (180244, 8), (180245, 8), (180246, 8), (180247, 8), (180248, 8), (180249, 8), (180250, 8), (180251, 8), (180252, 8), (180253, 8), (180254, 8), (196608, 0), (196609, 0), (196610, 0), (196611, 0), (196612, 0), (196613, 0), (196614, 0), (196615, 0), (196616, 0), (196617, 0), (196618, 0), (196619, 0), (196620, 0), (196621, 0), (196622, 0), (196623, 0), (196624, 0), (196625, 0), (196626, 0), (196627, 0), (196628, 0), (196629, 0), (196630, 0), (196631, 0), (196632, 0), (196633, 0), (196634, 0), (196635, 0), (196636, 0), (196637, 0), (196638, 0), (212992, 0), (212993, 0), (212994, 0), (212995, 0), (212996, 0), (212997, 0), (212998, 0), (212999, 0), (213000, 0), (213001, 0), (213002, 0), (213003, 0), (213004, 0), (213005, 0), (213006, 0), (213007, 0), (213008, 0), (213009, 0), (213010, 0), (213011, 0), (213012, 0), (213013, 0), (213014, 0), (213015, 0), (213016, 0), (213017, 0), (213018, 0), (213019, 0), (213020, 0), (213021, 0), (213022, 0)])
noncomputable def zpfcl0_45_a : zyPh := (0, [11, 34359738369, 68719476737, 13], [(0, 4294967295), (2147483652, 2147483652), (2147483653, 2147483653), (0, 4294967295)], [], [])
noncomputable def zpfcl0_45 (i : Nat) : zyPh := zpfcl0_45_a
noncomputable def zXfcl0_45 (i : Nat) : List zyXp := []
noncomputable def zRfcl0_45 (i : Nat) : List zyXp := [zxfcl0_45_ar0]
noncomputable def zFfcl0_45 (i : Nat) : zyR := [(1, 5, 5), (1, 8, 8), (2, 0, 3), (3, 0, 79), (4, 0, 79), (5, 0, 79), (6, 0, 79), (7, 0, 79), (8, 0, 30), (9, 0, 30), (10, 0, 30), (11, 0, 30), (12, 0, 30), (13, 0, 30), (16, 1, 1)]
noncomputable def zSfcl0_45 (i : Nat) : Nat := 0
theorem zyfcl0_45_geo : xgeoB0 (zxfcl0_45_ar0).2.2.2.2.2 4 5 = true := by decide +kernel
noncomputable def fpfcl0_45 : zyR := [(1, 5, 5), (1, 8, 8), (2, 0, 3), (3, 0, 79), (4, 0, 79), (5, 0, 79), (6, 0, 79), (7, 0, 79), (8, 0, 30), (9, 0, 30), (10, 0, 30), (11, 0, 30), (12, 0, 30), (13, 0, 30), (16, 1, 1)]
theorem zyfcl0_45_run : zyrS zymc zxi31 (31, 0, 0, 0, 0) 3 zpfcl0_45 (fun _ _ => []) zFfcl0_45 zSfcl0_45 zXfcl0_45 zRfcl0_45 1 = true := by decide +kernel
theorem zyfcl0_45_ck : zyAll (fun i => xsubR (zFfcl0_45 i) fpfcl0_45 && ((zXfcl0_45 i).all xckX && (zRfcl0_45 i).all (fun x => xckX x && xrtB false x))) 1 = true := by decide +kernel
def xIfcl0_45 (i : Nat) (x0 : Nat → Int) (E0 : zyEm) (v : Nat → Int) (E : zyEm) : Prop := (E = E0)
def xMfcl0_45 (i : Nat) (x0 : Nat → Int) (E0 : zyEm) (v : Nat → Int) (E : zyEm) : Nat := (0)
theorem xCl0_45 {l : Launch} {en : zEn} {me : zMe} (hen : zG zxMeta 31 = some en) (hme : zG zMeth 31 = some me) : xFc l zymc en me 3 [1] 2 fpfcl0_45 false (xΦcl0_ (4, 5)) xΨcl0 := by
  have een : zG zxMeta 31 = some (zxi31, 3, 4, 3, 31, 0, 0, 0, 0) := rfl
  obtain ⟨me1, hme1, hOK⟩ := zall hen
  rw [hme] at hme1
  cases hme1
  rw [een] at hen
  cases hen
  have hr := zyfcl0_45_run
  have hck := fun i hi => zyAll_iff zyfcl0_45_ck i hi
  simp only [Bool.and_eq_true] at hck
  intro B
  refine xcut (mi := zymc) (B := B) hOK rfl rfl (ι := Fin 1) (fun i => zpfcl0_45 i.val) (fun _ _ => []) (fun i => zFfcl0_45 i.val) (fun i => zSfcl0_45 i.val) (fun i => zXfcl0_45 i.val) (fun i => zRfcl0_45 i.val) (fun i y2 ct en2 me2 h => by cases h) 200000 (fun i => zyAll_iff hr i.val i.isLt) (fun i => (hck i.val i.isLt).1) (fun i => (hck i.val i.isLt).2.1) (fun i => (hck i.val i.isLt).2.2) ⟨0, by decide⟩ ⟨rfl, rfl, rfl, rfl⟩ ⟨by decide, by decide⟩ (fun i x0 E0 v E => xIfcl0_45 i.val x0 E0 v E) (fun i x0 E0 v E => xMfcl0_45 i.val x0 E0 v E) ?_ ?_ ?_
  · intro x0 E hx0 hT hΦ
    have hΦ : (xΦcl0_ (4, 5)) x0 E := hΦ
    refine ⟨fun k p hp => ?_, ?_⟩
    · have hk : k < 4 := (List.getElem?_eq_some_iff.mp hp).1
      have hk : k = 0 ∨ k = 1 ∨ k = 2 ∨ k = 3 := by omega
      rcases hk with rfl | rfl | rfl | rfl
      · have hp : some (0, 4294967295) = some p := hp
        cases hp
        show ((0 : Nat) : Int) ≤ 0 + 2147483648 ∧ 0 + 2147483648 ≤ ((4294967295 : Nat) : Int)
        omega
      · have hp : some (2147483652, 2147483652) = some p := hp
        cases hp
        show ((2147483652 : Nat) : Int) ≤ x0 0 + 2147483648 ∧ x0 0 + 2147483648 ≤ ((2147483652 : Nat) : Int)
        have hx := hx0 0
        have hP1 : x0 0 = ((4 : Nat) : Int) := hΦ.1
        have hP2 : x0 1 = ((5 : Nat) : Int) := hΦ.2
        omega
      · have hp : some (2147483653, 2147483653) = some p := hp
        cases hp
        show ((2147483653 : Nat) : Int) ≤ x0 1 + 2147483648 ∧ x0 1 + 2147483648 ≤ ((2147483653 : Nat) : Int)
        have hx := hx0 1
        have hP1 : x0 0 = ((4 : Nat) : Int) := hΦ.1
        have hP2 : x0 1 = ((5 : Nat) : Int) := hΦ.2
        omega
      · have hp : some (0, 4294967295) = some p := hp
        cases hp
        show ((0 : Nat) : Int) ≤ x0 2 + 2147483648 ∧ x0 2 + 2147483648 ≤ ((4294967295 : Nat) : Int)
        have hx := hx0 2
        omega
    · show E = E
      rfl
  · intro x0 s Wg hRu hrx hT0 hΦ i v H hT hrv hInv hKc hFr0 hIH x hx ρ2 v2 N2 H2 locs lsB stA hAt hB hv hr2 hXs hag hfr hFr hT2
    rcases i with ⟨i, hi⟩
    have hi2 : i = 0 := by omega
    rcases hi2 with rfl
    · cases hx
  · intro x0 E0 E E2 hrx hT0 hΦ i v hT hrv hInv hKc hFr0 x hx v2 hr2 hXs hag hfr hFr hT2
    rcases i with ⟨i, hi⟩
    have hi2 : i = 0 := by omega
    rcases hi2 with rfl
    · have hx : x ∈ [zxfcl0_45_ar0] := hx
      have hag : ∀ k, k < 4 → v2 k = v k := hag
      have hfr : xFr [(1, 5, 5), (1, 8, 8), (2, 0, 3), (3, 0, 79), (4, 0, 79), (5, 0, 79), (6, 0, 79), (7, 0, 79), (8, 0, 30), (9, 0, 30), (10, 0, 30), (11, 0, 30), (12, 0, 30), (13, 0, 30), (16, 1, 1)] _ _ := hfr
      have ex := List.mem_singleton.mp hx
      subst ex
      obtain ⟨hF, hBd, hM⟩ := hXs
      have g1 : v2 1 = v 1 := hag 1 (by decide)
      have g2 : v2 2 = v 2 := hag 2 (by decide)
      have b0 : ((2147483652 : Nat) : Int) ≤ (v2 1) + 2147483648 ∧ (v2 1) + 2147483648 ≤ ((2147483652 : Nat) : Int) := xXb hBd 0 rfl
      have b1 : ((2147483653 : Nat) : Int) ≤ (v2 2) + 2147483648 ∧ (v2 2) + 2147483648 ≤ ((2147483653 : Nat) : Int) := xXb hBd 1 rfl
      have m0 : xE E2 2 0 = (v2 1) := xXm hM 0 rfl
      have m1 : xE E2 2 1 = (v2 2) := xXm hM 1 rfl
      have hI : E = E0 := hInv
      show xΨcl0 x0 E0 E2 0
      have hP := hΦ
      have hP1 : x0 0 = ((4 : Nat) : Int) := hP.1
      have hP2 : x0 1 = ((5 : Nat) : Int) := hP.2
      unfold xΨcl0
      rw [hP1, hP2]
      obtain ⟨A, G⟩ := xGeo0_of hM (by decide) (by decide) (by decide) (by decide) (by decide) (by decide) zyfcl0_45_geo (by omega) (by omega) (by decide +kernel) (by decide +kernel)
      subst hI
      exact ⟨A, G, xJk0_of (by decide) (by decide) (by decide) (by decide) (by decide) G (fun i h1 h2 => by
        have h1 : ((80 : Nat) : Int) ≤ i := h1
        exact ⟨xFr_E hfr (xin_no (lo := 80) (by decide) (by omega)), xFr_E hfr (xin_no (lo := 80) (by decide) (by omega))⟩)⟩
theorem xCl0 {l : Launch} {en : zEn} {me : zMe} (hen : zG zxMeta 31 = some en) (hme : zG zMeth 31 = some me) : xFc l zymc en me 3 [1] 2 [(1, 5, 5), (1, 8, 8), (2, 0, 3), (3, 0, 79), (4, 0, 79), (5, 0, 79), (6, 0, 79), (7, 0, 79), (8, 0, 30), (9, 0, 30), (10, 0, 30), (11, 0, 30), (12, 0, 30), (13, 0, 30), (16, 1, 1)] false xΦcl0 xΨcl0 := by
  refine xFc_cases (ι := {q : Nat × Nat // (1 ≤ q.1 ∧ q.1 ≤ 4) ∧ 1 ≤ q.2 ∧ q.2 ≤ 5}) (Φi := fun q => xΦcl0_ q.1) (fun q => ?_) (fun x E hx h => ⟨⟨((x 0).toNat, (x 1).toNat), ⟨by have := h.1; have := h.2.1; omega, by have := h.2.1; omega⟩, by have := h.2.2.1; omega, by have := h.2.2.2; omega⟩, by have h0 := h.1; show x 0 = (((x 0).toNat : Nat) : Int); omega, by have h0 := h.2.2.1; show x 1 = (((x 1).toNat : Nat) : Int); omega⟩)
  obtain ⟨⟨r, c⟩, ⟨r1, r2⟩, c1, c2⟩ := q
  have r1 : 1 ≤ r := r1
  have r2 : r ≤ 4 := r2
  have c1 : 1 ≤ c := c1
  have c2 : c ≤ 5 := c2
  have hr : r = 1 ∨ r = 2 ∨ r = 3 ∨ r = 4 := by omega
  have hc : c = 1 ∨ c = 2 ∨ c = 3 ∨ c = 4 ∨ c = 5 := by omega
  rcases hr with rfl | rfl | rfl | rfl <;> rcases hc with rfl | rfl | rfl | rfl | rfl
  · exact xCl0_11 hen hme
  · exact xCl0_12 hen hme
  · exact xCl0_13 hen hme
  · exact xCl0_14 hen hme
  · exact xCl0_15 hen hme
  · exact xCl0_21 hen hme
  · exact xCl0_22 hen hme
  · exact xCl0_23 hen hme
  · exact xCl0_24 hen hme
  · exact xCl0_25 hen hme
  · exact xCl0_31 hen hme
  · exact xCl0_32 hen hme
  · exact xCl0_33 hen hme
  · exact xCl0_34 hen hme
  · exact xCl0_35 hen hme
  · exact xCl0_41 hen hme
  · exact xCl0_42 hen hme
  · exact xCl0_43 hen hme
  · exact xCl0_44 hen hme
  · exact xCl0_45 hen hme
