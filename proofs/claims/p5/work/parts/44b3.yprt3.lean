/-! THE PRINTER: texts, numbers -/
theorem zyaddB {X : zyX} {i c : Nat} {x z : Int32} (hx : zyρ X i = x) (hz : zyV X (Nat.add (zysym i) (Nat.mul 8 c)) (.int z)) (hb : zB x + c < 4294967296) (hc : c < 2147483648) : zB z = zB x + c := by
  have hz : zyV X (i * 34359738368 + 1 + 8 * c) (.int z) := hz
  have e := Value.int.inj (zv_1 (zyv_zv hz (by omega) (by omega)) (by omega))
  rw [show (i * 34359738368 + 1 + 8 * c) / 34359738368 = i by omega, show (i * 34359738368 + 1 + 8 * c) / 8 % 4294967296 = c by omega] at e
  have e : z = zyρ X i + Int32.ofNat c := e
  rw [hx] at e
  have e2 : zB (Int32.ofNat c) = c + 2147483648 := zB_nI hc
  rw [e, zB_add2 (by omega) (by omega), e2]
  omega
/-- so many more than a symbol -/
noncomputable def zyisp (w : zW) (i c cd : Nat) : Bool := zif (Nat.beq cd (Nat.add (zysym i) (Nat.mul 8 c))) true (zand (Nat.beq (Nat.mod cd 8) 0) (zbd w (zysym i) (fun lo hi => zand (Nat.beq lo hi) (zand (Nat.beq (Nat.add (Nat.div cd 8) 2147483648) (Nat.add lo c)) (Nat.ble (Nat.add lo c) 4294967295)))))
theorem zyisp_iff {X : zyX} {w : zW} {i c cd : Nat} {x z : Int32} (h : zyisp w i c cd = true) (hE : zEnv (zyρ X) w.2) (hi : i < zyN X) (hx : zyρ X i = x) (hz : zyV X cd (.int z)) (hb : zB x + c < 4294967296) (hc : c < 2147483648) : zB z = zB x + c := by
  unfold zyisp at h
  rcases zif_iff h with ⟨h1, -⟩ | ⟨-, h2⟩
  · have e := zbeqT h1
    subst e
    exact zyaddB hx hz hb hc
  · obtain ⟨g1, g2⟩ := zand_iff h2
    have g1 : cd % 8 = 0 := zbeqT g1
    obtain ⟨x2, lo, hi2, e2, c1, c2, hk⟩ := zybd_iff g2 hE (zyv_sym (ad := zad (zyb X)) hi hx)
    have e2 := Value.int.inj e2
    subst e2
    obtain ⟨k1, k2⟩ := zand_iff hk
    obtain ⟨k2, k3⟩ := zand_iff k2
    have k1 := zbeqT k1
    have k2 : cd / 8 + 2147483648 = lo + c := zbeqT k2
    have k3 : lo + c ≤ 4294967295 := zbleT k3
    have e := Value.int.inj (zyv_0 hz g1)
    rw [e, show zB (Int32.ofNat (cd / 8)) = cd / 8 + 2147483648 from zB_nI (by omega)]
    omega
theorem zyc_iff {ρ : Nat → Int32} {N : Nat} {ad : Nat → Nat} {lo hi : Nat} {x : Int32} (hh : hi < 2147483648) (h : zyv ρ N ad (zyc lo hi) (.int x)) : lo + 2147483648 ≤ zB x ∧ zB x ≤ hi + 2147483648 := by
  have h : zyv ρ N ad (8 * ((lo + 2147483648) * 4294967296 + (hi + 2147483648)) + 2) (.int x) := h
  obtain ⟨x2, e, b1, b2⟩ := zv_2 (zyv_zv h (by omega) (by omega)) (by omega)
  have e := Value.int.inj e
  subst e
  exact ⟨by omega, by omega⟩
noncomputable def zyκT (i : Nat) : zyKt := (0, 4, [299, Nat.add (Nat.mul 8 (Nat.add 100000 i)) 3, 13], [(0, 4294967295), (0, 4294967295), (0, 4294967295), (2147483648, 2147573648)], [(606210, zysym 3)], [])
noncomputable def zychT (len : Nat) : zW → List zyF → Nat → Bool := fun w _ cd => zyisp w 3 len cd
noncomputable def zyrunTx (i len : Nat) : Bool := zand (zywf 3 (zyκT i)) (zand (zyok (fun w v m => zand (zyfitM w zymc m.1) (zand (zypre w zymc m.1 []) (zand (zynil v) (zylk false (fun cd => zand (Nat.ble (Nat.mod cd 8) 2) (zychT len w m.2 cd)) 606210 m.1)))) (zymc, fun _ => [], zyfw, zydc, 0) zystop0 200000 ((zyκT i).2.1, (zyκT i).2.2.2.1) zxi53 (53, 0, 0, 0, 0) (zyκT i).1 (zyκT i).2.2.1 [] (6, 0, 0) [] ((zyκT i).2.2.2.2.1, []))
  (zpad 3 (zexp (299 :: [Nat.add (Nat.mul 8 (Nat.add 100000 i)) 3])) (fun l2 => zyincl (zymc, fun _ => [], zyfw, zydc, 0) 3 (0, []) l2 [(606210, zyc 0 90000)] (zyκT i))))
theorem zyrunTx_all : zand (zyrunTx 9 4) (zand (zyrunTx 10 1) (zand (zyrunTx 11 6) (zand (zyrunTx 12 6) (zand (zyrunTx 13 5) (zand (zyrunTx 14 6) (zand (zyrunTx 15 6) (zand (zyrunTx 16 4) (zand (zyrunTx 17 5) (zand (zyrunTx 18 4) (zyrunTx 19 2)))))))))) = true := by decide +kernel
noncomputable def zyctT (i len : Nat) : zyCt := (299 :: [Nat.add (Nat.mul 8 (Nat.add 100000 i)) 3], zyfw, [34359738362, Nat.add 300 len, 606210], 6, [(606210, zyc 0 90000)], [])
theorem zyno {l : Launch} {P : zyP} {J : zyJt} (h : P.2.1 = fun _ => []) : zyCons l P J := by
  intro y2 ct en2 me2 hct
  rw [h] at hct
  cases hct
theorem zytext {l : Launch} {i len : Nat} (hr : zyrunTx i len = true) (hl : ¬ len = 3) (hl6 : len ≤ 6) {en : zEn} {me : zMe} (hen : zG zxMeta 53 = some en) (hme : zG zMeth 53 = some me) : zyCon l zymc zyJc en me (zyctT i len) := by
  have een : zG zxMeta 53 = some (zxi53, 2, 3, 4, 53, 0, 0, 0, 0) := rfl
  rw [een] at hen
  cases hen
  obtain ⟨q1, q2⟩ := zand_iff hr
  obtain ⟨q2, q3⟩ := zand_iff q2
  refine zyonek (κ0 := zyκT i) (chk := zychT len) (C := fun _ => []) (pcode := zyc 0 90000) (id := 300 + len) een hme rfl rfl (zyno rfl) rfl rfl q1 q2 q3 (Nat.lt_succ_self _) ?_
  intro X w F cd x z A hJ hA hE hF hx hN _ hch hz hp
  have hb := zyc_iff (by decide) hp
  exact Or.inr (Or.inr (Or.inr (Or.inr (Or.inl ⟨by omega, by omega, by rw [zyisp_iff hch hE hN hx hz (by omega) (by omega)]; omega⟩))))
noncomputable def zyκN : zyKt := (0, 3, [299, zysym 1], [(0, 4294967295), (2147483648, 2147483747), (2147483648, 2147573648)], [(606210, zysym 2)], [])
noncomputable def zychN : zW → List zyF → Nat → Bool := fun w _ cd => zbd w (zysym 1) (fun lo hi => zif (Nat.ble hi 2147483657) (zyisp w 2 2 cd) (zif (Nat.ble 2147483658 lo) (zyisp w 2 3 cd) false))
theorem zyrunN : zand (zywf 2 zyκN) (zand (zyok (fun w v m => zand (zyfitM w zymc m.1) (zand (zypre w zymc m.1 []) (zand (zynil v) (zylk false (fun cd => zand (Nat.ble (Nat.mod cd 8) 2) (zychN w m.2 cd)) 606210 m.1)))) (zymc, fun _ => [], zyfw, zydc, 0) zystop0 200000 (zyκN.2.1, zyκN.2.2.2.1) zxi54 (54, 0, 0, 0, 0) zyκN.1 zyκN.2.2.1 [] (4, 0, 0) [] (zyκN.2.2.2.2.1, []))
  (zpad 2 (zexp (299 :: [zyc 0 99])) (fun l2 => zyincl (zymc, fun _ => [], zyfw, zydc, 0) 2 (0, []) l2 [(606210, zyc 0 90000)] zyκN))) = true := by decide +kernel
noncomputable def zyctN : zyCt := (299 :: [zyc 0 99], zyfw, [34359738362, 303, 606210], 4, [(606210, zyc 0 90000)], [])
theorem zynumber {l : Launch} {en : zEn} {me : zMe} (hen : zG zxMeta 54 = some en) (hme : zG zMeth 54 = some me) : zyCon l zymc zyJc en me zyctN := by
  have een : zG zxMeta 54 = some (zxi54, 2, 2, 4, 54, 0, 0, 0, 0) := rfl
  rw [een] at hen
  cases hen
  obtain ⟨q1, q2⟩ := zand_iff zyrunN
  obtain ⟨q2, q3⟩ := zand_iff q2
  refine zyonek (κ0 := zyκN) (chk := zychN) (C := fun _ => []) (pcode := zyc 0 90000) (id := 303) een hme rfl rfl (zyno rfl) rfl rfl q1 q2 q3 (Nat.lt_succ_self _) ?_
  intro X w F cd x z A hJ hA hE hF hx hN h1 hch hz hp
  have hb := zyc_iff (by decide) hp
  obtain ⟨b0, t0, eA, -, hA1⟩ := zySt_c hA
  obtain ⟨b1, t1, e1, hA1, -⟩ := zySt_c hA1
  obtain ⟨y, rfl⟩ := zyv_int hA1 (by decide)
  subst e1
  have hy := h1 y (by rw [eA]; rfl) (by decide)
  have ey : zyAi A 1 = y := by
    unfold zyAi
    rw [eA]
    rfl
  rw [ey]
  have hs : zyV X (zysym 1) (.int y) := zyv_sym (Nat.lt_of_lt_of_le (by decide) (Nat.le_of_lt hN)) hy
  obtain ⟨y2, lo, hi, e2, c1, c2, hk⟩ := zybd_iff hch hE hs
  have e2 := Value.int.inj e2
  subst e2
  refine Or.inr (Or.inr (Or.inr (Or.inr (Or.inr ⟨rfl, ?_⟩))))
  rcases zif_iff hk with ⟨k1, k2⟩ | ⟨-, k2⟩
  · have k1 := zbleT k1
    rw [zyNm_lo (by omega), zyisp_iff k2 hE hN hx hz (by omega) (by omega)]
  · rcases zif_iff k2 with ⟨k3, k4⟩ | ⟨-, k4⟩
    · have k3 := zbleT k3
      rw [zyNm_hi (by omega), zyisp_iff k4 hE hN hx hz (by omega) (by omega)]
    · cases k4
