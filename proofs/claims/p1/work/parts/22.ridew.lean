theorem zenv_mk {ρ : Nat → Int32} {p0 p1 p2 p3 p4 p5 : Nat × Nat} (h0 : p0.1 ≤ zB (ρ 0) ∧ zB (ρ 0) ≤ p0.2) (h1 : p1.1 ≤ zB (ρ 1) ∧ zB (ρ 1) ≤ p1.2) (h2 : p2.1 ≤ zB (ρ 2) ∧ zB (ρ 2) ≤ p2.2) (h3 : p3.1 ≤ zB (ρ 3) ∧ zB (ρ 3) ≤ p3.2) (h4 : p4.1 ≤ zB (ρ 4) ∧ zB (ρ 4) ≤ p4.2) (h5 : p5.1 ≤ zB (ρ 5) ∧ zB (ρ 5) ≤ p5.2) : zEnv ρ [p0, p1, p2, p3, p4, p5] := by
  intro k q h
  match k, h with
  | 0, h => cases h; exact h0
  | 1, h => cases h; exact h1
  | 2, h => cases h; exact h2
  | 3, h => cases h; exact h3
  | 4, h => cases h; exact h4
  | 5, h => cases h; exact h5
  | k + 6, h => simp at h
theorem zfull (x : Int32) : 0 ≤ zB x ∧ zB x ≤ 4294967295 := by
  have := zB_lt x
  exact ⟨Nat.zero_le _, by omega⟩
/-- an int of a known size -/
theorem zB_nI {x : Int32} {n : Nat} (h : zB x = 2147483648 + n) (hn : n < 2147483648) : x = nI n := by
  have e := zb_B x
  rw [← e, h]
  show Int32.ofNat (zb (2147483648 + n)) = Int32.ofNat n
  have e2 : (2147483648 + n + 2147483648) % 4294967296 = n := by omega
  rw [zb_def, e2]
theorem zsym {X : zCx} {i v : Nat} {w : Value} (hv : v = 34359738368 * i + 1) (h : zV X v w) : w = .int (zρ X i) := by
  subst hv
  have e := zv_1 h (by omega)
  have e1 : (34359738368 * i + 1) / 34359738368 = i := by omega
  have e2 : (34359738368 * i + 1) / 8 % 4294967296 = 0 := by omega
  rw [e1, e2] at e
  rw [e]
  congr 1
  exact Int32.add_zero _
theorem zsym_mk {X : zCx} {i v : Nat} (hv : v = 34359738368 * i + 1) : zV X v (.int (zρ X i)) := by
  subst hv
  refine Or.inr (Or.inl ⟨by omega, ?_⟩)
  have e1 : (34359738368 * i + 1) / 34359738368 = i := by omega
  have e2 : (34359738368 * i + 1) / 8 % 4294967296 = 0 := by omega
  rw [e1, e2]
  congr 1
  exact (Int32.add_zero _).symm
theorem zrd1 : decode cX10_ride 73 = .ok (.irem, 1) ∧ decode cX11_ride 57 = .ok (.if_icmp .ge 21, 3) ∧ decode code 856 = .ok (.invokevirtual 107, 3) ∧ decode code 875 = .ok (.invokevirtual 110, 3) := by decide +kernel
theorem zrd2 : zwd 4149 = some (.methodLink R_law 107 yX10_ride) ∧ zwd 8086 = some (.methodLink R_law 110 yX11_ride) := by decide +kernel
theorem zrd3 : ∀ a, a < 4 → zexp [3, 8 * a, 68719476737, 103079215105] = [3, 8 * a, 68719476737, 103079215105] ∧ zexp [595, 8 * a, 68719476737, 103079215105] = [595, 8 * a, 68719476737, 103079215105] := by decide +kernel
/-- the class's ride -/
theorem zrideX {l : Launch} {X : zCx} (hL : zLn X = 6) {a N : Nat} (ha : a < 4) (hN : N ≤ 10000) (h1 : zρ X 1 = nI a) (h3 : zρ X 3 = nI N) (hE : zEnv (zρ X) zeR) {AsV : List Value} (hA : zSt X [3, 34359738369, 68719476737, 103079215105] AsV) :
    Met l zme141.1 [Cond.code zme141.1 zme141.2.1 zen141.2.2.1 zme141.2.2.1] { frames := 999, cells := zen141.2.2.2.2.2.1, slots := zen141.2.2.2.2.2.2.1, locals := 64 * 999 } (va_Pc AsV (fun U => zKn X U ∧ zMem X U (88, zeR).1 zM0 U.heap)) (zQc X (fun w v m => zbtX ((a + N) % 4) w v m = true)) zen141.2.2.2.2.2.1 zen141.2.2.2.2.2.2.1 (fun q => zbs X ≤ q) := by
  obtain ⟨v0, As0, rfl, g0, hA⟩ := zSt_c hA
  obtain ⟨v1, As1, rfl, g1, hA⟩ := zSt_c hA
  have e1 := zsym (i := 1) rfl g1
  rw [h1] at e1
  have hA2 : zSt X [3, 8 * a, 68719476737, 103079215105] (v0 :: v1 :: As1) := ⟨g0, by rw [e1]; exact zv_mk rfl, hA⟩
  have hz := (zrd3 a ha).1
  refine zmetB (w := (88, zeR)) (l2 := [3, 8 * a, 68719476737, 103079215105, 13, 13, 13, 13]) (m := zM0) zm141 hE hA2 rfl (by rw [hz]; show 4 ≤ 8; decide) (fun i c hc => ?_) ?_
  · rw [hz]
    match i, hc with
    | 0, hc => cases hc; exact Or.inl rfl
    | 1, hc => cases hc; exact Or.inl rfl
    | 2, hc => cases hc; exact Or.inl rfl
    | 3, hc => cases hc; exact Or.inl rfl
    | 4, hc => cases hc; exact Or.inr rfl
    | 5, hc => cases hc; exact Or.inr rfl
    | 6, hc => cases hc; exact Or.inr rfl
    | 7, hc => cases hc; exact Or.inr rfl
    | i + 8, hc => simp at hc
  · intro p e s mt below meth c lsA hK hF hR
    have hr : N % 4 < 4 := Nat.mod_lt _ (by decide)
    have hF1 := hF zbtN X rfl hK (fun _ _ _ _ _ h => by cases h)
    have hF2 := hF (zbtX ((a + N % 4) % 4)) X rfl hK (fun t w v m vo hbt hE2 hM hvo hWm => ⟨w, v, m, vo, rfl, hvo, hK.warm hWm, hM.moved hWm.alike, hE2, by
      have e : (a + N) % 4 = (a + N % 4) % 4 := by omega
      rw [e]
      exact hbt⟩)
    refine zrunB (stop := zstX a (N % 4)) (zstX_no _ _) zm141 hF1 (n := 20000) (by rw [hL]; exact zr_x a ha (N % 4) hr) hR (fun w pc ls st q m H locs lsB stA hs hR2 => ?_)
    obtain ⟨rfl, rfl, hz2⟩ := zstX_iff hs
    obtain ⟨x4, stB, rfl, q1, hS2⟩ := zSt_c hR2.2.2.2.2.1
    obtain ⟨xn, stC, rfl, q2, hS3⟩ := zSt_c hS2
    have e4 := zSt_n hS3
    subst e4
    have e5 : x4 = .int 4 := zv_0 q1 (by decide)
    have e6 := zsym (i := 3) rfl q2
    rw [h3] at e6
    subst e5
    subst e6
    refine lv_irem hF1.1.1 hF1.1.2.1 zrd1.1 (by decide) ?_
    have e7 : nI N - nI N / 4 * 4 = nI (N % 4) := pk_rem (a := N) (d := 4) (by omega) (by omega) (by omega)
    rw [e7]
    refine zrunB (st := [8 * (N % 4)]) (stop := zstop0) (fun _ _ _ _ _ _ _ _ _ _ => rfl) zm141 hF2 (n := 20000) (by rw [hL]; exact hz2) ⟨hR2.1, hR2.2.1, hR2.2.2.1, hR2.2.2.2.1, ⟨zv_mk rfl, trivial⟩, hR2.2.2.2.2.2⟩ (fun _ _ _ _ _ _ _ _ _ _ h _ => by cases h)
theorem zset6_2 (X : zCx) (k k2 : Int32) : zset6 (zset6 X k) k2 = zset6 X k2 := by
  unfold zset6
  congr 1
  funext j
  by_cases h : j = 6
  · rw [if_pos h, if_pos h]
  · rw [if_neg h, if_neg h]
    show (if j = 6 then k else X.1 j) = X.1 j
    rw [if_neg h]
theorem zLs_re {X X2 : zCx} {nL : Nat} {ls ls2 : List Nat} {lsA : Array Slot} (h : zLs X nL ls lsA) (hl : ls2.length = nL) (hm : ∀ i c2 : Nat, ls2[i]? = some c2 → ¬ c2 = 13 → ∃ c : Nat, ls[i]? = some c ∧ ¬ c = 13 ∧ ∀ w, zV X c w → zV X2 c2 w) : zLs X2 nL ls2 lsA :=
  ⟨hl, h.2.1, h.2.2.1, fun i c2 hc hn => by
    obtain ⟨c, h1, h2, h3⟩ := hm i c2 hc hn
    obtain ⟨w, g1, g2⟩ := h.2.2.2 i c h1 h2
    exact ⟨w, g1, h3 w g2⟩⟩
theorem zenvS {X : zCx} {k : Nat} (hk : k ≤ 10000) (hE : zEnv (zρ X) zeR) : zEnv (zρ (zset6 X (nI k))) zeS := by
  intro j q h
  rcases Nat.lt_or_ge j 6 with hj | hj
  · have e : zρ (zset6 X (nI k)) j = zρ X j := by
      show (if j = 6 then nI k else X.1 j) = _
      rw [if_neg (by omega)]
    rw [e]
    refine hE j q ?_
    match j, h with
    | 0, h => exact h
    | 1, h => exact h
    | 2, h => exact h
    | 3, h => exact h
    | 4, h => exact h
    | 5, h => exact h
    | j + 6, h => omega
  · match j, h with
    | 6, h =>
      cases h
      have e : zρ (zset6 X (nI k)) 6 = nI k := rfl
      rw [e]
      have e2 : zB (nI k) = 2147483648 + k := by
        show zB (Int32.ofNat k) = _
        rw [zB_of, zb_def]
        omega
      rw [e2]
      exact ⟨Nat.le_add_right _ _, by show 2147483648 + k ≤ 2147493648; omega⟩
    | j + 7, h => exact absurd h (by simp [zeS])
    | 0, h => omega
    | 1, h => omega
    | 2, h => omega
    | 3, h => omega
    | 4, h => omega
    | 5, h => omega
/-- the reference's ride -/
theorem zrideY {l : Launch} {X : zCx} (hL : zLn X = 6) {a N : Nat} (ha : a < 4) (hN : N ≤ 10000) (h1 : zρ X 1 = nI a) (h3 : zρ X 3 = nI N) (hE : zEnv (zρ X) zeR) {AsV : List Value} (hA : zSt X [595, 34359738369, 68719476737, 103079215105] AsV) :
    Met l zme283.1 [Cond.code zme283.1 zme283.2.1 zen283.2.2.1 zme283.2.2.1] { frames := 999, cells := zen283.2.2.2.2.2.1, slots := zen283.2.2.2.2.2.2.1, locals := 64 * 999 } (va_Pc AsV (fun U => zKn X U ∧ zMem X U (88, zeR).1 zMref U.heap)) (zQc X (fun w v m => zbtV ((a + N) % 4) w v m = true)) zen283.2.2.2.2.2.1 zen283.2.2.2.2.2.2.1 (fun q => zbs X ≤ q) := by
  obtain ⟨v0, As0, rfl, g0, hA⟩ := zSt_c hA
  obtain ⟨v1, As1, rfl, g1, hA⟩ := zSt_c hA
  have e1 := zsym (i := 1) rfl g1
  rw [h1] at e1
  have hA2 : zSt X [595, 8 * a, 68719476737, 103079215105] (v0 :: v1 :: As1) := ⟨g0, by rw [e1]; exact zv_mk rfl, hA⟩
  have hz := (zrd3 a ha).2
  refine zmetB (w := (88, zeR)) (l2 := [595, 8 * a, 68719476737, 103079215105, 13, 13]) (m := zMref) zm283 hE hA2 rfl (by rw [hz]; show 4 ≤ 6; decide) (fun i c hc => ?_) ?_
  · rw [hz]
    match i, hc with
    | 0, hc => cases hc; exact Or.inl rfl
    | 1, hc => cases hc; exact Or.inl rfl
    | 2, hc => cases hc; exact Or.inl rfl
    | 3, hc => cases hc; exact Or.inl rfl
    | 4, hc => cases hc; exact Or.inr rfl
    | 5, hc => cases hc; exact Or.inr rfl
    | i + 6, hc => simp at hc
  · intro p e s mt below meth c lsA hK hF hR
    have hFN : ∀ k : Int32, zFc zbtN (zset6 X k) zen283 zme283 999 p l e { frames := 999, cells := zen283.2.2.2.2.2.1, slots := zen283.2.2.2.2.2.2.1, locals := 64 * 999 } s mt (v0 :: v1 :: As1).toArray below meth c (MQ below (zQc X (fun w v m => zbtV ((a + N) % 4) w v m = true)) (v0 :: v1 :: As1).toArray s zen283.2.2.2.2.2.1 zen283.2.2.2.2.2.2.1 (fun q => zbs X ≤ q)) :=
      fun k => hF zbtN (zset6 X k) rfl (hK.set6 (by omega)) (fun _ _ _ _ _ h => by cases h)
    have hFV : ∀ k : Int32, zFc (zbtV ((a + N) % 4)) (zset6 X k) zen283 zme283 999 p l e { frames := 999, cells := zen283.2.2.2.2.2.1, slots := zen283.2.2.2.2.2.2.1, locals := 64 * 999 } s mt (v0 :: v1 :: As1).toArray below meth c (MQ below (zQc X (fun w v m => zbtV ((a + N) % 4) w v m = true)) (v0 :: v1 :: As1).toArray s zen283.2.2.2.2.2.1 zen283.2.2.2.2.2.2.1 (fun q => zbs X ≤ q)) :=
      fun k => hF (zbtV ((a + N) % 4)) (zset6 X k) rfl (hK.set6 (by omega)) (fun t w v m vo hbt hE2 hM hvo hWm => by
        have ev : v = [8 * ((a + N) % 4)] := zeqL_iff (fun _ _ h => zbeqT h) (zand_iff hbt).1
        subst ev
        refine ⟨(w.1, []), [8 * ((a + N) % 4)], [], vo, rfl, ?_, hK.warm hWm, ⟨hM.1, hM.2.1, fun b cc hb => ?_, hM.2.2.2⟩, fun j q hj => by simp at hj, hbt⟩
        · cases vo with
          | none => exact hvo.elim
          | some x => exact zV_unset (k := k) (by omega) hvo
        · exact absurd hb (by simp [zG]))
    have loop : ∀ j k : Nat, k + j = N → ∀ (H : Heap) (locs : List Loc) (lsB : Array Slot) (stA : List Value), zRl (zset6 X (nI k)) s 6 (999, 0, 0) (88, zeS) [595, 13, 68719476737, 103079215105, 8 * ((a + k) % 4), 206158430209] [103079215105, 206158430209] (999, 0, 0) zMref H locs lsB stA →
        W p l e { frames := 999, cells := zen283.2.2.2.2.2.1, slots := zen283.2.2.2.2.2.2.1, locals := 64 * 999 } s mt (v0 :: v1 :: As1).toArray below meth c H locs 0 0 (MQ below (zQc X (fun w v m => zbtV ((a + N) % 4) w v m = true)) (v0 :: v1 :: As1).toArray s zen283.2.2.2.2.2.1 zen283.2.2.2.2.2.2.1 (fun q => zbs X ≤ q)) (F0 mt 57 lsB stA) := by
      intro j
      induction j with
      | zero =>
        intro k hk H locs lsB stA hR2
        obtain ⟨xn, stB, rfl, q1, hS2⟩ := zSt_c hR2.2.2.2.2.1
        obtain ⟨xk, stC, rfl, q2, hS3⟩ := zSt_c hS2
        have e4 := zSt_n hS3
        subst e4
        have e5 : xn = .int (zρ (zset6 X (nI k)) 3) := zsym (i := 3) rfl q1
        have e5b : zρ (zset6 X (nI k)) 3 = nI N := h3
        rw [e5b] at e5
        have e6 : xk = .int (nI k) := zsym (i := 6) rfl q2
        subst e5
        subst e6
        refine lv_icmp_ge (tgt := 78) (hFV (nI k)).1.1 (hFV (nI k)).1.2.1 zrd1.2.1 (by decide) (fun hle => ?_) (fun hnl => ?_)
        · have hv : (a + k) % 4 < 4 := Nat.mod_lt _ (by decide)
          have ekN : (a + N) % 4 = (a + k) % 4 := by rw [← hk, Nat.add_zero]
          refine zrunB (q := (999, 0, 0)) (st := []) (stop := zstop0) (fun _ _ _ _ _ _ _ _ _ _ => rfl) zm283 (hFV (nI k)) (n := 100) (by
            show zok (zbtV ((a + N) % 4)) (zLn X) _ _ _ _ _ _ _ _ _ _ _ = true
            rw [hL, ekN]
            exact zr_e ((a + k) % 4) hv) ⟨hR2.1, hR2.2.1, hR2.2.2.1, hR2.2.2.2.1, trivial, hR2.2.2.2.2.2⟩ (fun _ _ _ _ _ _ _ _ _ _ h _ => by cases h)
        · exfalso
          apply hnl
          rw [nI_leI (by omega) (by omega)]
          omega
      | succ j ih =>
        intro k hk H locs lsB stA hR2
        obtain ⟨xn, stB, rfl, q1, hS2⟩ := zSt_c hR2.2.2.2.2.1
        obtain ⟨xk, stC, rfl, q2, hS3⟩ := zSt_c hS2
        have e4 := zSt_n hS3
        subst e4
        have e5 : xn = .int (zρ (zset6 X (nI k)) 3) := zsym (i := 3) rfl q1
        have e5b : zρ (zset6 X (nI k)) 3 = nI N := h3
        rw [e5b] at e5
        have e6 : xk = .int (nI k) := zsym (i := 6) rfl q2
        subst e5
        subst e6
        refine lv_icmp_ge (tgt := 78) (hFV (nI k)).1.1 (hFV (nI k)).1.2.1 zrd1.2.1 (by decide) (fun hle => ?_) (fun hnl => ?_)
        · exfalso
          rw [nI_leI (by omega) (by omega)] at hle
          omega
        · have hv : (a + k) % 4 < 4 := Nat.mod_lt _ (by decide)
          refine zrunB (q := (999, 0, 0)) (st := []) (stop := zstAt 57 (88, zeS) [595, 13, 68719476737, 103079215105, 8 * (((a + k) % 4 + 1) % 4), 206158430217] [103079215105, 206158430217] (999, 0, 0) zMref) (zstAt_no _ _ _ _ _ _) zm283 (hFN (nI k)) (n := 5000) (by
            show zok zbtN (zLn X) _ _ _ _ _ _ _ _ _ _ _ = true
            rw [hL]
            exact zr_z ((a + k) % 4) hv) ⟨hR2.1, hR2.2.1, hR2.2.2.1, hR2.2.2.2.1, trivial, hR2.2.2.2.2.2⟩ (fun w pc ls st q m H2 locs2 lsC stD hs hR3 => ?_)
          obtain ⟨rfl, rfl, rfl, rfl, rfl, rfl⟩ := zstAt_iff hs
          have hv2 : ∀ v w, ¬ (v % 8 = 1 ∧ v / 34359738368 = 6) → zV (zset6 X (nI k)) v w → zV (zset6 X (nI (k + 1))) v w := fun v w hn h => by
            rw [← zset6_2 X (nI k) (nI (k + 1))]
            exact zV_set hn h
          have hk1 : ∀ w, zV (zset6 X (nI k)) 206158430217 w → zV (zset6 X (nI (k + 1))) 206158430209 w := fun w h => by
            have e7 := zv_1 h (by decide)
            have e8 : zρ (zset6 X (nI k)) (206158430217 / 34359738368) + Int32.ofNat (206158430217 / 8 % 4294967296) = nI (k + 1) := by
              show nI k + Int32.ofNat 1 = _
              exact nI_1 k
            rw [e8] at e7
            rw [e7]
            exact zsym_mk (X := zset6 X (nI (k + 1))) (i := 6) rfl
          refine ih (k + 1) (by omega) H2 locs2 lsC stD ⟨zenvS (by omega) hE, zMem.re (X := zset6 X (nI k)) (X2 := zset6 X (nI (k + 1))) rfl (fun v w hn h => hv2 v w (fun q => hn q.1) h) zr_c.1 hR3.2.1, hR3.2.2.1, zLs_re hR3.2.2.2.1 rfl (fun i c2 hc hn => ?_), ?_, hR3.2.2.2.2.2⟩
          · match i, hc with
            | 0, hc => cases hc; exact ⟨595, rfl, by decide, fun w h => hv2 _ w (by decide) h⟩
            | 1, hc => cases hc; exact absurd rfl hn
            | 2, hc => cases hc; exact ⟨68719476737, rfl, by decide, fun w h => hv2 _ w (by decide) h⟩
            | 3, hc => cases hc; exact ⟨103079215105, rfl, by decide, fun w h => hv2 _ w (by decide) h⟩
            | 4, hc =>
              cases hc
              have e9 : (a + (k + 1)) % 4 = ((a + k) % 4 + 1) % 4 := by omega
              rw [e9]
              exact ⟨_, rfl, by omega, fun w h => hv2 _ w (by omega) h⟩
            | 5, hc => cases hc; exact ⟨206158430217, rfl, by decide, hk1⟩
            | i + 6, hc => simp at hc
          · obtain ⟨y1, st1, rfl, r1, hT2⟩ := zSt_c hR3.2.2.2.2.1
            obtain ⟨y2, st2, rfl, r2, hT3⟩ := zSt_c hT2
            have e10 := zSt_n hT3
            subst e10
            exact ⟨hv2 _ _ (by decide) r1, hk1 _ r2, trivial⟩
    have hF0 := hF zbtN X rfl hK (fun _ _ _ _ _ h => by cases h)
    refine zrunB (stop := zstAt 57 (88, zeR) [595, 8 * a, 68719476737, 103079215105, 8 * a, 0] [103079215105, 0] (999, 0, 0) zMref) (zstAt_no _ _ _ _ _ _) zm283 hF0 (n := 5000) (by rw [hL]; exact zr_y a ha) hR (fun w pc ls st q m H locs lsB stA hs hR2 => ?_)
    obtain ⟨rfl, rfl, rfl, rfl, rfl, rfl⟩ := zstAt_iff hs
    have hk0 : ∀ w, zV X 0 w → zV (zset6 X (nI 0)) 206158430209 w := fun w h => by
      have e7 : w = .int 0 := zv_0 h (by decide)
      rw [e7]
      exact zsym_mk (X := zset6 X (nI 0)) (i := 6) rfl
    refine loop N 0 (by omega) H locs lsB stA ⟨zenvS (by omega) hE, zMem.re (X := X) (X2 := zset6 X (nI 0)) rfl (fun v w hn h => zV_set (fun q => hn q.1) h) zr_c.1 hR2.2.1, hR2.2.2.1, zLs_re hR2.2.2.2.1 rfl (fun i c2 hc hn => ?_), ?_, hR2.2.2.2.2.2⟩
    · match i, hc with
      | 0, hc => cases hc; exact ⟨595, rfl, by decide, fun w h => zV_set (by decide) h⟩
      | 1, hc => cases hc; exact absurd rfl hn
      | 2, hc => cases hc; exact ⟨68719476737, rfl, by decide, fun w h => zV_set (by decide) h⟩
      | 3, hc => cases hc; exact ⟨103079215105, rfl, by decide, fun w h => zV_set (by decide) h⟩
      | 4, hc =>
        cases hc
        have e9 : (a + 0) % 4 = a := by omega
        rw [e9]
        exact ⟨8 * a, rfl, by omega, fun w h => zV_set (by omega) h⟩
      | 5, hc => cases hc; exact ⟨0, rfl, by decide, hk0⟩
      | i + 6, hc => simp at hc
    · obtain ⟨y1, st1, rfl, r1, hT2⟩ := zSt_c hR2.2.2.2.2.1
      obtain ⟨y2, st2, rfl, r2, hT3⟩ := zSt_c hT2
      have e10 := zSt_n hT3
      subst e10
      exact ⟨zV_set (by decide) r1, hk0 _ r2, trivial⟩
section ZRIDE
variable {p : Program} {l : Launch} {e : Env} {s : State} {mt : MethodId} {below : List Frame} {meth : Method} {c : Code} {b : Nat} {X : zCx} {H : Heap} {locs : List Loc} {lsA : Array Slot} {stA : List Value}
theorem zcase22 (hC : zLc X p s mt meth c) (hL : zLn X = 6) (hR : zRl X s 4 (1000, 600000, 7302250) (88, ze0) [799995, 3, 595, 0] [176] (1000, 88, 23815) zM0 H locs lsA stA) :
    W p l e room_1 s mt #[Value.ref b] below meth c H locs 88 23815 (lw_Z below #[Value.ref b] s) (F0 mt 33 lsA stA) := by
  have bad : ∀ i, i < 6 → zEnv (zρ X) (zrbN i) → W p l e room_1 s mt #[Value.ref b] below meth c H locs 88 23815 (lw_Z below #[Value.ref b] s) (F0 mt 33 lsA stA) := fun i hi hE =>
    zrun0 (q := (1000, 88, 23815)) (w := (88, zrbN i)) (n := 20000) hC (by rw [hL]; exact zr_n i hi) ⟨hE, hR.2.1, hR.2.2.1, hR.2.2.2.1, hR.2.2.2.2.1, hR.2.2.2.2.2⟩
  have f0 := zfull (zρ X 0)
  have f1 := zfull (zρ X 1)
  have f2 := zfull (zρ X 2)
  have f3 := zfull (zρ X 3)
  have f4 := zfull (zρ X 4)
  have f5 := zfull (zρ X 5)
  rcases Nat.lt_or_ge (zB (zρ X 2)) 2147483648 with t1 | t1
  · exact bad 0 (by decide) (zenv_mk f0 f1 ⟨f2.1, by show _ ≤ 2147483647; omega⟩ f3 f4 f5)
  rcases Nat.lt_or_ge 2148483648 (zB (zρ X 2)) with t2 | t2
  · exact bad 1 (by decide) (zenv_mk f0 f1 ⟨by show 2148483649 ≤ _; omega, f2.2⟩ f3 f4 f5)
  rcases Nat.lt_or_ge (zB (zρ X 3)) 2147483648 with n1 | n1
  · exact bad 2 (by decide) (zenv_mk f0 f1 f2 ⟨f3.1, by show _ ≤ 2147483647; omega⟩ f4 f5)
  rcases Nat.lt_or_ge 2147493648 (zB (zρ X 3)) with n2 | n2
  · exact bad 3 (by decide) (zenv_mk f0 f1 f2 ⟨by show 2147493649 ≤ _; omega, f3.2⟩ f4 f5)
  rcases Nat.lt_or_ge (zB (zρ X 1)) 2147483648 with s1 | s1
  · exact bad 4 (by decide) (zenv_mk f0 ⟨f1.1, by show _ ≤ 2147483647; omega⟩ f2 f3 f4 f5)
  rcases Nat.lt_or_ge 2147483651 (zB (zρ X 1)) with s2 | s2
  · exact bad 5 (by decide) (zenv_mk f0 ⟨by show 2147483652 ≤ _; omega, f1.2⟩ f2 f3 f4 f5)
  obtain ⟨a, ha⟩ : ∃ a, zB (zρ X 1) = 2147483648 + a := ⟨zB (zρ X 1) - 2147483648, by omega⟩
  obtain ⟨N, hN⟩ : ∃ N, zB (zρ X 3) = 2147483648 + N := ⟨zB (zρ X 3) - 2147483648, by omega⟩
  have h1 := zB_nI ha (by omega)
  have h3 := zB_nI hN (by omega)
  have ha4 : a < 4 := by omega
  have hN4 : N ≤ 10000 := by omega
  have hE : zEnv (zρ X) zeR := zenv_mk f0 f1 ⟨t1, t2⟩ ⟨n1, n2⟩ f4 f5
  have hr4 : (a + N) % 4 < 4 := Nat.mod_lt _ (by decide)
  refine zrun (q := (1000, 88, 23815)) (w := (88, zeR)) (zstAt_no _ _ _ _ _ _) (n := 100) hC (by rw [hL]; exact zr_a) ⟨hE, hR.2.1, hR.2.2.1, hR.2.2.2.1, hR.2.2.2.2.1, hR.2.2.2.2.2⟩ (fun w pc ls st q m H1 locs1 lsB stB hs hR1 => ?_)
  obtain ⟨rfl, rfl, rfl, rfl, rfl, rfl⟩ := zstAt_iff hs
  refine zcallL (asr := [103079215105, 68719476737, 34359738369, 3]) (r := []) (K := fun w v m => zbtX ((a + N) % 4) w v m = true) hC zm141 (zKi_of zh141) rfl rfl (zwd_mem zrd2.1) zrd1.2.2.1 hR1 rfl (by decide) zr_c.2.1 (fun AsV hA => zrideX hL ha4 hN4 h1 h3 hE hA) (fun w2 v m2 vo H2 locs2 rest hrest hvo hM2 hE2 hbt hlo2 => ?_)
  obtain ⟨b1, b2⟩ := zand_iff hbt
  obtain ⟨b2, b3⟩ := zand_iff b2
  have ev : v = [8 * ((a + N) % 4)] := zeqL_iff (fun _ _ h => zbeqT h) b1
  have ew : w2.1 = 88 := zbeqT b2
  subst ev
  rw [ew] at hM2
  have er := zSt_n hrest
  subst er
  cases vo with
  | none => exact hvo.elim
  | some x1 =>
    refine zrun (q := (1000, 88, 23815)) (w := (88, zeR)) (ls := [799995, 3, 595, 0]) (st := [8 * ((a + N) % 4)]) (m := zMref) (stop := zstAt 875 (88, zeR) [799995, 3, 595, 0] [103079215105, 68719476737, 34359738369, 595, 8 * ((a + N) % 4)] (1000, 88, 23815) zMref) (zstAt_no _ _ _ _ _ _) (n := 100) hC (by rw [hL]; exact zr_b _ hr4) ⟨hE, hM2.weak b3, hlo2, hR1.2.2.2.1, ⟨hvo, trivial⟩, hR1.2.2.2.2.2⟩ (fun w pc ls st q m H3 locs3 lsC stC hs hR3 => ?_)
    obtain ⟨rfl, rfl, rfl, rfl, rfl, rfl⟩ := zstAt_iff hs
    refine zcallL (asr := [103079215105, 68719476737, 34359738369, 595]) (r := [8 * ((a + N) % 4)]) (K := fun w v m => zbtV ((a + N) % 4) w v m = true) hC zm283 (zKi_of zh283) rfl rfl (zwd_mem zrd2.2) zrd1.2.2.2 hR3 rfl (by
      show Nat.add (zif (Nat.beq (Nat.mod (8 * ((a + N) % 4)) 8) 4) 2 1) 0 ≤ 8
      cases Nat.beq (Nat.mod (8 * ((a + N) % 4)) 8) 4 <;> decide) zr_c.2.2 (fun AsV hA => zrideY hL ha4 hN4 h1 h3 hE hA) (fun w4 v4 m4 vo4 H4 locs4 rest4 hrest4 hvo4 hM4 hE4 hbt4 hlo4 => ?_)
    have ev4 : v4 = [8 * ((a + N) % 4)] := zeqL_iff (fun _ _ h => zbeqT h) (zand_iff hbt4).1
    have ew4 : w4.1 = 88 := zbeqT (zand_iff hbt4).2
    subst ev4
    cases vo4 with
    | none => exact hvo4.elim
    | some x4 =>
      have hM5 : zMem X s 88 [] H4 := by
        rw [ew4] at hM4
        exact ⟨hM4.1, hM4.2.1, fun z cc hz => absurd hz (by simp [zG]), hM4.2.2.2⟩
      exact zrun0 (q := (1000, 88, 23815)) (w := (88, ze0)) (ls := [799995, 3, 595, 0]) (st := [8 * ((a + N) % 4), 8 * ((a + N) % 4)]) (m := []) (n := 100) hC (by rw [hL]; exact zr_l _ hr4) ⟨zenv0 _, hM5, hlo4, hR3.2.2.2.1, ⟨hvo4, hrest4⟩, hR3.2.2.2.2.2⟩
end ZRIDE
