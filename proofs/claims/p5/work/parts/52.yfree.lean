/-! THE REFERENCE: how many free switches are ahead of one -/
theorem zyag_get : ∀ {ls : List Nat} {i : Nat}, i < ls.length → ls[i]? = some (zyag ls i) := by
  intro ls
  induction ls with
  | nil => intro i h; exact absurd h (Nat.not_lt_zero i)
  | cons a t ih =>
    intro i h
    cases i with
    | zero => rfl
    | succ i =>
      rw [List.getElem?_cons_succ, zyag_c]
      exact ih (Nat.lt_of_succ_lt_succ h)
/-- the symbol of a local at a new cut -/
theorem zyrho_ag {X : zyX} {mi : zyB} {Y : zCx} {H : Heap} {nL i : Nat} {ls : List Nat} {lsA : Array Slot} {kc : List (Nat × Nat)} {x : Int32} (hL : zyLs X nL ls lsA) (hi : i < nL) (hk : (zyag ls i) % 8 ≤ 1) (hv : zyV X (zyag ls i) (.int x)) : zyrho mi Y H nL lsA kc i = x := by
  have hg := zyag_get (ls := ls) (i := i) (by rw [hL.1]; exact hi)
  obtain ⟨w, h1, h2⟩ := hL.2.2.2 i _ hg (fun q => by rw [q] at hk; exact absurd hk (by decide))
  obtain ⟨y, rfl⟩ := zyv_int h2 (by omega)
  have e := zyv_one hk hv h2
  subst e
  exact zyrho_l hi h1
theorem zysym_v {X : zyX} {i : Nat} (h : i < zyN X) : zyV X (zysym i) (.int (zyρ X i)) := zyv_sym h rfl
/-- a symbol and some more -/
theorem zysym_p {X : zyX} {i c : Nat} (h : i < zyN X) (hc : c < 4294967296) : zyV X (Nat.add (zysym i) (Nat.mul 8 c)) (.int (zyρ X i + Int32.ofNat c)) := by
  show zyv _ _ _ (i * 34359738368 + 1 + 8 * c) _
  refine Or.inl ⟨Or.inr (Or.inl ⟨by omega, ?_⟩), fun _ => by omega, fun q => by omega⟩
  rw [show (i * 34359738368 + 1 + 8 * c) / 34359738368 = i by omega, show (i * 34359738368 + 1 + 8 * c) / 8 % 4294967296 = c by omega]
theorem zysym_pk {i c : Nat} : (Nat.add (zysym i) (Nat.mul 8 c)) % 8 ≤ 1 := by
  show (i * 34359738368 + 1 + 8 * c) % 8 ≤ 1
  omega
/-- the int of a local at the entry -/
theorem zyarg1 {lsA : Array Slot} {n : Nat} {a0 : Addr} {x : Int32} {t : List Value} (h : lv_has lsA n (lv_args 0 (.ref a0 :: .int x :: t))) : lsA[1]? = some (.val (.int x)) := h.2.2 (1, .int x) (List.mem_cons_of_mem _ List.mem_cons_self)
theorem zyarg2 {lsA : Array Slot} {n : Nat} {a0 : Addr} {x y : Int32} {t : List Value} (h : lv_has lsA n (lv_args 0 (.ref a0 :: .int x :: .int y :: t))) : lsA[2]? = some (.val (.int y)) := h.2.2 (2, .int y) (List.mem_cons_of_mem _ (List.mem_cons_of_mem _ List.mem_cons_self))
theorem zyAi1 {a : Value} {x : Int32} {t : List Value} : zyAi (a :: .int x :: t).toArray 1 = x := by simp [zyAi]
theorem zyAi2 {a b : Value} {x : Int32} {t : List Value} : zyAi (a :: b :: .int x :: t).toArray 2 = x := by simp [zyAi]
/-- indices -/
theorem zyix {X : zyX} {i o jx : Nat} {B : zyB} (hi : i < zyN X) (h : zyV X (Nat.add (zysym i) (Nat.mul 8 o)) (.int (Int32.ofNat jx))) (hj : jx < 2147483648) (hlo : 2147483648 ≤ zB (zyρ X i)) (hhi : zB (zyρ X i) + o < 4294967296) (ho : o < 2147483648) : jx = zyN1 (zyρ X i) + o := by
  have e := zyaddB (x := zyρ X i) rfl h hhi ho
  rw [zB_of4 hj] at e
  have e2 := zyN1_lo hlo
  omega
noncomputable def zyκfe : zyKt := (0, 4, [595, zysym 1, 13, 13], [(0, 4294967295), (2147483648, 2147483678), (0, 4294967295), (0, 4294967295)], [], [])
noncomputable def zyκfl : zyKt := (4, 4, [595, zysym 1, zysym 2, zysym 3], [(0, 4294967295), (2147483648, 2147483678), (0, 4294967295), (2147483648, 2147483679)], [], [])
noncomputable def zystf (P : zyP) (κ : zyKt) : zyK := fun w _ _ pc ls st _ fs m => List.rec (motive := fun _ => Bool) (List.rec (motive := fun _ => Bool) (zand (Nat.beq pc 4) (zand (zyincl P 4 w ls m.1 zyκfl) (zand (Nat.beq (zyag ls 1) (zysym 1)) (zif (Nat.beq κ.1 0) (zand (Nat.beq (zyag ls 2) 0) (Nat.beq (zyag ls 3) 0))
  (zand (zqlt w m.2 (zysym 3) (zysym 1) true false) (zand (Nat.beq (zyag ls 3) (Nat.add (zysym 3) (Nat.mul 8 1))) (zqE 75 (Nat.add (zysym 3) (Nat.mul 8 104)) (fun x => zand (Nat.ble (Nat.mod x 8) 1) (zqop 1 (zysym 2) x (fun v => zand (Nat.ble (Nat.mod v 8) 1) (Nat.beq v (zyag ls 2))) m.2)) m.2))))))) (fun _ _ _ => false) st) (fun _ _ _ => false) fs
noncomputable def zybtf (κ : zyKt) : zW → List Nat → zyM → Bool := fun w v m => zand (Nat.beq κ.1 4) (zand (zylb v [zysym 2]) (zqlt w m.2 (zysym 3) (zysym 1) false true))
noncomputable def zyPf (r c : Nat) : zyP := (zymr r c, fun _ => [], [], zydr, 0)
noncomputable def zyrunf (r c : Nat) (κ : zyKt) : Bool := zyok (fun w v m => zand (zyfitM w (zymr r c) m.1) (zand (zypre w (zymr r c) m.1 []) (zybtf κ w v m))) (zyPf r c) (zystf (zyPf r c) κ) 200000 (4, κ.2.2.2.1) zxi209 (209, 0, 0, 1, 0) κ.1 κ.2.2.1 [] (1, 0, 0) [] ([], [])
theorem zyrunf_all : zyAllP (fun r c => zand (zyrunf r c zyκfe) (zand (zyrunf r c zyκfl) (zpad 4 (zexp [595, zyc 0 30]) (fun l2 => zyincl (zyPf r c) 4 (0, []) l2 [] zyκfe)))) = true := by decide +kernel
theorem zystf_iff {P : zyP} {κ : zyKt} {w : zW} {cf : Nat → zT} {y : zY} {pc : Nat} {ls st : List Nat} {q : zQ} {m : zyM} (h : zystf P κ w cf y pc ls st q [] m = true) : st = [] ∧ pc = 4 ∧ zyincl P 4 w ls m.1 zyκfl = true ∧ zyag ls 1 = zysym 1 ∧ ((κ.1 = 0 ∧ zyag ls 2 = 0 ∧ zyag ls 3 = 0) ∨ (¬ κ.1 = 0 ∧ zqlt w m.2 (zysym 3) (zysym 1) true false = true ∧ zyag ls 3 = Nat.add (zysym 3) (Nat.mul 8 1) ∧ zqE 75 (Nat.add (zysym 3) (Nat.mul 8 104)) (fun x => zand (Nat.ble (Nat.mod x 8) 1) (zqop 1 (zysym 2) x (fun v => zand (Nat.ble (Nat.mod v 8) 1) (Nat.beq v (zyag ls 2))) m.2)) m.2 = true)) := by
  cases st with
  | cons a t => cases h
  | nil =>
    obtain ⟨h1, h⟩ := zand_iff (show zand (Nat.beq pc 4) _ = true from h)
    obtain ⟨h2, h⟩ := zand_iff h
    obtain ⟨h3, h⟩ := zand_iff h
    refine ⟨rfl, zbeqT h1, h2, zbeqT h3, ?_⟩
    rcases zif_iff h with ⟨h4, h5⟩ | ⟨h4, h5⟩
    · obtain ⟨h6, h7⟩ := zand_iff h5
      exact Or.inl ⟨zbeqT h4, zbeqT h6, zbeqT h7⟩
    · obtain ⟨h6, h7⟩ := zand_iff h5
      obtain ⟨h7, h8⟩ := zand_iff h7
      exact Or.inr ⟨zbeqF h4, h6, zbeqT h7, h8⟩
theorem zyfreeN {l : Launch} {J : zyJt} (hJ : zyJr J) {r c : Nat} (h1 : 1 ≤ r) (h2 : r ≤ 4) (h3 : 1 ≤ c) (h4 : c ≤ 5) {en : zEn} {me : zMe} (hen : zG zxMeta 209 = some en) (hme : zG zMeth 209 = some me) : zyCon l (zymr r c) J en me ([595, zyc 0 30], [], [34359738362, 8], 1, [], []) := by
  have een : zG zxMeta 209 = some (zxi209, 2, 4, 11, 209, 0, 0, 1, 0) := rfl
  obtain ⟨me1, hme1, hOK⟩ := zall hen
  rw [hme] at hme1
  cases hme1
  rw [een] at hen
  cases hen
  obtain ⟨q1, hr⟩ := zand_iff (zyAllP_iff zyrunf_all h1 h2 h3 h4)
  obtain ⟨q2, q3⟩ := zand_iff hr
  have hK : ∀ κ, κ ∈ [zyκfe, zyκfl] → κ = zyκfe ∨ κ = zyκfl := fun κ hκ => by simpa using hκ
  have hw : zand (zywf 4 zyκfe) (zywf 4 zyκfl) = true := by decide +kernel
  refine zycutC (P := zyPf r c) (J := J) (K := [zyκfe, zyκfl]) (κ0 := zyκfe) (n := 200000) (bt := zybtf) (stp := zystf (zyPf r c)) hOK (zyno rfl) hJ.1 rfl rfl List.mem_cons_self rfl ?_ (fun _ _ _ _ _ _ _ _ _ _ _ => rfl) ?_ q3 (fun _ _ h => h)
    (fun B AsV κ s ρ H => ∃ g : Int32, AsV[1]? = some (.int g) ∧ ρ 1 = g ∧ 2147483648 ≤ zB g ∧ zB g ≤ 2147483678 ∧ (κ = zyκfe ∨ (κ = zyκfl ∧ 2147483648 ≤ zB (ρ 3) ∧ zB (ρ 3) ≤ zB g ∧ ρ 2 = zgFn (zyres (zyEl (zymr r c) B s.heap)) (zyN1 (ρ 3))))) (fun _ _ κ _ ρ _ => if κ.1 = 0 then 5000000000 else 4294967295 - zB (ρ 3)) ?_ ?_ ?_
  · intro κ hκ
    rcases hK κ hκ with e | e
    · rw [e]; exact (zand_iff hw).1
    · rw [e]; exact (zand_iff hw).2
  · intro κ hκ
    rcases hK κ hκ with e | e
    · rw [e]; exact q1
    · rw [e]; exact q2
  · intro B AsV hA s lsA hKn hI hPk hlv
    obtain ⟨v0, t0, rfl, a1, hA1⟩ := zySt_c hA
    obtain ⟨v1, t1, rfl, a2, hA2⟩ := zySt_c hA1
    have e0 : v0 = .ref (zad B 74) := zyv_3 (v := 595) a1 (by decide)
    subst e0
    obtain ⟨g, rfl⟩ := zyv_int a2 (by decide)
    have hb := zyc_iff (by decide) a2
    exact ⟨g, rfl, zyrho_l (by decide) (zyarg1 hlv), by omega, by omega, Or.inl rfl⟩
  · intro B AsV hA κ hκ s ρ H hPk hI hInv ρ2 N2 w pc ls st q m H2 locs2 lsB stA hs hag hR
    obtain ⟨g, hg, hρ1, b1, b2, hInv⟩ := hInv
    obtain ⟨est, hpc, hin, hl1, hcase⟩ := zystf_iff hs
    have hκ1 : κ.2.1 = 4 := by
      rcases hK κ hκ with e | e <;> rw [e] <;> rfl
    have hN : 4 ≤ N2 := by
      have := hR.1.2.2.1.1
      rw [← hκ1]
      exact this
    have hLs := hR.2.2.2.1
    have hr1 : ∀ kc, zyrho (zymr r c) B H2 4 lsB kc 1 = g := by
      intro kc
      refine zyrho_ag hLs (by decide) (by rw [hl1]; exact zysym_k 1) ?_
      rw [hl1, ← hρ1, ← hag 1 (by omega)]
      exact zysym_v (X := (B, ρ2, N2, ρ, κ.2.1, (zyEl (zymr r c) B s.heap, fun q => s.heap[q]?), J)) (show 1 < N2 by omega)
    rcases hcase with ⟨hk0, l2, l3⟩ | ⟨hk0, hlt, l3, hq⟩
    · refine ⟨zyκfl, by simp, est, hpc, ⟨w, rfl, hR.1.1, hin⟩, ⟨g, hg, hr1 _, b1, b2, Or.inr ⟨rfl, ?_⟩⟩, ?_⟩
      · have e3 : zyrho (zyPf r c).1 B H2 ((zxi209, 2, 4, 11, 209, 0, 0, 1, 0) : zEn).2.2.1 lsB zyκfl.2.2.2.2.1 3 = 0 := zyrho_ag hLs (by decide) (by rw [l3]; decide) (by rw [l3]; exact zyv_zero)
        have e2 : zyrho (zyPf r c).1 B H2 ((zxi209, 2, 4, 11, 209, 0, 0, 1, 0) : zEn).2.2.1 lsB zyκfl.2.2.2.2.1 2 = 0 := zyrho_ag hLs (by decide) (by rw [l2]; decide) (by rw [l2]; exact zyv_zero)
        have z0 : zB (0 : Int32) = 2147483648 := by decide
        have n0 : zyN1 (0 : Int32) = 0 := by decide
        refine ⟨?_, ?_, ?_⟩
        · rw [e3, z0]; omega
        · rw [e3, z0]; omega
        · rw [e3, e2, n0]
          rfl
      · rw [if_pos hk0, if_neg (show ¬ zyκfl.1 = 0 by decide)]
        omega
    · rcases hInv with e | ⟨eκ, k1, k2, k3⟩
      · rw [e] at hk0; exact absurd rfl hk0
      have hs3 : ρ2 3 = ρ 3 := hag 3 (by omega)
      have hs2 : ρ2 2 = ρ 2 := hag 2 (by omega)
      have hs1 : ρ2 1 = g := by rw [← hρ1]; exact hag 1 (by omega)
      have hlt2 := zqlt_iff hR.1.1 hR.1.2.2.2 (zysym_k 3) (zysym_k 1) (zysym_v (show 3 < N2 by omega)) (zysym_v (show 1 < N2 by omega)) hlt
      have hlt3 : ρ 3 < g := by
        rcases hlt2 with ⟨q1, -⟩ | ⟨-, q1⟩
        · have q1 : ρ2 3 < ρ2 1 := q1
          rw [hs3, hs1] at q1
          exact q1
        · cases q1
      have hlt4 : zB (ρ 3) < zB g := by
        have e1 := zB_int (ρ 3)
        have e2 := zB_int g
        rw [Int32.lt_iff_toInt_lt] at hlt3
        omega
      obtain ⟨xv, jx, x, p1, p2, p3, p4, p5⟩ := zqE_iff hR.1.2.2.2 hq
      obtain ⟨p6, p7⟩ := zand_iff p5
      have p6 := zbleT p6
      obtain ⟨v, x2, y2, r1, r2, r3, r4⟩ := zqop_iff hR.1.2.2.2 (by decide) p7
      obtain ⟨r5, r6⟩ := zand_iff r4
      have r5 := zbleT r5
      have r6 := zbeqT r6
      have ey := zyv_one (show xv % 8 ≤ 1 from p6) p1 r2
      subst ey
      have ex := zyv_one (zysym_k 2) (zysym_v (X := (B, ρ2, N2, ρ, κ.2.1, (zyEl (zymr r c) B s.heap, fun q => s.heap[q]?), J)) (show 2 < N2 by omega)) r1
      have ex : ρ2 2 = x2 := ex
      have r3 : zyV (B, ρ2, N2, ρ, κ.2.1, (zyEl (zymr r c) B s.heap, fun q => s.heap[q]?), J) v (.int (x2 + x)) := r3
      have hj := zyix (B := zymr r c) (show 3 < zyN (B, ρ2, N2, ρ, κ.2.1, (zyEl (zymr r c) B s.heap, fun q => s.heap[q]?), J) from (show 3 < N2 by omega)) p2 p3 (by show 2147483648 ≤ zB (ρ2 3); rw [hs3]; exact k1) (by show zB (ρ2 3) + 104 < 4294967296; rw [hs3]; omega) (by decide)
      have hj : jx = zyN1 (ρ2 3) + 104 := hj
      rw [hs3] at hj
      have p4 : zyEl (zymr r c) B s.heap 75 jx = some (.int x) := p4
      have e3 : zyrho (zyPf r c).1 B H2 ((zxi209, 2, 4, 11, 209, 0, 0, 1, 0) : zEn).2.2.1 lsB zyκfl.2.2.2.2.1 3 = ρ 3 + 1 := zyrho_ag hLs (by decide) (by rw [l3]; exact zysym_pk) (by
        rw [l3, ← hs3]
        exact zysym_p (X := (B, ρ2, N2, ρ, κ.2.1, (zyEl (zymr r c) B s.heap, fun q => s.heap[q]?), J)) (show 3 < N2 by omega) (by decide))
      have e2 : zyrho (zyPf r c).1 B H2 ((zxi209, 2, 4, 11, 209, 0, 0, 1, 0) : zEn).2.2.1 lsB zyκfl.2.2.2.2.1 2 = ρ 2 + x := zyrho_ag hLs (by decide) (by rw [← r6]; exact r5) (by rw [← r6, ← hs2, ex]; exact r3)
      have z1 : zB (ρ 3 + 1) = zB (ρ 3) + 1 := by
        have := zB_add2 (x := ρ 3) (y := 1) (by rw [show zB (1 : Int32) = 2147483649 by decide]; omega) (by rw [show zB (1 : Int32) = 2147483649 by decide]; omega)
        rw [this, show zB (1 : Int32) = 2147483649 by decide]
        omega
      have n1 : zyN1 (ρ 3 + 1) = zyN1 (ρ 3) + 1 := by
        rw [zyN1_lo (by omega), zyN1_lo k1, z1]
        omega
      have n3 := zyN1_lo k1
      refine ⟨zyκfl, by simp, est, hpc, ⟨w, rfl, hR.1.1, hin⟩, ⟨g, hg, hr1 _, b1, b2, Or.inr ⟨rfl, ?_, ?_, ?_⟩⟩, ?_⟩
      · rw [e3, z1]; omega
      · rw [e3, z1]; omega
      · rw [e3, e2, n1]
        show ρ 2 + x = zgFn (zyres (zyEl (zymr r c) B s.heap)) (zyN1 (ρ 3)) + zyI (zyres (zyEl (zymr r c) B s.heap)) 75 (104 + min (zyN1 (ρ 3)) 31)
        rw [← k3, zyI_res (by omega), show 104 + min (zyN1 (ρ 3)) 31 = jx by omega]
        unfold zyI
        rw [p4]
      · rw [if_neg hk0, if_neg (show ¬ zyκfl.1 = 0 by decide), e3, z1]
        omega
  · intro B AsV hA κ hκ s ρ H hPk hI hInv ρ2 w v m t vo hbt hag hE hF hM hvo
    obtain ⟨g, hg, hρ1, b1, b2, hInv⟩ := hInv
    obtain ⟨c1, hbt⟩ := zand_iff hbt
    obtain ⟨c2, c3⟩ := zand_iff hbt
    have c1 := zbeqT c1
    have ev := zylb_iff c2
    subst ev
    rcases hInv with e | ⟨eκ, k1, k2, k3⟩
    · rw [e] at c1; cases c1
    have hκ1 : κ.2.1 = 4 := by rw [eκ]; rfl
    have hN : 4 ≤ w.1 := by have := hag.1; omega
    have hs3 : ρ2 3 = ρ 3 := hag.2 3 (by omega)
    have hs2 : ρ2 2 = ρ 2 := hag.2 2 (by omega)
    have hs1 : ρ2 1 = g := by rw [← hρ1]; exact hag.2 1 (by omega)
    have hlt2 := zqlt_iff hE hF (zysym_k 3) (zysym_k 1) (zysym_v (show 3 < w.1 by omega)) (zysym_v (show 1 < w.1 by omega)) c3
    have hge : ¬ ρ 3 < g := by
      rcases hlt2 with ⟨-, q1⟩ | ⟨q1, -⟩
      · cases q1
      · have q1 : ¬ ρ2 3 < ρ2 1 := q1
        rw [hs3, hs1] at q1
        exact q1
    have heq : ρ 3 = g := by
      have e1 := zB_int (ρ 3)
      have e2 := zB_int g
      rw [Int32.lt_iff_toInt_lt] at hge
      have e9 := zyeqB (x := g) (z := ρ 3) (n := 0) (by omega)
      rw [e9]
      exact Int32.add_zero g
    cases vo with
    | none => exact hvo.elim
    | some z =>
      have hz := zysym_v (X := (B, ρ2, w.1, ρ, κ.2.1, (zyEl (zymr r c) B s.heap, fun q => s.heap[q]?), J)) (i := 2) (show 2 < w.1 by omega)
      have hvo : zyV (B, ρ2, w.1, ρ, κ.2.1, (zyEl (zymr r c) B s.heap, fun q => s.heap[q]?), J) (zysym 2) z := hvo
      obtain ⟨z2, rfl⟩ := zyv_int hvo (by have := zysym_k 2; omega)
      have ez : ρ2 2 = z2 := zyv_one (zysym_k 2) hz hvo
      have l1 := zB_lt z2
      refine ⟨z2, rfl, zyv_bd (lo := 0) (hi := 4294967295) (Nat.zero_le _) (by omega) (by omega), ?_⟩
      rw [hJ.2]
      have eA : zyAi AsV.toArray 1 = g := by
        unfold zyAi
        rw [show AsV.toArray.toList = AsV by simp, hg]
      refine Or.inl ⟨by decide, ?_⟩
      rw [eA, ← ez, hs2, k3, heq]
      exact Or.inr (Or.inr (Or.inr (Or.inr (Or.inr (Or.inr (Or.inr (Or.inr ⟨rfl, rfl⟩)))))))
