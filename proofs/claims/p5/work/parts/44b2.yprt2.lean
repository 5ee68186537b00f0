/-! THE PRINTER: one run, and loops over known indices -/
noncomputable def zyfw : zyR := [(37, 2, 2), (38, 0, 899)]
noncomputable def zynil (v : List Nat) : Bool := List.rec (motive := fun _ => Bool) true (fun _ _ _ => false) v
theorem zynil_iff {v : List Nat} (h : zynil v = true) : v = [] := by
  cases v with
  | nil => rfl
  | cons a t => cases h
theorem zyg37 : zG zymc 37 = some (4, 4, [(0, 0, 307), (1, 1, 73786976312018082850), (2, 2, 34359738362), (3, 3, 73786976312018075658)]) := rfl
theorem zyk37 : 606210 / 16384 = 37 ∧ 606210 % 16384 = 2 := by decide
theorem zyE37 {B : zCx} {s : State} (hI : zyMI zymc B zyJc s s.heap) : ∃ x : Int32, zyEl zymc B s.heap 37 2 = some (.int x) := by
  obtain ⟨w, h1, h2⟩ := hI.2.1 37 _ 2 zyg37 (by decide)
  obtain ⟨x, rfl⟩ := zyv_int (h2 (2, 2, 34359738362) (by simp) (by decide) (by decide)).2 (by decide)
  exact ⟨x, h1⟩
theorem zyM37 {P : zyP} {X : zyX} {s : State} {m : zyM} {H : Heap} {chk : Nat → Bool} (hP : P.1 = zymc) (hM : zyMem P X s m.1 H) (h : zylk false chk 606210 m.1 = true) : ∃ (cd : Nat) (v : Value), zyl m.1 606210 = some cd ∧ chk cd = true ∧ zyEl P.1 (zyb X) H 37 2 = some v ∧ zyV X cd v := by
  rw [zylk_eq] at h
  cases hq : zyl m.1 606210 with
  | none => rw [hq] at h; cases h
  | some cd =>
    rw [hq] at h
    obtain ⟨w, h1, h2⟩ := hM.2.1 37 _ 2 (by rw [hP]; exact zyg37) (by decide)
    unfold zyEt at h2
    rw [show 37 * 16384 + 2 = 606210 from rfl, hq] at h2
    exact ⟨cd, w, rfl, h, h1, h2⟩
theorem zysym_k (i : Nat) : zysym i % 8 ≤ 1 := by
  rw [zysym_def]
  omega
/-- one run -/
theorem zyonek {l : Launch} {y0 : Nat} {en : zEn} {me : zMe} (hen : zG zxMeta y0 = some en) (hme : zG zMeth y0 = some me) (hc0 : en.2.2.2.2.2.1 = 0) (hs0 : en.2.2.2.2.2.2.1 = 0) {C : Nat → List zyCt} (hCon : zyCons l (zymc, C, zyfw, zydc, 0) zyJc) {as1 : List Nat} {id dep pcode : Nat} {κ0 : zyKt} (chk : zW → List zyF → Nat → Bool) (hpc0 : κ0.1 = 0) (hkc : κ0.2.2.2.2.1 = [(606210, zysym en.2.2.1)]) (hwf : zywf en.2.2.1 κ0 = true)
    (hrun : zyok (fun w v m => zand (zyfitM w zymc m.1) (zand (zypre w zymc m.1 []) (zand (zynil v) (zylk false (fun cd => zand (Nat.ble (Nat.mod cd 8) 2) (chk w m.2 cd)) 606210 m.1)))) (zymc, C, zyfw, zydc, 0) zystop0 200000 (κ0.2.1, κ0.2.2.2.1) en.1 en.2.2.2.2 κ0.1 κ0.2.2.1 [] (dep, 0, 0) [] (κ0.2.2.2.2.1, []) = true)
    (hentry : zpad en.2.2.1 (zexp (299 :: as1)) (fun l2 => zyincl (zymc, C, zyfw, zydc, 0) en.2.2.1 (0, []) l2 [(606210, pcode)] κ0) = true) (hN : en.2.2.1 < κ0.2.1)
    (hrel : ∀ (X : zyX) (w : zW) (F : List zyF) (cd : Nat) (x z : Int32) (A : Array Value), zyJ X = zyJc → zySt (zyX0 (zyb X) zyJc) (299 :: as1) A.toList → zEnv (zyρ X) w.2 → (∀ f ∈ F, zyFm X f) → zyρ X en.2.2.1 = x → en.2.2.1 < zyN X → (∀ y, A.toList[1]? = some (.int y) → 1 < en.2.2.1 → zyρ X 1 = y) → chk w F cd = true → zyV X cd (.int z) → zyv (fun _ => 0) 0 (zad (zyb X)) pcode (.int x) → zyRc id (zyE X) x (zyAi A 1) z) : zyCon l zymc zyJc en me (299 :: as1, zyfw, [34359738362, id, 606210], dep, [(606210, pcode)], []) := by
  obtain ⟨me1, hme1, hOK⟩ := zall hen
  rw [hme] at hme1
  cases hme1
  refine zycutC (P := (zymc, C, zyfw, zydc, 0)) (J := zyJc) (K := [κ0]) (κ0 := κ0) (n := 200000) (bt := fun _ w v m => zand (zynil v) (zylk false (fun cd => zand (Nat.ble (Nat.mod cd 8) 2) (chk w m.2 cd)) 606210 m.1)) (stp := fun _ => zystop0) hOK hCon zyJc_p hc0 hs0 List.mem_cons_self hpc0 (fun κ hκ => by rw [List.mem_singleton.mp hκ]; exact hwf) (fun _ _ _ _ _ _ _ _ _ _ _ => rfl) (fun κ hκ => by rw [List.mem_singleton.mp hκ]; exact hrun) hentry (fun _ _ h => h)
    (fun B AsV κ s ρ H => zyEl zymc B s.heap 37 2 = some (.int (ρ en.2.2.1)) ∧ ∀ y, AsV[1]? = some (.int y) → 1 < en.2.2.1 → ρ 1 = y) (fun _ _ _ _ _ _ => 0) ?_ ?_ ?_
  · intro B AsV hA s lsA hK hI hPk hlv
    obtain ⟨x, hx⟩ := zyE37 hI
    refine ⟨?_, fun y hy hl => ?_⟩
    · have e := zyrho_c (B := zymc) (Y := B) (H := s.heap) (nL := en.2.2.1) (j := 0) (lsA := lsA) (kc := κ0.2.2.2.2.1) (p := (606210, zysym en.2.2.1)) (x := x) (by rw [hkc]; rfl) (by dsimp only; rw [zyk37.1, zyk37.2]; exact hx)
      rw [Nat.add_zero] at e
      show zyEl zymc B s.heap 37 2 = some (.int (zyrho zymc B s.heap en.2.2.1 lsA κ0.2.2.2.2.1 en.2.2.1))
      rw [e]
      exact hx
    · refine zyrho_l hl ?_
      obtain ⟨a0, t, rfl⟩ : ∃ a0 t, AsV = a0 :: .int y :: t := by
        match AsV, hy with
        | a0 :: b :: t, hy => cases hy; exact ⟨a0, t, rfl⟩
      have h0 : a0 = .ref (zad B 37) := zyv_3 (v := 299) hA.1 (by decide)
      subst h0
      exact hlv.2.2 (1, .int y) (List.mem_cons_of_mem _ List.mem_cons_self)
  · intro B AsV hA κ hκ s ρ H hPk hI hInv ρ2 N2 w pc ls st q m H2 locs2 lsB stA hs
    cases hs
  · intro B AsV hA κ hκ s ρ H hPk hI hInv ρ2 w v m t vo hbt hag hE hF hM hvo
    have eκ := List.mem_singleton.mp hκ
    subst eκ
    obtain ⟨b1, b2⟩ := zand_iff hbt
    have ev := zynil_iff b1
    subst ev
    cases vo with
    | some x => exact hvo.elim
    | none =>
      obtain ⟨cd, v, h1, h2, h3, h4⟩ := zyM37 (P := (zymc, C, zyfw, zydc, 0)) rfl hM b2
      obtain ⟨c0, x0, p1, p2, p3, p4, p5⟩ := hPk (606210, pcode) List.mem_cons_self
      dsimp only at p3
      rw [zyk37.1, zyk37.2] at p3
      rw [hInv.1] at p3
      cases p3
      obtain ⟨h2a, h2⟩ := zand_iff h2
      have hz : ∃ z : Int32, v = .int z := zyv_int h4 (zbleT h2a)
      obtain ⟨z, rfl⟩ := hz
      refine ⟨rfl, _, z, by rw [zyk37.1, zyk37.2]; exact hInv.1, by rw [zyk37.1, zyk37.2]; exact h3, zyv_bd (lo := 0) (hi := 4294967295) (Nat.zero_le _) (by have := zB_lt z; omega) (by decide), ?_⟩
      exact hrel (B, ρ2, w.1, ρ, κ.2.1, (zyEl zymc B s.heap, fun q => s.heap[q]?), zyJc) w m.2 cd _ z AsV.toArray rfl (by rw [show AsV.toArray.toList = AsV by simp]; exact hA) hE hF (hag.2 _ hN) (Nat.lt_of_lt_of_le hN hag.1) (fun y hy hl => by
        rw [show AsV.toArray.toList = AsV by simp] at hy
        exact (hag.2 1 (by omega)).trans (hInv.2 y hy hl)) h2 h4 p5
