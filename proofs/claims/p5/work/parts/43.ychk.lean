/-! THE TABLE OF CONTRACTS: each one with its cuts, the length of its measures, how wide a symbol may be to be split, and the numbers of those that it stands on -/
abbrev zyIn : Type := Nat × zyCt × List zyKt × Nat × Nat × List Nat
noncomputable def zynd {α : Type} (d : α) (l : List α) : Nat → α := List.rec (motive := fun _ => Nat → α) (fun _ => d) (fun a _ ih n => Nat.rec (motive := fun _ => α) a (fun i _ => ih i) n) l
noncomputable def zyIg (IT : List (List (List zyIn))) (i : Nat) : zyIn := zynd (0, ([], [], [], 0, [], []), [], 0, 0, []) (zynd [] (zynd [] IT (Nat.div i 64)) (Nat.mod (Nat.div i 8) 8)) (Nat.mod i 8)
noncomputable def zydeps (IT : List (List (List zyIn))) (deps : List Nat) (y2 : Nat) : List zyCt := List.rec (motive := fun _ => List zyCt) [] (fun d _ ih => zif (Nat.beq (zyIg IT d).1 y2) ((zyIg IT d).2.1 :: ih) ih) deps
noncomputable def zylow (i : Nat) (deps : List Nat) : Bool := List.rec (motive := fun _ => Bool) true (fun d _ ih => zand (Nat.ble (Nat.succ d) i) ih) deps
noncomputable def zywfs (nL Lm : Nat) (K : List zyKt) : Bool := List.rec (motive := fun _ => Bool) true (fun κ _ ih => zand (zywf nL κ) (zand (Nat.beq (zyln κ.2.2.2.2.2) Lm) ih)) K
noncomputable def zyruns (P : zyP) (ct : zyCt) (en : zEn) (K0 : List zyKt) (K : List zyKt) : Bool := List.rec (motive := fun _ => Bool) true (fun κ _ ih => zand (zyok (zybt P ct) P (zystop P en.2.2.1 K0 κ) 200000 (κ.2.1, κ.2.2.2.1) en.1 en.2.2.2.2 κ.1 κ.2.2.1 [] (ct.2.2.2.1, 0, 0) [] (κ.2.2.2.2.1, [])) ih) K
noncomputable def zyent (P : zyP) (ct : zyCt) (en : zEn) (K : List zyKt) : Bool := List.rec (motive := fun _ => Bool) false (fun κ _ _ => zand (Nat.beq κ.1 0) (zpad en.2.2.1 (zexp ct.1) (fun l2 => zyincl P en.2.2.1 (0, []) l2 ct.2.2.2.2.1 κ))) K
noncomputable def zychk (mi : zyB) (dj : zyR) (IT : List (List (List zyIn))) (i : Nat) (I : zyIn) : Bool := Prod.rec (motive := fun _ => Bool) (fun y I2 => Prod.rec (motive := fun _ => Bool) (fun ct I3 => Prod.rec (motive := fun _ => Bool) (fun K I4 => Prod.rec (motive := fun _ => Bool) (fun Lm I5 => Prod.rec (motive := fun _ => Bool) (fun sp deps =>
  zand (zylow i deps) (zget zxMeta y (fun en => zand (Nat.beq en.2.2.2.2.2.1 0) (zand (Nat.beq en.2.2.2.2.2.2.1 0) (zand (zywfs en.2.2.1 Lm K) (zand (zyent (mi, zydeps IT deps, ct.2.1, dj, sp) ct en K) (zyruns (mi, zydeps IT deps, ct.2.1, dj, sp) ct en K K))))))) I5) I4) I3) I2) I
noncomputable def zychks (mi : zyB) (dj : zyR) (IT : List (List (List zyIn))) (a : Nat) (n : Nat) : Bool := Nat.rec (motive := fun _ => Bool) true (fun k ih => zand (zychk mi dj IT (Nat.add a k) (zyIg IT (Nat.add a k))) ih) n
/-- the i-th contract holds -/
def zyCo (l : Launch) (mi : zyB) (J : zyJt) (IT : List (List (List zyIn))) (i : Nat) : Prop := ∀ en me, zG zxMeta (zyIg IT i).1 = some en → zG zMeth (zyIg IT i).1 = some me → zyCon l mi J en me (zyIg IT i).2.1
theorem zydeps_iff {IT : List (List (List zyIn))} {y2 : Nat} {ct : zyCt} : ∀ {deps : List Nat}, ct ∈ zydeps IT deps y2 → ∃ d ∈ deps, (zyIg IT d).1 = y2 ∧ (zyIg IT d).2.1 = ct := by
  intro deps
  induction deps with
  | nil => intro h; cases h
  | cons d t ih =>
    intro h
    have e : zydeps IT (d :: t) y2 = zif (Nat.beq (zyIg IT d).1 y2) ((zyIg IT d).2.1 :: zydeps IT t y2) (zydeps IT t y2) := rfl
    rw [e] at h
    cases hb : Nat.beq (zyIg IT d).1 y2 with
    | true =>
      rw [hb] at h
      rcases List.mem_cons.mp h with q | q
      · exact ⟨d, List.mem_cons_self, zbeqT hb, q.symm⟩
      · obtain ⟨d2, q1, q2⟩ := ih q
        exact ⟨d2, List.mem_cons_of_mem _ q1, q2⟩
    | false =>
      rw [hb] at h
      obtain ⟨d2, q1, q2⟩ := ih h
      exact ⟨d2, List.mem_cons_of_mem _ q1, q2⟩
theorem zylow_iff' {i : Nat} : ∀ {deps : List Nat}, zylow i deps = true → ∀ d ∈ deps, d < i := by
  intro deps
  induction deps with
  | nil => intro _ d h; cases h
  | cons d t ih =>
    intro h d2 hd
    have h : zand (Nat.ble (d + 1) i) (zylow i t) = true := h
    obtain ⟨g1, g2⟩ := zand_iff h
    have g1 := zbleT g1
    rcases List.mem_cons.mp hd with q | q
    · omega
    · exact ih g2 d2 q
theorem zywfs_iff {nL Lm : Nat} : ∀ {K : List zyKt}, zywfs nL Lm K = true → ∀ κ ∈ K, zywf nL κ = true ∧ κ.2.2.2.2.2.length = Lm := by
  intro K
  induction K with
  | nil => intro _ κ h; cases h
  | cons k t ih =>
    intro h κ hk
    have h : zand (zywf nL k) (zand (Nat.beq (zyln k.2.2.2.2.2) Lm) (zywfs nL Lm t)) = true := h
    obtain ⟨g1, g2⟩ := zand_iff h
    obtain ⟨g2, g3⟩ := zand_iff g2
    have g2 := zbeqT g2
    rw [zyln_eq] at g2
    rcases List.mem_cons.mp hk with q | q
    · rw [q]
      exact ⟨g1, g2⟩
    · exact ih g3 κ q
theorem zyruns_iff {P : zyP} {ct : zyCt} {en : zEn} {K0 : List zyKt} : ∀ {K : List zyKt}, zyruns P ct en K0 K = true → ∀ κ ∈ K, zyok (zybt P ct) P (zystop P en.2.2.1 K0 κ) 200000 (κ.2.1, κ.2.2.2.1) en.1 en.2.2.2.2 κ.1 κ.2.2.1 [] (ct.2.2.2.1, 0, 0) [] (κ.2.2.2.2.1, []) = true := by
  intro K
  induction K with
  | nil => intro _ κ h; cases h
  | cons k t ih =>
    intro h κ hk
    have h : zand (zyok (zybt P ct) P (zystop P en.2.2.1 K0 k) 200000 (k.2.1, k.2.2.2.1) en.1 en.2.2.2.2 k.1 k.2.2.1 [] (ct.2.2.2.1, 0, 0) [] (k.2.2.2.2.1, [])) (zyruns P ct en K0 t) = true := h
    obtain ⟨g1, g2⟩ := zand_iff h
    rcases List.mem_cons.mp hk with q | q
    · rw [q]
      exact g1
    · exact ih g2 κ q
theorem zychk_ok {l : Launch} {J : zyJt} {mi : zyB} {dj : zyR} {IT : List (List (List zyIn))} {i : Nat} (h : zychk mi dj IT i (zyIg IT i) = true) (hJd : zyJp dj J) (hd : ∀ d, d < i → zyCo l mi J IT d) : zyCo l mi J IT i := by
  unfold zyCo
  revert h
  generalize zyIg IT i = I
  obtain ⟨y, ct, K, Lm, sp, deps⟩ := I
  intro h en me hen hme
  have h : zand (zylow i deps) (zget zxMeta y (fun en => zand (Nat.beq en.2.2.2.2.2.1 0) (zand (Nat.beq en.2.2.2.2.2.2.1 0) (zand (zywfs en.2.2.1 Lm K) (zand (zyent (mi, zydeps IT deps, ct.2.1, dj, sp) ct en K) (zyruns (mi, zydeps IT deps, ct.2.1, dj, sp) ct en K K)))))) = true := h
  obtain ⟨h1, h2⟩ := zand_iff h
  obtain ⟨en1, hen1, h2⟩ := zget_iff h2
  dsimp only at hen hme ⊢
  rw [hen] at hen1
  cases hen1
  obtain ⟨k2, h3⟩ := zand_iff h2
  obtain ⟨k3, h4⟩ := zand_iff h3
  obtain ⟨k4, h5⟩ := zand_iff h4
  obtain ⟨k5, k6⟩ := zand_iff h5
  obtain ⟨me1, hme1, hOK⟩ := zall hen
  rw [hme] at hme1
  cases hme1
  cases K with
  | nil => cases k5
  | cons κ t =>
    have h5 : zand (Nat.beq κ.1 0) (zpad en.2.2.1 (zexp ct.1) (fun l2 => zyincl (mi, zydeps IT deps, ct.2.1, dj, sp) en.2.2.1 (0, []) l2 ct.2.2.2.2.1 κ)) = true := k5
    obtain ⟨k7, k8⟩ := zand_iff h5
    refine zycutT (P := (mi, zydeps IT deps, ct.2.1, dj, sp)) (J := J) hOK ?_ hJd (ct := ct) rfl (zbeqT k2) (zbeqT k3) (K := κ :: t) (κ0 := κ) (Lm := Lm) (n := 200000) List.mem_cons_self (zbeqT k7) (zywfs_iff k4) (zyruns_iff k6) k8
    intro y2 ct2 en2 me2 hct hen2 hme2
    obtain ⟨d, hdm, e1, e2⟩ := zydeps_iff hct
    have hco := hd d (zylow_iff' h1 d hdm)
    unfold zyCo at hco
    rw [e1, e2] at hco
    exact hco en2 me2 hen2 hme2
theorem zychks_iff {mi : zyB} {dj : zyR} {IT : List (List (List zyIn))} {a : Nat} : ∀ {n : Nat}, zychks mi dj IT a n = true → ∀ i, a ≤ i → i < a + n → zychk mi dj IT i (zyIg IT i) = true := by
  intro n
  induction n with
  | zero => intro _ i h1 h2; omega
  | succ n ih =>
    intro h i h1 h2
    have h : zand (zychk mi dj IT (a + n) (zyIg IT (a + n))) (zychks mi dj IT a n) = true := h
    obtain ⟨g1, g2⟩ := zand_iff h
    by_cases e : i = a + n
    · rw [e]
      exact g1
    · exact ih g2 i h1 (by omega)
