/-! CUTS: a method's contract out of runs between cuts. A cut: where, how many symbols, locals, bounds, what is known of the memory, a measure (0 and a number; 1 and a place that grows; 2 and a place that falls). The symbol of the i-th local is i, that of the j-th known element the number of locals and j. -/
abbrev zyKt : Type := Nat × Nat × List Nat × List (Nat × Nat) × List (Nat × Nat) × List (Nat × Nat)
noncomputable def zysym (i : Nat) : Nat := Nat.add (Nat.mul i 34359738368) 1
noncomputable def zyck (w : zW) (env : List (Nat × Nat)) (i code v : Nat) : Bool := zif (Nat.beq code (zysym i)) (znth (fun p => zbd w v (fun lo hi => zand (Nat.ble p.1 lo) (Nat.ble hi p.2))) env i) (zysub w v code)
noncomputable def zyinL (w : zW) (env : List (Nat × Nat)) (cls : List Nat) : Nat → List Nat → Bool := List.rec (motive := fun _ => Nat → List Nat → Bool) (fun _ ls => List.rec (motive := fun _ => Bool) true (fun _ _ _ => false) ls) (fun cl _ ih i ls => List.rec (motive := fun _ => Bool) false (fun a t _ => zand (zif (Nat.beq cl 13) true (zif (Nat.beq a 13) false (zyck w env i cl a))) (ih (Nat.succ i) t)) ls) cls
noncomputable def zyinC (w : zW) (B : zyB) (env : List (Nat × Nat)) (m : List (Nat × Nat)) (kc : List (Nat × Nat)) : Nat → Bool := List.rec (motive := fun _ => Nat → Bool) (fun _ => true) (fun p _ ih i => zand (zget B (Nat.div p.1 16384) (fun c => zif (Nat.ble (Nat.succ (Nat.mod p.1 16384)) (zylenB c)) (zylk (zyrw (fun v => zyck w env i p.2 v) (Nat.mod p.1 16384) (Nat.mod p.1 16384) c.2.2) (fun v => zyck w env i p.2 v) p.1 m) false)) (ih (Nat.succ i))) kc
noncomputable def zyinR (w : zW) (B : zyB) (kc : List (Nat × Nat)) (m : List (Nat × Nat)) : Bool := List.rec (motive := fun _ => Bool) true (fun p _ ih => zand (zylk (zget B (Nat.div p.1 16384) (fun c => zyall (fun code => zysub w p.2 code) (Nat.mod p.1 16384) (Nat.mod p.1 16384) c.2.2)) (fun _ => true) p.1 kc) ih) m
noncomputable def zyfl (p : Nat × Nat) : Bool := zand (Nat.beq p.1 0) (Nat.beq p.2 4294967295)
noncomputable def zywf1 (env : List (Nat × Nat)) (i code : Nat) : Bool := zif (Nat.beq code (zysym i)) true (zand (zif (Nat.beq (Nat.mod code 8) 1) false true) (znth zyfl env i))
noncomputable def zywfL (env : List (Nat × Nat)) (cls : List Nat) : Nat → Bool := List.rec (motive := fun _ => Nat → Bool) (fun _ => true) (fun cl _ ih i => zand (zywf1 env i cl) (ih (Nat.succ i))) cls
noncomputable def zywfC (env : List (Nat × Nat)) (kc : List (Nat × Nat)) : Nat → Bool := List.rec (motive := fun _ => Nat → Bool) (fun _ => true) (fun p _ ih i => zand (zywf1 env i p.2) (ih (Nat.succ i))) kc
noncomputable def zyln {α : Type} (l : List α) : Nat := List.rec (motive := fun _ => Nat) 0 (fun _ _ ih => Nat.succ ih) l
noncomputable def zywf (nL : Nat) (κ : zyKt) : Bool := zand (zywfL κ.2.2.2.1 κ.2.2.1 0) (zand (zywfC κ.2.2.2.1 κ.2.2.2.2.1 nL) (zand (Nat.beq (zyln κ.2.2.2.1) κ.2.1) (zand (Nat.beq (zyln κ.2.2.1) nL) (Nat.beq κ.2.1 (Nat.add nL (zyln κ.2.2.2.2.1))))))
noncomputable def zyincl (P : zyP) (nL : Nat) (w : zW) (ls : List Nat) (m : List (Nat × Nat)) (κ : zyKt) : Bool := zand (zyinL w κ.2.2.2.1 κ.2.2.1 0 ls) (zand (zyinC w P.1 κ.2.2.2.1 m κ.2.2.2.2.1 nL) (zyinR w P.1 κ.2.2.2.2.1 m))
/-! measures -/
noncomputable def zyloc (nL : Nat) (ls : List Nat) (kc m : List (Nat × Nat)) (an : Nat) (f : Nat → Bool) : Bool := zif (Nat.ble (Nat.succ an) nL) (znth f ls an) (znth (fun p => zylk false f p.1 m) kc (Nat.sub an nL))
noncomputable def zylex (w : zW) (No nL : Nat) (ls : List Nat) (kc m : List (Nat × Nat)) (new : List (Nat × Nat)) : List (Nat × Nat) → Bool := List.rec (motive := fun _ => List (Nat × Nat) → Bool) (fun _ => false) (fun n _ ih old => List.rec (motive := fun _ => Bool) false (fun o t _ =>
  zif (zand (Nat.beq n.1 0) (Nat.beq o.1 0)) (zif (zand (Nat.ble (Nat.succ n.2) o.2) (Nat.ble o.2 4294967295)) true (zif (Nat.beq n.2 o.2) (ih t) false))
  (zif (zand (Nat.beq n.1 o.1) (zand (zif (Nat.beq n.1 1) true (Nat.beq n.1 2)) (Nat.ble (Nat.succ o.2) No))) (zyloc nL ls kc m n.2 (fun v => zif (Nat.beq v (zysym o.2)) (ih t)
      (zand (Nat.beq (Nat.mod v 8) 1) (zand (Nat.beq (Nat.div v 34359738368) o.2) (znth (fun p => zif (Nat.beq n.1 1)
        (zand (Nat.ble 1 (Nat.mod (Nat.div v 8) 4294967296)) (zand (Nat.ble (Nat.mod (Nat.div v 8) 4294967296) 2147483647) (Nat.ble (Nat.add p.2 (Nat.mod (Nat.div v 8) 4294967296)) 4294967295)))
        (zand (Nat.ble 2147483648 (Nat.mod (Nat.div v 8) 4294967296)) (Nat.ble 4294967296 (Nat.add p.1 (Nat.mod (Nat.div v 8) 4294967296))))) w.2 o.2))))) false)) old) new
noncomputable def zystop (P : zyP) (nL : Nat) (K : List zyKt) (κ0 : zyKt) : zyK := fun w _ _ pc ls st _ fs m => List.rec (motive := fun _ => Bool) (List.rec (motive := fun _ => Bool) (List.rec (motive := fun _ => Bool) false (fun κ _ ih => zif (Nat.beq pc κ.1) (zif (zand (zyincl P nL w ls m.1 κ) (zylex w κ0.2.1 nL ls κ.2.2.2.2.1 m.1 κ.2.2.2.2.2 κ0.2.2.2.2.2)) true ih) ih) K) (fun _ _ _ => false) st) (fun _ _ _ => false) fs
noncomputable def zybt (P : zyP) (ct : zyCt) : zW → List Nat → zyM → Bool := fun w v m => zand (zyfitM w P.1 m.1) (zand (zysubL w v ct.2.2.1) (zypre w P.1 m.1 ct.2.2.2.2.2))
theorem zyln_eq {α : Type} : ∀ (l : List α), zyln l = l.length := by
  intro l
  induction l with
  | nil => rfl
  | cons a t ih =>
    have e : zyln (a :: t) = zyln t + 1 := rfl
    rw [e, ih, List.length_cons]
theorem zysym_def (i : Nat) : zysym i = i * 34359738368 + 1 := rfl
theorem zyck_iff {w : zW} {env : List (Nat × Nat)} {i code v : Nat} {ρ : Nat → Int32} {N : Nat} {ad : Nat → Nat} {x : Value} (h : zyck w env i code v = true) (hE : zEnv ρ w.2) (hv : zyv ρ N ad v x) : (code = zysym i ∧ ∃ (p : Nat × Nat) (n : Int32), env[i]? = some p ∧ x = .int n ∧ p.1 ≤ zB n ∧ zB n ≤ p.2) ∨ (¬ code = zysym i ∧ ¬ code % 8 = 1 ∧ ∀ (ρ2 : Nat → Int32) (N2 : Nat), zyv ρ2 N2 ad code x) := by
  unfold zyck at h
  rcases zif_iff h with ⟨h1, h⟩ | ⟨h1, h⟩
  · obtain ⟨p, hp, h⟩ := znth_iff h
    obtain ⟨n, lo, hi, rfl, b1, b2, h⟩ := zybd_iff h hE hv
    obtain ⟨g1, g2⟩ := zand_iff h
    have g1 := zbleT g1
    have g2 := zbleT g2
    exact Or.inl ⟨zbeqT h1, p, n, hp, rfl, by omega, by omega⟩
  · exact Or.inr ⟨zbeqF h1, (zysub_iff (ρ2 := ρ) (N2 := N) h hE hv).1, fun ρ2 N2 => (zysub_iff h hE hv).2⟩
theorem zyinL_iff {w : zW} {env : List (Nat × Nat)} : ∀ {cls : List Nat} {i : Nat} {ls : List Nat}, zyinL w env cls i ls = true → ∀ (j cl : Nat), cls[j]? = some cl → ¬ cl = 13 → ∃ a, ls[j]? = some a ∧ ¬ a = 13 ∧ zyck w env (i + j) cl a = true := by
  intro cls
  induction cls with
  | nil => intro i ls h j cl hc; simp at hc
  | cons c t ih =>
    intro i ls h j cl hc hn
    cases ls with
    | nil => cases h
    | cons a u =>
      have h : zand (zif (Nat.beq c 13) true (zif (Nat.beq a 13) false (zyck w env i c a))) (zyinL w env t (i + 1) u) = true := h
      obtain ⟨g1, g2⟩ := zand_iff h
      cases j with
      | zero =>
        rw [List.getElem?_cons_zero] at hc
        cases hc
        rcases zif_iff g1 with ⟨g3, -⟩ | ⟨-, g3⟩
        · exact absurd (zbeqT g3) hn
        rcases zif_iff g3 with ⟨-, g4⟩ | ⟨g4, g5⟩
        · cases g4
        · exact ⟨a, List.getElem?_cons_zero, zbeqF g4, g5⟩
      | succ j =>
        rw [List.getElem?_cons_succ] at hc
        obtain ⟨a2, q1, q2, q3⟩ := ih g2 j cl hc hn
        exact ⟨a2, by rw [List.getElem?_cons_succ]; exact q1, q2, by rw [show i + (j + 1) = i + 1 + j by omega]; exact q3⟩
theorem zyinC_iff {w : zW} {B : zyB} {env m : List (Nat × Nat)} : ∀ {kc : List (Nat × Nat)} {i : Nat}, zyinC w B env m kc i = true → ∀ (j : Nat) (p : Nat × Nat), kc[j]? = some p → ∃ c, zG B (p.1 / 16384) = some c ∧ p.1 % 16384 < zyLen c ∧ ∃ v, (zyl m p.1 = some v ∨ (zyl m p.1 = none ∧ ∃ r ∈ c.2.2, r.1 ≤ p.1 % 16384 ∧ p.1 % 16384 ≤ r.2.1 ∧ v = r.2.2)) ∧ zyck w env (i + j) p.2 v = true := by
  intro kc
  induction kc with
  | nil => intro i h j p hp; simp at hp
  | cons p0 t ih =>
    intro i h j p hp
    have h : zand (zget B (p0.1 / 16384) (fun c => zif (Nat.ble (p0.1 % 16384 + 1) (zylenB c)) (zylk (zyrw (fun v => zyck w env i p0.2 v) (p0.1 % 16384) (p0.1 % 16384) c.2.2) (fun v => zyck w env i p0.2 v) p0.1 m) false)) (zyinC w B env m t (i + 1)) = true := h
    obtain ⟨g1, g2⟩ := zand_iff h
    cases j with
    | zero =>
      rw [List.getElem?_cons_zero] at hp
      cases hp
      obtain ⟨c, hg, g3⟩ := zget_iff g1
      rcases zif_iff g3 with ⟨g4, g5⟩ | ⟨-, g5⟩
      · have g4 := zbleT g4
        rw [zylen_eq] at g4
        refine ⟨c, hg, by omega, ?_⟩
        rw [zylk_eq] at g5
        cases hq : zyl m p0.1 with
        | some v => rw [hq] at g5; exact ⟨v, Or.inl rfl, g5⟩
        | none =>
          rw [hq] at g5
          obtain ⟨r, q1, q2, q3, q4⟩ := zyrw_iff g5
          exact ⟨r.2.2, Or.inr ⟨rfl, r, q1, q2, q3, rfl⟩, q4⟩
      · cases g5
    | succ j =>
      rw [List.getElem?_cons_succ] at hp
      obtain ⟨c, q1, q2, v, q3, q4⟩ := ih g2 j p hp
      exact ⟨c, q1, q2, v, q3, by rw [show i + (j + 1) = i + 1 + j by omega]; exact q4⟩
theorem zyinR_iff {w : zW} {B : zyB} {kc : List (Nat × Nat)} : ∀ {m : List (Nat × Nat)}, zyinR w B kc m = true → ∀ key v, zyl m key = some v → zyl kc key = none → ∃ c, zG B (key / 16384) = some c ∧ ∀ r ∈ c.2.2, r.1 ≤ key % 16384 → key % 16384 ≤ r.2.1 → zysub w v r.2.2 = true := by
  intro m
  induction m with
  | nil => intro _ key v h; cases h
  | cons p t ih =>
    intro h key v hk hn
    have h : zand (zylk (zget B (p.1 / 16384) (fun c => zyall (fun code => zysub w p.2 code) (p.1 % 16384) (p.1 % 16384) c.2.2)) (fun _ => true) p.1 kc) (zyinR w B kc t) = true := h
    obtain ⟨g1, g2⟩ := zand_iff h
    rw [zyl_c] at hk
    by_cases q : p.1 = key
    · rw [if_pos q] at hk
      cases hk
      rw [q, zylk_eq, hn] at g1
      obtain ⟨c, q1, q2⟩ := zget_iff g1
      exact ⟨c, q1, fun r hr r1 r2 => zyall_iff q2 r hr _ (Nat.le_refl _) (Nat.le_refl _) r1 r2⟩
    · rw [if_neg q] at hk
      exact ih g2 key v hk hn
theorem zyl_ix {key v : Nat} : ∀ {l : List (Nat × Nat)}, zyl l key = some v → ∃ j : Nat, l[j]? = some (key, v) := by
  intro l
  induction l with
  | nil => intro h; cases h
  | cons p t ih =>
    intro h
    rw [zyl_c] at h
    by_cases q : p.1 = key
    · rw [if_pos q] at h
      cases h
      exact ⟨0, by rw [List.getElem?_cons_zero, ← q]⟩
    · rw [if_neg q] at h
      obtain ⟨j, hj⟩ := ih h
      exact ⟨j + 1, by rw [List.getElem?_cons_succ]; exact hj⟩
theorem zywf1_iff {env : List (Nat × Nat)} {i code : Nat} (h : zywf1 env i code = true) : code = zysym i ∨ (¬ code % 8 = 1 ∧ env[i]? = some (0, 4294967295)) := by
  unfold zywf1 at h
  simp only [zn_m] at h
  rcases zif_iff h with ⟨h1, -⟩ | ⟨-, h⟩
  · exact Or.inl (zbeqT h1)
  obtain ⟨h1, h2⟩ := zand_iff h
  have h1 := zbeqF (zyF_n h1)
  obtain ⟨p, q1, q2⟩ := znth_iff h2
  obtain ⟨g1, g2⟩ := zand_iff q2
  have g1 := zbeqT g1
  have g2 := zbeqT g2
  refine Or.inr ⟨h1, ?_⟩
  rw [q1]
  obtain ⟨p1, p2⟩ := p
  dsimp only at g1 g2
  rw [g1, g2]
theorem zywfL_iff {env : List (Nat × Nat)} : ∀ {cls : List Nat} {i : Nat}, zywfL env cls i = true → ∀ (j cl : Nat), cls[j]? = some cl → zywf1 env (i + j) cl = true := by
  intro cls
  induction cls with
  | nil => intro i h j cl hc; simp at hc
  | cons c t ih =>
    intro i h j cl hc
    have h : zand (zywf1 env i c) (zywfL env t (i + 1)) = true := h
    obtain ⟨g1, g2⟩ := zand_iff h
    cases j with
    | zero => rw [List.getElem?_cons_zero] at hc; cases hc; exact g1
    | succ j =>
      rw [List.getElem?_cons_succ] at hc
      rw [show i + (j + 1) = i + 1 + j by omega]
      exact ih g2 j cl hc
theorem zywfC_iff {env : List (Nat × Nat)} : ∀ {kc : List (Nat × Nat)} {i : Nat}, zywfC env kc i = true → ∀ (j : Nat) (p : Nat × Nat), kc[j]? = some p → zywf1 env (i + j) p.2 = true := by
  intro cls
  induction cls with
  | nil => intro i h j cl hc; simp at hc
  | cons c t ih =>
    intro i h j cl hc
    have h : zand (zywf1 env i c.2) (zywfC env t (i + 1)) = true := h
    obtain ⟨g1, g2⟩ := zand_iff h
    cases j with
    | zero => rw [List.getElem?_cons_zero] at hc; cases hc; exact g1
    | succ j =>
      rw [List.getElem?_cons_succ] at hc
      rw [show i + (j + 1) = i + 1 + j by omega]
      exact ih g2 j cl hc
/-- what the cut's symbols are -/
noncomputable def zyrho (B : zyB) (Y : zCx) (H : Heap) (nL : Nat) (lsA : Array Slot) (kc : List (Nat × Nat)) : Nat → Int32 := fun i => if i < nL then (match lsA[i]? with
  | some (.val (.int x)) => x
  | _ => 0) else (match kc[i - nL]? with
  | some p => (match zyEl B Y H (p.1 / 16384) (p.1 % 16384) with
    | some (.int x) => x
    | _ => 0)
  | none => 0)
theorem zyrho_l {B : zyB} {Y : zCx} {H : Heap} {nL i : Nat} {lsA : Array Slot} {kc : List (Nat × Nat)} {x : Int32} (hi : i < nL) (h : lsA[i]? = some (.val (.int x))) : zyrho B Y H nL lsA kc i = x := by
  unfold zyrho
  rw [if_pos hi, h]
theorem zyrho_c {B : zyB} {Y : zCx} {H : Heap} {nL j : Nat} {lsA : Array Slot} {kc : List (Nat × Nat)} {p : Nat × Nat} {x : Int32} (hp : kc[j]? = some p) (h : zyEl B Y H (p.1 / 16384) (p.1 % 16384) = some (.int x)) : zyrho B Y H nL lsA kc (nL + j) = x := by
  unfold zyrho
  rw [if_neg (by omega), show nL + j - nL = j by omega, hp]
  dsimp only
  rw [h]
theorem zyv_sym {ρ : Nat → Int32} {N : Nat} {ad : Nat → Nat} {i : Nat} {x : Int32} (hi : i < N) (h : ρ i = x) : zyv ρ N ad (zysym i) (.int x) := by
  rw [zysym_def]
  refine Or.inl ⟨Or.inr (Or.inl ⟨by omega, ?_⟩), fun _ => by omega, fun q => by omega⟩
  have e5 : (i * 34359738368 + 1) / 34359738368 = i := by omega
  have e6 : (i * 34359738368 + 1) / 8 % 4294967296 = 0 := by omega
  rw [e5, e6, h]
  congr 1
  show x = x + 0
  rw [Int32.add_zero]
/-- a state within a cut -/
theorem zycutR {P : zyP} {X : zyX} {s : State} {nL : Nat} {d : Nat × Nat × Nat} {w : zW} {ls : List Nat} {q : zQ} {m : zyM} {H : Heap} {locs : List Loc} {lsA : Array Slot} {κ : zyKt} (hR : zyRl P X s nL d w ls [] q m H locs lsA []) (hi : zyincl P nL w ls m.1 κ = true) (hwf : zywf nL κ = true) :
    zyRl P (zyb X, zyrho P.1 (zyb X) H nL lsA κ.2.2.2.2.1, κ.2.1, zyrho P.1 (zyb X) H nL lsA κ.2.2.2.2.1, κ.2.1, X.2.2.2.2.2.1, zyJ X) s nL d (κ.2.1, κ.2.2.2.1) κ.2.2.1 [] q (κ.2.2.2.2.1, []) H locs lsA [] := by
  obtain ⟨kpc, kN, kls, kenv, kc, kmu⟩ := κ
  obtain ⟨h1, h2⟩ := zand_iff hi
  obtain ⟨h2, h3⟩ := zand_iff h2
  obtain ⟨f1, f2⟩ := zand_iff hwf
  obtain ⟨f2, f3⟩ := zand_iff f2
  obtain ⟨f3, f4⟩ := zand_iff f3
  obtain ⟨f4, f5⟩ := zand_iff f4
  have f3 := zbeqT f3
  have f4 := zbeqT f4
  have f5 := zbeqT f5
  rw [zyln_eq] at f3 f4
  rw [show Nat.add nL (zyln kc) = nL + zyln kc from rfl, zyln_eq] at f5
  dsimp only at h1 h2 h3 f1 f2 f3 f4 f5 ⊢
  have hloc : ∀ (i cl : Nat), kls[i]? = some cl → ¬ cl = 13 → ∃ (a : Nat) (x : Value), ls[i]? = some a ∧ zyV X a x ∧ lsA[i]? = some (.val x) ∧ ((cl = zysym i ∧ ∃ (p : Nat × Nat) (n : Int32), kenv[i]? = some p ∧ x = .int n ∧ p.1 ≤ zB n ∧ zB n ≤ p.2) ∨ (¬ cl = zysym i ∧ ¬ cl % 8 = 1 ∧ ∀ (ρ2 : Nat → Int32) (N2 : Nat), zyv ρ2 N2 (zad (zyb X)) cl x)) := by
    intro i cl hc hn
    obtain ⟨a, q1, q2, q3⟩ := zyinL_iff h1 i cl hc hn
    rw [Nat.zero_add] at q3
    obtain ⟨x, g1, g2⟩ := hR.2.2.2.1.2.2.2 i a q1 q2
    exact ⟨a, x, q1, g2, g1, zyck_iff q3 hR.1.1 g2⟩
  have hcell : ∀ (j : Nat) (p : Nat × Nat), kc[j]? = some p → ∃ (c : zyCl) (x : Value), zG P.1 (p.1 / 16384) = some c ∧ p.1 % 16384 < zyLen c ∧ zyEl P.1 (zyb X) H (p.1 / 16384) (p.1 % 16384) = some x ∧ ((p.2 = zysym (nL + j) ∧ ∃ (e : Nat × Nat) (n : Int32), kenv[nL + j]? = some e ∧ x = .int n ∧ e.1 ≤ zB n ∧ zB n ≤ e.2) ∨ (¬ p.2 = zysym (nL + j) ∧ ¬ p.2 % 8 = 1 ∧ ∀ (ρ2 : Nat → Int32) (N2 : Nat), zyv ρ2 N2 (zad (zyb X)) p.2 x)) := by
    intro j p hp
    obtain ⟨c, q1, q2, v, q3, q4⟩ := zyinC_iff h2 j p hp
    obtain ⟨x, g1, g2⟩ := hR.2.1.2.1 _ c _ q1 q2
    refine ⟨c, x, q1, q2, g1, ?_⟩
    have hv : zyV X v x := by
      unfold zyEt at g2
      have e1 : p.1 / 16384 * 16384 + p.1 % 16384 = p.1 := by omega
      rw [e1] at g2
      rcases q3 with q3 | ⟨q3, r, r1, r2, r3, r4⟩
      · rw [q3] at g2
        exact g2
      · rw [q3] at g2
        rw [r4]
        exact (g2 r r1 r2 r3).2
    exact zyck_iff q4 hR.1.1 hv
  have hlsl : ls.length = nL := hR.2.2.2.1.1
  refine ⟨⟨?_, rfl, ⟨Nat.le_refl _, fun _ _ => rfl⟩, fun f hf => by cases hf⟩, ⟨hR.2.1.1, fun a c k hg hk => ?_, hR.2.1.2.2⟩, hR.2.2.1, ⟨f4, hR.2.2.2.1.2.1, hR.2.2.2.1.2.2.1, fun i cl hc hn => ?_⟩, trivial, hR.2.2.2.2.2⟩
  · intro i p hp
    dsimp only at hp ⊢
    have hil : i < kenv.length := (List.getElem?_eq_some_iff.mp hp).1
    by_cases hi2 : i < nL
    · obtain ⟨cl, hcl⟩ : ∃ cl, kls[i]? = some cl := ⟨kls[i]'(by omega), List.getElem?_eq_getElem (by omega)⟩
      rcases zywf1_iff (zywfL_iff f1 i cl hcl) with e1 | ⟨-, e1⟩
      · rw [Nat.zero_add] at e1
        have hn : ¬ cl = 13 := by
          rw [e1, zysym_def]
          omega
        obtain ⟨a, x, q1, q2, q3, q4⟩ := hloc i cl hcl hn
        rcases q4 with ⟨-, p2, n, g1, g2, g3, g4⟩ | ⟨q4, -⟩
        · rw [hp] at g1
          cases g1
          rw [g2] at q3
          have e9 := zyrho_l (B := P.1) (Y := zyb X) (H := H) (kc := kc) hi2 q3
          show p.1 ≤ zB (zyrho P.1 (zyb X) H nL lsA kc i) ∧ zB (zyrho P.1 (zyb X) H nL lsA kc i) ≤ p.2
          rw [e9]
          exact ⟨g3, g4⟩
        · exact absurd e1 q4
      · rw [Nat.zero_add, hp] at e1
        cases e1
        exact zyfull _
    · obtain ⟨j, rfl⟩ : ∃ j, i = nL + j := ⟨i - nL, by omega⟩
      obtain ⟨pc, hpc⟩ : ∃ pc, kc[j]? = some pc := ⟨kc[j]'(by omega), List.getElem?_eq_getElem (by omega)⟩
      rcases zywf1_iff (zywfC_iff f2 j pc hpc) with e1 | ⟨-, e1⟩
      · obtain ⟨c, x, q1, q2, q3, q4⟩ := hcell j pc hpc
        rcases q4 with ⟨-, p2, n, g1, g2, g3, g4⟩ | ⟨q4, -⟩
        · rw [hp] at g1
          cases g1
          rw [g2] at q3
          have e9 := zyrho_c (nL := nL) (lsA := lsA) hpc q3
          show p.1 ≤ zB (zyrho P.1 (zyb X) H nL lsA kc (nL + j)) ∧ zB (zyrho P.1 (zyb X) H nL lsA kc (nL + j)) ≤ p.2
          rw [e9]
          exact ⟨g3, g4⟩
        · exact absurd e1 q4
      · rw [hp] at e1
        cases e1
        exact zyfull _
  · obtain ⟨x, g1, g2⟩ := hR.2.1.2.1 a c k hg hk
    have hl := zyLen_le hR.2.1 hg
    have e1 : (a * 16384 + k) / 16384 = a := by omega
    have e2 : (a * 16384 + k) % 16384 = k := by omega
    refine ⟨x, g1, ?_⟩
    unfold zyEt
    dsimp only
    cases hq : zyl kc (a * 16384 + k) with
    | some code =>
      obtain ⟨j, hj⟩ := zyl_ix hq
      obtain ⟨c2, x2, q1, q2, q3, q4⟩ := hcell j _ hj
      dsimp only at q1 q2 q3 q4
      rw [e1, e2] at q3
      rw [g1] at q3
      cases q3
      have hjl : j < kc.length := (List.getElem?_eq_some_iff.mp hj).1
      rcases q4 with ⟨q5, p2, n, r1, r2, r3, r4⟩ | ⟨-, -, q5⟩
      · show zyv _ _ _ code x
        rw [q5, r2]
        refine zyv_sym (show nL + j < kN by omega) (zyrho_c hj ?_)
        dsimp only
        rw [e1, e2, g1, r2]
      · exact q5 _ _
    | none =>
      intro r hr r1 r2
      unfold zyEt at g2
      cases hq2 : zyl m.1 (a * 16384 + k) with
      | none =>
        rw [hq2] at g2
        exact ⟨(g2 r hr r1 r2).1, zyv_cl (g2 r hr r1 r2).1 (g2 r hr r1 r2).2⟩
      | some v =>
        rw [hq2] at g2
        obtain ⟨c2, y1, y2⟩ := zyinR_iff h3 _ v hq2 hq
        rw [e1, hg] at y1
        cases y1
        rw [e2] at y2
        exact zysub_iff (y2 r hr r1 r2) hR.1.1 g2
  · obtain ⟨a, x, q1, q2, q3, q4⟩ := hloc i cl hc hn
    have hil : i < kls.length := (List.getElem?_eq_some_iff.mp hc).1
    refine ⟨x, q3, ?_⟩
    rcases q4 with ⟨q5, p2, n, r1, r2, r3, r4⟩ | ⟨-, -, q5⟩
    · show zyv _ _ _ cl x
      rw [q5, r2]
      rw [r2] at q3
      exact zyv_sym (show i < kN by omega) (zyrho_l (by omega) q3)
    · exact q5 _ _
