/-! FROM A STOP: to the next phase, by a call, by an element stored -/
def xcs (v : Nat → Int) : List Nat → List Int → Prop
  | [], _ => True
  | _ :: _, [] => False
  | c :: cs, a :: L => xc v c = a ∧ xcs v cs L
theorem xcs_n {v : Nat → Int} {L : List Int} : xcs v [] L := trivial
theorem xcs_c {v : Nat → Int} {c : Nat} {cs : List Nat} {a : Int} {L : List Int} (h : xc v c = a) (t : xcs v cs L) : xcs v (c :: cs) (a :: L) := ⟨h, t⟩
theorem xcs_g {ρ : Nat → Int32} {v : Nat → Int} {Bd : List (Nat × Nat × Nat)} (hv : ∀ k, xI (ρ k) = v k) (hB : xBd ρ Bd) : ∀ {cs : List Nat} {L : List Int}, xcs v cs L → cs.all (xofB Bd) = true → ∀ i, i < cs.length → xI (zyw ρ (zyag cs i)) = xfv L i := by
  intro cs
  induction cs with
  | nil => intro L _ _ i hi; exact absurd hi (Nat.not_lt_zero i)
  | cons c t ih =>
    intro L h hk i hi
    rw [List.all_cons, Bool.and_eq_true] at hk
    cases L with
    | nil => exact h.elim
    | cons a L =>
      cases i with
      | zero => exact (xofB_iff hv hB hk.1).trans h.1
      | succ i => exact ih h.2 hk.2 i (by rw [List.length_cons] at hi; omega)
theorem xcs_m {ρ : Nat → Int32} {v : Nat → Int} {Bd : List (Nat × Nat × Nat)} (hv : ∀ k, xI (ρ k) = v k) (hB : xBd ρ Bd) : ∀ {cs : List Nat} {L : List Int}, xcs v cs L → cs.all (xofB Bd) = true → L.length = cs.length → (cs.map (zyw ρ)).map xI = L := by
  intro cs
  induction cs with
  | nil =>
    intro L _ _ hl
    exact (List.length_eq_zero_iff.mp hl).symm
  | cons c t ih =>
    intro L h hk hl
    rw [List.all_cons, Bool.and_eq_true] at hk
    cases L with
    | nil => cases hl
    | cons a L =>
      rw [List.length_cons, List.length_cons] at hl
      rw [List.map_cons, List.map_cons, ih h.2 hk.2 (by omega), xofB_iff hv hB hk.1, h.1]
def xEnvL : List Int → List (Nat × Nat) → Prop
  | [], [] => True
  | a :: L, p :: e => ((p.1 : Int) ≤ a + 2147483648 ∧ a + 2147483648 ≤ (p.2 : Int) ∧ p.2 ≤ 4294967295) ∧ xEnvL L e
  | [], _ :: _ => False
  | _ :: _, [] => False
theorem xe_n : xEnvL [] [] := trivial
theorem xe_c {a : Int} {L : List Int} {lo hi : Nat} {e : List (Nat × Nat)} (h1 : (lo : Int) ≤ a + 2147483648) (h2 : a + 2147483648 ≤ (hi : Int)) (h3 : Nat.ble hi 4294967295 = true) (t : xEnvL L e) : xEnvL (a :: L) ((lo, hi) :: e) := ⟨⟨h1, h2, Nat.le_of_ble_eq_true h3⟩, t⟩
theorem xe_0 {L : List Int} {e : List (Nat × Nat)} (t : xEnvL L e) : xEnvL (0 :: L) ((0, 4294967295) :: e) := ⟨⟨by show ((0 : Nat) : Int) ≤ 0 + 2147483648; omega, by show (0 : Int) + 2147483648 ≤ ((4294967295 : Nat) : Int); omega, Nat.le_refl _⟩, t⟩
theorem xe_f {a : Int} {L : List Int} {e : List (Nat × Nat)} (h : -2147483648 ≤ a ∧ a < 2147483648) (t : xEnvL L e) : xEnvL (a :: L) ((0, 4294967295) :: e) := ⟨⟨by show ((0 : Nat) : Int) ≤ a + 2147483648; omega, by show a + 2147483648 ≤ ((4294967295 : Nat) : Int); omega, Nat.le_refl _⟩, t⟩
theorem xe_env : ∀ {L : List Int} {e : List (Nat × Nat)}, xEnvL L e → xEnv (xfv L) e ∧ xRg (xfv L) := by
  intro L
  induction L with
  | nil =>
    intro e h
    cases e with
    | nil => exact ⟨fun k p hp => by simp at hp, fun k => by show -2147483648 ≤ (0 : Int) ∧ (0 : Int) < 2147483648; omega⟩
    | cons p t => exact h.elim
  | cons a L ih =>
    intro e h
    cases e with
    | nil => exact h.elim
    | cons p t =>
      obtain ⟨⟨h1, h2, h3⟩, h4⟩ := h
      obtain ⟨g1, g2⟩ := ih h4
      refine ⟨fun k q hq => ?_, fun k => ?_⟩
      · cases k with
        | zero =>
          have hq : some p = some q := hq
          cases hq
          exact ⟨h1, h2⟩
        | succ k =>
          rw [List.getElem?_cons_succ] at hq
          exact g1 k q hq
      · cases k with
        | zero => show -2147483648 ≤ a ∧ a < 2147483648; omega
        | succ k => exact g2 k
/-- the next phase's known elements: ints, references -/
def xkq (mi : zyB) (B : zCx) (E : zyEm) (L : List Int) (n : Nat) : List (Nat × Nat) → Prop
  | [] => True
  | p :: t => ((∃ c, zG mi (p.1 / 16384) = some c ∧ p.1 % 16384 < zyLen c) ∧ (((∃ x : Int32, E (p.1 / 16384) (p.1 % 16384) = some (.int x) ∧ xI x = xfv L (p.2 / 34359738368)) ∧ p.2 % 34359738368 = 1 ∧ p.2 / 34359738368 < n) ∨ (p.2 % 8 = 3 ∧ E (p.1 / 16384) (p.1 % 16384) = some (.ref (zad B (p.2 / 8)))))) ∧ xkq mi B E L n t
theorem xkq_n {mi : zyB} {B : zCx} {E : zyEm} {L : List Int} {n : Nat} : xkq mi B E L n [] := trivial
theorem xkq_c {mi : zyB} {B : zCx} {E : zyEm} {L : List Int} {n : Nat} {key code : Nat} {t : List (Nat × Nat)} (hT : zyTy mi E) (a k : Nat) {q : Nat} {c : zyCl} {r : Nat × Nat × Nat} (ha : key / 16384 = a) (hk0 : key % 16384 = k) (hg : zG mi a = some c) (hk : Nat.ble (Nat.succ k) (zyLen c) = true) (hr : c.2.2[q]? = some r) (h1 : Nat.ble r.1 k = true) (h2 : Nat.ble k r.2.1 = true) (h3 : Nat.beq (Nat.mod r.2.2 8) 2 = true) (hL : xfv L (code / 34359738368) = xE E a (k : Int)) (hc : code % 34359738368 = 1) (hn : Nat.ble (Nat.succ (code / 34359738368)) n = true) (ht : xkq mi B E L n t) : xkq mi B E L n ((key, code) :: t) := by
  subst ha
  subst hk0
  have h3 : r.2.2 % 8 = 2 := Nat.eq_of_beq_eq_true h3
  obtain ⟨x, e, -⟩ := xTy hT hg (Nat.le_of_ble_eq_true hk) hr (Nat.le_of_ble_eq_true h1) (Nat.le_of_ble_eq_true h2) h3
  exact ⟨⟨⟨c, hg, Nat.le_of_ble_eq_true hk⟩, Or.inl ⟨⟨x, e, by show xI x = xfv L (code / 34359738368); rw [hL, xE_s e (Int.toNat_natCast _)]⟩, hc, Nat.le_of_ble_eq_true hn⟩⟩, ht⟩
theorem xkq_r {mi : zyB} {B : zCx} {E : zyEm} {L : List Int} {n : Nat} {key code : Nat} {t : List (Nat × Nat)} (a k q : Nat) {c : zyCl} (ha : key / 16384 = a) (hk0 : key % 16384 = k) (hg : zG mi a = some c) (hk : Nat.ble (Nat.succ k) (zyLen c) = true) (hc : code = 8 * q + 3) (hE : E a k = some (.ref (zad B q))) (ht : xkq mi B E L n t) : xkq mi B E L n ((key, code) :: t) := by
  subst ha
  subst hk0
  subst hc
  exact ⟨⟨⟨c, hg, Nat.le_of_ble_eq_true hk⟩, Or.inr ⟨by show (8 * q + 3) % 8 = 3; omega, by show _ = some (Value.ref (zad B ((8 * q + 3) / 8))); rw [show (8 * q + 3) / 8 = q by omega]; exact hE⟩⟩, ht⟩
theorem xkq_k {mi : zyB} {B : zCx} {H : Heap} {L : List Int} {n : Nat} (hr : xRg (xfv L)) : ∀ {kc : List (Nat × Nat)}, xkq mi B (zyEl mi B H) L n kc → ∀ p ∈ kc, ∃ (c : zyCl) (w : Value), zG mi (p.1 / 16384) = some c ∧ p.1 % 16384 < zyLen c ∧ zyEl mi B H (p.1 / 16384) (p.1 % 16384) = some w ∧ zyv (fun k => Int32.ofInt (xfv L k)) n (zad B) p.2 w := by
  intro kc
  induction kc with
  | nil => intro _ p hp; cases hp
  | cons a t ih =>
    intro h p hp
    rcases List.mem_cons.mp hp with e | e
    · obtain ⟨⟨⟨c, h1, h2⟩, h3⟩, -⟩ := h
      subst e
      rcases h3 with ⟨⟨x, h3, h4⟩, h5, h6⟩ | ⟨h5, h3⟩
      · refine ⟨c, _, h1, h2, h3, ?_⟩
        have e : p.2 = zysym (p.2 / 34359738368) := by rw [zysym_def]; omega
        rw [e]
        refine zyv_sym h6 ?_
        rw [← h4]
        exact xofI x
      · exact ⟨c, _, h1, h2, h3, Or.inl ⟨Or.inr (Or.inr (Or.inr (Or.inl ⟨h5, rfl⟩))), fun q => by omega, fun q => by omega⟩⟩
    · exact ih h.2 p e
/-- the next phase's stack -/
def xst (Bd : List (Nat × Nat × Nat)) (v : Nat → Int) (L : List Int) (n : Nat) : List Nat → List Nat → Prop
  | [], [] => True
  | c2 :: t2, c1 :: t1 => ((c2 % 8 = 3 ∧ c1 = c2) ∨ (c2 = zysym (c2 / 34359738368) ∧ c2 / 34359738368 < n ∧ c1 % 8 ≤ 1 ∧ xofB Bd c1 = true ∧ xc v c1 = xfv L (c2 / 34359738368))) ∧ xst Bd v L n t2 t1
  | [], _ :: _ => False
  | _ :: _, [] => False
theorem xst_n {Bd : List (Nat × Nat × Nat)} {v : Nat → Int} {L : List Int} {n : Nat} : xst Bd v L n [] [] := trivial
theorem xst_r {Bd : List (Nat × Nat × Nat)} {v : Nat → Int} {L : List Int} {n c : Nat} {t2 t1 : List Nat} (h : Nat.beq (Nat.mod c 8) 3 = true) (t : xst Bd v L n t2 t1) : xst Bd v L n (c :: t2) (c :: t1) := ⟨Or.inl ⟨Nat.eq_of_beq_eq_true h, rfl⟩, t⟩
theorem xst_s {Bd : List (Nat × Nat × Nat)} {v : Nat → Int} {L : List Int} {n c2 c1 : Nat} {t2 t1 : List Nat} (k : Nat) (hk : c2 = zysym k) (hn : Nat.ble (Nat.succ k) n = true) (h8 : Nat.ble (Nat.mod c1 8) 1 = true) (ho : xofB Bd c1 = true) (h : xc v c1 = xfv L k) (t : xst Bd v L n t2 t1) : xst Bd v L n (c2 :: t2) (c1 :: t1) := by
  have e : c2 / 34359738368 = k := by rw [hk, zysym_def]; omega
  exact ⟨Or.inr ⟨by rw [e]; exact hk, by rw [e]; exact Nat.le_of_ble_eq_true hn, Nat.le_of_ble_eq_true h8, ho, by rw [e]; exact h⟩, t⟩
theorem xst_g {B : zCx} {ρ : Nat → Int32} {v : Nat → Int} {Bd : List (Nat × Nat × Nat)} {L : List Int} {n N : Nat} (hv : ∀ k, xI (ρ k) = v k) (hB : xBd ρ Bd) (hr : xRg (xfv L)) : ∀ {s2 s1 : List Nat} {q : List Value}, xst Bd v L n s2 s1 → zySt (zyXn B ρ N) s1 q → zySt (zyXn B (fun k => Int32.ofInt (xfv L k)) n) s2 q := by
  intro s2
  induction s2 with
  | nil =>
    intro s1 q h hs
    cases s1 with
    | nil => rw [zySt_n hs]; trivial
    | cons a t => exact h.elim
  | cons c2 t2 ih =>
    intro s1 q h hs
    cases s1 with
    | nil => exact h.elim
    | cons c1 t1 =>
      obtain ⟨b, u, rfl, g1, g2⟩ := zySt_c hs
      refine ⟨?_, ih h.2 g2⟩
      rcases h.1 with ⟨e1, e2⟩ | ⟨e1, e2, e3, e4, e5⟩
      · rw [e2] at g1
        exact zyv_cl (by omega) g1
      · obtain ⟨z, rfl⟩ := zyv_int g1 (by omega)
        rw [e1]
        refine zyv_sym e2 ?_
        show Int32.ofInt (xfv L (c2 / 34359738368)) = z
        rw [← e5, ← xofB_iff hv hB e4, show zyw ρ c1 = z from (zyw_of g1 e3).symm]
        exact xofI z
theorem xTyF {mi : zyB} {E : zyEm} (hT : zyTy mi E) (a k q : Nat) {c : zyCl} {r : Nat × Nat × Nat} (hg : zG mi a = some c) (hk : Nat.ble (Nat.succ k) (zyLen c) = true) (hr : c.2.2[q]? = some r) (h1 : Nat.ble r.1 k = true) (h2 : Nat.ble k r.2.1 = true) (h3 : Nat.beq (Nat.mod r.2.2 8) 2 = true) : ((r.2.2 / 34359738368 : Nat) : Int) ≤ xE E a (k : Int) + 2147483648 ∧ xE E a (k : Int) + 2147483648 ≤ ((r.2.2 / 8 % 4294967296 : Nat) : Int) := by
  have h3 : r.2.2 % 8 = 2 := Nat.eq_of_beq_eq_true h3
  obtain ⟨x, e, b1, b2⟩ := xTy hT hg (Nat.le_of_ble_eq_true hk) hr (Nat.le_of_ble_eq_true h1) (Nat.le_of_ble_eq_true h2) h3
  rw [xE_s e (Int.toNat_natCast _)]
  exact ⟨b1, b2⟩
section XGO
variable {l : Launch} {mi : zyB} {en : zEn} {dep : Nat} {B : zCx} {s : State} {fpm : zyR} {ι : Type} {φ : ι → zyPh} {Inv : ι → (Nat → Int) → zyEm → Prop} {Mu : ι → (Nat → Int) → zyEm → Nat} {M : Nat} {Wg : zyWt} {x : zyXp} {ρ2 : Nat → Int32} {v2 : Nat → Int} {N : Nat} {H : Heap} {locs : List Loc} {lsB : Array Slot} {stA : List Value}
/-- what a jump to a phase wants, but for the stack, the invariant, the measure -/
def xJ (mi : zyB) (B : zCx) (nL : Nat) (x : zyXp) (v2 : Nat → Int) (φ2 : zyPh) (E : zyEm) (cs : List Nat) (L : List Int) : Prop := zygoB nL x.2.1 φ2 cs = true ∧ (cs.length = nL ∧ cs.all (xofB x.2.2.2.2.1) = true) ∧ xcs v2 cs L ∧ xEnvL L φ2.2.2.1 ∧ xkq mi B E L φ2.2.2.1.length φ2.2.2.2.1
theorem xJ_s {nL : Nat} (hAt : zyAt mi B s nL x ρ2 N H locs lsB stA) (hB : xBd ρ2 x.2.2.2.2.1) (hv : ∀ k, xI (ρ2 k) = v2 k) {φ2 : zyPh} {cs : List Nat} {L : List Int} {H' : Heap} {locs' : List Loc} {stB : List Value} (hJ : xJ mi B nL x v2 φ2 (zyEl mi B H') cs L) (hlo : ∀ x ∈ locs', zbs B ≤ x.base) (hst : zySt (zyXn B (fun k => Int32.ofInt (xfv L k)) φ2.2.2.1.length) φ2.2.2.2.2 stB) : zySs mi B nL φ2 (fun k => Int32.ofInt (xfv L k)) H' locs' lsB stB := by
  obtain ⟨h1, ⟨h2, h3⟩, h4, h5, h6⟩ := hJ
  obtain ⟨g1, g2⟩ := xe_env h5
  refine zyAss hAt h1 (fun i hi => ?_) (xEnv_z g2 g1) hlo hst (xkq_k g2 h6)
  have e := xcs_g hv hB h4 h3 i (by omega)
  rw [← e]
  exact xofI _
theorem xGo {nL : Nat} (hIH : xIH mi nL B s fpm φ Inv Mu M Wg) (hAt : zyAt mi B s nL x ρ2 N H locs lsB stA) (hB : xBd ρ2 x.2.2.2.2.1) (hv : ∀ k, xI (ρ2 k) = v2 k) (hFr : xFr fpm (zyEl mi B s.heap) (zyEl mi B H)) (i2 : ι) (cs : List Nat) (L : List Int) (hpc : x.1 = (φ i2).1) (hJ : xJ mi B nL x v2 (φ i2) (zyEl mi B H) cs L) (hst : xst x.2.2.2.2.1 v2 L (φ i2).2.2.1.length (φ i2).2.2.2.2 x.2.2.1) (hInv : Inv i2 (xfv L) (zyEl mi B H)) (hMu : Mu i2 (xfv L) (zyEl mi B H) < M) : Wg H locs x.1 lsB stA := by
  rw [hpc]
  have g2 := (xe_env hJ.2.2.2.1).2
  exact hIH i2 (xfv L) H locs lsB stA hAt.1 hAt.2.1 hFr g2 hInv (xJ_s hAt hB hv hJ hAt.2.2.1 (xst_g hv hB g2 hst hAt.2.2.2.2.2)) hMu
theorem xrefs_st {ps : List Nat} : ∀ {q : List Value}, zySt (zyXn B ρ2 N) (ps.map fun p => 8 * p + 3) q → q = ps.map fun p => Value.ref (zad B p) := by
  induction ps with
  | nil => intro q h; exact zySt_n h
  | cons a t ih =>
    intro q h
    obtain ⟨b, u, rfl, h1, h2⟩ := zySt_c h
    have e := zyv_3 (v := 8 * a + 3) h1 (by omega)
    rw [show (8 * a + 3) / 8 = a by omega] at e
    rw [e, ih h2]
    rfl
theorem xrefs_rev {ps : List Nat} : (ps.map fun p => 8 * p + 3).reverse = (ps.reverse).map fun p => 8 * p + 3 := (List.map_reverse).symm
theorem xcat {cr : List Nat} : ∀ {q : List Value}, (∀ c ∈ cr, c % 8 ≤ 1 ∨ c % 8 = 3) → zySt (zyXn B ρ2 N) cr q → (q.map fun v => v.category).sum = cr.length := by
  induction cr with
  | nil => intro q _ h; rw [zySt_n h]; rfl
  | cons a t ih =>
    intro q hk h
    obtain ⟨b, u, rfl, h1, h2⟩ := zySt_c h
    have e := ih (fun c hc => hk c (List.mem_cons_of_mem _ hc)) h2
    rw [List.map_cons, List.sum_cons, e, List.length_cons]
    rcases hk a List.mem_cons_self with h3 | h3
    · obtain ⟨z, rfl⟩ := zyv_int h1 (by omega)
      show 1 + t.length = t.length + 1
      omega
    · rw [zyv_3 h1 h3]
      show 1 + t.length = t.length + 1
      omega
/-- a call -/
theorem xCa (hRu : xRu l mi en dep B s Wg) (hIH : xIH mi en.2.2.1 B s fpm φ Inv Mu M Wg) (hAt : zyAt mi B s en.2.2.1 x ρ2 N H locs lsB stA) (hB : xBd ρ2 x.2.2.2.2.1) (hv : ∀ k, xI (ρ2 k) = v2 k) (hFr : xFr fpm (zyEl mi B s.heap) (zyEl mi B H)) {en2 : zEn} {me2 : zMe} {dep2 na2 p0 : Nat} {ps2 : List Nat} {fp2 : zyR} {rt2 : Bool} {Φ2 : (Nat → Int) → zyEm → Prop} {Ψ2 : (Nat → Int) → zyEm → zyEm → Int → Prop} (hFc : xFcB l mi B en2 me2 dep2 (p0 :: ps2) na2 fp2 rt2 Φ2 Ψ2) {ix ax : Nat} (hrow : en.1 x.1 = (.invokevirtual ix, x.1 + 3, ax)) (hkd : zG zKd (ax / 16) = some 0) (hen2 : zG zxMeta (ax / 16) = some en2) (hme2 : zG zMeth (ax / 16) = some me2) (hcl : ∃ c, zG mi p0 = some c ∧ c.1 = en2.2.2.2.1 ∧ c.1 < 12) (hsh : en2.2.1 = na2 + 1 + ps2.length ∧ en2.2.2.2.2.2.1 = 0 ∧ en2.2.2.2.2.2.2.1 = 0) (hdp : dep2 + 1 ≤ dep) (cs2 cr : List Nat) (A : List Int) (hst : x.2.2.1 = cs2.reverse ++ (((p0 :: ps2).map fun p => 8 * p + 3).reverse ++ cr)) (hlen : cs2.length = na2 ∧ A.length = na2) (hck : (cs2.all (fun c => decide (c % 8 ≤ 1) && xofB x.2.2.2.2.1 c) && cr.all (fun c => decide (c % 8 ≤ 1) || decide (c % 8 = 3)) && decide (cr.length ≤ 8)) = true) (hA : xcs v2 cs2 A) (hsub : xsubR fp2 fpm = true) (hΦ : Φ2 (xfv A) (zyEl mi B H))
    (kk : ∀ (H3 : Heap) (r : Int), zyTy mi (zyEl mi B H3) → xFr fp2 (zyEl mi B H) (zyEl mi B H3) → xFr fpm (zyEl mi B s.heap) (zyEl mi B H3) → (-2147483648 ≤ r ∧ r < 2147483648) → Ψ2 (xfv A) (zyEl mi B H) (zyEl mi B H3) r → ∃ (i2 : ι) (cs : List Nat) (L : List Int), (φ i2).1 = x.1 + 3 ∧ xJ mi B en.2.2.1 x v2 (φ i2) (zyEl mi B H3) cs L ∧ (if rt2 = true then ∃ (k : Nat) (t2 : List Nat), (φ i2).2.2.2.2 = zysym k :: t2 ∧ k < (φ i2).2.2.1.length ∧ xfv L k = r ∧ xst x.2.2.2.2.1 v2 L (φ i2).2.2.1.length t2 cr else xst x.2.2.2.2.1 v2 L (φ i2).2.2.1.length (φ i2).2.2.2.2 cr) ∧ Inv i2 (xfv L) (zyEl mi B H3) ∧ Mu i2 (xfv L) (zyEl mi B H3) < M) : Wg H locs x.1 lsB stA := by
  have hs := hAt.2.2.2.2.2
  rw [hst] at hs
  obtain ⟨q1, q23, rfl, g1, g23⟩ := zySt_split hs
  obtain ⟨q2, q3, rfl, g2, g3⟩ := zySt_split g23
  rw [xrefs_rev] at g2
  have e2 := xrefs_st g2
  rw [Bool.and_eq_true, Bool.and_eq_true, List.all_eq_true, List.all_eq_true, decide_eq_true_eq] at hck
  obtain ⟨⟨c1, c2⟩, c3⟩ := hck
  have c1a : ∀ c ∈ cs2, c % 8 ≤ 1 := fun c hc => by
    have := c1 c hc
    rw [Bool.and_eq_true, decide_eq_true_eq] at this
    exact this.1
  have c1b : cs2.all (xofB x.2.2.2.2.1) = true := List.all_eq_true.mpr fun c hc => by
    have := c1 c hc
    rw [Bool.and_eq_true] at this
    exact this.2
  have c2a : ∀ c ∈ cr, c % 8 ≤ 1 ∨ c % 8 = 3 := fun c hc => by
    have := c2 c hc
    rw [Bool.or_eq_true, decide_eq_true_eq, decide_eq_true_eq] at this
    exact this
  have e1 := zySt_ints (fun c hc => c1a c (List.mem_reverse.mp hc)) g1
  have e4 : q1 ++ (q2 ++ q3) = (xAg B (p0 :: ps2) (cs2.map (zyw ρ2))).reverse ++ q3 := by
    rw [e1, e2]
    unfold xAg
    rw [List.reverse_append, List.map_reverse, List.map_reverse, List.map_reverse, List.append_assoc]
  have hm := xcs_m hv hB hA c1b (by omega)
  rw [e4]
  have hM2 := hFc (cs2.map (zyw ρ2)) (by rw [List.length_map]; exact hlen.1)
  refine hRu.1 x.1 ix ax en2 me2 dep2 p0 _ _ _ _ H locs lsB (by rw [xcat c2a g3]; exact c3) hrow hkd hen2 hme2 hcl ?_ hsh.2.1 hsh.2.2 hM2 hdp hAt.1 hAt.2.2.1 hAt.2.2.2.1.1 (by show Φ2 (xfv ((cs2.map (zyw ρ2)).map xI)) (zyEl mi B H); rw [hm]; exact hΦ) (fun H3 locs3 vo hI3 hO3 hlo3 hΨ => ?_)
  · show ((ps2.map fun p => Value.ref (zad B p)) ++ (cs2.map (zyw ρ2)).map Value.int).length + 1 = _
    rw [List.length_append, List.length_map, List.length_map, List.length_map, hlen.1, hsh.1]
    omega
  have hΨ : xFr fp2 (zyEl mi B H) (zyEl mi B H3) ∧ ∃ z : Int32, vo = (if rt2 = true then some (.int z) else none) ∧ Ψ2 (xfv ((cs2.map (zyw ρ2)).map xI)) (zyEl mi B H) (zyEl mi B H3) (xI z) := hΨ
  rw [hm] at hΨ
  obtain ⟨hf, z, hvo, hΨ⟩ := hΨ
  have hFr3 := xFr_trans hFr (xFr_mono hsub hf)
  obtain ⟨i2, cs, L, k1, k2, k3, k4, k5⟩ := kk H3 (xI z) (zyTy_of hI3) hf hFr3 (xI_r z) hΨ
  have g := (xe_env k2.2.2.2.1).2
  rw [← k1]
  refine hIH i2 (xfv L) H3 locs3 lsB _ hI3 (fun q hq => (hO3 q hq).trans (hAt.2.1 q hq)) hFr3 g k4 (xJ_s hAt hB hv k2 hlo3 ?_) k5
  cases hr : rt2 with
  | true =>
    rw [hr] at k3 hvo
    rw [if_pos rfl] at k3 hvo
    obtain ⟨k, t2, w1, w2, w3, w4⟩ := k3
    rw [w1, hvo]
    refine ⟨zyv_sym w2 ?_, xst_g hv hB g w4 g3⟩
    show Int32.ofInt (xfv L k) = z
    rw [w3]
    exact xofI z
  | false =>
    rw [hr] at k3 hvo
    rw [if_neg (by decide)] at k3 hvo
    rw [hvo]
    exact xst_g hv hB g k3 g3
/-- an element is stored -/
theorem xSt (hRu : xRu l mi en dep B s Wg) (hIH : xIH mi en.2.2.1 B s fpm φ Inv Mu M Wg) (hAt : zyAt mi B s en.2.2.1 x ρ2 N H locs lsB stA) (hB : xBd ρ2 x.2.2.2.2.1) (hv : ∀ k, xI (ρ2 k) = v2 k) (hFr : xFr fpm (zyEl mi B s.heap) (zyEl mi B H)) (a : Nat) {ax : Nat} {c : zyCl} (cv cj : Nat) (V J : Int) (hst : x.2.2.1 = [cv, cj, 8 * a + 3]) (hrow : (c.1 = 20 ∧ en.1 x.1 = (.iastore, x.1 + 1, ax)) ∨ (c.1 = 22 ∧ en.1 x.1 = (.bastore, x.1 + 1, ax) ∧ -128 ≤ V ∧ V ≤ 127) ∨ (c.1 = 23 ∧ en.1 x.1 = (.bastore, x.1 + 1, ax) ∧ 0 ≤ V ∧ V ≤ 1)) (hg : zG mi a = some c) (hck : (decide (cv % 8 ≤ 1) && xofB x.2.2.2.2.1 cv && decide (cj % 8 ≤ 1) && xofB x.2.2.2.2.1 cj) = true) (hV : xc v2 cv = V) (hJ : xc v2 cj = J) (hJ0 : 0 ≤ J) (hJn : J < (c.2.1 : Int)) (hrows : ∀ r ∈ c.2.2, (r.1 : Int) ≤ J → J ≤ (r.2.1 : Int) → r.2.2 % 8 = 2 ∧ ((r.2.2 / 34359738368 : Nat) : Int) ≤ V + 2147483648 ∧ V + 2147483648 ≤ ((r.2.2 / 8 % 4294967296 : Nat) : Int)) (hin : zyin fpm a J.toNat = true)
    (kk : ∀ (H3 : Heap), zyTy mi (zyEl mi B H3) → xE (zyEl mi B H3) a J = V → (∀ (a2 : Nat) (k2 : Int), 0 ≤ k2 → ¬ (a2 = a ∧ k2 = J) → xE (zyEl mi B H3) a2 k2 = xE (zyEl mi B H) a2 k2) → (∀ a2 k2, ¬ (a2 = a ∧ k2 = J.toNat) → zyEl mi B H3 a2 k2 = zyEl mi B H a2 k2) → xFr fpm (zyEl mi B s.heap) (zyEl mi B H3) → ∃ (i2 : ι) (cs : List Nat) (L : List Int), (φ i2).1 = x.1 + 1 ∧ xJ mi B en.2.2.1 x v2 (φ i2) (zyEl mi B H3) cs L ∧ (φ i2).2.2.2.2 = [] ∧ Inv i2 (xfv L) (zyEl mi B H3) ∧ Mu i2 (xfv L) (zyEl mi B H3) < M) : Wg H locs x.1 lsB stA := by
  have hs := hAt.2.2.2.2.2
  rw [hst] at hs
  obtain ⟨w0, t0, rfl, a0, hs⟩ := zySt_c hs
  obtain ⟨w1, t1, rfl, a1, hs⟩ := zySt_c hs
  obtain ⟨w2, t2, rfl, a2, hs⟩ := zySt_c hs
  have e3 := zySt_n hs
  subst e3
  rw [Bool.and_eq_true, Bool.and_eq_true, Bool.and_eq_true, decide_eq_true_eq, decide_eq_true_eq] at hck
  obtain ⟨⟨⟨k1, k2⟩, k3⟩, k4⟩ := hck
  obtain ⟨z0, rfl⟩ := zyv_int a0 (by omega)
  obtain ⟨z1, rfl⟩ := zyv_int a1 (by omega)
  have e2 := zyv_3 a2 (by omega)
  rw [show (8 * a + 3) / 8 = a by omega] at e2
  have e2 : w2 = .ref (zad B a) := e2
  have e0 : xI z0 = V := by
    rw [show z0 = zyw ρ2 cv from zyw_of a0 k1, xofB_iff hv hB k2]
    exact hV
  have e1 : xI z1 = J := by
    rw [show z1 = zyw ρ2 cj from zyw_of a1 k3, xofB_iff hv hB k4]
    exact hJ
  have r1 := xI_r z1
  have e1 : z1 = Int32.ofNat J.toNat := by
    apply xI_inj
    rw [e1, xI_nat (by omega)]
    have : xsg J.toNat = ((J.toNat : Nat) : Int) := if_pos (by omega)
    omega
  rw [e2, e1]
  have bz := xI_zB z0
  refine hRu.2.1 x.1 ax a J.toNat c z0 H locs lsB ?_ hg (by omega) (fun r hr q1 q2 => ?_) hAt.1 hAt.2.2.1 (fun H3 locs3 hI3 hO3 hlo3 h1 h2 => ?_)
  · rcases hrow with ⟨p1, p2⟩ | ⟨p1, p2, p3, p4⟩ | ⟨p1, p2, p3, p4⟩
    · exact Or.inl ⟨p1, p2⟩
    · exact Or.inr (Or.inl ⟨p1, p2, by rw [← e0] at p3; exact p3, by rw [← e0] at p4; exact p4⟩)
    · exact Or.inr (Or.inr ⟨p1, p2, by rw [← e0] at p3; exact p3, by rw [← e0] at p4; exact p4⟩)
  · obtain ⟨p1, p2, p3⟩ := hrows r hr (by omega) (by omega)
    exact ⟨p1, by omega, by omega⟩
  · have hFr3 : xFr fpm (zyEl mi B s.heap) (zyEl mi B H3) := by
      intro a2 k2 hk
      rw [h2 a2 k2 (fun z => by rw [z.1, z.2] at hk; rw [hk] at hin; cases hin)]
      exact hFr a2 k2 hk
    obtain ⟨i2, cs, L, p1, p2, p3, p4, p5⟩ := kk H3 (zyTy_of hI3) (by rw [xE_s h1 rfl]; exact e0) (fun a2 k2 hk0 hne => by
      unfold xE
      rw [h2 a2 k2.toNat (fun z => hne ⟨z.1, by omega⟩)]) h2 hFr3
    have g := (xe_env p2.2.2.2.1).2
    rw [← p1]
    refine hIH i2 (xfv L) H3 locs3 lsB [] hI3 (fun q hq => (hO3 q hq).trans (hAt.2.1 q hq)) hFr3 g p4 (xJ_s hAt hB hv p2 hlo3 ?_) p5
    rw [p3]
    trivial
end XGO
