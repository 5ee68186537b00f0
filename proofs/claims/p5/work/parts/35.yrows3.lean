/-! THE MACHINE's STEPS for the second executor: memory -/
/-- what is asked of what is kept by contract alone: it hangs on its elements only, and keeps its rules -/
def zyJp (dj : zyR) (J : zyJt) : Prop := (∀ E E2 : Nat → Nat → Option Value, (∀ a k, zyin dj a k = true → E a k = E2 a k) → J.1 E → J.1 E2) ∧ (∀ E, J.1 E → ∀ p ∈ dj, 100000 ≤ p.1 → ∀ (i : Nat) (z y : Int32), zyin dj (p.1 - 100000) i = true → E (p.1 - 100000) i = some (.int z) → E p.2.1 i = some (.int y) → 2147483648 ≤ zB y → 2147483648 ≤ zB z) ∧ (∀ (id : Nat) (E E2 : zyEm) (x y z : Int32), (∀ a k, zyin (zyFd id) a k = true → E a k = E2 a k) → J.2 id E x y z → J.2 id E2 x y z) ∧ ∀ (id : Nat) (E : zyEm) (x y z : Int32), 300 ≤ id → J.2 id E x y z → zB x ≤ zB z ∧ zB z ≤ zB x + (id - 300)
def zyKn (P : zyP) (X : zyX) (s : State) : Prop := zKn (zyb X) s ∧ zyJp P.2.2.2.1 (zyJ X)
theorem zyKn.warm {P : zyP} {X : zyX} {s U : State} (hW : s.WarmedH U.vm) (h : zyKn P X s) : zyKn P X U := ⟨h.1.warm hW, h.2⟩
theorem zyKn.same {P : zyP} {X : zyX} {s U : State} (hv : U.vm = s.vm) (h : zyKn P X s) : zyKn P X U := ⟨h.1.same hv, h.2⟩
theorem zyn64 : ∀ i, i < 12 → zxCn i ≤ 64 := by decide +kernel
section ZYM
variable {p : Program} {l : Launch} {e : Env} {R : Room} {s : State} {mt : MethodId} {args : Array Value} {below : List Frame} {meth : Method} {c : Code} {Q : State → Prop} {P : zyP} {X : zyX} {cf : Nat → zT} {y : zY} {fs : List zFr} {nL : Nat} {d : Nat × Nat × Nat} {k : zyK}
variable {w : zW} {pc nx ax : Nat} {ls st : List Nat} {q : zQ} {m : zyM} {H : Heap} {locs : List Loc} {lsA : Array Slot} {stA : List Value} {own : String} {cc : ByteArray} {idx pp : Nat}
theorem zyad {B : zCx} {a b : Nat} (ha : a < 90000) (hb : b < 90000) (h : zad B a = zad B b) : a = b := by
  unfold zad at h
  rw [if_pos ha, if_pos hb] at h
  omega
theorem zyad_ge {B : zCx} {a : Nat} (ha : a < 90000) : zbs B ≤ zad B a := by
  unfold zad
  rw [if_pos ha]
  omega
theorem zyLen_le {U : State} {l0 : List (Nat × Nat)} (hM : zyMem P X U l0 H) {a : Nat} {c0 : zyCl} (hg : zG P.1 a = some c0) : zyLen c0 ≤ 16384 := by
  unfold zyLen
  rcases (hM.1 a c0 hg).2 with ⟨h1, -⟩ | ⟨ty, cA, f, h1, -, -, h4⟩
  · rw [if_pos h1]
    have := zyn64 c0.1 h1
    omega
  · rw [if_neg (by have := zty_kd h1; omega)]
    exact h4
theorem zyEl_some {B : zyB} {Y : zCx} {a k0 : Nat} {c0 : zyCl} (hg : zG B a = some c0) (hk : k0 < zyLen c0) : zyEl B Y H a k0 = H[zad Y a]?.bind (fun cell => cell.slots[if c0.1 < 12 then zdI Y c0.1 k0 else k0]?) := by
  unfold zyEl
  rw [hg]
  dsimp only
  rw [if_pos hk]
theorem zyEl_out {B : zyB} {Y : zCx} {H1 : Heap} {a k0 : Nat} {c0 : zyCl} (hg : zG B a = some c0) (hk : ¬ k0 < zyLen c0) : zyEl B Y H1 a k0 = zyEl B Y H a k0 := by
  unfold zyEl
  rw [hg]
  dsimp only
  rw [if_neg hk, if_neg hk]
theorem zyEl_nil {B : zyB} {Y : zCx} {H1 : Heap} {a k0 : Nat} (hg : zG B a = none) : zyEl B Y H1 a k0 = zyEl B Y H a k0 := by
  unfold zyEl
  rw [hg]
theorem zyEl_kept {B : zyB} {Y : zCx} {H1 : Heap} {a k0 : Nat} (hq : H1[zad Y a]? = H[zad Y a]?) : zyEl B Y H1 a k0 = zyEl B Y H a k0 := by
  unfold zyEl
  rw [hq]
/-- one element is written -/
theorem zyMem.upd {U : State} {l0 l1 : List (Nat × Nat)} {H1 : Heap} {a k0 : Nat} {c0 : zyCl} {x : Value} (hK : zyKn P X s) (hM : zyMem P X U l0 H) (hg : zG P.1 a = some c0) (hk : k0 < zyLen c0) (hq : ∀ q, q ≠ zad (zyb X) a → H1[q]? = H[q]?) (hsh : zySh (zyb X) U a c0 H1) (hel : zyEl P.1 (zyb X) H1 a k0 = some x) (helo : ∀ k1, k1 < zyLen c0 → k1 ≠ k0 → zyEl P.1 (zyb X) H1 a k1 = zyEl P.1 (zyb X) H a k1)
    (hfp : zyin P.2.2.1 a k0 = true) (hdj : zyin P.2.2.2.1 a k0 = false) (hm1 : zyEt X c0 l1 a k0 x) (hm2 : ∀ a1 c1 k1 w1, zG P.1 a1 = some c1 → k1 < zyLen c1 → ¬ (a1 = a ∧ k1 = k0) → zyEt X c1 l0 a1 k1 w1 → zyEt X c1 l1 a1 k1 w1) : zyMem P X U l1 H1 := by
  have ha := (hM.1 a c0 hg).1
  have key : ∀ a1 k1, ¬ (a1 = a ∧ k1 = k0) → zyEl P.1 (zyb X) H1 a1 k1 = zyEl P.1 (zyb X) H a1 k1 := by
    intro a1 k1 hn
    by_cases e1 : a1 = a
    · subst e1
      by_cases e2 : k1 < zyLen c0
      · exact helo k1 e2 (fun z => hn ⟨rfl, z⟩)
      · exact zyEl_out hg e2
    · cases hg1 : zG P.1 a1 with
      | none => exact zyEl_nil hg1
      | some c1 => exact zyEl_kept (hq _ (fun z => e1 (zyad (hM.1 a1 c1 hg1).1 ha z)))
  refine ⟨fun a1 c1 hg1 => ⟨(hM.1 a1 c1 hg1).1, ?_⟩, fun a1 c1 k1 hg1 hk1 => ?_, fun a1 k1 hf => ?_, ?_, fun q hq1 => ?_, fun q hq1 => ?_⟩
  · by_cases e1 : a1 = a
    · subst e1
      rw [hg] at hg1
      cases hg1
      exact hsh
    · have hq1 := hq _ (fun z => e1 (zyad (hM.1 a1 c1 hg1).1 ha z))
      rcases (hM.1 a1 c1 hg1).2 with ⟨h1, cell, h2, h3⟩ | ⟨ty, cA, f, h1, h2, h3⟩
      · exact Or.inl ⟨h1, cell, hq1.trans h2, h3⟩
      · exact Or.inr ⟨ty, cA, f, h1, hq1.trans h2, h3⟩
  · by_cases e1 : a1 = a ∧ k1 = k0
    · obtain ⟨e1, e2⟩ := e1
      subst e1
      subst e2
      rw [hg] at hg1
      cases hg1
      exact ⟨x, hel, hm1⟩
    · obtain ⟨w1, g1, g2⟩ := hM.2.1 a1 c1 k1 hg1 hk1
      exact ⟨w1, (key a1 k1 e1).trans g1, hm2 a1 c1 k1 w1 hg1 hk1 e1 g2⟩
  · have hn : ¬ (a1 = a ∧ k1 = k0) := by
      rintro ⟨e1, e2⟩
      rw [e1, e2, hfp] at hf
      cases hf
    rw [key a1 k1 hn]
    exact hM.2.2.1 a1 k1 hf
  · refine hK.2.1 _ _ (fun a1 k1 hj => ?_) hM.2.2.2.1
    have hn : ¬ (a1 = a ∧ k1 = k0) := by
      rintro ⟨e1, e2⟩
      rw [e1, e2, hdj] at hj
      cases hj
    exact (key a1 k1 hn).symm
  · rw [hq q (fun z => by have := zyad_ge (B := zyb X) ha; omega)]
    exact hM.2.2.2.2.1 q hq1
  · rw [hq q (hq1 a c0 hg)]
    exact hM.2.2.2.2.2 q hq1
/-- what is known of one element -/
theorem zyEt_set {c0 c1 : zyCl} {l0 : List (Nat × Nat)} {a k0 v a1 k1 : Nat} {x w1 : Value} (h0 : k0 < 16384) (h1 : k1 < 16384) : (zyV X v x → zyEt X c0 (zyset (a * 16384 + k0) v l0) a k0 x) ∧ (¬ (a1 = a ∧ k1 = k0) → zyEt X c1 l0 a1 k1 w1 → zyEt X c1 (zyset (a * 16384 + k0) v l0) a1 k1 w1) := by
  constructor
  · intro hv
    unfold zyEt
    rw [zyset_l, if_pos rfl]
    exact hv
  · intro hn h
    unfold zyEt at h ⊢
    rw [zyset_l, if_neg (fun z => hn (by omega))]
    exact h
theorem zyMem.know {U : State} {l0 : List (Nat × Nat)} {a k0 v : Nat} {c0 : zyCl} {x : Value} (hM : zyMem P X U l0 H) (hg : zG P.1 a = some c0) (hk : k0 < zyLen c0) (hel : zyEl P.1 (zyb X) H a k0 = some x) (hv : zyV X v x) : zyMem P X U (zyset (a * 16384 + k0) v l0) H := by
  have hl := zyLen_le hM hg
  refine ⟨hM.1, fun a1 c1 k1 hg1 hk1 => ?_, hM.2.2⟩
  obtain ⟨w1, g1, g2⟩ := hM.2.1 a1 c1 k1 hg1 hk1
  have hl1 := zyLen_le hM hg1
  refine ⟨w1, g1, ?_⟩
  by_cases e1 : a1 = a ∧ k1 = k0
  · obtain ⟨e1, e2⟩ := e1
    subst e1
    subst e2
    rw [hel] at g1
    cases g1
    exact (zyEt_set (c0 := c1) (c1 := c1) (a1 := 0) (k1 := 0) (w1 := x) (by omega) (by omega)).1 hv
  · exact (zyEt_set (c0 := c1) (x := w1) (by omega) (by omega)).2 e1 g2
theorem zynew_iff {v : Nat} {kk : zW → Nat → Bool} {x : Value} {ρ : Nat → Int32} {N : Nat} {ad : Nat → Nat} (h : zynew v w kk = true) (hE : zEnv ρ w.2) (hN : w.1 = N) (hv : zyv ρ N ad v x) : ∃ (ρ2 : Nat → Int32) (w2 : zW) (v2 : Nat), N ≤ w2.1 ∧ (∀ k, k < N → ρ2 k = ρ k) ∧ zEnv ρ2 w2.2 ∧ zyv ρ2 w2.1 ad v2 x ∧ kk w2 v2 = true := by
  unfold zynew at h
  simp only [zfr_eq, zn_m, zn_d] at h
  rcases zif_iff h with ⟨h1, h⟩ | ⟨-, h⟩
  · obtain ⟨z, rfl, b1, b2⟩ := zv_2 (zyv_zv hv (by have := zbeqT h1; omega) (by have := zbeqT h1; omega)) (zbeqT h1)
    obtain ⟨E2, g⟩ := zyfresh_iff h hE hN b1 b2
    exact ⟨_, _, _, Nat.le_succ _, fun k hk => zyρ2_lt hk, E2, zyv_new z, g⟩
  rcases zif_iff h with ⟨-, h⟩ | ⟨-, h⟩
  · cases h
  · exact ⟨ρ, w, v, Nat.le_of_eq hN.symm, fun _ _ => rfl, hE, by rw [hN]; exact hv, h⟩
/-- one element is read -/
theorem zyrd_iff {a j tg ln : Nat} {rows : zyR} {kk : zW → Nat → zyM → Bool} (h : zyrd P rows a j w m kk = true) (hR : zyRl P X s nL d w ls st q m H locs lsA stA) (hg : zG P.1 a = some (tg, ln, rows)) (hj : j < zyLen (tg, ln, rows)) :
    ∃ x, zyEl P.1 (zyb X) H a j = some x ∧ ∃ (ρ2 : Nat → Int32) (w2 : zW) (v : Nat) (m2 : zyM), zyN X ≤ w2.1 ∧ (∀ k, k < zyN X → ρ2 k = zyρ X k) ∧ zEnv ρ2 w2.2 ∧ zyV (zyre X ρ2 w2.1) v x ∧ zyMem P (zyre X ρ2 w2.1) s m2.1 H ∧ (∀ f ∈ m2.2, zyFm (zyre X ρ2 w2.1) f) ∧ kk w2 v m2 = true := by
  obtain ⟨x, hel, het⟩ := hR.2.1.2.1 a _ j hg hj
  have hl := zyLen_le hR.2.1 hg
  refine ⟨x, hel, ?_⟩
  unfold zyrd at h
  simp only [zfr_eq, zn_a, zn_u] at h
  have hv : ∃ v, zyV X v x ∧ zyval P v a j (a * 16384 + j) w m kk = true := by
    rw [zylk_eq] at h
    unfold zyEt at het
    cases hq : zyl m.1 (a * 16384 + j) with
    | some v =>
      rw [hq] at h het
      exact ⟨v, het, h⟩
    | none =>
      rw [hq] at h het
      obtain ⟨r, q1, q2, q3, q4⟩ := zyrw_iff h
      exact ⟨r.2.2, (het r q1 q2 q3).2, q4⟩
  clear h
  obtain ⟨v, hv, h⟩ := hv
  unfold zyval at h
  simp only [zfr_eq, zn_m, zn_d, zn_a, zn_u] at h
  rcases zif_iff h with ⟨h1, h⟩ | ⟨-, h⟩
  · have e1 := zbeqT h1
    obtain ⟨z, rfl, b1, b2⟩ := zv_2 (zyv_zv hv (by omega) (by omega)) e1
    obtain ⟨E2, g⟩ := zyfresh_iff h hR.1.1 hR.1.2.1 b1 b2
    rw [zyput_eq] at g
    have hr : ∀ k, k < zyN X → zyρ2 (zyρ X) (zyN X) z k = zyρ X k := fun k hk => zyρ2_lt hk
    have hN : zyN X ≤ zyN X + 1 := Nat.le_succ _
    have hM2 : zyMem P (zyre X (zyρ2 (zyρ X) (zyN X) z) (zyN X + 1)) s (zyset (a * 16384 + j) (zyN X * 34359738368 + 1) m.1) H := (hR.2.1.up hN hr).know hg hj hel (zyv_new z)
    refine ⟨_, (zyN X + 1, _), _, _, hN, hr, E2, zyv_new z, ?_, ?_, g⟩
    · cases hfp : zyin P.2.2.1 a j with
      | true => exact hM2
      | false => exact hM2
    · cases hfp : zyin P.2.2.1 a j with
      | true => exact fun f hf => (hR.1.2.2.2 f hf).up hN hr
      | false =>
        intro f hf
        rcases List.mem_cons.mp hf with z1 | z1
        · rw [z1]
          unfold zyFm
          rw [if_pos rfl]
          exact ⟨z, j, zyv_new z, zyv_mk rfl, by omega, (hR.2.1.2.2.1 a j hfp).symm.trans hel⟩
        · exact (hR.1.2.2.2 f z1).up hN hr
  rcases zif_iff h with ⟨h1, h⟩ | ⟨-, h⟩
  · have e1 := zbeqT h1
    obtain ⟨g1, g2⟩ := zand_iff h
    rw [zyput_eq] at g1 g2
    have hN : zyN X ≤ w.1 := Nat.le_of_eq hR.1.2.1.symm
    have fin : ∀ v2, zyV X v2 x → kk w v2 (zyset (a * 16384 + j) v2 m.1, m.2) = true → ∃ (ρ2 : Nat → Int32) (w2 : zW) (v : Nat) (m2 : zyM), zyN X ≤ w2.1 ∧ (∀ k, k < zyN X → ρ2 k = zyρ X k) ∧ zEnv ρ2 w2.2 ∧ zyV (zyre X ρ2 w2.1) v x ∧ zyMem P (zyre X ρ2 w2.1) s m2.1 H ∧ (∀ f ∈ m2.2, zyFm (zyre X ρ2 w2.1) f) ∧ kk w2 v m2 = true := by
      intro v2 h2 h3
      exact ⟨zyρ X, w, v2, (zyset (a * 16384 + j) v2 m.1, m.2), hN, fun _ _ => rfl, hR.1.1, zyv_up h2 (fun _ _ => rfl) hN, (hR.2.1.know hg hj hel h2).up hN (fun _ _ => rfl), fun f hf => (hR.1.2.2.2 f hf).up hN (fun _ _ => rfl), h3⟩
    rcases hv with ⟨hz, -⟩ | ⟨z, -⟩ | ⟨-, z⟩
    · rcases hz with ⟨z, -⟩ | ⟨z, -⟩ | ⟨z, -⟩ | ⟨z, -⟩ | ⟨z, -⟩ | ⟨z, -⟩ | ⟨z, -⟩ <;> omega
    · omega
    · rcases z with z | z
      · exact fin _ (by rw [z]; exact zyv_ref _) g1
      · exact fin _ (by rw [z]; exact zyv_ref _) g2
  · have hN : zyN X ≤ w.1 := Nat.le_of_eq hR.1.2.1.symm
    exact ⟨zyρ X, w, v, m, hN, fun _ _ => rfl, hR.1.1, zyv_up hv (fun _ _ => rfl) hN, hR.2.1.up hN (fun _ _ => rfl), fun f hf => (hR.1.2.2.2 f hf).up hN (fun _ _ => rfl), h⟩
/-- on with another memory, symbols, stack -/
theorem zygoW (hKS : zyKS p l e R s mt args below meth c Q P X cf y fs nL d k) {ρ2 : Nat → Int32} {w2 : zW} {pc2 : Nat} {st2 : List Nat} {stB : List Value} {m2 : zyM} (h : k w2 cf y pc2 ls st2 q fs m2 = true) (hR : zyRl P X s nL d w ls st q m H locs lsA stA) (hN : zyN X ≤ w2.1) (hr : ∀ k, k < zyN X → ρ2 k = zyρ X k) (hE : zEnv ρ2 w2.2) (h2 : zySt (zyre X ρ2 w2.1) st2 stB)
    (hM : zyMem P (zyre X ρ2 w2.1) s m2.1 H) (hf : ∀ f ∈ m2.2, zyFm (zyre X ρ2 w2.1) f) : W p l e R s mt args below meth c H locs q.2.1 q.2.2 Q (F0 mt pc2 lsA stB) :=
  hKS ρ2 w2.1 _ _ _ _ _ _ _ _ _ _ h ⟨⟨hE, rfl, hR.1.2.2.1.up hN hr, hf⟩, hM, hR.2.2.1, hR.2.2.2.1.up hN hr, h2, hR.2.2.2.2.2⟩
theorem zylowH (hM : zyMem P X s m.1 H) : ∀ a : Nat, a < (zH0 (zyb X)).size → ¬ zUp (zyb X) a → H[a]? = (zH0 (zyb X))[a]? := fun a _ h => hM.2.2.2.2.1 a (Nat.not_le.mp h)
theorem zyw_getf (hexec : p.tables.exec = Jvm.exec) (hb : c.code = cc) (hown : s.vm.findClass own = some mt.cls) (hK : zyKn P X s) (hlk : zlf own idx ax pp = true) (hdg : decode cc pc = .ok (.getfield idx, 3)) (hnx : nx = pc + 3)
    (hKS : zyKS p l e R s mt args below meth c Q P X cf y fs nL d k) (h : zyo_getf P nx ax k w cf y pc ls st q fs m = true) (hR : zyRl P X s nL d w ls st q m H locs lsA stA) : W p l e R s mt args below meth c H locs q.2.1 q.2.2 Q (F0 mt pc lsA stA) := by
  subst hnx
  unfold zyo_getf at h
  simp only [zfr_eq, zn_m, zn_d, zn_a, zn_s, zn_c] at h
  obtain ⟨a, r, es, h'⟩ := zpop_iff h
  clear h
  have h := h'
  clear h'
  subst es
  obtain ⟨x', stB, rfl, ha, hS2⟩ := zySt_c hR.2.2.2.2.1
  rcases zif_iff h with ⟨h1, h⟩ | ⟨-, h⟩
  rotate_left
  · cases h
  have ea := zyv_3 ha (zbeqT h1)
  have e8 : a % 8 = 3 := zbeqT h1
  subst ea
  have hlow := zylowH hR.2.1
  rcases zif_iff h with ⟨h2, h⟩ | ⟨h2, h⟩
  · have h2 := zbleT h2
    rcases zif_iff h with ⟨h3, h⟩ | ⟨-, h⟩
    rotate_left
    · cases h
    have h3 : a / 8 - 100000 + 1 ≤ 30 := zbleT h3
    obtain ⟨i, hi⟩ : ∃ i, a / 8 = 100000 + i := ⟨a / 8 - 100000, by omega⟩
    obtain ⟨-, -, hCo, hVa, -⟩ := hK.1.2.2.2.1 i (by omega)
    rw [hi, zhigh (by omega)] at ha ⊢
    unfold zlf at hlk
    rcases zif_iff h with ⟨h4, h⟩ | ⟨h4, h⟩
    · rw [if_pos (zbeqT h4), decide_eq_true_eq] at hlk
      have hln := zword (args := args) hK.1 (zwd_mem hlk) rfl
      obtain ⟨cf0, kk, fi, f, cell, g1, g2, g3, g4, g5, g6⟩ := hVa.kept hlow
      refine W.getf hexec hb hown hln g1 g2 g3 g4 (v := .ref (zhi (zyb X) (200000 + i))) g5 rfl rfl hdg (zygo hKS h hR rfl hR.1.1 ⟨?_, hS2⟩)
      have e9 : a + 800000 = 8 * (200000 + i) + 3 := by omega
      rw [e9, ← zhigh (X := zyb X) (a := 200000 + i) (by omega)]
      exact zyv_ref _
    · rcases zif_iff h with ⟨h5, h⟩ | ⟨-, h⟩
      rotate_left
      · cases h
      rw [if_neg (zbeqF h4), if_pos (zbeqT h5), decide_eq_true_eq] at hlk
      have hln := zword (args := args) hK.1 (zwd_mem hlk) rfl
      obtain ⟨cf0, kk, fi, f, cell, g1, g2, g3, g4, g5, g6⟩ := hCo.kept hlow
      exact W.getf hexec hb hown hln g1 g2 g3 g4 (v := .int 0) g5 rfl rfl hdg (zygo hKS h hR rfl hR.1.1 ⟨zyv_zero, hS2⟩)
  · obtain ⟨⟨tg, ln, rows⟩, hg, h⟩ := zget_iff h
    dsimp only at h
    rcases zif_iff h with ⟨h3, h⟩ | ⟨-, h⟩
    rotate_left
    · cases h
    have h3 : tg = ax / 64 := zbeqT h3
    have hsh := (hR.2.1.1 _ _ hg).2
    have n1 : ¬ ax = 832 := by
      intro n1
      rcases hsh with ⟨q1, -⟩ | ⟨ty, cA, f, q1, -⟩
      · have : tg < 12 := q1
        omega
      · have := zty_kd (show zty tg = some ty from q1)
        omega
    have n2 : ¬ ax = 833 := by
      intro n2
      rcases hsh with ⟨q1, -⟩ | ⟨ty, cA, f, q1, -⟩
      · have : tg < 12 := q1
        omega
      · have := zty_kd (show zty tg = some ty from q1)
        omega
    unfold zlf at hlk
    rw [if_neg n1, if_neg n2] at hlk
    simp only [Bool.and_eq_true, Bool.or_eq_true, decide_eq_true_eq] at hlk
    obtain ⟨⟨hc12, hkN⟩, hlk⟩ := hlk
    have hfin := h
    clear h
    subst h3
    have hlen : zyLen (ax / 64, ln, rows) = zxCn (ax / 64) := if_pos hc12
    rcases hsh with ⟨q1, cell, q2, q3, q4⟩ | ⟨ty, cA, f, q1, -⟩
    rotate_left
    · exfalso
      have := zty_kd (show zty (ax / 64) = some ty from q1)
      omega
    obtain ⟨x, hel, ρ2, w2, v, m2, hN, hr, hE2, hv, hM2, hf2, hk⟩ := zyrd_iff hfin hR hg (by rw [hlen]; exact hkN)
    have hsl : cell.slots[zdI (zyb X) (ax / 64) (ax % 64)]? = some x := by
      rw [zyEl_some hg (by rw [hlen]; exact hkN), q2, Option.bind_some] at hel
      dsimp only at hel
      rw [if_pos hc12] at hel
      exact hel
    obtain ⟨hSl, hfc, kC, hkC, hkind⟩ := hK.1.2.1 (ax / 64) _ (zvw _ hc12)
    obtain ⟨cf0, kf, fi, f, hi, hse⟩ := hSl (ax % 64) hkN
    have hstat := (u_facts (args := args) hfc hkC (u_lays (zTs_ok hK.1) (zTs_in hc12) hkN) hi).1
    have hgo := zygoW hKS hk hR hN hr hE2 (stB := x :: stB) ⟨hv, hS2.up hN hr⟩ hM2 hf2
    rcases hlk with hlk | hlk
    · exact W.getf hexec hb hown (zword (args := args) hK.1 (zwd_mem hlk) rfl) hi hstat q2 (by rw [q4]; exact fun z => by cases z) (v := x) (by rw [hse]; exact hsl) rfl rfl hdg hgo
    · exact va_Wgetf hexec hb hown (zword (args := args) hK.1 (zwd_mem hlk) rfl) hi hstat q2 (by rw [q4]; exact fun z => by cases z) (v := x) (by rw [hse]; exact hsl) rfl rfl hdg hgo
theorem zybool {x : Int32} (h1 : 2147483648 ≤ zB x) (h2 : zB x ≤ 2147483649) : x = 0 ∨ x = 1 := by
  by_cases h : zB x = 2147483648
  · exact Or.inl (zB_inj (by rw [h]; decide))
  · exact Or.inr (zB_inj (by rw [show zB x = 2147483649 by omega]; decide))
theorem zyfit_iff {g v : Nat} {x : Value} {ty : FieldType} (h : zyfit w g v = true) (hE : zEnv (zyρ X) w.2) (hv : zyV X v x) (ht : zkt ty = g) : narrow ty x = x ∧ fits ty x = true := by
  unfold zyfit at h
  simp only [zn_m] at h
  rcases zif_iff h with ⟨h1, h⟩ | ⟨h1, h⟩
  · have e1 := zbeqT h1
    obtain ⟨n, rfl⟩ := zyv_int hv (zbleT h)
    rw [e1] at ht
    cases ty <;> first | exact ⟨rfl, rfl⟩ | (exfalso; revert ht; decide) | (cases ht)
  rcases zif_iff h with ⟨h2, h⟩ | ⟨h2, h⟩
  · have e1 := zbeqT h2
    rw [e1] at ht
    obtain ⟨n, lo, hi, rfl, b1, b2, h⟩ := zybd_iff h hE hv
    obtain ⟨g1, g2⟩ := zand_iff h
    have g1 := zbleT g1
    have g2 := zbleT g2
    have hx := zybool (x := n) (by omega) (by omega)
    cases ty <;> first | (rcases hx with rfl | rfl <;> exact ⟨by decide, by decide⟩) | (cases ht)
  rcases zif_iff h with ⟨h3, h⟩ | ⟨h3, h⟩
  · have e1 := zbeqT h3
    rw [e1] at ht
    obtain ⟨z, hx, -⟩ := zyv_4 hv (zbeqT h)
    subst hx
    cases ty <;> first | exact ⟨rfl, rfl⟩ | (cases ht)
  rcases zif_iff h with ⟨h4, h⟩ | ⟨h4, h⟩
  · have e1 := zbeqT h4
    rw [e1] at ht
    have hx := zyv_3 hv (zbeqT h)
    subst hx
    cases ty <;> first | exact ⟨rfl, rfl⟩ | (cases ht)
  · cases h
theorem zyF_n {b : Bool} (h : zif b false true = true) : b = false := by
  cases b
  · rfl
  · cases h
theorem zyw_putf (hexec : p.tables.exec = Jvm.exec) (hb : c.code = cc) (hown : s.vm.findClass own = some mt.cls) (hK : zyKn P X s) (hlt : ax < 768) (hlk : zlf own idx ax pp = true) (hdg : decode cc pc = .ok (.putfield idx, 3)) (hnx : nx = pc + 3)
    (hKS : zyKS p l e R s mt args below meth c Q P X cf y fs nL d k) (h : zyo_putf P nx ax k w cf y pc ls st q fs m = true) (hR : zyRl P X s nL d w ls st q m H locs lsA stA) : W p l e R s mt args below meth c H locs q.2.1 q.2.2 Q (F0 mt pc lsA stA) := by
  subst hnx
  unfold zyo_putf at h
  simp only [zfr_eq, zn_m, zn_d, zn_a, zn_u] at h
  obtain ⟨v, t, es, h'⟩ := zpop_iff h
  clear h
  have h := h'
  clear h'
  subst es
  obtain ⟨a, r, es, h'⟩ := zpop_iff h
  clear h
  have h := h'
  clear h'
  subst es
  obtain ⟨x, stB, rfl, hv, hS2⟩ := zySt_c hR.2.2.2.2.1
  obtain ⟨a', stC, rfl, ha, hS3⟩ := zySt_c hS2
  rcases zif_iff h with ⟨h1, h⟩ | ⟨-, h⟩
  rotate_left
  · cases h
  obtain ⟨h1, h2⟩ := zand_iff h1
  obtain ⟨h2, h3⟩ := zand_iff h2
  obtain ⟨h3, h4⟩ := zand_iff h3
  obtain ⟨h4, h5⟩ := zand_iff h4
  have h5 := zyF_n h5
  have h3 := zbleT h3
  have ea := zyv_3 ha (zbeqT h1)
  subst ea
  obtain ⟨⟨tg, ln, rows⟩, hg, h⟩ := zget_iff h
  dsimp only at h
  rcases zif_iff h with ⟨h6, hfin⟩ | ⟨-, h⟩
  rotate_left
  · cases h
  have h6 : tg = ax / 64 := zbeqT h6
  rw [zyput_eq] at hfin
  clear h
  subst h6
  unfold zlf at hlk
  rw [if_neg (by omega), if_neg (by omega)] at hlk
  simp only [Bool.and_eq_true, Bool.or_eq_true, decide_eq_true_eq] at hlk
  obtain ⟨⟨hc12, hkN⟩, hlk⟩ := hlk
  have hlen : zyLen (ax / 64, ln, rows) = zxCn (ax / 64) := if_pos hc12
  obtain ⟨hlt90, hsh⟩ := hR.2.1.1 _ _ hg
  rcases hsh with ⟨q1, cell, q2, q3, q4⟩ | ⟨ty, cA, f, q1, -⟩
  rotate_left
  · exfalso
    have := zty_kd (show zty (ax / 64) = some ty from q1)
    omega
  obtain ⟨z1, z2, z3, -⟩ := zkks (ax / 64) hc12 (ax % 64) hkN
  have e64 : 64 * (ax / 64) + ax % 64 = ax := by omega
  rw [e64] at z1 z2
  obtain ⟨hnar, hfit⟩ := zyfit_iff h2 hR.1.1 hv z1
  obtain ⟨x0, hel0, -⟩ := hR.2.1.2.1 _ _ (ax % 64) hg (by rw [hlen]; exact hkN)
  have hsl : cell.slots[zdI (zyb X) (ax / 64) (ax % 64)]? = some x0 := by
    rw [zyEl_some hg (by rw [hlen]; exact hkN), q2, Option.bind_some] at hel0
    dsimp only at hel0
    rw [if_pos hc12] at hel0
    exact hel0
  obtain ⟨hSl, hfc, kC, hkC, hkind⟩ := hK.1.2.1 (ax / 64) _ (zvw _ hc12)
  obtain ⟨cf0, kf, fi, f, hi, hse⟩ := hSl (ax % 64) hkN
  have hul := u_lays (zTs_ok (args := args) hK.1) (zTs_in hc12) hkN
  have hstat := (u_facts (args := args) hfc hkC hul hi).1
  have hft := u_fits hfc hkC hkind hul hi (ztys (ax / 64) hc12 (ax % 64) hkN) hnar hfit
  have hlay := zTs_ok (args := args) hK.1 _ (zTs_in hc12 _ (u_in_lay hkN))
  have hfin2 : hasFlag f.accessFlags Acc.final = false ∨ (mt.cls = cf0 ∧ meth.name = "<init>") := by
    cases hfl : (zTX (ax / 64) (ax % 64)).2.2.2 with
    | false =>
      unfold u_lay at hlay
      rw [if_neg (by rw [hfl]; decide)] at hlay
      exact Or.inl (u_store hfc hkC hkind hlay hi (ztys (ax / 64) hc12 (ax % 64) hkN) hnar hfit).1
    | true =>
      exfalso
      rw [hfl] at z2
      have z2 := zbleT z2.symm
      omega
  have hal : zad (zyb X) (a / 8) < H.size := (Array.getElem?_eq_some_iff.mp q2).1
  have hslt : f.slot < cell.slots.size := by rw [hse]; exact k2_hasslot hsl
  have go : W p l e R s mt args below meth c (H.setIfInBounds (zad (zyb X) (a / 8)) (cell.setSlot f.slot x)) (locs ++ [⟨zad (zyb X) (a / 8), f.slot⟩]) q.2.1 q.2.2 Q (F0 mt (pc + 3) lsA stC) := by
    have hH1 : (H.setIfInBounds (zad (zyb X) (a / 8)) (cell.setSlot f.slot x))[zad (zyb X) (a / 8)]? = some (cell.setSlot f.slot x) := by simp [Array.getElem?_setIfInBounds, hal]
    have k64 : ax % 64 < 16384 := by omega
    have hMem : zyMem P X s (zyset (a / 8 * 16384 + ax % 64) v m.1) (H.setIfInBounds (zad (zyb X) (a / 8)) (cell.setSlot f.slot x)) := by
      refine zyMem.upd (s := s) (x := x) hK hR.2.1 hg (by rw [hlen]; exact hkN) (fun b hb => by simp [Array.getElem?_setIfInBounds, Ne.symm hb]) (Or.inl ⟨q1, cell.setSlot f.slot x, hH1, q3, q4⟩) ?_ (fun k1 hk1 hne => ?_) h4 h5 ((zyEt_set (c1 := (0, 0, [])) (a1 := 0) (k1 := 0) (w1 := x) k64 (by omega)).1 hv) (fun a1 c1 k1 w1 hg1 hk1 hn het => (zyEt_set (c0 := (0, 0, [])) (x := x) k64 (by have := zyLen_le hR.2.1 hg1; omega)).2 hn het)
      · rw [zyEl_some hg (by rw [hlen]; exact hkN), hH1, Option.bind_some]
        dsimp only
        rw [if_pos hc12, hse]
        rw [hse] at hslt
        simp [Cell.setSlot, hslt]
      · rw [zyEl_some hg hk1, zyEl_some hg hk1, hH1, q2, Option.bind_some, Option.bind_some]
        dsimp only
        rw [if_pos hc12]
        rw [hlen] at hk1
        have hne2 := zapart hK.1 hc12 k1 (ax % 64) hk1 hkN hne
        rw [hse]
        simp only [Cell.setSlot]
        rw [Array.getElem?_setIfInBounds_ne (fun q => hne2 q.symm)]
    refine hKS (zyρ X) (zyN X) _ _ _ _ _ _ _ _ _ _ hfin ⟨hR.1, hMem, fun z hz => ?_, hR.2.2.2.1, hS3, hR.2.2.2.2.2⟩
    · rcases List.mem_append.mp hz with h7 | h7
      · exact hR.2.2.1 z h7
      · rw [List.mem_singleton] at h7
        rw [h7]
        exact zyad_ge hlt90
  rcases hlk with hlk | hlk
  · exact W.putf hexec hb hown (zword (args := args) hK.1 (zwd_mem hlk) rfl) hi hstat hfin2 q2 (by rw [q4]; exact fun z => by cases z) hslt hft.1 (by rw [q3, q4]; exact hft.2) rfl rfl hdg go
  · exact va_Wputf hexec hb hown (zword (args := args) hK.1 (zwd_mem hlk) rfl) hi hstat hfin2 q2 (by rw [q4]; exact fun z => by cases z) hslt hft.1 (by rw [q3, q4]; exact hft.2) rfl rfl hdg go
theorem zyw_alen (hexec : p.tables.exec = Jvm.exec) (hb : c.code = cc) (hK : zyKn P X s) (hdg : decode cc pc = .ok (.arraylength, 1)) (hnx : nx = pc + 1)
    (hKS : zyKS p l e R s mt args below meth c Q P X cf y fs nL d k) (h : zyo_alen P nx ax k w cf y pc ls st q fs m = true) (hR : zyRl P X s nL d w ls st q m H locs lsA stA) : W p l e R s mt args below meth c H locs q.2.1 q.2.2 Q (F0 mt pc lsA stA) := by
  subst hnx
  unfold zyo_alen at h
  simp only [zfr_eq, zn_m, zn_d, zn_u, zn_s, zn_c] at h
  obtain ⟨a, r, es, h'⟩ := zpop_iff h
  clear h
  have h := h'
  clear h'
  subst es
  obtain ⟨x, stB, rfl, ha, hS2⟩ := zySt_c hR.2.2.2.2.1
  rcases zif_iff h with ⟨h1, h⟩ | ⟨-, h⟩
  rotate_left
  · cases h
  have ea := zyv_3 ha (zbeqT h1)
  subst ea
  have hlow := zylowH hR.2.1
  rcases zif_iff h with ⟨h3, h⟩ | ⟨h3, h⟩
  · have h3 := zbleT h3
    rcases zif_iff h with ⟨h4, h⟩ | ⟨-, h⟩
    rotate_left
    · cases h
    have h4 : a / 8 - 200000 + 1 ≤ 30 := zbleT h4
    obtain ⟨i, hi⟩ : ∃ i, a / 8 = 200000 + i := ⟨a / 8 - 200000, by omega⟩
    obtain ⟨-, -, -, -, hT⟩ := hK.1.2.2.2.1 i (by omega)
    obtain ⟨cell, t1, t2, t3, t4, t5, t6, t7⟩ := hT.kept hlow
    rw [hi, zhigh (by omega)]
    rw [hi, show 200000 + i - 200000 = i by omega] at h
    exact W.alen (n := Int32.ofNat (zxTl i)) hexec hb t1 t2 t5 rfl rfl hdg (zygo hKS h hR rfl hR.1.1 ⟨zyv_mk rfl, hS2⟩)
  · obtain ⟨⟨tg, ln, rows⟩, hg, h⟩ := zget_iff h
    dsimp only at h
    rcases zif_iff h with ⟨h5, h⟩ | ⟨-, h⟩
    rotate_left
    · cases h
    obtain ⟨h5, h6⟩ := zand_iff h5
    have h5 := zbleT h5
    rcases (hR.2.1.1 _ _ hg).2 with ⟨q1, -⟩ | ⟨ty, cA, f, q1, q2, q3, q4⟩
    · have : tg < 12 := q1
      omega
    · exact W.alen (n := Int32.ofNat ln) hexec hb q2 (q3 _ _) (by rw [arrV_size]) rfl rfl hdg (zygo hKS h hR rfl hR.1.1 ⟨zyv_mk rfl, hS2⟩)
end ZYM
