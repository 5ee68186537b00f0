/-! BY HAND: common (it calls itself), multiple -/
def zyQn (mi : zyB) (B : zCx) (J : zyJt) : Array Value → State → Outcome → State → Prop := fun _ s o t => ∃ z : Int32, o = .returned (some (.int z)) ∧ ¬ z = 0 ∧ zKn B t ∧ zyMI mi B J t t.heap ∧ t.heap = s.heap
def zyCmt (l : Launch) (mi : zyB) (J : zyJt) (me : zMe) (n : Nat) (a b : Int32) (B : zCx) : Prop := Met l me.1 [Cond.code me.1 me.2.1 2 me.2.2.1] { frames := n + 1, cells := 0, slots := 0, locals := 64 * (n + 1) } (va_Pc [Value.int a, Value.int b] (fun U => zKn B U ∧ zyMI mi B J U U.heap)) (zyQn mi B J) 0 0 (fun q => zbs B ≤ q)
theorem zyrem_lt {a b : Int32} (h : ¬ b = 0) : (a - a / b * b).toInt.natAbs < b.toInt.natAbs := by
  rw [rem_toInt, Int.natAbs_tmod]
  refine Nat.mod_lt _ ?_
  have h2 : ¬ b.toInt = 0 := fun q => h (Int32.toInt_inj.mp (q.trans (by decide : (0 : Int) = (0 : Int32).toInt)))
  omega
theorem zyint0 {b : Int32} (h : b.toInt.natAbs ≤ 0) : b = 0 := Int32.toInt_inj.mp ((show b.toInt = 0 by omega).trans (by decide : (0 : Int) = (0 : Int32).toInt))
theorem zycommon1 {l : Launch} {mi : zyB} {J : zyJt} {en : zEn} {me : zMe} (hen : zG zxMeta 213 = some en) (hme : zG zMeth 213 = some me) (n : Nat) (ih : ∀ k, n = k + 1 → ∀ a b : Int32, b.toInt.natAbs ≤ k → (¬ b = 0 ∨ ¬ a = 0) → ∀ B, zyCmt l mi J me k a b B) : ∀ a b : Int32, b.toInt.natAbs ≤ n → (¬ b = 0 ∨ ¬ a = 0) → ∀ B, zyCmt l mi J me n a b B := by
  intro a b hb0 hn0 B
  have een : zG zxMeta 213 = some (zxi213, 2, 2, 11, 213, 0, 0, 1, 0) := rfl
  obtain ⟨me1, hme1, hOK⟩ := zall hen
  rw [hme] at hme1
  cases hme1
  obtain ⟨me1, hme1, hKi⟩ := zallk hen (show zG zKd 213 = some 2 from rfl)
  rw [hme] at hme1
  cases hme1
  rw [een] at hen
  cases hen
  obtain ⟨hrow, hnum, hrk, hcn, hcls, hml40, hpl, g, hin, hg1, hgw⟩ := hOK
  unfold zyCmt
  refine zMet_ofW hpl ?_
  intro p e s mt args below meth c s₁ Bd hml hv
  obtain ⟨rfl, hK, hI⟩ := hv
  have hx := Bd.exec
  have hb := Bd.bytes
  have hown : s.vm.findClass me.2.2.2 = some mt.cls := by rw [← hcls]; exact findClass_of_methodNamed Bd.named
  have hdc : ∀ (pc : Nat) (i : Instr) (nx ax : Nat), zxi213 pc = (i, nx, ax) → ¬ i = .nop → decode me.2.1 pc = .ok (i, nx - pc) := by
    intro pc i nx ax hz hn
    have hr := hrow pc
    dsimp only at hr
    rw [hz] at hr
    rcases hr with q | q
    · exact absurd q hn
    · exact q.2.1
  have hret : me.2.2.1 = some .int := (zrk_1 (r := me.2.2.1)).2.1 hrk
  have hent := lv_entry [Value.int a, Value.int b] (n := 2) (show (2 : Nat) ≤ 2 by decide)
  rw [lg_entry_eq]
  generalize (lg_sl [Value.int a, Value.int b] ++ List.replicate (2 - (lg_sl [Value.int a, Value.int b]).length) Slot.unset).toArray = ls0 at hent ⊢
  have hent : lv_has ls0 2 [(0, .int a), (1, .int b)] := hent
  have hlocks := Bd.notSynchronized
  have fin : ∀ (H : Heap) (locs : List Loc) (ls : Array Slot) (v : Int32), H = s.heap → (∀ x ∈ locs, zbs B ≤ x.base) → ¬ v = 0 → W p l e { frames := n + 1, cells := 0, slots := 0, locals := 64 * (n + 1) } s mt #[Value.int a, Value.int b] below meth c H locs 0 0 (MQ below (zyQn mi B J) #[Value.int a, Value.int b] s 0 0 (fun q => zbs B ≤ q)) (F0 mt 15 ls [.int v]) := by
    intro H locs ls v hH hlo hv
    refine W.zret hx hb (by rw [Bd.returns]; exact hret) rfl (fun t ht hW => ?_) hlo (hdc 15 _ _ _ rfl (by decide)) hlocks
    exact ⟨v, rfl, hv, hK.warm hW, by rw [ht, hH]; exact hI.moved hW.alike, ht.trans hH⟩
  refine lv_iload_n hx hb (hdc 0 _ _ _ rfl (by decide)) rfl (lv_at hent 1 rfl) (lv_if_ne hx hb (hdc 1 _ _ _ rfl (by decide)) (tgt := 8) rfl (fun hbn => ?_) (fun hbz => ?_))
  · refine lv_iload_n hx hb (hdc 8 _ _ _ rfl (by decide)) rfl (lv_at hent 1 rfl) (lv_iload_n hx hb (hdc 9 _ _ _ rfl (by decide)) rfl (lv_at hent 0 rfl) (lv_iload_n hx hb (hdc 10 _ _ _ rfl (by decide)) rfl (lv_at hent 1 rfl) (lv_irem hx hb (hdc 11 _ _ _ rfl (by decide)) hbn ?_)))
    cases n with
    | zero => exact absurd (zyint0 hb0) hbn
    | succ k =>
      have hlt := zyrem_lt (a := a) hbn
      have hMet := ih k rfl b (a - a / b * b) (by omega) (Or.inr hbn) B
      have hr := hrow 12
      rcases hr with q | ⟨hlen, hdec, pp, hlk⟩
      · exact absurd q (by decide)
      have hlk2 : zlc me.2.2.2 155 3412 pp 4 = true := hlk
      unfold zlc at hlk2
      rw [show (3412 : Nat) / 16 = 213 from rfl, hme] at hlk2
      simp only [Bool.and_eq_true, Bool.or_eq_true, decide_eq_true_eq] at hlk2
      have hrun : va_Run p l e { frames := k + 1 + 1, cells := 0, slots := 0, locals := 64 * (k + 1 + 1) } s mt #[Value.int a, Value.int b] below meth c s.heap [] 0 0 0 0 (F0 mt 12 ls0 [.int (a - a / b * b), .int b]) [] (zyQn mi B J [Value.int b, Value.int (a - a / b * b)].toArray) (fun q => zbs B ≤ q) := by
        rcases hlk2 with ⟨hkd, hw⟩ | ⟨hkd, hw⟩
        · exact zyrow_s (en2 := (zxi213, 2, 2, 11, 213, 0, 0, 1, 0)) hx hb hml hown hK (zwd_mem hw) hcls hKi (AsV := [Value.int b, Value.int (a - a / b * b)]) rfl rfl (Nat.zero_le _) hMet rfl rfl (Nat.le_refl _) (by show 8 + (2 + 11) + 64 * (k + 1) ≤ 64 * (k + 1 + 1); omega) (fun a U g mk hp => ⟨hp.1, zKn.same (s := U) rfl hp.2.1, (hp.2.2).moved (u := U) (Vm.Alike.refl U.vm)⟩) (fun U hU hW => ⟨rfl, hK.warm hW, by rw [hU]; exact hI.moved hW.alike⟩) ⟨Nat.le_refl _, Nat.le_refl _⟩ hent.1 (hdc 12 _ _ _ rfl (by decide))
        · exact zyrow_sN (en2 := (zxi213, 2, 2, 11, 213, 0, 0, 1, 0)) hx hb hml hown hK (zwd_mem hw) hcls hKi (AsV := [Value.int b, Value.int (a - a / b * b)]) rfl rfl (Nat.zero_le _) hMet rfl rfl (Nat.le_refl _) (by show 8 + (2 + 11) + 64 * (k + 1) ≤ 64 * (k + 1 + 1); omega) (fun a U g mk hp => ⟨hp.1, zKn.same (s := U) rfl hp.2.1, (hp.2.2).moved (u := U) (Vm.Alike.refl U.vm)⟩) (fun U hU hW => ⟨rfl, hK.warm hW, by rw [hU]; exact hI.moved hW.alike⟩) ⟨Nat.le_refl _, Nat.le_refl _⟩ hent.1 (hdc 12 _ _ _ rfl (by decide))
      refine zycont hrun (fun x hx => by cases hx) (fun st₀ t vo locs2 hh0 hQ hal hlo2 => ?_)
      obtain ⟨z, ho, hz, -, -, hh⟩ := hQ
      cases ho
      exact fin t.heap locs2 ls0 z (hh.trans hh0) hlo2 hz
  · refine lv_iload_n hx hb (hdc 4 _ _ _ rfl (by decide)) rfl (lv_at hent 0 rfl) (lv_goto hx hb (hdc 5 _ _ _ rfl (by decide)) (tgt := 15) rfl (fin s.heap [] ls0 a rfl (fun x hx => by cases hx) ?_))
    rcases hn0 with q | q
    · exact absurd hbz q
    · exact q
theorem zycommon {l : Launch} {mi : zyB} {J : zyJt} {en : zEn} {me : zMe} (hen : zG zxMeta 213 = some en) (hme : zG zMeth 213 = some me) : ∀ (n : Nat) (a b : Int32), b.toInt.natAbs ≤ n → (¬ b = 0 ∨ ¬ a = 0) → ∀ B, zyCmt l mi J me n a b B := by
  intro n
  induction n with
  | zero => exact zycommon1 hen hme 0 (fun k hk => by omega)
  | succ n ih => exact zycommon1 hen hme (n + 1) (fun k hk => by
      have : k = n := by omega
      rw [this]
      exact ih)
theorem zymultiple {l : Launch} {mi : zyB} {J : zyJt} {en : zEn} {me : zMe} (hen : zG zxMeta 214 = some en) (hme : zG zMeth 214 = some me) : zyCon l mi J en me ([34359738362, 73786976346377814658], [], [34359738362], 90, [], []) := by
  have een : zG zxMeta 214 = some (zxi214, 2, 2, 11, 214, 0, 0, 1, 0) := rfl
  obtain ⟨me1, hme1, hOK⟩ := zall hen
  rw [hme] at hme1
  cases hme1
  rw [een] at hen
  cases hen
  have hen2 : zG zxMeta 213 = some (zxi213, 2, 2, 11, 213, 0, 0, 1, 0) := rfl
  obtain ⟨me2, hme2, hOK2⟩ := zall hen2
  obtain ⟨me3, hme3, hKi⟩ := zallk hen2 (show zG zKd 213 = some 2 from rfl)
  rw [hme2] at hme3
  cases hme3
  obtain ⟨hrow, hnum, hrk, hcn, hcls, hml40, hpl, g, hin, hg1, hgw⟩ := hOK
  intro B AsV hA
  obtain ⟨va, t, rfl, a1, hA⟩ := zySt_c hA
  obtain ⟨vb, t, rfl, a2, hA⟩ := zySt_c hA
  have eA := zySt_n hA
  subst eA
  obtain ⟨a, rfl⟩ := zyv_int a1 (by decide)
  obtain ⟨b, rfl, b1, b2⟩ := zv_2 (zyv_zv a2 (by decide) (by decide)) (by decide)
  have b1 : 2147483649 ≤ zB b := b1
  have b2 : zB b ≤ 2147483728 := b2
  have bi := zB_int b
  have hb80 : b.toInt.natAbs ≤ 80 := by omega
  have hbn : ¬ b = 0 := fun q => by
    rw [q] at b1
    exact absurd b1 (by decide)
  have hMet := zycommon (l := l) (mi := mi) (J := J) hen2 hme2 80 a b hb80 (Or.inl hbn) B
  refine zMet_ofW hpl ?_
  intro p e s mt args below meth c s₁ Bd hml hv
  obtain ⟨rfl, hK, hI, hPk⟩ := hv
  have hx := Bd.exec
  have hb := Bd.bytes
  have hown : s.vm.findClass me.2.2.2 = some mt.cls := by rw [← hcls]; exact findClass_of_methodNamed Bd.named
  have hdc : ∀ (pc : Nat) (i : Instr) (nx ax : Nat), zxi214 pc = (i, nx, ax) → ¬ i = .nop → decode me.2.1 pc = .ok (i, nx - pc) := by
    intro pc i nx ax hz hn
    have hr := hrow pc
    dsimp only at hr
    rw [hz] at hr
    rcases hr with q | q
    · exact absurd q hn
    · exact q.2.1
  have hret : me.2.2.1 = some .int := (zrk_1 (r := me.2.2.1)).2.1 hrk
  have hent := lv_entry [Value.int a, Value.int b] (n := 2) (show (2 : Nat) ≤ 2 by decide)
  rw [lg_entry_eq]
  generalize (lg_sl [Value.int a, Value.int b] ++ List.replicate (2 - (lg_sl [Value.int a, Value.int b]).length) Slot.unset).toArray = ls0 at hent ⊢
  have hent : lv_has ls0 2 [(0, .int a), (1, .int b)] := hent
  have hlocks := Bd.notSynchronized
  refine lv_iload_n hx hb (hdc 0 _ _ _ rfl (by decide)) rfl (lv_at hent 0 rfl) (lv_iload_n hx hb (hdc 1 _ _ _ rfl (by decide)) rfl (lv_at hent 0 rfl) (lv_iload_n hx hb (hdc 2 _ _ _ rfl (by decide)) rfl (lv_at hent 1 rfl) ?_))
  have hr := hrow 3
  rcases hr with q | ⟨hlen, hdec, pp, hlk⟩
  · exact absurd q (by decide)
  have hlk2 : zlc me.2.2.2 155 3412 pp 4 = true := hlk
  unfold zlc at hlk2
  rw [show (3412 : Nat) / 16 = 213 from rfl, hme2] at hlk2
  simp only [Bool.and_eq_true, Bool.or_eq_true, decide_eq_true_eq] at hlk2
  have hrun : va_Run p l e { frames := 90, cells := 0, slots := 0, locals := 64 * 90 } s mt #[Value.int a, Value.int b] below meth c s.heap [] 0 0 0 0 (F0 mt 3 ls0 [.int b, .int a, .int a]) [.int a] (zyQn mi B J [Value.int a, Value.int b].toArray) (fun q => zbs B ≤ q) := by
    rcases hlk2 with ⟨hkd, hw⟩ | ⟨hkd, hw⟩
    · exact zyrow_s (en2 := (zxi213, 2, 2, 11, 213, 0, 0, 1, 0)) hx hb hml hown hK (zwd_mem hw) hOK2.2.2.2.2.1 hKi (AsV := [Value.int a, Value.int b]) rfl rfl (show 1 ≤ 8 by decide) hMet rfl rfl (show 81 + 1 ≤ 90 by decide) (show 8 + (2 + 11) + 64 * 81 ≤ 64 * 90 by decide) (fun a U g mk hp => ⟨hp.1, zKn.same (s := U) rfl hp.2.1, (hp.2.2).moved (u := U) (Vm.Alike.refl U.vm)⟩) (fun U hU hW => ⟨rfl, hK.warm hW, by rw [hU]; exact hI.moved hW.alike⟩) ⟨Nat.zero_le _, Nat.zero_le _⟩ hent.1 (hdc 3 _ _ _ rfl (by decide))
    · exact zyrow_sN (en2 := (zxi213, 2, 2, 11, 213, 0, 0, 1, 0)) hx hb hml hown hK (zwd_mem hw) hOK2.2.2.2.2.1 hKi (AsV := [Value.int a, Value.int b]) rfl rfl (show 1 ≤ 8 by decide) hMet rfl rfl (show 81 + 1 ≤ 90 by decide) (show 8 + (2 + 11) + 64 * 81 ≤ 64 * 90 by decide) (fun a U g mk hp => ⟨hp.1, zKn.same (s := U) rfl hp.2.1, (hp.2.2).moved (u := U) (Vm.Alike.refl U.vm)⟩) (fun U hU hW => ⟨rfl, hK.warm hW, by rw [hU]; exact hI.moved hW.alike⟩) ⟨Nat.zero_le _, Nat.zero_le _⟩ hent.1 (hdc 3 _ _ _ rfl (by decide))
  refine zycont hrun (fun x hx => by cases hx) (fun st₀ t vo locs2 hh0 hQ hal hlo2 => ?_)
  obtain ⟨z, ho, hz, -, -, hh⟩ := hQ
  cases ho
  have hH : t.heap = s.heap := hh.trans hh0
  rw [hH]
  refine lv_idiv hx hb (hdc 6 _ _ _ rfl (by decide)) hz (lv_iload_n hx hb (hdc 7 _ _ _ rfl (by decide)) rfl (lv_at hent 1 rfl) (lv_imul hx hb (hdc 8 _ _ _ rfl (by decide)) (W.zret hx hb (by rw [Bd.returns]; exact hret) rfl (fun t2 ht hW => ?_) hlo2 (hdc 9 _ _ _ rfl (by decide)) hlocks)))
  exact ⟨some (.int (a / z * b)), rfl, zyv_bd (lo := 0) (hi := 4294967295) (Nat.zero_le _) (by have := zB_lt (a / z * b); omega) (by decide), hK.warm hW, by rw [ht]; exact hI.moved hW.alike, (fun q hq => by cases hq), fun a k _ => by rw [ht], fun q _ => by rw [ht]⟩
