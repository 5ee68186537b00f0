/-! BY HAND: the least common multiple of longs; the phase of any int -/
theorem zycmp0 {x : Int64} (h : ¬ lg_cmp x 0 = 0) : ¬ x = 0 := fun z => h (by rw [z]; rfl)
theorem zyhand_lc {l : Launch} {mi : zyB} {J : zyJt} {en : zEn} {me : zMe} (hen : zG zxMeta 187 = some en) (hme : zG zMeth 187 = some me) : zyCon l mi J en me ([147573952589676412932, 147573952589676412932], [], [147573952589676412932], 1, [], []) := by
  have een : zG zxMeta 187 = some (zxi187, 2, 11, 10, 187, 0, 0, 3, 0) := rfl
  obtain ⟨me1, hme1, hOK⟩ := zall hen
  rw [hme] at hme1
  cases hme1
  rw [een] at hen
  cases hen
  obtain ⟨hrow, hnum, hrk, hcn, hcls, hml40, hpl, g, hin, hg1, hgw⟩ := hOK
  intro B AsV hA
  obtain ⟨va, t, rfl, h1, hA⟩ := zySt_c hA
  obtain ⟨vb, t, rfl, h2, hA⟩ := zySt_c hA
  have eA := zySt_n hA
  subst eA
  obtain ⟨a, rfl, -⟩ := zyv_4 h1 (by decide)
  obtain ⟨b, rfl, -⟩ := zyv_4 h2 (by decide)
  refine zMet_ofW hpl ?_
  intro p e s mt args below meth c s₁ Bd hml hv
  obtain ⟨rfl, hK, hI, hPk⟩ := hv
  have hx := Bd.exec
  have hb := Bd.bytes
  have hdc : ∀ (pc : Nat) (i : Instr) (nx ax : Nat), zxi187 pc = (i, nx, ax) → ¬ i = .nop → decode me.2.1 pc = .ok (i, nx - pc) := by
    intro pc i nx ax hz hn
    have hr := hrow pc
    dsimp only at hr
    rw [hz] at hr
    rcases hr with q | q
    · exact absurd q hn
    · exact q.2.1
  have hret : me.2.2.1 = some .long := (zrk_1 (r := me.2.2.1)).2.2.2.1 hrk
  have hent := lv_entry [Value.long a, Value.long b] (n := 11) (show (4 : Nat) ≤ 11 by decide)
  rw [lg_entry_eq]
  generalize (lg_sl [Value.long a, Value.long b] ++ List.replicate (11 - (lg_sl [Value.long a, Value.long b]).length) Slot.unset).toArray = ls0 at hent ⊢
  have hent : lv_has ls0 11 [(0, .long a), (2, .long b)] := hent
  have hlocks := Bd.notSynchronized
  have fin : ∀ (ls : Array Slot) (x : Int64), W p l e { frames := 1, cells := 0, slots := 0, locals := 64 * 1 } s mt #[Value.long a, Value.long b] below meth c s.heap [] 0 0 (MQ below (zyQk mi B J ([147573952589676412932, 147573952589676412932], [], [147573952589676412932], 1, [], [])) #[Value.long a, Value.long b] s 0 0 (fun q => zbs B ≤ q)) (F0 mt 61 ls [.long x]) := by
    intro ls x
    refine W.lret hx hb (by rw [Bd.returns]; exact hret) (fun t ht hW => ?_) (fun q hq => by cases hq) (hdc 61 _ _ _ rfl (by decide)) hlocks
    exact ⟨some (.long x), rfl, zyv_anyL x, hK.warm hW, by rw [ht]; exact hI.moved hW.alike, (fun q hq => by cases hq), fun a k _ => by rw [ht], fun q _ => by rw [ht]⟩
  have tail : ∀ (ls : Array Slot) (h lo : Int64) (i : Int32), lv_has ls 11 [(8, .int i), (6, .long lo), (4, .long h), (0, .long a), (2, .long b)] → W p l e { frames := 1, cells := 0, slots := 0, locals := 64 * 1 } s mt #[Value.long a, Value.long b] below meth c s.heap [] 0 0 (MQ below (zyQk mi B J ([147573952589676412932, 147573952589676412932], [], [147573952589676412932], 1, [], [])) #[Value.long a, Value.long b] s 0 0 (fun q => zbs B ≤ q)) (F0 mt 44 ls []) := by
    intro ls h lo i hv
    refine lv_lload hx hb (hdc 44 _ _ _ rfl (by decide)) (lv_at hv 2 rfl) (lv_lconst hx hb (hdc 46 _ _ _ rfl (by decide)) rfl (W.lcmp hx hb (hdc 47 _ _ _ rfl (by decide)) (lv_if_ne hx hb (hdc 48 _ _ _ rfl (by decide)) (tgt := 55) rfl (fun hne => ?_) (fun _ => ?_))))
    · exact lv_lload_n hx hb (hdc 55 _ _ _ rfl (by decide)) rfl (lv_at hv 3 rfl) (lv_lload hx hb (hdc 56 _ _ _ rfl (by decide)) (lv_at hv 2 rfl) (lv_ldiv hx hb (hdc 58 _ _ _ rfl (by decide)) (zycmp0 hne) (lv_lload_n hx hb (hdc 59 _ _ _ rfl (by decide)) rfl (lv_at hv 4 rfl) (lv_lmul hx hb (hdc 60 _ _ _ rfl (by decide)) (fin ls _)))))
    · exact lv_lconst hx hb (hdc 51 _ _ _ rfl (by decide)) rfl (lv_goto hx hb (hdc 52 _ _ _ rfl (by decide)) (tgt := 61) rfl (fin ls _))
  have loop : ∀ (n : Nat) (ls : Array Slot) (h lo : Int64) (i : Int32), 100 - i.toInt ≤ (n : Int) → lv_has ls 11 [(8, .int i), (6, .long lo), (4, .long h), (0, .long a), (2, .long b)] → W p l e { frames := 1, cells := 0, slots := 0, locals := 64 * 1 } s mt #[Value.long a, Value.long b] below meth c s.heap [] 0 0 (MQ below (zyQk mi B J ([147573952589676412932, 147573952589676412932], [], [147573952589676412932], 1, [], [])) #[Value.long a, Value.long b] s 0 0 (fun q => zbs B ≤ q)) (F0 mt 9 ls []) := by
    intro n
    induction n with
    | zero =>
      intro ls h lo i hn hv
      refine lv_iload hx hb (hdc 9 _ _ _ rfl (by decide)) (lv_at hv 0 rfl) (lv_bipush hx hb (hdc 11 _ _ _ rfl (by decide)) (v := 100) rfl (lv_icmp_ge hx hb (hdc 13 _ _ _ rfl (by decide)) (tgt := 44) rfl (fun _ => tail ls h lo i hv) (fun hlt => ?_)))
      exfalso
      apply hlt
      rw [Int32.le_iff_toInt_le]
      have e1 : (100 : Int32).toInt = 100 := by decide
      omega
    | succ n ih =>
      intro ls h lo i hn hv
      refine lv_iload hx hb (hdc 9 _ _ _ rfl (by decide)) (lv_at hv 0 rfl) (lv_bipush hx hb (hdc 11 _ _ _ rfl (by decide)) (v := 100) rfl (lv_icmp_ge hx hb (hdc 13 _ _ _ rfl (by decide)) (tgt := 44) rfl (fun _ => tail ls h lo i hv) (fun hlt => ?_)))
      have hlt2 : i.toInt < 100 := by
        have e1 : (100 : Int32).toInt = 100 := by decide
        rw [Int32.le_iff_toInt_le] at hlt
        omega
      refine lv_lload hx hb (hdc 16 _ _ _ rfl (by decide)) (lv_at hv 1 rfl) (lv_lconst hx hb (hdc 18 _ _ _ rfl (by decide)) rfl (W.lcmp hx hb (hdc 19 _ _ _ rfl (by decide)) (lv_if_eq hx hb (hdc 20 _ _ _ rfl (by decide)) (tgt := 44) rfl (fun _ => tail ls h lo i hv) (fun hne => ?_))))
      refine lv_lload hx hb (hdc 23 _ _ _ rfl (by decide)) (lv_at hv 2 rfl) (lv_lload hx hb (hdc 25 _ _ _ rfl (by decide)) (lv_at hv 1 rfl) (lv_lrem hx hb (hdc 27 _ _ _ rfl (by decide)) (zycmp0 hne) ?_))
      refine lv_lstore hx hb (hdc 28 _ _ _ rfl (by decide)) hv (by decide) (lv' := [(9, .long (h - h / lo * lo)), (8, .int i), (6, .long lo), (4, .long h), (0, .long a), (2, .long b)]) rfl (fun ls1 hv1 => ?_)
      refine lv_lload hx hb (hdc 30 _ _ _ rfl (by decide)) (lv_at hv1 2 rfl) (lv_lstore hx hb (hdc 32 _ _ _ rfl (by decide)) hv1 (by decide) (lv' := [(4, .long lo), (9, .long (h - h / lo * lo)), (8, .int i), (6, .long lo), (0, .long a), (2, .long b)]) rfl (fun ls2 hv2 => ?_))
      refine lv_lload hx hb (hdc 34 _ _ _ rfl (by decide)) (lv_at hv2 1 rfl) (lv_lstore hx hb (hdc 36 _ _ _ rfl (by decide)) hv2 (by decide) (lv' := [(6, .long (h - h / lo * lo)), (4, .long lo), (9, .long (h - h / lo * lo)), (8, .int i), (0, .long a), (2, .long b)]) rfl (fun ls3 hv3 => ?_))
      refine lv_iinc hx hb (hdc 38 _ _ _ rfl (by decide)) hv3 (k := 3) rfl (v := i + Int32.ofInt 1) rfl (by decide) (lv' := [(8, .int (i + Int32.ofInt 1)), (6, .long (h - h / lo * lo)), (4, .long lo), (9, .long (h - h / lo * lo)), (0, .long a), (2, .long b)]) rfl (fun ls4 hv4 => ?_)
      refine lv_goto hx hb (hdc 41 _ _ _ rfl (by decide)) (tgt := 9) rfl (ih ls4 lo (h - h / lo * lo) (i + Int32.ofInt 1) ?_ ⟨hv4.1, hv4.2.1, fun q hq => hv4.2.2 q ?_⟩)
      · have e1 : (i + Int32.ofInt 1).toInt = i.toInt + 1 := by
          have l1 := Int32.le_toInt i
          have e2 : (Int32.ofInt 1).toInt = 1 := by decide
          rw [Int32.toInt_add, e2]
          apply Int.bmod_eq_of_le
          · omega
          · omega
        omega
      · simp only [List.mem_cons, List.not_mem_nil, or_false] at hq ⊢
        rcases hq with hq | hq | hq | hq | hq
        · exact Or.inl hq
        · exact Or.inr (Or.inl hq)
        · exact Or.inr (Or.inr (Or.inl hq))
        · exact Or.inr (Or.inr (Or.inr (Or.inr (Or.inl hq))))
        · exact Or.inr (Or.inr (Or.inr (Or.inr (Or.inr hq))))
  refine lv_lload_n hx hb (hdc 0 _ _ _ rfl (by decide)) rfl (lv_at hent 0 rfl) (lv_lstore hx hb (hdc 1 _ _ _ rfl (by decide)) hent (by decide) (lv' := [(4, .long a), (0, .long a), (2, .long b)]) rfl (fun ls1 hv1 => ?_))
  refine lv_lload_n hx hb (hdc 3 _ _ _ rfl (by decide)) rfl (lv_at hv1 2 rfl) (lv_lstore hx hb (hdc 4 _ _ _ rfl (by decide)) hv1 (by decide) (lv' := [(6, .long b), (4, .long a), (0, .long a), (2, .long b)]) rfl (fun ls2 hv2 => ?_))
  refine lv_iconst hx hb (hdc 6 _ _ _ rfl (by decide)) (v := 0) rfl (lv_istore hx hb (hdc 7 _ _ _ rfl (by decide)) hv2 (by decide) (lv' := [(8, .int 0), (6, .long b), (4, .long a), (0, .long a), (2, .long b)]) rfl (fun ls3 hv3 => ?_))
  exact loop 100 ls3 a b 0 (by decide) hv3
/-- two contracts that differ in what they ask of the arguments alone -/
theorem zyCon_or {l : Launch} {mi : zyB} {J : zyJt} {en : zEn} {me : zMe} {a a1 a2 : List Nat} {ct : zyR × List Nat × Nat × List (Nat × Nat) × List (Nat × Nat)} (h1 : zyCon l mi J en me (a1, ct)) (h2 : zyCon l mi J en me (a2, ct)) (ha : ∀ (B : zCx) (AsV : List Value), zySt (zyX0 B J) a AsV → zySt (zyX0 B J) a1 AsV ∨ zySt (zyX0 B J) a2 AsV) : zyCon l mi J en me (a, ct) := by
  intro B AsV hA
  rcases ha B AsV hA with h | h
  · exact h1 B AsV h
  · exact h2 B AsV h
theorem zyhalves {B : zCx} {J : zyJt} {AsV : List Value} (h : zySt (zyX0 B J) [34359738362] AsV) : zySt (zyX0 B J) [73786976329197944826] AsV ∨ zySt (zyX0 B J) [17179869178] AsV := by
  obtain ⟨v, t, rfl, h1, h2⟩ := zySt_c h
  obtain ⟨x, rfl⟩ := zyv_int h1 (by decide)
  have hl := zB_lt x
  by_cases hx : 2147483648 ≤ zB x
  · exact Or.inl ⟨zyv_bd (lo := 2147483648) (hi := 4294967295) hx (by omega) (by omega), h2⟩
  · exact Or.inr ⟨zyv_bd (lo := 0) (hi := 2147483647) (Nat.zero_le _) (by omega) (by omega), h2⟩
