/-! THE MACHINE's STEPS: switches, constants, statics, Object's constructor -/
section ZN
variable {p : Program} {l : Launch} {e : Env} {R : Room} {s : State} {mt : MethodId} {args : Array Value} {below : List Frame} {meth : Method} {c : Code} {Q : State → Prop} {X : zCx} {cf : Nat → zT} {y : zY} {fs : List zFr} {nL : Nat} {d : Nat × Nat × Nat} {k : zK}
variable {w : zW} {pc nx ax : Nat} {ls st : List Nat} {q : zQ} {m : zM} {H : Heap} {locs : List Loc} {lsA : Array Slot} {stA : List Value} {own : String} {cc : ByteArray} {idx pp : Nat}
theorem zB_int (x : Int32) : (zB x : Int) = x.toInt + 2147483648 := by
  unfold zB
  have := Int32.le_toInt x
  omega
theorem zw_tab {df lo hi : Int} {offs : Array Int} {len : Nat} (hexec : p.tables.exec = Jvm.exec) (hb : c.code = cc) (hdg : decode cc pc = .ok (.tableswitch df lo hi offs, len))
    (hKS : zKS p l e R s mt args below meth c Q X cf y fs nL d k) (h : zo_tab df lo hi offs nx ax k w cf y pc ls st q fs m = true) (hR : zRl X s nL d w ls st q m H locs lsA stA) : W p l e R s mt args below meth c H locs q.2.1 q.2.2 Q (F0 mt pc lsA stA) := by
  unfold zo_tab at h
  simp only [zfr_eq, zn_c, zn_p, zn_s, zn_u] at h
  obtain ⟨v, r, es, h'⟩ := zpop_iff h
  clear h
  have h := h'
  clear h'
  subst es
  obtain ⟨x', stB, rfl, hv, hS2⟩ := zSt_c hR.2.2.2.2.1
  rcases zif_iff h with ⟨h0, h⟩ | ⟨-, h⟩
  rotate_left
  · cases h
  obtain ⟨h01, h02⟩ := zand_iff h0
  rw [decide_eq_true_eq] at h01 h02
  obtain ⟨x, a, b, rfl, b1, b2, h⟩ := zbd_iff h hR.1 hv
  have hBi := zB_int x
  rcases zif_iff h with ⟨h1, h⟩ | ⟨h1, h⟩
  · rcases zif_iff h with ⟨h2, h⟩ | ⟨-, h⟩
    rotate_left
    · cases h
    rw [decide_eq_true_eq] at h2
    refine lv_tableOut hexec hb hdg ?_ h2.symm (zgo hKS h hR rfl hR.1 hS2)
    rcases zif_iff h1 with ⟨h3, -⟩ | ⟨-, h3⟩
    · have := zbleT h3
      left
      omega
    · have := zbleT h3
      right
      omega
  have h3 : ¬ b + 1 ≤ (lo + 2147483648).toNat ∧ ¬ (hi + 2147483648).toNat + 1 ≤ a := by
    cases hq1 : Nat.ble (b + 1) (lo + 2147483648).toNat with
    | true => rw [hq1] at h1; cases h1
    | false =>
      rw [hq1] at h1
      exact ⟨zbleF hq1, zbleF h1⟩
  rcases zif_iff h with ⟨h4, h⟩ | ⟨h4, h⟩
  · obtain ⟨g1, g2⟩ := zand_iff h
    by_cases hc : zB x < (lo + 2147483648).toNat
    · obtain ⟨w2, e1, E2, g3⟩ := zcut_iff g1 hR.1 hv b1 (by omega)
      exact zgo hKS g3 hR e1 E2 hR.2.2.2.2.1
    · obtain ⟨w2, e1, E2, g3⟩ := zcut_iff g2 hR.1 hv (by omega) b2
      exact zgo hKS g3 hR e1 E2 hR.2.2.2.2.1
  rcases zif_iff h with ⟨h5, h⟩ | ⟨h5, h⟩
  · obtain ⟨g1, g2⟩ := zand_iff h
    by_cases hc : zB x ≤ (hi + 2147483648).toNat
    · obtain ⟨w2, e1, E2, g3⟩ := zcut_iff g2 hR.1 hv b1 hc
      exact zgo hKS g3 hR e1 E2 hR.2.2.2.2.1
    · obtain ⟨w2, e1, E2, g3⟩ := zcut_iff g1 hR.1 hv (by omega) b2
      exact zgo hKS g3 hR e1 E2 hR.2.2.2.2.1
  have h4 := zbleF h4
  have h5 := zbleF h5
  rcases zindex_iff h hR.1 hv with ⟨w2, e1, E2, h⟩ | ⟨u, e1, h⟩ | ⟨u, e1, h⟩
  · exact zgo hKS h hR e1 E2 hR.2.2.2.2.1
  · refine zgo hKS h hR rfl hR.1 ⟨?_, hS2⟩
    rw [e1]
    exact zv_mk rfl
  · obtain ⟨o, ho, h⟩ := znth_iff h
    rcases zif_iff h with ⟨h2, h⟩ | ⟨-, h⟩
    rotate_left
    · cases h
    rw [decide_eq_true_eq] at h2
    have e2 := Value.int.inj e1
    have e3 : zb u = zB x := by rw [e2, zB_of]
    rw [e3] at ho
    refine lv_tableIn hexec hb hdg (by omega) (by omega) (off := o) ?_ h2.symm (zgo hKS h hR rfl hR.1 hS2)
    rw [← Array.getElem?_toList]
    have e4 : (x.toInt - lo).toNat = zB x - (lo + 2147483648).toNat := by omega
    rw [e4]
    exact ho
theorem zw_look {df : Int} {ps : Array (Int × Int)} {len : Nat} (hexec : p.tables.exec = Jvm.exec) (hb : c.code = cc) (hdg : decode cc pc = .ok (.lookupswitch df ps, len))
    (hKS : zKS p l e R s mt args below meth c Q X cf y fs nL d k) (h : zo_look df ps nx ax k w cf y pc ls st q fs m = true) (hR : zRl X s nL d w ls st q m H locs lsA stA) : W p l e R s mt args below meth c H locs q.2.1 q.2.2 Q (F0 mt pc lsA stA) := by
  unfold zo_look at h
  simp only [zfr_eq, zn_u] at h
  obtain ⟨v, r, es, h'⟩ := zpop_iff h
  clear h
  have h := h'
  clear h'
  subst es
  obtain ⟨x', stB, rfl, hv, hS2⟩ := zSt_c hR.2.2.2.2.1
  rcases zindex_iff h hR.1 hv with ⟨w2, e1, E2, h⟩ | ⟨u, rfl, h⟩ | ⟨u, rfl, h⟩
  · exact zgo hKS h hR e1 E2 hR.2.2.2.2.1
  · exact zgo hKS h hR rfl hR.1 ⟨zv_mk rfl, hS2⟩
  · rcases zif_iff h with ⟨h1, h⟩ | ⟨-, h⟩
    rotate_left
    · cases h
    rcases zif_iff h with ⟨h2, h⟩ | ⟨-, h⟩
    rotate_left
    · cases h
    rw [decide_eq_true_eq] at h2
    exact lv_lookup hexec hb hdg h1 rfl h2.symm (zgo hKS h hR rfl hR.1 hS2)
theorem zw_ldcS {lw : Bool} (hexec : p.tables.exec = Jvm.exec) (hb : c.code = cc) (hown : s.vm.findClass own = some mt.cls) (hK : zKn X s) {i : Nat} (hi : i < 30) (hs1 : (zskey i).1 = own) (hs2 : (zskey i).2.1 = idx) (hdg : decode cc pc = .ok (if lw then .ldc_w idx else .ldc idx, if lw then 3 else 2))
    (kk : W p l e R s mt args below meth c H locs q.2.1 q.2.2 Q (F0 mt (pc + if lw then 3 else 2) lsA (.ref (zhi X (100000 + i)) :: stA))) : W p l e R s mt args below meth c H locs q.2.1 q.2.2 Q (F0 mt pc lsA stA) := by
  obtain ⟨⟨hZ1, hZ2⟩, -⟩ := hK.2.2.2.1 i hi
  rw [hs1, hs2] at hZ1 hZ2
  cases lw with
  | false => exact va_ldcS hexec hb hown ⟨hZ1, hZ2⟩ hdg kk
  | true =>
    intro T hT X0
    obtain ⟨t, a1, b1⟩ := kk T hT X0
    exact ⟨t, X0.ldcStringW hexec hown hZ1 hZ2 (g := F0 mt pc lsA stA) rfl (by rw [hb]; exact hdg) t a1, b1⟩
theorem zw_ldc {lw : Bool} (hexec : p.tables.exec = Jvm.exec) (hb : c.code = cc) (hown : s.vm.findClass own = some mt.cls) (hK : zKn X s)
    (hlk : (if ax ≤ 4294967295 then decide (zwd pp = some (.constant own idx (Int32.ofNat (zb ax)))) else decide ((zskey (ax - 4294967296)).1 = own ∧ (zskey (ax - 4294967296)).2.1 = idx ∧ ax - 4294967296 < 30)) = true)
    (hdg : decode cc pc = .ok (if lw then .ldc_w idx else .ldc idx, if lw then 3 else 2)) (hnx : nx = pc + if lw then 3 else 2)
    (hKS : zKS p l e R s mt args below meth c Q X cf y fs nL d k) (h : zo_ldc nx ax k w cf y pc ls st q fs m = true) (hR : zRl X s nL d w ls st q m H locs lsA stA) : W p l e R s mt args below meth c H locs q.2.1 q.2.2 Q (F0 mt pc lsA stA) := by
  subst hnx
  unfold zo_ldc at h
  simp only [zfr_eq, zn_a, zn_s, zn_u] at h
  rcases zif_iff h with ⟨h1, h⟩ | ⟨h1, h⟩
  · rw [if_pos (zbleT h1), decide_eq_true_eq] at hlk
    have hw := zword (args := args) hK (zwd_mem hlk) rfl
    have kk := zgo hKS h hR rfl hR.1 (stB := .int (Int32.ofNat (zb ax)) :: stA) ⟨zv_mk rfl, hR.2.2.2.2.1⟩
    cases lw with
    | false => exact lv_ldc hexec hb hown hw hdg kk
    | true => exact lv_ldcw hexec hb hown hw hdg kk
  · rw [if_neg (zbleF h1), decide_eq_true_eq] at hlk
    obtain ⟨g1, g2, g3⟩ := hlk
    have e1 := zhigh (X := X) (a := 100000 + (ax - 4294967296)) (by omega)
    refine zw_ldcS (lw := lw) hexec hb hown hK g3 g1 g2 hdg (zgo hKS h hR rfl hR.1 ⟨?_, hR.2.2.2.2.1⟩)
    rw [← e1, show ax - 4294967296 + 100000 = 100000 + (ax - 4294967296) by omega]
    exact zv_ref _
theorem zw_ldc2 (hexec : p.tables.exec = Jvm.exec) (hb : c.code = cc) (hown : s.vm.findClass own = some mt.cls) (hK : zKn X s) (hlk : zwd pp = some (.constantLong own idx (Int64.ofNat ax))) (hdg : decode cc pc = .ok (.ldc2_w idx, 3)) (hnx : nx = pc + 3)
    (hKS : zKS p l e R s mt args below meth c Q X cf y fs nL d k) (h : zo_ldc2 nx ax k w cf y pc ls st q fs m = true) (hR : zRl X s nL d w ls st q m H locs lsA stA) : W p l e R s mt args below meth c H locs q.2.1 q.2.2 Q (F0 mt pc lsA stA) := by
  subst hnx
  unfold zo_ldc2 at h
  simp only [zfr_eq, zn_a, zn_u] at h
  exact lv_ldc2 hexec hb hown (zword (args := args) hK (zwd_mem hlk) rfl) hdg (zgo hKS h hR rfl hR.1 ⟨zv_mkl rfl, hR.2.2.2.2.1⟩)
theorem zw_gets (hexec : p.tables.exec = Jvm.exec) (hb : c.code = cc) (hown : s.vm.findClass own = some mt.cls) (hK : zKn X s) (hlk : ((decide (ax = 1) && decide (zwd pp = some (.fieldLink own idx "java/lang/String" "COMPACT_STRINGS" "Z"))) || (decide (ax = 2) && decide (zwd pp = some (.fieldLink own idx "jdk/internal/util/Preconditions" "SIOOBE_FORMATTER" "Ljava/util/function/BiFunction;")))) = true) (hdg : decode cc pc = .ok (.getstatic idx, 3)) (hnx : nx = pc + 3)
    (hKS : zKS p l e R s mt args below meth c Q X cf y fs nL d k) (h : zo_gets nx ax k w cf y pc ls st q fs m = true) (hR : zRl X s nL d w ls st q m H locs lsA stA) : W p l e R s mt args below meth c H locs q.2.1 q.2.2 Q (F0 mt pc lsA stA) := by
  subst hnx
  unfold zo_gets at h
  simp only [Bool.and_eq_true, Bool.or_eq_true, decide_eq_true_eq] at hlk
  have hlow := zlowH (w := w) hR.2.1
  have key : ∀ (C n ds : String) (v : Value), va_Z C n ds v (zUp X) s (zH0 X) → (Cond.fieldLink own idx C n ds).before args s = true → W p l e R s mt args below meth c H locs q.2.1 q.2.2 Q (F0 mt (pc + 3) lsA (v :: stA)) → W p l e R s mt args below meth c H locs q.2.1 q.2.2 Q (F0 mt pc lsA stA) := by
    intro C n ds v hZ hl kk
    obtain ⟨cf0, kf, fi, f, a, cell, h1, h2, h3, h4, h5, h6, h7, h8⟩ := hZ.kept hlow
    exact W.gets hexec hb hown hl h1 h2 h3 h4 h5 (fun e => by rw [e] at h6; cases h6) h7 rfl hdg kk
  rcases zif_iff h with ⟨h1, h⟩ | ⟨h1, h⟩
  · have e1 := zbeqT h1
    rcases hlk with ⟨-, g2⟩ | ⟨g1, -⟩
    · exact key _ _ _ (.int 1) hK.2.2.2.2.1 (zword (args := args) hK (zwd_mem g2) rfl) (zgo hKS h hR rfl hR.1 ⟨Or.inl ⟨rfl, rfl⟩, hR.2.2.2.2.1⟩)
    · omega
  rcases zif_iff h with ⟨h2, h⟩ | ⟨-, h⟩
  · have e1 := zbeqT h2
    rcases hlk with ⟨g1, -⟩ | ⟨-, g2⟩
    · omega
    · rcases hK.2.2.2.2.2 with hz | ⟨t, hz⟩
      · exact key _ _ _ .null hz (zword (args := args) hK (zwd_mem g2) rfl) (zgo hKS h hR rfl hR.1 ⟨Or.inr (Or.inr (Or.inr (Or.inr (Or.inr (Or.inr ⟨rfl, Or.inl rfl⟩))))), hR.2.2.2.2.1⟩)
      · exact key _ _ _ (.ref t) hz (zword (args := args) hK (zwd_mem g2) rfl) (zgo hKS h hR rfl hR.1 ⟨Or.inr (Or.inr (Or.inr (Or.inr (Or.inr (Or.inr ⟨rfl, Or.inr ⟨t, rfl⟩⟩))))), hR.2.2.2.2.1⟩)
  · cases h
theorem zw_obj (hexec : p.tables.exec = Jvm.exec) (hb : c.code = cc) (hml : c.maxLocals = nL) (hown : s.vm.findClass own = some mt.cls) (hK : zKn X s) (hlk : zwd pp = some (.methodLink own idx objectInit)) (hfr : d.1 ≤ R.frames) (hlo : 64 * d.1 ≤ R.locals) (hdg : decode cc pc = .ok (.invokespecial idx, 3)) (hnx : nx = pc + 3)
    (hKS : zKS p l e R s mt args below meth c Q X cf y fs nL d k) (h : zjdk nx ax k w cf y pc ls st q fs m = true) (hR : zRl X s nL d w ls st q m H locs lsA stA) : W p l e R s mt args below meth c H locs q.2.1 q.2.2 Q (F0 mt pc lsA stA) := by
  subst hnx
  unfold zjdk at h
  simp only [zn_m] at h
  obtain ⟨a, r, es, h'⟩ := zpop_iff h
  clear h
  have h := h'
  clear h'
  subst es
  obtain ⟨x, stB, rfl, ha, hS2⟩ := zSt_c hR.2.2.2.2.1
  rcases zif_iff h with ⟨h1, h⟩ | ⟨-, h⟩
  rotate_left
  · cases h
  obtain ⟨h1, h2⟩ := zand_iff h1
  obtain ⟨h2, h3⟩ := zand_iff h2
  have h2 := zbleT h2
  have h3 := zbleT h3
  have e1 := zv_3 ha (zbeqT h1)
  subst e1
  have hd1 : q.1 = d.1 := hR.2.2.2.2.2.1
  have hw := zSt_words hS2
  refine W.objInit hexec hb hown (zword (args := args) hK (zwd_mem hlk) rfl) (zword (args := args) hK zob1 rfl) (zword (args := args) hK zob2 rfl) rfl (by show lsA.size = _; rw [hml]; exact hR.2.2.2.1.2.1) rfl hdg (by omega) (by rw [hw]; show 2 * 0 + _ + 12 ≤ _; omega) (zgo hKS h hR rfl hR.1 hS2)
end ZN
/-! CALLS -/
theorem zargs_iff {k : List Nat → List Nat → Bool} : ∀ {n : Nat} {st acc : List Nat}, zargs n st acc k = true → ∃ as r, st = as ++ r ∧ as.length = n ∧ k (as.reverse ++ acc) r = true := by
  intro n
  induction n with
  | zero => intro st acc h; exact ⟨[], st, rfl, rfl, h⟩
  | succ n ih =>
    intro st acc h
    have h' : zpop false (fun v r => zargs n r (v :: acc) k) st = true := h
    obtain ⟨v, r, rfl, h2⟩ := zpop_iff h'
    obtain ⟨as, r2, rfl, h3, h4⟩ := ih h2
    refine ⟨v :: as, r2, rfl, by rw [List.length_cons, h3], ?_⟩
    rw [List.reverse_cons, List.append_assoc]
    exact h4
theorem zpad_iff : ∀ {n : Nat} {l : List Nat} {k : List Nat → Bool}, zpad n l k = true → ∃ l2 : List Nat, l2.length = n ∧ l.length ≤ n ∧ (∀ i c : Nat, l2[i]? = some c → l[i]? = some c ∨ c = 13) ∧ k l2 = true := by
  intro n
  induction n with
  | zero =>
    intro l k h
    cases l with
    | nil => exact ⟨[], rfl, Nat.le_refl _, fun i c hc => by simp at hc, h⟩
    | cons a t => cases h
  | succ n ih =>
    intro l k h
    cases l with
    | nil =>
      obtain ⟨l2, h1, h2, h3, h4⟩ := ih (l := []) (k := fun u => k (13 :: u)) h
      refine ⟨13 :: l2, by rw [List.length_cons, h1], Nat.zero_le _, fun i c hc => ?_, h4⟩
      cases i with
      | zero => rw [List.getElem?_cons_zero] at hc; cases hc; exact Or.inr rfl
      | succ i =>
        rw [List.getElem?_cons_succ] at hc
        rcases h3 i c hc with q | q
        · simp at q
        · exact Or.inr q
    | cons a t =>
      obtain ⟨l2, h1, h2, h3, h4⟩ := ih (l := t) (k := fun u => k (a :: u)) h
      refine ⟨a :: l2, by rw [List.length_cons, h1], by rw [List.length_cons]; omega, fun i c hc => ?_, h4⟩
      cases i with
      | zero => rw [List.getElem?_cons_zero] at hc; cases hc; exact Or.inl rfl
      | succ i =>
        rw [List.getElem?_cons_succ] at hc
        rcases h3 i c hc with q | q
        · exact Or.inl (by rw [List.getElem?_cons_succ]; exact q)
        · exact Or.inr q
theorem zexp_len {X : zCx} : ∀ {as : List Nat} {vs : List Value}, zSt X as vs → (lg_sl vs).length = (zexp as).length := by
  intro as
  induction as with
  | nil => intro vs h; rw [zSt_n h]; rfl
  | cons a t ih =>
    intro vs h
    obtain ⟨b, u, rfl, h1, h2⟩ := zSt_c h
    have e1 : zexp (a :: t) = zif (Nat.beq (Nat.mod a 8) 4) (a :: 13 :: zexp t) (a :: zexp t) := rfl
    have e2 : lg_sl (b :: u) = (if b.category = 2 then [.val b, .second] else [.val b]) ++ lg_sl u := rfl
    rw [e1, e2, zv_cat h1]
    cases hb : Nat.beq (Nat.mod a 8) 4 with
    | true =>
      have this : a % 8 = 4 := zbeqT hb
      rw [if_pos this, if_pos rfl]
      show ([Slot.val b, Slot.second] ++ lg_sl u).length = (a :: 13 :: zexp t).length
      simp [ih h2]
    | false =>
      have this : ¬ a % 8 = 4 := zbeqF hb
      rw [if_neg this, if_neg (by decide)]
      show ([Slot.val b] ++ lg_sl u).length = (a :: zexp t).length
      simp [ih h2]
theorem zexp_args {X : zCx} : ∀ {as : List Nat} {vs : List Value} {o : Nat}, zSt X as vs → ∀ i c, (zexp as)[i]? = some c → ¬ c = 13 → ∃ v, (o + i, v) ∈ lv_args o vs ∧ zV X c v := by
  intro as
  induction as with
  | nil => intro vs o h i c hc; simp [zexp] at hc
  | cons a t ih =>
    intro vs o h i c hc hn
    obtain ⟨b, u, rfl, h1, h2⟩ := zSt_c h
    have e1 : zexp (a :: t) = zif (Nat.beq (Nat.mod a 8) 4) (a :: 13 :: zexp t) (a :: zexp t) := rfl
    have e2 : lv_args o (b :: u) = (o, b) :: lv_args (if b.category = 2 then o + 2 else o + 1) u := rfl
    rw [e1] at hc
    rw [e2, zv_cat h1]
    cases hb : Nat.beq (Nat.mod a 8) 4 with
    | true =>
      have this : a % 8 = 4 := zbeqT hb
      rw [if_pos this, if_pos rfl]
      rw [hb] at hc
      have hc : (a :: 13 :: zexp t)[i]? = some c := hc
      match i, hc with
      | 0, hc => rw [List.getElem?_cons_zero] at hc; cases hc; exact ⟨b, List.mem_cons_self, h1⟩
      | 1, hc => rw [List.getElem?_cons_succ, List.getElem?_cons_zero] at hc; cases hc; exact absurd rfl hn
      | i + 2, hc =>
        rw [List.getElem?_cons_succ, List.getElem?_cons_succ] at hc
        obtain ⟨v, q1, q2⟩ := ih (o := o + 2) h2 i c hc hn
        exact ⟨v, List.mem_cons_of_mem _ (by rw [show o + (i + 2) = o + 2 + i by omega]; exact q1), q2⟩
    | false =>
      have this : ¬ a % 8 = 4 := zbeqF hb
      rw [if_neg this, if_neg (by decide)]
      rw [hb] at hc
      have hc : (a :: zexp t)[i]? = some c := hc
      match i, hc with
      | 0, hc => rw [List.getElem?_cons_zero] at hc; cases hc; exact ⟨b, List.mem_cons_self, h1⟩
      | i + 1, hc =>
        rw [List.getElem?_cons_succ] at hc
        obtain ⟨v, q1, q2⟩ := ih (o := o + 1) h2 i c hc hn
        exact ⟨v, List.mem_cons_of_mem _ (by rw [show o + (i + 1) = o + 1 + i by omega]; exact q1), q2⟩
theorem zSt_split {X : zCx} : ∀ {s1 s2 : List Nat} {q : List Value}, zSt X (s1 ++ s2) q → ∃ q1 q2, q = q1 ++ q2 ∧ zSt X s1 q1 ∧ zSt X s2 q2 := by
  intro s1
  induction s1 with
  | nil => intro s2 q h; exact ⟨[], q, rfl, trivial, h⟩
  | cons a t ih =>
    intro s2 q h
    obtain ⟨b, u, rfl, h1, h2⟩ := zSt_c h
    obtain ⟨q1, q2, rfl, h3, h4⟩ := ih h2
    exact ⟨b :: q1, q2, rfl, ⟨h1, h3⟩, h4⟩
theorem zSt_rev {X : zCx} : ∀ {s1 : List Nat} {q1 : List Value}, zSt X s1 q1 → zSt X s1.reverse q1.reverse := by
  intro s1
  induction s1 with
  | nil => intro q1 h; rw [zSt_n h]; exact trivial
  | cons a t ih =>
    intro q1 h
    obtain ⟨b, u, rfl, h1, h2⟩ := zSt_c h
    rw [List.reverse_cons, List.reverse_cons]
    exact zSt_app (ih h2) ⟨h1, trivial⟩
/-- an answer -/
def zvo (X : zCx) (v : List Nat) (o : Option Value) : Prop := match v, o with
  | [], none => True
  | [a], some x => zV X a x
  | _, _ => False
def zQc (X : zCx) (K : zW → List Nat → zM → Prop) : Array Value → State → Outcome → State → Prop := fun _ _ o t => ∃ (w : zW) (v : List Nat) (m : zM) (vo : Option Value), o = .returned vo ∧ zvo X v vo ∧ zKn X t ∧ zMem X t w.1 m t.heap ∧ zEnv (zρ X) w.2 ∧ K w v m
theorem zcont {p : Program} {l : Launch} {e : Env} {R : Room} {s : State} {mt : MethodId} {args a : Array Value} {below : List Frame} {meth : Method} {c : Code} {Q : State → Prop} {X : zCx} {H : Heap} {locs : List Loc} {cells slots mc ms pc : Nat} {lsA : Array Slot} {st0 rest : List Value} {K : zW → List Nat → zM → Prop}
    (hr : va_Run p l e R s mt args below meth c H locs cells slots mc ms (F0 mt pc lsA st0) rest (zQc X K a) (fun q => zbs X ≤ q)) (hl : ∀ x ∈ locs, zbs X ≤ x.base)
    (kk : ∀ (w : zW) (v : List Nat) (m : zM) (vo : Option Value) (H2 : Heap) (locs2 : List Loc), zvo X v vo → zMem X s w.1 m H2 → zEnv (zρ X) w.2 → K w v m → (∀ x ∈ locs2, zbs X ≤ x.base) → W p l e R s mt args below meth c H2 locs2 (cells + mc) (slots + ms) Q (F0 mt (pc + 3) lsA (vo.toList ++ rest))) :
    W p l e R s mt args below meth c H locs cells slots Q (F0 mt pc lsA st0) := by
  intro T hT X0
  obtain ⟨v, st₀, t, T', L, h0, X', hL, e1, e2, ⟨w, vv, m, vo, ho, hvo, hKn, hMem, hE, hK⟩, st⟩ := hr T hT X0
  cases ho
  have hal : t.vm.Alike s.vm := by
    have := X'.warmed.alike
    rw [e2] at this
    exact this.symm
  obtain ⟨t2, a1, b1⟩ := kk w vv m v T'.heap (locs ++ L) hvo (by rw [e1]; exact hMem.moved hal) hE hK (fun x hx => by
    rcases List.mem_append.mp hx with h | h
    · exact hl x h
    · exact hL x h) T' rfl X'
  exact ⟨t2, st t2 a1, b1⟩
theorem zMet_ofW {l : Launch} {y : MethodName} {rm : Room} {Pc : Array Value → State → Prop} {Qc : Array Value → State → Outcome → State → Prop} {mc ms : Nat} {free : Addr → Prop} {cc : ByteArray} {maxL : Nat} {ret : Option FieldType} (hy : plainFor y = true)
    (body : ∀ p e s m args below meth c s₁, BodyLoose p l y (headSpec [Cond.code y cc maxL ret] rm) cc maxL ret e s m args below meth c s₁ → c.maxLocals = maxL → Pc args s →
      W p l e (headSpec [Cond.code y cc maxL ret] rm).room s m args below meth c s.heap [] 0 0 (MQ below Qc args s mc ms free) (entryFrame m args maxL)) : Met l y [Cond.code y cc maxL ret] rm Pc Qc mc ms free := by
  refine MetFree.of_bodySF (code := cc) (maxLocals := maxL) (ret := ret) hy ?_ ?_
  · intro args s m h hn
    obtain ⟨meth, c, h1, h2, h3, h4, h5, h6, -, -⟩ := Cond.code_spec hn (atoms_spec (ws := [Cond.code y cc maxL ret]) h _ List.mem_cons_self)
    exact ⟨meth, c, h1, h2, h3, h4, h5, h6⟩
  · intro p e s m args below meth c s₁ B hml hP _
    have hh0 : s₁.heap = s.heap := by rw [B.state]; rfl
    obtain ⟨t, a1, o, b1, b2, b3⟩ := body p e s m args below meth c s₁ B hml hP s₁ hh0 (Stand.of_body B)
    exact ⟨t, o, a1, b1, b2, ⟨b3.1, b3.2⟩⟩
