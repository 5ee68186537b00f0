theorem zyinv_k {P : zyP} {nx ax kd : Nat} {k : zyK} {w : zW} {cf : Nat → zT} {y : zY} {pc : Nat} {ls st : List Nat} {q : zQ} {fs : List zFr} {m : zyM} (hx : ax % 16 < 15) (hk : ax % 16 / 2 = kd) (h : zyo_inv P nx ax k w cf y pc ls st q fs m = true) : zycall P (ax / 16) kd nx ax k w cf y pc ls st q fs m = true := by
  unfold zyo_inv at h
  simp only [zn_m, zn_d] at h
  have e1 : Nat.beq (ax % 16) 15 = false := by
    cases hq : Nat.beq (ax % 16) 15 with
    | false => rfl
    | true => exact absurd (zbeqT hq) (by omega)
  rw [e1, hk] at h
  exact h
/-- one instruction -/
theorem zystep {p : Program} {l : Launch} {e : Env} {R : Room} {s : State} {mt : MethodId} {args : Array Value} {below : List Frame} {meth : Method} {c : Code} {Q : State → Prop} {P : zyP} {X : zyX} {fs : List zFr} {w : zW} {pc nx ax d0 : Nat} {i : Instr} {ls st : List Nat} {q : zQ} {m : zyM} {H : Heap} {locs : List Loc} {lsA : Array Slot} {stA : List Value}
    {bt : zW → List Nat → zyM → Bool} {stop : zyK} {n y0 : Nat} {en : zEn} {me : zMe} (hIH : ∀ k, k < n + 1 → zyMain l bt P stop k) (hst : ∀ w cf y pc ls st q f fs m, stop w cf y pc ls st q (f :: fs) m = false) (hCon : zyCons l P (zyJ X)) (hOK : zOK y0 en me) (hC : zyCf P X en me d0 p R s mt c)
    (hKSa : ∀ k, k ≤ n → zyKS p l e R s mt args below meth c Q P X en.1 en.2.2.2.2 fs en.2.2.1 (d0, en.2.2.2.2.2.1, en.2.2.2.2.2.2.1) (zyok bt P stop k)) (hHr : zyHr bt P stop (n + 1) X en me fs p l e R s mt args below meth c Q) (hrow : i = .nop ∨ zrowP me pc (i, nx, ax))
    (h : zyop bt P i nx ax (zyok bt P stop n) w en.1 en.2.2.2.2 pc ls st q fs m = true) (hR : zyRl P X s en.2.2.1 (d0, en.2.2.2.2.2.1, en.2.2.2.2.2.2.1) w ls st q m H locs lsA stA) : W p l e R s mt args below meth c H locs q.2.1 q.2.2 Q (F0 mt pc lsA stA) := by
  rcases hrow with hn | ⟨hlen, hdec, pp, hlk⟩
  · subst hn
    exact absurd (show false = true from h) (by decide)
  have hKS := hKSa n (Nat.le_refl n)
  obtain ⟨hexec, hb, hml, hown, hK, hfr, hlo, hmc, hms⟩ := hC
  obtain ⟨-, -, hrk, hcn, -, -, -, g, hing, -, -⟩ := hOK
  dsimp only at hlen hdec hlk
  cases i with
  | aaload => exact absurd (show false = true from h) (by decide)
  | aastore => exact absurd (show false = true from h) (by decide)
  | aconst_null => exact absurd (show false = true from h) (by decide)
  | aload v =>
    obtain ⟨hnx, hd⟩ := zdec (k := 2) rfl (by decide) hlen hdec
    subst hnx
    exact zyw_load (ax := ax) hKS h hR (fun x hx k0 k1 k2 kk => by obtain ⟨z, rfl⟩ := k2 rfl; exact lv_aload hexec hb hd hx kk)
  | aload_n v =>
    obtain ⟨hnx, hd⟩ := zdec (k := 1) rfl (by decide) hlen hdec
    subst hnx
    exact zyw_load (ax := ax) hKS h hR (fun x hx k0 k1 k2 kk => by obtain ⟨z, rfl⟩ := k2 rfl; exact lv_aload_n hexec hb hd rfl hx kk)
  | anewarray _ => exact absurd (show false = true from h) (by decide)
  | areturn => exact absurd (show false = true from h) (by decide)
  | arraylength =>
    obtain ⟨hnx, hd⟩ := zdec (k := 1) rfl (by decide) hlen hdec
    subst hnx
    exact zyw_alen (ax := ax) hexec hb hK hd rfl hKS h hR
  | astore v =>
    obtain ⟨hnx, hd⟩ := zdec (k := 2) rfl (by decide) hlen hdec
    subst hnx
    exact zyw_store (ax := ax) (by decide) hKS h hR (fun x r hs hi k0 k2 kk => by obtain ⟨z, rfl⟩ := k2 rfl; subst hs; exact lv_astore hexec hb hd (zylv_has hR.2.2.2.1) hi rfl kk)
  | astore_n v =>
    obtain ⟨hnx, hd⟩ := zdec (k := 1) rfl (by decide) hlen hdec
    subst hnx
    exact zyw_store (ax := ax) (by decide) hKS h hR (fun x r hs hi k0 k2 kk => by obtain ⟨z, rfl⟩ := k2 rfl; subst hs; exact lv_astore_n hexec hb hd rfl (zylv_has hR.2.2.2.1) hi rfl kk)
  | athrow => exact absurd (show false = true from h) (by decide)
  | baload =>
    obtain ⟨hnx, hd⟩ := zdec (k := 1) rfl (by decide) hlen hdec
    subst hnx
    exact zyw_ald (ax := ax) (by decide) (by decide) hK hKS h hR (fun g ty a cell j v r hg hty hc ha hv hi hx kk => by
      rcases hg with rfl | rfl
      · cases hty; exact W.bald hexec hb hc ha hv hi hx rfl rfl hd kk
      · cases hty; exact W.zald hexec hb hc ha hv hi hx rfl rfl hd kk)
  | bastore =>
    obtain ⟨hnx, hd⟩ := zdec (k := 1) rfl (by decide) hlen hdec
    subst hnx
    exact zyw_ast (ax := ax) hK hKS h hR (fun g ty a cell j x x2 r hg hty hst2 hc ha hv hi kk => by
      rcases hg with rfl | rfl
      · cases hty
        rcases hst2 with ⟨z, hst2⟩ | ⟨z, hst2⟩ | ⟨z, hst2⟩ | ⟨z, hst2⟩ <;> first | (exfalso; omega) | (obtain ⟨u, rfl, rfl⟩ := hst2; exact W.bast hexec hb hc ha hv hi rfl rfl hd kk)
      · cases hty
        rcases hst2 with ⟨z, hst2⟩ | ⟨z, hst2⟩ | ⟨z, hst2⟩ | ⟨z, hst2⟩ <;> first | (exfalso; omega) | (obtain ⟨u, rfl, rfl⟩ := hst2; exact W.zast hexec hb hc ha hv hi rfl rfl hd kk))
  | bipush v =>
    obtain ⟨hnx, hd⟩ := zdec (k := 2) rfl (by decide) hlen hdec
    subst hnx
    exact zyw_push (ax := ax) hKS h hR (zyv_mkx (Int8.ofInt v).toInt32) (fun kk => lv_bipush hexec hb hd rfl kk)
  | caload => exact absurd (show false = true from h) (by decide)
  | castore => exact absurd (show false = true from h) (by decide)
  | checkcast _ => exact absurd (show false = true from h) (by decide)
  | d2f => exact absurd (show false = true from h) (by decide)
  | d2i => exact absurd (show false = true from h) (by decide)
  | d2l => exact absurd (show false = true from h) (by decide)
  | dadd => exact absurd (show false = true from h) (by decide)
  | daload => exact absurd (show false = true from h) (by decide)
  | dastore => exact absurd (show false = true from h) (by decide)
  | dcmp _ => exact absurd (show false = true from h) (by decide)
  | dconst _ => exact absurd (show false = true from h) (by decide)
  | ddiv => exact absurd (show false = true from h) (by decide)
  | dload _ => exact absurd (show false = true from h) (by decide)
  | dload_n _ => exact absurd (show false = true from h) (by decide)
  | dmul => exact absurd (show false = true from h) (by decide)
  | dneg => exact absurd (show false = true from h) (by decide)
  | drem => exact absurd (show false = true from h) (by decide)
  | dreturn => exact absurd (show false = true from h) (by decide)
  | dstore _ => exact absurd (show false = true from h) (by decide)
  | dstore_n _ => exact absurd (show false = true from h) (by decide)
  | dsub => exact absurd (show false = true from h) (by decide)
  | dup =>
    obtain ⟨hnx, hd⟩ := zdec (k := 1) rfl (by decide) hlen hdec
    subst hnx
    exact zyw_dup (ax := ax) hKS h hR (fun x r hs hc kk => by subst hs; exact lv_dup hexec hb hd hc kk)
  | dup_x1 => exact absurd (show false = true from h) (by decide)
  | dup_x2 => exact absurd (show false = true from h) (by decide)
  | dup2 =>
    obtain ⟨hnx, hd⟩ := zdec (k := 1) rfl (by decide) hlen hdec
    subst hnx
    exact zyw_dup2 (ax := ax) hKS h hR (fun x z r hs hc hc2 kk => by subst hs; exact lv_dup2_11 hexec hb hd hc hc2 kk)
  | dup2_x1 => exact absurd (show false = true from h) (by decide)
  | dup2_x2 => exact absurd (show false = true from h) (by decide)
  | f2d => exact absurd (show false = true from h) (by decide)
  | f2i => exact absurd (show false = true from h) (by decide)
  | f2l => exact absurd (show false = true from h) (by decide)
  | fadd => exact absurd (show false = true from h) (by decide)
  | faload => exact absurd (show false = true from h) (by decide)
  | fastore => exact absurd (show false = true from h) (by decide)
  | fcmp _ => exact absurd (show false = true from h) (by decide)
  | fconst _ => exact absurd (show false = true from h) (by decide)
  | fdiv => exact absurd (show false = true from h) (by decide)
  | fload _ => exact absurd (show false = true from h) (by decide)
  | fload_n _ => exact absurd (show false = true from h) (by decide)
  | fmul => exact absurd (show false = true from h) (by decide)
  | fneg => exact absurd (show false = true from h) (by decide)
  | frem => exact absurd (show false = true from h) (by decide)
  | freturn => exact absurd (show false = true from h) (by decide)
  | fstore _ => exact absurd (show false = true from h) (by decide)
  | fstore_n _ => exact absurd (show false = true from h) (by decide)
  | fsub => exact absurd (show false = true from h) (by decide)
  | getfield ix =>
    obtain ⟨hnx, hd⟩ := zdec (k := 3) rfl (by decide) hlen hdec
    subst hnx
    exact zyw_getf (ax := ax) hexec hb hown hK hlk hd rfl hKS h hR
  | getstatic ix =>
    obtain ⟨hnx, hd⟩ := zdec (k := 3) rfl (by decide) hlen hdec
    subst hnx
    exact zyw_gets (ax := ax) hexec hb hown hK hlk hd rfl hKS h hR
  | goto o =>
    obtain ⟨hnx, hd⟩ := zdec (k := 3) rfl (by decide) hlen hdec
    subst hnx
    exact zyw_goto (ax := ax) (nx := pc + 3) hKS h hR (fun kk => lv_goto hexec hb hd (of_decide_eq_true hlk) kk)
  | goto_w _ => exact absurd (show false = true from h) (by decide)
  | i2b =>
    obtain ⟨hnx, hd⟩ := zdec (k := 1) rfl (by decide) hlen hdec
    subst hnx
    exact zyw_un (ax := ax) (g := 2) (F := fun x => x.toInt8.toInt32) (fun u => ⟨by show Int32.ofNat (8 * _ / 8) = _; rw [Nat.mul_div_cancel_left _ (by decide)]; exact zN_self _, Nat.mul_mod_right 8 _⟩) (Or.inr (Or.inl ⟨rfl, rfl⟩)) hKS h hR (fun x r hs kk => by subst hs; exact lv_i2b hexec hb hd rfl kk)
  | i2c =>
    obtain ⟨hnx, hd⟩ := zdec (k := 1) rfl (by decide) hlen hdec
    subst hnx
    exact zyw_un (ax := ax) (g := 3) (F := fun x => (x.toUInt32 % 65536).toInt32) (fun u => ⟨by show Int32.ofNat (8 * _ / 8) = _; rw [Nat.mul_div_cancel_left _ (by decide)]; exact zN_self _, Nat.mul_mod_right 8 _⟩) (Or.inr (Or.inr ⟨rfl, rfl⟩)) hKS h hR (fun x r hs kk => by subst hs; exact lv_i2c hexec hb hd rfl kk)
  | i2d => exact absurd (show false = true from h) (by decide)
  | i2f => exact absurd (show false = true from h) (by decide)
  | i2l =>
    obtain ⟨hnx, hd⟩ := zdec (k := 1) rfl (by decide) hlen hdec
    subst hnx
    exact zyw_i2l (ax := ax) (fun u => rfl) hKS h hR (fun x r hs kk => by subst hs; exact lv_i2l hexec hb hd rfl kk)
  | i2s => exact absurd (show false = true from h) (by decide)
  | iadd =>
    obtain ⟨hnx, hd⟩ := zdec (k := 1) rfl (by decide) hlen hdec
    subst hnx
    exact zyw_bin (ax := ax) (dv := false) (g := 1) (by decide) (fun u v => zf_add_ok u v) zyItv_1 (fun q => by cases q) hKS h hR (fun x z r hs _ kk => by subst hs; exact lv_iadd hexec hb hd kk)
  | iaload =>
    obtain ⟨hnx, hd⟩ := zdec (k := 1) rfl (by decide) hlen hdec
    subst hnx
    exact zyw_ald (ax := ax) (by decide) (by decide) hK hKS h hR (fun g ty a cell j v r hg hty hc ha hv hi hx kk => by
      rcases hg with rfl | rfl
      · cases hty; exact W.iald hexec hb hc ha hv hi hx rfl rfl hd kk
      · cases hty; exact W.iald hexec hb hc ha hv hi hx rfl rfl hd kk)
  | iand =>
    obtain ⟨hnx, hd⟩ := zdec (k := 1) rfl (by decide) hlen hdec
    subst hnx
    exact zyw_bin (ax := ax) (dv := false) (g := 4) (by decide) (fun u v => zf_and_ok u v) zyItv_4 (fun q => by cases q) hKS h hR (fun x z r hs _ kk => by subst hs; exact lv_iand hexec hb hd kk)
  | iastore =>
    obtain ⟨hnx, hd⟩ := zdec (k := 1) rfl (by decide) hlen hdec
    subst hnx
    exact zyw_ast (ax := ax) hK hKS h hR (fun g ty a cell j x x2 r hg hty hst2 hc ha hv hi kk => by
      rcases hg with rfl | rfl
      · cases hty
        rcases hst2 with ⟨z, hst2⟩ | ⟨z, hst2⟩ | ⟨z, hst2⟩ | ⟨z, hst2⟩ <;> first | (exfalso; omega) | (obtain ⟨u, rfl, rfl⟩ := hst2; exact W.iast hexec hb hc ha hv hi rfl rfl hd kk)
      · cases hty
        rcases hst2 with ⟨z, hst2⟩ | ⟨z, hst2⟩ | ⟨z, hst2⟩ | ⟨z, hst2⟩ <;> first | (exfalso; omega) | (obtain ⟨u, rfl, rfl⟩ := hst2; exact W.iast hexec hb hc ha hv hi rfl rfl hd kk))
  | iconst v =>
    obtain ⟨hnx, hd⟩ := zdec (k := 1) rfl (by decide) hlen hdec
    subst hnx
    exact zyw_push (ax := ax) hKS h hR (zyv_mkx (Int32.ofInt v)) (fun kk => lv_iconst hexec hb hd rfl kk)
  | idiv =>
    obtain ⟨hnx, hd⟩ := zdec (k := 1) rfl (by decide) hlen hdec
    subst hnx
    exact zyw_bin (ax := ax) (dv := true) (g := 10) (by decide) (fun u v => zf_32_ok _ u v) zyItv_10 (fun _ => Or.inr rfl) hKS h hR (fun x z r hs hz kk => by subst hs; exact lv_idiv hexec hb hd (hz rfl) kk)
  | if_acmp _ _ => exact absurd (show false = true from h) (by decide)
  | if_icmp cnd o =>
    obtain ⟨hnx, hd⟩ := zdec (k := 3) rfl (by decide) hlen hdec
    subst hnx
    cases cnd with
    | eq => exact zyw_cmp (ax := ax) hKS h hR (fun x z0 r hs kt kf => by subst hs; simp only [reduceIte, Bool.false_eq_true] at kt kf; exact lv_icmp_eq hexec hb hd (of_decide_eq_true hlk) (fun z => kt z) (fun z => kf z))
    | ne => exact zyw_cmp (ax := ax) hKS h hR (fun x z0 r hs kt kf => by subst hs; simp only [reduceIte, Bool.false_eq_true] at kt kf; exact lv_icmp_ne hexec hb hd (of_decide_eq_true hlk) (fun z => kf z) (fun z => kt z))
    | lt => exact zyw_cmp (ax := ax) hKS h hR (fun x z0 r hs kt kf => by subst hs; simp only [reduceIte, Bool.false_eq_true] at kt kf; exact lv_icmp_lt hexec hb hd (of_decide_eq_true hlk) (fun z => kt z) (fun z => kf z))
    | ge => exact zyw_cmp (ax := ax) hKS h hR (fun x z0 r hs kt kf => by subst hs; simp only [reduceIte, Bool.false_eq_true] at kt kf; exact lv_icmp_ge hexec hb hd (of_decide_eq_true hlk) (fun z => kf (Int32.not_lt.mpr z)) (fun z => kt (Int32.not_le.mp z)))
    | gt => exact zyw_cmp (ax := ax) hKS h hR (fun x z0 r hs kt kf => by subst hs; simp only [reduceIte, Bool.false_eq_true] at kt kf; exact lv_icmp_gt hexec hb hd (of_decide_eq_true hlk) (fun z => kt z) (fun z => kf z))
    | le => exact zyw_cmp (ax := ax) hKS h hR (fun x z0 r hs kt kf => by subst hs; simp only [reduceIte, Bool.false_eq_true] at kt kf; exact lv_icmp_le hexec hb hd (of_decide_eq_true hlk) (fun z => kf (Int32.not_lt.mpr z)) (fun z => kt (Int32.not_le.mp z)))
  | ifCond cnd o =>
    obtain ⟨hnx, hd⟩ := zdec (k := 3) rfl (by decide) hlen hdec
    subst hnx
    cases cnd with
    | eq => exact zyw_cmp0 (ax := ax) hKS h hR (fun x r hs kt kf => by subst hs; simp only [reduceIte, Bool.false_eq_true] at kt kf; exact lv_if_eq hexec hb hd (of_decide_eq_true hlk) (fun z => kt z) (fun z => kf z))
    | ne => exact zyw_cmp0 (ax := ax) hKS h hR (fun x r hs kt kf => by subst hs; simp only [reduceIte, Bool.false_eq_true] at kt kf; exact lv_if_ne hexec hb hd (of_decide_eq_true hlk) (fun z => kf z) (fun z => kt z))
    | lt => exact zyw_cmp0 (ax := ax) hKS h hR (fun x r hs kt kf => by subst hs; simp only [reduceIte, Bool.false_eq_true] at kt kf; exact lv_if_lt hexec hb hd (of_decide_eq_true hlk) (fun z => kt z) (fun z => kf z))
    | ge => exact zyw_cmp0 (ax := ax) hKS h hR (fun x r hs kt kf => by subst hs; simp only [reduceIte, Bool.false_eq_true] at kt kf; exact lv_if_ge hexec hb hd (of_decide_eq_true hlk) (fun z => kf (Int32.not_lt.mpr z)) (fun z => kt (Int32.not_le.mp z)))
    | gt => exact zyw_cmp0 (ax := ax) hKS h hR (fun x r hs kt kf => by subst hs; simp only [reduceIte, Bool.false_eq_true] at kt kf; exact lv_if_gt hexec hb hd (of_decide_eq_true hlk) (fun z => kt z) (fun z => kf z))
    | le => exact zyw_cmp0 (ax := ax) hKS h hR (fun x r hs kt kf => by subst hs; simp only [reduceIte, Bool.false_eq_true] at kt kf; exact lv_if_le hexec hb hd (of_decide_eq_true hlk) (fun z => kf (Int32.not_lt.mpr z)) (fun z => kt (Int32.not_le.mp z)))
  | ifnonnull _ => exact absurd (show false = true from h) (by decide)
  | ifnull _ => exact absurd (show false = true from h) (by decide)
  | iinc v z =>
    obtain ⟨hnx, hd⟩ := zdec (k := 3) rfl (by decide) hlen hdec
    subst hnx
    exact zyw_iinc (ax := ax) hKS h hR (fun x hx hi kk => by
      obtain ⟨j, hj⟩ := List.getElem?_of_mem (zlv_mem.mpr hx)
      exact lv_iinc hexec hb hd (zylv_has hR.2.2.2.1) hj (by rw [zN_self]) hi rfl kk)
  | iload v =>
    obtain ⟨hnx, hd⟩ := zdec (k := 2) rfl (by decide) hlen hdec
    subst hnx
    exact zyw_load (ax := ax) hKS h hR (fun x hx k0 k1 k2 kk => by obtain ⟨z, rfl⟩ := k0 rfl; exact lv_iload hexec hb hd hx kk)
  | iload_n v =>
    obtain ⟨hnx, hd⟩ := zdec (k := 1) rfl (by decide) hlen hdec
    subst hnx
    exact zyw_load (ax := ax) hKS h hR (fun x hx k0 k1 k2 kk => by obtain ⟨z, rfl⟩ := k0 rfl; exact lv_iload_n hexec hb hd rfl hx kk)
  | imul =>
    obtain ⟨hnx, hd⟩ := zdec (k := 1) rfl (by decide) hlen hdec
    subst hnx
    exact zyw_bin (ax := ax) (dv := false) (g := 3) (by decide) (fun u v => zf_mul_ok u v) zyItv_3 (fun q => by cases q) hKS h hR (fun x z r hs _ kk => by subst hs; exact lv_imul hexec hb hd kk)
  | ineg =>
    obtain ⟨hnx, hd⟩ := zdec (k := 1) rfl (by decide) hlen hdec
    subst hnx
    exact zyw_un (ax := ax) (g := 1) (F := fun x => -x) (fun u => ⟨by show Int32.ofNat (8 * _ / 8) = _; rw [Nat.mul_div_cancel_left _ (by decide)]; exact zN_self _, Nat.mul_mod_right 8 _⟩) (Or.inl ⟨rfl, rfl⟩) hKS h hR (fun x r hs kk => by subst hs; exact lv_ineg hexec hb hd kk)
  | instanceof _ => exact absurd (show false = true from h) (by decide)
  | invokedynamic _ => exact absurd (show false = true from h) (by decide)
  | invokeinterface _ _ => exact absurd (show false = true from h) (by decide)
  | invokespecial _ => exact absurd (show false = true from h) (by decide)
  | invokestatic ix =>
    obtain ⟨hnx, hd⟩ := zdec (k := 3) rfl (by decide) hlen hdec
    subst hnx
    have hlk2 : zlc me.2.2.2 ix ax pp 4 = true := hlk
    unfold zlc at hlk2
    cases hme2 : zG zMeth (ax / 16) with
    | none => rw [hme2] at hlk2; cases hlk2
    | some me2 =>
      rw [hme2] at hlk2
      simp only [Bool.or_eq_true, Bool.and_eq_true, decide_eq_true_eq] at hlk2
      rcases hlk2 with ⟨hkd, hw⟩ | ⟨hkd, hw⟩
      · have h2 : zycall P (ax / 16) 2 (pc + 3) ax (zyok bt P stop n) w en.1 en.2.2.2.2 pc ls st q fs m = true := zyinv_k (kd := 2) (by omega) (by omega) h
        refine zyw_call hIH hst hCon hK hfr hlo hmc hms rfl rfl rfl hKSa h2 hR (fun en2 me3 AsV rest rm Pc Qc hm3 hO2 hKi hsA hAl hrw hMet hr1 hr2 hr3 hr4 hbl hpre hrc hcs => ?_)
        rw [hme2] at hm3
        cases hm3
        have hcls2 := hO2.2.2.2.2.1
        exact zyrow_s hexec hb hml hown hK.1 (zwd_mem hw) hcls2 hKi hsA hAl hrw hMet hr1 hr2 hr3 hr4 hbl hpre hcs hR.2.2.2.1.2.1 hd
      · have h2 : zycall P (ax / 16) 2 (pc + 3) ax (zyok bt P stop n) w en.1 en.2.2.2.2 pc ls st q fs m = true := zyinv_k (kd := 2) (by omega) (by omega) h
        refine zyw_call hIH hst hCon hK hfr hlo hmc hms rfl rfl rfl hKSa h2 hR (fun en2 me3 AsV rest rm Pc Qc hm3 hO2 hKi hsA hAl hrw hMet hr1 hr2 hr3 hr4 hbl hpre hrc hcs => ?_)
        rw [hme2] at hm3
        cases hm3
        have hcls2 := hO2.2.2.2.2.1
        exact zyrow_sN hexec hb hml hown hK.1 (zwd_mem hw) hcls2 hKi hsA hAl hrw hMet hr1 hr2 hr3 hr4 hbl hpre hcs hR.2.2.2.1.2.1 hd
  | invokevirtual ix =>
    obtain ⟨hnx, hd⟩ := zdec (k := 3) rfl (by decide) hlen hdec
    subst hnx
    have hlk2 : zlc me.2.2.2 ix ax pp 0 = true := hlk
    unfold zlc at hlk2
    cases hme2 : zG zMeth (ax / 16) with
    | none => rw [hme2] at hlk2; cases hlk2
    | some me2 =>
      rw [hme2] at hlk2
      simp only [Bool.or_eq_true, Bool.and_eq_true, decide_eq_true_eq] at hlk2
      rcases hlk2 with ⟨hkd, hw⟩ | ⟨hkd, hw⟩
      · have h2 : zycall P (ax / 16) 0 (pc + 3) ax (zyok bt P stop n) w en.1 en.2.2.2.2 pc ls st q fs m = true := zyinv_k (kd := 0) (by omega) (by omega) h
        refine zyw_call hIH hst hCon hK hfr hlo hmc hms rfl rfl rfl hKSa h2 hR (fun en2 me3 AsV rest rm Pc Qc hm3 hO2 hKi hsA hAl hrw hMet hr1 hr2 hr3 hr4 hbl hpre hrc hcs => ?_)
        rw [hme2] at hm3
        cases hm3
        have hcls2 := hO2.2.2.2.2.1
        exact zyrow_v hexec hb hml hown hK.1 (zwd_mem hw) hcls2 hKi hsA hAl hrw hMet hr1 hr2 hr3 hr4 hbl hpre (hrc (by decide)) hcs hR.2.2.2.1.2.1 hd
      · have h2 : zycall P (ax / 16) 0 (pc + 3) ax (zyok bt P stop n) w en.1 en.2.2.2.2 pc ls st q fs m = true := zyinv_k (kd := 0) (by omega) (by omega) h
        refine zyw_call hIH hst hCon hK hfr hlo hmc hms rfl rfl rfl hKSa h2 hR (fun en2 me3 AsV rest rm Pc Qc hm3 hO2 hKi hsA hAl hrw hMet hr1 hr2 hr3 hr4 hbl hpre hrc hcs => ?_)
        rw [hme2] at hm3
        cases hm3
        have hcls2 := hO2.2.2.2.2.1
        exact zyrow_vN hexec hb hml hown hK.1 (zwd_mem hw) hcls2 hKi hsA hAl hrw hMet hr1 hr2 hr3 hr4 hbl hpre (hrc (by decide)) hcs hR.2.2.2.1.2.1 hd
  | ior =>
    obtain ⟨hnx, hd⟩ := zdec (k := 1) rfl (by decide) hlen hdec
    subst hnx
    exact zyw_bin (ax := ax) (dv := false) (g := 7) (by decide) (fun u v => zf_or_ok u v) zyItv_7 (fun q => by cases q) hKS h hR (fun x z r hs _ kk => by subst hs; exact lv_ior hexec hb hd kk)
  | irem =>
    obtain ⟨hnx, hd⟩ := zdec (k := 1) rfl (by decide) hlen hdec
    subst hnx
    exact zyw_bin (ax := ax) (dv := true) (g := 5) (by decide) (fun u v => zf_32_ok _ u v) zyItv_5 (fun _ => Or.inl rfl) hKS h hR (fun x z r hs hz kk => by subst hs; exact lv_irem hexec hb hd (hz rfl) kk)
  | ireturn =>
    obtain ⟨hnx, hd⟩ := zdec (k := 1) rfl (by decide) hlen hdec
    subst hnx
    exact zyw_ret (ax := ax) (cf := en.1) (nx := pc + 1) (lg := false) hrk hd hHr rfl rfl h hR
  | ishl =>
    obtain ⟨hnx, hd⟩ := zdec (k := 1) rfl (by decide) hlen hdec
    subst hnx
    exact zyw_bin (ax := ax) (dv := false) (g := 8) (by decide) (fun u v => zf_32_ok _ u v) zyItv_8 (fun q => by cases q) hKS h hR (fun x z r hs _ kk => by subst hs; exact lv_ishl hexec hb hd kk)
  | ishr =>
    obtain ⟨hnx, hd⟩ := zdec (k := 1) rfl (by decide) hlen hdec
    subst hnx
    exact zyw_bin (ax := ax) (dv := false) (g := 9) (by decide) (fun u v => zf_32_ok _ u v) zyItv_9 (fun q => by cases q) hKS h hR (fun x z r hs _ kk => by subst hs; exact lv_ishr hexec hb hd kk)
  | istore v =>
    obtain ⟨hnx, hd⟩ := zdec (k := 2) rfl (by decide) hlen hdec
    subst hnx
    exact zyw_store (ax := ax) (by decide) hKS h hR (fun x r hs hi k0 k2 kk => by obtain ⟨z, rfl⟩ := k0 rfl; subst hs; exact lv_istore hexec hb hd (zylv_has hR.2.2.2.1) hi rfl kk)
  | istore_n v =>
    obtain ⟨hnx, hd⟩ := zdec (k := 1) rfl (by decide) hlen hdec
    subst hnx
    exact zyw_store (ax := ax) (by decide) hKS h hR (fun x r hs hi k0 k2 kk => by obtain ⟨z, rfl⟩ := k0 rfl; subst hs; exact lv_istore_n hexec hb hd rfl (zylv_has hR.2.2.2.1) hi rfl kk)
  | isub =>
    obtain ⟨hnx, hd⟩ := zdec (k := 1) rfl (by decide) hlen hdec
    subst hnx
    exact zyw_bin (ax := ax) (dv := false) (g := 2) (by decide) (fun u v => zf_sub_ok u v) zyItv_2 (fun q => by cases q) hKS h hR (fun x z r hs _ kk => by subst hs; exact lv_isub hexec hb hd kk)
  | iushr => exact absurd (show false = true from h) (by decide)
  | ixor =>
    obtain ⟨hnx, hd⟩ := zdec (k := 1) rfl (by decide) hlen hdec
    subst hnx
    exact zyw_bin (ax := ax) (dv := false) (g := 6) (by decide) (fun u v => zf_xor_ok u v) zyItv_6 (fun q => by cases q) hKS h hR (fun x z r hs _ kk => by subst hs; exact lv_ixor hexec hb hd kk)
  | jsr _ => exact absurd (show false = true from h) (by decide)
  | jsr_w _ => exact absurd (show false = true from h) (by decide)
  | l2d => exact absurd (show false = true from h) (by decide)
  | l2f => exact absurd (show false = true from h) (by decide)
  | l2i =>
    obtain ⟨hnx, hd⟩ := zdec (k := 1) rfl (by decide) hlen hdec
    subst hnx
    exact zyw_l2i (ax := ax) (fun u => rfl) hKS h hR (fun x r hs kk => by subst hs; exact lv_l2i hexec hb hd rfl kk)
  | ladd =>
    obtain ⟨hnx, hd⟩ := zdec (k := 1) rfl (by decide) hlen hdec
    subst hnx
    exact zyw_lbin (ax := ax) (F := fun x z => x + z) (fun u v => rfl) hKS h hR (fun x z r hs _ kk => by subst hs; exact lv_ladd hexec hb hd kk)
  | laload =>
    obtain ⟨hnx, hd⟩ := zdec (k := 1) rfl (by decide) hlen hdec
    subst hnx
    exact zyw_ald (ax := ax) (by decide) (by decide) hK hKS h hR (fun g ty a cell j v r hg hty hc ha hv hi hx kk => by
      rcases hg with rfl | rfl
      · cases hty; exact W.lald hexec hb hc ha hv hi hx rfl rfl hd kk
      · cases hty; exact W.lald hexec hb hc ha hv hi hx rfl rfl hd kk)
  | land =>
    obtain ⟨hnx, hd⟩ := zdec (k := 1) rfl (by decide) hlen hdec
    subst hnx
    exact zyw_lbin (ax := ax) (F := fun x z => x &&& z) (fun u v => rfl) hKS h hR (fun x z r hs _ kk => by subst hs; exact lv_land hexec hb hd kk)
  | lastore =>
    obtain ⟨hnx, hd⟩ := zdec (k := 1) rfl (by decide) hlen hdec
    subst hnx
    exact zyw_ast (ax := ax) hK hKS h hR (fun g ty a cell j x x2 r hg hty hst2 hc ha hv hi kk => by
      rcases hg with rfl | rfl
      · cases hty
        rcases hst2 with ⟨z, hst2⟩ | ⟨z, hst2⟩ | ⟨z, hst2⟩ | ⟨z, hst2⟩ <;> first | (exfalso; omega) | (obtain ⟨u, rfl, rfl⟩ := hst2; exact W.last hexec hb hc ha hv hi rfl rfl hd kk)
      · cases hty
        rcases hst2 with ⟨z, hst2⟩ | ⟨z, hst2⟩ | ⟨z, hst2⟩ | ⟨z, hst2⟩ <;> first | (exfalso; omega) | (obtain ⟨u, rfl, rfl⟩ := hst2; exact W.last hexec hb hc ha hv hi rfl rfl hd kk))
  | lcmp =>
    obtain ⟨hnx, hd⟩ := zdec (k := 1) rfl (by decide) hlen hdec
    subst hnx
    exact zyw_lcmp (ax := ax) hKS h hR (fun x z r hs kk => by subst hs; exact W.lcmp hexec hb hd kk)
  | lconst v =>
    obtain ⟨hnx, hd⟩ := zdec (k := 1) rfl (by decide) hlen hdec
    subst hnx
    exact zyw_push (ax := ax) hKS h hR (zyv_mkl (u := v.val) rfl (by have := v.isLt; omega)) (fun kk => lv_lconst hexec hb hd rfl kk)
  | ldc ix =>
    obtain ⟨hnx, hd⟩ := zdec (k := 2) rfl (by decide) hlen hdec
    subst hnx
    exact zyw_ldc (ax := ax) (lw := false) hexec hb hown hK hlk hd rfl hKS h hR
  | ldc_w ix =>
    obtain ⟨hnx, hd⟩ := zdec (k := 3) rfl (by decide) hlen hdec
    subst hnx
    exact zyw_ldc (ax := ax) (lw := true) hexec hb hown hK hlk hd rfl hKS h hR
  | ldc2_w ix =>
    obtain ⟨hnx, hd⟩ := zdec (k := 3) rfl (by decide) hlen hdec
    subst hnx
    exact zyw_ldc2 (ax := ax) hexec hb hown hK (of_decide_eq_true hlk) hd rfl hKS h hR
  | ldiv =>
    obtain ⟨hnx, hd⟩ := zdec (k := 1) rfl (by decide) hlen hdec
    subst hnx
    exact zyw_lbin (ax := ax) (F := fun x z => x / z) (fun u v => rfl) hKS h hR (fun x z r hs hz kk => by subst hs; exact lv_ldiv hexec hb hd (hz rfl) kk)
  | lload v =>
    obtain ⟨hnx, hd⟩ := zdec (k := 2) rfl (by decide) hlen hdec
    subst hnx
    exact zyw_load (ax := ax) hKS h hR (fun x hx k0 k1 k2 kk => by obtain ⟨z, rfl⟩ := k1 rfl; exact lv_lload hexec hb hd hx kk)
  | lload_n v =>
    obtain ⟨hnx, hd⟩ := zdec (k := 1) rfl (by decide) hlen hdec
    subst hnx
    exact zyw_load (ax := ax) hKS h hR (fun x hx k0 k1 k2 kk => by obtain ⟨z, rfl⟩ := k1 rfl; exact lv_lload_n hexec hb hd rfl hx kk)
  | lmul =>
    obtain ⟨hnx, hd⟩ := zdec (k := 1) rfl (by decide) hlen hdec
    subst hnx
    exact zyw_lbin (ax := ax) (F := fun x z => x * z) (fun u v => rfl) hKS h hR (fun x z r hs _ kk => by subst hs; exact lv_lmul hexec hb hd kk)
  | lneg =>
    obtain ⟨hnx, hd⟩ := zdec (k := 1) rfl (by decide) hlen hdec
    subst hnx
    exact zyw_lneg (ax := ax) (fun u => rfl) hKS h hR (fun x r hs kk => by subst hs; exact lv_lneg hexec hb hd kk)
  | lookupswitch df prs =>
    exact zyw_look (ax := ax) (nx := nx) hexec hb hdec hKS h hR
  | lor =>
    obtain ⟨hnx, hd⟩ := zdec (k := 1) rfl (by decide) hlen hdec
    subst hnx
    exact zyw_lbin (ax := ax) (F := fun x z => x ||| z) (fun u v => rfl) hKS h hR (fun x z r hs _ kk => by subst hs; exact lv_lor hexec hb hd kk)
  | lrem =>
    obtain ⟨hnx, hd⟩ := zdec (k := 1) rfl (by decide) hlen hdec
    subst hnx
    exact zyw_lbin (ax := ax) (F := fun x z => x - x / z * z) (fun u v => rfl) hKS h hR (fun x z r hs hz kk => by subst hs; exact lv_lrem hexec hb hd (hz rfl) kk)
  | lreturn =>
    obtain ⟨hnx, hd⟩ := zdec (k := 1) rfl (by decide) hlen hdec
    subst hnx
    exact zyw_ret (ax := ax) (cf := en.1) (nx := pc + 1) (lg := true) hrk hd hHr rfl rfl h hR
  | lshl =>
    obtain ⟨hnx, hd⟩ := zdec (k := 1) rfl (by decide) hlen hdec
    subst hnx
    exact zyw_lsh (ax := ax) (F := fun x z => x <<< (z.toInt64 &&& 63)) (fun u v => rfl) hKS h hR (fun x z r hs kk => by subst hs; exact lv_lshl hexec hb hd rfl kk)
  | lshr =>
    obtain ⟨hnx, hd⟩ := zdec (k := 1) rfl (by decide) hlen hdec
    subst hnx
    exact zyw_lsh (ax := ax) (F := fun x z => x >>> (z.toInt64 &&& 63)) (fun u v => rfl) hKS h hR (fun x z r hs kk => by subst hs; exact lv_lshr hexec hb hd rfl kk)
  | lstore v =>
    obtain ⟨hnx, hd⟩ := zdec (k := 2) rfl (by decide) hlen hdec
    subst hnx
    exact zyw_storeL (ax := ax) hKS h hR (fun x r hs hi kk => by subst hs; exact lv_lstore hexec hb hd (zylv_has hR.2.2.2.1) hi rfl kk)
  | lstore_n v =>
    obtain ⟨hnx, hd⟩ := zdec (k := 1) rfl (by decide) hlen hdec
    subst hnx
    exact zyw_storeL (ax := ax) hKS h hR (fun x r hs hi kk => by subst hs; exact lv_lstore_n hexec hb hd rfl (zylv_has hR.2.2.2.1) hi rfl kk)
  | lsub =>
    obtain ⟨hnx, hd⟩ := zdec (k := 1) rfl (by decide) hlen hdec
    subst hnx
    exact zyw_lbin (ax := ax) (F := fun x z => x - z) (fun u v => rfl) hKS h hR (fun x z r hs _ kk => by subst hs; exact lv_lsub hexec hb hd kk)
  | lushr => exact absurd (show false = true from h) (by decide)
  | lxor => exact absurd (show false = true from h) (by decide)
  | monitorenter => exact absurd (show false = true from h) (by decide)
  | monitorexit => exact absurd (show false = true from h) (by decide)
  | multianewarray _ _ => exact absurd (show false = true from h) (by decide)
  | new _ => exact absurd (show false = true from h) (by decide)
  | newarray _ => exact absurd (show false = true from h) (by decide)
  | nop => exact absurd (show false = true from h) (by decide)
  | pop =>
    obtain ⟨hnx, hd⟩ := zdec (k := 1) rfl (by decide) hlen hdec
    subst hnx
    exact zyw_pop (ax := ax) hKS h hR (fun x r hs hc kk => by subst hs; exact lv_pop hexec hb hd hc kk)
  | pop2 => exact absurd (show false = true from h) (by decide)
  | putfield ix =>
    obtain ⟨hnx, hd⟩ := zdec (k := 3) rfl (by decide) hlen hdec
    subst hnx
    have hlk2 := hlk
    unfold zlk at hlk2
    rw [Bool.and_eq_true, decide_eq_true_eq] at hlk2
    exact zyw_putf (ax := ax) hexec hb hown hK hlk2.1 hlk2.2 hd rfl hKS h hR
  | putstatic _ => exact absurd (show false = true from h) (by decide)
  | ret _ => exact absurd (show false = true from h) (by decide)
  | return_ =>
    obtain ⟨hnx, hd⟩ := zdec (k := 1) rfl (by decide) hlen hdec
    subst hnx
    exact zyw_retv (ax := ax) (cf := en.1) (nx := pc + 1) hrk hd hHr rfl rfl h hR
  | saload => exact absurd (show false = true from h) (by decide)
  | sastore => exact absurd (show false = true from h) (by decide)
  | sipush v =>
    obtain ⟨hnx, hd⟩ := zdec (k := 3) rfl (by decide) hlen hdec
    subst hnx
    exact zyw_push (ax := ax) hKS h hR (zyv_mkx (Int16.ofInt v).toInt32) (fun kk => lv_sipush hexec hb hd rfl kk)
  | swap => exact absurd (show false = true from h) (by decide)
  | tableswitch df lo hi offs =>
    exact zyw_tab (ax := ax) (nx := nx) hexec hb hdec hKS h hR
theorem zymain {l : Launch} {bt : zW → List Nat → zyM → Bool} {P : zyP} {stop : zyK} (hst : ∀ w cf y pc ls st q f fs m, stop w cf y pc ls st q (f :: fs) m = false) : ∀ n, zyMain l bt P stop n := by
  intro n
  induction n using Nat.strongRecOn with
  | ind n IH =>
    intro X y0 en me hCon hOK w pc ls st q fs m h p e R s mt args below meth c Q H locs lsA stA hC hR hHr hHs
    cases n with
    | zero => exact hHs (zyρ X) (zyN X) w pc ls st q m H locs lsA stA h hR
    | succ n =>
      have h' : zif (stop w en.1 en.2.2.2.2 pc ls st q fs m) true (Prod.rec (motive := fun _ => Bool) (fun i r => Prod.rec (motive := fun _ => Bool) (fun nx ax => zyop bt P i nx ax (zyok bt P stop n) w en.1 en.2.2.2.2 pc ls st q fs m) r) (en.1 pc)) = true := h
      rcases zif_iff h' with ⟨h1, -⟩ | ⟨-, h2⟩
      · exact hHs (zyρ X) (zyN X) w pc ls st q m H locs lsA stA h1 hR
      · have hrow := hOK.1 pc
        generalize en.1 pc = t at h2 hrow
        obtain ⟨i, nx, ax⟩ := t
        refine zystep (d0 := q.1) (y0 := y0) IH hst hCon hOK hC (fun k hk ρ2 N2 w2 pc2 ls2 st2 q2 m2 H2 locs2 lsA2 stA2 hz hR2 => ?_) hHr hrow h2 hR
        have e1 : q2.1 = q.1 := hR2.2.2.2.2.2.1
        refine IH k (by omega) (zyre X ρ2 N2) y0 en me hCon hOK w2 pc2 ls2 st2 q2 fs m2 hz p e R s mt args below meth c Q H2 locs2 lsA2 stA2 (by rw [e1]; exact hC) (by rw [e1]; exact hR2) (fun n' ρ3 w3 v m3 H3 locs3 lsA3 pc3 vo cells slots hn' => hHr n' ρ3 w3 v m3 H3 locs3 lsA3 pc3 vo cells slots (by omega)) (by rw [e1]; exact fun ρ3 N3 => hHs ρ3 N3)
