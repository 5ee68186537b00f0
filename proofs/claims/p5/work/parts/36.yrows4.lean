/-! THE MACHINE's STEPS for the second executor: arrays, switches, constants -/
section ZYN
variable {p : Program} {l : Launch} {e : Env} {R : Room} {s : State} {mt : MethodId} {args : Array Value} {below : List Frame} {meth : Method} {c : Code} {Q : State → Prop} {P : zyP} {X : zyX} {cf : Nat → zT} {y : zY} {fs : List zFr} {nL : Nat} {d : Nat × Nat × Nat} {k : zyK}
variable {w : zW} {pc nx ax : Nat} {ls st : List Nat} {q : zQ} {m : zyM} {H : Heap} {locs : List Loc} {lsA : Array Slot} {stA : List Value} {own : String} {cc : ByteArray} {idx pp : Nat}
theorem zyidx_iff {j : Nat} {again : zW → Bool} {k1 : Nat → Bool} {k2 : Nat → Nat → Bool} {ρ : Nat → Int32} {N : Nat} {ad : Nat → Nat} {x' : Value} (h : zyidx P w j again k1 k2 = true) (hE : zEnv ρ w.2) (hv : zyv ρ N ad j x') :
    (∃ w2 : zW, w2.1 = w.1 ∧ zEnv ρ w2.2 ∧ again w2 = true) ∨ (∃ u : Nat, x' = .int (Int32.ofNat u) ∧ k1 u = true) ∨ ∃ n lo hi : Nat, x' = .int (Int32.ofNat n) ∧ n < 2147483648 ∧ lo ≤ n ∧ n ≤ hi ∧ k2 lo hi = true := by
  unfold zyidx at h
  simp only [zfr_eq, zn_m, zn_d, zn_s] at h
  rcases zif_iff h with ⟨h1, h⟩ | ⟨-, h⟩
  · exact Or.inr (Or.inl ⟨_, zyv_0 hv (zbeqT h1), h⟩)
  rcases zyhalf_iff h hE hv with q | h
  · exact Or.inl q
  rcases zykn_iff h hE hv with ⟨u, e1, h⟩ | h
  · exact Or.inr (Or.inl ⟨u, e1, h⟩)
  obtain ⟨x, lo, hi, rfl, b1, b2, h⟩ := zybd_iff h hE hv
  rcases zif_iff h with ⟨h1, h⟩ | ⟨-, h⟩
  · have h1 := zbleT h1
    obtain ⟨e1, l1, e2⟩ := zyp (x := x) (by omega)
    exact Or.inr (Or.inr ⟨x.toBitVec.toNat, _, _, by rw [show Int32.ofNat x.toBitVec.toNat = x from zN_self x], l1, by omega, by omega, h⟩)
  · cases h
/-- what was known of a range goes -/
theorem zyMem.flush {U : State} {l0 u : List (Nat × Nat)} {a tg ln lo hi : Nat} {rows : zyR} (hM : zyMem P X U l0 H) (hE : zEnv (zyρ X) w.2) (hg : zG P.1 a = some (tg, ln, rows)) (hhi : hi < zyLen (tg, ln, rows)) (h1 : ∀ key, (a * 16384 + lo ≤ key ∧ key ≤ a * 16384 + hi → zyl u key = none) ∧ (¬ (a * 16384 + lo ≤ key ∧ key ≤ a * 16384 + hi) → zyl u key = zyl l0 key))
    (h2 : ∀ key v, a * 16384 + lo ≤ key → key ≤ a * 16384 + hi → zyl l0 key = some v → ∀ r ∈ rows, r.1 ≤ key - a * 16384 → key - a * 16384 ≤ r.2.1 → zysub w v r.2.2 = true) : zyMem P X U u H ∧ ∀ k0, lo ≤ k0 → k0 ≤ hi → ∃ x, zyEl P.1 (zyb X) H a k0 = some x ∧ ∀ r ∈ rows, r.1 ≤ k0 → k0 ≤ r.2.1 → ¬ r.2.2 % 8 = 1 ∧ zyV X r.2.2 x := by
  have hl := zyLen_le hM hg
  have key : ∀ k0, lo ≤ k0 → k0 ≤ hi → ∀ x, zyEt X (tg, ln, rows) l0 a k0 x → ∀ r ∈ rows, r.1 ≤ k0 → k0 ≤ r.2.1 → ¬ r.2.2 % 8 = 1 ∧ zyV X r.2.2 x := by
    intro k0 g1 g2 x het r hr r1 r2
    unfold zyEt at het
    cases hq : zyl l0 (a * 16384 + k0) with
    | none => rw [hq] at het; exact het r hr r1 r2
    | some v =>
      rw [hq] at het
      have q := h2 (a * 16384 + k0) v (by omega) (by omega) hq r hr (by omega) (by omega)
      exact zysub_iff q hE het
  refine ⟨⟨hM.1, fun a1 c1 k1 hg1 hk1 => ?_, hM.2.2⟩, fun k0 g1 g2 => ?_⟩
  · obtain ⟨w1, q1, q2⟩ := hM.2.1 a1 c1 k1 hg1 hk1
    have hl1 := zyLen_le hM hg1
    refine ⟨w1, q1, ?_⟩
    by_cases hin : a * 16384 + lo ≤ a1 * 16384 + k1 ∧ a1 * 16384 + k1 ≤ a * 16384 + hi
    · have e1 : a1 = a := by omega
      subst e1
      rw [hg] at hg1
      cases hg1
      unfold zyEt
      rw [(h1 _).1 hin]
      exact key k1 (by omega) (by omega) w1 q2
    · unfold zyEt at q2 ⊢
      rw [(h1 _).2 hin]
      exact q2
  · obtain ⟨w1, q1, q2⟩ := hM.2.1 a _ k0 hg (by omega)
    exact ⟨w1, q1, key k0 g1 g2 w1 q2⟩
theorem zyfa_iff {g j : Nat} : ∀ {F : List zyF}, zyfa w g j F = true → ∃ f ∈ F, f.1 = 24 ∧ f.2.2.1 = g ∧ f.2.2.2 = j ∧ zbd w f.2.1 (fun lo _ => Nat.ble 2147483648 lo) = true := by
  intro F
  induction F with
  | nil => intro h; cases h
  | cons f t ih =>
    intro h
    have e : zyfa w g j (f :: t) = zif (zand (Nat.beq f.1 24) (zand (Nat.beq f.2.2.1 g) (zand (Nat.beq f.2.2.2 j) (zbd w f.2.1 (fun lo _ => Nat.ble 2147483648 lo))))) true (zyfa w g j t) := rfl
    rw [e] at h
    rcases zif_iff h with ⟨h1, -⟩ | ⟨-, h1⟩
    · obtain ⟨g1, g2⟩ := zand_iff h1
      obtain ⟨g2, g3⟩ := zand_iff g2
      obtain ⟨g3, g4⟩ := zand_iff g3
      exact ⟨f, List.mem_cons_self, zbeqT g1, zbeqT g2, zbeqT g3, g4⟩
    · obtain ⟨f2, q1, q2⟩ := ih h1
      exact ⟨f2, List.mem_cons_of_mem _ q1, q2⟩
theorem zyrl_iff {F : List zyF} {a lo hi j : Nat} : ∀ {l : zyR}, zyrl P w F a lo hi j l = true → ∃ p0 ∈ l, p0.1 = 100000 + a ∧ zycov P.2.2.2.1 a lo hi = true ∧ zyapt P.2.2.1 p0.2.1 lo hi = true ∧ zyfa w p0.2.1 j F = true := by
  intro l
  induction l with
  | nil => intro h; cases h
  | cons p0 t ih =>
    intro h
    have e : zyrl P w F a lo hi j (p0 :: t) = zif (zand (Nat.beq p0.1 (100000 + a)) (zand (zycov P.2.2.2.1 a lo hi) (zand (zyapt P.2.2.1 p0.2.1 lo hi) (zyfa w p0.2.1 j F)))) true (zyrl P w F a lo hi j t) := rfl
    rw [e] at h
    rcases zif_iff h with ⟨h1, -⟩ | ⟨-, h1⟩
    · obtain ⟨g1, g2⟩ := zand_iff h1
      obtain ⟨g2, g3⟩ := zand_iff g2
      obtain ⟨g3, g4⟩ := zand_iff g3
      exact ⟨p0, List.mem_cons_self, zbeqT g1, g2, g3, g4⟩
    · obtain ⟨f2, q1, q2⟩ := ih h1
      exact ⟨f2, List.mem_cons_of_mem _ q1, q2⟩
theorem zyrf_iff {a lo hi j v n : Nat} {x : Value} (hK : zyKn P X s) (hR : zyRl P X s nL d w ls st q m H locs lsA stA) (hj : zyV X j (.int (Int32.ofNat n))) (hn : n < 2147483648) (h1 : lo ≤ n) (h2 : n ≤ hi) (hel : zyEl P.1 (zyb X) H a n = some x) (hv : zyV X v x) : zyV X (zyrf P w m.2 a lo hi j v) x := by
  unfold zyrf
  cases hc : zand (Nat.beq (Nat.mod v 8) 2) (zand (Nat.beq (Nat.mod j 8) 1) (zyrl P w m.2 a lo hi j P.2.2.2.1)) with
  | false => exact hv
  | true =>
    obtain ⟨c1, c2⟩ := zand_iff hc
    obtain ⟨c2, c3⟩ := zand_iff c2
    have c1 : v % 8 = 2 := zbeqT c1
    have c2 : j % 8 = 1 := zbeqT c2
    obtain ⟨p0, p1, p2, p5, p3, p4⟩ := zyrl_iff c3
    obtain ⟨f, f1, f2, f3, f4, f5⟩ := zyfa_iff p4
    have hf := hR.1.2.2.2 f f1
    unfold zyFm at hf
    rw [if_pos f2, f3, f4] at hf
    obtain ⟨z, j2, z1, z2, z3, z4⟩ := hf
    obtain ⟨xi, rfl, b1, b2⟩ := zv_2 (zyv_zv hv (by omega) (by omega)) c1
    have e1 := Value.int.inj (zv_1 (zyv_zv hj (by omega) (by omega)) c2)
    have e2 := Value.int.inj (zv_1 (zyv_zv z2 (by omega) (by omega)) c2)
    have e3 : n = j2 := by
      have e4 : (Int32.ofNat n).toBitVec.toNat = (Int32.ofNat j2).toBitVec.toNat := by rw [e1, e2]
      rw [zN_of, zN_of] at e4
      omega
    subst e3
    obtain ⟨zz, l0, h0, ez, d1, d2, d3⟩ := zybd_iff f5 hR.1.1 z1
    have ez := Value.int.inj ez
    subst ez
    have d3 := zbleT d3
    have hg := hR.2.1.2.2.1 p0.2.1 n (zyapt_iff p3 n h1 h2)
    have hfin := hK.2.2.1 _ hR.2.1.2.2.2.1 p0 p1 (by omega) n xi z (by rw [p2, show 100000 + a - 100000 = a by omega]; exact zycov_iff p5 n h1 h2) (by rw [p2, show 100000 + a - 100000 = a by omega]; exact hel) (by rw [hg]; exact z4) (by omega)
    rw [zif_t]
    have hmax : max (v / 34359738368) 2147483648 ≤ zB xi := Nat.max_le.mpr ⟨b1, hfin⟩
    have hq := zyv_bd (ρ := zyρ X) (N := zyN X) (ad := zad (zyb X)) (x := xi) hmax b2 (Nat.mod_lt _ (by decide))
    exact hq
theorem zyw_ald {k1 k2 : Nat} (hk1 : 20 ≤ k1 ∧ k1 ≤ 23) (hk2 : 20 ≤ k2 ∧ k2 ≤ 23) (hK : zyKn P X s) (hKS : zyKS p l e R s mt args below meth c Q P X cf y fs nL d k) (h : zyo_ald P k1 k2 nx ax k w cf y pc ls st q fs m = true) (hR : zyRl P X s nL d w ls st q m H locs lsA stA)
    (row : ∀ (g : Nat) (ty : FieldType) (a : Addr) (cell : Cell) (j : Int32) (v : Value) (r : List Value), (g = k1 ∨ g = k2) → zty g = some ty → H[a]? = some cell → s.isArrayOf cell ty → cell.vm ≠ .unknown → ¬ (j < 0 ∨ cell.slots.size ≤ j.toNatClampNeg) → cell.slots[j.toNatClampNeg]? = some v → W p l e R s mt args below meth c H locs q.2.1 q.2.2 Q (F0 mt nx lsA (v :: r)) → W p l e R s mt args below meth c H locs q.2.1 q.2.2 Q (F0 mt pc lsA (.int j :: .ref a :: r))) : W p l e R s mt args below meth c H locs q.2.1 q.2.2 Q (F0 mt pc lsA stA) := by
  unfold zyo_ald at h
  simp only [zfr_eq, zn_m, zn_d, zn_u, zn_s, zn_c, zn_a] at h
  obtain ⟨j, t, es, h'⟩ := zpop_iff h
  clear h
  have h := h'
  clear h'
  subst es
  obtain ⟨a, r, es, h'⟩ := zpop_iff h
  clear h
  have h := h'
  clear h'
  subst es
  obtain ⟨j', stB, rfl, hj, hS2⟩ := zySt_c hR.2.2.2.2.1
  obtain ⟨a', stC, rfl, ha, hS3⟩ := zySt_c hS2
  rcases zif_iff h with ⟨h1, h⟩ | ⟨-, h⟩
  rotate_left
  · cases h
  have ea := zyv_3 ha (zbeqT h1)
  have hlow := zylowH hR.2.1
  rcases zif_iff h with ⟨h3, h⟩ | ⟨h3, h⟩
  · have h3 := zbleT h3
    rcases zif_iff h with ⟨h4, h⟩ | ⟨-, h⟩
    rotate_left
    · cases h
    obtain ⟨h4, h5⟩ := zand_iff h4
    have h4 := zbeqT h4
    have h5 : a / 8 - 200000 + 1 ≤ 30 := zbleT h5
    obtain ⟨i, hi⟩ : ∃ i, a / 8 = 200000 + i := ⟨a / 8 - 200000, by omega⟩
    obtain ⟨-, -, -, -, hT⟩ := hK.1.2.2.2.1 i (by omega)
    obtain ⟨cell, t1, t2, t3, t4, t5, t6, t7⟩ := hT.kept hlow
    rw [hi, show 200000 + i - 200000 = i by omega] at h
    have fin : ∀ u, j' = .int (Int32.ofNat u) → znth (fun c => k w cf y nx ls (8 * c :: r) q fs m) (zxT i) u = true → W p l e R s mt args below meth c H locs q.2.1 q.2.2 Q (F0 mt pc lsA (j' :: a' :: stC)) := by
      intro u ej h
      obtain ⟨cv, hcv, h⟩ := znth_iff h
      have htab : ∀ i, i < 30 → (zxT i).length = zxTl i ∧ zxTl i ≤ 20 := by decide +kernel
      have hTl : u < zxTl i := by
        have hu : u < (zxT i).length := (List.getElem?_eq_some_iff.mp hcv).1
        rw [← (htab i (by omega)).1]
        exact hu
      have hle : zxTl i ≤ 20 := (htab i (by omega)).2
      obtain ⟨p1, p2⟩ := zsmall (u := u) (by omega)
      rw [ej, ea, hi, zhigh (by omega)]
      exact row 22 .byte _ cell _ (.int (Int32.ofNat cv)) stC (Or.inl h4.symm) rfl t1 t2 t3 (by rw [p2]; exact fun z => z.elim p1 (by omega)) (by rw [p2, t6 u hTl]; show some (Value.int (Int32.ofNat ((zxT i).getD u 0))) = _; rw [List.getD_eq_getElem?_getD, hcv]; rfl) (zygo hKS h hR rfl hR.1.1 ⟨zyv_mk rfl, hS3⟩)
    rcases zif_iff h with ⟨h6, h⟩ | ⟨-, h⟩
    · exact fin _ (zyv_0 hj (zbeqT h6)) h
    rcases zyhalf_iff h hR.1.1 hj with ⟨w2, e1, E2, h⟩ | h
    · exact zygo hKS h hR e1 E2 hR.2.2.2.2.1
    rcases zykn_iff h hR.1.1 hj with ⟨u, e1, h⟩ | h
    · exact fin u e1 h
    · cases h
  · obtain ⟨⟨tg, ln, rows⟩, hg, h⟩ := zget_iff h
    dsimp only at h
    rcases zif_iff h with ⟨h5, h⟩ | ⟨-, h⟩
    rotate_left
    · cases h
    have h5 : tg = k1 ∨ tg = k2 := by
      rcases zif_iff h5 with ⟨h6, -⟩ | ⟨-, h6⟩
      · exact Or.inl (zbeqT h6)
      · exact Or.inr (zbeqT h6)
    have hlen : zyLen (tg, ln, rows) = ln := if_neg (by dsimp only; omega)
    have hl := zyLen_le hR.2.1 hg
    rw [hlen] at hl
    rcases (hR.2.1.1 _ _ hg).2 with ⟨q1, -⟩ | ⟨ty, cA, f, q1, q2, q3, q4⟩
    · exfalso
      have q1 : tg < 12 := q1
      omega
    have hread : ∀ n x, n < ln → zyEl P.1 (zyb X) H (a / 8) n = some x → (arrV cA ln f).slots[n]? = some x := by
      intro n x hn hel
      rw [zyEl_some hg (by rw [hlen]; exact hn), q2, Option.bind_some] at hel
      dsimp only at hel
      rw [if_neg (by omega)] at hel
      exact hel
    have fin : ∀ n x, j' = .int (Int32.ofNat n) → n < ln → zyEl P.1 (zyb X) H (a / 8) n = some x → W p l e R s mt args below meth c H locs q.2.1 q.2.2 Q (F0 mt nx lsA (x :: stC)) → W p l e R s mt args below meth c H locs q.2.1 q.2.2 Q (F0 mt pc lsA (j' :: a' :: stC)) := by
      intro n x ej hn hel kk
      obtain ⟨p1, p2⟩ := zsmall (u := n) (by omega)
      rw [ej, ea]
      exact row tg ty _ _ _ x stC h5 q1 q2 (q3 _ _) (fun z => by cases z) (by rw [arrV_size, p2]; exact fun z => z.elim p1 (by dsimp only; omega)) (by rw [p2]; exact hread n x hn hel) kk
    rcases zyidx_iff h hR.1.1 hj with ⟨w2, e1, E2, h⟩ | ⟨u, e1, h⟩ | ⟨n, lo, hi, e1, n1, n2, n3, h⟩
    · exact zygo hKS h hR e1 E2 hR.2.2.2.2.1
    · rcases zif_iff h with ⟨h6, h⟩ | ⟨-, h⟩
      rotate_left
      · cases h
      have h6 := zbleT h6
      obtain ⟨x, hel, ρ2, w2, v, m2, hN, hr, hE2, hv, hM2, hf2, hk⟩ := zyrd_iff h hR hg (by rw [hlen]; omega)
      exact fin u x e1 (by omega) hel (zygoW hKS hk hR hN hr hE2 ⟨hv, hS3.up hN hr⟩ hM2 hf2)
    · rcases zif_iff h with ⟨h6, h⟩ | ⟨-, h⟩
      rotate_left
      · cases h
      have h6 := zbleT h6
      obtain ⟨u, h, u1, u2⟩ := zyflush_iff h
      obtain ⟨hM2, hrow⟩ := hR.2.1.flush hR.1.1 hg (by rw [hlen]; omega) u1 u2
      obtain ⟨rw_, g1, g2, g3, h⟩ := zyrw_iff h
      obtain ⟨x, hel, hx⟩ := hrow n n2 n3
      have hv := zyrf_iff (j := j) hK hR (by rw [e1] at hj; exact hj) n1 n2 n3 hel (hx rw_ g1 (by omega) (by omega)).2
      obtain ⟨ρ2, w2, v2, hN, hr, hE2, hv2, h⟩ := zynew_iff h hR.1.1 hR.1.2.1 hv
      refine fin n x e1 (by omega) hel (zygoW hKS h hR hN hr hE2 ⟨hv2, hS3.up hN hr⟩ (hM2.up hN hr) (fun ff hf => ?_))
      cases hq : zand (zyapt P.2.2.1 (a / 8) lo hi) (Nat.ble (v2 % 8) 2) with
      | false =>
        rw [hq] at hf
        exact (hR.1.2.2.2 ff hf).up hN hr
      | true =>
        rw [hq] at hf
        rcases List.mem_cons.mp hf with z | z
        · obtain ⟨y1, y2⟩ := zand_iff hq
          obtain ⟨xi, rfl⟩ := zyv_int hv2 (zbleT y2)
          rw [z]
          unfold zyFm
          rw [if_pos rfl]
          refine ⟨xi, n, hv2, ?_, n1, ?_⟩
          · rw [e1] at hj
            exact zyv_up hj hr hN
          · exact (hR.2.1.2.2.1 (a / 8) n (zyapt_iff y1 n n2 n3)).symm.trans hel
        · exact (hR.1.2.2.2 ff z).up hN hr
theorem zyinto_iff {kd v : Nat} {k2 : Nat → Bool} {x : Value} (h : zyinto w kd v k2 = true) (hE : zEnv (zyρ X) w.2) (hv : zyV X v x) :
    ∃ (v2 : Nat) (x2 : Value), zyV X v2 x2 ∧ k2 v2 = true ∧ ((kd = 20 ∧ ∃ n, x = .int n ∧ x2 = .int n) ∨ (kd = 21 ∧ ∃ n, x = .long n ∧ x2 = .long n) ∨ (kd = 22 ∧ ∃ n, x = .int n ∧ x2 = narrow .byte (.int n)) ∨ (kd = 23 ∧ ∃ n, x = .int n ∧ x2 = narrow .boolean (.int n))) := by
  unfold zyinto at h
  simp only [zfr_eq, zn_m, zn_d, zn_u] at h
  rcases zif_iff h with ⟨h1, h⟩ | ⟨h1, h⟩
  · rcases zif_iff h with ⟨h2, h⟩ | ⟨-, h⟩
    · obtain ⟨n, rfl⟩ := zyv_int hv (zbleT h2)
      exact ⟨v, _, hv, h, Or.inl ⟨zbeqT h1, n, rfl, rfl⟩⟩
    · cases h
  rcases zif_iff h with ⟨h2, h⟩ | ⟨h2, h⟩
  · rcases zif_iff h with ⟨h3, h⟩ | ⟨-, h⟩
    · obtain ⟨z, e1, -⟩ := zyv_4 hv (zbeqT h3)
      exact ⟨v, _, hv, h, Or.inr (Or.inl ⟨zbeqT h2, z, e1, e1⟩)⟩
    · cases h
  rcases zif_iff h with ⟨h3, h⟩ | ⟨h3, h⟩
  · rcases zif_iff h with ⟨h4, h⟩ | ⟨-, h⟩
    · have e1 := zyv_0 hv (zbeqT h4)
      exact ⟨_, _, zyv_mkx _, h, Or.inr (Or.inr (Or.inl ⟨zbeqT h3, _, e1, rfl⟩))⟩
    obtain ⟨n, lo, hi, rfl, b1, b2, h⟩ := zybd_iff h hE hv
    have bz := zB_int n.toInt8.toInt32
    have l1 := Int8.le_toInt n.toInt8
    have l2 := Int8.toInt_lt n.toInt8
    have e2 : n.toInt8.toInt32.toInt = n.toInt8.toInt := Int8.toInt_toInt32 _
    rcases zif_iff h with ⟨h5, h⟩ | ⟨-, h⟩
    · obtain ⟨g1, g2⟩ := zand_iff h5
      have g1 := zbleT g1
      have g2 := zbleT g2
      have bx := zB_int n
      have e3 : n.toInt8.toInt32 = n := by
        apply Int32.toInt_inj.mp
        rw [e2, Int32.toInt_toInt8]
        apply Int.bmod_eq_of_le
        · omega
        · omega
      refine ⟨v, .int n, hv, h, Or.inr (Or.inr (Or.inl ⟨zbeqT h3, n, rfl, ?_⟩))⟩
      show Value.int n = .int n.toInt8.toInt32
      rw [e3]
    · refine ⟨_, .int n.toInt8.toInt32, ?_, h, Or.inr (Or.inr (Or.inl ⟨zbeqT h3, n, rfl, rfl⟩))⟩
      have e4 : 73786971913971565562 = 8 * (2147483520 * 4294967296 + 2147483775) + 2 := by decide
      rw [e4]
      exact zyv_bd (by omega) (by omega) (by omega)
  rcases zif_iff h with ⟨h4, h⟩ | ⟨-, h⟩
  · obtain ⟨n, lo, hi, rfl, b1, b2, h⟩ := zybd_iff h hE hv
    rcases zif_iff h with ⟨h5, h⟩ | ⟨-, h⟩
    · obtain ⟨g1, g2⟩ := zand_iff h5
      have g1 := zbleT g1
      have g2 := zbleT g2
      refine ⟨v, .int n, hv, h, Or.inr (Or.inr (Or.inr ⟨zbeqT h4, n, rfl, ?_⟩))⟩
      rcases zybool (x := n) (by omega) (by omega) with rfl | rfl <;> decide
    · cases h
  · cases h
theorem zyw_ast {k1 k2 : Nat} (hK : zyKn P X s) (hKS : zyKS p l e R s mt args below meth c Q P X cf y fs nL d k) (h : zyo_ast P k1 k2 nx ax k w cf y pc ls st q fs m = true) (hR : zyRl P X s nL d w ls st q m H locs lsA stA)
    (row : ∀ (g : Nat) (ty : FieldType) (a : Addr) (cell : Cell) (j : Int32) (x x2 : Value) (r : List Value), (g = k1 ∨ g = k2) → zty g = some ty → ((g = 20 ∧ ∃ n, x = .int n ∧ x2 = .int n) ∨ (g = 21 ∧ ∃ n, x = .long n ∧ x2 = .long n) ∨ (g = 22 ∧ ∃ n, x = .int n ∧ x2 = narrow .byte (.int n)) ∨ (g = 23 ∧ ∃ n, x = .int n ∧ x2 = narrow .boolean (.int n))) → H[a]? = some cell → s.isArrayOf cell ty → cell.vm ≠ .unknown → ¬ (j < 0 ∨ cell.slots.size ≤ j.toNatClampNeg) →
      (∀ H' : Heap, H'[a]? = some (cell.setSlot j.toNatClampNeg x2) → H'.size = H.size → (∀ q, q ≠ a → H'[q]? = H[q]?) → W p l e R s mt args below meth c H' (locs ++ [⟨a, j.toNatClampNeg⟩]) q.2.1 q.2.2 Q (F0 mt nx lsA r)) → W p l e R s mt args below meth c H locs q.2.1 q.2.2 Q (F0 mt pc lsA (x :: .int j :: .ref a :: r))) : W p l e R s mt args below meth c H locs q.2.1 q.2.2 Q (F0 mt pc lsA stA) := by
  unfold zyo_ast at h
  simp only [zfr_eq, zn_m, zn_d, zn_u, zn_c, zn_a] at h
  obtain ⟨v, t, es, h'⟩ := zpop_iff h
  clear h
  have h := h'
  clear h'
  subst es
  obtain ⟨j, t2, es, h'⟩ := zpop_iff h
  clear h
  have h := h'
  clear h'
  subst es
  obtain ⟨a, r, es, h'⟩ := zpop_iff h
  clear h
  have h := h'
  clear h'
  subst es
  obtain ⟨x, stB, rfl, hv, hS2⟩ := zySt_c hR.2.2.2.2.1
  obtain ⟨j', stC, rfl, hj, hS3⟩ := zySt_c hS2
  obtain ⟨a', stD, rfl, ha, hS4⟩ := zySt_c hS3
  rcases zif_iff h with ⟨h1, h⟩ | ⟨-, h⟩
  rotate_left
  · cases h
  have ea := zyv_3 ha (zbeqT h1)
  obtain ⟨⟨tg, ln, rows⟩, hg, h⟩ := zget_iff h
  dsimp only at h
  rcases zif_iff h with ⟨h5, h⟩ | ⟨-, h⟩
  rotate_left
  · cases h
  have h5 : tg = k1 ∨ tg = k2 := by
    rcases zif_iff h5 with ⟨h6, -⟩ | ⟨-, h6⟩
    · exact Or.inl (zbeqT h6)
    · exact Or.inr (zbeqT h6)
  obtain ⟨v2, x2, hv2, h, hst⟩ := zyinto_iff h hR.1.1 hv
  have h20 : 20 ≤ tg := by rcases hst with ⟨q, -⟩ | ⟨q, -⟩ | ⟨q, -⟩ | ⟨q, -⟩ <;> omega
  have hlen : zyLen (tg, ln, rows) = ln := if_neg (by dsimp only; omega)
  have hl := zyLen_le hR.2.1 hg
  rw [hlen] at hl
  obtain ⟨hlt90, hsh⟩ := hR.2.1.1 _ _ hg
  rcases hsh with ⟨q1, -⟩ | ⟨ty, cA, f, q1, q2, q3, q4⟩
  · exfalso
    have q1 : tg < 12 := q1
    omega
  have fin : ∀ (n : Nat) (l1 : List (Nat × Nat)), j' = .int (Int32.ofNat n) → n < ln → zyin P.2.2.1 (a / 8) n = true → zyin P.2.2.2.1 (a / 8) n = false → zyEt X (tg, ln, rows) l1 (a / 8) n x2 → (∀ a1 c1 k1 w1, zG P.1 a1 = some c1 → k1 < zyLen c1 → ¬ (a1 = a / 8 ∧ k1 = n) → zyEt X c1 m.1 a1 k1 w1 → zyEt X c1 l1 a1 k1 w1) → k w cf y nx ls r q fs (l1, m.2) = true → W p l e R s mt args below meth c H locs q.2.1 q.2.2 Q (F0 mt pc lsA (x :: j' :: a' :: stD)) := by
    intro n l1 ej hn hfp hdj ht1 ht2 hk
    obtain ⟨p1, p2⟩ := zsmall (u := n) (by omega)
    rw [ej, ea]
    refine row tg ty _ _ _ x x2 stD h5 q1 hst q2 (q3 _ _) (fun z => by cases z) (by rw [arrV_size, p2]; exact fun z => z.elim p1 (by dsimp only; omega)) (fun H1 f1 f2 f3 => ?_)
    rw [p2, arrV_store] at f1
    have hMem : zyMem P X s l1 H1 := by
      refine zyMem.upd (s := s) (x := x2) hK hR.2.1 hg (by rw [hlen]; exact hn) f3 (Or.inr ⟨ty, cA, _, q1, f1, q3, q4⟩) ?_ (fun k0 hk0 hne => ?_) hfp hdj ht1 ht2
      · rw [zyEl_some hg (by rw [hlen]; exact hn), f1, Option.bind_some]
        dsimp only
        rw [if_neg (by omega), arrV_read _ _ hn]
        unfold updV
        rw [if_pos rfl]
      · rw [zyEl_some hg hk0, zyEl_some hg hk0, f1, q2, Option.bind_some, Option.bind_some]
        rw [hlen] at hk0
        dsimp only
        rw [if_neg (by omega), arrV_read _ _ hk0, arrV_read _ _ hk0]
        unfold updV
        rw [if_neg hne]
    refine hKS (zyρ X) (zyN X) _ _ _ _ _ _ _ _ _ _ hk ⟨hR.1, hMem, fun z hz => ?_, hR.2.2.2.1, hS4, hR.2.2.2.2.2⟩
    rcases List.mem_append.mp hz with h7 | h7
    · exact hR.2.2.1 z h7
    · rw [List.mem_singleton] at h7
      rw [h7]
      exact zyad_ge hlt90
  rcases zyidx_iff h hR.1.1 hj with ⟨w2, e1, E2, h⟩ | ⟨u, e1, h⟩ | ⟨n, lo, hi, e1, n1, n2, n3, h⟩
  · exact zygo hKS h hR e1 E2 hR.2.2.2.2.1
  · rcases zif_iff h with ⟨h6, h⟩ | ⟨-, h⟩
    rotate_left
    · cases h
    obtain ⟨h6, h7⟩ := zand_iff h6
    obtain ⟨h7, h8⟩ := zand_iff h7
    have h8 := zyF_n h8
    have h6 := zbleT h6
    rw [zyput_eq] at h
    have k64 : u < 16384 := by omega
    exact fin u _ e1 (by omega) h7 h8 ((zyEt_set (c1 := (0, 0, [])) (a1 := 0) (k1 := 0) (w1 := x) k64 (by omega)).1 hv2) (fun a1 c1 k1 w1 hg1 hk1 hn het => (zyEt_set (c0 := (0, 0, [])) (x := x) k64 (by have := zyLen_le hR.2.1 hg1; omega)).2 hn het) h
  · rcases zif_iff h with ⟨h6, h⟩ | ⟨-, h⟩
    rotate_left
    · cases h
    obtain ⟨h6, h7⟩ := zand_iff h6
    obtain ⟨h7, h8⟩ := zand_iff h7
    obtain ⟨h8, h9⟩ := zand_iff h8
    have h6 := zbleT h6
    obtain ⟨u, h, u1, u2⟩ := zyflush_iff h
    obtain ⟨hM2, hrow⟩ := hR.2.1.flush hR.1.1 hg (by rw [hlen]; omega) u1 u2
    refine fin n u e1 (by omega) (zycov_iff h7 n n2 n3) (zyapt_iff h8 n n2 n3) ?_ (fun a1 c1 k0 w1 hg1 hk1 hn het => ?_) h
    · unfold zyEt
      rw [(u1 _).1 ⟨by omega, by omega⟩]
      exact fun r0 g1 g2 g3 => zysub_iff (zyall_iff h9 r0 g1 n n2 n3 g2 g3) hR.1.1 hv2
    · have hl1 := zyLen_le hR.2.1 hg1
      by_cases hin : a / 8 * 16384 + lo ≤ a1 * 16384 + k0 ∧ a1 * 16384 + k0 ≤ a / 8 * 16384 + hi
      · have e2 : a1 = a / 8 := by omega
        rw [e2] at hg1
        rw [hg] at hg1
        cases hg1
        unfold zyEt at het ⊢
        rw [(u1 _).1 hin]
        cases hq : zyl m.1 (a1 * 16384 + k0) with
        | none => rw [hq] at het; exact het
        | some v0 =>
          rw [hq] at het
          exact fun r0 g1 g2 g3 => zysub_iff (u2 _ v0 hin.1 hin.2 hq r0 g1 (by omega) (by omega)) hR.1.1 het
      · unfold zyEt at het ⊢
        rw [(u1 _).2 hin]
        exact het
theorem zyw_tab {df lo hi : Int} {offs : Array Int} {len : Nat} (hexec : p.tables.exec = Jvm.exec) (hb : c.code = cc) (hdg : decode cc pc = .ok (.tableswitch df lo hi offs, len))
    (hKS : zyKS p l e R s mt args below meth c Q P X cf y fs nL d k) (h : zyo_tab df lo hi offs nx ax k w cf y pc ls st q fs m = true) (hR : zyRl P X s nL d w ls st q m H locs lsA stA) : W p l e R s mt args below meth c H locs q.2.1 q.2.2 Q (F0 mt pc lsA stA) := by
  unfold zyo_tab at h
  simp only [zfr_eq, zn_c, zn_p, zn_s, zn_u] at h
  obtain ⟨v, r, es, h'⟩ := zpop_iff h
  clear h
  have h := h'
  clear h'
  subst es
  obtain ⟨x', stB, rfl, hv, hS2⟩ := zySt_c hR.2.2.2.2.1
  rcases zif_iff h with ⟨h0, h⟩ | ⟨-, h⟩
  rotate_left
  · cases h
  obtain ⟨h01, h02⟩ := zand_iff h0
  rw [decide_eq_true_eq] at h01 h02
  obtain ⟨x, a, b, rfl, b1, b2, h⟩ := zybd_iff h hR.1.1 hv
  have hBi := zB_int x
  rcases zif_iff h with ⟨h1, h⟩ | ⟨h1, h⟩
  · rcases zif_iff h with ⟨h2, h⟩ | ⟨-, h⟩
    rotate_left
    · cases h
    rw [decide_eq_true_eq] at h2
    refine lv_tableOut hexec hb hdg ?_ h2.symm (zygo hKS h hR rfl hR.1.1 hS2)
    rcases zif_iff h1 with ⟨h3, -⟩ | ⟨-, h3⟩
    · have := zbleT h3
      left
      omega
    · have := zbleT h3
      right
      omega
  have h3 : ¬ b + 1 ≤ (lo + 2147483648).toNat ∧ ¬ (hi + 2147483648).toNat + 1 ≤ a := by
    cases hq1 : Nat.ble (b + 1) (lo + 2147483648).toNat with
    | true => rw [hq1] at h1; cases h1
    | false =>
      rw [hq1] at h1
      exact ⟨zbleF hq1, zbleF h1⟩
  rcases zif_iff h with ⟨h4, h⟩ | ⟨h4, h⟩
  · obtain ⟨g1, g2⟩ := zand_iff h
    by_cases hc : zB x < (lo + 2147483648).toNat
    · obtain ⟨w2, e1, E2, g3⟩ := zycut_iff g1 hR.1.1 hv b1 (by omega)
      exact zygo hKS g3 hR e1 E2 hR.2.2.2.2.1
    · obtain ⟨w2, e1, E2, g3⟩ := zycut_iff g2 hR.1.1 hv (by omega) b2
      exact zygo hKS g3 hR e1 E2 hR.2.2.2.2.1
  rcases zif_iff h with ⟨h5, h⟩ | ⟨h5, h⟩
  · obtain ⟨g1, g2⟩ := zand_iff h
    by_cases hc : zB x ≤ (hi + 2147483648).toNat
    · obtain ⟨w2, e1, E2, g3⟩ := zycut_iff g2 hR.1.1 hv b1 hc
      exact zygo hKS g3 hR e1 E2 hR.2.2.2.2.1
    · obtain ⟨w2, e1, E2, g3⟩ := zycut_iff g1 hR.1.1 hv (by omega) b2
      exact zygo hKS g3 hR e1 E2 hR.2.2.2.2.1
  have h4 := zbleF h4
  have h5 := zbleF h5
  rcases zyindex_iff h hR.1.1 hv with ⟨w2, e1, E2, h⟩ | ⟨u, e1, h⟩ | ⟨u, e1, h⟩
  · exact zygo hKS h hR e1 E2 hR.2.2.2.2.1
  · refine zygo hKS h hR rfl hR.1.1 ⟨?_, hS2⟩
    rw [e1]
    exact zyv_mk rfl
  · obtain ⟨o, ho, h⟩ := znth_iff h
    rcases zif_iff h with ⟨h2, h⟩ | ⟨-, h⟩
    rotate_left
    · cases h
    rw [decide_eq_true_eq] at h2
    have e2 := Value.int.inj e1
    have e3 : zb u = zB x := by rw [e2, zB_of]
    rw [e3] at ho
    refine lv_tableIn hexec hb hdg (by omega) (by omega) (off := o) ?_ h2.symm (zygo hKS h hR rfl hR.1.1 hS2)
    rw [← Array.getElem?_toList]
    have e4 : (x.toInt - lo).toNat = zB x - (lo + 2147483648).toNat := by omega
    rw [e4]
    exact ho
theorem zyw_look {df : Int} {ps : Array (Int × Int)} {len : Nat} (hexec : p.tables.exec = Jvm.exec) (hb : c.code = cc) (hdg : decode cc pc = .ok (.lookupswitch df ps, len))
    (hKS : zyKS p l e R s mt args below meth c Q P X cf y fs nL d k) (h : zyo_look df ps nx ax k w cf y pc ls st q fs m = true) (hR : zyRl P X s nL d w ls st q m H locs lsA stA) : W p l e R s mt args below meth c H locs q.2.1 q.2.2 Q (F0 mt pc lsA stA) := by
  unfold zyo_look at h
  simp only [zfr_eq, zn_u] at h
  obtain ⟨v, r, es, h'⟩ := zpop_iff h
  clear h
  have h := h'
  clear h'
  subst es
  obtain ⟨x', stB, rfl, hv, hS2⟩ := zySt_c hR.2.2.2.2.1
  rcases zyindex_iff h hR.1.1 hv with ⟨w2, e1, E2, h⟩ | ⟨u, rfl, h⟩ | ⟨u, rfl, h⟩
  · exact zygo hKS h hR e1 E2 hR.2.2.2.2.1
  · exact zygo hKS h hR rfl hR.1.1 ⟨zyv_mk rfl, hS2⟩
  · rcases zif_iff h with ⟨h1, h⟩ | ⟨-, h⟩
    rotate_left
    · cases h
    rcases zif_iff h with ⟨h2, h⟩ | ⟨-, h⟩
    rotate_left
    · cases h
    rw [decide_eq_true_eq] at h2
    exact lv_lookup hexec hb hdg h1 rfl h2.symm (zygo hKS h hR rfl hR.1.1 hS2)
theorem zyw_ldc {lw : Bool} (hexec : p.tables.exec = Jvm.exec) (hb : c.code = cc) (hown : s.vm.findClass own = some mt.cls) (hK : zyKn P X s)
    (hlk : (if ax ≤ 4294967295 then decide (zwd pp = some (.constant own idx (Int32.ofNat (zb ax)))) else decide ((zskey (ax - 4294967296)).1 = own ∧ (zskey (ax - 4294967296)).2.1 = idx ∧ ax - 4294967296 < 30)) = true)
    (hdg : decode cc pc = .ok (if lw then .ldc_w idx else .ldc idx, if lw then 3 else 2)) (hnx : nx = pc + if lw then 3 else 2)
    (hKS : zyKS p l e R s mt args below meth c Q P X cf y fs nL d k) (h : zyo_ldc nx ax k w cf y pc ls st q fs m = true) (hR : zyRl P X s nL d w ls st q m H locs lsA stA) : W p l e R s mt args below meth c H locs q.2.1 q.2.2 Q (F0 mt pc lsA stA) := by
  subst hnx
  unfold zyo_ldc at h
  simp only [zfr_eq, zn_a, zn_s, zn_u] at h
  rcases zif_iff h with ⟨h1, h⟩ | ⟨h1, h⟩
  · rw [if_pos (zbleT h1), decide_eq_true_eq] at hlk
    have hw := zword (args := args) hK.1 (zwd_mem hlk) rfl
    have kk := zygo hKS h hR rfl hR.1.1 (stB := .int (Int32.ofNat (zb ax)) :: stA) ⟨zyv_mk rfl, hR.2.2.2.2.1⟩
    cases lw with
    | false => exact lv_ldc hexec hb hown hw hdg kk
    | true => exact lv_ldcw hexec hb hown hw hdg kk
  · rw [if_neg (zbleF h1), decide_eq_true_eq] at hlk
    obtain ⟨g1, g2, g3⟩ := hlk
    have e1 := zhigh (X := zyb X) (a := 100000 + (ax - 4294967296)) (by omega)
    refine zw_ldcS (lw := lw) hexec hb hown hK.1 g3 g1 g2 hdg (zygo hKS h hR rfl hR.1.1 ⟨?_, hR.2.2.2.2.1⟩)
    rw [← e1, show ax - 4294967296 + 100000 = 100000 + (ax - 4294967296) by omega]
    exact zyv_ref _
theorem zyw_ldc2 (hexec : p.tables.exec = Jvm.exec) (hb : c.code = cc) (hown : s.vm.findClass own = some mt.cls) (hK : zyKn P X s) (hlk : zwd pp = some (.constantLong own idx (Int64.ofNat ax))) (hdg : decode cc pc = .ok (.ldc2_w idx, 3)) (hnx : nx = pc + 3)
    (hKS : zyKS p l e R s mt args below meth c Q P X cf y fs nL d k) (h : zyo_ldc2 nx ax k w cf y pc ls st q fs m = true) (hR : zyRl P X s nL d w ls st q m H locs lsA stA) : W p l e R s mt args below meth c H locs q.2.1 q.2.2 Q (F0 mt pc lsA stA) := by
  subst hnx
  unfold zyo_ldc2 at h
  simp only [zfr_eq, zn_a, zn_u] at h
  rcases zif_iff h with ⟨h1, h⟩ | ⟨-, h⟩
  rotate_left
  · cases h
  have h1 := zbleT h1
  exact lv_ldc2 hexec hb hown (zword (args := args) hK.1 (zwd_mem hlk) rfl) hdg (zygo hKS h hR rfl hR.1.1 ⟨zyv_mkl rfl (by omega), hR.2.2.2.2.1⟩)
theorem zyw_gets (hexec : p.tables.exec = Jvm.exec) (hb : c.code = cc) (hown : s.vm.findClass own = some mt.cls) (hK : zyKn P X s) (hlk : ((decide (ax = 1) && decide (zwd pp = some (.fieldLink own idx "java/lang/String" "COMPACT_STRINGS" "Z"))) || (decide (ax = 2) && decide (zwd pp = some (.fieldLink own idx "jdk/internal/util/Preconditions" "SIOOBE_FORMATTER" "Ljava/util/function/BiFunction;")))) = true) (hdg : decode cc pc = .ok (.getstatic idx, 3)) (hnx : nx = pc + 3)
    (hKS : zyKS p l e R s mt args below meth c Q P X cf y fs nL d k) (h : zyo_gets nx ax k w cf y pc ls st q fs m = true) (hR : zyRl P X s nL d w ls st q m H locs lsA stA) : W p l e R s mt args below meth c H locs q.2.1 q.2.2 Q (F0 mt pc lsA stA) := by
  subst hnx
  unfold zyo_gets at h
  simp only [Bool.and_eq_true, Bool.or_eq_true, decide_eq_true_eq] at hlk
  have hlow := zylowH hR.2.1
  have key : ∀ (C n ds : String) (v : Value), va_Z C n ds v (zUp (zyb X)) s (zH0 (zyb X)) → (Cond.fieldLink own idx C n ds).before args s = true → W p l e R s mt args below meth c H locs q.2.1 q.2.2 Q (F0 mt (pc + 3) lsA (v :: stA)) → W p l e R s mt args below meth c H locs q.2.1 q.2.2 Q (F0 mt pc lsA stA) := by
    intro C n ds v hZ hl kk
    obtain ⟨cf0, kf, fi, f, a, cell, h1, h2, h3, h4, h5, h6, h7, h8⟩ := hZ.kept hlow
    exact W.gets hexec hb hown hl h1 h2 h3 h4 h5 (fun e => by rw [e] at h6; cases h6) h7 rfl hdg kk
  rcases zif_iff h with ⟨h1, h⟩ | ⟨h1, h⟩
  · have e1 := zbeqT h1
    rcases hlk with ⟨-, g2⟩ | ⟨g1, -⟩
    · exact key _ _ _ (.int 1) hK.1.2.2.2.2.1 (zword (args := args) hK.1 (zwd_mem g2) rfl) (zygo hKS h hR rfl hR.1.1 ⟨zyv_mk (u := 1) rfl, hR.2.2.2.2.1⟩)
    · omega
  rcases zif_iff h with ⟨h2, h⟩ | ⟨-, h⟩
  · have e1 := zbeqT h2
    rcases hlk with ⟨g1, -⟩ | ⟨-, g2⟩
    · omega
    · rcases hK.1.2.2.2.2.2 with hz | ⟨t, hz⟩
      · exact key _ _ _ .null hz (zword (args := args) hK.1 (zwd_mem g2) rfl) (zygo hKS h hR rfl hR.1.1 ⟨zyv_c (Or.inr (Or.inr (Or.inr (Or.inr (Or.inr (Or.inr ⟨rfl, Or.inl rfl⟩)))))) (by decide) (by decide), hR.2.2.2.2.1⟩)
      · exact key _ _ _ (.ref t) hz (zword (args := args) hK.1 (zwd_mem g2) rfl) (zygo hKS h hR rfl hR.1.1 ⟨zyv_c (Or.inr (Or.inr (Or.inr (Or.inr (Or.inr (Or.inr ⟨rfl, Or.inr ⟨t, rfl⟩⟩)))))) (by decide) (by decide), hR.2.2.2.2.1⟩)
  · cases h
end ZYN
