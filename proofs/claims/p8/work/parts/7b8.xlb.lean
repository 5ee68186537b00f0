/-! THE LAW FROM ITS ENTRY TO ITS END -/
theorem zcR {mi : zyB} {X : zCx} {U : State} {m : zM} {n : Nat} {H : Heap} (hM : zMem X U n m H) (hdom : ∀ a c, zG mi a = some c → a < 90000 ∧ ∃ d, zG m a = some d ∧ zccl c d = true) {a k u : Nat} {c : zyCl} {d : zCl} (hg : zG mi a = some c) (hk : k < zyLen c) (hd : zG m a = some d) (hv : zG d.2.2 k = some (8 * u + 3)) : zyEl mi X H a k = some (.ref (zad X u)) := by
  obtain ⟨h1, d2, h2, h3⟩ := hdom a c hg
  rw [hd] at h2
  cases h2
  obtain ⟨v, w, g1, g2, g3, -⟩ := (zcel hM h1 hg hd h3).2 k hk
  rw [hv] at g1
  cases g1
  rw [g2, zv_3 g3 (by omega), show (8 * u + 3) / 8 = u by omega]
theorem zcL {mi : zyB} {X : zCx} {U : State} {m : zM} {n : Nat} {H : Heap} (hM : zMem X U n m H) (hdom : ∀ a c, zG mi a = some c → a < 90000 ∧ ∃ d, zG m a = some d ∧ zccl c d = true) {a k u : Nat} {c : zyCl} {d : zCl} (hg : zG mi a = some c) (hk : k < zyLen c) (hd : zG m a = some d) (hv : zG d.2.2 k = some (8 * u + 4)) : zyEl mi X H a k = some (.long (Int64.ofNat u)) := by
  obtain ⟨h1, d2, h2, h3⟩ := hdom a c hg
  rw [hd] at h2
  cases h2
  obtain ⟨v, w, g1, g2, g3, -⟩ := (zcel hM h1 hg hd h3).2 k hk
  rw [hv] at g1
  cases g1
  rw [g2, zv_4 g3 (by omega), show (8 * u + 4) / 8 = u by omega]
theorem zcm_c : zcmi zymc zM0 0 74 = true := by decide +kernel
theorem zcm_r : zcmi (zymr 1 1) zM0 72 16 = true := by decide +kernel
noncomputable def zcJ (f g : Nat) : Bool := zyAll (fun i => zget zM0 f (fun d => zget d.2.2 i (fun v => zget zM0 g (fun d2 => zget d2.2.2 i (fun v2 => zand (Nat.beq (Nat.mod v 8) 0) (zand (Nat.beq (Nat.mod v2 8) 0) (zif (Nat.ble 2147483648 (zb (Nat.div v2 8))) (Nat.ble 2147483648 (zb (Nat.div v 8))) true))))))) 80
theorem zcJ_1 : zcJ 4 5 = true := by decide +kernel
theorem zcJ_2 : zcJ 21 22 = true := by decide +kernel
theorem zcD_c : ∀ a c, zG zymc a = some c → a < 90000 ∧ ∃ d, zG zM0 a = some d ∧ zccl c d = true := fun a c h => by
  have := zymc_lt h
  exact ⟨by omega, zcmi_iff zcm_c (Nat.zero_le _) (by omega) h⟩
theorem zcD_r : ∀ a c, zG (zymr 1 1) a = some c → a < 90000 ∧ ∃ d, zG zM0 a = some d ∧ zccl c d = true := fun a c h => by
  have := zymrX_dom (x := zymr75 1 1) h
  exact ⟨by omega, zcmi_iff zcm_r (by omega) (by omega) h⟩
theorem zcJ_iff {X : zCx} {U : State} {H : Heap} (hM : zMem X U 88 zM0 H) {f g : Nat} (hc : zcJ f g = true) {i : Nat} (hi : i ≤ 79) {z y : Int32} (hz : zyEl zymc X H f i = some (.int z)) (hy : zyEl zymc X H g i = some (.int y)) (hp : 2147483648 ≤ zB y) : 2147483648 ≤ zB z := by
  obtain ⟨d, h1, h⟩ := zget_iff (zyAll_iff hc i (by omega))
  obtain ⟨v, h2, h⟩ := zget_iff h
  obtain ⟨d2, h3, h⟩ := zget_iff h
  obtain ⟨v2, h4, h⟩ := zget_iff h
  obtain ⟨k1, h⟩ := zand_iff h
  obtain ⟨k2, h⟩ := zand_iff h
  obtain ⟨cf, g1, g2⟩ := zyEl_is hz
  obtain ⟨cg, g3, g4⟩ := zyEl_is hy
  have key : ∀ {a : Nat} {c : zyCl} {d : zCl} {v : Nat} {x : Int32}, zG zymc a = some c → i < zyLen c → zG zM0 a = some d → zG d.2.2 i = some v → Nat.beq (Nat.mod v 8) 0 = true → zyEl zymc X H a i = some (.int x) → zB x = zb (v / 8) := by
    intro a c d v x q1 q2 q3 q4 q5 q6
    obtain ⟨h1, d2, h2, h3⟩ := zcD_c a c q1
    rw [q3] at h2
    cases h2
    obtain ⟨v2, w, p1, p2, p3, -⟩ := (zcel hM h1 q1 q3 h3).2 i q2
    rw [q4] at p1
    cases p1
    rw [p2] at q6
    cases q6
    have e := Value.int.inj (zv_0 p3 (zbeqT q5))
    rw [e, zB_of]
  have e1 := key g1 g2 h1 h2 k1 hz
  have e2 := key g3 g4 h3 h4 k2 hy
  rcases zif_iff h with ⟨-, q⟩ | ⟨q, -⟩
  · rw [e1]
    exact zbleT q
  · rw [e2] at hp
    rw [show Nat.ble 2147483648 (zb (Nat.div v2 8)) = true from Nat.ble_eq_true_of_le hp] at q
    cases q
noncomputable def zcE (f g off n : Nat) : Bool := zyAll (fun i => zget zM0 f (fun d => zget d.2.2 i (fun v => zget zM0 g (fun d2 => zget d2.2.2 (Nat.add off i) (fun v2 => zand (Nat.beq (Nat.mod v 8) 0) (Nat.beq v v2)))))) n
theorem zcE_10 : zcE 10 75 8 31 = true := by decide +kernel
theorem zcE_11 : zcE 11 75 40 31 = true := by decide +kernel
theorem zcE_12 : zcE 12 75 72 31 = true := by decide +kernel
theorem zcE_13 : zcE 13 75 104 31 = true := by decide +kernel
theorem zcE_iff {X : zCx} {U : State} {H : Heap} (hM : zMem X U 88 zM0 H) {f g off n : Nat} (hc : zcE f g off n = true) {cf cg : zyCl} (hf : zG zymc f = some cf) (hg : zG (zymr 1 1) g = some cg) (lf : n ≤ zyLen cf) (lg : off + n ≤ zyLen cg) {i : Nat} (hi : i < n) : zyEl zymc X H f i = zyEl zymx X H g (off + i) := by
  obtain ⟨d, h1, h⟩ := zget_iff (zyAll_iff hc i hi)
  obtain ⟨v, h2, h⟩ := zget_iff h
  obtain ⟨d2, h3, h⟩ := zget_iff h
  obtain ⟨v2, h4, h⟩ := zget_iff h
  obtain ⟨k1, k2⟩ := zand_iff h
  have k1 : v % 8 = 0 := zbeqT k1
  have k2 : v = v2 := zbeqT k2
  have e : 8 * (v / 8) = v := by omega
  rw [← zyElx 1 1 X H, zcK (u := v / 8) hM zcD_c hf (by omega) h1 (by rw [e]; exact h2), zcK (u := v / 8) (k := off + i) hM zcD_r hg (by omega) h3 (by rw [e, k2]; exact h4)]
theorem zcE_x {X : zCx} {U : State} {H : Heap} (hM : zMem X U 88 zM0 H) {f g off n : Nat} (hc : zcE f g off n = true) {cf cg : zyCl} (hf : zG zymc f = some cf) (hg : zG (zymr 1 1) g = some cg) (lf : n ≤ zyLen cf) (lg : off + n ≤ zyLen cg) {i : Int} (i0 : 0 ≤ i) (i1 : i < (n : Int)) : xE (zyEl zymc X H) f i = xE (zyEl zymx X H) g ((off : Int) + i) := by
  have h := zcE_iff hM hc hf hg lf lg (i := i.toNat) (by omega)
  unfold xE
  rw [show ((off : Int) + i).toNat = off + i.toNat by omega, h]
theorem zl_beginP {X : zCx} {s : State} {H : Heap} (hM : zMem X s 88 zM0 H) : zPl X H := by
  have s0 : xE (zyEl zymx X H) 75 0 = 1 := by
    rw [← zyElx 1 1 X H, xE_s (zcK (u := 1) hM zcD_r rfl (by decide) rfl rfl) (i := 0) rfl]
    rfl
  have s1 : xE (zyEl zymx X H) 75 1 = 1 := by
    rw [← zyElx 1 1 X H, xE_s (zcK (u := 1) hM zcD_r rfl (by decide) rfl rfl) (i := 1) rfl]
    rfl
  refine Or.inl ⟨zcR (u := 1) hM zcD_c rfl (by decide) rfl rfl, zcR (u := 18) hM zcD_c rfl (by decide) rfl rfl, ⟨by omega, by omega⟩, ?_, ?_, fun k k0 k1 => ?_, fun g g0 g1 => ⟨?_, ?_, ?_, ?_⟩⟩
  · unfold sF
    rw [s0, s1]
    show (0 : Int) ≤ 6
    decide
  · rw [s0, s1, xE_s (zcK (u := 4) hM zcD_c rfl (by decide) rfl rfl) (i := 2) rfl, xE_s (zcK (u := 0) hM zcD_c rfl (by decide) rfl rfl) (i := 3) rfl]
    exact ⟨rfl, rfl⟩
  · rw [s0, s1] at k1 ⊢
    have k1 : k < 4 := k1
    have h9 : k = 0 ∨ k = 1 ∨ k = 2 ∨ k = 3 := by omega
    rcases h9 with rfl | rfl | rfl | rfl
    · rw [xE_s (zcK (u := 4294967295) hM zcD_c rfl (by decide) rfl rfl) (i := 0) rfl]
      decide +kernel
    · rw [xE_s (zcK (u := 4294967295) hM zcD_c rfl (by decide) rfl rfl) (i := 1) rfl]
      decide +kernel
    · rw [xE_s (zcK (u := 4294967295) hM zcD_c rfl (by decide) rfl rfl) (i := 2) rfl]
      decide +kernel
    · rw [xE_s (zcK (u := 4294967295) hM zcD_c rfl (by decide) rfl rfl) (i := 3) rfl]
      decide +kernel
  · exact zcE_x hM zcE_10 rfl rfl (by decide) (by decide) g0 g1
  · exact zcE_x hM zcE_11 rfl rfl (by decide) (by decide) g0 g1
  · exact zcE_x hM zcE_12 rfl rfl (by decide) (by decide) g0 g1
  · exact zcE_x hM zcE_13 rfl rfl (by decide) (by decide) g0 g1
theorem zl_begin {X : zCx} {s : State} {H : Heap} (hM : zMem X s 88 zM0 H) : zLI X s 0 (20 * 0) H := by
  refine ⟨⟨⟨zcMI hM zcD_c ?_, zcK (u := 0) hM zcD_c rfl (by decide) rfl rfl⟩, ?_⟩, Or.inl ⟨zcR (u := 1) hM zcD_c rfl (by decide) rfl rfl, zcR (u := 18) hM zcD_c rfl (by decide) rfl rfl⟩, fun k hk => ?_, (fun k k0 k1 => absurd k1 (by omega)), zl_beginP hM⟩
  · intro f g hfg i hi z y hz hy hp
    rcases hfg with ⟨rfl, rfl⟩ | ⟨rfl, rfl⟩
    · exact zcJ_iff hM zcJ_1 hi hz hy hp
    · exact zcJ_iff hM zcJ_2 hi hz hy hp
  · have k3 : zyEl zymx X H 75 3 = some (.int (Int32.ofNat 0)) := by
      rw [← zyElx 1 1 X H]
      exact zcK (u := 0) hM zcD_r rfl (by decide) rfl rfl
    have k4 : zyEl zymx X H 75 4 = some (.int (Int32.ofNat 0)) := by
      rw [← zyElx 1 1 X H]
      exact zcK (u := 0) hM zcD_r rfl (by decide) rfl rfl
    have k5 : zyEl zymx X H 75 5 = some (.int (Int32.ofNat 4294967295)) := by
      rw [← zyElx 1 1 X H]
      exact zcK (u := 4294967295) hM zcD_r rfl (by decide) rfl rfl
    have kt : zyEl zymx X H 74 33 = some (.int (Int32.ofNat 0)) := by
      rw [← zyElx 1 1 X H]
      exact zcK (u := 0) hM zcD_r rfl (by decide) rfl rfl
    refine ⟨1, 1, ⟨by decide, by decide, by decide, by decide⟩, zcMI hM zcD_r trivial, zJl_J1 ⟨k3, k4, fun k hk h => ?_⟩, kt, 0, Nat.le_refl _, k3⟩
    rw [zyI_s k5, zB_slt, zyBn (by omega), zB_of] at h
    have : zb 4294967295 = 2147483647 := by decide
    omega
  · rw [← zyElx 1 1 X H]
    have h9 : k = 0 ∨ k = 1 ∨ k = 2 ∨ k = 3 ∨ k = 4 ∨ k = 5 ∨ k = 6 ∨ k = 7 ∨ k = 8 := by omega
    rcases h9 with rfl | rfl | rfl | rfl | rfl | rfl | rfl | rfl | rfl
    · rw [zcL (u := 381245) hM zcD_r rfl (by decide) rfl rfl]
      decide +kernel
    · rw [zcL (u := 285044192) hM zcD_r rfl (by decide) rfl rfl]
      decide +kernel
    · rw [zcL (u := 36710510) hM zcD_r rfl (by decide) rfl rfl]
      decide +kernel
    · rw [zcL (u := 10506440) hM zcD_r rfl (by decide) rfl rfl]
      decide +kernel
    · rw [zcL (u := 307058) hM zcD_r rfl (by decide) rfl rfl]
      decide +kernel
    · rw [zcL (u := 380396) hM zcD_r rfl (by decide) rfl rfl]
      decide +kernel
    · rw [zcL (u := 131360) hM zcD_r rfl (by decide) rfl rfl]
      decide +kernel
    · rw [zcL (u := 8740067) hM zcD_r rfl (by decide) rfl rfl]
      decide +kernel
    · rw [zcL (u := 464134) hM zcD_r rfl (by decide) rfl rfl]
      decide +kernel
theorem whole_start {p : Program} {e : Env} {s : State} {m : MethodId} {below : List Frame} {meth : Method} {c : Code} (l : Launch) {b L : Nat} {xs : Nat → Int32} (hL : L ≤ 3072) (hcl : ∀ i, i < 277 → zyCo l zymc zyJc zyic i) (C0 : lw_At p s m meth c b L xs) : W p l e room_1 s m #[Value.ref b] below meth c s.heap [] 0 0 (lw_Z below #[Value.ref b] s) (entryFrame m ([Value.ref b] : List Value).toArray 4) := by
  obtain ⟨X, lsA, hLn, hb99, hH0, hC, hen, hR⟩ := zentry C0
  obtain ⟨-, -, -, -, -, -, hX, hbl, -, -⟩ := C0
  rw [hen]
  refine zrun (q := (1000, 0, 0)) (stop := zst18) zst18_no (n := 20000) hC (by rw [hLn]; exact zev18) hR (fun w pc ls st q m2 H locs lsB stA hs hR2 => ?_)
  obtain ⟨rfl, rfl, rfl, rfl, rfl, rfl⟩ := zst18_iff hs
  obtain ⟨-, hM, hlo, ⟨-, hsz, hwf, hls⟩, hst, -⟩ := hR2
  have e0 := zSt_n hst
  subst e0
  have hl : zLl X b (6 * 0) lsB := by
    refine ⟨hsz, hwf, fun q hq => ?_⟩
    simp only [List.mem_cons, List.not_mem_nil, or_false] at hq
    rcases hq with rfl | rfl | rfl | rfl
    · obtain ⟨w, h1, h2⟩ := hls 3 0 rfl (by decide)
      have e := zv_0 h2 (by decide)
      rw [e] at h1
      exact h1
    · obtain ⟨w, h1, h2⟩ := hls 2 595 rfl (by decide)
      have e := zv_3 h2 (by decide)
      rw [e] at h1
      exact h1
    · obtain ⟨w, h1, h2⟩ := hls 1 3 rfl (by decide)
      have e := zv_3 h2 (by decide)
      rw [e] at h1
      exact h1
    · obtain ⟨w, h1, h2⟩ := hls 0 799995 rfl (by decide)
      have e := zv_3 h2 (by decide)
      rw [e, show 799995 / 8 = 99999 by decide, hb99] at h1
      exact h1
  exact zl_loop hC ⟨hX, by rw [hC.2.2.2.2.2.2.2]; exact hbl, hH0, hL⟩ hcl (zylwOK hcl) (L / 6 + 1) 0 0 H locs lsB (by omega) (by omega) (by decide) (zl_begin hM) hl hlo
