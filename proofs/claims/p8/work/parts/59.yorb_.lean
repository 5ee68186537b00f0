section
/-! ORBITS: a map of slots that takes different ones to different ones comes back -/
def zyit (f : Nat → Nat) : Nat → Nat → Nat
  | 0, s => s
  | k + 1, s => f (zyit f k s)
theorem zyit_s (f : Nat → Nat) : ∀ (k s : Nat), zyit f k (f s) = zyit f (k + 1) s := by
  intro k
  induction k with
  | zero => intro s; rfl
  | succ k ih =>
    intro s
    show f (zyit f k (f s)) = f (zyit f (k + 1) s)
    rw [ih]
theorem zyit_add (f : Nat → Nat) (s : Nat) : ∀ (i d : Nat), zyit f (i + d) s = zyit f i (zyit f d s) := by
  intro i
  induction i with
  | zero => intro d; rw [Nat.zero_add]; rfl
  | succ i ih =>
    intro d
    rw [show i + 1 + d = (i + d) + 1 by omega]
    show f (zyit f (i + d) s) = f (zyit f i (zyit f d s))
    rw [ih]
theorem zypig : ∀ (n : Nat) (g : Nat → Nat), (∀ i, i ≤ n → g i < n) → ∃ i j, i < j ∧ j ≤ n ∧ g i = g j := by
  intro n
  induction n with
  | zero => intro g h; exact absurd (h 0 (Nat.le_refl 0)) (Nat.not_lt_zero _)
  | succ n ih =>
    intro g h
    by_cases hv : ∃ i, i ≤ n ∧ g i = g (n + 1)
    · obtain ⟨i, h1, h2⟩ := hv
      exact ⟨i, n + 1, by omega, Nat.le_refl _, h2⟩
    · have hne : ∀ i, i ≤ n → ¬ g i = g (n + 1) := fun i hi q => hv ⟨i, hi, q⟩
      obtain ⟨i, j, h1, h2, h3⟩ := ih (fun i => if g i = n then g (n + 1) else g i) (fun i hi => by
        have a1 := h i (by omega)
        have a2 := h (n + 1) (Nat.le_refl _)
        have a3 := hne i hi
        split
        · omega
        · omega)
      refine ⟨i, j, h1, by omega, ?_⟩
      have b1 := hne i (by omega)
      have b2 := hne j h2
      by_cases c1 : g i = n
      · rw [if_pos c1] at h3
        by_cases c2 : g j = n
        · rw [c1, c2]
        · rw [if_neg c2] at h3
          exact absurd h3.symm b2
      · rw [if_neg c1] at h3
        by_cases c2 : g j = n
        · rw [if_pos c2] at h3
          exact absurd h3 b1
        · rw [if_neg c2] at h3
          exact h3
theorem zyit_lt {n : Nat} {f : Nat → Nat} (hlt : ∀ s, s < n → f s < n) {s : Nat} (hs : s < n) : ∀ k, zyit f k s < n := by
  intro k
  induction k with
  | zero => exact hs
  | succ k ih => exact hlt _ ih
theorem zyit_inj {n : Nat} {f : Nat → Nat} (hlt : ∀ s, s < n → f s < n) (hinj : ∀ a b, a < n → b < n → f a = f b → a = b) {a b : Nat} (ha : a < n) (hb : b < n) : ∀ k, zyit f k a = zyit f k b → a = b := by
  intro k
  induction k with
  | zero => intro h; exact h
  | succ k ih => intro h; exact ih (hinj _ _ (zyit_lt hlt ha k) (zyit_lt hlt hb k) h)
theorem zyorbit {n : Nat} {f : Nat → Nat} (hlt : ∀ s, s < n → f s < n) (hinj : ∀ a b, a < n → b < n → f a = f b → a = b) {s : Nat} (hs : s < n) : ∃ m, 1 ≤ m ∧ m ≤ n ∧ zyit f m s = s := by
  obtain ⟨i, j, h1, h2, h3⟩ := zypig n (fun k => zyit f k s) (fun i _ => zyit_lt hlt hs i)
  refine ⟨j - i, by omega, by omega, ?_⟩
  have e : zyit f j s = zyit f i (zyit f (j - i) s) := by
    rw [← zyit_add]
    congr 1
    omega
  rw [e] at h3
  exact (zyit_inj hlt hinj hs (zyit_lt hlt hs (j - i)) i h3).symm
/-- the first of so many that is so -/
def zylst (p : Nat → Bool) : Nat → Nat
  | 0 => 0
  | n + 1 => if zylst p n < n then zylst p n else if p n = true then n else n + 1
theorem zylst_le (p : Nat → Bool) : ∀ n, zylst p n ≤ n := by
  intro n
  induction n with
  | zero => exact Nat.le_refl 0
  | succ n ih =>
    show (if zylst p n < n then zylst p n else if p n = true then n else n + 1) ≤ n + 1
    split
    · omega
    · split <;> omega
theorem zylst_ok {p : Nat → Bool} : ∀ {n d : Nat}, d < n → p d = true → p (zylst p n) = true ∧ zylst p n ≤ d := by
  intro n
  induction n with
  | zero => intro d h; omega
  | succ n ih =>
    intro d hd hp
    show p (if zylst p n < n then zylst p n else if p n = true then n else n + 1) = true ∧ (if zylst p n < n then zylst p n else if p n = true then n else n + 1) ≤ d
    by_cases e : d < n
    · obtain ⟨i1, i2⟩ := ih e hp
      rw [if_pos (by omega)]
      exact ⟨i1, i2⟩
    · have ed : d = n := by omega
      subst ed
      by_cases c : zylst p d < d
      · rw [if_pos c]
        have hlt : ∀ n, zylst p n < n → p (zylst p n) = true := by
          intro n
          induction n with
          | zero => intro h; omega
          | succ n ih2 =>
            intro h
            have e2 : zylst p (n + 1) = if zylst p n < n then zylst p n else if p n = true then n else n + 1 := rfl
            rw [e2] at h ⊢
            by_cases c2 : zylst p n < n
            · rw [if_pos c2]; exact ih2 c2
            · rw [if_neg c2] at h ⊢
              by_cases c3 : p n = true
              · rw [if_pos c3]; exact c3
              · rw [if_neg c3] at h; omega
        exact ⟨hlt d c, by omega⟩
      · rw [if_neg c, if_pos hp]
        exact ⟨hp, Nat.le_refl _⟩
/-- how far it is -/
def zydst (f : Nat → Nat) (s v : Nat) : Nat := zylst (fun d => Nat.beq (zyit f d v) s) 100
theorem zydst_of {f : Nat → Nat} {s v d : Nat} (hd : d < 100) (h : zyit f d v = s) : zyit f (zydst f s v) v = s ∧ zydst f s v ≤ d := by
  obtain ⟨h1, h2⟩ := zylst_ok (p := fun d => Nat.beq (zyit f d v) s) hd (by rw [h]; exact Nat.beq_refl s)
  exact ⟨zbeqT h1, h2⟩
theorem zydst_step {f : Nat → Nat} {s v : Nat} (hv : ¬ v = s) (h : zyit f (zydst f s v) v = s) (hb : zydst f s v < 100) : zyit f (zydst f s (f v)) (f v) = s ∧ zydst f s (f v) + 1 ≤ zydst f s v := by
  cases hd : zydst f s v with
  | zero =>
    rw [hd] at h
    exact absurd h hv
  | succ k =>
    rw [hd, ← zyit_s] at h
    obtain ⟨h1, h2⟩ := zydst_of (v := f v) (d := k) (by omega) h
    exact ⟨h1, by omega⟩
end
section
/-! THE REFERENCE: lengthOf -/
noncomputable def zyκll (r c : Nat) : zyKt := (10, 5, [595, zysym 1, zysym 2, zysym 3, zysym 4], [(0, 4294967295), (2147483648, Nat.add 2147483647 (zgNS r c)), (0, 4294967295), (2147483649, 2147483728), (2147483648, Nat.add 2147483647 (zgNS r c))], [], [])
noncomputable def zyCl1 (r c : Nat) : Nat → List zyCt := fun y => zif (Nat.beq y 216) [([595, zyS r c, 34359738362], [], [zyS r c, 7], 13, [], [])] []
theorem zyCl1_ok {l : Launch} {J : zyJt} (hJ : zyJr J) {r c : Nat} (h1 : 1 ≤ r) (h2 : r ≤ 4) (h3 : 1 ≤ c) (h4 : c ≤ 5) : ∀ y2 ct en2 me2, ct ∈ zyCl1 r c y2 → zG zxMeta y2 = some en2 → zG zMeth y2 = some me2 → zyCon l (zymr r c) J en2 me2 ct := by
  intro y2 ct en2 me2 hct hen hme
  unfold zyCl1 at hct
  by_cases e0 : y2 = 216
  · subst e0
    have hct : ct ∈ [([595, zyS r c, 34359738362], [], [zyS r c, 7], 13, [], [])] := hct
    rw [List.mem_singleton.mp hct]
    exact zyrounded hJ h1 h2 h3 h4 hen hme
  rw [zybeq_ne e0, zif_f] at hct
  cases hct
noncomputable def zystl (r c : Nat) (κ : zyKt) : zyK := fun w _ _ pc ls st _ fs m => List.rec (motive := fun _ => Bool) (List.rec (motive := fun _ => Bool) (zand (Nat.beq pc 10) (zand (zand (Nat.beq (zyag ls 1) (zysym 1)) (Nat.beq (zyag ls 2) (zysym 2))) (zif (Nat.beq κ.1 0) (zand (zyincl (zyP2 r c (zyCl1 r c)) 5 w ls m.1 (zyκll r c)) (zand (Nat.beq (zyag ls 3) 8) (zqop 1007 (zysym 1) (zysym 2) (fun v => zand (zyk1b v) (Nat.beq v (zyag ls 4))) m.2)))
  (zand (zand (zqeq w m.2 (zysym 4) (zysym 1) false true) (Nat.beq (zyag ls 3) (Nat.add (zysym 3) (Nat.mul 8 1)))) (zand (zqop 1007 (zysym 4) (zysym 2) (fun v => zand (zyk1b v) (Nat.beq v (zyag ls 4))) m.2) (zcut w (zyag ls 3) 2147483649 2147483728 (fun w3 => zyincl (zyP2 r c (zyCl1 r c)) 5 w3 ls m.1 (zyκll r c)))))))) (fun _ _ _ => false) st) (fun _ _ _ => false) fs
noncomputable def zybtl (κ : zyKt) : zW → List Nat → zyM → Bool := fun _ v _ => zand (Nat.beq κ.1 10) (zylb v [zysym 3])
noncomputable def zyrunl (r c : Nat) (κ : zyKt) : Bool := zyok (fun w v m => zand (zyfitM w (zymr r c) m.1) (zand (zypre w (zymr r c) m.1 []) (zybtl κ w v m))) (zyP2 r c (zyCl1 r c)) (zystl r c κ) 200000 (5, κ.2.2.2.1) zxi217 (217, 0, 0, 1, 0) κ.1 κ.2.2.1 [] (14, 0, 0) [] ([], [])
theorem zyrunl_all : zyAllP (fun r c => zand (zand (zywf 5 (zyκre r c)) (zywf 5 (zyκll r c))) (zand (zyrunl r c (zyκre r c)) (zand (zyrunl r c (zyκll r c)) (zpad 5 (zexp [595, zyS r c, 34359738362]) (fun l2 => zyincl (zyP2 r c (zyCl1 r c)) 5 (0, []) l2 [] (zyκre r c)))))) = true := by decide +kernel
theorem zystl_iff {r c : Nat} {κ : zyKt} {w : zW} {cf : Nat → zT} {y : zY} {pc : Nat} {ls st : List Nat} {q : zQ} {m : zyM} (h : zystl r c κ w cf y pc ls st q [] m = true) : st = [] ∧ pc = 10 ∧ zyag ls 1 = zysym 1 ∧ zyag ls 2 = zysym 2 ∧ ((κ.1 = 0 ∧ zyincl (zyP2 r c (zyCl1 r c)) 5 w ls m.1 (zyκll r c) = true ∧ zyag ls 3 = 8 ∧ zqop 1007 (zysym 1) (zysym 2) (fun v => zand (zyk1b v) (Nat.beq v (zyag ls 4))) m.2 = true) ∨
    (¬ κ.1 = 0 ∧ zqeq w m.2 (zysym 4) (zysym 1) false true = true ∧ zyag ls 3 = Nat.add (zysym 3) (Nat.mul 8 1) ∧ zqop 1007 (zysym 4) (zysym 2) (fun v => zand (zyk1b v) (Nat.beq v (zyag ls 4))) m.2 = true ∧ zcut w (zyag ls 3) 2147483649 2147483728 (fun w3 => zyincl (zyP2 r c (zyCl1 r c)) 5 w3 ls m.1 (zyκll r c)) = true)) := by
  cases st with
  | cons a t => cases h
  | nil =>
    obtain ⟨h1, h⟩ := zand_iff (show zand (Nat.beq pc 10) _ = true from h)
    obtain ⟨h3, h⟩ := zand_iff h
    obtain ⟨h3, h3b⟩ := zand_iff h3
    refine ⟨rfl, zbeqT h1, zbeqT h3, zbeqT h3b, ?_⟩
    rcases zif_iff h with ⟨h4, h5⟩ | ⟨h4, h5⟩
    · obtain ⟨h6, h7⟩ := zand_iff h5
      obtain ⟨h7, h8⟩ := zand_iff h7
      exact Or.inl ⟨zbeqT h4, h6, zbeqT h7, h8⟩
    · obtain ⟨h6, h7⟩ := zand_iff h5
      obtain ⟨h6, h6b⟩ := zand_iff h6
      obtain ⟨h7, h8⟩ := zand_iff h7
      exact Or.inr ⟨zbeqF h4, h6, zbeqT h6b, h7, h8⟩
/-- rounds of slots -/
theorem zgR_map {E : zyEm} {r c : Nat} {y : Int32} (h1 : 1 ≤ r) (h2 : r ≤ 4) (h3 : 1 ≤ c) (h4 : c ≤ 5) (hr : zgr E = r) (hc : zgc E = c) : (∀ s, s < zgNS r c → zgR E s y < zgNS r c) ∧ (∀ a b, a < zgNS r c → b < zgNS r c → zgR E a y = zgR E b y → a = b) :=
  ⟨fun s hs => zgRk_lt h1 h2 h3 h4 hr hc hs _, fun a b ha hb h => zgRk_inj h1 h2 h3 h4 hr hc ha hb _ h⟩
theorem zylengthOf {l : Launch} {J : zyJt} (hJ : zyJr J) {r c : Nat} (h1 : 1 ≤ r) (h2 : r ≤ 4) (h3 : 1 ≤ c) (h4 : c ≤ 5) {en : zEn} {me : zMe} (hen : zG zxMeta 217 = some en) (hme : zG zMeth 217 = some me) : zyCon l (zymr r c) J en me ([595, zyS r c, 34359738362], [], [zyc 1 80], 14, [], []) := by
  have een : zG zxMeta 217 = some (zxi217, 3, 5, 11, 217, 0, 0, 1, 0) := rfl
  obtain ⟨me1, hme1, hOK⟩ := zall hen
  rw [hme] at hme1
  cases hme1
  rw [een] at hen
  cases hen
  have hrc := zyrc20 h2 h4
  have hNS := zgNS_le h2 h4
  obtain ⟨hw, hr⟩ := zand_iff (zyAllP_iff zyrunl_all h1 h2 h3 h4)
  obtain ⟨q1, hr⟩ := zand_iff hr
  obtain ⟨q2, q3⟩ := zand_iff hr
  have hK : ∀ κ, κ ∈ [zyκre r c, zyκll r c] → κ = zyκre r c ∨ κ = zyκll r c := fun κ hκ => by simpa using hκ
  refine zycutC (P := zyP2 r c (zyCl1 r c)) (J := J) (K := [zyκre r c, zyκll r c]) (κ0 := zyκre r c) (n := 200000) (bt := zybtl) (stp := zystl r c) hOK (zyCl1_ok hJ h1 h2 h3 h4) hJ.1 rfl rfl List.mem_cons_self rfl ?_ (fun _ _ _ _ _ _ _ _ _ _ _ => rfl) ?_ q3 (fun _ _ h => h)
    (fun B AsV κ s ρ H => ∃ x y : Int32, ρ 1 = x ∧ ρ 2 = y ∧ x = Int32.ofNat (zyN1 x) ∧ zyN1 x < zgNS r c ∧ (κ = zyκre r c ∨ (κ = zyκll r c ∧ ∃ n v : Nat, ρ 3 = Int32.ofNat n ∧ ρ 4 = Int32.ofNat v ∧ v < zgNS r c ∧ 1 ≤ n ∧ zyit (fun q => zgR (zyres (zyEl (zymr r c) B s.heap)) q y) (zydst (fun q => zgR (zyres (zyEl (zymr r c) B s.heap)) q y) (zyN1 x) v) v = zyN1 x ∧ n + zydst (fun q => zgR (zyres (zyEl (zymr r c) B s.heap)) q y) (zyN1 x) v ≤ 80)))
    (fun B _ κ s ρ _ => if κ.1 = 0 then 1000 else zydst (fun q => zgR (zyres (zyEl (zymr r c) B s.heap)) q (ρ 2)) (zyN1 (ρ 1)) (zyN1 (ρ 4))) ?_ ?_ ?_
  · intro κ hκ
    rcases hK κ hκ with e | e
    · rw [e]; exact (zand_iff hw).1
    · rw [e]; exact (zand_iff hw).2
  · intro κ hκ
    rcases hK κ hκ with e | e
    · rw [e]; exact q1
    · rw [e]; exact q2
  · intro B AsV hA s lsA hKn hI hPk hlv
    obtain ⟨v0, t0, rfl, a1, hA1⟩ := zySt_c hA
    obtain ⟨v1, t1, rfl, a2, hA2⟩ := zySt_c hA1
    obtain ⟨v2, t2, rfl, a3, hA3⟩ := zySt_c hA2
    have e0 : v0 = .ref (zad B 74) := zyv_3 (v := 595) a1 (by decide)
    subst e0
    obtain ⟨x, rfl⟩ := zyv_int a2 (by rw [zyS_def]; omega)
    obtain ⟨y, rfl⟩ := zyv_int a3 (by decide)
    obtain ⟨ex, hx⟩ := zyS_iff hrc a2
    exact ⟨x, y, zyrho_l (show 1 < 5 by decide) (zyarg1 hlv), zyrho_l (show 2 < 5 by decide) (zyarg2 hlv), ex, hx, Or.inl rfl⟩
  · intro B AsV hA κ hκ s ρ H hPk hI hInv ρ2 N2 w pc ls st q m H2 locs2 lsB stA hs hag hR
    obtain ⟨x, y, r1, r2, ex, hxs, hInv⟩ := hInv
    obtain ⟨est, hpc, l1, l2, hcase⟩ := zystl_iff hs
    obtain ⟨rr, cc⟩ := zyrc (show r < 2147483648 by omega) (show c < 2147483648 by omega) hI
    obtain ⟨mlt, minj⟩ := zgR_map (y := y) h1 h2 h3 h4 (zgr_res.1.trans rr) (zgr_res.2.trans cc)
    have hκ1 : κ.2.1 = 5 := by
      rcases hK κ hκ with e | e <;> rw [e] <;> rfl
    have hN : 5 ≤ N2 := by
      have := hR.1.2.2.1.1
      rw [← hκ1]
      exact this
    have hLs := hR.2.2.2.1
    have hsv : ∀ i, i < 5 → zyV (B, ρ2, N2, ρ, κ.2.1, (zyEl (zymr r c) B s.heap, fun q => s.heap[q]?), J) (zysym i) (.int (ρ i)) := by
      intro i hi
      rw [← hag i (by omega)]
      exact zysym_v (X := (B, ρ2, N2, ρ, κ.2.1, (zyEl (zymr r c) B s.heap, fun q => s.heap[q]?), J)) (show i < N2 by omega)
    have hr1 : zyrho (zyP2 r c (zyCl1 r c)).1 B H2 ((zxi217, 3, 5, 11, 217, 0, 0, 1, 0) : zEn).2.2.1 lsB (zyκll r c).2.2.2.2.1 1 = x := zyrho_ag hLs (by decide) (by rw [l1]; exact zysym_k 1) (by rw [l1, ← r1]; exact hsv 1 (by decide))
    have hr2 : zyrho (zyP2 r c (zyCl1 r c)).1 B H2 ((zxi217, 3, 5, 11, 217, 0, 0, 1, 0) : zEn).2.2.1 lsB (zyκll r c).2.2.2.2.1 2 = y := zyrho_ag hLs (by decide) (by rw [l2]; exact zysym_k 2) (by rw [l2, ← r2]; exact hsv 2 (by decide))
    have call : ∀ (a : Nat) (av : Int32), a % 8 ≤ 1 → zyV (B, ρ2, N2, ρ, κ.2.1, (zyEl (zymr r c) B s.heap, fun q => s.heap[q]?), J) a (.int av) → zqop 1007 a (zysym 2) (fun v => zand (zyk1b v) (Nat.beq v (zyag ls 4))) m.2 = true → zyrho (zyP2 r c (zyCl1 r c)).1 B H2 ((zxi217, 3, 5, 11, 217, 0, 0, 1, 0) : zEn).2.2.1 lsB (zyκll r c).2.2.2.2.1 4 = Int32.ofNat (zgR (zyres (zyEl (zymr r c) B s.heap)) (zyN1 av) y) := by
      intro a av ka hav hq
      obtain ⟨mv, x5, y5, z5, c1, c2, c3, hrel5, hq⟩ := zqfn_iff (id := 7) hR.1.2.2.2 hq
      obtain ⟨km, hq⟩ := zand_iff hq
      have hq := zbeqT hq
      have hrel5 : zyRr 7 (zyEl (zymr r c) B s.heap) x5 y5 z5 := by rw [← hJ.2]; exact hrel5
      have hz5 := zyRr0_7 (zyRr_get (by decide) hrel5)
      have g1 := zyv_one ka hav c1
      have g2 := zyv_one (zysym_k 2) (hsv 2 (by decide)) c2
      rw [← g1, ← g2, r2] at hz5
      rw [← hz5]
      exact zyrho_ag hLs (by decide) (by rw [← hq]; exact zbleT km) (by rw [← hq]; exact c3)
    rcases hcase with ⟨hk0, hin, l3, hq⟩ | ⟨hk0, hne, l3, hq, hcut⟩
    · have e3 : zyrho (zyP2 r c (zyCl1 r c)).1 B H2 ((zxi217, 3, 5, 11, 217, 0, 0, 1, 0) : zEn).2.2.1 lsB (zyκll r c).2.2.2.2.1 3 = Int32.ofNat 1 := zyrho_ag hLs (by decide) (by rw [l3]; decide) (by rw [l3]; exact zyv_mk (u := 1) rfl)
      have e4 := call (zysym 1) x (zysym_k 1) (by rw [← r1]; exact hsv 1 (by decide)) hq
      obtain ⟨mm, m1, m2, m3⟩ := zyorbit mlt minj hxs
      obtain ⟨k, rfl⟩ : ∃ k, mm = k + 1 := ⟨mm - 1, by omega⟩
      rw [← zyit_s] at m3
      obtain ⟨d1, d2⟩ := zydst_of (by omega) m3
      have hlt := mlt _ hxs
      refine ⟨zyκll r c, by simp, est, hpc, ⟨w, rfl, hR.1.1, hin⟩, ⟨x, y, hr1, hr2, ex, hxs, Or.inr ⟨rfl, 1, _, e3, e4, hlt, by decide, d1, by omega⟩⟩, ?_⟩
      rw [if_pos hk0, if_neg (show ¬ (zyκll r c).1 = 0 from fun q => by cases q)]
      have := zylst_le (fun d => Nat.beq (zyit (fun q => zgR (zyres (zyEl (zymr r c) B s.heap)) q (zyrho (zyP2 r c (zyCl1 r c)).1 B H2 ((zxi217, 3, 5, 11, 217, 0, 0, 1, 0) : zEn).2.2.1 lsB (zyκll r c).2.2.2.2.1 2)) d (zyN1 (zyrho (zyP2 r c (zyCl1 r c)).1 B H2 ((zxi217, 3, 5, 11, 217, 0, 0, 1, 0) : zEn).2.2.1 lsB (zyκll r c).2.2.2.2.1 4))) (zyN1 (zyrho (zyP2 r c (zyCl1 r c)).1 B H2 ((zxi217, 3, 5, 11, 217, 0, 0, 1, 0) : zEn).2.2.1 lsB (zyκll r c).2.2.2.2.1 1))) 100
      exact Nat.lt_of_le_of_lt this (by decide)
    · rcases hInv with e | ⟨eκ, n, v, hn3, hv4, hvs, hn1, hit, hsum⟩
      · rw [e] at hk0; exact absurd rfl hk0
      have hne2 : ¬ v = zyN1 x := by
        intro q
        rcases zqeq_iff hR.1.1 hR.1.2.2.2 (zysym_k 4) (zysym_k 1) (hsv 4 (by decide)) (hsv 1 (by decide)) hne with ⟨-, g⟩ | ⟨g, -⟩
        · cases g
        · apply g
          rw [hv4, r1, q]
          exact ex.symm
      have e4 := call (zysym 4) (ρ 4) (zysym_k 4) (hsv 4 (by decide)) hq
      rw [hv4, zyN1_of (by omega)] at e4
      obtain ⟨d1, d2⟩ := zydst_step (f := fun q => zgR (zyres (zyEl (zymr r c) B s.heap)) q y) hne2 hit (by omega)
      have hp : zyV (B, ρ2, N2, ρ, κ.2.1, (zyEl (zymr r c) B s.heap, fun q => s.heap[q]?), J) (zyag ls 3) (.int (Int32.ofNat (n + 1))) := by
        have hp := zysym_p (X := (B, ρ2, N2, ρ, κ.2.1, (zyEl (zymr r c) B s.heap, fun q => s.heap[q]?), J)) (i := 3) (c := 1) (show 3 < N2 by omega) (by decide)
        have e9 : zyρ (B, ρ2, N2, ρ, κ.2.1, (zyEl (zymr r c) B s.heap, fun q => s.heap[q]?), J) 3 + Int32.ofNat 1 = Int32.ofNat (n + 1) := by
          show ρ2 3 + Int32.ofNat 1 = _
          rw [hag 3 (by omega), hn3, ← zyofA]
        rw [e9] at hp
        rw [l3]
        exact hp
      have e3 : zyrho (zyP2 r c (zyCl1 r c)).1 B H2 ((zxi217, 3, 5, 11, 217, 0, 0, 1, 0) : zEn).2.2.1 lsB (zyκll r c).2.2.2.2.1 3 = Int32.ofNat (n + 1) := zyrho_ag hLs (by decide) (by rw [l3]; exact zysym_pk) hp
      obtain ⟨w3, ew, hE3, hin⟩ := zycut_iff hcut hR.1.1 hp (by rw [zB_of4 (by omega)]; omega) (by rw [zB_of4 (by omega)]; omega)
      have hlt := mlt _ hvs
      refine ⟨zyκll r c, by simp, est, hpc, ⟨w3, ew, hE3, hin⟩, ⟨x, y, hr1, hr2, ex, hxs, Or.inr ⟨rfl, n + 1, _, e3, e4, hlt, by omega, d1, by omega⟩⟩, ?_⟩
      rw [if_neg hk0, if_neg (show ¬ (zyκll r c).1 = 0 from fun q => by cases q), hr1, hr2, e4, r1, r2, hv4, zyN1_of (by omega), zyN1_of (by omega)]
      exact d2
  · intro B AsV hA κ hκ s ρ H hPk hI hInv ρ2 w v m t vo hbt hag hE hF hM hvo
    obtain ⟨x, y, r1, r2, ex, hxs, hInv⟩ := hInv
    obtain ⟨c1, c2⟩ := zand_iff hbt
    have c1 := zbeqT c1
    have ev := zylb_iff c2
    subst ev
    rcases hInv with e | ⟨eκ, n, v, hn3, hv4, hvs, hn1, hit, hsum⟩
    · rw [e] at c1; cases c1
    have hκ1 : κ.2.1 = 5 := by rw [eκ]; rfl
    have hN : 5 ≤ w.1 := by have := hag.1; omega
    refine zyvr_of ?_
    cases vo with
    | none => exact hvo.elim
    | some z =>
      have hvo : zyV (B, ρ2, w.1, ρ, κ.2.1, (zyEl (zymr r c) B s.heap, fun q => s.heap[q]?), J) (zysym 3) z := hvo
      obtain ⟨z2, rfl⟩ := zyv_int hvo (by have := zysym_k 3; omega)
      have ez := zyv_one (zysym_k 3) (zysym_v (X := (B, ρ2, w.1, ρ, κ.2.1, (zyEl (zymr r c) B s.heap, fun q => s.heap[q]?), J)) (show 3 < w.1 by omega)) hvo
      have ez : ρ2 3 = z2 := ez
      rw [hag.2 3 (by omega), hn3] at ez
      rw [← ez]
      show zyv _ _ _ (8 * ((1 + 2147483648) * 4294967296 + (80 + 2147483648)) + 2) _
      exact zyv_bd (by rw [zB_of4 (by omega)]; omega) (by rw [zB_of4 (by omega)]; omega) (by decide)
end
section
/-! THE REFERENCE: leastOf -/
noncomputable def zyκqe (r c : Nat) : zyKt := (0, 4, [595, zysym 1, 13, 13], [(0, 4294967295), (2147483648, Nat.add 2147483647 (zgNS r c)), (0, 4294967295), (0, 4294967295)], [], [])
noncomputable def zyκql (r c : Nat) : zyKt := (9, 4, [595, zysym 1, zysym 2, zysym 3], [(0, 4294967295), (2147483648, Nat.add 2147483647 (zgNS r c)), (2147483648, Nat.add 2147483647 (zgNS r c)), (2147483648, Nat.add 2147483647 (zgNS r c))], [], [])
noncomputable def zystq (r c : Nat) (κ : zyKt) : zyK := fun w _ _ pc ls st _ fs m => List.rec (motive := fun _ => Bool) (List.rec (motive := fun _ => Bool) (zand (Nat.beq pc 9) (zand (zyincl (zyP2 r c (zyCl1 r c)) 4 w ls m.1 (zyκql r c)) (zand (Nat.beq (zyag ls 1) (zysym 1)) (zif (Nat.beq κ.1 0) (zqop 1007 (zysym 1) 0 (fun v => zand (zyk1b v) (Nat.beq v (zyag ls 3))) m.2)
  (zand (zqeq w m.2 (zysym 3) (zysym 1) false true) (zqop 1007 (zysym 3) 0 (fun v => zand (zyk1b v) (Nat.beq v (zyag ls 3))) m.2)))))) (fun _ _ _ => false) st) (fun _ _ _ => false) fs
noncomputable def zybtq (r c : Nat) (κ : zyKt) : zW → List Nat → zyM → Bool := fun w v _ => zand (Nat.beq κ.1 9) (zand (zylb v [zysym 2]) (zysub w (zysym 2) (zyS r c)))
noncomputable def zyrunq (r c : Nat) (κ : zyKt) : Bool := zyok (fun w v m => zand (zyfitM w (zymr r c) m.1) (zand (zypre w (zymr r c) m.1 []) (zybtq r c κ w v m))) (zyP2 r c (zyCl1 r c)) (zystq r c κ) 200000 (4, κ.2.2.2.1) zxi285 (285, 0, 0, 1, 0) κ.1 κ.2.2.1 [] (14, 0, 0) [] ([], [])
theorem zyrunq_all : zyAllP (fun r c => zand (zand (zywf 4 (zyκqe r c)) (zywf 4 (zyκql r c))) (zand (zyrunq r c (zyκqe r c)) (zand (zyrunq r c (zyκql r c)) (zpad 4 (zexp [595, zyS r c]) (fun l2 => zyincl (zyP2 r c (zyCl1 r c)) 4 (0, []) l2 [] (zyκqe r c)))))) = true := by decide +kernel
theorem zystq_iff {r c : Nat} {κ : zyKt} {w : zW} {cf : Nat → zT} {y : zY} {pc : Nat} {ls st : List Nat} {q : zQ} {m : zyM} (h : zystq r c κ w cf y pc ls st q [] m = true) : st = [] ∧ pc = 9 ∧ zyincl (zyP2 r c (zyCl1 r c)) 4 w ls m.1 (zyκql r c) = true ∧ zyag ls 1 = zysym 1 ∧ ((κ.1 = 0 ∧ zqop 1007 (zysym 1) 0 (fun v => zand (zyk1b v) (Nat.beq v (zyag ls 3))) m.2 = true) ∨
    (¬ κ.1 = 0 ∧ zqeq w m.2 (zysym 3) (zysym 1) false true = true ∧ zqop 1007 (zysym 3) 0 (fun v => zand (zyk1b v) (Nat.beq v (zyag ls 3))) m.2 = true)) := by
  cases st with
  | cons a t => cases h
  | nil =>
    obtain ⟨h1, h⟩ := zand_iff (show zand (Nat.beq pc 9) _ = true from h)
    obtain ⟨h2, h⟩ := zand_iff h
    obtain ⟨h3, h⟩ := zand_iff h
    refine ⟨rfl, zbeqT h1, h2, zbeqT h3, ?_⟩
    rcases zif_iff h with ⟨h4, h5⟩ | ⟨h4, h5⟩
    · exact Or.inl ⟨zbeqT h4, h5⟩
    · obtain ⟨h6, h7⟩ := zand_iff h5
      exact Or.inr ⟨zbeqF h4, h6, h7⟩
theorem zyleastOf {l : Launch} {J : zyJt} (hJ : zyJr J) {r c : Nat} (h1 : 1 ≤ r) (h2 : r ≤ 4) (h3 : 1 ≤ c) (h4 : c ≤ 5) {en : zEn} {me : zMe} (hen : zG zxMeta 285 = some en) (hme : zG zMeth 285 = some me) : zyCon l (zymr r c) J en me ([595, zyS r c], [], [zyS r c], 14, [], []) := by
  have een : zG zxMeta 285 = some (zxi285, 2, 4, 11, 285, 0, 0, 1, 0) := rfl
  obtain ⟨me1, hme1, hOK⟩ := zall hen
  rw [hme] at hme1
  cases hme1
  rw [een] at hen
  cases hen
  have hrc := zyrc20 h2 h4
  have hNS := zgNS_le h2 h4
  obtain ⟨hw, hr⟩ := zand_iff (zyAllP_iff zyrunq_all h1 h2 h3 h4)
  obtain ⟨q1, hr⟩ := zand_iff hr
  obtain ⟨q2, q3⟩ := zand_iff hr
  have hK : ∀ κ, κ ∈ [zyκqe r c, zyκql r c] → κ = zyκqe r c ∨ κ = zyκql r c := fun κ hκ => by simpa using hκ
  refine zycutC (P := zyP2 r c (zyCl1 r c)) (J := J) (K := [zyκqe r c, zyκql r c]) (κ0 := zyκqe r c) (n := 200000) (bt := zybtq r c) (stp := zystq r c) hOK (zyCl1_ok hJ h1 h2 h3 h4) hJ.1 rfl rfl List.mem_cons_self rfl ?_ (fun _ _ _ _ _ _ _ _ _ _ _ => rfl) ?_ q3 (fun _ _ h => h)
    (fun B AsV κ s ρ H => ∃ x : Int32, ρ 1 = x ∧ x = Int32.ofNat (zyN1 x) ∧ zyN1 x < zgNS r c ∧ (κ = zyκqe r c ∨ (κ = zyκql r c ∧ ∃ v : Nat, ρ 3 = Int32.ofNat v ∧ v < zgNS r c ∧ zyit (fun q => zgR (zyres (zyEl (zymr r c) B s.heap)) q 0) (zydst (fun q => zgR (zyres (zyEl (zymr r c) B s.heap)) q 0) (zyN1 x) v) v = zyN1 x ∧ zydst (fun q => zgR (zyres (zyEl (zymr r c) B s.heap)) q 0) (zyN1 x) v ≤ 80)))
    (fun B _ κ s ρ _ => if κ.1 = 0 then 1000 else zydst (fun q => zgR (zyres (zyEl (zymr r c) B s.heap)) q 0) (zyN1 (ρ 1)) (zyN1 (ρ 3))) ?_ ?_ ?_
  · intro κ hκ
    rcases hK κ hκ with e | e
    · rw [e]; exact (zand_iff hw).1
    · rw [e]; exact (zand_iff hw).2
  · intro κ hκ
    rcases hK κ hκ with e | e
    · rw [e]; exact q1
    · rw [e]; exact q2
  · intro B AsV hA s lsA hKn hI hPk hlv
    obtain ⟨v0, t0, rfl, a1, hA1⟩ := zySt_c hA
    obtain ⟨v1, t1, rfl, a2, hA2⟩ := zySt_c hA1
    have e0 : v0 = .ref (zad B 74) := zyv_3 (v := 595) a1 (by decide)
    subst e0
    obtain ⟨x, rfl⟩ := zyv_int a2 (by rw [zyS_def]; omega)
    obtain ⟨ex, hx⟩ := zyS_iff hrc a2
    exact ⟨x, zyrho_l (show 1 < 4 by decide) (zyarg1 hlv), ex, hx, Or.inl rfl⟩
  · intro B AsV hA κ hκ s ρ H hPk hI hInv ρ2 N2 w pc ls st q m H2 locs2 lsB stA hs hag hR
    obtain ⟨x, r1, ex, hxs, hInv⟩ := hInv
    obtain ⟨est, hpc, hin, l1, hcase⟩ := zystq_iff hs
    obtain ⟨rr, cc⟩ := zyrc (show r < 2147483648 by omega) (show c < 2147483648 by omega) hI
    obtain ⟨mlt, minj⟩ := zgR_map (y := 0) h1 h2 h3 h4 (zgr_res.1.trans rr) (zgr_res.2.trans cc)
    have hκ1 : κ.2.1 = 4 := by
      rcases hK κ hκ with e | e <;> rw [e] <;> rfl
    have hN : 4 ≤ N2 := by
      have := hR.1.2.2.1.1
      rw [← hκ1]
      exact this
    have hLs := hR.2.2.2.1
    have hsv : ∀ i, i < 4 → zyV (B, ρ2, N2, ρ, κ.2.1, (zyEl (zymr r c) B s.heap, fun q => s.heap[q]?), J) (zysym i) (.int (ρ i)) := by
      intro i hi
      rw [← hag i (by omega)]
      exact zysym_v (X := (B, ρ2, N2, ρ, κ.2.1, (zyEl (zymr r c) B s.heap, fun q => s.heap[q]?), J)) (show i < N2 by omega)
    have hr1 : zyrho (zyP2 r c (zyCl1 r c)).1 B H2 ((zxi285, 2, 4, 11, 285, 0, 0, 1, 0) : zEn).2.2.1 lsB (zyκql r c).2.2.2.2.1 1 = x := zyrho_ag hLs (by decide) (by rw [l1]; exact zysym_k 1) (by rw [l1, ← r1]; exact hsv 1 (by decide))
    have call : ∀ (a : Nat) (av : Int32), a % 8 ≤ 1 → zyV (B, ρ2, N2, ρ, κ.2.1, (zyEl (zymr r c) B s.heap, fun q => s.heap[q]?), J) a (.int av) → zqop 1007 a 0 (fun v => zand (zyk1b v) (Nat.beq v (zyag ls 3))) m.2 = true → zyrho (zyP2 r c (zyCl1 r c)).1 B H2 ((zxi285, 2, 4, 11, 285, 0, 0, 1, 0) : zEn).2.2.1 lsB (zyκql r c).2.2.2.2.1 3 = Int32.ofNat (zgR (zyres (zyEl (zymr r c) B s.heap)) (zyN1 av) 0) := by
      intro a av ka hav hq
      obtain ⟨mv, x5, y5, z5, c1, c2, c3, hrel5, hq⟩ := zqfn_iff (id := 7) hR.1.2.2.2 hq
      obtain ⟨km, hq⟩ := zand_iff hq
      have hq := zbeqT hq
      have hrel5 : zyRr 7 (zyEl (zymr r c) B s.heap) x5 y5 z5 := by rw [← hJ.2]; exact hrel5
      have hz5 := zyRr0_7 (zyRr_get (by decide) hrel5)
      have g1 := zyv_one ka hav c1
      have g2 : (0 : Int32) = y5 := zyv_one (v := 0) (by decide) zyv_zero c2
      rw [← g1, ← g2] at hz5
      rw [← hz5]
      exact zyrho_ag hLs (by decide) (by rw [← hq]; exact zbleT km) (by rw [← hq]; exact c3)
    rcases hcase with ⟨hk0, hq⟩ | ⟨hk0, hne, hq⟩
    · have e4 := call (zysym 1) x (zysym_k 1) (by rw [← r1]; exact hsv 1 (by decide)) hq
      obtain ⟨mm, m1, m2, m3⟩ := zyorbit mlt minj hxs
      obtain ⟨k, rfl⟩ : ∃ k, mm = k + 1 := ⟨mm - 1, by omega⟩
      rw [← zyit_s] at m3
      obtain ⟨d1, d2⟩ := zydst_of (by omega) m3
      have hlt := mlt _ hxs
      refine ⟨zyκql r c, by simp, est, hpc, ⟨w, rfl, hR.1.1, hin⟩, ⟨x, hr1, ex, hxs, Or.inr ⟨rfl, _, e4, hlt, d1, by omega⟩⟩, ?_⟩
      rw [if_pos hk0, if_neg (show ¬ (zyκql r c).1 = 0 from fun q => by cases q), hr1, e4, zyN1_of (by omega)]
      omega
    · rcases hInv with e | ⟨eκ, v, hv4, hvs, hit, hsum⟩
      · rw [e] at hk0; exact absurd rfl hk0
      have hne2 : ¬ v = zyN1 x := by
        intro q
        rcases zqeq_iff hR.1.1 hR.1.2.2.2 (zysym_k 3) (zysym_k 1) (hsv 3 (by decide)) (hsv 1 (by decide)) hne with ⟨-, g⟩ | ⟨g, -⟩
        · cases g
        · apply g
          rw [hv4, r1, q]
          exact ex.symm
      have e4 := call (zysym 3) (ρ 3) (zysym_k 3) (hsv 3 (by decide)) hq
      rw [hv4, zyN1_of (by omega)] at e4
      obtain ⟨d1, d2⟩ := zydst_step (f := fun q => zgR (zyres (zyEl (zymr r c) B s.heap)) q 0) hne2 hit (by omega)
      have hlt := mlt _ hvs
      refine ⟨zyκql r c, by simp, est, hpc, ⟨w, rfl, hR.1.1, hin⟩, ⟨x, hr1, ex, hxs, Or.inr ⟨rfl, _, e4, hlt, d1, by omega⟩⟩, ?_⟩
      rw [if_neg hk0, if_neg (show ¬ (zyκql r c).1 = 0 from fun q => by cases q), hr1, e4, r1, hv4, zyN1_of (by omega), zyN1_of (by omega)]
      exact d2
  · intro B AsV hA κ hκ s ρ H hPk hI hInv ρ2 w v m t vo hbt hag hE hF hM hvo
    obtain ⟨x, r1, ex, hxs, hInv⟩ := hInv
    obtain ⟨c1, c2⟩ := zand_iff hbt
    obtain ⟨c2, c3⟩ := zand_iff c2
    have ev := zylb_iff c2
    subst ev
    refine zyvr_of ?_
    cases vo with
    | none => exact hvo.elim
    | some z =>
      have hvo : zyV (B, ρ2, w.1, ρ, κ.2.1, (zyEl (zymr r c) B s.heap, fun q => s.heap[q]?), J) (zysym 2) z := hvo
      exact (zysub_iff c3 hE hvo).2
end
section
/-! THE REFERENCE: switches come round with the period -/
theorem zyofP (n P : Nat) : Int32.ofNat n + Int32.ofNat P = Int32.ofNat (n + P) := (zyofA n P).symm
theorem zyremN {n : Nat} {L : Int32} (hn : n < 2147483648) (h1 : 1 ≤ zyN1 L) (h2 : zyN1 L ≤ 4) : Int32.ofNat n - Int32.ofNat n / L * L = Int32.ofNat (n % zyN1 L) := by
  have eL : L = Int32.ofNat (zyN1 L) := (zN_self L).symm
  have hd : zyN1 L = 1 ∨ zyN1 L = 2 ∨ zyN1 L = 3 ∨ zyN1 L = 4 := by omega
  rcases hd with e | e | e | e <;> rw [e] at eL <;> rw [e, eL]
  · exact pk_rem (a := n) (d := 1) (by omega) (by omega) (by omega)
  · exact pk_rem (a := n) (d := 2) (by omega) (by omega) (by omega)
  · exact pk_rem (a := n) (d := 3) (by omega) (by omega) (by omega)
  · exact pk_rem (a := n) (d := 4) (by omega) (by omega) (by omega)
theorem zgO_per {E : zyEm} {g n P : Nat} (h1 : 1 ≤ zyN1 (zyI E 75 (40 + min g 31))) (h2 : zyN1 (zyI E 75 (40 + min g 31)) ≤ 4) (hd : zyN1 (zyI E 75 (40 + min g 31)) ∣ P) (hn : n + P < 2147483648) : zgO E g (Int32.ofNat (n + P)) = zgO E g (Int32.ofNat n) := by
  unfold zgO
  rw [zyremN hn h1 h2, zyremN (show n < 2147483648 by omega) h1 h2]
  obtain ⟨q, hq⟩ := hd
  have e : (n + P) % zyN1 (zyI E 75 (40 + min g 31)) = n % zyN1 (zyI E 75 (40 + min g 31)) := by
    rw [hq, Nat.add_mul_mod_self_left]
  rw [e]
theorem zgM_per {E : zyEm} {r c s n P : Nat} (h1 : 1 ≤ r) (h2 : r ≤ 4) (h3 : 1 ≤ c) (h4 : c ≤ 5) (hr : zgr E = r) (hc : zgc E = c) (hs : s < zgNS r c) (hL : ∀ g, g < zgNG r c → 1 ≤ zyN1 (zyI E 75 (40 + g)) ∧ zyN1 (zyI E 75 (40 + g)) ≤ 4 ∧ zyN1 (zyI E 75 (40 + g)) ∣ P) (hn : n + P < 2147483648) : zgM E s (Int32.ofNat (n + P)) = zgM E s (Int32.ofNat n) := by
  have hT := (zgfacts h1 h2 h3 h4 hs).1
  unfold zgM zgV
  rw [hr, hc]
  rcases (zgfacts h1 h2 h3 h4 hT).2.2 with e | ⟨e, -⟩
  · rw [if_pos e, if_pos e]
  · have hNG := zgNG_le h2 h4
    obtain ⟨l1, l2, l3⟩ := hL _ e
    have em : min (zgG r c (zgT c s)) 31 = zgG r c (zgT c s) := by omega
    rw [zgO_per (by rw [em]; exact l1) (by rw [em]; exact l2) (by rw [em]; exact l3) hn]
theorem zgRk_add {E : zyEm} {s f0 a : Nat} : ∀ k, zgRk E (Int32.ofNat f0) s (a + k) = zgRk E (Int32.ofNat (f0 + a)) (zgRk E (Int32.ofNat f0) s a) k := by
  intro k
  induction k with
  | zero => rfl
  | succ k ih =>
    show zgM E (zgRk E (Int32.ofNat f0) s (a + k)) (Int32.ofNat f0 + Int32.ofNat (a + k)) = zgM E (zgRk E (Int32.ofNat (f0 + a)) (zgRk E (Int32.ofNat f0) s a) k) (Int32.ofNat (f0 + a) + Int32.ofNat k)
    rw [ih, zyofP, zyofP, show f0 + (a + k) = f0 + a + k by omega]
theorem zgRk_per {E : zyEm} {r c s f0 P : Nat} (h1 : 1 ≤ r) (h2 : r ≤ 4) (h3 : 1 ≤ c) (h4 : c ≤ 5) (hr : zgr E = r) (hc : zgc E = c) (hs : s < zgNS r c) (hL : ∀ g, g < zgNG r c → 1 ≤ zyN1 (zyI E 75 (40 + g)) ∧ zyN1 (zyI E 75 (40 + g)) ≤ 4 ∧ zyN1 (zyI E 75 (40 + g)) ∣ P) : ∀ k, f0 + P + k < 2147483648 → zgRk E (Int32.ofNat (f0 + P)) s k = zgRk E (Int32.ofNat f0) s k := by
  intro k
  induction k with
  | zero => intro _; rfl
  | succ k ih =>
    intro hk
    show zgM E (zgRk E (Int32.ofNat (f0 + P)) s k) (Int32.ofNat (f0 + P) + Int32.ofNat k) = zgM E (zgRk E (Int32.ofNat f0) s k) (Int32.ofNat f0 + Int32.ofNat k)
    rw [ih (by omega), zyofP, zyofP, show f0 + P + k = f0 + k + P by omega]
    exact zgM_per h1 h2 h3 h4 hr hc (zgRk_lt h1 h2 h3 h4 hr hc hs k) hL (by omega)
/-- so many rounds from a step on -/
theorem zgRk_rounds {E : zyEm} {r c s f0 : Nat} (h1 : 1 ≤ r) (h2 : r ≤ 4) (h3 : 1 ≤ c) (h4 : c ≤ 5) (hr : zgr E = r) (hc : zgc E = c) (hs : s < zgNS r c) (hL : ∀ g, g < zgNG r c → 1 ≤ zyN1 (zyI E 75 (40 + g)) ∧ zyN1 (zyI E 75 (40 + g)) ≤ 4 ∧ zyN1 (zyI E 75 (40 + g)) ∣ zgP E) : ∀ j, f0 + zgP E * (j + 1) < 2147483648 → zgRk E (Int32.ofNat f0) s (zgP E * j) = zyit (fun v => zgR E v (Int32.ofNat f0)) j s := by
  intro j
  induction j with
  | zero => intro _; rfl
  | succ j ih =>
    intro hj
    have e1 : zgP E * (j + 1 + 1) = zgP E * j + zgP E + zgP E := by rw [Nat.mul_succ, Nat.mul_succ]
    have e2 : zgP E * (j + 1) = zgP E * j + zgP E := Nat.mul_succ _ _
    rw [e1] at hj
    have ih := ih (by rw [e2]; omega)
    rw [e2, zgRk_add, ih]
    show zgRk E (Int32.ofNat (f0 + zgP E * j)) (zyit (fun v => zgR E v (Int32.ofNat f0)) j s) (zgP E) = zgRk E (Int32.ofNat f0) (zyit (fun v => zgR E v (Int32.ofNat f0)) j s) (zgP E)
    refine zgRk_per (P := zgP E * j) h1 h2 h3 h4 hr hc (zyit_lt (fun v hv => zgRk_lt h1 h2 h3 h4 hr hc hv _) hs j) (fun g hg => ?_) _ (by omega)
    obtain ⟨a1, a2, a3⟩ := hL g hg
    exact ⟨a1, a2, Nat.dvd_trans a3 (Nat.dvd_mul_right _ _)⟩
end
section
/-! FACTS by what came out -/
noncomputable def zqrs (g v : Nat) (k : Nat → Nat → Bool) (F : List zyF) : Bool := List.rec (motive := fun _ => Bool) false (fun f _ ih => zif (zand (Nat.beq f.1 g) (Nat.beq f.2.1 v)) (k f.2.2.1 f.2.2.2) ih) F
theorem zqrs_mem {g v : Nat} {k : Nat → Nat → Bool} : ∀ {F : List zyF}, zqrs g v k F = true → ∃ a b, (g, v, a, b) ∈ F ∧ k a b = true := by
  intro F
  induction F with
  | nil => intro h; cases h
  | cons f t ih =>
    intro h
    have h : zif (zand (Nat.beq f.1 g) (Nat.beq f.2.1 v)) (k f.2.2.1 f.2.2.2) (zqrs g v k t) = true := h
    rcases zif_iff h with ⟨h1, h2⟩ | ⟨-, h2⟩
    · obtain ⟨g1, g2⟩ := zand_iff h1
      have g1 := zbeqT g1
      have g2 := zbeqT g2
      obtain ⟨f0, f1, f2, f3⟩ := f
      dsimp only at g1 g2 h2
      subst g1
      subst g2
      exact ⟨f2, f3, List.mem_cons_self, h2⟩
    · obtain ⟨a, b, q1, q2⟩ := ih h2
      exact ⟨a, b, List.mem_cons_of_mem _ q1, q2⟩
theorem zqrs_fn {X : zyX} {id v : Nat} {k : Nat → Nat → Bool} {F : List zyF} (hF : ∀ f ∈ F, zyFm X f) (h : zqrs (1000 + id) v k F = true) : ∃ (a b : Nat) (x y z : Int32), zyV X a (.int x) ∧ zyV X b (.int y) ∧ zyV X v (.int z) ∧ (zyJ X).2 id (zyE X) x y z ∧ k a b = true := by
  obtain ⟨a, b, h1, h2⟩ := zqrs_mem h
  obtain ⟨x, y, z, q1, q2, q3, q4⟩ := zyFm_rel (hF _ h1)
  exact ⟨a, b, x, y, z, q2, q3, q1, q4, h2⟩
theorem zqrs_op {X : zyX} {g v : Nat} {k : Nat → Nat → Bool} {F : List zyF} (hF : ∀ f ∈ F, zyFm X f) (hg : g < 12) (h : zqrs g v k F = true) : ∃ (a b : Nat) (x y : Int32), zyV X a (.int x) ∧ zyV X b (.int y) ∧ zyV X v (.int (zyG g x y)) ∧ k a b = true := by
  obtain ⟨a, b, h1, h2⟩ := zqrs_mem h
  have hf := hF _ h1
  unfold zyFm at hf
  dsimp only at hf
  rw [if_neg (by omega), if_pos hg] at hf
  obtain ⟨x, y, z, q1, q2, q3, q4⟩ := hf
  exact ⟨a, b, x, y, q2, q3, by rw [← q4]; exact q1, h2⟩
end
section
/-! THE REFERENCE: meetsFrom -/
noncomputable def zyκme (r c : Nat) : zyKt := (0, 10, [595, zysym 1, zysym 2, zysym 3, 13, 13, 13, 13, 13, 13], [(0, 4294967295), (2147483648, Nat.add 2147483647 (zgNS r c)), (2147483648, Nat.add 2147483647 (zgNS r c)), (2147483648, 3221225472), (0, 4294967295), (0, 4294967295), (0, 4294967295), (0, 4294967295), (0, 4294967295), (0, 4294967295)], [], [])
noncomputable def zyκml (r c : Nat) : zyKt := (15, 10, [595, zysym 1, zysym 2, zysym 3, zysym 4, zysym 5, zysym 6, zysym 7, 13, 13], [(0, 4294967295), (2147483648, Nat.add 2147483647 (zgNS r c)), (2147483648, Nat.add 2147483647 (zgNS r c)), (2147483648, 3221225472), (2147483648, Nat.add 2147483647 (zgNS r c)), (2147483648, Nat.add 2147483647 (zgNS r c)), (2147483649, 2147483660), (2147483648, 2147563648), (0, 4294967295), (0, 4294967295)], [], [])
noncomputable def zyCme (r c : Nat) : Nat → List zyCt := fun y => zif (Nat.beq y 215) [([595], [], [zyc 1 12, 6], 12, [], [])] (zif (Nat.beq y 204) [([595, zyS r c], [], [zyS r c, 0], 2, [], [])] (zif (Nat.beq y 202) [([595, zyS r c], [], [zyGq r c, 1], 3, [], [])] (zif (Nat.beq y 203) [([595, zyS r c], [], [zyS1 r c, 2], 5, [], [])] (zif (Nat.beq y 211) [([595, zyS r c, 34359738362], [], [zyS r c, 4], 6, [], [])] []))))
noncomputable def zyPm (r c : Nat) : zyP := (zymr r c, zyCme r c, [(74, 24, 24)], zydr, 0)
noncomputable def zyma (w : zW) (F : List zyF) (v sa : Nat) : Bool := zand (zyk1b v) (zqrs 1004 v (fun x t => zand (zand (zyk1b x) (zyk1b t)) (zand (zqrs 1000 x (fun a _ => Nat.beq a sa) F) (zif (Nat.beq t (zysym 3)) (zqeq w F (zysym 7) 0 true false) (zqrs 1 t (fun a b => zand (Nat.beq a (zysym 3)) (Nat.beq b (zysym 7))) F)))) F)
noncomputable def zymg (w : zW) (F : List zyF) : Bool := zqeq w F (zysym 7) 0 true (zqop 5 (zysym 7) (zysym 6) (fun v => zand (zyk1b v) (zqeq w F v 0 (zqeq w F (zysym 4) (zysym 1) (zqeq w F (zysym 5) (zysym 2) false true) true) true)) F)
noncomputable def zystm (r c : Nat) (κ : zyKt) : zyK := fun w _ _ pc ls st _ fs m => List.rec (motive := fun _ => Bool) (List.rec (motive := fun _ => Bool) (zand (Nat.beq pc 15) (zand (zand (Nat.beq (zyag ls 1) (zysym 1)) (zand (Nat.beq (zyag ls 2) (zysym 2)) (Nat.beq (zyag ls 3) (zysym 3)))) (zif (Nat.beq κ.1 0) (zand (zyincl (zyPm r c) 10 w ls m.1 (zyκml r c)) (zand (zand (Nat.beq (zyag ls 4) (zysym 1)) (zand (Nat.beq (zyag ls 5) (zysym 2)) (Nat.beq (zyag ls 7) 0))) (zqop 1006 0 0 (fun v => zand (zyk1b v) (Nat.beq v (zyag ls 6))) m.2)))
  (zand (zand (Nat.beq (zyag ls 6) (zysym 6)) (Nat.beq (zyag ls 7) (Nat.add (zysym 7) (Nat.mul 8 1)))) (zand (zymg w m.2) (zand (zand (zyma w m.2 (zyag ls 4) (zysym 4)) (zyma w m.2 (zyag ls 5) (zysym 5))) (zcut w (zyag ls 7) 2147483648 2147563648 (fun w3 => zyincl (zyPm r c) 10 w3 ls m.1 (zyκml r c))))))))) (fun _ _ _ => false) st) (fun _ _ _ => false) fs
noncomputable def zybtm (κ : zyKt) : zW → List Nat → zyM → Bool := fun _ v _ => zand (Nat.beq κ.1 15) (zif (zylb v [zysym 7]) true (zylb v [34359738360]))
noncomputable def zyrunm (r c : Nat) (κ : zyKt) : Bool := zyok (fun w v m => zand (zyfitM w (zymr r c) m.1) (zand (zypre w (zymr r c) m.1 []) (zybtm κ w v m))) (zyPm r c) (zystm r c κ) 200000 (10, κ.2.2.2.1) zxi290 (290, 0, 0, 1, 0) κ.1 κ.2.2.1 [] (13, 0, 0) [] ([], [])
noncomputable def zyMA (r c : Nat) : List Nat := [595, zyS r c, zyS r c, zyc 0 1073741824]
theorem zyrunm_all : zyAllP (fun r c => zand (zand (zywf 10 (zyκme r c)) (zywf 10 (zyκml r c))) (zand (zyrunm r c (zyκme r c)) (zand (zyrunm r c (zyκml r c)) (zpad 10 (zexp (zyMA r c)) (fun l2 => zyincl (zyPm r c) 10 (0, []) l2 [] (zyκme r c)))))) = true := by decide +kernel
theorem zyCme_ok {l : Launch} {J : zyJt} (hJ : zyJr J) {r c : Nat} (h1 : 1 ≤ r) (h2 : r ≤ 4) (h3 : 1 ≤ c) (h4 : c ≤ 5) : ∀ y2 ct en2 me2, ct ∈ zyCme r c y2 → zG zxMeta y2 = some en2 → zG zMeth y2 = some me2 → zyCon l (zymr r c) J en2 me2 ct := by
  intro y2 ct en2 me2 hct hen hme
  unfold zyCme at hct
  by_cases e215 : y2 = 215
  · subst e215
    have hct : ct ∈ [([595], [], [zyc 1 12, 6], 12, [], [])] := hct
    rw [List.mem_singleton.mp hct]
    exact zyperiod hJ h1 h2 h3 h4 hen hme
  rw [zybeq_ne e215, zif_f] at hct
  by_cases e204 : y2 = 204
  · subst e204
    have hct : ct ∈ [([595, zyS r c], [], [zyS r c, 0], 2, [], [])] := hct
    rw [List.mem_singleton.mp hct]
    exact zyturned hJ h1 h2 h3 h4 hen hme
  rw [zybeq_ne e204, zif_f] at hct
  by_cases e202 : y2 = 202
  · subst e202
    have hct : ct ∈ [([595, zyS r c], [], [zyGq r c, 1], 3, [], [])] := hct
    rw [List.mem_singleton.mp hct]
    exact zygateAt hJ h1 h2 h3 h4 hen hme
  rw [zybeq_ne e202, zif_f] at hct
  by_cases e203 : y2 = 203
  · subst e203
    have hct : ct ∈ [([595, zyS r c], [], [zyS1 r c, 2], 5, [], [])] := hct
    rw [List.mem_singleton.mp hct]
    exact zyfacing hJ h1 h2 h3 h4 hen hme
  rw [zybeq_ne e203, zif_f] at hct
  by_cases e211 : y2 = 211
  · subst e211
    have hct : ct ∈ [([595, zyS r c, 34359738362], [], [zyS r c, 4], 6, [], [])] := hct
    rw [List.mem_singleton.mp hct]
    exact zyover hJ h1 h2 h3 h4 hen hme
  rw [zybeq_ne e211, zif_f] at hct
  cases hct
theorem zyma_iff {X : zyX} {w : zW} {F : List zyF} {v i : Nat} {s f k : Int32} (hE : zEnv (zyρ X) w.2) (hF : ∀ f ∈ F, zyFm X f) (hJ : (zyJ X).2 = zyRr) (h3 : zyV X (zysym 3) (.int f)) (h7 : zyV X (zysym 7) (.int k)) (hs : zyV X (zysym i) (.int s)) (h : zyma w F v (zysym i) = true) : v % 8 ≤ 1 ∧ ∃ z, zyV X v (.int z) ∧ z = Int32.ofNat (zgV (zyres (zyE X)) (zyN1 (Int32.ofNat (zgT (zgc (zyres (zyE X))) (zyN1 s)))) (f + k)) := by
  obtain ⟨kv, h⟩ := zand_iff h
  obtain ⟨a, b, x, y, z, q1, q2, q3, q4, h⟩ := zqrs_fn (id := 4) hF h
  obtain ⟨h1, h2⟩ := zand_iff h
  obtain ⟨ka, kb⟩ := zand_iff h1
  obtain ⟨h5, h4⟩ := zand_iff h2
  obtain ⟨a2, b2, x2, y2, z2, p1, p2, p3, p4, e⟩ := zqrs_fn (id := 0) hF h5
  have e := zbeqT e
  subst e
  rw [hJ] at q4 p4
  have g4 := zyRr0_4 (zyRr_get (by decide) q4)
  have g0 := zyRr0_0 (zyRr_get (by decide) p4)
  have ex := zyv_one (zbleT ka) p3 q1
  have es := zyv_one (zysym_k i) hs p1
  have ey : y = f + k := by
    rcases zif_iff h4 with ⟨t1, t2⟩ | ⟨-, t2⟩
    · have t1 := zbeqT t1
      subst t1
      have ey := zyv_one (zysym_k 3) h3 q2
      rcases zqeq_iff hE hF (zysym_k 7) (show 0 % 8 ≤ 1 by decide) h7 zyv_zero t2 with ⟨g, -⟩ | ⟨-, g⟩
      · rw [g, ← ey]
        exact (Int32.add_zero f).symm
      · cases g
    · obtain ⟨a3, b3, x3, y3, u1, u2, u3, e3⟩ := zqrs_op hF (by decide) t2
      obtain ⟨e3, e4⟩ := zand_iff e3
      have e3 := zbeqT e3
      have e4 := zbeqT e4
      subst e3
      subst e4
      have w1 := zyv_one (zysym_k 3) h3 u1
      have w2 := zyv_one (zysym_k 7) h7 u2
      have w3 := zyv_one (zbleT kb) u3 q2
      have w3 : x3 + y3 = y := w3
      rw [← w3, w1, w2]
  refine ⟨zbleT kv, z, q3, ?_⟩
  rw [g4, ← ex, g0, es, ey]
theorem zyit_mul {f : Nat → Nat} {m s : Nat} (h : zyit f m s = s) : ∀ j, zyit f (m * j) s = s := by
  intro j
  induction j with
  | zero => rfl
  | succ j ih => rw [Nat.mul_succ, zyit_add, h, ih]
noncomputable def zyMq : Nat := 8 * (2147483647 * 4294967296 + 2147563648) + 2
theorem zystm_iff {r c : Nat} {κ : zyKt} {w : zW} {cf : Nat → zT} {y : zY} {pc : Nat} {ls st : List Nat} {q : zQ} {m : zyM} (h : zystm r c κ w cf y pc ls st q [] m = true) : st = [] ∧ pc = 15 ∧ zyag ls 1 = zysym 1 ∧ zyag ls 2 = zysym 2 ∧ zyag ls 3 = zysym 3 ∧ ((κ.1 = 0 ∧ zyincl (zyPm r c) 10 w ls m.1 (zyκml r c) = true ∧ zyag ls 4 = zysym 1 ∧ zyag ls 5 = zysym 2 ∧ zyag ls 7 = 0 ∧ zqop 1006 0 0 (fun v => zand (zyk1b v) (Nat.beq v (zyag ls 6))) m.2 = true) ∨
    (¬ κ.1 = 0 ∧ zyag ls 6 = zysym 6 ∧ zyag ls 7 = Nat.add (zysym 7) (Nat.mul 8 1) ∧ zymg w m.2 = true ∧ zyma w m.2 (zyag ls 4) (zysym 4) = true ∧ zyma w m.2 (zyag ls 5) (zysym 5) = true ∧ zcut w (zyag ls 7) 2147483648 2147563648 (fun w3 => zyincl (zyPm r c) 10 w3 ls m.1 (zyκml r c)) = true)) := by
  cases st with
  | cons a t => cases h
  | nil =>
    obtain ⟨h1, h⟩ := zand_iff (show zand (Nat.beq pc 15) _ = true from h)
    obtain ⟨h3, h⟩ := zand_iff h
    obtain ⟨h3, h3b⟩ := zand_iff h3
    obtain ⟨h3b, h3c⟩ := zand_iff h3b
    refine ⟨rfl, zbeqT h1, zbeqT h3, zbeqT h3b, zbeqT h3c, ?_⟩
    rcases zif_iff h with ⟨h4, h5⟩ | ⟨h4, h5⟩
    · obtain ⟨h6, h7⟩ := zand_iff h5
      obtain ⟨h7, h8⟩ := zand_iff h7
      obtain ⟨h7, h9⟩ := zand_iff h7
      obtain ⟨h9, h10⟩ := zand_iff h9
      exact Or.inl ⟨zbeqT h4, h6, zbeqT h7, zbeqT h9, zbeqT h10, h8⟩
    · obtain ⟨h6, h7⟩ := zand_iff h5
      obtain ⟨h6, h6b⟩ := zand_iff h6
      obtain ⟨h7, h8⟩ := zand_iff h7
      obtain ⟨h8, h9⟩ := zand_iff h8
      obtain ⟨h8, h8b⟩ := zand_iff h8
      exact Or.inr ⟨zbeqF h4, zbeqT h6, zbeqT h6b, h7, h8, h8b, h9⟩
theorem zymeetsFrom {l : Launch} {J : zyJt} (hJ : zyJr J) {r c : Nat} (h1 : 1 ≤ r) (h2 : r ≤ 4) (h3 : 1 ≤ c) (h4 : c ≤ 5) {en : zEn} {me : zMe} (hen : zG zxMeta 290 = some en) (hme : zG zMeth 290 = some me) : zyCon l (zymr r c) J en me (zyMA r c, [(74, 24, 24)], [zyMq], 13, [], []) := by
  have een : zG zxMeta 290 = some (zxi290, 4, 10, 11, 290, 0, 0, 1, 0) := rfl
  obtain ⟨me1, hme1, hOK⟩ := zall hen
  rw [hme] at hme1
  cases hme1
  rw [een] at hen
  cases hen
  have hrc := zyrc20 h2 h4
  have hNS := zgNS_le h2 h4
  have hNG := zgNG_le h2 h4
  obtain ⟨hw, hr⟩ := zand_iff (zyAllP_iff zyrunm_all h1 h2 h3 h4)
  obtain ⟨q1, hr⟩ := zand_iff hr
  obtain ⟨q2, q3⟩ := zand_iff hr
  have hK : ∀ κ, κ ∈ [zyκme r c, zyκml r c] → κ = zyκme r c ∨ κ = zyκml r c := fun κ hκ => by simpa using hκ
  refine zycutC (P := zyPm r c) (J := J) (K := [zyκme r c, zyκml r c]) (κ0 := zyκme r c) (n := 200000) (bt := zybtm) (stp := zystm r c) hOK (zyCme_ok hJ h1 h2 h3 h4) hJ.1 rfl rfl List.mem_cons_self rfl ?_ (fun _ _ _ _ _ _ _ _ _ _ _ => rfl) ?_ q3 (fun _ _ h => h)
    (fun B AsV κ s ρ H => ∃ (x o : Int32) (f0 : Nat), ρ 1 = x ∧ ρ 2 = o ∧ ρ 3 = Int32.ofNat f0 ∧ f0 ≤ 1073741824 ∧ x = Int32.ofNat (zyN1 x) ∧ zyN1 x < zgNS r c ∧ o = Int32.ofNat (zyN1 o) ∧ zyN1 o < zgNS r c ∧ (κ = zyκme r c ∨ (κ = zyκml r c ∧ ∃ k K : Nat, ρ 7 = Int32.ofNat k ∧ k ≤ K ∧ K ≤ 76800 ∧ 1 ≤ K ∧ zgP (zyres (zyEl (zymr r c) B s.heap)) ∣ K ∧ zgRk (zyres (zyEl (zymr r c) B s.heap)) (Int32.ofNat f0) (zyN1 x) K = zyN1 x ∧ zgRk (zyres (zyEl (zymr r c) B s.heap)) (Int32.ofNat f0) (zyN1 o) K = zyN1 o ∧ ρ 6 = Int32.ofNat (zgP (zyres (zyEl (zymr r c) B s.heap))) ∧ ρ 4 = Int32.ofNat (zgRk (zyres (zyEl (zymr r c) B s.heap)) (Int32.ofNat f0) (zyN1 x) k) ∧ ρ 5 = Int32.ofNat (zgRk (zyres (zyEl (zymr r c) B s.heap)) (Int32.ofNat f0) (zyN1 o) k))))
    (fun _ _ κ _ ρ _ => if κ.1 = 0 then 5000000000 else 4294967295 - zB (ρ 7)) ?_ ?_ ?_
  · intro κ hκ
    rcases hK κ hκ with e | e
    · rw [e]; exact (zand_iff hw).1
    · rw [e]; exact (zand_iff hw).2
  · intro κ hκ
    rcases hK κ hκ with e | e
    · rw [e]; exact q1
    · rw [e]; exact q2
  · intro B AsV hA s lsA hKn hI hPk hlv
    obtain ⟨v0, t0, rfl, a1, hA1⟩ := zySt_c (show zySt _ (595 :: zyS r c :: zyS r c :: zyc 0 1073741824 :: []) _ from hA)
    obtain ⟨v1, t1, rfl, a2, hA2⟩ := zySt_c hA1
    obtain ⟨v2, t2, rfl, a3, hA3⟩ := zySt_c hA2
    obtain ⟨v3, t3, rfl, a4, hA4⟩ := zySt_c hA3
    have e0 : v0 = .ref (zad B 74) := zyv_3 (v := 595) a1 (by decide)
    subst e0
    obtain ⟨x, rfl⟩ := zyv_int a2 (by rw [zyS_def]; omega)
    obtain ⟨o, rfl⟩ := zyv_int a3 (by rw [zyS_def]; omega)
    have hz : zyc 0 1073741824 % 8 = 2 := rfl
    obtain ⟨f, rfl⟩ := zyv_int a4 (by omega)
    obtain ⟨ex, hx⟩ := zyS_iff hrc a2
    obtain ⟨eo, ho⟩ := zyS_iff hrc a3
    obtain ⟨f1, f2⟩ := zyc_iff (by decide) a4
    have hf := zyN1_lo (x := f) (by omega)
    have a5 : lsA[3]? = some (.val (.int f)) := hlv.2.2 (3, .int f) (List.mem_cons_of_mem _ (List.mem_cons_of_mem _ (List.mem_cons_of_mem _ List.mem_cons_self)))
    exact ⟨x, o, zyN1 f, zyrho_l (show 1 < 10 by decide) (zyarg1 hlv), zyrho_l (show 2 < 10 by decide) (zyarg2 hlv), (zyrho_l (show 3 < 10 by decide) a5).trans (zN_self f).symm, by omega, ex, hx, eo, ho, Or.inl rfl⟩
  · intro B AsV hA κ hκ s ρ H hPk hI hInv ρ2 N2 w pc ls st q m H2 locs2 lsB stA hs hag hR
    obtain ⟨x, o, f0, r1, r2, r3, hf0, ex, hxs, eo, hos, hInv⟩ := hInv
    obtain ⟨est, hpc, l1, l2, l3, hcase⟩ := zystm_iff hs
    obtain ⟨rr, cc⟩ := zyrc (show r < 2147483648 by omega) (show c < 2147483648 by omega) hI
    have rr := zgr_res.1.trans rr
    have cc := zgr_res.2.trans cc
    obtain ⟨p12a, p12b, p12c⟩ := zgP_12 h2 h4 hI
    have hκ1 : κ.2.1 = 10 := by
      rcases hK κ hκ with e | e <;> rw [e] <;> rfl
    have hN : 10 ≤ N2 := by
      have := hR.1.2.2.1.1
      rw [← hκ1]
      exact this
    have hLs := hR.2.2.2.1
    have hsv : ∀ i, i < 10 → zyV (B, ρ2, N2, ρ, κ.2.1, (zyEl (zymr r c) B s.heap, fun q => s.heap[q]?), J) (zysym i) (.int (ρ i)) := by
      intro i hi
      rw [← hag i (by omega)]
      exact zysym_v (X := (B, ρ2, N2, ρ, κ.2.1, (zyEl (zymr r c) B s.heap, fun q => s.heap[q]?), J)) (show i < N2 by omega)
    have hr1 : zyrho (zyPm r c).1 B H2 ((zxi290, 4, 10, 11, 290, 0, 0, 1, 0) : zEn).2.2.1 lsB (zyκml r c).2.2.2.2.1 1 = x := zyrho_ag hLs (by decide) (by rw [l1]; exact zysym_k 1) (by rw [l1, ← r1]; exact hsv 1 (by decide))
    have hr2 : zyrho (zyPm r c).1 B H2 ((zxi290, 4, 10, 11, 290, 0, 0, 1, 0) : zEn).2.2.1 lsB (zyκml r c).2.2.2.2.1 2 = o := zyrho_ag hLs (by decide) (by rw [l2]; exact zysym_k 2) (by rw [l2, ← r2]; exact hsv 2 (by decide))
    have hr3 : zyrho (zyPm r c).1 B H2 ((zxi290, 4, 10, 11, 290, 0, 0, 1, 0) : zEn).2.2.1 lsB (zyκml r c).2.2.2.2.1 3 = Int32.ofNat f0 := zyrho_ag hLs (by decide) (by rw [l3]; exact zysym_k 3) (by rw [l3, ← r3]; exact hsv 3 (by decide))
    rcases hcase with ⟨hk0, hin, l4, l5, l7, hq⟩ | ⟨hk0, l6, l7, hg, ha, hb, hcut⟩
    · have e4 : zyrho (zyPm r c).1 B H2 ((zxi290, 4, 10, 11, 290, 0, 0, 1, 0) : zEn).2.2.1 lsB (zyκml r c).2.2.2.2.1 4 = x := zyrho_ag hLs (by decide) (by rw [l4]; exact zysym_k 1) (by rw [l4, ← r1]; exact hsv 1 (by decide))
      have e5 : zyrho (zyPm r c).1 B H2 ((zxi290, 4, 10, 11, 290, 0, 0, 1, 0) : zEn).2.2.1 lsB (zyκml r c).2.2.2.2.1 5 = o := zyrho_ag hLs (by decide) (by rw [l5]; exact zysym_k 2) (by rw [l5, ← r2]; exact hsv 2 (by decide))
      have e7 : zyrho (zyPm r c).1 B H2 ((zxi290, 4, 10, 11, 290, 0, 0, 1, 0) : zEn).2.2.1 lsB (zyκml r c).2.2.2.2.1 7 = 0 := zyrho_ag hLs (by decide) (by rw [l7]; decide) (by rw [l7]; exact zyv_zero)
      obtain ⟨pv, x6, y6, z6, -, -, c3, hrel6, hq⟩ := zqfn_iff (id := 6) hR.1.2.2.2 hq
      obtain ⟨kp, hq⟩ := zand_iff hq
      have hq := zbeqT hq
      have hrel6 : zyRr 6 (zyEl (zymr r c) B s.heap) x6 y6 z6 := by rw [← hJ.2]; exact hrel6
      have hz6 := zyRr0_6 (zyRr_get (by decide) hrel6)
      have e6 : zyrho (zyPm r c).1 B H2 ((zxi290, 4, 10, 11, 290, 0, 0, 1, 0) : zEn).2.2.1 lsB (zyκml r c).2.2.2.2.1 6 = z6 := zyrho_ag hLs (by decide) (by rw [← hq]; exact zbleT kp) (by rw [← hq]; exact c3)
      obtain ⟨mlt, minj⟩ := zgR_map (y := Int32.ofNat f0) h1 h2 h3 h4 rr cc
      obtain ⟨ms, s1, s2, s3⟩ := zyorbit mlt minj hxs
      obtain ⟨mo, o1, o2, o3⟩ := zyorbit mlt minj hos
      have hms : ms * mo ≤ 80 * 80 := Nat.mul_le_mul (by omega) (by omega)
      have hms1 : 1 * 1 ≤ ms * mo := Nat.mul_le_mul s1 o1
      have hPK : zgP (zyres (zyEl (zymr r c) B s.heap)) * (ms * mo) ≤ 12 * 6400 := Nat.mul_le_mul p12b (by omega)
      have hPK1 : 1 * 1 ≤ zgP (zyres (zyEl (zymr r c) B s.heap)) * (ms * mo) := Nat.mul_le_mul p12a (by omega)
      have hL : ∀ g, g < zgNG r c → 1 ≤ zyN1 (zyI (zyres (zyEl (zymr r c) B s.heap)) 75 (40 + g)) ∧ zyN1 (zyI (zyres (zyEl (zymr r c) B s.heap)) 75 (40 + g)) ≤ 4 ∧ zyN1 (zyI (zyres (zyEl (zymr r c) B s.heap)) 75 (40 + g)) ∣ zgP (zyres (zyEl (zymr r c) B s.heap)) := by
        intro g hg
        obtain ⟨b1, b2⟩ := zylong hI (show g ≤ 30 by omega)
        exact ⟨b1, b2, p12c g hg⟩
      have hlim : f0 + zgP (zyres (zyEl (zymr r c) B s.heap)) * (ms * mo + 1) < 2147483648 := by
        rw [Nat.mul_succ]
        omega
      have k1 := (zgRk_rounds (f0 := f0) h1 h2 h3 h4 rr cc hxs hL (ms * mo) hlim).trans (zyit_mul s3 mo)
      have k3 : zyit (fun q => zgR (zyres (zyEl (zymr r c) B s.heap)) q (Int32.ofNat f0)) (ms * mo) (zyN1 o) = zyN1 o := by
        rw [Nat.mul_comm ms mo]
        exact zyit_mul o3 ms
      have k2 := (zgRk_rounds (f0 := f0) h1 h2 h3 h4 rr cc hos hL (ms * mo) hlim).trans k3
      refine ⟨zyκml r c, by simp, est, hpc, ⟨w, rfl, hR.1.1, hin⟩, ⟨x, o, f0, hr1, hr2, hr3, hf0, ex, hxs, eo, hos, Or.inr ⟨rfl, 0, zgP (zyres (zyEl (zymr r c) B s.heap)) * (ms * mo), e7, Nat.zero_le _, by omega, by omega, Nat.dvd_mul_right _ _, k1, k2, e6.trans hz6, e4.trans ex, e5.trans eo⟩⟩, ?_⟩
      rw [if_pos hk0, if_neg (show ¬ (zyκml r c).1 = 0 from fun q => by cases q)]
      omega
    · rcases hInv with e | ⟨eκ, k, K, i7, hkK, hK1, hK2, hPK, hKx, hKo, i6, i4, i5⟩
      · rw [e] at hk0; exact absurd rfl hk0
      have hlt : k < K := by
        rcases Nat.lt_or_ge k K with q | q
        · exact q
        exfalso
        have ekK : k = K := by omega
        rcases zqeq_iff hR.1.1 hR.1.2.2.2 (zysym_k 7) (show 0 % 8 ≤ 1 by decide) (hsv 7 (by decide)) zyv_zero hg with ⟨g, -⟩ | ⟨-, g⟩
        · rw [i7] at g
          have g2 := congrArg zyN1 g
          rw [zyN1_of (by omega), show zyN1 0 = 0 from rfl] at g2
          omega
        obtain ⟨v, xx, yy, t1, t2, t3, g⟩ := zqop_iff hR.1.2.2.2 (by decide) g
        obtain ⟨kv, g⟩ := zand_iff g
        have w1 := zyv_one (zysym_k 7) (hsv 7 (by decide)) t1
        have w2 := zyv_one (zysym_k 6) (hsv 6 (by decide)) t2
        have hrem : zyG 5 xx yy = 0 := by
          have e9 : zyG 5 xx yy = xx - xx / yy * yy := rfl
          have e10 : Int32.ofNat k - Int32.ofNat k / Int32.ofNat (zgP (zyres (zyEl (zymr r c) B s.heap))) * Int32.ofNat (zgP (zyres (zyEl (zymr r c) B s.heap))) = Int32.ofNat (k % zgP (zyres (zyEl (zymr r c) B s.heap))) := pk_rem (a := k) (d := zgP (zyres (zyEl (zymr r c) B s.heap))) (by omega) (by omega) (by omega)
          rw [e9, ← w1, ← w2, i7, i6, e10, ekK, Nat.mod_eq_zero_of_dvd hPK]
          rfl
        rcases zqeq_iff hR.1.1 hR.1.2.2.2 (zbleT kv) (show 0 % 8 ≤ 1 by decide) t3 zyv_zero g with ⟨-, g⟩ | ⟨g, -⟩
        · rcases zqeq_iff hR.1.1 hR.1.2.2.2 (zysym_k 4) (zysym_k 1) (hsv 4 (by decide)) (hsv 1 (by decide)) g with ⟨-, g⟩ | ⟨g, -⟩
          · rcases zqeq_iff hR.1.1 hR.1.2.2.2 (zysym_k 5) (zysym_k 2) (hsv 5 (by decide)) (hsv 2 (by decide)) g with ⟨-, g⟩ | ⟨g, -⟩
            · cases g
            · apply g
              rw [i5, r2, ekK, hKo]
              exact eo.symm
          · apply g
            rw [i4, r1, ekK, hKx]
            exact ex.symm
        · exact g hrem
      have hRx := zgRk_lt (t := Int32.ofNat f0) h1 h2 h3 h4 rr cc hxs k
      have hRo := zgRk_lt (t := Int32.ofNat f0) h1 h2 h3 h4 rr cc hos k
      have step : ∀ (i : Nat) (sl : Nat) (av : Int32), i < 10 → ρ i = Int32.ofNat sl → sl < zgNS r c → zyma w m.2 (zyag ls i) (zysym i) = true → zyrho (zyPm r c).1 B H2 ((zxi290, 4, 10, 11, 290, 0, 0, 1, 0) : zEn).2.2.1 lsB (zyκml r c).2.2.2.2.1 i = Int32.ofNat (zgM (zyres (zyEl (zymr r c) B s.heap)) sl (Int32.ofNat f0 + Int32.ofNat k)) := by
        intro i sl av hi hsl hlt2 hq
        obtain ⟨kz, z, vz, ez⟩ := zyma_iff (X := (B, ρ2, N2, ρ, κ.2.1, (zyEl (zymr r c) B s.heap, fun q => s.heap[q]?), J)) hR.1.1 hR.1.2.2.2 hJ.2 (hsv 3 (by decide)) (hsv 7 (by decide)) (hsv i hi) hq
        have ez : z = Int32.ofNat (zgV (zyres (zyEl (zymr r c) B s.heap)) (zyN1 (Int32.ofNat (zgT (zgc (zyres (zyEl (zymr r c) B s.heap))) (zyN1 (ρ i))))) (ρ 3 + ρ 7)) := ez
        have hT := (zgfacts h1 h2 h3 h4 hlt2).1
        have u1 : zyN1 (Int32.ofNat sl) = sl := zyN1_of (by omega)
        have u2 : zyN1 (Int32.ofNat (zgT c sl)) = zgT c sl := zyN1_of (by omega)
        rw [hsl, u1, cc, u2, r3, i7] at ez
        have e : zyrho (zyPm r c).1 B H2 ((zxi290, 4, 10, 11, 290, 0, 0, 1, 0) : zEn).2.2.1 lsB (zyκml r c).2.2.2.2.1 i = z := zyrho_ag hLs hi kz vz
        rw [e, ez]
        unfold zgM
        rw [cc]
      have e4 := step 4 _ 0 (by decide) i4 hRx ha
      have e5 := step 5 _ 0 (by decide) i5 hRo hb
      have e6 : zyrho (zyPm r c).1 B H2 ((zxi290, 4, 10, 11, 290, 0, 0, 1, 0) : zEn).2.2.1 lsB (zyκml r c).2.2.2.2.1 6 = Int32.ofNat (zgP (zyres (zyEl (zymr r c) B s.heap))) := zyrho_ag hLs (by decide) (by rw [l6]; exact zysym_k 6) (by rw [l6, ← i6]; exact hsv 6 (by decide))
      have hp : zyV (B, ρ2, N2, ρ, κ.2.1, (zyEl (zymr r c) B s.heap, fun q => s.heap[q]?), J) (zyag ls 7) (.int (Int32.ofNat (k + 1))) := by
        have hp := zysym_p (X := (B, ρ2, N2, ρ, κ.2.1, (zyEl (zymr r c) B s.heap, fun q => s.heap[q]?), J)) (i := 7) (c := 1) (show 7 < N2 by omega) (by decide)
        have e9 : zyρ (B, ρ2, N2, ρ, κ.2.1, (zyEl (zymr r c) B s.heap, fun q => s.heap[q]?), J) 7 + Int32.ofNat 1 = Int32.ofNat (k + 1) := by
          show ρ2 7 + Int32.ofNat 1 = _
          rw [hag 7 (by omega), i7, ← zyofA]
        rw [e9] at hp
        rw [l7]
        exact hp
      have e7 : zyrho (zyPm r c).1 B H2 ((zxi290, 4, 10, 11, 290, 0, 0, 1, 0) : zEn).2.2.1 lsB (zyκml r c).2.2.2.2.1 7 = Int32.ofNat (k + 1) := zyrho_ag hLs (by decide) (by rw [l7]; exact zysym_pk) hp
      obtain ⟨w3, ew, hE3, hin⟩ := zycut_iff hcut hR.1.1 hp (by rw [zB_of4 (by omega)]; omega) (by rw [zB_of4 (by omega)]; omega)
      refine ⟨zyκml r c, by simp, est, hpc, ⟨w3, ew, hE3, hin⟩, ⟨x, o, f0, hr1, hr2, hr3, hf0, ex, hxs, eo, hos, Or.inr ⟨rfl, k + 1, K, e7, by omega, hK1, hK2, hPK, hKx, hKo, e6, e4, e5⟩⟩, ?_⟩
      rw [if_neg hk0, if_neg (show ¬ (zyκml r c).1 = 0 from fun q => by cases q), e7, i7, zB_of4 (by omega), zB_of4 (by omega)]
      omega
  · intro B AsV hA κ hκ s ρ H hPk hI hInv ρ2 w v m t vo hbt hag hE hF hM hvo
    obtain ⟨x, o, f0, r1, r2, r3, hf0, ex, hxs, eo, hos, hInv⟩ := hInv
    obtain ⟨c1, c2⟩ := zand_iff hbt
    have c1 := zbeqT c1
    rcases hInv with e | ⟨eκ, k, K, i7, hkK, hK1, -⟩
    · rw [e] at c1; cases c1
    have hκ1 : κ.2.1 = 10 := by rw [eκ]; rfl
    have hN : 10 ≤ w.1 := by have := hag.1; omega
    refine zyvr_of ?_
    rcases zif_iff c2 with ⟨c2, -⟩ | ⟨-, c2⟩
    · have ev := zylb_iff c2
      subst ev
      cases vo with
      | none => exact hvo.elim
      | some z =>
        have hvo : zyV (B, ρ2, w.1, ρ, κ.2.1, (zyEl (zymr r c) B s.heap, fun q => s.heap[q]?), J) (zysym 7) z := hvo
        obtain ⟨z2, rfl⟩ := zyv_int hvo (by have := zysym_k 7; omega)
        have ez := zyv_one (zysym_k 7) (zysym_v (X := (B, ρ2, w.1, ρ, κ.2.1, (zyEl (zymr r c) B s.heap, fun q => s.heap[q]?), J)) (show 7 < w.1 by omega)) hvo
        have ez : ρ2 7 = z2 := ez
        rw [hag.2 7 (by omega), i7] at ez
        rw [← ez]
        show zyv _ _ _ (8 * (2147483647 * 4294967296 + 2147563648) + 2) _
        exact zyv_bd (by rw [zB_of4 (by omega)]; omega) (by rw [zB_of4 (by omega)]; omega) (by decide)
    · have ev := zylb_iff c2
      subst ev
      cases vo with
      | none => exact hvo.elim
      | some z =>
        have hvo : zyV (B, ρ2, w.1, ρ, κ.2.1, (zyEl (zymr r c) B s.heap, fun q => s.heap[q]?), J) 34359738360 z := hvo
        obtain ⟨z2, rfl⟩ := zyv_int hvo (by decide)
        have ez := zyv_one (by decide) (show zyV (B, ρ2, w.1, ρ, κ.2.1, (zyEl (zymr r c) B s.heap, fun q => s.heap[q]?), J) 34359738360 (.int (Int32.ofNat 4294967295)) from zyv_mk (u := 4294967295) rfl) hvo
        have hb : zB (Int32.ofNat 4294967295) = 2147483647 := by decide +kernel
        rw [← ez]
        show zyv _ _ _ (8 * (2147483647 * 4294967296 + 2147563648) + 2) _
        exact zyv_bd (by rw [hb]; omega) (by rw [hb]; omega) (by decide)
end
section
/-! SEMANTIC CONTRACTS: nothing is kept, all is said of the elements before and behind; phases that begin anew, what is awaited at their ends written down (expectations) -/
def zyJ0 : zyJt := (fun _ => True, zyRr)
theorem zyJ0_p {dj : zyR} (h : ∀ p ∈ dj, p.1 < 100000) : zyJp dj zyJ0 := ⟨fun _ _ _ _ => trivial, fun _ _ p hp h0 => absurd h0 (by have := h p hp; omega), fun _ _ _ _ _ _ h hr => zyRr_congr h hr, fun _ _ _ _ _ h hr => zyRr_grow h hr⟩
theorem zyJ0_r : zyJr zyJ0 := by
  refine ⟨zyJ0_p ?_, rfl⟩
  intro p hp
  have hp : p ∈ [(75, 2, 5), (75, 160, 519), (81, 0, 10399), (74, 19, 19), (74, 21, 21)] := hp
  simp only [List.mem_cons, List.not_mem_nil, or_false] at hp
  rcases hp with rfl | rfl | rfl | rfl | rfl <;> decide
/-- the int that a code says -/
def zyw (ρ : Nat → Int32) (v : Nat) : Int32 := if v % 8 = 1 then (if v / 8 % 4294967296 = 0 then ρ (v / 34359738368) else ρ (v / 34359738368) + Int32.ofNat (v / 8 % 4294967296)) else Int32.ofNat (v / 8)
theorem zyw_of {ρ : Nat → Int32} {N : Nat} {ad : Nat → Nat} {v : Nat} {x : Int32} (h : zyv ρ N ad v (.int x)) (hk : v % 8 ≤ 1) : x = zyw ρ v := by
  unfold zyw
  rcases h with ⟨h, -, -⟩ | ⟨-, -, z, h⟩ | ⟨-, h | h⟩
  · rcases h with ⟨h1, h2⟩ | ⟨h1, h2⟩ | ⟨h1, -⟩ | ⟨h1, -⟩ | ⟨h1, -⟩ | ⟨h1, -⟩ | ⟨h1, -⟩
    · rw [if_neg (by omega)]
      exact Value.int.inj h2
    · rw [if_pos h1]
      have h2 := Value.int.inj h2
      by_cases e : v / 8 % 4294967296 = 0
      · rw [if_pos e, h2, e]
        exact Int32.add_zero _
      · rw [if_neg e]
        exact h2
    · omega
    · omega
    · omega
    · omega
    · omega
  · cases h
  · cases h
  · cases h
theorem zyw_v {ρ : Nat → Int32} {N : Nat} {ad : Nat → Nat} {v : Nat} (hk : v % 8 = 0 ∨ (v % 8 = 1 ∧ v / 34359738368 < N)) : zyv ρ N ad v (.int (zyw ρ v)) := by
  unfold zyw
  rcases hk with h | ⟨h1, h2⟩
  · rw [if_neg (by omega)]
    exact Or.inl ⟨Or.inl ⟨h, rfl⟩, fun q => by omega, fun q => by omega⟩
  · rw [if_pos h1]
    refine Or.inl ⟨Or.inr (Or.inl ⟨h1, ?_⟩), fun _ => h2, fun q => by omega⟩
    by_cases e : v / 8 % 4294967296 = 0
    · rw [if_pos e, e]
      exact congrArg Value.int (Int32.add_zero _).symm
    · rw [if_neg e]
theorem zyw_sym (ρ : Nat → Int32) (i : Nat) : zyw ρ (zysym i) = ρ i := by
  rw [zysym_def]
  unfold zyw
  rw [if_pos (by omega), if_pos (by omega), show (i * 34359738368 + 1) / 34359738368 = i by omega]
/-- what a fact says of symbols -/
def zyFp (ρ : Nat → Int32) (E : zyEm) (f : zyF) : Prop :=
  if f.1 = 24 then ∃ j : Nat, zyw ρ f.2.2.2 = Int32.ofNat j ∧ j < 2147483648 ∧ E f.2.2.1 j = some (.int (zyw ρ f.2.1))
  else if f.1 < 12 then zyw ρ f.2.1 = zyG f.1 (zyw ρ f.2.2.1) (zyw ρ f.2.2.2)
  else if f.1 < 1000 then (f.1 = 20 → zyw ρ f.2.2.1 < zyw ρ f.2.2.2) ∧ (f.1 = 21 → ¬ zyw ρ f.2.2.1 < zyw ρ f.2.2.2) ∧ (f.1 = 22 → zyw ρ f.2.2.1 = zyw ρ f.2.2.2) ∧ (f.1 = 23 → ¬ zyw ρ f.2.2.1 = zyw ρ f.2.2.2)
  else zyRr (f.1 - 1000) E (zyw ρ f.2.2.1) (zyw ρ f.2.2.2) (zyw ρ f.2.1)
noncomputable def zyxfk (f : zyF) : Bool := zif (Nat.beq f.1 24) (zand (zyk1b f.2.1) (zyk1b f.2.2.2)) (zand (zyk1b f.2.1) (zand (zyk1b f.2.2.1) (zyk1b f.2.2.2)))
theorem zyFp_of {X : zyX} {f : zyF} (hJ : (zyJ X).2 = zyRr) (h : zyFm X f) (hk : zyxfk f = true) : zyFp (zyρ X) (zyE X) f := by
  unfold zyFm at h
  unfold zyFp
  by_cases e : f.1 = 24
  · rw [if_pos e] at h ⊢
    obtain ⟨z, j, h1, h2, h3, h4⟩ := h
    rcases zif_iff hk with ⟨-, q⟩ | ⟨q, -⟩
    · obtain ⟨q1, q2⟩ := zand_iff q
      exact ⟨j, (zyw_of h2 (zbleT q2)).symm, h3, by rw [← zyw_of h1 (zbleT q1)]; exact h4⟩
    · exact absurd e (zbeqF q)
  · rw [if_neg e] at h ⊢
    obtain ⟨q1, q2, q3⟩ : zyk1b f.2.1 = true ∧ zyk1b f.2.2.1 = true ∧ zyk1b f.2.2.2 = true := by
      rcases zif_iff hk with ⟨q, -⟩ | ⟨-, q⟩
      · exact absurd (zbeqT q) e
      · obtain ⟨q1, q⟩ := zand_iff q
        exact ⟨q1, zand_iff q⟩
    have q1 := zbleT q1
    have q2 := zbleT q2
    have q3 := zbleT q3
    by_cases e2 : f.1 < 12
    · rw [if_pos e2] at h ⊢
      obtain ⟨x, y, z, h1, h2, h3, h4⟩ := h
      rw [← zyw_of h1 q1, ← zyw_of h2 q2, ← zyw_of h3 q3]
      exact h4
    · rw [if_neg e2] at h ⊢
      by_cases e3 : f.1 < 1000
      · rw [if_pos e3] at h ⊢
        obtain ⟨x, y, h2, h3, h4⟩ := h
        rw [← zyw_of h2 q2, ← zyw_of h3 q3]
        exact h4
      · rw [if_neg e3] at h ⊢
        obtain ⟨x, y, z, h1, h2, h3, h4⟩ := h
        rw [← zyw_of h1 q1, ← zyw_of h2 q2, ← zyw_of h3 q3, ← hJ]
        exact h4
theorem zyFp_e {ρ : Nat → Int32} {E : zyEm} {v a j : Nat} (h : zyFp ρ E (24, v, a, j)) : ∃ n : Nat, zyw ρ j = Int32.ofNat n ∧ n < 2147483648 ∧ E a n = some (.int (zyw ρ v)) := h
theorem zyFp_op {ρ : Nat → Int32} {E : zyEm} {g v a b : Nat} (hg : g < 12) (h : zyFp ρ E (g, v, a, b)) : zyw ρ v = zyG g (zyw ρ a) (zyw ρ b) := by
  unfold zyFp at h
  rw [if_neg (by dsimp only; omega), if_pos hg] at h
  exact h
theorem zyFp_20 {ρ : Nat → Int32} {E : zyEm} {v a b : Nat} (h : zyFp ρ E (20, v, a, b)) : zyw ρ a < zyw ρ b := h.1 rfl
theorem zyFp_21 {ρ : Nat → Int32} {E : zyEm} {v a b : Nat} (h : zyFp ρ E (21, v, a, b)) : ¬ zyw ρ a < zyw ρ b := h.2.1 rfl
theorem zyFp_22 {ρ : Nat → Int32} {E : zyEm} {v a b : Nat} (h : zyFp ρ E (22, v, a, b)) : zyw ρ a = zyw ρ b := h.2.2.1 rfl
theorem zyFp_23 {ρ : Nat → Int32} {E : zyEm} {v a b : Nat} (h : zyFp ρ E (23, v, a, b)) : ¬ zyw ρ a = zyw ρ b := h.2.2.2 rfl
theorem zyFp_r {ρ : Nat → Int32} {E : zyEm} {id v a b : Nat} (h : zyFp ρ E (1000 + id, v, a, b)) : zyRr id E (zyw ρ a) (zyw ρ b) (zyw ρ v) := by
  unfold zyFp at h
  rw [if_neg (by dsimp only; omega), if_neg (by dsimp only; omega), if_neg (by dsimp only; omega)] at h
  rw [show id = 1000 + id - 1000 by omega]
  exact h
/-! what is awaited at an end: pc, locals (13: anything), stack, facts, bounds of codes, elements -/
abbrev zyXp : Type := Nat × List Nat × List Nat × List zyF × List (Nat × Nat × Nat) × List (Nat × Nat)
noncomputable def zyfq (f g : zyF) : Bool := zand (Nat.beq f.1 g.1) (zand (Nat.beq f.2.1 g.2.1) (zand (Nat.beq f.2.2.1 g.2.2.1) (Nat.beq f.2.2.2 g.2.2.2)))
theorem zyfq_iff {f g : zyF} (h : zyfq f g = true) : f = g := by
  obtain ⟨h1, h⟩ := zand_iff h
  obtain ⟨h2, h⟩ := zand_iff h
  obtain ⟨h3, h4⟩ := zand_iff h
  obtain ⟨f0, f1, f2, f3⟩ := f
  obtain ⟨g0, g1, g2, g3⟩ := g
  have h1 := zbeqT h1
  have h2 := zbeqT h2
  have h3 := zbeqT h3
  have h4 := zbeqT h4
  dsimp only at h1 h2 h3 h4
  rw [h1, h2, h3, h4]
noncomputable def zyfmB (f : zyF) (F : List zyF) : Bool := List.rec (motive := fun _ => Bool) false (fun g _ ih => zif (zyfq g f) true ih) F
theorem zyfmB_iff {f : zyF} : ∀ {F : List zyF}, zyfmB f F = true → f ∈ F := by
  intro F
  induction F with
  | nil => intro h; cases h
  | cons g t ih =>
    intro h
    have h : zif (zyfq g f) true (zyfmB f t) = true := h
    rcases zif_iff h with ⟨h1, -⟩ | ⟨-, h1⟩
    · rw [zyfq_iff h1]
      exact List.mem_cons_self
    · exact List.mem_cons_of_mem _ (ih h1)
noncomputable def zyfsB (F need : List zyF) : Bool := List.rec (motive := fun _ => Bool) true (fun f _ ih => zand (zand (zyxfk f) (zyfmB f F)) ih) need
theorem zyfsB_iff {F : List zyF} : ∀ {need : List zyF}, zyfsB F need = true → ∀ f ∈ need, zyxfk f = true ∧ f ∈ F := by
  intro need
  induction need with
  | nil => intro _ f hf; cases hf
  | cons g t ih =>
    intro h f hf
    have h : zand (zand (zyxfk g) (zyfmB g F)) (zyfsB F t) = true := h
    obtain ⟨h1, h2⟩ := zand_iff h
    obtain ⟨h1, h3⟩ := zand_iff h1
    rcases List.mem_cons.mp hf with e | e
    · rw [e]
      exact ⟨h1, zyfmB_iff h3⟩
    · exact ih h2 f e
noncomputable def zybsB (w : zW) (need : List (Nat × Nat × Nat)) : Bool := List.rec (motive := fun _ => Bool) true (fun b _ ih => zand (zand (zif (Nat.beq (Nat.mod b.1 8) 0) true (zand (Nat.beq (Nat.mod b.1 8) 1) (Nat.ble (Nat.succ (Nat.div b.1 34359738368)) w.1))) (zbd w b.1 (fun lo hi => zand (Nat.ble b.2.1 lo) (Nat.ble hi b.2.2)))) ih) need
theorem zybsB_iff {w : zW} {ρ : Nat → Int32} (hE : zEnv ρ w.2) : ∀ {need : List (Nat × Nat × Nat)}, zybsB w need = true → ∀ b ∈ need, b.2.1 ≤ zB (zyw ρ b.1) ∧ zB (zyw ρ b.1) ≤ b.2.2 := by
  intro need
  induction need with
  | nil => intro _ f hf; cases hf
  | cons g t ih =>
    intro h b hb
    have h : zand (zand (zif (Nat.beq (Nat.mod g.1 8) 0) true (zand (Nat.beq (Nat.mod g.1 8) 1) (Nat.ble (Nat.succ (Nat.div g.1 34359738368)) w.1))) (zbd w g.1 (fun lo hi => zand (Nat.ble g.2.1 lo) (Nat.ble hi g.2.2)))) (zybsB w t) = true := h
    obtain ⟨h1, h2⟩ := zand_iff h
    obtain ⟨h1, h3⟩ := zand_iff h1
    rcases List.mem_cons.mp hb with e | e
    · rw [e]
      have hk : g.1 % 8 = 0 ∨ (g.1 % 8 = 1 ∧ g.1 / 34359738368 < w.1) := by
        rcases zif_iff h1 with ⟨q, -⟩ | ⟨-, q⟩
        · exact Or.inl (zbeqT q)
        · obtain ⟨q1, q2⟩ := zand_iff q
          exact Or.inr ⟨zbeqT q1, zbleT q2⟩
      obtain ⟨x, lo, hi, e1, b1, b2, b3⟩ := zybd_iff (N := w.1) (ad := fun _ => 0) h3 hE (zyw_v hk)
      have e1 := Value.int.inj e1
      obtain ⟨b3, b4⟩ := zand_iff b3
      have b3 := zbleT b3
      have b4 := zbleT b4
      rw [e1]
      exact ⟨by omega, by omega⟩
    · exact ih h2 b e
noncomputable def zymsB (B : zyB) (m : List (Nat × Nat)) (need : List (Nat × Nat)) : Bool := List.rec (motive := fun _ => Bool) true (fun p _ ih => zand (zand (zand (zyk1b p.2) (zget B (Nat.div p.1 16384) (fun c => Nat.ble (Nat.succ (Nat.mod p.1 16384)) (zylenB c)))) (zylk false (fun v => Nat.beq v p.2) p.1 m)) ih) need
theorem zymsB_iff {P : zyP} {X : zyX} {U : State} {m : List (Nat × Nat)} {H : Heap} (hM : zyMem P X U m H) : ∀ {need : List (Nat × Nat)}, zymsB P.1 m need = true → ∀ p ∈ need, zyEl P.1 (zyb X) H (p.1 / 16384) (p.1 % 16384) = some (.int (zyw (zyρ X) p.2)) := by
  intro need
  induction need with
  | nil => intro _ f hf; cases hf
  | cons g t ih =>
    intro h p hp
    have h : zand (zand (zand (zyk1b g.2) (zget P.1 (Nat.div g.1 16384) (fun c => Nat.ble (Nat.succ (Nat.mod g.1 16384)) (zylenB c)))) (zylk false (fun v => Nat.beq v g.2) g.1 m)) (zymsB P.1 m t) = true := h
    obtain ⟨h1, h2⟩ := zand_iff h
    obtain ⟨h1, h3⟩ := zand_iff h1
    obtain ⟨h1, h4⟩ := zand_iff h1
    rcases List.mem_cons.mp hp with e | e
    · rw [e]
      obtain ⟨c, hc, h4⟩ := zget_iff h4
      have h4 := zbleT h4
      rw [zylen_eq] at h4
      obtain ⟨w, g1, g2⟩ := hM.2.1 _ c _ hc h4
      rw [zylk_eq] at h3
      unfold zyEt at g2
      have e1 : Nat.div g.1 16384 * 16384 + Nat.mod g.1 16384 = g.1 := by
        show g.1 / 16384 * 16384 + g.1 % 16384 = g.1
        omega
      rw [e1] at g2
      cases hq : zyl m g.1 with
      | none => rw [hq] at h3; cases h3
      | some v =>
        rw [hq] at h3 g2
        have h3 : v = g.2 := zbeqT h3
        rw [h3] at g2
        have g2 : zyV X g.2 w := g2
        obtain ⟨x, rfl⟩ := zyv_int g2 (by have := zbleT h1; have : g.2 % 8 ≤ 1 := this; omega)
        rw [← zyw_of g2 (zbleT h1)]
        exact g1
    · exact ih h2 p e
noncomputable def zylsB (ex : List Nat) : List Nat → Bool := List.rec (motive := fun _ => List Nat → Bool) (fun ls => zynil ls) (fun e _ ih ls => List.rec (motive := fun _ => Bool) false (fun a u _ => zand (zif (Nat.beq e 13) true (Nat.beq e a)) (ih u)) ls) ex
theorem zylsB_iff : ∀ {ex ls : List Nat}, zylsB ex ls = true → ex.length = ls.length ∧ ∀ (i c : Nat), ex[i]? = some c → ¬ c = 13 → ls[i]? = some c := by
  intro ex
  induction ex with
  | nil =>
    intro ls h
    cases ls with
    | nil => exact ⟨rfl, fun i c hc => by simp at hc⟩
    | cons a t => cases h
  | cons e t ih =>
    intro ls h
    cases ls with
    | nil => cases h
    | cons a u =>
      have h : zand (zif (Nat.beq e 13) true (Nat.beq e a)) (zylsB t u) = true := h
      obtain ⟨h1, h2⟩ := zand_iff h
      obtain ⟨g1, g2⟩ := ih h2
      refine ⟨by rw [List.length_cons, List.length_cons, g1], fun i c hc hn => ?_⟩
      cases i with
      | zero =>
        have hc : some e = some c := hc
        cases hc
        rcases zif_iff h1 with ⟨q, -⟩ | ⟨-, q⟩
        · exact absurd (zbeqT q) hn
        · rw [zbeqT q]
          rfl
      | succ i =>
        rw [List.getElem?_cons_succ] at hc ⊢
        exact g2 i c hc hn
noncomputable def zyxpB (B : zyB) (x : zyXp) (w : zW) (pc : Nat) (ls st : List Nat) (m : zyM) : Bool := zand (Nat.beq pc x.1) (zand (zylsB x.2.1 ls) (zand (zylb st x.2.2.1) (zand (zyfsB m.2 x.2.2.2.1) (zand (zybsB w x.2.2.2.2.1) (zand (zymsB B m.1 x.2.2.2.2.2) (zyfitM w B m.1))))))
noncomputable def zyanyB (f : zyXp → Bool) (xs : List zyXp) : Bool := List.rec (motive := fun _ => Bool) false (fun x _ ih => zif (f x) true ih) xs
theorem zyanyB_iff {f : zyXp → Bool} : ∀ {xs : List zyXp}, zyanyB f xs = true → ∃ x ∈ xs, f x = true := by
  intro xs
  induction xs with
  | nil => intro h; cases h
  | cons x t ih =>
    intro h
    have h : zif (f x) true (zyanyB f t) = true := h
    rcases zif_iff h with ⟨h1, -⟩ | ⟨-, h1⟩
    · exact ⟨x, List.mem_cons_self, h1⟩
    · obtain ⟨y, q1, q2⟩ := ih h1
      exact ⟨y, List.mem_cons_of_mem _ q1, q2⟩
noncomputable def zystx (B : zyB) (xs : List zyXp) : zyK := fun w _ _ pc ls st _ fs m => List.rec (motive := fun _ => Bool) (zyanyB (fun x => zyxpB B x w pc ls st m) xs) (fun _ _ _ => false) fs
noncomputable def zybtx (B : zyB) (xs : List zyXp) : zW → List Nat → zyM → Bool := fun w v m => zyanyB (fun x => zyxpB B x w x.1 [] v m) xs
/-- what an end says -/
def zyXs (x : zyXp) (ρ : Nat → Int32) (E E2 : zyEm) : Prop := (∀ f ∈ x.2.2.2.1, zyFp ρ E f) ∧ (∀ b ∈ x.2.2.2.2.1, b.2.1 ≤ zB (zyw ρ b.1) ∧ zB (zyw ρ b.1) ≤ b.2.2) ∧ ∀ p ∈ x.2.2.2.2.2, E2 (p.1 / 16384) (p.1 % 16384) = some (.int (zyw ρ p.2))
theorem zyxp_iff {P : zyP} {X : zyX} {U : State} {x : zyXp} {w : zW} {pc : Nat} {ls st : List Nat} {m : zyM} {H : Heap} (hJ : (zyJ X).2 = zyRr) (hE : zEnv (zyρ X) w.2) (hF : ∀ f ∈ m.2, zyFm X f) (hM : zyMem P X U m.1 H) (h : zyxpB P.1 x w pc ls st m = true) : pc = x.1 ∧ (x.2.1.length = ls.length ∧ ∀ (i c : Nat), x.2.1[i]? = some c → ¬ c = 13 → ls[i]? = some c) ∧ st = x.2.2.1 ∧ zyXs x (zyρ X) (zyE X) (zyEl P.1 (zyb X) H) ∧ zyMI P.1 (zyb X) (zyJ X) U H := by
  obtain ⟨h1, h⟩ := zand_iff h
  obtain ⟨h2, h⟩ := zand_iff h
  obtain ⟨h3, h⟩ := zand_iff h
  obtain ⟨h4, h⟩ := zand_iff h
  obtain ⟨h5, h⟩ := zand_iff h
  obtain ⟨h6, h7⟩ := zand_iff h
  refine ⟨zbeqT h1, zylsB_iff h2, zylb_iff h3, ⟨fun f hf => ?_, zybsB_iff hE h5, zymsB_iff hM h6⟩, hM.base hE h7⟩
  obtain ⟨q1, q2⟩ := zyfsB_iff h4 f hf
  exact zyFp_of hJ (hF f q2) q1
theorem zyXf {l : List zyF} {ρ : Nat → Int32} {E : zyEm} {f : zyF} (h : ∀ f ∈ l, zyFp ρ E f) (j : Nat) (hj : l[j]? = some f) : zyFp ρ E f := h f (List.mem_of_getElem? hj)
theorem zyXb {l : List (Nat × Nat × Nat)} {ρ : Nat → Int32} {b : Nat × Nat × Nat} (h : ∀ b ∈ l, b.2.1 ≤ zB (zyw ρ b.1) ∧ zB (zyw ρ b.1) ≤ b.2.2) (j : Nat) (hj : l[j]? = some b) : b.2.1 ≤ zB (zyw ρ b.1) ∧ zB (zyw ρ b.1) ≤ b.2.2 := h b (List.mem_of_getElem? hj)
theorem zyXm {l : List (Nat × Nat)} {ρ : Nat → Int32} {E2 : zyEm} {p : Nat × Nat} (h : ∀ p ∈ l, E2 (p.1 / 16384) (p.1 % 16384) = some (.int (zyw ρ p.2))) (j : Nat) (hj : l[j]? = some p) : E2 (p.1 / 16384) (p.1 % 16384) = some (.int (zyw ρ p.2)) := h p (List.mem_of_getElem? hj)
/-- elements as the base tells -/
def zyTy (mi : zyB) (E : zyEm) : Prop := ∀ a c k, zG mi a = some c → k < zyLen c → ∀ r ∈ c.2.2, r.1 ≤ k → k ≤ r.2.1 → (r.2.2 % 8 = 2 → ∃ x : Int32, E a k = some (.int x) ∧ r.2.2 / 34359738368 ≤ zB x ∧ zB x ≤ r.2.2 / 8 % 4294967296) ∧ (r.2.2 % 8 = 0 → E a k = some (.int (Int32.ofNat (r.2.2 / 8))))
theorem zyTy_of {mi : zyB} {B : zCx} {J : zyJt} {U : State} {H : Heap} (h : zyMI mi B J U H) : zyTy mi (zyEl mi B H) := by
  intro a c k hg hk r hr r1 r2
  obtain ⟨w, h1, h2⟩ := h.2.1 a c k hg hk
  obtain ⟨-, h3⟩ := h2 r hr r1 r2
  refine ⟨fun q => ?_, fun q => ?_⟩
  · obtain ⟨x, e, b1, b2⟩ := zv_2 (zyv_zv h3 (by omega) (by omega)) q
    rw [e] at h1
    exact ⟨x, h1, b1, b2⟩
  · rw [h1, zyv_0 h3 q]
end
section
/-! semantic contracts of the reference's methods (this, then ints) -/
def zyAr (B : zCx) (xs : List Int32) : List Value := .ref (zad B 74) :: xs.map Value.int
def zyOut (mi : zyB) (B : zCx) (H0 H : Heap) : Prop := ∀ q, (∀ a c, zG mi a = some c → ¬ q = zad B a) → H[q]? = H0[q]?
def zyHq (mi : zyB) (B : zCx) (Ψ : zyEm → zyEm → Option Value → Prop) : Array Value → State → Outcome → State → Prop := fun _ s o t => ∃ vo, o = .returned vo ∧ zKn B t ∧ zyMI mi B zyJ0 t t.heap ∧ Ψ (zyEl mi B s.heap) (zyEl mi B t.heap) vo ∧ zyOut mi B s.heap t.heap
def zyHc (l : Launch) (mi : zyB) (en : zEn) (me : zMe) (dep na : Nat) (Φ : List Int32 → zyEm → Prop) (Ψ : List Int32 → zyEm → zyEm → Option Value → Prop) : Prop := ∀ (B : zCx) (xs : List Int32), xs.length = na →
  Met l me.1 [Cond.code me.1 me.2.1 en.2.2.1 me.2.2.1] { frames := dep, cells := en.2.2.2.2.2.1, slots := en.2.2.2.2.2.2.1, locals := 64 * dep } (va_Pc (zyAr B xs) (fun U => zKn B U ∧ zyMI mi B zyJ0 U U.heap ∧ Φ xs (zyEl mi B U.heap))) (zyHq mi B (Ψ xs)) en.2.2.2.2.2.1 en.2.2.2.2.2.2.1 (fun q => zbs B ≤ q)
/-- a phase: pc, locals, bounds of symbols, elements, stack -/
abbrev zyPh : Type := Nat × List Nat × List (Nat × Nat) × List (Nat × Nat) × List Nat
def zyXn (B : zCx) (ρ : Nat → Int32) (N : Nat) : zyX := (B, ρ, N, ρ, N, (fun _ _ => none, fun _ => none), zyJ0)
def zySs (mi : zyB) (B : zCx) (nL : Nat) (φ : zyPh) (ρ : Nat → Int32) (H : Heap) (locs : List Loc) (lsB : Array Slot) (stB : List Value) : Prop :=
  (∀ x ∈ locs, zbs B ≤ x.base) ∧ (lsB.size = nL ∧ lv_wf lsB) ∧ (φ.2.1.length = nL ∧ ∀ (i c : Nat), φ.2.1[i]? = some c → ¬ c = 13 → ∃ w, lsB[i]? = some (.val w) ∧ zyv ρ φ.2.2.1.length (zad B) c w) ∧ zEnv ρ φ.2.2.1 ∧ zySt (zyXn B ρ φ.2.2.1.length) φ.2.2.2.2 stB ∧ ∀ p ∈ φ.2.2.2.1, ∃ (c : zyCl) (w : Value), zG mi (p.1 / 16384) = some c ∧ p.1 % 16384 < zyLen c ∧ zyEl mi B H (p.1 / 16384) (p.1 % 16384) = some w ∧ zyv ρ φ.2.2.1.length (zad B) p.2 w
/-- memory, seen anew -/
theorem zyMem_new {mi : zyB} {B : zCx} {U : State} {H : Heap} {tb : Nat → List zyCt} {fp dj : zyR} {sp : Nat} {ρ : Nat → Int32} {N : Nat} {kc : List (Nat × Nat)} (hI : zyMI mi B zyJ0 U H) (hkc : ∀ p ∈ kc, ∃ (c : zyCl) (w : Value), zG mi (p.1 / 16384) = some c ∧ p.1 % 16384 < zyLen c ∧ zyEl mi B H (p.1 / 16384) (p.1 % 16384) = some w ∧ zyv ρ N (zad B) p.2 w) : zyMem (mi, tb, fp, dj, sp) (B, ρ, N, ρ, N, (zyEl mi B H, fun q => H[q]?), zyJ0) U kc H := by
  refine ⟨hI.1, fun a c k hg hk => ?_, fun a k _ => rfl, trivial, hI.2.2.2, fun q _ => rfl⟩
  obtain ⟨x, h1, h2⟩ := hI.2.1 a c k hg hk
  refine ⟨x, h1, ?_⟩
  have hl : zyLen c ≤ 16384 := by
    unfold zyLen
    rcases (hI.1 a c hg).2 with ⟨q1, -⟩ | ⟨ty, cA, f, q1, -, -, q4⟩
    · rw [if_pos q1]
      have := zyn64 c.1 q1
      omega
    · rw [if_neg (by have := zty_kd q1; omega)]
      exact q4
  unfold zyEt
  cases hq : zyl kc (a * 16384 + k) with
  | none => exact fun r hr r1 r2 => ⟨(h2 r hr r1 r2).1, zyv_cl (h2 r hr r1 r2).1 (h2 r hr r1 r2).2⟩
  | some v =>
    obtain ⟨j, hj⟩ := zyl_ix hq
    obtain ⟨c2, w, q1, q2, q3, q4⟩ := hkc _ (List.mem_of_getElem? hj)
    dsimp only at q1 q2 q3 q4
    rw [show (a * 16384 + k) / 16384 = a by omega, show (a * 16384 + k) % 16384 = k by omega, h1] at q3
    cases q3
    exact q4
theorem zyRl_new {mi : zyB} {B : zCx} {s : State} {H : Heap} {tb : Nat → List zyCt} {fp dj : zyR} {sp nL dep c0 s0 : Nat} {φ : zyPh} {ρ : Nat → Int32} {locs : List Loc} {lsB : Array Slot} {stB : List Value} (hI : zyMI mi B zyJ0 s H) (h : zySs mi B nL φ ρ H locs lsB stB) : zyRl (mi, tb, fp, dj, sp) (B, ρ, φ.2.2.1.length, ρ, φ.2.2.1.length, (zyEl mi B H, fun q => H[q]?), zyJ0) s nL (dep, c0, s0) (φ.2.2.1.length, φ.2.2.1) φ.2.1 φ.2.2.2.2 (dep, 0, 0) (φ.2.2.2.1, []) H locs lsB stB := by
  obtain ⟨h1, h2, h3, h4, h5, h6⟩ := h
  exact ⟨⟨h4, rfl, ⟨Nat.le_refl _, fun _ _ => rfl⟩, fun f hf => by cases hf⟩, zyMem_new hI h6, h1, ⟨h3.1, h2.1, h2.2, h3.2⟩, zySt_map (X := zyXn B ρ φ.2.2.1.length) (X2 := (B, ρ, φ.2.2.1.length, ρ, φ.2.2.1.length, (zyEl mi B H, fun q => H[q]?), zyJ0)) (fun v w h => h) h5, rfl, Nat.zero_le _, Nat.zero_le _⟩
/-- a stop -/
def zyAt (mi : zyB) (B : zCx) (s : State) (nL : Nat) (x : zyXp) (ρ : Nat → Int32) (N : Nat) (H : Heap) (locs : List Loc) (lsB : Array Slot) (stA : List Value) : Prop :=
  zyMI mi B zyJ0 s H ∧ zyOut mi B s.heap H ∧ (∀ x ∈ locs, zbs B ≤ x.base) ∧ (lsB.size = nL ∧ lv_wf lsB) ∧ (∀ (i c : Nat), x.2.1[i]? = some c → ¬ c = 13 → ∃ w, lsB[i]? = some (.val w) ∧ zyv ρ N (zad B) c w) ∧ zySt (zyXn B ρ N) x.2.2.1 stA
abbrev zyWt : Type := Heap → List Loc → Nat → Array Slot → List Value → Prop
/-- the rules by hand: a call, an element -/
def zyRu (l : Launch) (mi : zyB) (en : zEn) (dep : Nat) (B : zCx) (s : State) (Wg : zyWt) : Prop :=
  (∀ (pc ix ax : Nat) (en2 : zEn) (me2 : zMe) (dep2 na2 : Nat) (Φ2 : List Int32 → zyEm → Prop) (Ψ2 : List Int32 → zyEm → zyEm → Option Value → Prop) (xs2 : List Int32) (rs : List Value) (H : Heap) (locs : List Loc) (lsB : Array Slot), (rs.map fun v => v.category).sum ≤ 8 → en.1 pc = (.invokevirtual ix, pc + 3, ax) → zG zKd (ax / 16) = some 0 → zG zxMeta (ax / 16) = some en2 → zG zMeth (ax / 16) = some me2 → en2.2.2.2.1 = 11 → en2.2.1 = na2 + 1 → en2.2.2.2.2.2.1 = 0 → en2.2.2.2.2.2.2.1 = 0 → zyHc l mi en2 me2 dep2 na2 Φ2 Ψ2 → dep2 + 1 ≤ dep → xs2.length = na2 → zyMI mi B zyJ0 s H → (∀ x ∈ locs, zbs B ≤ x.base) → lsB.size = en.2.2.1 → Φ2 xs2 (zyEl mi B H) →
    (∀ (H3 : Heap) (locs3 : List Loc) (vo : Option Value), zyMI mi B zyJ0 s H3 → zyOut mi B H H3 → (∀ x ∈ locs3, zbs B ≤ x.base) → Ψ2 xs2 (zyEl mi B H) (zyEl mi B H3) vo → Wg H3 locs3 (pc + 3) lsB (vo.toList ++ rs)) → Wg H locs pc lsB ((zyAr B xs2).reverse ++ rs)) ∧
  (∀ (pc ax a n : Nat) (c : zyCl) (v : Int32) (H : Heap) (locs : List Loc) (lsB : Array Slot), en.1 pc = (.iastore, pc + 1, ax) → zG mi a = some c → c.1 = 20 → n < c.2.1 → (∀ r ∈ c.2.2, r.1 ≤ n → n ≤ r.2.1 → r.2.2 % 8 = 2 ∧ r.2.2 / 34359738368 ≤ zB v ∧ zB v ≤ r.2.2 / 8 % 4294967296) → zyMI mi B zyJ0 s H → (∀ x ∈ locs, zbs B ≤ x.base) →
    (∀ (H3 : Heap) (locs3 : List Loc), zyMI mi B zyJ0 s H3 → zyOut mi B H H3 → (∀ x ∈ locs3, zbs B ≤ x.base) → zyEl mi B H3 a n = some (.int v) → (∀ a2 k2, ¬ (a2 = a ∧ k2 = n) → zyEl mi B H3 a2 k2 = zyEl mi B H a2 k2) → Wg H3 locs3 (pc + 1) lsB []) → Wg H locs pc lsB [.int v, .int (Int32.ofNat n), .ref (zad B a)])
theorem zyRu_ok {l : Launch} {mi : zyB} {y0 dep : Nat} {en : zEn} {me : zMe} {p : Program} {e : Env} {s : State} {mt : MethodId} {args : Array Value} {below : List Frame} {meth : Method} {c : Code} {Q : State → Prop} {B : zCx} (hOK : zOK y0 en me) (hc0 : en.2.2.2.2.2.1 = 0) (hs0 : en.2.2.2.2.2.2.1 = 0) (h74 : ∃ c, zG mi 74 = some c ∧ c.1 = 11) (hexec : p.tables.exec = Jvm.exec) (hb : c.code = me.2.1) (hml : c.maxLocals = en.2.2.1) (hown : s.vm.findClass me.2.2.2 = some mt.cls) (hK : zKn B s) :
    zyRu l mi en dep B s (fun H locs pc lsB stA => W p l e { frames := dep, cells := en.2.2.2.2.2.1, slots := en.2.2.2.2.2.2.1, locals := 64 * dep } s mt args below meth c H locs 0 0 Q (F0 mt pc lsB stA)) := by
  refine ⟨?_, ?_⟩
  · intro pc ix ax en2 me2 dep2 na2 Φ2 Ψ2 xs2 rs H locs lsB hrs hrow hkd hen2 hme2 how hna hc2 hs2 hHc hdp hxs hI hlo hsz hΦ kk
    have hr := hOK.1 pc
    rw [hrow] at hr
    rcases hr with hn | ⟨hlen, hdec, pp, hlk⟩
    · cases hn
    obtain ⟨-, hd⟩ := zdec (k := 3) rfl (by decide) hlen hdec
    obtain ⟨me3, hme3, hO2⟩ := zall hen2
    rw [hme2] at hme3
    cases hme3
    obtain ⟨me3, hme3, hKi⟩ := zallk hen2 hkd
    rw [hme2] at hme3
    cases hme3
    have hcls2 := hO2.2.2.2.2.1
    have hml40 : en2.2.2.1 ≤ 40 := hO2.2.2.2.2.2.1
    have hrc : ∃ (a : Addr) (As : List Value), zyAr B xs2 = .ref a :: As ∧ ∃ cellB : Cell, H[a]? = some cellB ∧ cellB.vm.isStatics = false ∧ s.vm.findClass me2.2.2.2 = some cellB.cls := by
      obtain ⟨c74, hg, e11⟩ := h74
      refine ⟨zad B 74, _, rfl, ?_⟩
      rcases (hI.1 _ _ hg).2 with ⟨q1, cell, q2, q3, q4⟩ | ⟨ty, cA, f, q1, -⟩
      · refine ⟨cell, q2, by rw [q4]; rfl, ?_⟩
        have e1 : zcn en2.2.2.2.1 = me2.2.2.2 := hO2.2.2.2.1
        rw [q3, ← e1, how, e11]
        exact (hK.2.1 11 _ (zvw _ (by decide))).2.1
      · have := zty_kd q1
        omega
    have hMet := hHc B xs2 hxs
    have hAl : (zyAr B xs2).length = en2.2.1 := by
      show (xs2.map Value.int).length + 1 = _
      rw [List.length_map, hxs, hna]
    have hrw := hrs
    have hlk2 : zlc me.2.2.2 ix ax pp 0 = true := hlk
    unfold zlc at hlk2
    rw [hme2] at hlk2
    simp only [Bool.or_eq_true, Bool.and_eq_true, decide_eq_true_eq] at hlk2
    have hrun : va_Run p l e { frames := dep, cells := en.2.2.2.2.2.1, slots := en.2.2.2.2.2.2.1, locals := 64 * dep } s mt args below meth c H locs 0 0 en2.2.2.2.2.2.1 en2.2.2.2.2.2.2.1 (F0 mt pc lsB ((zyAr B xs2).reverse ++ rs)) rs (zyHq mi B (Ψ2 xs2) (zyAr B xs2).toArray) (fun q => zbs B ≤ q) := by
      rcases hlk2 with ⟨hkd, hw⟩ | ⟨hkd, hw⟩
      · exact zyrow_v hexec hb hml hown hK (zwd_mem hw) hcls2 hKi rfl hAl hrw hMet rfl rfl hdp (by show 8 + (en2.2.2.1 + 11) + 64 * dep2 ≤ 64 * dep; omega) (fun a U g mk hp => ⟨hp.1, zKn.same (s := U) rfl hp.2.1, (hp.2.2.1).moved (u := U) (Vm.Alike.refl U.vm), hp.2.2.2⟩) (fun U hU hW => ⟨rfl, hK.warm hW, by rw [hU]; exact hI.moved hW.alike, by rw [hU]; exact hΦ⟩) hrc (by rw [hc0, hs0, hc2, hs2]; exact ⟨Nat.le_refl _, Nat.le_refl _⟩) hsz hd
      · exact zyrow_vN hexec hb hml hown hK (zwd_mem hw) hcls2 hKi rfl hAl hrw hMet rfl rfl hdp (by show 8 + (en2.2.2.1 + 11) + 64 * dep2 ≤ 64 * dep; omega) (fun a U g mk hp => ⟨hp.1, zKn.same (s := U) rfl hp.2.1, (hp.2.2.1).moved (u := U) (Vm.Alike.refl U.vm), hp.2.2.2⟩) (fun U hU hW => ⟨rfl, hK.warm hW, by rw [hU]; exact hI.moved hW.alike, by rw [hU]; exact hΦ⟩) hrc (by rw [hc0, hs0, hc2, hs2]; exact ⟨Nat.le_refl _, Nat.le_refl _⟩) hsz hd
    refine zycont hrun hlo (fun st₀ t vo locs2 hh0 hQ hal hlo2 => ?_)
    obtain ⟨vo2, ho, -, hI2, hΨ, hout⟩ := hQ
    cases ho
    rw [hh0] at hΨ hout
    rw [hc2, hs2]
    exact kk t.heap locs2 vo (hI2.moved hal) hout hlo2 hΨ
  · intro pc ax a n c2 v H locs lsB hrow hg h20 hn hrows hI hlo kk
    have hr := hOK.1 pc
    rw [hrow] at hr
    rcases hr with hn | ⟨hlen, hdec, pp, hlk⟩
    · cases hn
    obtain ⟨-, hd⟩ := zdec (k := 1) rfl (by decide) hlen hdec
    obtain ⟨hlt90, hsh⟩ := hI.1 _ _ hg
    have hlenc : zyLen c2 = c2.2.1 := if_neg (by omega)
    rcases hsh with ⟨q1, -⟩ | ⟨ty, cA, f, q1, q2, q3, q4⟩
    · omega
    rw [h20] at q1
    cases q1
    obtain ⟨p1, p2⟩ := zsmall (u := n) (by omega)
    refine W.iast hexec hb q2 (q3 _ _) (fun z => by cases z) (by rw [arrV_size, p2]; exact fun z => z.elim p1 (by omega)) rfl rfl hd (fun H1 f1 f2 f3 => ?_)
    rw [p2, arrV_store] at f1
    have hM0 : zyMem (mi, fun _ => [], [(a, n, n)], [], 0) (B, fun _ => 0, 0, fun _ => 0, 0, (zyEl mi B H, fun q => H[q]?), zyJ0) s [] H := zyMem_new hI (fun p hp => by cases hp)
    have hel : zyEl mi B H1 a n = some (.int v) := by
      rw [zyEl_some hg (by rw [hlenc]; exact hn), f1, Option.bind_some, if_neg (by omega), arrV_read _ _ hn]
      unfold updV
      rw [if_pos rfl]
    have hMem : zyMem (mi, fun _ => [], [(a, n, n)], [], 0) (B, fun _ => 0, 0, fun _ => 0, 0, (zyEl mi B H, fun q => H[q]?), zyJ0) s [] H1 := by
      refine zyMem.upd (s := s) (x := .int v) ⟨hK, zyJ0_p (fun p hp => by cases hp)⟩ hM0 hg (by rw [hlenc]; exact hn) f3 (Or.inr ⟨.int, cA, _, by rw [h20]; rfl, f1, q3, q4⟩) hel (fun k0 hk0 hne => ?_) (zyin_iff.mpr ⟨(a, n, n), List.mem_cons_self, rfl, Nat.le_refl _, Nat.le_refl _⟩) rfl ?_ (fun a1 c1 k1 w1 _ _ _ h => h)
      · rw [zyEl_some hg hk0, zyEl_some hg hk0, f1, q2, Option.bind_some, Option.bind_some]
        rw [hlenc] at hk0
        rw [if_neg (by omega), arrV_read _ _ hk0, arrV_read _ _ hk0]
        unfold updV
        rw [if_neg hne]
      · intro r hr r1 r2
        obtain ⟨g1, g2, g3⟩ := hrows r hr r1 r2
        refine ⟨by omega, Or.inl ⟨Or.inr (Or.inr (Or.inl ⟨g1, v, rfl, g2, g3⟩)), fun q => by omega, fun q => by omega⟩⟩
    refine kk H1 _ (hMem.base (w := (0, [])) (fun k p hp => by simp at hp) rfl) (fun q hq => hMem.2.2.2.2.2 q hq) (fun z hz => ?_) hel (fun a2 k2 hne => hMem.2.2.1 a2 k2 ?_)
    · rcases List.mem_append.mp hz with h7 | h7
      · exact hlo z h7
      · rw [List.mem_singleton] at h7
        rw [h7]
        exact zyad_ge hlt90
    · cases hq : zyin [(a, n, n)] a2 k2 with
      | false => rfl
      | true =>
        obtain ⟨p0, g1, g2, g3, g4⟩ := zyin_iff.mp hq
        rw [List.mem_singleton.mp g1] at g2 g3 g4
        exact absurd ⟨g2.symm, by dsimp only at g3 g4; omega⟩ hne
theorem zyints_cat : ∀ (q : List Int32), ((q.map Value.int).map fun v => v.category).sum = q.length := by
  intro q
  induction q with
  | nil => rfl
  | cons a t ih =>
    rw [List.map_cons, List.map_cons, List.sum_cons, ih, List.length_cons]
    exact Nat.add_comm _ _
end
section
/-! A SEMANTIC CONTRACT OUT OF PHASES -/
noncomputable def zyL0a : Nat → Nat → Nat → List Nat
  | _, 0, pad => List.replicate pad 13
  | i, n + 1, pad => zysym i :: zyL0a (i + 1) n pad
/-- the locals at the entry -/
noncomputable def zyL0 (na nL : Nat) : List Nat := 595 :: zyL0a 1 na (nL - 1 - na)
theorem zyL0a_get : ∀ {n i pad j c : Nat}, (zyL0a i n pad)[j]? = some c → ¬ c = 13 → j < n ∧ c = zysym (i + j) := by
  intro n
  induction n with
  | zero =>
    intro i pad j c h hn
    have h : (List.replicate pad 13)[j]? = some c := h
    exact absurd (List.eq_of_mem_replicate (List.mem_of_getElem? h)) hn
  | succ n ih =>
    intro i pad j c h hn
    have h : (zysym i :: zyL0a (i + 1) n pad)[j]? = some c := h
    cases j with
    | zero =>
      have h : some (zysym i) = some c := h
      cases h
      exact ⟨by omega, rfl⟩
    | succ j =>
      rw [List.getElem?_cons_succ] at h
      obtain ⟨h1, h2⟩ := ih h hn
      exact ⟨by omega, by rw [h2]; congr 1; omega⟩
theorem zyL0a_len : ∀ {n i pad : Nat}, (zyL0a i n pad).length = n + pad := by
  intro n
  induction n with
  | zero => intro i pad; rw [show zyL0a i 0 pad = List.replicate pad 13 from rfl, List.length_replicate]; omega
  | succ n ih => intro i pad; rw [show zyL0a i (n + 1) pad = zysym i :: zyL0a (i + 1) n pad from rfl, List.length_cons, ih]; omega
/-- the symbols at the entry -/
def zyρa (xs : List Int32) : Nat → Int32
  | 0 => 0
  | k + 1 => match xs[k]? with
    | some x => x
    | none => 0
theorem zyargs_mem : ∀ {xs : List Int32} {o j : Nat} {x : Int32}, xs[j]? = some x → (o + j, Value.int x) ∈ lv_args o (xs.map Value.int) := by
  intro xs
  induction xs with
  | nil => intro o j x h; simp at h
  | cons a t ih =>
    intro o j x h
    have e : lv_args o ((a :: t).map Value.int) = (o, Value.int a) :: lv_args (o + 1) (t.map Value.int) := rfl
    rw [e]
    cases j with
    | zero =>
      have h : some a = some x := h
      cases h
      exact List.mem_cons_self
    | succ j =>
      rw [List.getElem?_cons_succ] at h
      have := ih (o := o + 1) h
      rw [show o + 1 + j = o + (j + 1) by omega] at this
      exact List.mem_cons_of_mem _ this
theorem zylg_len : ∀ {xs : List Int32}, (lg_sl (xs.map Value.int)).length = xs.length := by
  intro xs
  induction xs with
  | nil => rfl
  | cons a t ih =>
    have e : lg_sl ((a :: t).map Value.int) = [Slot.val (.int a)] ++ lg_sl (t.map Value.int) := rfl
    rw [e, List.length_append, ih, List.length_cons]
    exact Nat.add_comm _ _
def zyIH (mi : zyB) (nL : Nat) (B : zCx) (s : State) {ι : Type} (φ : ι → zyPh) (Inv : ι → (Nat → Int32) → zyEm → Prop) (Mu : ι → (Nat → Int32) → zyEm → Nat) (M : Nat) (Wg : zyWt) : Prop :=
  ∀ (i : ι) (ρ : Nat → Int32) (H : Heap) (locs : List Loc) (lsB : Array Slot) (stB : List Value), zyMI mi B zyJ0 s H → zyOut mi B s.heap H → Inv i ρ (zyEl mi B H) → zySs mi B nL (φ i) ρ H locs lsB stB → Mu i ρ (zyEl mi B H) < M → Wg H locs (φ i).1 lsB stB
theorem zycutS {l : Launch} {mi : zyB} {y0 : Nat} {en : zEn} {me : zMe} (hOK : zOK y0 en me) (hc0 : en.2.2.2.2.2.1 = 0) (hs0 : en.2.2.2.2.2.2.1 = 0) (h74 : ∃ c, zG mi 74 = some c ∧ c.1 = 11) {dep na : Nat} {Φ : List Int32 → zyEm → Prop} {Ψ : List Int32 → zyEm → zyEm → Option Value → Prop} {ι : Type} (φ : ι → zyPh) (tb : ι → Nat → List zyCt) (fp : ι → zyR) (sp : ι → Nat) (xs rs : ι → List zyXp) (hCon : ∀ i, zyCons l (mi, tb i, fp i, [], sp i) zyJ0) (n : Nat)
    (hrun : ∀ i, zyok (zybtx mi (rs i)) (mi, tb i, fp i, [], sp i) (zystx mi (xs i)) n (zyln (φ i).2.2.1, (φ i).2.2.1) en.1 en.2.2.2.2 (φ i).1 (φ i).2.1 (φ i).2.2.2.2 (dep, 0, 0) [] ((φ i).2.2.2.1, []) = true)
    (i0 : ι) (hi0 : (φ i0).1 = 0 ∧ (φ i0).2.1 = zyL0 na en.2.2.1 ∧ (φ i0).2.2.2.1 = [] ∧ (φ i0).2.2.2.2 = []) (hna : na + 1 ≤ en.2.2.1 ∧ na + 1 ≤ (φ i0).2.2.1.length)
    (Inv : ι → List Int32 → zyEm → (Nat → Int32) → zyEm → Prop) (Mu : ι → List Int32 → zyEm → (Nat → Int32) → zyEm → Nat)
    (h0 : ∀ (as : List Int32) (E : zyEm), as.length = na → zyTy mi E → Φ as E → zEnv (zyρa as) (φ i0).2.2.1 ∧ Inv i0 as E (zyρa as) E)
    (hstop : ∀ (as : List Int32) (B : zCx) (s : State) (Wg : zyWt), zyRu l mi en dep B s Wg → zyTy mi (zyEl mi B s.heap) → Φ as (zyEl mi B s.heap) → as.length = na → ∀ (i : ι) (ρ : Nat → Int32) (H : Heap), zyTy mi (zyEl mi B H) → Inv i as (zyEl mi B s.heap) ρ (zyEl mi B H) → zyIH mi en.2.2.1 B s φ (fun i => Inv i as (zyEl mi B s.heap)) (fun i => Mu i as (zyEl mi B s.heap)) (Mu i as (zyEl mi B s.heap) ρ (zyEl mi B H)) Wg →
      ∀ x ∈ xs i, ∀ (ρ2 : Nat → Int32) (N2 : Nat) (H2 : Heap) (locs : List Loc) (lsB : Array Slot) (stA : List Value), zyAt mi B s en.2.2.1 x ρ2 N2 H2 locs lsB stA → zyXs x ρ2 (zyEl mi B H) (zyEl mi B H2) → (∀ k, k < (φ i).2.2.1.length → ρ2 k = ρ k) → (∀ a k, zyin (fp i) a k = false → zyEl mi B H2 a k = zyEl mi B H a k) → zyTy mi (zyEl mi B H2) → Wg H2 locs x.1 lsB stA)
    (hret : ∀ (as : List Int32) (E0 E E2 : zyEm), zyTy mi E0 → Φ as E0 → as.length = na → ∀ (i : ι) (ρ : Nat → Int32), zyTy mi E → Inv i as E0 ρ E → ∀ x ∈ rs i, ∀ (ρ2 : Nat → Int32) (N2 : Nat) (B : zCx) (vo : Option Value), zyXs x ρ2 E E2 → (∀ k, k < (φ i).2.2.1.length → ρ2 k = ρ k) → (∀ a k, zyin (fp i) a k = false → E2 a k = E a k) → zyTy mi E2 → zyvo (zyXn B ρ2 N2) x.2.2.1 vo → Ψ as E0 E2 vo) : zyHc l mi en me dep na Φ Ψ := by
  intro B as has
  have hOK' := hOK
  obtain ⟨hrow, hnum, hrk, hcn, hcls, hml40, hpl, g, hin, hg1, hgw⟩ := hOK
  refine zMet_ofW hpl ?_
  intro p e s mt args below meth c s₁ Bd hml hv
  obtain ⟨rfl, hK, hI, hΦ⟩ := hv
  have hown : s.vm.findClass me.2.2.2 = some mt.cls := by rw [← hcls]; exact findClass_of_methodNamed Bd.named
  have hll : (lg_sl (zyAr B as)).length = na + 1 := by
    have e : lg_sl (zyAr B as) = [Slot.val (.ref (zad B 74))] ++ lg_sl (as.map Value.int) := rfl
    rw [e, List.length_append, zylg_len, has]
    exact Nat.add_comm _ _
  have hent := lv_entry (zyAr B as) (n := en.2.2.1) (by rw [hll]; exact hna.1)
  rw [lg_entry_eq]
  generalize (lg_sl (zyAr B as) ++ List.replicate (en.2.2.1 - (lg_sl (zyAr B as)).length) Slot.unset).toArray = lsA at hent ⊢
  have hlocks := Bd.notSynchronized
  have hT0 := zyTy_of hI
  have hRu : zyRu l mi en dep B s (fun H locs pc lsB stA => W p l e { frames := dep, cells := en.2.2.2.2.2.1, slots := en.2.2.2.2.2.2.1, locals := 64 * dep } s mt (zyAr B as).toArray below meth c H locs 0 0 (MQ below (zyHq mi B (Ψ as)) (zyAr B as).toArray s en.2.2.2.2.2.1 en.2.2.2.2.2.2.1 (fun q => zbs B ≤ q)) (F0 mt pc lsB stA)) := zyRu_ok hOK' hc0 hs0 h74 Bd.exec Bd.bytes hml hown hK
  have hJp : zyJp [] zyJ0 := zyJ0_p (fun p hp => by cases hp)
  have claim : ∀ (M : Nat), ∀ (i : ι) (ρ : Nat → Int32) (H : Heap) (locs : List Loc) (lsB : Array Slot) (stB : List Value), zyMI mi B zyJ0 s H → zyOut mi B s.heap H → Inv i as (zyEl mi B s.heap) ρ (zyEl mi B H) → zySs mi B en.2.2.1 (φ i) ρ H locs lsB stB → Mu i as (zyEl mi B s.heap) ρ (zyEl mi B H) = M →
      W p l e { frames := dep, cells := en.2.2.2.2.2.1, slots := en.2.2.2.2.2.2.1, locals := 64 * dep } s mt (zyAr B as).toArray below meth c H locs 0 0 (MQ below (zyHq mi B (Ψ as)) (zyAr B as).toArray s en.2.2.2.2.2.1 en.2.2.2.2.2.2.1 (fun q => zbs B ≤ q)) (F0 mt (φ i).1 lsB stB) := by
    intro M
    induction M using Nat.strongRecOn with
    | ind M IH =>
      intro i ρ H locs lsB stB hIH hout hInv hSs hM
      have hr := hrun i
      rw [zyln_eq] at hr
      refine zymain (l := l) (bt := zybtx mi (rs i)) (stop := zystx mi (xs i)) (fun _ _ _ _ _ _ _ _ _ _ => rfl) n (B, ρ, (φ i).2.2.1.length, ρ, (φ i).2.2.1.length, (zyEl mi B H, fun q => H[q]?), zyJ0) y0 en me (hCon i) hOK' ((φ i).2.2.1.length, (φ i).2.2.1) (φ i).1 (φ i).2.1 (φ i).2.2.2.2 (dep, 0, 0) [] ((φ i).2.2.2.1, []) hr p e { frames := dep, cells := en.2.2.2.2.2.1, slots := en.2.2.2.2.2.2.1, locals := 64 * dep } s mt (zyAr B as).toArray below meth c _ H locs lsB stB ⟨Bd.exec, Bd.bytes, hml, hown, ⟨hK, hJp⟩, Nat.le_refl _, Nat.le_refl _, Nat.le_refl _, Nat.le_refl _⟩ (zyRl_new hIH hSs) ?_ ?_
      · intro n' ρ2 w2 v m2 H2 locs2 lsC pc vo cells slots hn' hbk hX hM2 hlo hc hs hvo hri
        have hbk : zybtx mi (rs i) w2 v m2 = true := hbk
        obtain ⟨x, hx, hxb⟩ := zyanyB_iff hbk
        obtain ⟨-, -, e2, hXs, hI2⟩ := zyxp_iff (X := zyre (B, ρ, (φ i).2.2.1.length, ρ, (φ i).2.2.1.length, (zyEl mi B H, fun q => H[q]?), zyJ0) ρ2 w2.1) (P := (mi, tb i, fp i, [], sp i)) rfl hX.1 hX.2.2 hM2 hxb
        have hout2 : zyOut mi B s.heap H2 := fun q hq => (hM2.2.2.2.2.2 q hq).trans (hout q hq)
        have hvo2 : zyvo (zyXn B ρ2 w2.1) x.2.2.1 vo := by
          rw [← e2]
          exact hvo
        have hΨ := hret as (zyEl mi B s.heap) (zyEl mi B H) (zyEl mi B H2) hT0 hΦ has i ρ (zyTy_of hIH) hInv x hx ρ2 w2.1 B vo hXs hX.2.1.2 (fun a k hf => hM2.2.2.1 a k hf) (zyTy_of hI2) hvo2
        have hq : ∀ t : State, t.heap = H2 → s.WarmedH t.vm → zyHq mi B (Ψ as) (zyAr B as).toArray s (.returned vo) t := fun t ht hW => by
          subst ht
          exact ⟨vo, rfl, hK.warm hW, hI2.moved hW.alike, hΨ, hout2⟩
        refine W.widen hc hs ?_
        rcases hri with ⟨hd, x, ty, rfl, hty, hnar⟩ | ⟨hd, x, rfl, hty⟩ | ⟨hd, rfl, hty⟩
        · exact W.zret Bd.exec Bd.bytes (by rw [Bd.returns]; exact hty) hnar hq hlo hd hlocks
        · exact W.lret Bd.exec Bd.bytes (by rw [Bd.returns]; exact hty) hq hlo hd hlocks
        · exact W.vret Bd.exec Bd.bytes (by rw [Bd.returns]; exact hty) hq hlo hd hlocks
      · intro ρ2 N2 w2 pc ls st q m2 H2 locs2 lsC stA hs hR2
        have hs : zyanyB (fun x => zyxpB mi x w2 pc ls st m2) (xs i) = true := hs
        obtain ⟨x, hx, hxb⟩ := zyanyB_iff hs
        obtain ⟨e1, e3, e2, hXs, hI2⟩ := zyxp_iff (X := zyre (B, ρ, (φ i).2.2.1.length, ρ, (φ i).2.2.1.length, (zyEl mi B H, fun q => H[q]?), zyJ0) ρ2 N2) (P := (mi, tb i, fp i, [], sp i)) rfl hR2.1.1 hR2.1.2.2.2 hR2.2.1 hxb
        have hout2 : zyOut mi B s.heap H2 := fun q hq => (hR2.2.1.2.2.2.2.2 q hq).trans (hout q hq)
        have hq1 : q.1 = dep := hR2.2.2.2.2.2.1
        have hq2 : q.2.1 ≤ en.2.2.2.2.2.1 := hR2.2.2.2.2.2.2.1
        have hq3 : q.2.2 ≤ en.2.2.2.2.2.2.1 := hR2.2.2.2.2.2.2.2
        have eq2 : q.2.1 = 0 := by omega
        have eq3 : q.2.2 = 0 := by omega
        rw [eq2, eq3, e1]
        refine hstop as B s _ hRu hT0 hΦ has i ρ H (zyTy_of hIH) hInv ?_ x hx ρ2 N2 H2 locs2 lsC stA ⟨hI2, hout2, hR2.2.2.1, ⟨hR2.2.2.2.1.2.1, hR2.2.2.2.1.2.2.1⟩, fun i c hc hn => hR2.2.2.2.1.2.2.2 i c (e3.2 i c hc hn) hn, ?_⟩ hXs hR2.1.2.2.1.2 (fun a k hf => hR2.2.1.2.2.1 a k hf) (zyTy_of hI2)
        · intro i2 ρ' H3 locs3 lsD stB3 hI3 hout3 hInv3 hSs3 hmu
          exact IH _ (by rw [← hM]; exact hmu) i2 ρ' H3 locs3 lsD stB3 hI3 hout3 hInv3 hSs3 rfl
        · rw [← e2]
          exact zySt_map (X := zyre (B, ρ, (φ i).2.2.1.length, ρ, (φ i).2.2.1.length, (zyEl mi B H, fun q => H[q]?), zyJ0) ρ2 N2) (X2 := zyXn B ρ2 N2) (fun v w h => h) hR2.2.2.2.2.1
  obtain ⟨b0, b1⟩ := h0 as (zyEl mi B s.heap) has hT0 hΦ
  obtain ⟨p0, p1, p2, p3⟩ := hi0
  have hSs : zySs mi B en.2.2.1 (φ i0) (zyρa as) s.heap [] lsA [] → W p l e { frames := dep, cells := en.2.2.2.2.2.1, slots := en.2.2.2.2.2.2.1, locals := 64 * dep } s mt (zyAr B as).toArray below meth c s.heap [] 0 0 (MQ below (zyHq mi B (Ψ as)) (zyAr B as).toArray s en.2.2.2.2.2.1 en.2.2.2.2.2.2.1 (fun q => zbs B ≤ q)) (F0 mt 0 lsA []) := fun h => by
    have hfin := claim _ i0 (zyρa as) s.heap [] lsA [] hI (fun q _ => rfl) b1 h rfl
    rw [p0] at hfin
    exact hfin
  refine hSs ⟨fun x hx => (by cases hx), ⟨hent.1, hent.2.1⟩, ⟨?_, fun i c hc hn => ?_⟩, b0, ?_, ?_⟩
  · rw [p1]
    show (zyL0a 1 na (en.2.2.1 - 1 - na)).length + 1 = _
    rw [zyL0a_len]
    omega
  · rw [p1] at hc
    cases i with
    | zero =>
      have hc : some 595 = some c := hc
      cases hc
      exact ⟨.ref (zad B 74), hent.2.2 (0, .ref (zad B 74)) List.mem_cons_self, Or.inl ⟨Or.inr (Or.inr (Or.inr (Or.inl ⟨rfl, rfl⟩))), fun q => by omega, fun q => by omega⟩⟩
    | succ i =>
      have hc : (zyL0a 1 na (en.2.2.1 - 1 - na))[i]? = some c := hc
      obtain ⟨q1, q2⟩ := zyL0a_get hc hn
      obtain ⟨x, hx⟩ : ∃ x, as[i]? = some x := ⟨as[i]'(by omega), List.getElem?_eq_getElem (by omega)⟩
      refine ⟨.int x, ?_, ?_⟩
      · have hm := zyargs_mem (o := 1) hx
        rw [Nat.add_comm 1 i] at hm
        exact hent.2.2 (i + 1, .int x) (List.mem_cons_of_mem _ hm)
      · rw [q2, Nat.add_comm 1 i]
        refine zyv_sym (by omega) ?_
        show (match as[i]? with
          | some x => x
          | none => 0) = x
        rw [hx]
  · rw [p3]
    trivial
  · rw [p2]
    exact fun p hp => by cases hp
end
section
/-! from a stop to the next phase -/
noncomputable def zygoL (cs : List Nat) (ls2 : List Nat) : Nat → List Nat → Bool := List.rec (motive := fun _ => Nat → List Nat → Bool) (fun _ _ => true) (fun c2 _ ih i ls1 => List.rec (motive := fun _ => Bool) false (fun c1 t _ => zand (zif (Nat.beq c2 13) true (zif (zand (Nat.beq c2 (zysym i)) (zand (Nat.beq (zyag cs i) c1) (zyk1b c1))) true (zand (Nat.beq c1 c2) (zif (Nat.beq (Nat.mod c1 8) 1) false true)))) (ih (Nat.succ i) t)) ls1) ls2
theorem zygoL_iff {cs : List Nat} : ∀ {ls2 : List Nat} {i : Nat} {ls1 : List Nat}, zygoL cs ls2 i ls1 = true → ∀ (j c2 : Nat), ls2[j]? = some c2 → ¬ c2 = 13 → ∃ c1, ls1[j]? = some c1 ∧ ((c2 = zysym (i + j) ∧ zyag cs (i + j) = c1 ∧ c1 % 8 ≤ 1) ∨ (c1 = c2 ∧ ¬ c1 % 8 = 1)) := by
  intro ls2
  induction ls2 with
  | nil => intro i ls1 _ j c2 h; simp at h
  | cons a t ih =>
    intro i ls1 h j c2 hc hn
    cases ls1 with
    | nil => cases h
    | cons c1 u =>
      have h : zand (zif (Nat.beq a 13) true (zif (zand (Nat.beq a (zysym i)) (zand (Nat.beq (zyag cs i) c1) (zyk1b c1))) true (zand (Nat.beq c1 a) (zif (Nat.beq (Nat.mod c1 8) 1) false true)))) (zygoL cs t (i + 1) u) = true := h
      obtain ⟨h1, h2⟩ := zand_iff h
      cases j with
      | zero =>
        have hc : some a = some c2 := hc
        cases hc
        refine ⟨c1, rfl, ?_⟩
        rcases zif_iff h1 with ⟨q, -⟩ | ⟨-, q⟩
        · exact absurd (zbeqT q) hn
        rcases zif_iff q with ⟨q, -⟩ | ⟨-, q⟩
        · obtain ⟨q1, q2⟩ := zand_iff q
          obtain ⟨q2, q3⟩ := zand_iff q2
          exact Or.inl ⟨zbeqT q1, zbeqT q2, zbleT q3⟩
        · obtain ⟨q1, q2⟩ := zand_iff q
          rcases zif_iff q2 with ⟨-, k⟩ | ⟨w, -⟩
          · cases k
          · exact Or.inr ⟨zbeqT q1, zbeqF w⟩
      | succ j =>
        rw [List.getElem?_cons_succ] at hc
        obtain ⟨c3, g1, g2⟩ := ih h2 j c2 hc hn
        rw [show i + 1 + j = i + (j + 1) by omega] at g2
        exact ⟨c3, by rw [List.getElem?_cons_succ]; exact g1, g2⟩
noncomputable def zygoB (nL : Nat) (ls1 : List Nat) (φ2 : zyPh) (cs : List Nat) : Bool := zand (zygoL cs φ2.2.1 0 ls1) (zand (Nat.beq (zyln φ2.2.1) nL) (Nat.ble nL (zyln φ2.2.2.1)))
theorem zyAss {mi : zyB} {B : zCx} {s : State} {nL : Nat} {x : zyXp} {ρ2 : Nat → Int32} {N : Nat} {H : Heap} {locs : List Loc} {lsB : Array Slot} {stA : List Value} (hAt : zyAt mi B s nL x ρ2 N H locs lsB stA) {φ2 : zyPh} {cs : List Nat} (hchk : zygoB nL x.2.1 φ2 cs = true) {ρ' : Nat → Int32} (hρ : ∀ i, i < nL → ρ' i = zyw ρ2 (zyag cs i)) (henv : zEnv ρ' φ2.2.2.1) {H' : Heap} {locs' : List Loc} {stB : List Value} (hlo : ∀ x ∈ locs', zbs B ≤ x.base) (hst : zySt (zyXn B ρ' φ2.2.2.1.length) φ2.2.2.2.2 stB)
    (hkc : ∀ p ∈ φ2.2.2.2.1, ∃ (c : zyCl) (w : Value), zG mi (p.1 / 16384) = some c ∧ p.1 % 16384 < zyLen c ∧ zyEl mi B H' (p.1 / 16384) (p.1 % 16384) = some w ∧ zyv ρ' φ2.2.2.1.length (zad B) p.2 w) : zySs mi B nL φ2 ρ' H' locs' lsB stB := by
  obtain ⟨h1, h2⟩ := zand_iff hchk
  obtain ⟨h2, h3⟩ := zand_iff h2
  have h2 := zbeqT h2
  have h3 := zbleT h3
  rw [zyln_eq] at h2 h3
  refine ⟨hlo, hAt.2.2.2.1, ⟨h2, fun i c hc hn => ?_⟩, henv, hst, hkc⟩
  have hi : i < nL := by
    rw [← h2]
    exact (List.getElem?_eq_some_iff.mp hc).1
  obtain ⟨c1, g1, g2⟩ := zygoL_iff h1 i c hc hn
  rw [Nat.zero_add] at g2
  rcases g2 with ⟨e1, e2, e3⟩ | ⟨e1, e2⟩
  · obtain ⟨w, q1, q2⟩ := hAt.2.2.2.2.1 i c1 g1 (fun q => by rw [q] at e3; exact absurd e3 (by decide))
    obtain ⟨z, rfl⟩ := zyv_int q2 (by omega)
    refine ⟨_, q1, ?_⟩
    rw [e1]
    refine zyv_sym (by omega) ?_
    rw [hρ i hi, e2]
    exact (zyw_of q2 e3).symm
  · obtain ⟨w, q1, q2⟩ := hAt.2.2.2.2.1 i c1 g1 (fun q => hn (e1.symm.trans q))
    rw [e1] at q2 e2
    exact ⟨w, q1, zyv_cl e2 q2⟩
section YGO
variable {l : Launch} {mi : zyB} {en : zEn} {dep : Nat} {B : zCx} {s : State} {ι : Type} {φ : ι → zyPh} {Inv : ι → (Nat → Int32) → zyEm → Prop} {Mu : ι → (Nat → Int32) → zyEm → Nat} {M : Nat} {Wg : zyWt} {x : zyXp} {ρ2 : Nat → Int32} {N : Nat} {H : Heap} {locs : List Loc} {lsB : Array Slot} {stA : List Value}
/-- with elements that are known -/
theorem zyGoK {nL : Nat} (hIH : zyIH mi nL B s φ Inv Mu M Wg) (hAt : zyAt mi B s nL x ρ2 N H locs lsB stA) (i2 : ι) (cs : List Nat) (hpc : x.1 = (φ i2).1) (hchk : zand (zygoB nL x.2.1 (φ i2) cs) (zand (zynil x.2.2.1) (zynil (φ i2).2.2.2.2)) = true) (henv : zEnv (fun k => zyw ρ2 (zyag cs k)) (φ i2).2.2.1)
    (hkc : ∀ p ∈ (φ i2).2.2.2.1, ∃ (c : zyCl) (k : Nat), zG mi (p.1 / 16384) = some c ∧ p.1 % 16384 < zyLen c ∧ p.2 = zysym k ∧ k < (φ i2).2.2.1.length ∧ zyEl mi B H (p.1 / 16384) (p.1 % 16384) = some (.int (zyw ρ2 (zyag cs k)))) (hInv : Inv i2 (fun k => zyw ρ2 (zyag cs k)) (zyEl mi B H)) (hMu : Mu i2 (fun k => zyw ρ2 (zyag cs k)) (zyEl mi B H) < M) : Wg H locs x.1 lsB stA := by
  obtain ⟨h1, h2⟩ := zand_iff hchk
  obtain ⟨h2, h3⟩ := zand_iff h2
  rw [hpc]
  refine hIH i2 _ H locs lsB stA hAt.1 hAt.2.1 hInv (zyAss hAt h1 (fun _ _ => rfl) henv hAt.2.2.1 ?_ ?_) hMu
  · have e1 : x.2.2.1 = [] := by
      cases hq : x.2.2.1 with
      | nil => rfl
      | cons a t => rw [hq] at h2; cases h2
    have e2 : (φ i2).2.2.2.2 = [] := by
      cases hq : (φ i2).2.2.2.2 with
      | nil => rfl
      | cons a t => rw [hq] at h3; cases h3
    have h5 := hAt.2.2.2.2.2
    rw [e1] at h5
    rw [e2, zySt_n h5]
    trivial
  · intro p hp
    obtain ⟨c, k, q1, q2, q3, q4, q5⟩ := hkc p hp
    exact ⟨c, _, q1, q2, q5, by rw [q3]; exact zyv_sym q4 rfl⟩
theorem zyGo {nL : Nat} (hIH : zyIH mi nL B s φ Inv Mu M Wg) (hAt : zyAt mi B s nL x ρ2 N H locs lsB stA) (i2 : ι) (cs : List Nat) (hpc : x.1 = (φ i2).1) (hchk : zand (zygoB nL x.2.1 (φ i2) cs) (zand (zynil x.2.2.1) (zynil (φ i2).2.2.2.2)) = true) (hkc : (φ i2).2.2.2.1 = []) (henv : zEnv (fun k => zyw ρ2 (zyag cs k)) (φ i2).2.2.1)
    (hInv : Inv i2 (fun k => zyw ρ2 (zyag cs k)) (zyEl mi B H)) (hMu : Mu i2 (fun k => zyw ρ2 (zyag cs k)) (zyEl mi B H) < M) : Wg H locs x.1 lsB stA := zyGoK hIH hAt i2 cs hpc hchk henv (fun p hp => by rw [hkc] at hp; cases hp) hInv hMu
theorem zySt_ints {ρ : Nat → Int32} : ∀ {cs : List Nat} {q : List Value}, (∀ c ∈ cs, c % 8 ≤ 1) → zySt (zyXn B ρ N) cs q → q = (cs.map (zyw ρ)).map Value.int := by
  intro cs
  induction cs with
  | nil => intro q _ h; exact zySt_n h
  | cons a t ih =>
    intro q hk h
    obtain ⟨b, u, rfl, h1, h2⟩ := zySt_c h
    have ha := hk a List.mem_cons_self
    obtain ⟨z, rfl⟩ := zyv_int h1 (by omega)
    rw [ih (fun c hc => hk c (List.mem_cons_of_mem _ hc)) h2, zyw_of h1 ha]
    rfl
/-- a call by hand: cs2 its arguments -/
theorem zyCa (hRu : zyRu l mi en dep B s Wg) (hIH : zyIH mi en.2.2.1 B s φ Inv Mu M Wg) (hAt : zyAt mi B s en.2.2.1 x ρ2 N H locs lsB stA) {ix ax : Nat} (hrow : en.1 x.1 = (.invokevirtual ix, x.1 + 3, ax)) {en2 : zEn} {me2 : zMe} {dep2 na2 : Nat} {Φ2 : List Int32 → zyEm → Prop} {Ψ2 : List Int32 → zyEm → zyEm → Option Value → Prop} (hkd : zG zKd (ax / 16) = some 0) (hen2 : zG zxMeta (ax / 16) = some en2) (hme2 : zG zMeth (ax / 16) = some me2) (hsh : en2.2.2.2.1 = 11 ∧ en2.2.1 = na2 + 1 ∧ en2.2.2.2.2.2.1 = 0 ∧ en2.2.2.2.2.2.2.1 = 0) (hHc : zyHc l mi en2 me2 dep2 na2 Φ2 Ψ2) (hdp : dep2 + 1 ≤ dep) (cs2 cr : List Nat) (hcs2 : x.2.2.1 = cs2.reverse ++ 595 :: cr) (hk : ∀ c ∈ cs2, c % 8 ≤ 1) (hkr : cr.length ≤ 8 ∧ ∀ c ∈ cr, c % 8 ≤ 1) (hlen : cs2.length = na2) (hΦ : Φ2 (cs2.map (zyw ρ2)) (zyEl mi B H))
    (kk : ∀ (H3 : Heap) (vo : Option Value), zyTy mi (zyEl mi B H3) → Ψ2 (cs2.map (zyw ρ2)) (zyEl mi B H) (zyEl mi B H3) vo → ∃ (i2 : ι) (ρ' : Nat → Int32) (cs : List Nat), (φ i2).1 = x.1 + 3 ∧ zygoB en.2.2.1 x.2.1 (φ i2) cs = true ∧ (∀ i, i < en.2.2.1 → ρ' i = zyw ρ2 (zyag cs i)) ∧ zEnv ρ' (φ i2).2.2.1 ∧ (φ i2).2.2.2.1 = [] ∧ zySt (zyXn B ρ' (φ i2).2.2.1.length) (φ i2).2.2.2.2 (vo.toList ++ (cr.map (zyw ρ2)).map Value.int) ∧ Inv i2 ρ' (zyEl mi B H3) ∧ Mu i2 ρ' (zyEl mi B H3) < M) : Wg H locs x.1 lsB stA := by
  have hst := hAt.2.2.2.2.2
  rw [hcs2] at hst
  obtain ⟨q1, q2, rfl, g1, g2⟩ := zySt_split hst
  have e1 := zySt_ints (fun c hc => hk c (List.mem_reverse.mp hc)) g1
  obtain ⟨b, u, rfl, g3, g4⟩ := zySt_c g2
  have e2 := zySt_ints hkr.2 g4
  have e3 : b = .ref (zad B 74) := zyv_3 (v := 595) g3 (by decide)
  have e4 : q1 ++ b :: u = (zyAr B (cs2.map (zyw ρ2))).reverse ++ (cr.map (zyw ρ2)).map Value.int := by
    rw [e1, e2, e3]
    unfold zyAr
    rw [List.reverse_cons, List.map_reverse, List.map_reverse, List.append_assoc]
    rfl
  rw [e4]
  refine hRu.1 x.1 ix ax en2 me2 dep2 na2 Φ2 Ψ2 _ _ H locs lsB (by rw [zyints_cat, List.length_map]; exact hkr.1) hrow hkd hen2 hme2 hsh.1 hsh.2.1 hsh.2.2.1 hsh.2.2.2 hHc hdp (by rw [List.length_map]; exact hlen) hAt.1 hAt.2.2.1 hAt.2.2.2.1.1 hΦ (fun H3 locs3 vo hI3 hO3 hlo3 hΨ => ?_)
  obtain ⟨i2, ρ', cs, k1, k2, k3, k4, k5, k6, k7, k8⟩ := kk H3 vo (zyTy_of hI3) hΨ
  rw [← k1]
  exact hIH i2 ρ' H3 locs3 lsB _ hI3 (fun q hq => (hO3 q hq).trans (hAt.2.1 q hq)) k7 (zyAss hAt k2 k3 k4 hlo3 k6 (fun p hp => by rw [k5] at hp; cases hp)) k8
/-- an element by hand -/
theorem zyAs (hRu : zyRu l mi en dep B s Wg) (hIH : zyIH mi en.2.2.1 B s φ Inv Mu M Wg) (hAt : zyAt mi B s en.2.2.1 x ρ2 N H locs lsB stA) {ax a n : Nat} {c : zyCl} (hrow : en.1 x.1 = (.iastore, x.1 + 1, ax)) (hg : zG mi a = some c) (h20 : c.1 = 20) (hn : n < c.2.1) {cv cj : Nat} (hst : x.2.2.1 = [cv, cj, 8 * a + 3]) (hkv : cv % 8 ≤ 1) (hkj : cj % 8 ≤ 1) (hj : zyw ρ2 cj = Int32.ofNat n) (hrows : ∀ r ∈ c.2.2, r.1 ≤ n → n ≤ r.2.1 → r.2.2 % 8 = 2 ∧ r.2.2 / 34359738368 ≤ zB (zyw ρ2 cv) ∧ zB (zyw ρ2 cv) ≤ r.2.2 / 8 % 4294967296)
    (kk : ∀ (H3 : Heap), zyTy mi (zyEl mi B H3) → zyEl mi B H3 a n = some (.int (zyw ρ2 cv)) → (∀ a2 k2, ¬ (a2 = a ∧ k2 = n) → zyEl mi B H3 a2 k2 = zyEl mi B H a2 k2) → ∃ (i2 : ι) (cs : List Nat), (φ i2).1 = x.1 + 1 ∧ zygoB en.2.2.1 x.2.1 (φ i2) cs = true ∧ zEnv (fun k => zyw ρ2 (zyag cs k)) (φ i2).2.2.1 ∧ (φ i2).2.2.2.1 = [] ∧ (φ i2).2.2.2.2 = [] ∧ Inv i2 (fun k => zyw ρ2 (zyag cs k)) (zyEl mi B H3) ∧ Mu i2 (fun k => zyw ρ2 (zyag cs k)) (zyEl mi B H3) < M) : Wg H locs x.1 lsB stA := by
  have hs := hAt.2.2.2.2.2
  rw [hst] at hs
  obtain ⟨v0, t0, rfl, a0, hs⟩ := zySt_c hs
  obtain ⟨v1, t1, rfl, a1, hs⟩ := zySt_c hs
  obtain ⟨v2, t2, rfl, a2, hs⟩ := zySt_c hs
  have e3 := zySt_n hs
  subst e3
  obtain ⟨z0, rfl⟩ := zyv_int a0 (by omega)
  obtain ⟨z1, rfl⟩ := zyv_int a1 (by omega)
  have e2 := zyv_3 a2 (by omega)
  rw [show (8 * a + 3) / 8 = a by omega] at e2
  have e0 : z0 = zyw ρ2 cv := zyw_of a0 hkv
  have e1 : z1 = zyw ρ2 cj := zyw_of a1 hkj
  have e2 : v2 = .ref (zad B a) := e2
  rw [e2, e0, e1, hj]
  refine hRu.2 x.1 ax a n c _ H locs lsB hrow hg h20 hn hrows hAt.1 hAt.2.2.1 (fun H3 locs3 hI3 hO3 hlo3 h1 h2 => ?_)
  obtain ⟨i2, cs, k1, k2, k4, k5, k6, k7, k8⟩ := kk H3 (zyTy_of hI3) h1 h2
  rw [← k1]
  refine hIH i2 _ H3 locs3 lsB [] hI3 (fun q hq => (hO3 q hq).trans (hAt.2.1 q hq)) k7 (zyAss hAt k2 (fun _ _ => rfl) k4 hlo3 ?_ (fun p hp => by rw [k5] at hp; cases hp)) k8
  rw [k6]
  trivial
end YGO
end
section
/-! phases: lays, comesFrom, isEnded (printed by yex1.py) -/
noncomputable def zxla_ax0 : zyXp := (11, [595, 13, 13, 13], [103079215105, 171798691841, 651], [(3, 137438953473, 64, 34359738369), (1, 171798691841, 137438953473, 68719476737)], [(34359738369, 2147483648, 2147484947), (68719476737, 2147483648, 2147483655), (103079215105, 2147483648, 2147483655), (137438953473, 2147483648, 2147494040), (171798691841, 2147483648, 2147494047)], [])
noncomputable def zpla_a : zyPh := (0, [595, 34359738369, 68719476737, 103079215105], [(0, 4294967295), (2147483648, 2147484947), (2147483648, 2147483655), (2147483648, 2147483655)], [], [])
noncomputable def zxla_br0 : zyXp := (0, [], [], [], [], [])
noncomputable def zpla_b : zyPh := (12, [595, 13, 13, 13], [(0, 4294967295), (0, 4294967295), (0, 4294967295), (0, 4294967295)], [], [])
noncomputable def zpla (i : Nat) : zyPh := zif (Nat.beq i 0) (zpla_a) (zpla_b)
noncomputable def zXla (i : Nat) : List zyXp := zif (Nat.beq i 0) ([zxla_ax0]) ([])
noncomputable def zRla (i : Nat) : List zyXp := zif (Nat.beq i 0) ([]) ([zxla_br0])
noncomputable def zFla (i : Nat) : zyR := zif (Nat.beq i 0) ([]) ([])
noncomputable def zSla (i : Nat) : Nat := zif (Nat.beq i 0) (0) (0)
noncomputable def zxcf_ax0 : zyXp := (2, [595, 34359738369, 68719476737, 0], [], [], [(34359738369, 2147483648, 2147484947), (68719476737, 2147483648, 2147483655)], [])
noncomputable def zpcf_a : zyPh := (0, [595, 34359738369, 68719476737, 13], [(0, 4294967295), (2147483648, 2147484947), (2147483648, 2147483655), (0, 4294967295)], [], [])
noncomputable def zxcf_bx0 : zyXp := (2, [595, 34359738369, 68719476737, 103079215113], [], [(3, 137438953473, 64, 34359738369), (1, 171798691841, 137438953473, 103079215105), (24, 206158430209, 81, 171798691841), (23, 0, 206158430209, 68719476737)], [(34359738369, 2147483648, 2147484947), (68719476737, 2147483648, 2147483655), (103079215105, 2147483648, 2147483655), (137438953473, 2147483648, 2147494040), (171798691841, 2147483648, 2147494047), (206158430209, 2147483648, 2147483655)], [])
noncomputable def zxcf_br0 : zyXp := (0, [], [103079215105], [(3, 137438953473, 64, 34359738369), (1, 171798691841, 137438953473, 103079215105), (24, 206158430209, 81, 171798691841), (22, 0, 206158430209, 68719476737)], [(34359738369, 2147483648, 2147484947), (68719476737, 2147483648, 2147483655), (103079215105, 2147483648, 2147483655), (137438953473, 2147483648, 2147494040), (171798691841, 2147483648, 2147494047), (206158430209, 2147483648, 2147483655)], [])
noncomputable def zpcf_b : zyPh := (2, [595, 34359738369, 68719476737, 103079215105], [(0, 4294967295), (2147483648, 2147484947), (2147483648, 2147483655), (2147483648, 2147483655)], [], [])
noncomputable def zpcf (i : Nat) : zyPh := zif (Nat.beq i 0) (zpcf_a) (zpcf_b)
noncomputable def zXcf (i : Nat) : List zyXp := zif (Nat.beq i 0) ([zxcf_ax0]) ([zxcf_bx0])
noncomputable def zRcf (i : Nat) : List zyXp := zif (Nat.beq i 0) ([]) ([zxcf_br0])
noncomputable def zFcf (i : Nat) : zyR := zif (Nat.beq i 0) ([]) ([])
noncomputable def zScf (i : Nat) : Nat := zif (Nat.beq i 0) (0) (0)
noncomputable def zxie_ax0 : zyXp := (3, [595, 34359738369, 68719476737], [68719476737, 34359738369, 595], [], [(34359738369, 2147483648, 2147484947), (68719476737, 2147483648, 2147483654)], [])
noncomputable def zpie_a : zyPh := (0, [595, 34359738369, 68719476737], [(0, 4294967295), (2147483648, 2147484947), (2147483648, 2147483654)], [], [])
noncomputable def zxie_bx0 : zyXp := (11, [595, 34359738369, 68719476737], [68719476745, 34359738369, 595, 103079215105], [], [(34359738369, 2147483648, 2147484947), (68719476737, 2147483648, 2147483654), (103079215105, 2147483648, 2147483655)], [])
noncomputable def zpie_b : zyPh := (6, [595, 34359738369, 68719476737], [(0, 4294967295), (2147483648, 2147484947), (2147483648, 2147483654), (2147483648, 2147483655)], [], [103079215105])
noncomputable def zxie_cr0 : zyXp := (0, [], [8], [(20, 0, 137438953473, 103079215105)], [(103079215105, 2147483649, 2147483655), (137438953473, 2147483648, 2147483654)], [])
noncomputable def zxie_cr1 : zyXp := (0, [], [0], [(21, 0, 137438953473, 103079215105)], [(103079215105, 2147483648, 2147483655), (137438953473, 2147483648, 2147483655)], [])
noncomputable def zpie_c : zyPh := (14, [595, 13, 13], [(0, 4294967295), (0, 4294967295), (0, 4294967295), (2147483648, 2147483655), (2147483648, 2147483655)], [], [137438953473, 103079215105])
noncomputable def zpie (i : Nat) : zyPh := zif (Nat.beq i 0) (zpie_a) (zif (Nat.beq i 1) (zpie_b) (zpie_c))
noncomputable def zXie (i : Nat) : List zyXp := zif (Nat.beq i 0) ([zxie_ax0]) (zif (Nat.beq i 1) ([zxie_bx0]) ([]))
noncomputable def zRie (i : Nat) : List zyXp := zif (Nat.beq i 0) ([]) (zif (Nat.beq i 1) ([]) ([zxie_cr0, zxie_cr1]))
noncomputable def zFie (i : Nat) : zyR := zif (Nat.beq i 0) ([]) (zif (Nat.beq i 1) ([]) ([]))
noncomputable def zSie (i : Nat) : Nat := zif (Nat.beq i 0) (0) (zif (Nat.beq i 1) (0) (0))
end
section
/-! THE SIMPLE BRAIDS: an element is laid -/
noncomputable def zyrS (mi : zyB) (cf : Nat → zT) (yy : zY) (dep : Nat) (φ : Nat → zyPh) (tb : Nat → Nat → List zyCt) (fp : Nat → zyR) (sp : Nat → Nat) (xs rs : Nat → List zyXp) (k : Nat) : Bool := zyAll (fun i => zyok (zybtx mi (rs i)) (mi, tb i, fp i, [], sp i) (zystx mi (xs i)) 200000 (zyln (φ i).2.2.1, (φ i).2.2.1) cf yy (φ i).1 (φ i).2.1 (φ i).2.2.2.2 (dep, 0, 0) [] ((φ i).2.2.2.1, [])) k
theorem zEnv_nil {ρ : Nat → Int32} : zEnv ρ [] := fun k p hp => by simp at hp
theorem zEnv_c {ρ : Nat → Int32} {p : Nat × Nat} {t : List (Nat × Nat)} (h : p.1 ≤ zB (ρ 0) ∧ zB (ρ 0) ≤ p.2) (ht : zEnv (fun k => ρ (k + 1)) t) : zEnv ρ (p :: t) := by
  intro k q hq
  cases k with
  | zero =>
    have hq : some p = some q := hq
    cases hq
    exact h
  | succ k =>
    rw [List.getElem?_cons_succ] at hq
    exact ht k q hq
theorem zyfr0 {E E2 : zyEm} (h : ∀ a k, zyin [] a k = false → E2 a k = E a k) : E2 = E := by
  funext a k
  exact h a k rfl
theorem zyvo_0 {X : zyX} {vo : Option Value} (h : zyvo X [] vo) : vo = none := by
  cases vo with
  | none => rfl
  | some x => exact h.elim
theorem zyvo_1 {B : zCx} {ρ : Nat → Int32} {N c : Nat} {vo : Option Value} (hc : c % 8 ≤ 1) (h : zyvo (zyXn B ρ N) [c] vo) : vo = some (.int (zyw ρ c)) := by
  cases vo with
  | none => exact h.elim
  | some x =>
    have h : zyv ρ N (zad B) c x := h
    obtain ⟨z, rfl⟩ := zyv_int h (by omega)
    rw [zyw_of h hc]
theorem zyOn {x : Int32} (h : 2147483648 ≤ zB x) : x = Int32.ofNat (zyN1 x) ∧ zyN1 x + 2147483648 = zB x := by
  have e := zyN1_lo h
  exact ⟨(zN_self x).symm, by omega⟩
theorem zyBn {n : Nat} (h : n < 2147483648) : zB (Int32.ofNat n) = n + 2147483648 := zB_nI h
theorem zyOi {a b : Nat} (ha : a < 4294967296) (hb : b < 4294967296) (h : Int32.ofNat a = Int32.ofNat b) : a = b := by
  have e := congrArg zyN1 h
  rwa [zyN1_of ha, zyN1_of hb] at e
theorem zyOa (a b : Nat) : Int32.ofNat a + Int32.ofNat b = Int32.ofNat (a + b) := (Int32.ofNat_add a b).symm
theorem zyOm (a b : Nat) : Int32.ofNat a * Int32.ofNat b = Int32.ofNat (a * b) := (Int32.ofNat_mul a b).symm
theorem zyOs {a b : Nat} (h : b ≤ a) : Int32.ofNat a - Int32.ofNat b = Int32.ofNat (a - b) := by
  have e : Int32.ofNat a = Int32.ofNat (a - b) + Int32.ofNat b := by rw [zyOa]; congr 1; omega
  rw [e]
  exact Int32.add_sub_cancel _ _
theorem zyOl {a b : Nat} (ha : a < 2147483648) (hb : b < 2147483648) : Int32.ofNat a < Int32.ofNat b ↔ a < b := by
  have e1 := zyBn ha
  have e2 := zyBn hb
  have e3 := zB_int (Int32.ofNat a)
  have e4 := zB_int (Int32.ofNat b)
  rw [Int32.lt_iff_toInt_lt]
  omega
/-- a place of a simple braid -/
def zfv (E : zyEm) (i : Nat) : Nat := zyN1 (zyI E 81 i)
theorem zfv_el {r c : Nat} {E : zyEm} (hT : zyTy (zymr r c) E) {i : Nat} (hi : i < 10400) : E 81 i = some (.int (Int32.ofNat (zfv E i))) ∧ zfv E i < 8 := by
  obtain ⟨x, h1, h2, h3⟩ := (hT 81 (20, 10400, [(0, 10399, 73786976312018075706)]) i rfl (show i < 10400 from hi) (0, 10399, 73786976312018075706) List.mem_cons_self (Nat.zero_le _) (by dsimp only; omega)).1 rfl
  have h2 : 2147483648 ≤ zB x := h2
  have h3 : zB x ≤ 2147483655 := h3
  have e : zfv E i = zyN1 x := by
    unfold zfv zyI
    rw [h1]
  obtain ⟨q1, q2⟩ := zyOn h2
  rw [e]
  exact ⟨by rw [h1, ← q1], by omega⟩
/-- one place is laid -/
def zyUp (E E2 : zyEm) (i t : Nat) : Prop := E2 81 i = some (.int (Int32.ofNat t)) ∧ ∀ a k, ¬ (a = 81 ∧ k = i) → E2 a k = E a k
theorem zyUp_v {E E2 : zyEm} {i t : Nat} (h : zyUp E E2 i t) (ht : t < 8) (j : Nat) : zfv E2 j = if j = i then t else zfv E j := by
  unfold zfv
  by_cases e : j = i
  · subst e
    rw [if_pos rfl]
    unfold zyI
    rw [h.1]
    exact zyN1_of (by omega)
  · rw [if_neg e, zyI_eq (h.2 81 j (fun q => e q.2))]
def zyΦla (as : List Int32) (_ : zyEm) : Prop := ∃ f p t : Nat, as = [Int32.ofNat f, Int32.ofNat p, Int32.ofNat t] ∧ f < 1300 ∧ p < 8 ∧ t < 8
def zyΨla (as : List Int32) (E E2 : zyEm) (vo : Option Value) : Prop := vo = none ∧ ∀ f p t : Nat, as = [Int32.ofNat f, Int32.ofNat p, Int32.ofNat t] → f < 1300 → p < 8 → t < 8 → zyUp E E2 (8 * f + p) t
theorem zylays_run : zyAllP (fun r c => zyrS (zymr r c) zxi227 (227, 0, 0, 0, 0) 1 zpla (fun _ _ => []) zFla zSla zXla zRla 2) = true := by decide +kernel
theorem zylays {l : Launch} {r c : Nat} (h1 : 1 ≤ r) (h2 : r ≤ 4) (h3 : 1 ≤ c) (h4 : c ≤ 5) {en : zEn} {me : zMe} (hen : zG zxMeta 227 = some en) (hme : zG zMeth 227 = some me) : zyHc l (zymr r c) en me 1 3 zyΦla zyΨla := by
  have een : zG zxMeta 227 = some (zxi227, 4, 4, 11, 227, 0, 0, 0, 0) := rfl
  obtain ⟨me1, hme1, hOK⟩ := zall hen
  rw [hme] at hme1
  cases hme1
  rw [een] at hen
  cases hen
  have hr := zyAllP_iff zylays_run h1 h2 h3 h4
  refine zycutS (mi := zymr r c) hOK rfl rfl ⟨_, rfl, rfl⟩ (ι := Fin 2) (fun i => zpla i.val) (fun _ _ => []) (fun i => zFla i.val) (fun i => zSla i.val) (fun i => zXla i.val) (fun i => zRla i.val) (fun i y2 ct en2 me2 h => by cases h) 200000 (fun i => zyAll_iff hr i.val i.isLt) ⟨0, by decide⟩ ⟨rfl, rfl, rfl, rfl⟩ ⟨by decide, by decide⟩
    (fun i as E0 ρ E => if i.val = 0 then E = E0 ∧ as = [ρ 1, ρ 2, ρ 3] else zyΨla as E0 E none) (fun i _ _ _ _ => 1 - i.val) ?_ ?_ ?_
  · intro as E hlen hT hΦ
    obtain ⟨f, p, t, rfl, b1, b2, b3⟩ := hΦ
    refine ⟨zEnv_c (zyfull _) (zEnv_c ?_ (zEnv_c ?_ (zEnv_c ?_ zEnv_nil))), rfl, rfl⟩
    · show 2147483648 ≤ zB (Int32.ofNat f) ∧ zB (Int32.ofNat f) ≤ 2147484947
      rw [zyBn (by omega)]
      omega
    · show 2147483648 ≤ zB (Int32.ofNat p) ∧ zB (Int32.ofNat p) ≤ 2147483655
      rw [zyBn (by omega)]
      omega
    · show 2147483648 ≤ zB (Int32.ofNat t) ∧ zB (Int32.ofNat t) ≤ 2147483655
      rw [zyBn (by omega)]
      omega
  · intro as B s Wg hRu hT0 hΦ hlen i ρ H hT hInv hIH x hx ρ2 N2 H2 locs lsB stA hAt hXs hag hfr hT2
    rcases i with ⟨i, hi⟩
    have hi2 : i = 0 ∨ i = 1 := by omega
    rcases hi2 with rfl | rfl
    rotate_left
    · cases hx
    have hx : x ∈ [zxla_ax0] := hx
    have ex := List.mem_singleton.mp hx
    subst ex
    obtain ⟨hE, has⟩ := (show zyEl (zymr r c) B H = zyEl (zymr r c) B s.heap ∧ as = [ρ 1, ρ 2, ρ 3] from hInv)
    obtain ⟨f, p, t, e, b1, b2, b3⟩ := hΦ
    rw [has] at e
    obtain ⟨e1, e2, e3⟩ : ρ 1 = Int32.ofNat f ∧ ρ 2 = Int32.ofNat p ∧ ρ 3 = Int32.ofNat t := by
      simp only [List.cons.injEq, and_true] at e
      exact e
    have hEE := zyfr0 hfr
    obtain ⟨hF, hB, -⟩ := hXs
    have f0 : ρ2 4 = Int32.ofNat 8 * ρ2 1 := zyFp_op (by decide) (zyXf hF 0 rfl)
    have f1 : ρ2 5 = ρ2 4 + ρ2 2 := zyFp_op (by decide) (zyXf hF 1 rfl)
    have hag : ∀ k, k < 4 → ρ2 k = ρ k := hag
    have a1 := (hag 1 (by decide)).trans e1
    have a2 := (hag 2 (by decide)).trans e2
    have a3 := (hag 3 (by decide)).trans e3
    refine zyAs hRu hIH hAt (a := 81) (n := 8 * f + p) (c := (20, 10400, [(0, 10399, 73786976312018075706)])) (ax := 0) rfl rfl rfl (by dsimp only; omega) rfl (by decide) (by decide) ?_ ?_ ?_
    · show ρ2 5 = _
      rw [f1, f0, a1, a2, zyOm, zyOa]
    · intro r0 hr0 _ _
      rw [List.mem_singleton.mp hr0]
      refine ⟨rfl, ?_⟩
      show 2147483648 ≤ zB (ρ2 3) ∧ zB (ρ2 3) ≤ 2147483655
      rw [a3, zyBn (by omega)]
      omega
    · intro H3 hT3 g1 g2
      have g1 : zyEl (zymr r c) B H3 81 (8 * f + p) = some (.int (ρ2 3)) := g1
      refine ⟨⟨1, by decide⟩, [595, 0, 0, 0], rfl, rfl, zEnv_c (zyfull _) (zEnv_c (zyfull _) (zEnv_c (zyfull _) (zEnv_c (zyfull _) zEnv_nil))), rfl, rfl, ?_, by show 0 < 1; decide⟩
      show zyΨla as (zyEl (zymr r c) B s.heap) (zyEl (zymr r c) B H3) none
      refine ⟨rfl, fun f' p' t' e' c1 c2 c3 => ?_⟩
      rw [has, e1, e2, e3] at e'
      simp only [List.cons.injEq, and_true] at e'
      have k1 := zyOi (by omega) (by omega) e'.1
      have k2 := zyOi (by omega) (by omega) e'.2.1
      have k3 := zyOi (by omega) (by omega) e'.2.2
      subst k1
      subst k2
      subst k3
      rw [← hE, ← hEE]
      exact ⟨by rw [g1, a3], g2⟩
  · intro as E0 E E2 hT0 hΦ hlen i ρ hT hInv x hx ρ2 N2 B vo hXs hag hfr hT2 hvo
    rcases i with ⟨i, hi⟩
    have hi2 : i = 0 ∨ i = 1 := by omega
    rcases hi2 with rfl | rfl
    · cases hx
    have hx : x ∈ [zxla_br0] := hx
    have ex := List.mem_singleton.mp hx
    subst ex
    have e1 := zyvo_0 (show zyvo _ [] vo from hvo)
    rw [e1, zyfr0 hfr]
    exact hInv
end
