/-! WHERE c MAY HOLD ANY INTS; contracts there and over each pair's base -/
noncomputable def zymx75 : zyCl := (20, 556, [(0, 555, 34359738362)])
noncomputable def zymx : zyB := zymrX zymx75
theorem zyElx (r c : Nat) (B : zCx) (H : Heap) : zyEl (zymr r c) B H = zyEl zymx B H := zyElX (x := zymr75 r c) (y := zymx75) rfl rfl B H
/-- c as the pair's base tells -/
def zyT75 (r c : Nat) (E : zyEm) : Prop := ∀ k, k < 556 → ∀ b ∈ (zymr75 r c).2.2, b.1 ≤ k → k ≤ b.2.1 → (b.2.2 % 8 = 2 → ∃ x : Int32, E 75 k = some (.int x) ∧ b.2.2 / 34359738368 ≤ zB x ∧ zB x ≤ b.2.2 / 8 % 4294967296) ∧ (b.2.2 % 8 = 0 → E 75 k = some (.int (Int32.ofNat (b.2.2 / 8))))
def zyPr (r c : Nat) : Prop := 1 ≤ r ∧ r ≤ 4 ∧ 1 ≤ c ∧ c ≤ 5
noncomputable def zyk02 (l : List (Nat × Nat × Nat)) : Bool := List.rec (motive := fun _ => Bool) true (fun b _ ih => zand (zif (Nat.beq (Nat.mod b.2.2 8) 0) true (Nat.beq (Nat.mod b.2.2 8) 2)) ih) l
theorem zyk02_iff : ∀ {l : List (Nat × Nat × Nat)}, zyk02 l = true → ∀ b ∈ l, b.2.2 % 8 = 0 ∨ b.2.2 % 8 = 2 := by
  intro l
  induction l with
  | nil => intro _ b hb; cases hb
  | cons a t ih =>
    intro h b hb
    have h : zand (zif (Nat.beq (Nat.mod a.2.2 8) 0) true (Nat.beq (Nat.mod a.2.2 8) 2)) (zyk02 t) = true := h
    obtain ⟨g1, g2⟩ := zand_iff h
    rcases List.mem_cons.mp hb with e | e
    · rw [e]
      rcases zif_iff g1 with ⟨q, -⟩ | ⟨-, q⟩
      · exact Or.inl (zbeqT q)
      · exact Or.inr (zbeqT q)
    · exact ih g2 b e
noncomputable def zycow (l : List (Nat × Nat × Nat)) (k : Nat) : Bool := List.rec (motive := fun _ => Bool) false (fun b _ ih => zif (zand (Nat.ble b.1 k) (Nat.ble k b.2.1)) true ih) l
theorem zycow_iff {k : Nat} : ∀ {l : List (Nat × Nat × Nat)}, zycow l k = true → ∃ b ∈ l, b.1 ≤ k ∧ k ≤ b.2.1 := by
  intro l
  induction l with
  | nil => intro h; cases h
  | cons a t ih =>
    intro h
    have h : zif (zand (Nat.ble a.1 k) (Nat.ble k a.2.1)) true (zycow t k) = true := h
    rcases zif_iff h with ⟨h1, -⟩ | ⟨-, h1⟩
    · obtain ⟨q1, q2⟩ := zand_iff h1
      exact ⟨a, List.mem_cons_self, zbleT q1, zbleT q2⟩
    · obtain ⟨b, q1, q2⟩ := ih h1
      exact ⟨b, List.mem_cons_of_mem _ q1, q2⟩
theorem zyk02_all : zyAllP (fun r c => zyk02 (zymr75 r c).2.2) = true := by decide +kernel
theorem zycow_all : zyAllP (fun r c => zyAll (fun k => zycow (zymr75 r c).2.2 k) 556) = true := by decide +kernel
theorem zyT75_of {r c : Nat} {B : zCx} {J : zyJt} {U : State} {H : Heap} (hI : zyMI (zymr r c) B J U H) : zyT75 r c (zyEl zymx B H) := by
  rw [← zyElx r c]
  intro k hk b hb b1 b2
  exact zyTy_of hI 75 (zymr75 r c) k rfl (by rw [zyL75]; exact hk) b hb b1 b2
theorem zyMI_x {r c : Nat} (hp : zyPr r c) {B : zCx} {J : zyJt} {U : State} {H : Heap} (hI : zyMI (zymr r c) B J U H) : zyMI zymx B J U H := by
  refine ⟨fun a cl hg => ?_, fun a cl k hg hk => ?_, by rw [← zyElx r c]; exact hI.2.2.1, hI.2.2.2⟩
  · by_cases e : a = 75
    · subst e
      have hg : some zymx75 = some cl := hg
      cases hg
      exact hI.1 75 (zymr75 r c) rfl
    · exact hI.1 a cl (by rw [zymr_X, zGX (zymr75 r c) zymx75 a e]; exact hg)
  · by_cases e : a = 75
    · subst e
      have hg : some zymx75 = some cl := hg
      cases hg
      have hk : k < 556 := hk
      obtain ⟨b, hb, b1, b2⟩ := zycow_iff (zyAll_iff (zyAllP_iff zycow_all hp.1 hp.2.1 hp.2.2.1 hp.2.2.2) k hk)
      have ht := zyT75_of hI k hk b hb b1 b2
      have hx : ∃ x : Int32, zyEl zymx B H 75 k = some (.int x) := by
        rcases zyk02_iff (zyAllP_iff zyk02_all hp.1 hp.2.1 hp.2.2.1 hp.2.2.2) b hb with q | q
        · exact ⟨_, ht.2 q⟩
        · obtain ⟨x, h1, -⟩ := ht.1 q
          exact ⟨x, h1⟩
      obtain ⟨x, hx⟩ := hx
      refine ⟨.int x, hx, fun b3 hb3 _ _ => ?_⟩
      have hb3 : b3 ∈ [(0, 555, 34359738362)] := hb3
      rw [List.mem_singleton.mp hb3]
      exact ⟨by decide, zyv_bd (lo := 0) (hi := 4294967295) (Nat.zero_le _) (by have := zB_lt x; omega) (by decide)⟩
    · obtain ⟨w, q1, q2⟩ := hI.2.1 a cl k (by rw [zymr_X, zGX (zymr75 r c) zymx75 a e]; exact hg) hk
      exact ⟨w, by rw [← zyElx r c]; exact q1, q2⟩
theorem zyMI_r {r c : Nat} (hp : zyPr r c) {B : zCx} {J : zyJt} {U : State} {H : Heap} (hI : zyMI zymx B J U H) (hT : zyT75 r c (zyEl zymx B H)) : zyMI (zymr r c) B J U H := by
  refine ⟨fun a cl hg => ?_, fun a cl k hg hk => ?_, by rw [zyElx r c]; exact hI.2.2.1, hI.2.2.2⟩
  · by_cases e : a = 75
    · subst e
      have hg : some (zymr75 r c) = some cl := hg
      cases hg
      exact hI.1 75 zymx75 rfl
    · exact hI.1 a cl (by rw [← hg, zymr_X]; exact zGX _ _ a (fun q => e q))
  · by_cases e : a = 75
    · subst e
      have hg : some (zymr75 r c) = some cl := hg
      cases hg
      rw [zyL75] at hk
      obtain ⟨w, q1, -⟩ := hI.2.1 75 zymx75 k rfl hk
      refine ⟨w, by rw [zyElx r c]; exact q1, fun b hb b1 b2 => ?_⟩
      have ht := hT k hk b hb b1 b2
      rcases zyk02_iff (zyAllP_iff zyk02_all hp.1 hp.2.1 hp.2.2.1 hp.2.2.2) b hb with q | q
      · have e2 := ht.2 q
        rw [q1] at e2
        cases e2
        refine ⟨by omega, ?_⟩
        rw [show b.2.2 = 8 * (b.2.2 / 8) by omega]
        exact zyv_mk (by rw [show 8 * (b.2.2 / 8) / 8 = b.2.2 / 8 by omega])
      · obtain ⟨x, h1, h2, h3⟩ := ht.1 q
        rw [q1] at h1
        cases h1
        refine ⟨by omega, ?_⟩
        rw [show b.2.2 = 8 * (b.2.2 / 34359738368 * 4294967296 + b.2.2 / 8 % 4294967296) + 2 by omega]
        exact zyv_bd (by omega) (by omega) (by omega)
    · obtain ⟨w, q1, q2⟩ := hI.2.1 a cl k (by rw [← hg, zymr_X]; exact zGX _ _ a (fun q => e q)) hk
      exact ⟨w, by rw [zyElx r c]; exact q1, q2⟩
theorem zyT75_rc {r c r' c' : Nat} {E : zyEm} (hp : zyPr r c) (hp' : zyPr r' c') (h : zyT75 r c E) (h' : zyT75 r' c' E) : r = r' ∧ c = c' := by
  have a0 := (h 0 (by decide) (0, 0, Nat.mul 8 r) List.mem_cons_self (Nat.le_refl _) (Nat.le_refl _)).2 (show 8 * r % 8 = 0 by omega)
  have b0 := (h' 0 (by decide) (0, 0, Nat.mul 8 r') List.mem_cons_self (Nat.le_refl _) (Nat.le_refl _)).2 (show 8 * r' % 8 = 0 by omega)
  have a1 := (h 1 (by decide) (1, 1, Nat.mul 8 c) (List.mem_cons_of_mem _ List.mem_cons_self) (Nat.le_refl _) (Nat.le_refl _)).2 (show 8 * c % 8 = 0 by omega)
  have b1 := (h' 1 (by decide) (1, 1, Nat.mul 8 c') (List.mem_cons_of_mem _ List.mem_cons_self) (Nat.le_refl _) (Nat.le_refl _)).2 (show 8 * c' % 8 = 0 by omega)
  rw [a0] at b0
  rw [a1] at b1
  obtain ⟨p1, p2, p3, p4⟩ := hp
  obtain ⟨p5, p6, p7, p8⟩ := hp'
  have e0 := zyOi (a := 8 * r / 8) (b := 8 * r' / 8) (by omega) (by omega) (Value.int.inj (Option.some.inj b0))
  have e1 := zyOi (a := 8 * c / 8) (b := 8 * c' / 8) (by omega) (by omega) (Value.int.inj (Option.some.inj b1))
  omega
theorem zyOut_x {r c : Nat} {B : zCx} {H0 H : Heap} (h : zyOut (zymr r c) B H0 H) : zyOut zymx B H0 H := by
  intro q hq
  refine h q (fun a cl hg => ?_)
  by_cases e : a = 75
  · subst e
    exact hq 75 zymx75 rfl
  · exact hq a cl (by rw [← hg, zymr_X]; exact zGX _ _ a (fun q => e q))
theorem zyOut_r {r c : Nat} {B : zCx} {H0 H : Heap} (h : zyOut zymx B H0 H) : zyOut (zymr r c) B H0 H := by
  intro q hq
  refine h q (fun a cl hg => ?_)
  by_cases e : a = 75
  · subst e
    exact hq 75 (zymr75 r c) rfl
  · exact hq a cl (by rw [← hg, zymr_X]; exact zGX _ _ a (fun q => e q))
/-- from each pair's base to any ints in c -/
theorem zyHc_x {l : Launch} {en : zEn} {me : zMe} {dep na : Nat} {Φ : List Int32 → zyEm → Prop} {Ψ : List Int32 → zyEm → zyEm → Option Value → Prop} (h : ∀ r c, zyPr r c → zyHc l (zymr r c) en me dep na Φ Ψ) : zyHc l zymx en me dep na (fun as E => ∃ r c, zyPr r c ∧ zyT75 r c E ∧ Φ as E) (fun as E E2 vo => ∀ r c, zyPr r c → zyT75 r c E → zyT75 r c E2 ∧ Ψ as E E2 vo) := by
  intro B xs hl
  refine zyMet_pt (fun a s hp => ?_)
  obtain ⟨rfl, hK, hI, r, c, hp, hT, hφ⟩ := hp
  refine ⟨_, _, h r c hp B xs hl, ⟨rfl, hK, zyMI_r hp hI hT, by rw [zyElx r c]; exact hφ⟩, fun o t hq => ?_⟩
  obtain ⟨vo, e1, k1, k2, k3, k4⟩ := hq
  refine ⟨vo, e1, k1, zyMI_x hp k2, fun r' c' hp' hT' => ?_, zyOut_x k4⟩
  obtain ⟨rfl, rfl⟩ := zyT75_rc hp hp' hT hT'
  rw [zyElx r c, zyElx r c] at k3
  exact ⟨zyT75_of k2, k3⟩
/-- back, if c stays -/
theorem zyHc_r {l : Launch} {en : zEn} {me : zMe} {dep na : Nat} {Φ : List Int32 → zyEm → Prop} {Ψ : List Int32 → zyEm → zyEm → Option Value → Prop} (h : zyHc l zymx en me dep na Φ Ψ) (hf : ∀ as E E2 vo, Ψ as E E2 vo → ∀ k, k < 556 → E2 75 k = E 75 k) {r c : Nat} (hp : zyPr r c) : zyHc l (zymr r c) en me dep na Φ Ψ := by
  intro B xs hl
  refine zyMet_pt (fun a s hp2 => ?_)
  obtain ⟨rfl, hK, hI, hφ⟩ := hp2
  have hT := zyT75_of hI
  refine ⟨_, _, h B xs hl, ⟨rfl, hK, zyMI_x hp hI, by rw [← zyElx r c]; exact hφ⟩, fun o t hq => ?_⟩
  obtain ⟨vo, e1, k1, k2, k3, k4⟩ := hq
  have hk := hf _ _ _ _ k3
  refine ⟨vo, e1, k1, zyMI_r hp k2 (fun k hk2 b hb b1 b2 => ?_), by rw [zyElx r c, zyElx r c]; exact k3, zyOut_r k4⟩
  rw [hk k hk2]
  exact hT k hk2 b hb b1 b2
