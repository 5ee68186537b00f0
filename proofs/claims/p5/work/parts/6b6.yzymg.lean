/-! THE WIDEST BASE: contracts shown over it hold over each pair's, if they don't write c -/
noncomputable def zymw75 : zyCl := (20, 556, [(0, 0, 73786976346377814050), (1, 1, 73786976346377814058), (2, 2, 73786976312018075714), (3, 3, 34359738362), (4, 4, 73786976312018078050), (5, 5, 73786976277658337762), (6, 6, 73786976312018075746), (7, 7, 0), (8, 39, 73786976329197944826), (40, 70, 73786976346377814050), (71, 71, 0), (72, 103, 73786976312018075666), (104, 135, 73786976312018075658), (136, 143, 73786976312018076282), (144, 151, 73786976312018076282), (152, 159, 73786976277658337914), (160, 459, 73786976071499907130), (460, 519, 73786976071499907130), (520, 520, 73786976312018075706), (521, 521, 73786976312018076162), (522, 522, 73786976312018076282), (523, 523, 73786976312018075706), (524, 524, 73786976312018076162), (525, 525, 73786976312018076282), (526, 526, 73786976312018075706), (527, 527, 73786976312018076162), (528, 528, 73786976312018076282), (529, 529, 73786976312018075706), (530, 530, 73786976312018076162), (531, 531, 73786976312018076282), (532, 532, 73786976312018075706), (533, 533, 73786976312018076162), (534, 534, 73786976312018076282), (535, 535, 73786976312018075706), (536, 536, 73786976312018076162), (537, 537, 73786976312018076282), (538, 538, 73786976312018075706), (539, 539, 73786976312018076162), (540, 540, 73786976312018076282), (541, 541, 73786976312018075706), (542, 542, 73786976312018076162), (543, 543, 73786976312018076282), (544, 544, 73786976312018075706), (545, 545, 73786976312018076162), (546, 546, 73786976312018076282), (547, 547, 73786976312018075706), (548, 548, 73786976312018076162), (549, 549, 73786976312018076282), (550, 550, 73786976312018075706), (551, 551, 73786976312018076162), (552, 552, 73786976312018076282), (553, 553, 73786976312018075706), (554, 554, 73786976312018076162), (555, 555, 73786976312018076282), (520, 555, 73786976312018076282)])
noncomputable def zymrX (x : zyCl) : zyB := [[], [[], [(20, 1860, [(0, 1859, 73786976312018108410)]), (20, 12, [(0, 11, 34359738362)]), zymr74, x, (20, 556, [(0, 555, 34359738362)]), (20, 8, [(0, 7, 73786976312018076282)]), (20, 8, [(0, 7, 73786976312018076282)]), (20, 8, [(0, 7, 73786976312018075706)])], [(20, 300, [(0, 299, 73786976071499907130)]), (20, 10400, [(0, 10399, 73786976312018075706)]), (20, 8, [(0, 7, 73786976312018075706)]), (20, 8, [(0, 7, 73786976312018075706)]), (22, 900, [(0, 899, 73786971913971565562)]), (21, 9, [(0, 8, 147573952589676412932)]), (20, 900, [(0, 899, 34359738362)]), (20, 900, [(0, 899, 34359738362)])]]]
noncomputable def zymw : zyB := zymrX zymw75
theorem zymr_X (r c : Nat) : zymr r c = zymrX (zymr75 r c) := rfl
def zGG {α : Type} (c : List (List (List α))) (p q s : Nat) : Option α := c[p]?.bind fun b => b[q]?.bind fun a => a[s]?
theorem zGX1 (x y : zyCl) : ∀ p q s : Nat, ¬ (p = 1 ∧ q = 1 ∧ s = 3) → zGG (zymrX x) p q s = zGG (zymrX y) p q s
  | 0, _, _, _ => rfl
  | 1, 0, _, _ => rfl
  | 1, 1, 0, _ => rfl
  | 1, 1, 1, _ => rfl
  | 1, 1, 2, _ => rfl
  | 1, 1, 3, h => absurd ⟨rfl, rfl, rfl⟩ h
  | 1, 1, _ + 4, _ => rfl
  | 1, 2, _, _ => rfl
  | 1, _ + 3, _, _ => rfl
  | _ + 2, _, _, _ => rfl
theorem zGX (x y : zyCl) (a : Nat) (h : ¬ a = 75) : zG (zymrX x) a = zG (zymrX y) a := zGX1 x y (a / 64) (a / 8 % 8) (a % 8) (fun q => h (by omega))
theorem zGX75 (x : zyCl) : zG (zymrX x) 75 = some x := rfl
theorem zyElX {x y : zyCl} (h1 : x.1 = y.1) (h2 : x.2.1 = y.2.1) (B : zCx) (H : Heap) : zyEl (zymrX x) B H = zyEl (zymrX y) B H := by
  funext a k
  by_cases e : a = 75
  · subst e
    unfold zyEl zyLen
    rw [zGX75, zGX75]
    dsimp only
    rw [h1, h2]
  · unfold zyEl
    rw [zGX x y a e]
/-- rows one by one: those of the second say no more -/
noncomputable def zywk1 (c d : Nat) : Bool := zif (Nat.beq c d) true (zand (Nat.beq (Nat.mod d 8) 2) (zif (Nat.beq (Nat.mod c 8) 2) (zand (Nat.ble (Nat.div d 34359738368) (Nat.div c 34359738368)) (Nat.ble (Nat.mod (Nat.div c 8) 4294967296) (Nat.mod (Nat.div d 8) 4294967296))) (zand (Nat.beq (Nat.mod c 8) 0) (zand (Nat.ble (Nat.div d 34359738368) (Nat.mod (Nat.add (Nat.div c 8) 2147483648) 4294967296)) (Nat.ble (Nat.mod (Nat.add (Nat.div c 8) 2147483648) 4294967296) (Nat.mod (Nat.div d 8) 4294967296))))))
noncomputable def zywk (r1 r2 : List (Nat × Nat × Nat)) : Bool := List.rec (motive := fun _ => List (Nat × Nat × Nat) → Bool) (fun _ => true) (fun b _ ih l => List.rec (motive := fun _ => Bool) false (fun a t _ => zand (zand (Nat.beq a.1 b.1) (zand (Nat.beq a.2.1 b.2.1) (zywk1 a.2.2 b.2.2))) (ih t)) l) r2 r1
theorem zywk_iff : ∀ {r2 r1 : List (Nat × Nat × Nat)}, zywk r1 r2 = true → ∀ b ∈ r2, ∃ a ∈ r1, a.1 = b.1 ∧ a.2.1 = b.2.1 ∧ zywk1 a.2.2 b.2.2 = true := by
  intro r2
  induction r2 with
  | nil => intro r1 _ b hb; cases hb
  | cons b0 t ih =>
    intro r1 h b hb
    cases r1 with
    | nil => cases h
    | cons a u =>
      have h : zand (zand (Nat.beq a.1 b0.1) (zand (Nat.beq a.2.1 b0.2.1) (zywk1 a.2.2 b0.2.2))) (zywk u t) = true := h
      obtain ⟨g1, g2⟩ := zand_iff h
      obtain ⟨g1, g3⟩ := zand_iff g1
      obtain ⟨g3, g4⟩ := zand_iff g3
      rcases List.mem_cons.mp hb with e | e
      · rw [e]
        exact ⟨a, List.mem_cons_self, zbeqT g1, zbeqT g3, g4⟩
      · obtain ⟨a2, q1, q2⟩ := ih g2 b e
        exact ⟨a2, List.mem_cons_of_mem _ q1, q2⟩
theorem zywk1_iff {c d : Nat} {ρ : Nat → Int32} {N : Nat} {ad : Nat → Nat} {w : Value} (h : zywk1 c d = true) (hc : ¬ c % 8 = 1) (hv : zyv ρ N ad c w) : ¬ d % 8 = 1 ∧ zyv ρ N ad d w := by
  rcases zif_iff h with ⟨h1, -⟩ | ⟨-, h1⟩
  · rw [← zbeqT h1]
    exact ⟨hc, hv⟩
  · obtain ⟨h2, h3⟩ := zand_iff h1
    have h2 : d % 8 = 2 := zbeqT h2
    refine ⟨by omega, ?_⟩
    have hd : d = 8 * (d / 34359738368 * 4294967296 + d / 8 % 4294967296) + 2 := by omega
    rcases zif_iff h3 with ⟨h4, h5⟩ | ⟨-, h5⟩
    · have h4 : c % 8 = 2 := zbeqT h4
      obtain ⟨h5, h6⟩ := zand_iff h5
      have h5 : d / 34359738368 ≤ c / 34359738368 := zbleT h5
      have h6 : c / 8 % 4294967296 ≤ d / 8 % 4294967296 := zbleT h6
      obtain ⟨x, rfl, b1, b2⟩ := zv_2 (zyv_zv hv (by omega) (by omega)) h4
      rw [hd]
      exact zyv_bd (by omega) (by omega) (by omega)
    · obtain ⟨h4, h5⟩ := zand_iff h5
      have h4 : c % 8 = 0 := zbeqT h4
      obtain ⟨h5, h6⟩ := zand_iff h5
      have h5 : d / 34359738368 ≤ (c / 8 + 2147483648) % 4294967296 := zbleT h5
      have h6 : (c / 8 + 2147483648) % 4294967296 ≤ d / 8 % 4294967296 := zbleT h6
      rw [zyv_0 hv h4, hd]
      exact zyv_bd (by rw [zB_of, zb_def]; omega) (by rw [zB_of, zb_def]; omega) (by omega)
theorem zywk_all : zyAllP (fun r c => zywk (zymr75 r c).2.2 zymw75.2.2) = true := by decide +kernel
theorem zyElg (r c : Nat) (B : zCx) (H : Heap) : zyEl zymw B H = zyEl (zymr r c) B H := zyElX (x := zymw75) (y := zymr75 r c) rfl rfl B H
theorem zyMI_g {r c : Nat} (h1 : 1 ≤ r) (h2 : r ≤ 4) (h3 : 1 ≤ c) (h4 : c ≤ 5) {B : zCx} {J : zyJt} {U : State} {H : Heap} (hI : zyMI (zymr r c) B J U H) : zyMI zymw B J U H := by
  refine ⟨fun a cl hg => ?_, fun a cl k hg hk => ?_, by rw [zyElg r c]; exact hI.2.2.1, hI.2.2.2⟩
  · by_cases e : a = 75
    · subst e
      have hg : some zymw75 = some cl := hg
      cases hg
      exact hI.1 75 (zymr75 r c) rfl
    · exact hI.1 a cl (by rw [zymr_X, zGX (zymr75 r c) zymw75 a e]; exact hg)
  · by_cases e : a = 75
    · subst e
      have hg : some zymw75 = some cl := hg
      cases hg
      obtain ⟨w, q1, q2⟩ := hI.2.1 75 (zymr75 r c) k rfl hk
      refine ⟨w, by rw [zyElg r c]; exact q1, fun b hb b1 b2 => ?_⟩
      obtain ⟨a0, a1, a2, a3, a4⟩ := zywk_iff (zyAllP_iff zywk_all h1 h2 h3 h4) b hb
      obtain ⟨p1, p2⟩ := q2 a0 a1 (by omega) (by omega)
      exact zywk1_iff a4 p1 p2
    · obtain ⟨w, q1, q2⟩ := hI.2.1 a cl k (by rw [zymr_X, zGX (zymr75 r c) zymw75 a e]; exact hg) hk
      exact ⟨w, by rw [zyElg r c]; exact q1, q2⟩
theorem zyPk_g {r c : Nat} {B : zCx} {l : List (Nat × Nat)} {H : Heap} (h : zyPk (zymr r c) B l H) : zyPk zymw B l H := by
  intro p hp
  obtain ⟨cl, x, q1, q2, q3, q4⟩ := h p hp
  by_cases e : p.1 / 16384 = 75
  · refine ⟨zymw75, x, by rw [e]; rfl, ?_, by rw [zyElg r c]; exact q3, q4⟩
    rw [e] at q1
    have q1 : some (zymr75 r c) = some cl := q1
    cases q1
    exact q2
  · exact ⟨cl, x, by rw [← q1, zymr_X]; exact zGX _ _ _ e, q2, by rw [zyElg r c]; exact q3, q4⟩
theorem zyCon_up {l : Launch} {J : zyJt} {r c : Nat} (h1 : 1 ≤ r) (h2 : r ≤ 4) (h3 : 1 ≤ c) (h4 : c ≤ 5) {en : zEn} {me : zMe} {ct : zyCt} (h : zyCon l zymw J en me ct) (hpost : ct.2.2.2.2.2 = []) (hno : ∀ k, k < 556 → zyin ct.2.1 75 k = false) : zyCon l (zymr r c) J en me ct := by
  intro B AsV hA
  refine zyMet_pt (fun a s hp => ?_)
  obtain ⟨rfl, hK, hI, hPk⟩ := hp
  refine ⟨_, _, h B AsV hA, ⟨rfl, hK, zyMI_g h1 h2 h3 h4 hI, zyPk_g hPk⟩, fun o t hq => ?_⟩
  obtain ⟨vo, e1, hv, k1, k2, k3, k4, k5⟩ := hq
  have hE := zyElg r c
  have k4 : ∀ a k, zyin ct.2.1 a k = false → zyEl (zymr r c) B t.heap a k = zyEl (zymr r c) B s.heap a k := fun a k hz => by
    rw [← hE, ← hE]
    exact k4 a k hz
  refine ⟨vo, e1, ?_, k1, ⟨fun a cl hg => ?_, fun a cl k hg hk => ?_, by rw [← hE]; exact k2.2.2.1, k2.2.2.2⟩, ?_, k4, fun q hq => k5 q (fun a cl hg => ?_)⟩
  · revert hv
    unfold zyvr
    rw [hE, hE]
    exact id
  · by_cases e : a = 75
    · subst e
      have hg : some (zymr75 r c) = some cl := hg
      cases hg
      exact k2.1 75 zymw75 rfl
    · exact k2.1 a cl (by rw [← hg, zymr_X]; exact zGX _ _ a e)
  · by_cases e : a = 75
    · subst e
      obtain ⟨w, q1, q2⟩ := hI.2.1 75 cl k hg hk
      refine ⟨w, ?_, q2⟩
      rw [k4 75 k (hno k ?_)]
      · exact q1
      · have hg : some (zymr75 r c) = some cl := hg
        cases hg
        rw [zyL75] at hk
        exact hk
    · obtain ⟨w, q1, q2⟩ := k2.2.1 a cl k (by rw [← hg, zymr_X]; exact zGX _ _ a e) hk
      exact ⟨w, by rw [← hE]; exact q1, q2⟩
  · rw [hpost]
    exact fun p hp => by cases hp
  · by_cases e : a = 75
    · subst e
      exact hq 75 (zymr75 r c) rfl
    · exact hq a cl (by rw [← hg, zymr_X]; exact zGX _ _ a e)
