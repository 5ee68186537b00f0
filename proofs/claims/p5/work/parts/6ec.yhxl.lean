/-! READERS: what is kept while a text is read; the table's readers -/
def zJl (E : zyEm) : Prop := E 75 3 = some (.int (Int32.ofNat 0)) ∧ E 75 4 = some (.int (Int32.ofNat 0)) ∧ zWv E
theorem zJl_J1 {E : zyEm} (h : zJl E) : zJ1 E := fun m hm hms => ⟨zLv_0 (zyI_s h.2.1), h.2.2, fun _ => zyI_s h.2.1⟩
theorem zJl_fr {E E2 : zyEm} (h : ∀ k, (3 ≤ k ∧ k ≤ 5) ∨ (460 ≤ k ∧ k ≤ 519) → E2 75 k = E 75 k) (hJ : zJl E) : zJl E2 := ⟨(h 3 (by omega)).trans hJ.1, (h 4 (by omega)).trans hJ.2.1, zWv_fr (h 5 (by omega)) (fun k _ => h _ (by omega)) hJ.2.2⟩
def zJn (N : Nat) (E : zyEm) : Prop := zJl E ∧ zPn E ∧ ∃ n : Nat, N ≤ n ∧ n ≤ 901 ∧ E 74 39 = some (.int (Int32.ofNat n))
def zyJl (N : Nat) : zyJt := (zJn N, zyRr)
theorem zydl_in {a k : Nat} (h : (a = 75 ∧ 3 ≤ k ∧ k ≤ 5) ∨ (a = 75 ∧ 460 ≤ k ∧ k ≤ 519) ∨ (a = 74 ∧ 38 ≤ k ∧ k ≤ 40)) : zyin zydl a k = true := by
  rw [show zydl = [(75, 3, 5), (75, 460, 519), (74, 38, 40)] from rfl, zyin_iff]
  rcases h with ⟨rfl, a1, a2⟩ | ⟨rfl, a1, a2⟩ | ⟨rfl, a1, a2⟩
  · exact ⟨(75, 3, 5), by simp, rfl, a1, a2⟩
  · exact ⟨(75, 460, 519), by simp, rfl, a1, a2⟩
  · exact ⟨(74, 38, 40), by simp, rfl, a1, a2⟩
theorem zJn_fr {N : Nat} {E E2 : zyEm} (h : ∀ a k, zyin zydl a k = true → E2 a k = E a k) (hJ : zJn N E) : zJn N E2 := by
  obtain ⟨j1, j2, n, j3, j4, j5⟩ := hJ
  exact ⟨zJl_fr (fun k hk => h 75 k (zydl_in (by omega))) j1, zPn_fr (fun k k1 k2 => h 74 k (zydl_in (by omega))) j2, n, j3, j4, (h 74 39 (zydl_in (by omega))).trans j5⟩
theorem zyJl_p (N : Nat) : zyJp zydl (zyJl N) := by
  refine ⟨fun E E2 h hJ => zJn_fr (fun a k hk => (h a k hk).symm) hJ, fun _ _ p hp h0 => ?_, fun _ _ _ _ _ _ h hr => zyRr_congr h hr, fun _ _ _ _ _ h hr => zyRr_grow h hr⟩
  exfalso
  have hp : p ∈ [(75, 3, 5), (75, 460, 519), (74, 38, 40)] := hp
  simp only [List.mem_cons, List.not_mem_nil, or_false] at hp
  rcases hp with rfl | rfl | rfl <;> exact absurd h0 (by decide)
/-- a contract that writes nothing holds with any J -/
theorem zyCon_J {l : Launch} {mi : zyB} {J : zyJt} {en : zEn} {me : zMe} {ct : zyCt} (h : zyCon l mi zyJ0 en me ct) (hfp : ct.2.1 = []) (hJ2 : J.2 = zyRr) {cd : Nat} (hres : ct.2.2.1 = [cd]) : zyCon l mi J en me ct := by
  intro B AsV hA
  have hA0 : zySt (zyX0 B zyJ0) ct.1 AsV := zySt_map (X := zyX0 B J) (X2 := zyX0 B zyJ0) (fun v w h => h) hA
  refine zyMet_pt (fun a s hp => ?_)
  obtain ⟨rfl, hK, hI, hPk⟩ := hp
  refine ⟨_, _, h B AsV hA0, ⟨rfl, hK, ⟨hI.1, hI.2.1, trivial, hI.2.2.2⟩, hPk⟩, fun o t hq => ?_⟩
  obtain ⟨vo, e1, hv, k1, k2, k3, k4, k5⟩ := hq
  have hE : zyEl mi B t.heap = zyEl mi B s.heap := by
    funext a k
    exact k4 a k (by rw [hfp]; rfl)
  refine ⟨vo, e1, ?_, k1, ⟨k2.1, k2.2.1, by rw [hE]; exact hI.2.2.1, k2.2.2.2⟩, k3, k4, k5⟩
  rw [hres] at hv ⊢
  exact hv
theorem zyreadsR {l : Launch} {r c : Nat} (hp : zyPr r c) {en : zEn} {me : zMe} (hen : zG zxMeta 314 = some en) (hme : zG zMeth 314 = some me) : zyHc l (zymr r c) en me 3 0 zyΦrd zyΨrd := zyHc_r (zyreads hen hme) (fun as E E2 vo h k hk => h.2.1 75 k (by omega)) hp
theorem zyreads_L {l : Launch} {r c : Nat} (hp : zyPr r c) (N : Nat) {en : zEn} {me : zMe} (hen : zG zxMeta 314 = some en) (hme : zG zMeth 314 = some me) : zyCon l (zymr r c) (zyJl N) en me ([595], [(74, 38, 41), (74, 43, 43)], [], 3, [(1212456, 73786976346377814050)], []) := by
  refine zyCon_b2 (zyreadsR hp hen hme) rfl rfl (fun B AsV hA => ?_) (fun B xs E E2 vo _ hJ _ hφ hΨ => ?_)
  · obtain ⟨v0, t0, rfl, a0, hA⟩ := zySt_c hA
    have e := zySt_n hA
    subst e
    have e0 : v0 = .ref (zad B 74) := zyv_3 (v := 595) a0 (by decide)
    refine ⟨[], by rw [e0]; rfl, rfl, fun U H hI hP => ?_⟩
    obtain ⟨c0, w, q1, q2, q3, q4, q5⟩ := hP _ List.mem_cons_self
    obtain ⟨z, rfl, b1, b2⟩ := zv_2 (zyv_zv q5 (by decide) (by decide)) (by decide)
    have b1 : 2147483649 ≤ zB z := b1
    have b2 : zB z ≤ 2147483652 := b2
    obtain ⟨o1, o2⟩ := zyOn (show 2147483648 ≤ zB z by omega)
    have q3 : zyEl (zymr r c) B H 74 40 = some (.int z) := q3
    rw [o1] at q3
    obtain ⟨j1, j2, n, j3, j4, j5⟩ := hI.2.2.1
    rcases j2 _ (by omega) q3 with q | ⟨⟨n9, h1, h2⟩, -⟩
    · omega
    · exact ⟨n9, h1, h2⟩
  · have hPn := zPn_rd hΨ
    obtain ⟨ev, p1, q0, n2, u2, p2, p3, p4, p5, p6, -⟩ := hΨ
    obtain ⟨j1, j2, n, j3, j4, j5⟩ := hJ
    rw [j5] at p3
    have e := zyOi (by omega) (by omega) (Value.int.inj (Option.some.inj p3))
    refine ⟨⟨zJl_fr (fun k _ => p1 75 k (by omega)) j1, hPn, n2, by omega, p5, p6⟩, fun a cl k hg hk hz => p1 a k (fun z => ?_), by rw [ev]; trivial⟩
    have hh : zyin [(74, 38, 41), (74, 43, 43)] a k = true := zyin_iff.mpr (by
      obtain ⟨rfl, z⟩ := z
      rcases z with z | z
      · exact ⟨(74, 38, 41), by simp, rfl, z.1, z.2⟩
      · exact ⟨(74, 43, 43), by simp, rfl, by dsimp only; omega, by dsimp only; omega⟩)
    have hz : zyin [(74, 38, 41), (74, 43, 43)] a k = false := hz
    rw [hh] at hz
    cases hz
theorem zyrefL {l : Launch} {r c : Nat} (hp : zyPr r c) (N : Nat) : ∀ i, i < 8 → zyCo l (zymr r c) (zyJl N) (zyil r c) i := by
  obtain ⟨h1, h2, h3, h4⟩ := hp
  intro i
  induction i using Nat.strongRecOn with
  | ind i IH =>
    intro hi
    have IH' : ∀ d, d < i → zyCo l (zymr r c) (zyJl N) (zyil r c) d := fun d hd => IH d hd (by omega)
    by_cases e0 : i = 0
    · subst e0
      exact fun en me he hm => zyCon_J (zyrefA zyJ0_r h1 h2 h3 h4 13 (by decide) en me he hm) rfl rfl rfl
    by_cases e1 : i = 1
    · subst e1
      exact fun en me he hm => zyCon_J (zyrefA zyJ0_r h1 h2 h3 h4 16 (by decide) en me he hm) rfl rfl rfl
    by_cases e2 : i = 2
    · subst e2
      exact fun en me he hm => zyreads_L ⟨h1, h2, h3, h4⟩ N he hm
    by_cases b3 : 3 ≤ i ∧ i < 8
    · exact zychk_ok (zychks_iff (zyAllP_iff zyll3 h1 h2 h3 h4) i (by omega) (by omega)) (zyJl_p N) IH'
    omega
/-- what readers keep -/
def zyΦl (_ : List Int32) (E : zyEm) : Prop := zJl E ∧ zPn E ∧ E 74 36 = some (.int (Int32.ofNat 0)) ∧ E 74 40 = some (.int (Int32.ofNat 1))
def zyKl (E E2 : zyEm) : Prop := zJl E2 ∧ zPn E2 ∧ E2 74 33 = E 74 33 ∧ (∀ k, E2 76 k = E 76 k) ∧ ∃ n n' : Nat, E 74 39 = some (.int (Int32.ofNat n)) ∧ E2 74 39 = some (.int (Int32.ofNat n')) ∧ n ≤ n' ∧ n' ≤ 901
def zyΨl (_ : List Int32) (E E2 : zyEm) (vo : Option Value) : Prop := vo = none ∧ zyKl E E2
theorem zyHc_l {l : Launch} {r c : Nat} {en : zEn} {me : zMe} {ct : zyCt} (h : ∀ N, zyCon l (zymr r c) (zyJl N) en me ct) {dep : Nat} (hd : ct.2.2.2.1 = dep) (ha : ct.1 = [595]) (hpre : ct.2.2.2.2.1 = [(1212452, 0), (1212456, 8)]) (hres : ct.2.2.1 = []) (hf : ∀ a k, zyin ct.2.1 a k = true → a = 75 ∨ (a = 74 ∧ 36 ≤ k)) : zyHc l (zymr r c) en me dep 0 zyΦl zyΨl := by
  intro B xs hl
  cases xs with
  | cons x t => cases hl
  | nil =>
    refine zyMet_pt (fun a s hp => ?_)
    obtain ⟨rfl, hK, hI, j1, j2, j3, j4⟩ := hp
    obtain ⟨x, ex, b1, b2⟩ := (zyTy_of hI 74 zymr74 39 rfl (show 39 < 49 by decide) (39, 39, 73786976312018082858) (List.mem_of_getElem? (i := 39) rfl) (Nat.le_refl _) (Nat.le_refl _)).1 rfl
    have b1 : 2147483648 ≤ zB x := b1
    have b2 : zB x ≤ 2147484549 := b2
    obtain ⟨o1, o2⟩ := zyOn b1
    have hA : zySt (zyX0 B (zyJl (zyN1 x))) ct.1 (zyAr B []) := by rw [ha]; exact ⟨zy595, trivial⟩
    have hm := h (zyN1 x) B (zyAr B []) hA
    rw [hd] at hm
    have hpk : zyPk (zymr r c) B ct.2.2.2.2.1 s.heap := by
      rw [hpre]
      intro p hp
      simp only [List.mem_cons, List.not_mem_nil, or_false] at hp
      rcases hp with rfl | rfl
      · exact ⟨zymr74, _, rfl, show 36 < 49 by decide, j3, by decide, show zyv (fun _ => 0) 0 (zad B) (8 * 0) (.int (Int32.ofNat 0)) from zyv_mk rfl⟩
      · exact ⟨zymr74, _, rfl, show 40 < 49 by decide, j4, by decide, show zyv (fun _ => 0) 0 (zad B) (8 * 1) (.int (Int32.ofNat 1)) from zyv_mk rfl⟩
    refine ⟨_, _, hm, ⟨rfl, hK, ⟨hI.1, hI.2.1, ⟨j1, j2, zyN1 x, Nat.le_refl _, by omega, by rw [← o1]; exact ex⟩, hI.2.2.2⟩, hpk⟩, fun o t hq => ?_⟩
    obtain ⟨vo, e1, hv, k1, k2, k3, k4, k5⟩ := hq
    rw [hres] at hv
    have ev : vo = none := by
      cases vo with
      | none => rfl
      | some z => exact hv.elim
    obtain ⟨g1, g2, n', g3, g4, g5⟩ := k2.2.2.1
    have nf : ∀ a k, ¬ (a = 75 ∨ (a = 74 ∧ 36 ≤ k)) → zyEl (zymr r c) B t.heap a k = zyEl (zymr r c) B s.heap a k := by
      intro a k n
      apply k4
      cases hq : zyin ct.2.1 a k with
      | false => rfl
      | true => exact absurd (hf a k hq) n
    exact ⟨vo, e1, k1, ⟨k2.1, k2.2.1, trivial, k2.2.2.2⟩, ⟨ev, g1, g2, nf 74 33 (by omega), fun k => nf 76 k (by omega), zyN1 x, n', by rw [← o1]; exact ex, g5, g3, g4⟩, k5⟩
section YHXL
variable {l : Launch} {r c : Nat} {en : zEn} {me : zMe}
theorem zyreadsSwitch_L (hp : zyPr r c) (hen : zG zxMeta 321 = some en) (hme : zG zMeth 321 = some me) : zyHc l (zymr r c) en me 6 0 zyΦl zyΨl := by
  refine zyHc_l (fun N => zyrefL hp N 3 (by decide) en me hen hme) rfl rfl rfl rfl (fun a k h => ?_)
  obtain ⟨p0, g1, g2, g3, g4⟩ := zyin_iff.mp h
  have g1 : p0 ∈ [(74, 36, 41), (74, 43, 43), (75, 8, 38), (75, 40, 70)] := g1
  simp only [List.mem_cons, List.not_mem_nil, or_false] at g1
  rcases g1 with rfl | rfl | rfl | rfl <;> dsimp only at g2 g3 g4 <;> omega
theorem zyreadsBobbin_L (hp : zyPr r c) (hen : zG zxMeta 322 = some en) (hme : zG zMeth 322 = some me) : zyHc l (zymr r c) en me 9 0 zyΦl zyΨl := by
  refine zyHc_l (fun N => zyrefL hp N 4 (by decide) en me hen hme) rfl rfl rfl rfl (fun a k h => ?_)
  obtain ⟨p0, g1, g2, g3, g4⟩ := zyin_iff.mp h
  have g1 : p0 ∈ [(74, 36, 41), (74, 43, 43), (75, 2, 2), (75, 136, 159)] := g1
  simp only [List.mem_cons, List.not_mem_nil, or_false] at g1
  rcases g1 with rfl | rfl | rfl | rfl <;> dsimp only at g2 g3 g4 <;> omega
theorem zyreadsStuck_L (hp : zyPr r c) (hen : zG zxMeta 323 = some en) (hme : zG zMeth 323 = some me) : zyHc l (zymr r c) en me 6 0 zyΦl zyΨl := by
  refine zyHc_l (fun N => zyrefL hp N 5 (by decide) en me hen hme) rfl rfl rfl rfl (fun a k h => ?_)
  obtain ⟨p0, g1, g2, g3, g4⟩ := zyin_iff.mp h
  have g1 : p0 ∈ [(74, 36, 41), (74, 43, 43), (75, 72, 102)] := g1
  simp only [List.mem_cons, List.not_mem_nil, or_false] at g1
  rcases g1 with rfl | rfl | rfl <;> dsimp only at g2 g3 g4 <;> omega
theorem zyreadsFree_L (hp : zyPr r c) (hen : zG zxMeta 324 = some en) (hme : zG zMeth 324 = some me) : zyHc l (zymr r c) en me 6 0 zyΦl zyΨl := by
  refine zyHc_l (fun N => zyrefL hp N 6 (by decide) en me hen hme) rfl rfl rfl rfl (fun a k h => ?_)
  obtain ⟨p0, g1, g2, g3, g4⟩ := zyin_iff.mp h
  have g1 : p0 ∈ [(74, 36, 41), (74, 43, 43), (75, 104, 134)] := g1
  simp only [List.mem_cons, List.not_mem_nil, or_false] at g1
  rcases g1 with rfl | rfl | rfl <;> dsimp only at g2 g3 g4 <;> omega
theorem zyreadsPlace_L (hp : zyPr r c) (hen : zG zxMeta 325 = some en) (hme : zG zMeth 325 = some me) : zyHc l (zymr r c) en me 6 0 zyΦl zyΨl := by
  refine zyHc_l (fun N => zyrefL hp N 7 (by decide) en me hen hme) rfl rfl rfl rfl (fun a k h => ?_)
  obtain ⟨p0, g1, g2, g3, g4⟩ := zyin_iff.mp h
  have g1 : p0 ∈ [(74, 36, 41), (74, 43, 43), (75, 152, 159)] := g1
  simp only [List.mem_cons, List.not_mem_nil, or_false] at g1
  rcases g1 with rfl | rfl | rfl <;> dsimp only at g2 g3 g4 <;> omega
end YHXL
