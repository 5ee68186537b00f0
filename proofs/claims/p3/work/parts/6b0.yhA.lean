/-! THE REFERENCE's contracts that hold with any J; the last J -/
theorem zyrefA {l : Launch} {J : zyJt} (hJ : zyJr J) {r c : Nat} (h1 : 1 ≤ r) (h2 : r ≤ 4) (h3 : 1 ≤ c) (h4 : c ≤ 5) : ∀ i, i < 20 → zyCo l (zymr r c) J (zyir r c) i := by
  intro i
  induction i using Nat.strongRecOn with
  | ind i IH =>
    intro hi
    have IH' : ∀ d, d < i → zyCo l (zymr r c) J (zyir r c) d := fun d hd => IH d hd (by omega)
    by_cases e0 : i = 0
    · subst e0
      exact fun en me he hm => zyturned hJ h1 h2 h3 h4 he hm
    by_cases e1 : i = 1
    · subst e1
      exact fun en me he hm => zygateAt hJ h1 h2 h3 h4 he hm
    by_cases e2 : i = 2
    · subst e2
      exact fun en me he hm => zyfacing hJ h1 h2 h3 h4 he hm
    by_cases e3 : i = 3
    · subst e3
      exact fun en me he hm => zyisOpen hJ h1 h2 h3 h4 he hm
    by_cases e4 : i = 4
    · subst e4
      exact fun en me he hm => zyover hJ h1 h2 h3 h4 he hm
    by_cases e5 : i = 5
    · subst e5
      exact fun en me he hm => zymapped hJ h1 h2 h3 h4 he hm
    by_cases e6 : i = 6
    · subst e6
      exact fun en me he hm => zyperiod hJ h1 h2 h3 h4 he hm
    by_cases e7 : i = 7
    · subst e7
      exact fun en me he hm => zyrounded hJ h1 h2 h3 h4 he hm
    by_cases e8 : i = 8
    · subst e8
      exact fun en me he hm => zyfreeN hJ h1 h2 h3 h4 he hm
    by_cases e9 : i = 9
    · subst e9
      exact fun en me he hm => zylengthOf hJ h1 h2 h3 h4 he hm
    by_cases e10 : i = 10
    · subst e10
      exact fun en me he hm => zyleastOf hJ h1 h2 h3 h4 he hm
    by_cases e11 : i = 11
    · subst e11
      exact fun en me he hm => zymeetsFrom hJ h1 h2 h3 h4 he hm
    by_cases e12 : i = 12
    · subst e12
      exact fun en me he hm => zymultiple he hm
    by_cases b13 : 13 ≤ i ∧ i < 20
    · exact zychk_ok (zychks_iff (zyAllP_iff zyrr13 h1 h2 h3 h4) i (by omega) (by omega)) hJ.1 IH'
    omega
def zyJf : zyJt := (zJ1, zyRr)
theorem zydr_in {a k : Nat} (h : (a = 75 ∧ 2 ≤ k ∧ k ≤ 5) ∨ (a = 75 ∧ 160 ≤ k ∧ k ≤ 519)) : zyin zydr a k = true := by
  rw [show zydr = [(75, 2, 5), (75, 160, 519), (81, 0, 10399), (74, 19, 19), (74, 21, 21)] from rfl, zyin_iff]
  rcases h with ⟨rfl, a1, a2⟩ | ⟨rfl, a1, a2⟩
  · exact ⟨(75, 2, 5), by simp, rfl, a1, a2⟩
  · exact ⟨(75, 160, 519), by simp, rfl, a1, a2⟩
theorem zJ1_fr {E E2 : zyEm} (h : ∀ k, (2 ≤ k ∧ k ≤ 5) ∨ (160 ≤ k ∧ k ≤ 519) → E2 75 k = E 75 k) (hJ : zJ1 E) : zJ1 E2 := fun m hm hms => by
  rw [h 2 (by omega)] at hms
  obtain ⟨j1, j2, j3⟩ := hJ m hm hms
  exact ⟨zLv_fr (h 4 (by omega)) (fun k _ _ => h _ (by omega)) j1, zWv_fr (h 5 (by omega)) (fun k _ => h _ (by omega)) j2, zT0_fr (h 3 (by omega)) (h 4 (by omega)) j3⟩
theorem zyJf_r : zyJr zyJf := by
  refine ⟨⟨fun E E2 h hJ => ?_, fun _ _ p hp h0 => ?_, fun _ _ _ _ _ _ h hr => zyRr_congr h hr, fun _ _ _ _ _ h hr => zyRr_grow h hr⟩, rfl⟩
  · exact zJ1_fr (E := E) (E2 := E2) (fun k hk => (h 75 k (zydr_in (by omega))).symm) hJ
  · exfalso
    have hp : p ∈ [(75, 2, 5), (75, 160, 519), (81, 0, 10399), (74, 19, 19), (74, 21, 21)] := hp
    simp only [List.mem_cons, List.not_mem_nil, or_false] at hp
    rcases hp with rfl | rfl | rfl | rfl | rfl <;> exact absurd h0 (by decide)
