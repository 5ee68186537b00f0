/-! THE REFERENCE's contracts that hold with any J; the last J -/
theorem zyrefA {l : Launch} {J : zyJt} (hJ : zyJr J) {r c : Nat} (h1 : 1 ≤ r) (h2 : r ≤ 4) (h3 : 1 ≤ c) (h4 : c ≤ 5) : ∀ i, i < 20 → zyCo l (zymr r c) J (zyir r c) i := by
  intro i
  induction i using Nat.strongRecOn with
  | ind i IH =>
    intro hi
    have IH' : ∀ d, d < i → zyCo l (zymr r c) J (zyir r c) d := fun d hd => IH d hd (by omega)
    by_cases e0 : i = 0
    · subst e0
      exact fun en me he hm => zyturned hJ h1 h2 h3 h4 he hm
    by_cases e1 : i = 1
    · subst e1
      exact fun en me he hm => zygateAt hJ h1 h2 h3 h4 he hm
    by_cases e2 : i = 2
    · subst e2
      exact fun en me he hm => zyfacing hJ h1 h2 h3 h4 he hm
    by_cases e3 : i = 3
    · subst e3
      exact fun en me he hm => zyisOpen hJ h1 h2 h3 h4 he hm
    by_cases e4 : i = 4
    · subst e4
      exact fun en me he hm => zyover hJ h1 h2 h3 h4 he hm
    by_cases e5 : i = 5
    · subst e5
      exact fun en me he hm => zymapped hJ h1 h2 h3 h4 he hm
    by_cases e6 : i = 6
    · subst e6
      exact fun en me he hm => zyperiod hJ h1 h2 h3 h4 he hm
    by_cases e7 : i = 7
    · subst e7
      exact fun en me he hm => zyrounded hJ h1 h2 h3 h4 he hm
    by_cases e8 : i = 8
    · subst e8
      exact fun en me he hm => zyfreeN hJ h1 h2 h3 h4 he hm
    by_cases e9 : i = 9
    · subst e9
      exact fun en me he hm => zylengthOf hJ h1 h2 h3 h4 he hm
    by_cases e10 : i = 10
    · subst e10
      exact fun en me he hm => zyleastOf hJ h1 h2 h3 h4 he hm
    by_cases e11 : i = 11
    · subst e11
      exact fun en me he hm => zymeetsFrom hJ h1 h2 h3 h4 he hm
    by_cases e12 : i = 12
    · subst e12
      exact fun en me he hm => zymultiple he hm
    by_cases b13 : 13 ≤ i ∧ i < 20
    · exact zychk_ok (zychks_iff (zyAllP_iff zyrr13 h1 h2 h3 h4) i (by omega) (by omega)) hJ.1 IH'
    omega
