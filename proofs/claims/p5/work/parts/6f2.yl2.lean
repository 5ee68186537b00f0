/-! THE TWO SIDES: what the one does keeps what is said of the other -/
theorem zad_inj {B : zCx} {a a2 : Nat} (h : a < 90000) (h2 : a2 < 90000) (e : zad B a = zad B a2) : a = a2 := by
  unfold zad at e
  rw [if_pos h, if_pos h2] at e
  omega
theorem zySh_eqH {X : zCx} {U : State} {a : Nat} {c : zyCl} {H H2 : Heap} (e : H2[zad X a]? = H[zad X a]?) (h : zySh X U a c H) : zySh X U a c H2 := by
  unfold zySh at h ⊢
  rw [e]
  exact h
theorem zyEl_eqH {B : zyB} {X : zCx} {H H2 : Heap} {a : Nat} (e : H2[zad X a]? = H[zad X a]?) (k : Nat) : zyEl B X H2 a k = zyEl B X H a k := by
  unfold zyEl
  rw [e]
theorem zyEl_eqG {B B2 : zyB} {X : zCx} {H : Heap} {a : Nat} (e : zG B a = zG B2 a) (k : Nat) : zyEl B X H a k = zyEl B2 X H a k := by
  unfold zyEl
  rw [e]
theorem zyMI_keep {mi mi2 : zyB} {B : zCx} {J J2 : zyJt} {U : State} {H H2 : Heap} (h : zyMI mi B J U H) (h2 : zyMI mi2 B J2 U H2) (hout : zyOut mi2 B H H2) (hsh : ∀ a c c2, zG mi a = some c → zG mi2 a = some c2 → c2 = c) :
    (∀ a k, zG mi2 a = none → zyEl mi B H2 a k = zyEl mi B H a k) ∧ (J.1 (zyEl mi B H2) → zyMI mi B J U H2) := by
  have hH : ∀ a c, zG mi a = some c → zG mi2 a = none → H2[zad B a]? = H[zad B a]? := fun a c hg hn => hout _ (fun a2 c2 hg2 e => by
    have e2 := zad_inj (h.1 a c hg).1 (h2.1 a2 c2 hg2).1 e
    rw [e2, hg2] at hn
    cases hn)
  refine ⟨fun a k hn => ?_, fun hJ => ⟨fun a c hg => ⟨(h.1 a c hg).1, ?_⟩, fun a c k hg hk => ?_, hJ, h2.2.2.2⟩⟩
  · cases hg : zG mi a with
    | none =>
      unfold zyEl
      rw [hg]
    | some c => exact zyEl_eqH (hH a c hg hn) k
  · cases hn : zG mi2 a with
    | none => exact zySh_eqH (hH a c hg hn) (h.1 a c hg).2
    | some c2 =>
      have e := hsh a c c2 hg hn
      subst e
      exact (h2.1 a c2 hn).2
  · cases hn : zG mi2 a with
    | none =>
      rw [zyEl_eqH (hH a c hg hn) k]
      exact h.2.1 a c k hg hk
    | some c2 =>
      have e := hsh a c c2 hg hn
      subst e
      rw [zyEl_eqG (hg.trans hn.symm) k]
      exact h2.2.1 a c2 k hn hk
theorem zymc_lt {a : Nat} {c : zyCl} (h : zG zymc a = some c) : a < 74 := by
  obtain ⟨b, d, h1, h2, h3⟩ := zG_iff h
  have l1 : a / 64 < zymc.length := (List.getElem?_eq_some_iff.mp h1).1
  have l1 : a / 64 < 2 := l1
  by_cases e : a / 64 = 1
  · rw [e] at h1
    have h1 : some [zymc_8, zymc_9] = some b := h1
    have h1 := Option.some.inj h1
    subst h1
    have l2 := (List.getElem?_eq_some_iff.mp h2).1
    have l2 : a / 8 % 8 < 2 := l2
    by_cases e2 : a / 8 % 8 = 1
    · rw [e2] at h2
      have h2 : some zymc_9 = some d := h2
      have h2 := Option.some.inj h2
      subst h2
      have l3 := (List.getElem?_eq_some_iff.mp h3).1
      have l3 : a % 8 < 2 := l3
      omega
    · omega
  · omega
theorem zymrX_dom {x : zyCl} {a : Nat} {c : zyCl} (h : zG (zymrX x) a = some c) : 72 ≤ a ∧ a < 88 := by
  obtain ⟨b, d, h1, h2, h3⟩ := zG_iff h
  have l1 := (List.getElem?_eq_some_iff.mp h1).1
  have l1 : a / 64 < 2 := l1
  by_cases e : a / 64 = 1
  · rw [e] at h1
    have l2 := (List.getElem?_eq_some_iff.mp h2).1
    have l2 : a / 8 % 8 < b.length := l2
    have hb : b.length = 3 := by
      have q : (zymrX x)[1]? = some b := h1
      unfold zymrX at q
      have q := Option.some.inj (show some _ = some b from q)
      rw [← q]
      rfl
    by_cases e2 : a / 8 % 8 = 0
    · rw [e2] at h2
      exfalso
      have q : (zymrX x)[1]? = some b := h1
      unfold zymrX at q
      have q := Option.some.inj (show some _ = some b from q)
      rw [← q] at h2
      have h2 : some [] = some d := h2
      have h2 := Option.some.inj h2
      subst h2
      cases h3
    · omega
  · exfalso
    have e : a / 64 = 0 := by omega
    rw [e] at h1
    have h1 : some [] = some b := h1
    have h1 := Option.some.inj h1
    subst h1
    cases h2
theorem zyshared {x : zyCl} {a : Nat} {c c2 : zyCl} (h : zG zymc a = some c) (h2 : zG (zymrX x) a = some c2) : c2 = c := by
  have l1 := zymc_lt h
  have l2 := zymrX_dom h2
  have e : a = 72 ∨ a = 73 := by omega
  rcases e with rfl | rfl
  · exact Option.some.inj (h2.symm.trans (show zG (zymrX x) 72 = some c from h))
  · exact Option.some.inj (h2.symm.trans (show zG (zymrX x) 73 = some c from h))
theorem zymrX_no {x : zyCl} {a : Nat} (ha : a < 72) : zG (zymrX x) a = none := by
  cases h : zG (zymrX x) a with
  | none => rfl
  | some c =>
    have := zymrX_dom h
    omega
theorem zymc_no {a : Nat} (ha : 74 ≤ a) : zG zymc a = none := by
  cases h : zG zymc a with
  | none => rfl
  | some c =>
    have := zymc_lt h
    omega
/-- the class's side: bytes on the tape -/
def zyCS (B : zCx) (q : Nat) (U : State) (H : Heap) : Prop := zyMI zymc B zyJc U H ∧ zyEl zymc B H 35 1 = some (.int (Int32.ofNat q))
/-- the reference's side: some rows and columns; bytes on the tape; T at most N -/
def zyRS (B : zCx) (N q : Nat) (U : State) (H : Heap) : Prop := ∃ r c, zyPr r c ∧ zyMI (zymr r c) B zyJ0 U H ∧ zJ1 (zyEl zymx B H) ∧ zyEl zymx B H 74 33 = some (.int (Int32.ofNat q)) ∧ ∃ T : Nat, T ≤ N ∧ zyEl zymx B H 75 3 = some (.int (Int32.ofNat T))
theorem zyCS_keep {x : zyCl} {B : zCx} {J2 : zyJt} {q : Nat} {U : State} {H H2 : Heap} (h : zyCS B q U H) (h2 : zyMI (zymrX x) B J2 U H2) (ho : zyOut (zymrX x) B H H2) : zyCS B q U H2 := by
  obtain ⟨e, k⟩ := zyMI_keep h.1 h2 ho (fun a c c2 => zyshared)
  have lo : ∀ a k, a < 72 → zyEl zymc B H2 a k = zyEl zymc B H a k := fun a k ha => e a k (zymrX_no ha)
  refine ⟨k ?_, (lo 35 1 (by decide)).trans h.2⟩
  intro f g hfg i hi z y hz hy hp
  have hf : f < 72 := by omega
  have hg : g < 72 := by omega
  exact h.1.2.2.1 f g hfg i hi z y ((lo f i hf).symm.trans hz) ((lo g i hg).symm.trans hy) hp
theorem zyRS_keep {B : zCx} {J2 : zyJt} {N q : Nat} {U : State} {H H2 : Heap} (h : zyRS B N q U H) (h2 : zyMI zymc B J2 U H2) (ho : zyOut zymc B H H2) : zyRS B N q U H2 := by
  obtain ⟨r, c, hp, hI, hJ, ht, T, hT, hT2⟩ := h
  obtain ⟨e, k⟩ := zyMI_keep hI h2 ho (fun a c1 c2 h1 h2 => (zyshared (x := zymr75 r c) h2 h1).symm)
  have hi : ∀ a k, 74 ≤ a → zyEl zymx B H2 a k = zyEl zymx B H a k := by
    intro a k ha
    rw [← zyElx r c B H2, ← zyElx r c B H]
    exact e a k (zymc_no ha)
  exact ⟨r, c, hp, k trivial, zJ1_fr (fun k _ => hi 75 k (by decide)) hJ, (hi 74 33 (by decide)).trans ht, T, hT, (hi 75 3 (by decide)).trans hT2⟩
