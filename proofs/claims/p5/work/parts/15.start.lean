/-! WHAT IS GIVEN AT THE LAW'S START, as the executor's knowledge -/
noncomputable def zfp (p : Nat) : Option Cond := (flatC narrow_1)[p]?
theorem zfp_use {A : Array Value} {s : State} (h : (Jvm.Cond.and given_1 narrow_1).before A s = true) {p : Nat} {w : Cond} (hp : zfp p = some w) : w.before A s = true := by
  rw [Cond.before_and, Bool.and_eq_true] at h
  exact flat_of_before _ h.2 w (List.mem_of_getElem? hp)
noncomputable def ztpos : List Nat := [7, 15, 25, 35, 44, 52, 60, 68, 77, 85, 94, 99, 110, 121, 131, 141, 151, 160, 170, 179, 185, 195, 207, 219, 230, 241, 252, 262, 273, 283]
noncomputable def ztref : List Nat := [3023, 3101, 3106, 3119, 3124, 3125, 3126, 3135, 3140, 4081, 4096, 4101, 4102, 4107, 4108, 4109, 4114, 4119, 4124, 4132, 9064, 9083, 9084, 9089, 9090, 9091, 9092, 9093, 9098, 9099]
def ztm (i : Nat) : Term := .string (zskey i).1 (zskey i).2.1
set_option maxRecDepth 100000 in
theorem ztx1 : ∀ i, i < 30 → zfp (zat ztpos i) = some (.exactly (ztm i) "java/lang/String") ∧ zfp (zat ztpos i + 1) = some (.eq (.field (ztm i) "java/lang/String" "coder" "B") (.int 0)) ∧ zfp (zat ztpos i + 2) = some (.arrayOf (.field (ztm i) "java/lang/String" "value" "[B") .byte) ∧
  zfp (zat ztpos i + 3) = some (.eq (.length (.field (ztm i) "java/lang/String" "value" "[B")) (.int (Int32.ofNat (zxTl i)))) ∧ zwd (zat ztref i) = some (.stringRef (zskey i).1 (zskey i).2.1 (zskey i).2.2) ∧ zxTl i < 100 := by decide +kernel
set_option maxRecDepth 100000 in
theorem ztx2 : ∀ i, i < 30 → ∀ j, j < zxTl i → zfp (zat ztpos i + 4 + j) = some (.eq (.elem (.field (ztm i) "java/lang/String" "value" "[B") (.int (Int32.ofNat j))) (.int (Int32.ofNat ((zxT i).getD j 0)))) := by decide +kernel
set_option maxRecDepth 100000 in
theorem ztx3 : zfp 2 = some (.eq (.static "java/lang/String" "COMPACT_STRINGS" "Z") (.int 1)) ∧ zfp 3 = some (.isRef (.static "jdk/internal/util/Preconditions" "SIOOBE_FORMATTER" "Ljava/util/function/BiFunction;")) ∧
  zwd 3037 = some (.laysStatic "java/lang/String" "COMPACT_STRINGS" "Z") ∧ zwd 1014 = some (.initialized "java/lang/String") ∧ zwd 3053 = some (.laysStatic "jdk/internal/util/Preconditions" "SIOOBE_FORMATTER" "Ljava/util/function/BiFunction;") ∧ zwd 1016 = some (.initialized "jdk/internal/util/Preconditions") := by decide +kernel
theorem zgood_any {w : Cond} (hg : zgood w = true) {s : State} {A0 : Array Value} (h : w.before A0 s = true) (A : Array Value) : w.before A s = true := by
  have key : ∀ w : Cond, goodWord w = true → w.before A0 s = true → w.before A s = true := fun w hw h => word_at (State.WarmedH.refl s) (good_of_word hw) h
  unfold zgood at hg
  split at hg
  · exact va_tabs rfl rfl h
  · exact va_tabs rfl rfl h
  · exact key _ hg h
theorem ztext {s : State} {A0 : Array Value} (hts : ∀ w ∈ lw_tbl, w.before A0 s = true) (hgv : (Jvm.Cond.and given_1 narrow_1).before A0 s = true) (i : Nat) : ∃ q : Nat × Nat, i < 30 → vk_R (zskey i).1 (zskey i).2.1 (zskey i).2.2 q.1 s ∧ va_O "java/lang/String" q.1 (fun a => s.heap.size ≤ a) s s.heap ∧ va_OF "java/lang/String" "coder" "B" (.int 0) q.1 (fun a => s.heap.size ≤ a) s s.heap ∧
    va_OF "java/lang/String" "value" "[B" (.ref q.2) q.1 (fun a => s.heap.size ≤ a) s s.heap ∧ va_T .byte q.2 (zxTl i) (fun j => .int (Int32.ofNat ((zxT i).getD j 0))) (fun a => s.heap.size ≤ a) s s.heap := by
  by_cases hi : i < 30
  rotate_left
  · exact ⟨(0, 0), fun h => absurd h hi⟩
  obtain ⟨h1, h2, h3, h4, h5, h6⟩ := ztx1 i hi
  have hmap : ∀ j : Nat, ((zxT i).map Int32.ofNat).getD j 0 = Int32.ofNat ((zxT i).getD j 0) := fun j => by
    rw [List.getD_eq_getElem?_getD, List.getD_eq_getElem?_getD, List.getElem?_map]
    cases (zxT i)[j]? <;> rfl
  obtain ⟨adK, adV, hS, hE⟩ := vk_Sof (args := A0) (s := s) (N := 1) (tm := fun _ => ztm i) (len := [zxTl i]) (byt := [(zxT i).map Int32.ofNat]) (A := fun a => s.heap.size ≤ a)
    (fun k hk => by
      have e : k = 0 := by omega
      subst e
      show zxTl i < _
      omega)
    (fun k _ => zfp_use hgv h1) (fun k _ => zfp_use hgv h2) (fun k _ => zfp_use hgv h3)
    (fun k hk => by
      have e : k = 0 := by omega
      subst e
      exact zfp_use hgv h4)
    (fun k hk j hj => by
      have e : k = 0 := by omega
      subst e
      have hj : j < zxTl i := hj
      have e2 := ztx2 i hi j hj
      rw [← hmap j] at e2
      exact zfp_use hgv e2)
    (fun k j hk hj hne => absurd (by omega) hne) (fun a ha z => by omega)
  obtain ⟨g1, g2, g3, g4⟩ := hS.1 0 (by omega)
  refine ⟨(adK 0, adV 0), fun _ => ⟨vk_R.of (A := A0) (hts _ (zwd_mem h5)) (hE 0 (by omega)), g1, g2, g3, ?_⟩⟩
  have e3 : (fun j => Value.int (Int32.ofNat ((zxT i).getD j 0))) = fun j => Value.int ((([(zxT i).map Int32.ofNat] : List (List Int32)).getD 0 []).getD j 0) := funext fun j => by
    show _ = Value.int (((zxT i).map Int32.ofNat).getD j 0)
    rw [hmap]
  rw [e3]
  exact g4
def zhif (b : Nat) (ad : Nat → Nat × Nat) (q : Nat) : Nat := if q = 99999 then b else if q < 200000 then (ad (q - 100000)).1 else (ad (q - 200000)).2
theorem zhif_0 (b : Nat) (ad : Nat → Nat × Nat) : zhif b ad 99999 = b := by
  unfold zhif
  rw [if_pos rfl]
theorem zhif_1 (b : Nat) (ad : Nat → Nat × Nat) {i : Nat} (hi : i < 30) : zhif b ad (100000 + i) = (ad i).1 := by
  unfold zhif
  rw [if_neg (by omega), if_pos (by omega), Nat.add_sub_cancel_left]
theorem zhif_2 (b : Nat) (ad : Nat → Nat × Nat) {i : Nat} : zhif b ad (200000 + i) = (ad i).2 := by
  unfold zhif
  rw [if_neg (by omega), if_neg (by omega), Nat.add_sub_cancel_left]
/-- the executor's knowledge at the start -/
theorem zknow {s : State} {b : Nat} (xs : Nat → Int32) (hts : ∀ w ∈ lw_tbl, w.before #[Value.ref b] s = true) (hbl : b < s.heap.size) (hgv : (Jvm.Cond.and given_1 narrow_1).before #[Value.ref b] s = true) :
    ∃ X : zCx, zρ X = xs ∧ zbs X = s.heap.size ∧ zH0 X = s.heap ∧ zLn X = 0 ∧ zhi X 99999 = b ∧ zKn X s := by
  obtain ⟨ad, had⟩ := Classical.axiomOfChoice (ztext hts hgv)
  have hc : ∀ c : Nat, ∃ q : ClassId × (Nat → Nat), c < 12 → u_Kn s (zcn c) (zTX c) (zxCn c) q.1 q.2 := by
    intro c
    by_cases h : c < 12
    · obtain ⟨cC, iS, hk⟩ := u_known (ws := zTs) (s := s) (args := #[Value.ref b]) (fun w hw => hts w (List.mem_filter.mp hw).1) (zTs_in h) (hts _ (zins c h).1)
      exact ⟨(cC, iS), fun _ => hk⟩
    · exact ⟨((show ClassId from 0), fun _ => 0), fun z => absurd z h⟩
  obtain ⟨cd, hcd⟩ := Classical.axiomOfChoice hc
  refine ⟨(xs, zhif b ad, fun c => (cd c).1, fun c => (cd c).2, s.heap.size, s.heap, 0), rfl, rfl, rfl, rfl, ?_, ?_⟩
  · exact zhif_0 b ad
  obtain ⟨t1, t2, t3, t4, t5, t6⟩ := ztx3
  have hA : ∀ a : Nat, a < s.heap.size → ¬ (fun q => s.heap.size ≤ q) a := fun a ha z => Nat.not_le.mpr ha z
  refine ⟨fun w hw hg A => zgood_any hg (hts w hw) A, fun c q hq => ?_, ⟨?_, ?_, ?_⟩, fun i hi => ?_, ?_, ?_⟩
  · have h12 : c < 12 := by
      rcases Nat.lt_or_ge c 12 with h | h
      · exact h
      · exfalso
        have : vwCl[c]? = none := List.getElem?_eq_none (by show 12 ≤ c; exact h)
        rw [this] at hq
        cases hq
    rw [zvw c h12] at hq
    cases hq
    exact hcd c h12
  · show zhif b ad 99999 < s.heap.size
    rw [zhif_0]
    exact hbl
  · show (0 : Nat) < 2147483648
    omega
  · exact Or.inl rfl
  · have e1 := zhif_1 b ad hi
    have e2 := zhif_2 b ad (i := i)
    obtain ⟨g1, g2, g3, g4, g5⟩ := had i hi
    rw [← e1] at g1 g2 g3 g4
    rw [← e2] at g4 g5
    exact ⟨g1, g2, g3, g4, g5⟩
  · exact va_Zof (hts _ (zwd_mem t3)) (hts _ (zwd_mem t4)) (va_eqt (zfp_use hgv t1)) hA
  · exact va_Zqof (hts _ (zwd_mem t5)) (hts _ (zwd_mem t6)) (zfp_use hgv t2) hA
