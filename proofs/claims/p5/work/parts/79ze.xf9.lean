/-! LETTERS of the reference, walked by hand -/
def xLt (x : Int64) (t : Int32) : Int64 := Int64.ofNat 27 * x + t.toInt64 - Int64.ofNat 96
theorem xLw {mi : zyB} {B : zCx} {s : State} {Wg : zyWt} {en : zEn} (hRl : xRl mi en B s Wg) (hen : en.1 = zxi314) {c74 c84 : zyCl} (h74 : zG mi 74 = some c74) (hc74 : c74.1 = 11) (h84 : zG mi 84 = some c84) (hc84 : c84.1 = 22) (hn84 : c84.2.1 = 900) (hr74 : ∀ r ∈ c74.2.2, r.1 ≤ 43 → 43 ≤ r.2.1 → r.2.2 = 147573952589676412932)
    {H : Heap} {locs : List Loc} {lsB : Array Slot} (hI : zyMI mi B zyJ0 s H) (hlo : ∀ x ∈ locs, zbs B ≤ x.base) (hls : lsB[0]? = some (.val (.ref (zad B 74)))) {L : Int64} {q : Nat} {t : Int32} (hq : q < 900) (h1 : zyEl mi B H 74 43 = some (.long L)) (h2 : zyEl mi B H 74 39 = some (.int (Int32.ofNat q))) (h3 : zyEl mi B H 84 q = some (.int t)) (h4 : zyEl mi B H 74 32 = some (.ref (zad B 84)))
    (kk : ∀ (H3 : Heap) (locs3 : List Loc), zyMI mi B zyJ0 s H3 → zyOut mi B H H3 → (∀ x ∈ locs3, zbs B ≤ x.base) → zyEl mi B H3 74 43 = some (.long (xLt L t)) → (∀ a2 k2, ¬ (a2 = 74 ∧ k2 = 43) → zyEl mi B H3 a2 k2 = zyEl mi B H a2 k2) → Wg H3 locs3 217 lsB []) : Wg H locs 185 lsB [.ref (zad B 74)] := by
  obtain ⟨gf, pf, al, lc, la, il, ao, go, lk, ld⟩ := hRl
  refine lc 185 431 27 _ H locs lsB (by rw [hen]; rfl) ?_
  refine ao 188 0 0 _ _ H locs lsB (by rw [hen]; rfl) hls ?_
  refine gf 189 427 747 74 c74 (.long L) _ H locs lsB (by rw [hen]; rfl) h74 hc74 (by omega) hI h1 ?_
  refine (la 192 0 _ _ _ H locs lsB).1 (by rw [hen]; rfl) ?_
  refine ao 193 0 0 _ _ H locs lsB (by rw [hen]; rfl) hls ?_
  refine gf 194 47 736 74 c74 (.ref (zad B 84)) _ H locs lsB (by rw [hen]; rfl) h74 hc74 (by omega) hI h4 ?_
  refine ao 197 0 0 _ _ H locs lsB (by rw [hen]; rfl) hls ?_
  refine gf 198 415 743 74 c74 (.int (Int32.ofNat q)) _ H locs lsB (by rw [hen]; rfl) h74 hc74 (by omega) hI h2 ?_
  refine al 201 0 84 q c84 (.int t) _ H locs lsB (Or.inl ⟨hc84, by rw [hen]; rfl⟩) h84 (by omega) hI h3 ?_
  refine il 202 0 _ _ H locs lsB (by rw [hen]; rfl) ?_
  refine (la 203 0 _ _ _ H locs lsB).2.1 (by rw [hen]; rfl) ?_
  refine lc 204 433 96 _ H locs lsB (by rw [hen]; rfl) ?_
  refine (la 207 0 _ _ _ H locs lsB).2.2.1 (by rw [hen]; rfl) ?_
  refine go 208 214 6 _ H locs lsB (by rw [hen]; rfl) ?_
  exact pf 214 427 747 74 c74 _ _ H locs lsB (by rw [hen]; rfl) h74 hc74 (by omega) rfl (by decide) hr74 hI hlo kk
theorem xLw1 {mi : zyB} {B : zCx} {s : State} {Wg : zyWt} {en : zEn} (hRl : xRl mi en B s Wg) (hen : en.1 = zxi314) {c74 : zyCl} (h74 : zG mi 74 = some c74) (hc74 : c74.1 = 11) (hr74 : ∀ r ∈ c74.2.2, r.1 ≤ 43 → 43 ≤ r.2.1 → r.2.2 = 147573952589676412932)
    {H : Heap} {locs : List Loc} {lsB : Array Slot} (hI : zyMI mi B zyJ0 s H) (hlo : ∀ x ∈ locs, zbs B ≤ x.base)
    (kk : ∀ (H3 : Heap) (locs3 : List Loc), zyMI mi B zyJ0 s H3 → zyOut mi B H H3 → (∀ x ∈ locs3, zbs B ≤ x.base) → zyEl mi B H3 74 43 = some (.long (Int64.ofNat 18446744073709551615)) → (∀ a2 k2, ¬ (a2 = 74 ∧ k2 = 43) → zyEl mi B H3 a2 k2 = zyEl mi B H a2 k2) → Wg H3 locs3 217 lsB []) : Wg H locs 211 lsB [.ref (zad B 74)] := by
  obtain ⟨gf, pf, al, lc, la, il, ao, go, lk, ld⟩ := hRl
  refine lc 211 435 18446744073709551615 _ H locs lsB (by rw [hen]; rfl) ?_
  exact pf 214 427 747 74 c74 _ _ H locs lsB (by rw [hen]; rfl) h74 hc74 (by omega) rfl (by decide) hr74 hI hlo kk
/-- is it the word w? from pc 15: the comparison of longs, then pc 26 -/
theorem xLi {mi : zyB} {B : zCx} {s : State} {Wg : zyWt} {en : zEn} (hRl : xRl mi en B s Wg) (hen : en.1 = zxi316) {c74 c85 : zyCl} (h74 : zG mi 74 = some c74) (hc74 : c74.1 = 11) (h85 : zG mi 85 = some c85) (hc85 : c85.1 = 21)
    {H : Heap} {locs : List Loc} {lsB : Array Slot} (hI : zyMI mi B zyJ0 s H) (hls : lsB[0]? = some (.val (.ref (zad B 74)))) {q : Nat} (hl1 : lsB[1]? = some (.val (.int (Int32.ofNat q)))) (hq : q < c85.2.1) {L L2 : Int64} (h1 : zyEl mi B H 74 43 = some (.long L)) (h4 : zyEl mi B H 74 44 = some (.ref (zad B 85))) (h2 : zyEl mi B H 85 q = some (.long L2))
    (kk : Wg H locs 26 lsB [.int (lg_cmp L L2)]) : Wg H locs 15 lsB [] := by
  obtain ⟨gf, pf, al, lc, la, il, ao, go, lk, ld⟩ := hRl
  refine ao 15 0 0 _ _ H locs lsB (by rw [hen]; rfl) hls ?_
  refine gf 16 427 747 74 c74 (.long L) _ H locs lsB (by rw [hen]; rfl) h74 hc74 (by omega) hI h1 ?_
  refine ao 19 0 0 _ _ H locs lsB (by rw [hen]; rfl) hls ?_
  refine gf 20 75 748 74 c74 (.ref (zad B 85)) _ H locs lsB (by rw [hen]; rfl) h74 hc74 (by omega) hI h4 ?_
  refine ld 23 0 1 _ _ H locs lsB (by rw [hen]; rfl) hl1 ?_
  refine al 24 0 85 q c85 (.long L2) _ H locs lsB (Or.inr ⟨hc85, by rw [hen]; rfl⟩) h85 hq hI h2 ?_
  exact (la 25 0 _ _ _ H locs lsB).2.2.2 (by rw [hen]; rfl) kk
theorem xLw0 {mi : zyB} {B : zCx} {s : State} {Wg : zyWt} {en : zEn} (hRl : xRl mi en B s Wg) (hen : en.1 = zxi314) {c74 : zyCl} (h74 : zG mi 74 = some c74) (hc74 : c74.1 = 11) (hr74 : ∀ r ∈ c74.2.2, r.1 ≤ 43 → 43 ≤ r.2.1 → r.2.2 = 147573952589676412932)
    {H : Heap} {locs : List Loc} {lsB : Array Slot} (hI : zyMI mi B zyJ0 s H) (hlo : ∀ x ∈ locs, zbs B ≤ x.base) (hls : lsB[0]? = some (.val (.ref (zad B 74))))
    (kk : ∀ (H3 : Heap) (locs3 : List Loc), zyMI mi B zyJ0 s H3 → zyOut mi B H H3 → (∀ x ∈ locs3, zbs B ≤ x.base) → zyEl mi B H3 74 43 = some (.long (Int64.ofNat 0)) → (∀ a2 k2, ¬ (a2 = 74 ∧ k2 = 43) → zyEl mi B H3 a2 k2 = zyEl mi B H a2 k2) → Wg H3 locs3 147 lsB []) : Wg H locs 142 lsB [] := by
  obtain ⟨gf, pf, al, lc, la, il, ao, go, lk, ld⟩ := hRl
  refine ao 142 0 0 _ _ H locs lsB (by rw [hen]; rfl) hls ?_
  refine lk 143 0 0 _ H locs lsB (by rw [hen]; rfl) ?_
  exact pf 144 427 747 74 c74 _ _ H locs lsB (by rw [hen]; rfl) h74 hc74 (by omega) rfl (by decide) hr74 hI hlo kk
