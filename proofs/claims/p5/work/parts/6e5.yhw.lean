/-! PUBLIC METHODS by the table -/
theorem zy595 {B : zCx} {J : zyJt} : zyV (zyX0 B J) 595 (.ref (zad B 74)) := Or.inl ⟨Or.inr (Or.inr (Or.inr (Or.inl ⟨rfl, rfl⟩))), fun q => absurd q (by decide), fun q => absurd q (by decide)⟩
theorem zyFx {B : zCx} {J : zyJt} (x : Int32) : zyV (zyX0 B J) 34359738362 (.int x) := zyv_bd (lo := 0) (hi := 4294967295) (Nat.zero_le _) (by have := zB_lt x; omega) (by decide)
theorem zyag0 {J : zyJt} : ∀ (B : zCx) (xs : List Int32), xs.length = 0 → True → zySt (zyX0 B J) [595] (zyAr B xs)
  | _, [], _, _ => ⟨zy595, trivial⟩
theorem zyag1 {J : zyJt} : ∀ (B : zCx) (xs : List Int32), xs.length = 1 → True → zySt (zyX0 B J) [595, 34359738362] (zyAr B xs)
  | _, [x], _, _ => ⟨zy595, zyFx x, trivial⟩
theorem zyag2 {J : zyJt} : ∀ (B : zCx) (xs : List Int32), xs.length = 2 → True → zySt (zyX0 B J) [595, 34359738362, 34359738362] (zyAr B xs)
  | _, [x, y], _, _ => ⟨zy595, zyFx x, zyFx y, trivial⟩
theorem zyag3 {J : zyJt} : ∀ (B : zCx) (xs : List Int32), xs.length = 3 → True → zySt (zyX0 B J) [595, 34359738362, 34359738362, 34359738362] (zyAr B xs)
  | _, [x, y, z], _, _ => ⟨zy595, zyFx x, zyFx y, zyFx z, trivial⟩
def zyBo (xs : List Int32) : Prop := ∃ x y : Int32, xs = [x, y] ∧ (y = 0 ∨ y = 1)
theorem zyagb {J : zyJt} : ∀ (B : zCx) (xs : List Int32), xs.length = 2 → zyBo xs → zySt (zyX0 B J) [595, 34359738362, 73786976312018075658] (zyAr B xs) := by
  intro B xs _ h
  obtain ⟨x, y, rfl, hy⟩ := h
  refine ⟨zy595, zyFx x, ?_, trivial⟩
  rcases hy with rfl | rfl
  · exact zyv_bd (lo := 2147483648) (hi := 2147483649) (by decide) (by decide) (by decide)
  · exact zyv_bd (lo := 2147483648) (hi := 2147483649) (by decide) (by decide) (by decide)
theorem zypre0 {mi : zyB} : ∀ (B : zCx) (H : Heap) (U : State), zyMI mi B zyJ0 U H → (∃ T : Nat, T + 100 ≤ 1073741824 ∧ zyEl mi B H 75 3 = some (.int (Int32.ofNat T))) → zyPk mi B [] H := fun _ _ _ _ _ p hp => by cases hp
theorem zypreT {r c : Nat} : ∀ (B : zCx) (H : Heap) (U : State), zyMI (zymr r c) B zyJ0 U H → (∃ T : Nat, T + 100 ≤ 1073741824 ∧ zyEl (zymr r c) B H 75 3 = some (.int (Int32.ofNat T))) → zyPk (zymr r c) B [(1228803, 73786976320608010242)] H := by
  intro B H U _ h p hp
  obtain ⟨T, h1, h2⟩ := h
  rw [List.mem_singleton.mp hp]
  exact ⟨zymr75 r c, _, rfl, by rw [zyL75]; decide, h2, by decide, zyv_bd (lo := 2147483648) (hi := 3221225472) (by rw [zyBn (by omega)]; omega) (by rw [zyBn (by omega)]; omega) (by decide)⟩
theorem zyS1m {r c : Nat} : zyS1 r c % 8 ≤ 2 := by
  rw [zyS1_def]
  omega
theorem zySm {r c : Nat} : zyS r c % 8 ≤ 2 := by
  rw [zyS_def]
  omega
section YHW
variable {l : Launch} {r c : Nat} {en : zEn} {me : zMe}
theorem zystatus_U (h1 : 1 ≤ r) (h2 : r ≤ 4) (h3 : 1 ≤ c) (h4 : c ≤ 5) (hen : zG zxMeta 189 = some en) (hme : zG zMeth 189 = some me) : zyHc l (zymr r c) en me 1 0 zyΦu zyΨu := zyHc_mono (zyHc_c (zyrefB h1 h2 h3 h4 23 (by decide) en me hen hme) (Φa := fun _ => True) rfl zyag0 zypre0 (cd := 73786976312018075722) ⟨rfl, by decide⟩ rfl) (fun _ _ _ _ h => ⟨trivial, h⟩) (fun _ _ _ _ _ _ _ h => h)
theorem zyfault_U (h1 : 1 ≤ r) (h2 : r ≤ 4) (h3 : 1 ≤ c) (h4 : c ≤ 5) (hen : zG zxMeta 330 = some en) (hme : zG zMeth 330 = some me) : zyHc l (zymr r c) en me 1 1 zyΦu zyΨu := zyHc_mono (zyHc_c (zyrefB h1 h2 h3 h4 64 (by decide) en me hen hme) (Φa := fun _ => True) rfl zyag1 zypre0 (cd := 34359738362) ⟨rfl, by decide⟩ rfl) (fun _ _ _ _ h => ⟨trivial, h⟩) (fun _ _ _ _ _ _ _ h => h)
theorem zymany_U (h1 : 1 ≤ r) (h2 : r ≤ 4) (h3 : 1 ≤ c) (h4 : c ≤ 5) (hen : zG zxMeta 262 = some en) (hme : zG zMeth 262 = some me) : zyHc l (zymr r c) en me 14 1 zyΦu zyΨu := zyHc_mono (zyHc_c (zyrefB h1 h2 h3 h4 29 (by decide) en me hen hme) (Φa := fun _ => True) rfl zyag1 zypre0 (cd := 34359738362) ⟨rfl, by decide⟩ rfl) (fun _ _ _ _ h => ⟨trivial, h⟩) (fun _ _ _ _ _ _ _ h => h)
theorem zygate_U (h1 : 1 ≤ r) (h2 : r ≤ 4) (h3 : 1 ≤ c) (h4 : c ≤ 5) (hen : zG zxMeta 263 = some en) (hme : zG zMeth 263 = some me) : zyHc l (zymr r c) en me 5 2 zyΦu zyΨu := zyHc_mono (zyHc_c (zyrefB h1 h2 h3 h4 30 (by decide) en me hen hme) (Φa := fun _ => True) rfl zyag2 zypre0 (cd := 73786976277658337914) ⟨rfl, by decide⟩ rfl) (fun _ _ _ _ h => ⟨trivial, h⟩) (fun _ _ _ _ _ _ _ h => h)
theorem zybit_U (h1 : 1 ≤ r) (h2 : r ≤ 4) (h3 : 1 ≤ c) (h4 : c ≤ 5) (hen : zG zxMeta 264 = some en) (hme : zG zMeth 264 = some me) : zyHc l (zymr r c) en me 4 2 zyΦu zyΨu := zyHc_mono (zyHc_c (zyrefB h1 h2 h3 h4 31 (by decide) en me hen hme) (Φa := fun _ => True) rfl zyag2 zypre0 (cd := 73786976277658337290) ⟨rfl, by decide⟩ rfl) (fun _ _ _ _ h => ⟨trivial, h⟩) (fun _ _ _ _ _ _ _ h => h)
theorem zybobbin_U (h1 : 1 ≤ r) (h2 : r ≤ 4) (h3 : 1 ≤ c) (h4 : c ≤ 5) (hen : zG zxMeta 266 = some en) (hme : zG zMeth 266 = some me) : zyHc l (zymr r c) en me 7 2 zyΦu zyΨu := zyHc_mono (zyHc_c (zyrefB h1 h2 h3 h4 36 (by decide) en me hen hme) (Φa := fun _ => True) rfl zyag2 zypre0 (cd := 34359738362) ⟨rfl, by decide⟩ rfl) (fun _ _ _ _ h => ⟨trivial, h⟩) (fun _ _ _ _ _ _ _ h => h)
theorem zyat_U (h1 : 1 ≤ r) (h2 : r ≤ 4) (h3 : 1 ≤ c) (h4 : c ≤ 5) (hen : zG zxMeta 268 = some en) (hme : zG zMeth 268 = some me) : zyHc l (zymr r c) en me 3 1 zyΦu zyΨu := zyHc_mono (zyHc_c (zyrefB h1 h2 h3 h4 38 (by decide) en me hen hme) (Φa := fun _ => True) rfl zyag1 zypre0 (cd := 73786976277658337338) ⟨rfl, by decide⟩ rfl) (fun _ _ _ _ h => ⟨trivial, h⟩) (fun _ _ _ _ _ _ _ h => h)
theorem zyfaces_U (h1 : 1 ≤ r) (h2 : r ≤ 4) (h3 : 1 ≤ c) (h4 : c ≤ 5) (hen : zG zxMeta 269 = some en) (hme : zG zMeth 269 = some me) : zyHc l (zymr r c) en me 7 1 zyΦu zyΨu := zyHc_mono (zyHc_c (zyrefB h1 h2 h3 h4 39 (by decide) en me hen hme) (Φa := fun _ => True) rfl zyag1 zypre0 (cd := (zyS1 r c)) ⟨rfl, zyS1m⟩ rfl) (fun _ _ _ _ h => ⟨trivial, h⟩) (fun _ _ _ _ _ _ _ h => h)
theorem zyprogram_U (h1 : 1 ≤ r) (h2 : r ≤ 4) (h3 : 1 ≤ c) (h4 : c ≤ 5) (hen : zG zxMeta 270 = some en) (hme : zG zMeth 270 = some me) : zyHc l (zymr r c) en me 4 3 zyΦu zyΨu := zyHc_mono (zyHc_c (zyrefB h1 h2 h3 h4 40 (by decide) en me hen hme) (Φa := fun _ => True) rfl zyag3 zypre0 (cd := 73786976277658337314) ⟨rfl, by decide⟩ rfl) (fun _ _ _ _ h => ⟨trivial, h⟩) (fun _ _ _ _ _ _ _ h => h)
theorem zystick_U (h1 : 1 ≤ r) (h2 : r ≤ 4) (h3 : 1 ≤ c) (h4 : c ≤ 5) (hen : zG zxMeta 271 = some en) (hme : zG zMeth 271 = some me) : zyHc l (zymr r c) en me 4 2 zyΦu zyΨu := zyHc_mono (zyHc_c (zyrefB h1 h2 h3 h4 41 (by decide) en me hen hme) (Φa := fun _ => True) rfl zyag2 zypre0 (cd := 73786976277658337298) ⟨rfl, by decide⟩ rfl) (fun _ _ _ _ h => ⟨trivial, h⟩) (fun _ _ _ _ _ _ _ h => h)
theorem zyfree_U (h1 : 1 ≤ r) (h2 : r ≤ 4) (h3 : 1 ≤ c) (h4 : c ≤ 5) (hen : zG zxMeta 272 = some en) (hme : zG zMeth 272 = some me) : zyHc l (zymr r c) en me 5 2 (fun xs E => zyBo xs ∧ zyΦu xs E) zyΨu := zyHc_c (zyrefB h1 h2 h3 h4 42 (by decide) en me hen hme) (Φa := zyBo) rfl zyagb zypre0 (cd := 34359738362) ⟨rfl, by decide⟩ rfl
theorem zywish_U (h1 : 1 ≤ r) (h2 : r ≤ 4) (h3 : 1 ≤ c) (h4 : c ≤ 5) (hen : zG zxMeta 277 = some en) (hme : zG zMeth 277 = some me) : zyHc l (zymr r c) en me 3 2 zyΦu zyΨu := zyHc_mono (zyHc_c (zyrefB h1 h2 h3 h4 43 (by decide) en me hen hme) (Φa := fun _ => True) rfl zyag2 zypre0 (cd := (zyS1 r c)) ⟨rfl, zyS1m⟩ rfl) (fun _ _ _ _ h => ⟨trivial, h⟩) (fun _ _ _ _ _ _ _ h => h)
theorem zyout_U (h1 : 1 ≤ r) (h2 : r ≤ 4) (h3 : 1 ≤ c) (h4 : c ≤ 5) (hen : zG zxMeta 339 = some en) (hme : zG zMeth 339 = some me) : zyHc l (zymr r c) en me 2 1 zyΦu zyΨu := zyHc_mono (zyHc_c (zyrefB h1 h2 h3 h4 65 (by decide) en me hen hme) (Φa := fun _ => True) rfl zyag1 zypre0 (cd := 34359738362) ⟨rfl, by decide⟩ rfl) (fun _ _ _ _ h => ⟨trivial, h⟩) (fun _ _ _ _ _ _ _ h => h)
theorem zymap_U (h1 : 1 ≤ r) (h2 : r ≤ 4) (h3 : 1 ≤ c) (h4 : c ≤ 5) (hen : zG zxMeta 282 = some en) (hme : zG zMeth 282 = some me) : zyHc l (zymr r c) en me 9 2 zyΦu zyΨu := zyHc_mono (zyHc_c (zyrefB h1 h2 h3 h4 44 (by decide) en me hen hme) (Φa := fun _ => True) rfl zyag2 zypre0 (cd := (zyS1 r c)) ⟨rfl, zyS1m⟩ rfl) (fun _ _ _ _ h => ⟨trivial, h⟩) (fun _ _ _ _ _ _ _ h => h)
theorem zyride_U (h1 : 1 ≤ r) (h2 : r ≤ 4) (h3 : 1 ≤ c) (h4 : c ≤ 5) (hen : zG zxMeta 283 = some en) (hme : zG zMeth 283 = some me) : zyHc l (zymr r c) en me 9 3 zyΦu zyΨu := zyHc_mono (zyHc_c (zyrefB h1 h2 h3 h4 45 (by decide) en me hen hme) (Φa := fun _ => True) rfl zyag3 zypre0 (cd := (zyS1 r c)) ⟨rfl, zyS1m⟩ rfl) (fun _ _ _ _ h => ⟨trivial, h⟩) (fun _ _ _ _ _ _ _ h => h)
theorem zyround_U (h1 : 1 ≤ r) (h2 : r ≤ 4) (h3 : 1 ≤ c) (h4 : c ≤ 5) (hen : zG zxMeta 284 = some en) (hme : zG zMeth 284 = some me) : zyHc l (zymr r c) en me 15 1 zyΦu zyΨu := zyHc_mono (zyHc_c (zyrefB h1 h2 h3 h4 46 (by decide) en me hen hme) (Φa := fun _ => True) rfl zyag1 zypre0 (cd := (zyS1 r c)) ⟨rfl, zyS1m⟩ rfl) (fun _ _ _ _ h => ⟨trivial, h⟩) (fun _ _ _ _ _ _ _ h => h)
theorem zytrack_U (h1 : 1 ≤ r) (h2 : r ≤ 4) (h3 : 1 ≤ c) (h4 : c ≤ 5) (hen : zG zxMeta 287 = some en) (hme : zG zMeth 287 = some me) : zyHc l (zymr r c) en me 18 2 zyΦu zyΨu := zyHc_mono (zyHc_c (zyrefB h1 h2 h3 h4 48 (by decide) en me hen hme) (Φa := fun _ => True) rfl zyag2 zypre0 (cd := 34359738362) ⟨rfl, by decide⟩ rfl) (fun _ _ _ _ h => ⟨trivial, h⟩) (fun _ _ _ _ _ _ _ h => h)
theorem zytracks_U (h1 : 1 ≤ r) (h2 : r ≤ 4) (h3 : 1 ≤ c) (h4 : c ≤ 5) (hen : zG zxMeta 288 = some en) (hme : zG zMeth 288 = some me) : zyHc l (zymr r c) en me 92 1 zyΦu zyΨu := zyHc_mono (zyHc_c (zyrefB h1 h2 h3 h4 49 (by decide) en me hen hme) (Φa := fun _ => True) rfl zyag1 zypre0 (cd := 34359738362) ⟨rfl, by decide⟩ rfl) (fun _ _ _ _ h => ⟨trivial, h⟩) (fun _ _ _ _ _ _ _ h => h)
theorem zyofLength_U (h1 : 1 ≤ r) (h2 : r ≤ 4) (h3 : 1 ≤ c) (h4 : c ≤ 5) (hen : zG zxMeta 289 = some en) (hme : zG zMeth 289 = some me) : zyHc l (zymr r c) en me 16 1 zyΦu zyΨu := zyHc_mono (zyHc_c (zyrefB h1 h2 h3 h4 50 (by decide) en me hen hme) (Φa := fun _ => True) rfl zyag1 zypre0 (cd := 34359738362) ⟨rfl, by decide⟩ rfl) (fun _ _ _ _ h => ⟨trivial, h⟩) (fun _ _ _ _ _ _ _ h => h)
theorem zymeets_U (h1 : 1 ≤ r) (h2 : r ≤ 4) (h3 : 1 ≤ c) (h4 : c ≤ 5) (hen : zG zxMeta 291 = some en) (hme : zG zMeth 291 = some me) : zyHc l (zymr r c) en me 15 3 zyΦu zyΨu := zyHc_mono (zyHc_c (zyrefB h1 h2 h3 h4 51 (by decide) en me hen hme) (Φa := fun _ => True) rfl zyag3 zypre0 (cd := 34359738362) ⟨rfl, by decide⟩ rfl) (fun _ _ _ _ h => ⟨trivial, h⟩) (fun _ _ _ _ _ _ _ h => h)
theorem zycrash_U (h1 : 1 ≤ r) (h2 : r ≤ 4) (h3 : 1 ≤ c) (h4 : c ≤ 5) (hen : zG zxMeta 292 = some en) (hme : zG zMeth 292 = some me) : zyHc l (zymr r c) en me 15 1 zyΦu zyΨu := zyHc_mono (zyHc_c (zyrefB h1 h2 h3 h4 52 (by decide) en me hen hme) (Φa := fun _ => True) rfl zyag1 zypreT (cd := 34359738362) ⟨rfl, by decide⟩ rfl) (fun _ _ _ _ h => ⟨trivial, h⟩) (fun _ _ _ _ _ _ _ h => h)
theorem zyrepeat_U (h1 : 1 ≤ r) (h2 : r ≤ 4) (h3 : 1 ≤ c) (h4 : c ≤ 5) (hen : zG zxMeta 293 = some en) (hme : zG zMeth 293 = some me) : zyHc l (zymr r c) en me 92 0 zyΦu zyΨu := zyHc_mono (zyHc_c (zyrefB h1 h2 h3 h4 53 (by decide) en me hen hme) (Φa := fun _ => True) rfl zyag0 zypreT (cd := 34359738362) ⟨rfl, by decide⟩ rfl) (fun _ _ _ _ h => ⟨trivial, h⟩) (fun _ _ _ _ _ _ _ h => h)
theorem zylaid_U (h1 : 1 ≤ r) (h2 : r ≤ 4) (h3 : 1 ≤ c) (h4 : c ≤ 5) (hen : zG zxMeta 294 = some en) (hme : zG zMeth 294 = some me) : zyHc l (zymr r c) en me 15 1 zyΦu zyΨu := zyHc_mono (zyHc_c (zyrefB h1 h2 h3 h4 54 (by decide) en me hen hme) (Φa := fun _ => True) rfl zyag1 zypre0 (cd := (zyS1 r c)) ⟨rfl, zyS1m⟩ rfl) (fun _ _ _ _ h => ⟨trivial, h⟩) (fun _ _ _ _ _ _ _ h => h)
theorem zyletter_U (h1 : 1 ≤ r) (h2 : r ≤ 4) (h3 : 1 ≤ c) (h4 : c ≤ 5) (hen : zG zxMeta 259 = some en) (hme : zG zMeth 259 = some me) : zyHc l (zymr r c) en me 2 1 zyΦu zyΨu := zyHc_mono (zyHc_c (zyrefB h1 h2 h3 h4 27 (by decide) en me hen hme) (Φa := fun _ => True) rfl zyag1 zypre0 (cd := 73786976071499907130) ⟨rfl, by decide⟩ rfl) (fun _ _ _ _ h => ⟨trivial, h⟩) (fun _ _ _ _ _ _ _ h => h)
theorem zywished_U (h1 : 1 ≤ r) (h2 : r ≤ 4) (h3 : 1 ≤ c) (h4 : c ≤ 5) (hen : zG zxMeta 260 = some en) (hme : zG zMeth 260 = some me) : zyHc l (zymr r c) en me 2 1 zyΦu zyΨu := zyHc_mono (zyHc_c (zyrefB h1 h2 h3 h4 28 (by decide) en me hen hme) (Φa := fun _ => True) rfl zyag1 zypre0 (cd := 73786976071499907130) ⟨rfl, by decide⟩ rfl) (fun _ _ _ _ h => ⟨trivial, h⟩) (fun _ _ _ _ _ _ _ h => h)
theorem zyends_U (h1 : 1 ≤ r) (h2 : r ≤ 4) (h3 : 1 ≤ c) (h4 : c ≤ 5) (hen : zG zxMeta 255 = some en) (hme : zG zMeth 255 = some me) : zyHc l (zymr r c) en me 3 1 zyΦu zyΨu := zyHc_mono (zyHc_c (zyrefB h1 h2 h3 h4 24 (by decide) en me hen hme) (Φa := fun _ => True) rfl zyag1 zypre0 (cd := 34359738362) ⟨rfl, by decide⟩ rfl) (fun _ _ _ _ h => ⟨trivial, h⟩) (fun _ _ _ _ _ _ _ h => h)
theorem zythread_U (h1 : 1 ≤ r) (h2 : r ≤ 4) (h3 : 1 ≤ c) (h4 : c ≤ 5) (hen : zG zxMeta 257 = some en) (hme : zG zMeth 257 = some me) : zyHc l (zymr r c) en me 3 2 zyΦu zyΨu := zyHc_mono (zyHc_c (zyrefB h1 h2 h3 h4 25 (by decide) en me hen hme) (Φa := fun _ => True) rfl zyag2 zypre0 (cd := 34359738362) ⟨rfl, by decide⟩ rfl) (fun _ _ _ _ h => ⟨trivial, h⟩) (fun _ _ _ _ _ _ _ h => h)
theorem zytimes_U (h1 : 1 ≤ r) (h2 : r ≤ 4) (h3 : 1 ≤ c) (h4 : c ≤ 5) (hen : zG zxMeta 258 = some en) (hme : zG zMeth 258 = some me) : zyHc l (zymr r c) en me 10 1 zyΦu zyΨu := zyHc_mono (zyHc_c (zyrefB h1 h2 h3 h4 26 (by decide) en me hen hme) (Φa := fun _ => True) rfl zyag1 zypre0 (cd := 73786976277658337290) ⟨rfl, by decide⟩ rfl) (fun _ _ _ _ h => ⟨trivial, h⟩) (fun _ _ _ _ _ _ _ h => h)
theorem zysearch_U (h1 : 1 ≤ r) (h2 : r ≤ 4) (h3 : 1 ≤ c) (h4 : c ≤ 5) (hen : zG zxMeta 299 = some en) (hme : zG zMeth 299 = some me) : zyHc l (zymr r c) en me 11 1 zyΦu zyΨu := zyHc_mono (zyHc_c (zyrefB h1 h2 h3 h4 55 (by decide) en me hen hme) (Φa := fun _ => True) rfl zyag1 zypre0 (cd := 73786976294838206450) ⟨rfl, by decide⟩ rfl) (fun _ _ _ _ h => ⟨trivial, h⟩) (fun _ _ _ _ _ _ _ h => h)
theorem zyrefusal_U (h1 : 1 ≤ r) (h2 : r ≤ 4) (h3 : 1 ≤ c) (h4 : c ≤ 5) (hen : zG zxMeta 300 = some en) (hme : zG zMeth 300 = some me) : zyHc l (zymr r c) en me 11 3 zyΦu zyΨu := zyHc_mono (zyHc_c (zyrefB h1 h2 h3 h4 56 (by decide) en me hen hme) (Φa := fun _ => True) rfl zyag3 zypre0 (cd := 34359738362) ⟨rfl, by decide⟩ rfl) (fun _ _ _ _ h => ⟨trivial, h⟩) (fun _ _ _ _ _ _ _ h => h)
theorem zyrefused_U (h1 : 1 ≤ r) (h2 : r ≤ 4) (h3 : 1 ≤ c) (h4 : c ≤ 5) (hen : zG zxMeta 301 = some en) (hme : zG zMeth 301 = some me) : zyHc l (zymr r c) en me 11 2 zyΦu zyΨu := zyHc_mono (zyHc_c (zyrefB h1 h2 h3 h4 57 (by decide) en me hen hme) (Φa := fun _ => True) rfl zyag2 zypre0 (cd := 34359738362) ⟨rfl, by decide⟩ rfl) (fun _ _ _ _ h => ⟨trivial, h⟩) (fun _ _ _ _ _ _ _ h => h)
theorem zyseen_U (h1 : 1 ≤ r) (h2 : r ≤ 4) (h3 : 1 ≤ c) (h4 : c ≤ 5) (hen : zG zxMeta 302 = some en) (hme : zG zMeth 302 = some me) : zyHc l (zymr r c) en me 3 3 zyΦu zyΨu := zyHc_mono (zyHc_c (zyrefB h1 h2 h3 h4 58 (by decide) en me hen hme) (Φa := fun _ => True) rfl zyag3 zypre0 (cd := 73786976277658337378) ⟨rfl, by decide⟩ rfl) (fun _ _ _ _ h => ⟨trivial, h⟩) (fun _ _ _ _ _ _ _ h => h)
theorem zyforget_U (h1 : 1 ≤ r) (h2 : r ≤ 4) (h3 : 1 ≤ c) (h4 : c ≤ 5) (hen : zG zxMeta 303 = some en) (hme : zG zMeth 303 = some me) : zyHc l (zymr r c) en me 2 0 zyΦu zyΨu := zyHc_mono (zyHc_c (zyrefB h1 h2 h3 h4 59 (by decide) en me hen hme) (Φa := fun _ => True) rfl zyag0 zypre0 (cd := 73786976312018075746) ⟨rfl, by decide⟩ rfl) (fun _ _ _ _ h => ⟨trivial, h⟩) (fun _ _ _ _ _ _ _ h => h)
theorem zyname_U (h1 : 1 ≤ r) (h2 : r ≤ 4) (h3 : 1 ≤ c) (h4 : c ≤ 5) (hen : zG zxMeta 309 = some en) (hme : zG zMeth 309 = some me) : zyHc l (zymr r c) en me 15 1 zyΦu zyΨu := zyHc_mono (zyHc_c (zyrefB h1 h2 h3 h4 62 (by decide) en me hen hme) (Φa := fun _ => True) rfl zyag1 zypre0 (cd := 34359738362) ⟨rfl, by decide⟩ rfl) (fun _ _ _ _ h => ⟨trivial, h⟩) (fun _ _ _ _ _ _ _ h => h)
theorem zynamed_U (h1 : 1 ≤ r) (h2 : r ≤ 4) (h3 : 1 ≤ c) (h4 : c ≤ 5) (hen : zG zxMeta 310 = some en) (hme : zG zMeth 310 = some me) : zyHc l (zymr r c) en me 15 2 zyΦu zyΨu := zyHc_mono (zyHc_c (zyrefB h1 h2 h3 h4 63 (by decide) en me hen hme) (Φa := fun _ => True) rfl zyag2 zypre0 (cd := 34359738362) ⟨rfl, by decide⟩ rfl) (fun _ _ _ _ h => ⟨trivial, h⟩) (fun _ _ _ _ _ _ _ h => h)
theorem zybraid_U (h1 : 1 ≤ r) (h2 : r ≤ 4) (h3 : 1 ≤ c) (h4 : c ≤ 5) (hen : zG zxMeta 253 = some en) (hme : zG zMeth 253 = some me) : zyHc l (zymr r c) en me 9 1 zyΦu zyΨu := by
  refine zyHc_mono (zybraid_H h1 h2 h3 h4 hen hme) (fun xs E _ _ h => h.1) (fun xs E E2 vo _ _ h hΨ => ?_)
  obtain ⟨k1, k4⟩ := hΨ
  exact ⟨zyKu_3 (zJ1_bd k1 h.1) (k1 74 33 (by omega) (by omega)) (k1 75 3 (by omega) (by omega)), k4⟩
end YHW
/-! print -/
theorem zyrefG {l : Launch} {J : zyJt} (hJ : zyJr J) : ∀ i, i < 5 → zyCo l zymw J zyig i := by
  intro i
  induction i using Nat.strongRecOn with
  | ind i IH =>
    intro hi
    have IH' : ∀ d, d < i → zyCo l zymw J zyig d := fun d hd => IH d hd (by omega)
    by_cases e0 : i = 0
    · subst e0
      exact fun en me he hm => zytells_G hJ he hm
    by_cases e1 : i = 1
    · subst e1
      exact zychk_ok (zychks_iff zygg1 1 (by decide) (by decide)) hJ.1 IH'
    by_cases e2 : i = 2
    · subst e2
      exact zychk_ok (zychks_iff zygg2 2 (by decide) (by decide)) hJ.1 IH'
    by_cases e3 : i = 3
    · subst e3
      exact zychk_ok (zychks_iff zygg3 3 (by decide) (by decide)) hJ.1 IH'
    by_cases e4 : i = 4
    · subst e4
      exact zychk_ok (zychks_iff zygg4 4 (by decide) (by decide)) hJ.1 IH'
    omega
theorem zyprint_U {l : Launch} {r c : Nat} {en : zEn} {me : zMe} (h1 : 1 ≤ r) (h2 : r ≤ 4) (h3 : 1 ≤ c) (h4 : c ≤ 5) (hen : zG zxMeta 338 = some en) (hme : zG zMeth 338 = some me) : zyHc l (zymr r c) en me 10 0 zyΦu zyΨu := by
  have hc := zyCon_up h1 h2 h3 h4 (zyrefG (l := l) zyJf_r 4 (by decide) en me hen hme) rfl (fun k hk => by
    cases hq : zyin (zyIg zyig 4).2.1.2.1 75 k with
    | false => rfl
    | true =>
      obtain ⟨p0, g1, g2, g3, g4⟩ := zyin_iff.mp hq
      have g1 : p0 ∈ [(74, 2, 3), (74, 47, 48), (86, 0, 899), (87, 0, 899)] := g1
      simp only [List.mem_cons, List.not_mem_nil, or_false] at g1
      rcases g1 with rfl | rfl | rfl | rfl <;> exact absurd g2 (by decide))
  exact zyHc_mono (zyHc_c hc (Φa := fun _ => True) rfl zyag0 zypre0 (cd := 73786976277658344482) ⟨rfl, by decide⟩ rfl) (fun _ _ _ _ h => ⟨trivial, h⟩) (fun _ _ _ _ _ _ _ h => h)
