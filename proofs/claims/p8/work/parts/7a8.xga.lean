/-! THE REFERENCE: bit, program, stick, faces (printed by m31.py) -/
noncomputable def zxfbt_zx0 : zyXp := (0, [595, 34359738369, 68719476737], [], [], [], [])
noncomputable def zpfbt_z : zyPh := (0, [595, 34359738369, 68719476737], [(0, 4294967295), (0, 4294967295), (0, 4294967295)], [], [])
noncomputable def zxfbt_ar0 : zyXp := (0, [], [34359738360], [(20, 0, 68719476737, 0)], [(68719476737, 0, 2147483647)], [])
noncomputable def zxfbt_ar1 : zyXp := (0, [], [34359738360], [(21, 0, 68719476737, 0), (3, 171798691841, 103079215105, 171798691833), (3, 206158430209, 137438953465, 137438953473), (1, 240518168577, 171798691841, 206158430209), (20, 0, 34359738369, 0)], [(34359738369, 0, 2147483647), (68719476737, 2147483648, 4294967295), (103079215105, 2147483649, 2147483652), (137438953473, 2147483649, 2147483653), (171798691841, 2147483648, 2147483664), (206158430209, 2147483648, 2147483663), (240518168577, 2147483648, 2147483679)], [])
noncomputable def zxfbt_ar2 : zyXp := (0, [], [34359738360], [(21, 0, 68719476737, 0), (3, 171798691841, 103079215105, 171798691833), (3, 206158430209, 137438953465, 137438953473), (1, 240518168577, 171798691841, 206158430209), (21, 0, 34359738369, 0), (20, 0, 274877906937, 34359738369)], [(34359738369, 2147483648, 4294967295), (68719476737, 2147483648, 4294967295), (103079215105, 2147483649, 2147483652), (137438953473, 2147483649, 2147483653), (171798691841, 2147483648, 2147483664), (206158430209, 2147483648, 2147483663), (240518168577, 2147483648, 2147483679)], [])
noncomputable def zxfbt_ar3 : zyXp := (0, [], [377957122049], [(21, 0, 68719476737, 0), (3, 171798691841, 103079215105, 171798691833), (3, 206158430209, 137438953465, 137438953473), (1, 240518168577, 171798691841, 206158430209), (21, 0, 34359738369, 0), (21, 0, 274877906937, 34359738369), (24, 274877906945, 75, 34359738689), (20, 0, 68719476737, 274877906945), (24, 309237645313, 75, 34359738433), (9, 343597383681, 309237645313, 68719476737), (4, 377957122049, 343597383681, 8)], [(34359738369, 2147483648, 2147483678), (68719476737, 2147483648, 4294967294), (103079215105, 2147483649, 2147483652), (137438953473, 2147483649, 2147483653), (171798691841, 2147483648, 2147483664), (206158430209, 2147483648, 2147483663), (240518168577, 2147483649, 2147483679), (274877906945, 2147483649, 4294967295), (377957122049, 2147483648, 2147483649)], [])
noncomputable def zxfbt_ar4 : zyXp := (0, [], [34359738360], [(21, 0, 68719476737, 0), (3, 171798691841, 103079215105, 171798691833), (3, 206158430209, 137438953465, 137438953473), (1, 240518168577, 171798691841, 206158430209), (21, 0, 34359738369, 0), (21, 0, 274877906937, 34359738369), (24, 274877906945, 75, 34359738689), (21, 0, 68719476737, 274877906945)], [(34359738369, 2147483648, 2147483678), (68719476737, 2147483648, 4294967295), (103079215105, 2147483649, 2147483652), (137438953473, 2147483649, 2147483653), (171798691841, 2147483648, 2147483664), (206158430209, 2147483648, 2147483663), (240518168577, 2147483649, 2147483679)], [])
noncomputable def zpfbt_a : zyPh := (0, [595, 34359738369, 68719476737], [(0, 4294967295), (0, 4294967295), (0, 4294967295), (2147483649, 2147483652), (2147483649, 2147483653)], [(1228800, 103079215105), (1228801, 137438953473)], [])
noncomputable def zpfbt (i : Nat) : zyPh := zif (Nat.beq i 0) (zpfbt_z) (zpfbt_a)
noncomputable def zXfbt (i : Nat) : List zyXp := zif (Nat.beq i 0) ([zxfbt_zx0]) ([])
noncomputable def zRfbt (i : Nat) : List zyXp := zif (Nat.beq i 0) ([]) ([zxfbt_ar0, zxfbt_ar1, zxfbt_ar2, zxfbt_ar3, zxfbt_ar4])
noncomputable def zFfbt (i : Nat) : zyR := zif (Nat.beq i 0) ([]) ([(74, 2, 3)])
noncomputable def zSfbt (i : Nat) : Nat := zif (Nat.beq i 0) (0) (0)
/-! WHAT THE PLAN'S METHODS ANSWER, over its cells -/
def isG (S : Int → Int) (g : Int) : Prop := 0 ≤ g ∧ g < gN (S 0) (S 1)
def sRC (S : Int → Int) : Prop := (1 ≤ S 0 ∧ S 0 ≤ 4) ∧ (1 ≤ S 1 ∧ S 1 ≤ 5)
def aBit (S : Int → Int) (g i : Int) : Int := if 0 ≤ i ∧ (0 ≤ g ∧ g < gN (S 0) (S 1)) ∧ i < S (40 + g) then xop 4 (xop 9 (S (8 + g)) i) 1 else -1
def vPrg (S : Int → Int) (g b l : Int) : Prop := (1 ≤ l ∧ l ≤ 4) ∧ 0 ≤ b ∧ xop 9 b l ≤ 0 ∧ isG S g ∧ ¬ (S (8 + g) = b ∧ S (40 + g) = l)
def vStk (S : Int → Int) (g v : Int) : Prop := (0 ≤ v ∧ v ≤ 2) ∧ isG S g ∧ ¬ S (72 + g) = v
def xΦrc (_ : Nat → Int) (E : zyEm) : Prop := sRC (xE E 75)
def xΨbt (x : Nat → Int) (E _ : zyEm) (r : Int) : Prop := r = aBit (xE E 75) (x 0) (x 1)
noncomputable def fpfbt : zyR := [(74, 2, 3)]
theorem zyfbt_run : zyrS zymx zxi264 (264, 0, 0, 1, 0) 4 zpfbt (fun _ _ => []) zFfbt zSfbt zXfbt zRfbt 2 = true := by decide +kernel
theorem zyfbt_ck : zyAll (fun i => xsubR (zFfbt i) fpfbt && ((zXfbt i).all xckX && (zRfbt i).all (fun x => xckX x && xrtB true x))) 2 = true := by decide +kernel
def xIfbt (i : Nat) (x0 : Nat → Int) (E0 : zyEm) (v : Nat → Int) (E : zyEm) : Prop := if i = 0 then (E = E0 ∧ (v 1) = x0 0 ∧ (v 2) = x0 1) else (E = E0 ∧ (v 1) = x0 0 ∧ (v 2) = x0 1)
def xMfbt (i : Nat) (x0 : Nat → Int) (E0 : zyEm) (v : Nat → Int) (E : zyEm) : Nat := if i = 0 then (2) else (1)
theorem xBt {l : Launch} {en : zEn} {me : zMe} (hen : zG zxMeta 264 = some en) (hme : zG zMeth 264 = some me) : xFc l zymx en me 4 [74] 2 fpfbt true xΦrc xΨbt := by
  have een : zG zxMeta 264 = some (zxi264, 3, 3, 11, 264, 0, 0, 1, 0) := rfl
  obtain ⟨me1, hme1, hOK⟩ := zall hen
  rw [hme] at hme1
  cases hme1
  rw [een] at hen
  cases hen
  have hr := zyfbt_run
  have hck := fun i hi => zyAll_iff zyfbt_ck i hi
  simp only [Bool.and_eq_true] at hck
  intro B
  refine xcut (mi := zymx) (B := B) hOK rfl rfl (ι := Fin 2) (fun i => zpfbt i.val) (fun _ _ => []) (fun i => zFfbt i.val) (fun i => zSfbt i.val) (fun i => zXfbt i.val) (fun i => zRfbt i.val) (fun i y2 ct en2 me2 h => by cases h) 200000 (fun i => zyAll_iff hr i.val i.isLt) (fun i => (hck i.val i.isLt).1) (fun i => (hck i.val i.isLt).2.1) (fun i => (hck i.val i.isLt).2.2) ⟨0, by decide⟩ ⟨rfl, rfl, rfl, rfl⟩ ⟨by decide, by decide⟩ (fun i x0 E0 v E => xIfbt i.val x0 E0 v E) (fun i x0 E0 v E => xMfbt i.val x0 E0 v E) ?_ ?_ ?_
  · intro x0 E hx0 hT hΦ
    have hΦ : xΦrc x0 E := hΦ
    refine ⟨fun k p hp => ?_, ?_⟩
    · have hk : k < 3 := (List.getElem?_eq_some_iff.mp hp).1
      have hk : k = 0 ∨ k = 1 ∨ k = 2 := by omega
      rcases hk with rfl | rfl | rfl
      · have hp : some (0, 4294967295) = some p := hp
        cases hp
        show ((0 : Nat) : Int) ≤ 0 + 2147483648 ∧ 0 + 2147483648 ≤ ((4294967295 : Nat) : Int)
        omega
      · have hp : some (0, 4294967295) = some p := hp
        cases hp
        show ((0 : Nat) : Int) ≤ x0 0 + 2147483648 ∧ x0 0 + 2147483648 ≤ ((4294967295 : Nat) : Int)
        have hx := hx0 0
        omega
      · have hp : some (0, 4294967295) = some p := hp
        cases hp
        show ((0 : Nat) : Int) ≤ x0 1 + 2147483648 ∧ x0 1 + 2147483648 ≤ ((4294967295 : Nat) : Int)
        have hx := hx0 1
        omega
    · show E = E ∧ (x0 0) = x0 0 ∧ (x0 1) = x0 1
      exact ⟨rfl, rfl, rfl⟩
  · intro x0 s Wg hRu hrx hT0 hΦ i v H hT hrv hInv hKc hFr0 hIH x hx ρ2 v2 N2 H2 locs lsB stA hAt hB hv hr2 hXs hag hfr hFr hT2
    rcases i with ⟨i, hi⟩
    have hi2 : i = 0 ∨ i = 1 := by omega
    rcases hi2 with rfl | rfl
    · have hx : x ∈ [zxfbt_zx0] := hx
      have hag : ∀ k, k < 3 → v2 k = v k := hag
      have hfr : xFr [] _ _ := hfr
      have ex := List.mem_singleton.mp hx
      subst ex
      obtain ⟨hF, hBd, hM⟩ := hXs
      have r1 := hr2 1
      have r2 := hr2 2
      have g1 : v2 1 = v 1 := hag 1 (by decide)
      have g2 : v2 2 = v 2 := hag 2 (by decide)
      have e75_0 : xE (zyEl zymx B H2) 75 0 = xE (zyEl zymx B H) 75 0 := xFr_E hfr rfl
      have q75_0 : xE (zyEl zymx B H) 75 0 = xE (zyEl zymx B s.heap) 75 0 := xFr_E hFr0 rfl
      have e75_1 : xE (zyEl zymx B H2) 75 1 = xE (zyEl zymx B H) 75 1 := xFr_E hfr rfl
      have q75_1 : xE (zyEl zymx B H) 75 1 = xE (zyEl zymx B s.heap) 75 1 := xFr_E hFr0 rfl
      have e75 : ∀ i, xE (zyEl zymx B H2) 75 i = xE (zyEl zymx B H) 75 i := fun i => xFr_E hfr rfl
      have q75 : ∀ i, xE (zyEl zymx B H) 75 i = xE (zyEl zymx B s.heap) 75 i := fun i => xFr_E hFr0 rfl
      have hI : (zyEl zymx B H) = (zyEl zymx B s.heap) ∧ (v 1) = x0 0 ∧ (v 2) = x0 1 := hInv
      obtain ⟨hE, i1, i2⟩ := hI
      obtain ⟨hr, hcc⟩ := (show xΦrc x0 (zyEl zymx B s.heap) from hΦ)
      have z75_0 : ((0 : Nat) : Int) ≤ xE (zyEl zymx B H2) 75 0 + 2147483648 ∧ xE (zyEl zymx B H2) 75 0 + 2147483648 ≤ ((4294967295 : Nat) : Int) := xTyF hT2 75 0 0 rfl rfl rfl rfl rfl rfl
      have z75_1 : ((0 : Nat) : Int) ≤ xE (zyEl zymx B H2) 75 1 + 2147483648 ∧ xE (zyEl zymx B H2) 75 1 + 2147483648 ≤ ((4294967295 : Nat) : Int) := xTyF hT2 75 1 0 rfl rfl rfl rfl rfl rfl
      refine xGo hIH hAt hB hv hFr ⟨1, by decide⟩ [0, 34359738369, 68719476737] [0, (v2 1), (v2 2), xE (zyEl zymx B H2) 75 0, xE (zyEl zymx B H2) 75 1] rfl ⟨by decide +kernel, ⟨rfl, by decide +kernel⟩, (xcs_c rfl (xcs_c rfl (xcs_c rfl xcs_n))), (xe_0 (xe_f (by omega) (xe_f (by omega) (xe_c (by omega) (by omega) rfl (xe_c (by omega) (by omega) rfl xe_n))))), (xkq_c hT2 75 0 (q := 0) rfl rfl rfl rfl rfl rfl rfl rfl rfl rfl rfl (xkq_c hT2 75 1 (q := 0) rfl rfl rfl rfl rfl rfl rfl rfl rfl rfl rfl xkq_n))⟩ xst_n ?_ ?_
      · show (zyEl zymx B H2) = (zyEl zymx B s.heap) ∧ ((v2 1) : Int) = x0 0 ∧ ((v2 2) : Int) = x0 1
        exact ⟨(xFr_n hfr).trans hE, by omega, by omega⟩
      · show 1 < 2
        omega
    · cases hx
  · intro x0 E0 E E2 hrx hT0 hΦ i v hT hrv hInv hKc hFr0 x hx v2 hr2 hXs hag hfr hFr hT2
    rcases i with ⟨i, hi⟩
    have hi2 : i = 0 ∨ i = 1 := by omega
    rcases hi2 with rfl | rfl
    · cases hx
    · have hx : x ∈ [zxfbt_ar0, zxfbt_ar1, zxfbt_ar2, zxfbt_ar3, zxfbt_ar4] := hx
      have hag : ∀ k, k < 5 → v2 k = v k := hag
      have hfr : xFr [(74, 2, 3)] _ _ := hfr
      rcases List.mem_cons.mp hx with ex | hx
      · subst ex
        obtain ⟨hF, hBd, hM⟩ := hXs
        have g1 : v2 1 = v 1 := hag 1 (by decide)
        have g2 : v2 2 = v 2 := hag 2 (by decide)
        have g3 : v2 3 = v 3 := hag 3 (by decide)
        have g4 : v2 4 = v 4 := hag 4 (by decide)
        have b0 : ((0 : Nat) : Int) ≤ (v2 2) + 2147483648 ∧ (v2 2) + 2147483648 ≤ ((2147483647 : Nat) : Int) := xXb hBd 0 rfl
        have k0 : xE E 75 0 = v 3 := xKcf hKc 0 rfl rfl
        have k1 : xE E 75 1 = v 4 := xKcf hKc 1 rfl rfl
        have f0 : (v2 2) < 0 := xXf hF 0 rfl
        have e75_0 : xE E2 75 0 = xE E 75 0 := xFr_E hfr rfl
        have q75_0 : xE E 75 0 = xE E0 75 0 := xFr_E hFr0 rfl
        have e75_1 : xE E2 75 1 = xE E 75 1 := xFr_E hfr rfl
        have q75_1 : xE E 75 1 = xE E0 75 1 := xFr_E hFr0 rfl
        have e75 : ∀ i, xE E2 75 i = xE E 75 i := fun i => xFr_E hfr rfl
        have q75 : ∀ i, xE E 75 i = xE E0 75 i := fun i => xFr_E hFr0 rfl
        have hI : E = E0 ∧ (v 1) = x0 0 ∧ (v 2) = x0 1 := hInv
        show xΨbt x0 E0 E2 (-1)
        obtain ⟨hE, i1, i2⟩ := hI
        obtain ⟨hr, hcc⟩ := (show xΦrc x0 E0 from hΦ)
        unfold xΨbt aBit
        rw [if_neg]
        rintro ⟨y1, ⟨y2, y3⟩, y4⟩
        omega
      · skip
        rcases List.mem_cons.mp hx with ex | hx
        · subst ex
          obtain ⟨hF, hBd, hM⟩ := hXs
          have g1 : v2 1 = v 1 := hag 1 (by decide)
          have g2 : v2 2 = v 2 := hag 2 (by decide)
          have g3 : v2 3 = v 3 := hag 3 (by decide)
          have g4 : v2 4 = v 4 := hag 4 (by decide)
          have b0 : ((0 : Nat) : Int) ≤ (v2 1) + 2147483648 ∧ (v2 1) + 2147483648 ≤ ((2147483647 : Nat) : Int) := xXb hBd 0 rfl
          have b1 : ((2147483648 : Nat) : Int) ≤ (v2 2) + 2147483648 ∧ (v2 2) + 2147483648 ≤ ((4294967295 : Nat) : Int) := xXb hBd 1 rfl
          have b2 : ((2147483649 : Nat) : Int) ≤ (v2 3) + 2147483648 ∧ (v2 3) + 2147483648 ≤ ((2147483652 : Nat) : Int) := xXb hBd 2 rfl
          have b3 : ((2147483649 : Nat) : Int) ≤ (v2 4) + 2147483648 ∧ (v2 4) + 2147483648 ≤ ((2147483653 : Nat) : Int) := xXb hBd 3 rfl
          have b4 : ((2147483648 : Nat) : Int) ≤ (v2 5) + 2147483648 ∧ (v2 5) + 2147483648 ≤ ((2147483664 : Nat) : Int) := xXb hBd 4 rfl
          have b5 : ((2147483648 : Nat) : Int) ≤ (v2 6) + 2147483648 ∧ (v2 6) + 2147483648 ≤ ((2147483663 : Nat) : Int) := xXb hBd 5 rfl
          have b6 : ((2147483648 : Nat) : Int) ≤ (v2 7) + 2147483648 ∧ (v2 7) + 2147483648 ≤ ((2147483679 : Nat) : Int) := xXb hBd 6 rfl
          have k0 : xE E 75 0 = v 3 := xKcf hKc 0 rfl rfl
          have k1 : xE E 75 1 = v 4 := xKcf hKc 1 rfl rfl
          have f0 : 0 ≤ (v2 2) := xXf hF 0 rfl
          have f1 : -2147483648 ≤ (v2 3) * (v2 4 + (-1)) → (v2 3) * (v2 4 + (-1)) < 2147483648 → (v2 5) = (v2 3) * (v2 4 + (-1)) := xXf hF 1 rfl
          have f2 : -2147483648 ≤ (v2 3 + (-1)) * (v2 4) → (v2 3 + (-1)) * (v2 4) < 2147483648 → (v2 6) = (v2 3 + (-1)) * (v2 4) := xXf hF 2 rfl
          have f3 : -2147483648 ≤ (v2 5) + (v2 6) → (v2 5) + (v2 6) < 2147483648 → (v2 7) = (v2 5) + (v2 6) := xXf hF 3 rfl
          have f3 := f3 (by omega) (by omega)
          have f4 : (v2 1) < 0 := xXf hF 4 rfl
          have e75_0 : xE E2 75 0 = xE E 75 0 := xFr_E hfr rfl
          have q75_0 : xE E 75 0 = xE E0 75 0 := xFr_E hFr0 rfl
          have e75_1 : xE E2 75 1 = xE E 75 1 := xFr_E hfr rfl
          have q75_1 : xE E 75 1 = xE E0 75 1 := xFr_E hFr0 rfl
          have e75 : ∀ i, xE E2 75 i = xE E 75 i := fun i => xFr_E hfr rfl
          have q75 : ∀ i, xE E 75 i = xE E0 75 i := fun i => xFr_E hFr0 rfl
          have hI : E = E0 ∧ (v 1) = x0 0 ∧ (v 2) = x0 1 := hInv
          show xΨbt x0 E0 E2 (-1)
          obtain ⟨hE, i1, i2⟩ := hI
          obtain ⟨hr, hcc⟩ := (show xΦrc x0 E0 from hΦ)
          have h750 := q75 0
          have h751 := q75 1
          obtain ⟨w1, w2, w3, w4, w5, w6⟩ := gN_of (r := (v2 3)) (c := (v2 4)) (A := (v2 4 + (-1))) (B := (v2 3 + (-1))) (by omega) (by omega) (by omega) (by omega) f1 f2
          rw [show (v2 3) = xE E0 75 0 by omega, show (v2 4) = xE E0 75 1 by omega] at w1 w6
          unfold xΨbt aBit
          rw [if_neg]
          rintro ⟨y1, ⟨y2, y3⟩, y4⟩
          omega
        · skip
          rcases List.mem_cons.mp hx with ex | hx
          · subst ex
            obtain ⟨hF, hBd, hM⟩ := hXs
            have g1 : v2 1 = v 1 := hag 1 (by decide)
            have g2 : v2 2 = v 2 := hag 2 (by decide)
            have g3 : v2 3 = v 3 := hag 3 (by decide)
            have g4 : v2 4 = v 4 := hag 4 (by decide)
            have b0 : ((2147483648 : Nat) : Int) ≤ (v2 1) + 2147483648 ∧ (v2 1) + 2147483648 ≤ ((4294967295 : Nat) : Int) := xXb hBd 0 rfl
            have b1 : ((2147483648 : Nat) : Int) ≤ (v2 2) + 2147483648 ∧ (v2 2) + 2147483648 ≤ ((4294967295 : Nat) : Int) := xXb hBd 1 rfl
            have b2 : ((2147483649 : Nat) : Int) ≤ (v2 3) + 2147483648 ∧ (v2 3) + 2147483648 ≤ ((2147483652 : Nat) : Int) := xXb hBd 2 rfl
            have b3 : ((2147483649 : Nat) : Int) ≤ (v2 4) + 2147483648 ∧ (v2 4) + 2147483648 ≤ ((2147483653 : Nat) : Int) := xXb hBd 3 rfl
            have b4 : ((2147483648 : Nat) : Int) ≤ (v2 5) + 2147483648 ∧ (v2 5) + 2147483648 ≤ ((2147483664 : Nat) : Int) := xXb hBd 4 rfl
            have b5 : ((2147483648 : Nat) : Int) ≤ (v2 6) + 2147483648 ∧ (v2 6) + 2147483648 ≤ ((2147483663 : Nat) : Int) := xXb hBd 5 rfl
            have b6 : ((2147483648 : Nat) : Int) ≤ (v2 7) + 2147483648 ∧ (v2 7) + 2147483648 ≤ ((2147483679 : Nat) : Int) := xXb hBd 6 rfl
            have k0 : xE E 75 0 = v 3 := xKcf hKc 0 rfl rfl
            have k1 : xE E 75 1 = v 4 := xKcf hKc 1 rfl rfl
            have f0 : 0 ≤ (v2 2) := xXf hF 0 rfl
            have f1 : -2147483648 ≤ (v2 3) * (v2 4 + (-1)) → (v2 3) * (v2 4 + (-1)) < 2147483648 → (v2 5) = (v2 3) * (v2 4 + (-1)) := xXf hF 1 rfl
            have f2 : -2147483648 ≤ (v2 3 + (-1)) * (v2 4) → (v2 3 + (-1)) * (v2 4) < 2147483648 → (v2 6) = (v2 3 + (-1)) * (v2 4) := xXf hF 2 rfl
            have f3 : -2147483648 ≤ (v2 5) + (v2 6) → (v2 5) + (v2 6) < 2147483648 → (v2 7) = (v2 5) + (v2 6) := xXf hF 3 rfl
            have f3 := f3 (by omega) (by omega)
            have f4 : 0 ≤ (v2 1) := xXf hF 4 rfl
            have f5 : (v2 7 + (-1)) < (v2 1) := xXf hF 5 rfl
            have e75_0 : xE E2 75 0 = xE E 75 0 := xFr_E hfr rfl
            have q75_0 : xE E 75 0 = xE E0 75 0 := xFr_E hFr0 rfl
            have e75_1 : xE E2 75 1 = xE E 75 1 := xFr_E hfr rfl
            have q75_1 : xE E 75 1 = xE E0 75 1 := xFr_E hFr0 rfl
            have e75 : ∀ i, xE E2 75 i = xE E 75 i := fun i => xFr_E hfr rfl
            have q75 : ∀ i, xE E 75 i = xE E0 75 i := fun i => xFr_E hFr0 rfl
            have hI : E = E0 ∧ (v 1) = x0 0 ∧ (v 2) = x0 1 := hInv
            show xΨbt x0 E0 E2 (-1)
            obtain ⟨hE, i1, i2⟩ := hI
            obtain ⟨hr, hcc⟩ := (show xΦrc x0 E0 from hΦ)
            have h750 := q75 0
            have h751 := q75 1
            obtain ⟨w1, w2, w3, w4, w5, w6⟩ := gN_of (r := (v2 3)) (c := (v2 4)) (A := (v2 4 + (-1))) (B := (v2 3 + (-1))) (by omega) (by omega) (by omega) (by omega) f1 f2
            rw [show (v2 3) = xE E0 75 0 by omega, show (v2 4) = xE E0 75 1 by omega] at w1 w6
            unfold xΨbt aBit
            rw [if_neg]
            rintro ⟨y1, ⟨y2, y3⟩, y4⟩
            omega
          · skip
            rcases List.mem_cons.mp hx with ex | hx
            · subst ex
              obtain ⟨hF, hBd, hM⟩ := hXs
              have r9 := hr2 9
              have r10 := hr2 10
              have g1 : v2 1 = v 1 := hag 1 (by decide)
              have g2 : v2 2 = v 2 := hag 2 (by decide)
              have g3 : v2 3 = v 3 := hag 3 (by decide)
              have g4 : v2 4 = v 4 := hag 4 (by decide)
              have b0 : ((2147483648 : Nat) : Int) ≤ (v2 1) + 2147483648 ∧ (v2 1) + 2147483648 ≤ ((2147483678 : Nat) : Int) := xXb hBd 0 rfl
              have b1 : ((2147483648 : Nat) : Int) ≤ (v2 2) + 2147483648 ∧ (v2 2) + 2147483648 ≤ ((4294967294 : Nat) : Int) := xXb hBd 1 rfl
              have b2 : ((2147483649 : Nat) : Int) ≤ (v2 3) + 2147483648 ∧ (v2 3) + 2147483648 ≤ ((2147483652 : Nat) : Int) := xXb hBd 2 rfl
              have b3 : ((2147483649 : Nat) : Int) ≤ (v2 4) + 2147483648 ∧ (v2 4) + 2147483648 ≤ ((2147483653 : Nat) : Int) := xXb hBd 3 rfl
              have b4 : ((2147483648 : Nat) : Int) ≤ (v2 5) + 2147483648 ∧ (v2 5) + 2147483648 ≤ ((2147483664 : Nat) : Int) := xXb hBd 4 rfl
              have b5 : ((2147483648 : Nat) : Int) ≤ (v2 6) + 2147483648 ∧ (v2 6) + 2147483648 ≤ ((2147483663 : Nat) : Int) := xXb hBd 5 rfl
              have b6 : ((2147483649 : Nat) : Int) ≤ (v2 7) + 2147483648 ∧ (v2 7) + 2147483648 ≤ ((2147483679 : Nat) : Int) := xXb hBd 6 rfl
              have b7 : ((2147483649 : Nat) : Int) ≤ (v2 8) + 2147483648 ∧ (v2 8) + 2147483648 ≤ ((4294967295 : Nat) : Int) := xXb hBd 7 rfl
              have b8 : ((2147483648 : Nat) : Int) ≤ (v2 11) + 2147483648 ∧ (v2 11) + 2147483648 ≤ ((2147483649 : Nat) : Int) := xXb hBd 8 rfl
              have k0 : xE E 75 0 = v 3 := xKcf hKc 0 rfl rfl
              have k1 : xE E 75 1 = v 4 := xKcf hKc 1 rfl rfl
              have f0 : 0 ≤ (v2 2) := xXf hF 0 rfl
              have f1 : -2147483648 ≤ (v2 3) * (v2 4 + (-1)) → (v2 3) * (v2 4 + (-1)) < 2147483648 → (v2 5) = (v2 3) * (v2 4 + (-1)) := xXf hF 1 rfl
              have f2 : -2147483648 ≤ (v2 3 + (-1)) * (v2 4) → (v2 3 + (-1)) * (v2 4) < 2147483648 → (v2 6) = (v2 3 + (-1)) * (v2 4) := xXf hF 2 rfl
              have f3 : -2147483648 ≤ (v2 5) + (v2 6) → (v2 5) + (v2 6) < 2147483648 → (v2 7) = (v2 5) + (v2 6) := xXf hF 3 rfl
              have f3 := f3 (by omega) (by omega)
              have f4 : 0 ≤ (v2 1) := xXf hF 4 rfl
              have f5 : (v2 1) ≤ (v2 7 + (-1)) := xXf hF 5 rfl
              have f6 : (0 : Int) ≤ (v2 1 + 40) ∧ xE E 75 (v2 1 + 40) = (v2 8) := xXf hF 6 rfl
              have f7 : (v2 2) < (v2 8) := xXf hF 7 rfl
              have f8 : (0 : Int) ≤ (v2 1 + 8) ∧ xE E 75 (v2 1 + 8) = (v2 9) := xXf hF 8 rfl
              have f9 : (v2 10) = xop 9 (v2 9) (v2 2) := xXf hF 9 rfl
              have f10 : (v2 11) = xop 4 (v2 10) 1 := xXf hF 10 rfl
              have e75_0 : xE E2 75 0 = xE E 75 0 := xFr_E hfr rfl
              have q75_0 : xE E 75 0 = xE E0 75 0 := xFr_E hFr0 rfl
              have e75_1 : xE E2 75 1 = xE E 75 1 := xFr_E hfr rfl
              have q75_1 : xE E 75 1 = xE E0 75 1 := xFr_E hFr0 rfl
              have e75 : ∀ i, xE E2 75 i = xE E 75 i := fun i => xFr_E hfr rfl
              have q75 : ∀ i, xE E 75 i = xE E0 75 i := fun i => xFr_E hFr0 rfl
              have hI : E = E0 ∧ (v 1) = x0 0 ∧ (v 2) = x0 1 := hInv
              show xΨbt x0 E0 E2 (v2 11)
              obtain ⟨hE, i1, i2⟩ := hI
              obtain ⟨hr, hcc⟩ := (show xΦrc x0 E0 from hΦ)
              have h750 := q75 0
              have h751 := q75 1
              obtain ⟨w1, w2, w3, w4, w5, w6⟩ := gN_of (r := (v2 3)) (c := (v2 4)) (A := (v2 4 + (-1))) (B := (v2 3 + (-1))) (by omega) (by omega) (by omega) (by omega) f1 f2
              rw [show (v2 3) = xE E0 75 0 by omega, show (v2 4) = xE E0 75 1 by omega] at w1 w6
              have c6 : xE E0 75 ((v2 1 + 40)) = (v2 8) := (q75 _).symm.trans f6.2
              have c8 : xE E0 75 ((v2 1 + 8)) = (v2 9) := (q75 _).symm.trans f8.2
              rw [show (v2 1 + 40) = 40 + x0 0 by omega] at c6
              rw [show (v2 1 + 8) = 8 + x0 0 by omega] at c8
              unfold xΨbt aBit
              rw [if_pos ⟨by omega, ⟨by omega, by omega⟩, by omega⟩, c8, f10, f9, show (v2 2) = x0 1 by omega]
            · skip
              have ex := List.mem_singleton.mp hx
              subst ex
              obtain ⟨hF, hBd, hM⟩ := hXs
              have r8 := hr2 8
              have g1 : v2 1 = v 1 := hag 1 (by decide)
              have g2 : v2 2 = v 2 := hag 2 (by decide)
              have g3 : v2 3 = v 3 := hag 3 (by decide)
              have g4 : v2 4 = v 4 := hag 4 (by decide)
              have b0 : ((2147483648 : Nat) : Int) ≤ (v2 1) + 2147483648 ∧ (v2 1) + 2147483648 ≤ ((2147483678 : Nat) : Int) := xXb hBd 0 rfl
              have b1 : ((2147483648 : Nat) : Int) ≤ (v2 2) + 2147483648 ∧ (v2 2) + 2147483648 ≤ ((4294967295 : Nat) : Int) := xXb hBd 1 rfl
              have b2 : ((2147483649 : Nat) : Int) ≤ (v2 3) + 2147483648 ∧ (v2 3) + 2147483648 ≤ ((2147483652 : Nat) : Int) := xXb hBd 2 rfl
              have b3 : ((2147483649 : Nat) : Int) ≤ (v2 4) + 2147483648 ∧ (v2 4) + 2147483648 ≤ ((2147483653 : Nat) : Int) := xXb hBd 3 rfl
              have b4 : ((2147483648 : Nat) : Int) ≤ (v2 5) + 2147483648 ∧ (v2 5) + 2147483648 ≤ ((2147483664 : Nat) : Int) := xXb hBd 4 rfl
              have b5 : ((2147483648 : Nat) : Int) ≤ (v2 6) + 2147483648 ∧ (v2 6) + 2147483648 ≤ ((2147483663 : Nat) : Int) := xXb hBd 5 rfl
              have b6 : ((2147483649 : Nat) : Int) ≤ (v2 7) + 2147483648 ∧ (v2 7) + 2147483648 ≤ ((2147483679 : Nat) : Int) := xXb hBd 6 rfl
              have k0 : xE E 75 0 = v 3 := xKcf hKc 0 rfl rfl
              have k1 : xE E 75 1 = v 4 := xKcf hKc 1 rfl rfl
              have f0 : 0 ≤ (v2 2) := xXf hF 0 rfl
              have f1 : -2147483648 ≤ (v2 3) * (v2 4 + (-1)) → (v2 3) * (v2 4 + (-1)) < 2147483648 → (v2 5) = (v2 3) * (v2 4 + (-1)) := xXf hF 1 rfl
              have f2 : -2147483648 ≤ (v2 3 + (-1)) * (v2 4) → (v2 3 + (-1)) * (v2 4) < 2147483648 → (v2 6) = (v2 3 + (-1)) * (v2 4) := xXf hF 2 rfl
              have f3 : -2147483648 ≤ (v2 5) + (v2 6) → (v2 5) + (v2 6) < 2147483648 → (v2 7) = (v2 5) + (v2 6) := xXf hF 3 rfl
              have f3 := f3 (by omega) (by omega)
              have f4 : 0 ≤ (v2 1) := xXf hF 4 rfl
              have f5 : (v2 1) ≤ (v2 7 + (-1)) := xXf hF 5 rfl
              have f6 : (0 : Int) ≤ (v2 1 + 40) ∧ xE E 75 (v2 1 + 40) = (v2 8) := xXf hF 6 rfl
              have f7 : (v2 8) ≤ (v2 2) := xXf hF 7 rfl
              have e75_0 : xE E2 75 0 = xE E 75 0 := xFr_E hfr rfl
              have q75_0 : xE E 75 0 = xE E0 75 0 := xFr_E hFr0 rfl
              have e75_1 : xE E2 75 1 = xE E 75 1 := xFr_E hfr rfl
              have q75_1 : xE E 75 1 = xE E0 75 1 := xFr_E hFr0 rfl
              have e75 : ∀ i, xE E2 75 i = xE E 75 i := fun i => xFr_E hfr rfl
              have q75 : ∀ i, xE E 75 i = xE E0 75 i := fun i => xFr_E hFr0 rfl
              have hI : E = E0 ∧ (v 1) = x0 0 ∧ (v 2) = x0 1 := hInv
              show xΨbt x0 E0 E2 (-1)
              obtain ⟨hE, i1, i2⟩ := hI
              obtain ⟨hr, hcc⟩ := (show xΦrc x0 E0 from hΦ)
              have h750 := q75 0
              have h751 := q75 1
              obtain ⟨w1, w2, w3, w4, w5, w6⟩ := gN_of (r := (v2 3)) (c := (v2 4)) (A := (v2 4 + (-1))) (B := (v2 3 + (-1))) (by omega) (by omega) (by omega) (by omega) f1 f2
              rw [show (v2 3) = xE E0 75 0 by omega, show (v2 4) = xE E0 75 1 by omega] at w1 w6
              have c6 : xE E0 75 ((v2 1 + 40)) = (v2 8) := (q75 _).symm.trans f6.2
              rw [show (v2 1 + 40) = 40 + x0 0 by omega] at c6
              unfold xΨbt aBit
              rw [if_neg]
              rintro ⟨y1, ⟨y2, y3⟩, y4⟩
              omega
noncomputable def zxfpg_zx0 : zyXp := (0, [595, 34359738369, 68719476737, 103079215105], [], [], [], [])
noncomputable def zpfpg_z : zyPh := (0, [595, 34359738369, 68719476737, 103079215105], [(0, 4294967295), (0, 4294967295), (0, 4294967295), (0, 4294967295)], [], [])
noncomputable def zxfpg_ax0 : zyXp := (75, [595, 34359738369, 68719476737, 103079215105], [], [(21, 0, 103079215105, 8), (21, 0, 32, 103079215105), (21, 0, 68719476737, 0), (9, 206158430209, 68719476737, 103079215105), (21, 0, 0, 206158430209), (3, 240518168577, 137438953473, 206158430201), (3, 274877906945, 171798691833, 171798691841), (1, 309237645313, 240518168577, 274877906945), (21, 0, 34359738369, 0), (21, 0, 343597383673, 34359738369), (24, 343597383681, 75, 34359738433), (23, 0, 343597383681, 68719476737)], [(34359738369, 2147483648, 2147483678), (68719476737, 2147483648, 4294967295), (103079215105, 2147483649, 2147483652), (137438953473, 2147483649, 2147483652), (171798691841, 2147483649, 2147483653), (206158430209, 2147483648, 2147483648), (240518168577, 2147483648, 2147483664), (274877906945, 2147483648, 2147483663), (309237645313, 2147483649, 2147483679)], [])
noncomputable def zxfpg_ax1 : zyXp := (75, [595, 34359738369, 68719476737, 103079215105], [], [(21, 0, 103079215105, 8), (21, 0, 32, 103079215105), (21, 0, 68719476737, 0), (9, 206158430209, 68719476737, 103079215105), (21, 0, 0, 206158430209), (3, 240518168577, 137438953473, 206158430201), (3, 274877906945, 171798691833, 171798691841), (1, 309237645313, 240518168577, 274877906945), (21, 0, 34359738369, 0), (21, 0, 343597383673, 34359738369), (24, 343597383681, 75, 34359738433), (22, 0, 343597383681, 68719476737), (24, 377957122049, 75, 34359738689), (23, 0, 377957122049, 103079215105)], [(34359738369, 2147483648, 2147483678), (68719476737, 2147483648, 4294967295), (103079215105, 2147483649, 2147483652), (137438953473, 2147483649, 2147483652), (171798691841, 2147483649, 2147483653), (206158430209, 2147483648, 2147483648), (240518168577, 2147483648, 2147483664), (274877906945, 2147483648, 2147483663), (309237645313, 2147483649, 2147483679)], [])
noncomputable def zxfpg_ar0 : zyXp := (0, [], [34359738360], [(20, 0, 103079215105, 8)], [(103079215105, 0, 2147483648)], [])
noncomputable def zxfpg_ar1 : zyXp := (0, [], [34359738360], [(21, 0, 103079215105, 8), (20, 0, 32, 103079215105)], [(103079215105, 2147483653, 4294967295)], [])
noncomputable def zxfpg_ar2 : zyXp := (0, [], [34359738360], [(21, 0, 103079215105, 8), (21, 0, 32, 103079215105), (20, 0, 68719476737, 0)], [(68719476737, 0, 2147483647), (103079215105, 2147483649, 2147483652)], [])
noncomputable def zxfpg_ar3 : zyXp := (0, [], [34359738360], [(21, 0, 103079215105, 8), (21, 0, 32, 103079215105), (21, 0, 68719476737, 0), (9, 206158430209, 68719476737, 103079215105), (20, 0, 0, 206158430209)], [(68719476737, 2147483648, 4294967295), (103079215105, 2147483649, 2147483652), (206158430209, 2147483649, 3221225471)], [])
noncomputable def zxfpg_ar4 : zyXp := (0, [], [34359738360], [(21, 0, 103079215105, 8), (21, 0, 32, 103079215105), (21, 0, 68719476737, 0), (9, 206158430209, 68719476737, 103079215105), (21, 0, 0, 206158430209), (3, 240518168577, 137438953473, 206158430201), (3, 274877906945, 171798691833, 171798691841), (1, 309237645313, 240518168577, 274877906945), (20, 0, 34359738369, 0)], [(34359738369, 0, 2147483647), (68719476737, 2147483648, 4294967295), (103079215105, 2147483649, 2147483652), (137438953473, 2147483649, 2147483652), (171798691841, 2147483649, 2147483653), (206158430209, 2147483648, 2147483648), (240518168577, 2147483648, 2147483664), (274877906945, 2147483648, 2147483663), (309237645313, 2147483648, 2147483679)], [])
noncomputable def zxfpg_ar5 : zyXp := (0, [], [34359738360], [(21, 0, 103079215105, 8), (21, 0, 32, 103079215105), (21, 0, 68719476737, 0), (9, 206158430209, 68719476737, 103079215105), (21, 0, 0, 206158430209), (3, 240518168577, 137438953473, 206158430201), (3, 274877906945, 171798691833, 171798691841), (1, 309237645313, 240518168577, 274877906945), (21, 0, 34359738369, 0), (20, 0, 343597383673, 34359738369)], [(34359738369, 2147483648, 4294967295), (68719476737, 2147483648, 4294967295), (103079215105, 2147483649, 2147483652), (137438953473, 2147483649, 2147483652), (171798691841, 2147483649, 2147483653), (206158430209, 2147483648, 2147483648), (240518168577, 2147483648, 2147483664), (274877906945, 2147483648, 2147483663), (309237645313, 2147483648, 2147483679)], [])
noncomputable def zxfpg_ar6 : zyXp := (0, [], [34359738360], [(21, 0, 103079215105, 8), (21, 0, 32, 103079215105), (21, 0, 68719476737, 0), (9, 206158430209, 68719476737, 103079215105), (21, 0, 0, 206158430209), (3, 240518168577, 137438953473, 206158430201), (3, 274877906945, 171798691833, 171798691841), (1, 309237645313, 240518168577, 274877906945), (21, 0, 34359738369, 0), (21, 0, 343597383673, 34359738369), (24, 343597383681, 75, 34359738433), (22, 0, 343597383681, 68719476737), (24, 377957122049, 75, 34359738689), (22, 0, 377957122049, 103079215105)], [(34359738369, 2147483648, 2147483678), (68719476737, 2147483648, 4294967295), (103079215105, 2147483649, 2147483652), (137438953473, 2147483649, 2147483652), (171798691841, 2147483649, 2147483653), (206158430209, 2147483648, 2147483648), (240518168577, 2147483648, 2147483664), (274877906945, 2147483648, 2147483663), (309237645313, 2147483649, 2147483679)], [])
noncomputable def zpfpg_a : zyPh := (0, [595, 34359738369, 68719476737, 103079215105], [(0, 4294967295), (0, 4294967295), (0, 4294967295), (0, 4294967295), (2147483649, 2147483652), (2147483649, 2147483653)], [(1228800, 137438953473), (1228801, 171798691841)], [])
noncomputable def zxfpg_bx0 : zyXp := (75, [595, 34359738369, 68719476737, 103079215105], [], [], [(34359738369, 2147483648, 2147483678), (103079215105, 2147483649, 2147483652)], [])
noncomputable def zpfpg_b : zyPh := (75, [595, 34359738369, 68719476737, 103079215105], [(0, 4294967295), (2147483648, 2147483678), (0, 4294967295), (2147483649, 2147483652)], [], [])
noncomputable def zxfpg_b2x0 : zyXp := (84, [595, 34359738369, 68719476737, 103079215105], [68719476737, 34359738433, 603], [], [(34359738369, 2147483648, 2147483678), (103079215105, 2147483649, 2147483652), (34359738433, 2147483656, 2147483686)], [])
noncomputable def zpfpg_b2 : zyPh := (75, [595, 34359738369, 68719476737, 103079215105], [(0, 4294967295), (2147483648, 2147483678), (0, 4294967295), (2147483649, 2147483652)], [], [])
noncomputable def zxfpg_cx0 : zyXp := (94, [595, 13, 13, 103079215105], [103079215105, 34359738689, 603], [], [(34359738369, 2147483648, 2147483678), (103079215105, 2147483649, 2147483652), (34359738689, 2147483688, 2147483718)], [])
noncomputable def zpfpg_c : zyPh := (85, [595, 34359738369, 68719476737, 103079215105], [(0, 4294967295), (2147483648, 2147483678), (0, 4294967295), (2147483649, 2147483652)], [], [])
noncomputable def zxfpg_dr0 : zyXp := (0, [], [103079215105], [], [(103079215105, 2147483649, 2147483652)], [])
noncomputable def zpfpg_d : zyPh := (95, [595, 13, 13, 103079215105], [(0, 4294967295), (0, 4294967295), (0, 4294967295), (2147483649, 2147483652)], [], [])
noncomputable def zpfpg (i : Nat) : zyPh := zif (Nat.beq i 0) (zpfpg_z) (zif (Nat.beq i 1) (zpfpg_a) (zif (Nat.beq i 2) (zpfpg_b) (zif (Nat.beq i 3) (zpfpg_b2) (zif (Nat.beq i 4) (zpfpg_c) (zpfpg_d)))))
noncomputable def zXfpg (i : Nat) : List zyXp := zif (Nat.beq i 0) ([zxfpg_zx0]) (zif (Nat.beq i 1) ([zxfpg_ax0, zxfpg_ax1]) (zif (Nat.beq i 2) ([zxfpg_bx0]) (zif (Nat.beq i 3) ([zxfpg_b2x0]) (zif (Nat.beq i 4) ([zxfpg_cx0]) ([])))))
noncomputable def zRfpg (i : Nat) : List zyXp := zif (Nat.beq i 0) ([]) (zif (Nat.beq i 1) ([zxfpg_ar0, zxfpg_ar1, zxfpg_ar2, zxfpg_ar3, zxfpg_ar4, zxfpg_ar5, zxfpg_ar6]) (zif (Nat.beq i 2) ([]) (zif (Nat.beq i 3) ([]) (zif (Nat.beq i 4) ([]) ([zxfpg_dr0])))))
noncomputable def zFfpg (i : Nat) : zyR := zif (Nat.beq i 0) ([]) (zif (Nat.beq i 1) ([(74, 2, 3)]) (zif (Nat.beq i 2) ([]) (zif (Nat.beq i 3) ([]) (zif (Nat.beq i 4) ([]) ([])))))
noncomputable def zSfpg (i : Nat) : Nat := zif (Nat.beq i 0) (0) (zif (Nat.beq i 1) (0) (zif (Nat.beq i 2) (0) (zif (Nat.beq i 3) (0) (zif (Nat.beq i 4) (0) (0)))))
def xΨpg (x : Nat → Int) (E E2 : zyEm) (r : Int) : Prop := (vPrg (xE E 75) (x 0) (x 1) (x 2) → r = x 2 ∧ ∀ k, 0 ≤ k → xE E2 75 k = uS (uS (xE E 75) (8 + x 0) (x 1)) (40 + x 0) (x 2) k) ∧ (¬ vPrg (xE E 75) (x 0) (x 1) (x 2) → r = -1 ∧ ∀ k, xE E2 75 k = xE E 75 k)
noncomputable def fpfpg : zyR := [(74, 2, 3), (75, 8, 70)]
theorem zyfpg_run : zyrS zymx zxi270 (270, 0, 0, 1, 0) 4 zpfpg (fun _ _ => []) zFfpg zSfpg zXfpg zRfpg 6 = true := by decide +kernel
theorem zyfpg_ck : zyAll (fun i => xsubR (zFfpg i) fpfpg && ((zXfpg i).all xckX && (zRfpg i).all (fun x => xckX x && xrtB true x))) 6 = true := by decide +kernel
def xIfpg (i : Nat) (x0 : Nat → Int) (E0 : zyEm) (v : Nat → Int) (E : zyEm) : Prop := if i = 0 then (E = E0 ∧ (v 1) = x0 0 ∧ (v 2) = x0 1 ∧ (v 3) = x0 2) else if i = 1 then (E = E0 ∧ (v 1) = x0 0 ∧ (v 2) = x0 1 ∧ (v 3) = x0 2) else if i = 2 then (vPrg (xE E0 75) (x0 0) (x0 1) (x0 2) ∧ (∀ k, 0 ≤ k → xE E 75 k = xE E0 75 k) ∧ (v 1) = x0 0 ∧ (v 2) = x0 1 ∧ (v 3) = x0 2) else if i = 3 then (vPrg (xE E0 75) (x0 0) (x0 1) (x0 2) ∧ (∀ k, 0 ≤ k → xE E 75 k = xE E0 75 k) ∧ (v 1) = x0 0 ∧ (v 2) = x0 1 ∧ (v 3) = x0 2) else if i = 4 then (vPrg (xE E0 75) (x0 0) (x0 1) (x0 2) ∧ (∀ k, 0 ≤ k → xE E 75 k = uS (xE E0 75) (8 + x0 0) (x0 1) k) ∧ (v 1) = x0 0 ∧ (v 2) = x0 1 ∧ (v 3) = x0 2) else (vPrg (xE E0 75) (x0 0) (x0 1) (x0 2) ∧ (∀ k, 0 ≤ k → xE E 75 k = uS (uS (xE E0 75) (8 + x0 0) (x0 1)) (40 + x0 0) (x0 2) k) ∧ (v 3) = x0 2)
def xMfpg (i : Nat) (x0 : Nat → Int) (E0 : zyEm) (v : Nat → Int) (E : zyEm) : Nat := if i = 0 then (9) else if i = 1 then (8) else if i = 2 then (7) else if i = 3 then (6) else if i = 4 then (5) else (4)
theorem xPg {l : Launch} {en : zEn} {me : zMe} (hen : zG zxMeta 270 = some en) (hme : zG zMeth 270 = some me) : xFc l zymx en me 4 [74] 3 fpfpg true xΦrc xΨpg := by
  have een : zG zxMeta 270 = some (zxi270, 4, 4, 11, 270, 0, 0, 1, 0) := rfl
  obtain ⟨me1, hme1, hOK⟩ := zall hen
  rw [hme] at hme1
  cases hme1
  rw [een] at hen
  cases hen
  have hr := zyfpg_run
  have hck := fun i hi => zyAll_iff zyfpg_ck i hi
  simp only [Bool.and_eq_true] at hck
  intro B
  refine xcut (mi := zymx) (B := B) hOK rfl rfl (ι := Fin 6) (fun i => zpfpg i.val) (fun _ _ => []) (fun i => zFfpg i.val) (fun i => zSfpg i.val) (fun i => zXfpg i.val) (fun i => zRfpg i.val) (fun i y2 ct en2 me2 h => by cases h) 200000 (fun i => zyAll_iff hr i.val i.isLt) (fun i => (hck i.val i.isLt).1) (fun i => (hck i.val i.isLt).2.1) (fun i => (hck i.val i.isLt).2.2) ⟨0, by decide⟩ ⟨rfl, rfl, rfl, rfl⟩ ⟨by decide, by decide⟩ (fun i x0 E0 v E => xIfpg i.val x0 E0 v E) (fun i x0 E0 v E => xMfpg i.val x0 E0 v E) ?_ ?_ ?_
  · intro x0 E hx0 hT hΦ
    have hΦ : xΦrc x0 E := hΦ
    refine ⟨fun k p hp => ?_, ?_⟩
    · have hk : k < 4 := (List.getElem?_eq_some_iff.mp hp).1
      have hk : k = 0 ∨ k = 1 ∨ k = 2 ∨ k = 3 := by omega
      rcases hk with rfl | rfl | rfl | rfl
      · have hp : some (0, 4294967295) = some p := hp
        cases hp
        show ((0 : Nat) : Int) ≤ 0 + 2147483648 ∧ 0 + 2147483648 ≤ ((4294967295 : Nat) : Int)
        omega
      · have hp : some (0, 4294967295) = some p := hp
        cases hp
        show ((0 : Nat) : Int) ≤ x0 0 + 2147483648 ∧ x0 0 + 2147483648 ≤ ((4294967295 : Nat) : Int)
        have hx := hx0 0
        omega
      · have hp : some (0, 4294967295) = some p := hp
        cases hp
        show ((0 : Nat) : Int) ≤ x0 1 + 2147483648 ∧ x0 1 + 2147483648 ≤ ((4294967295 : Nat) : Int)
        have hx := hx0 1
        omega
      · have hp : some (0, 4294967295) = some p := hp
        cases hp
        show ((0 : Nat) : Int) ≤ x0 2 + 2147483648 ∧ x0 2 + 2147483648 ≤ ((4294967295 : Nat) : Int)
        have hx := hx0 2
        omega
    · show E = E ∧ (x0 0) = x0 0 ∧ (x0 1) = x0 1 ∧ (x0 2) = x0 2
      exact ⟨rfl, rfl, rfl, rfl⟩
  · intro x0 s Wg hRu hrx hT0 hΦ i v H hT hrv hInv hKc hFr0 hIH x hx ρ2 v2 N2 H2 locs lsB stA hAt hB hv hr2 hXs hag hfr hFr hT2
    rcases i with ⟨i, hi⟩
    have hi2 : i = 0 ∨ i = 1 ∨ i = 2 ∨ i = 3 ∨ i = 4 ∨ i = 5 := by omega
    rcases hi2 with rfl | rfl | rfl | rfl | rfl | rfl
    · have hx : x ∈ [zxfpg_zx0] := hx
      have hag : ∀ k, k < 4 → v2 k = v k := hag
      have hfr : xFr [] _ _ := hfr
      have ex := List.mem_singleton.mp hx
      subst ex
      obtain ⟨hF, hBd, hM⟩ := hXs
      have r1 := hr2 1
      have r2 := hr2 2
      have r3 := hr2 3
      have g1 : v2 1 = v 1 := hag 1 (by decide)
      have g2 : v2 2 = v 2 := hag 2 (by decide)
      have g3 : v2 3 = v 3 := hag 3 (by decide)
      have e75_0 : xE (zyEl zymx B H2) 75 0 = xE (zyEl zymx B H) 75 0 := xFr_E hfr rfl
      have q75_0 : xE (zyEl zymx B H) 75 0 = xE (zyEl zymx B s.heap) 75 0 := xFr_E hFr0 rfl
      have e75_1 : xE (zyEl zymx B H2) 75 1 = xE (zyEl zymx B H) 75 1 := xFr_E hfr rfl
      have q75_1 : xE (zyEl zymx B H) 75 1 = xE (zyEl zymx B s.heap) 75 1 := xFr_E hFr0 rfl
      have e75 : ∀ i, xE (zyEl zymx B H2) 75 i = xE (zyEl zymx B H) 75 i := fun i => xFr_E hfr rfl
      have hI : (zyEl zymx B H) = (zyEl zymx B s.heap) ∧ (v 1) = x0 0 ∧ (v 2) = x0 1 ∧ (v 3) = x0 2 := hInv
      have q75 : ∀ i, xE (zyEl zymx B H) 75 i = xE (zyEl zymx B s.heap) 75 i := fun i => by rw [hI.1]
      obtain ⟨hE, i1, i2, i3⟩ := hI
      obtain ⟨hr, hcc⟩ := (show xΦrc x0 (zyEl zymx B s.heap) from hΦ)
      have z75_0 : ((0 : Nat) : Int) ≤ xE (zyEl zymx B H2) 75 0 + 2147483648 ∧ xE (zyEl zymx B H2) 75 0 + 2147483648 ≤ ((4294967295 : Nat) : Int) := xTyF hT2 75 0 0 rfl rfl rfl rfl rfl rfl
      have z75_1 : ((0 : Nat) : Int) ≤ xE (zyEl zymx B H2) 75 1 + 2147483648 ∧ xE (zyEl zymx B H2) 75 1 + 2147483648 ≤ ((4294967295 : Nat) : Int) := xTyF hT2 75 1 0 rfl rfl rfl rfl rfl rfl
      refine xGo hIH hAt hB hv hFr ⟨1, by decide⟩ [0, 34359738369, 68719476737, 103079215105] [0, (v2 1), (v2 2), (v2 3), xE (zyEl zymx B H2) 75 0, xE (zyEl zymx B H2) 75 1] rfl ⟨by decide +kernel, ⟨rfl, by decide +kernel⟩, (xcs_c rfl (xcs_c rfl (xcs_c rfl (xcs_c rfl xcs_n)))), (xe_0 (xe_f (by omega) (xe_f (by omega) (xe_f (by omega) (xe_c (by omega) (by omega) rfl (xe_c (by omega) (by omega) rfl xe_n)))))), (xkq_c hT2 75 0 (q := 0) rfl rfl rfl rfl rfl rfl rfl rfl rfl rfl rfl (xkq_c hT2 75 1 (q := 0) rfl rfl rfl rfl rfl rfl rfl rfl rfl rfl rfl xkq_n))⟩ xst_n ?_ ?_
      · show (zyEl zymx B H2) = (zyEl zymx B s.heap) ∧ ((v2 1) : Int) = x0 0 ∧ ((v2 2) : Int) = x0 1 ∧ ((v2 3) : Int) = x0 2
        exact ⟨(xFr_n hfr).trans hE, by omega, by omega, by omega⟩
      · show 8 < 9
        omega
    · have hx : x ∈ [zxfpg_ax0, zxfpg_ax1] := hx
      have hag : ∀ k, k < 6 → v2 k = v k := hag
      have hfr : xFr [(74, 2, 3)] _ _ := hfr
      rcases List.mem_cons.mp hx with ex | hx
      · subst ex
        obtain ⟨hF, hBd, hM⟩ := hXs
        have r10 := hr2 10
        have g1 : v2 1 = v 1 := hag 1 (by decide)
        have g2 : v2 2 = v 2 := hag 2 (by decide)
        have g3 : v2 3 = v 3 := hag 3 (by decide)
        have g4 : v2 4 = v 4 := hag 4 (by decide)
        have g5 : v2 5 = v 5 := hag 5 (by decide)
        have b0 : ((2147483648 : Nat) : Int) ≤ (v2 1) + 2147483648 ∧ (v2 1) + 2147483648 ≤ ((2147483678 : Nat) : Int) := xXb hBd 0 rfl
        have b1 : ((2147483648 : Nat) : Int) ≤ (v2 2) + 2147483648 ∧ (v2 2) + 2147483648 ≤ ((4294967295 : Nat) : Int) := xXb hBd 1 rfl
        have b2 : ((2147483649 : Nat) : Int) ≤ (v2 3) + 2147483648 ∧ (v2 3) + 2147483648 ≤ ((2147483652 : Nat) : Int) := xXb hBd 2 rfl
        have b3 : ((2147483649 : Nat) : Int) ≤ (v2 4) + 2147483648 ∧ (v2 4) + 2147483648 ≤ ((2147483652 : Nat) : Int) := xXb hBd 3 rfl
        have b4 : ((2147483649 : Nat) : Int) ≤ (v2 5) + 2147483648 ∧ (v2 5) + 2147483648 ≤ ((2147483653 : Nat) : Int) := xXb hBd 4 rfl
        have b5 : ((2147483648 : Nat) : Int) ≤ (v2 6) + 2147483648 ∧ (v2 6) + 2147483648 ≤ ((2147483648 : Nat) : Int) := xXb hBd 5 rfl
        have b6 : ((2147483648 : Nat) : Int) ≤ (v2 7) + 2147483648 ∧ (v2 7) + 2147483648 ≤ ((2147483664 : Nat) : Int) := xXb hBd 6 rfl
        have b7 : ((2147483648 : Nat) : Int) ≤ (v2 8) + 2147483648 ∧ (v2 8) + 2147483648 ≤ ((2147483663 : Nat) : Int) := xXb hBd 7 rfl
        have b8 : ((2147483649 : Nat) : Int) ≤ (v2 9) + 2147483648 ∧ (v2 9) + 2147483648 ≤ ((2147483679 : Nat) : Int) := xXb hBd 8 rfl
        have k0 : xE (zyEl zymx B H) 75 0 = v 4 := xKcf hKc 0 rfl rfl
        have k1 : xE (zyEl zymx B H) 75 1 = v 5 := xKcf hKc 1 rfl rfl
        have f0 : 1 ≤ (v2 3) := xXf hF 0 rfl
        have f1 : (v2 3) ≤ 4 := xXf hF 1 rfl
        have f2 : 0 ≤ (v2 2) := xXf hF 2 rfl
        have f3 : (v2 6) = xop 9 (v2 2) (v2 3) := xXf hF 3 rfl
        have f4 : (v2 6) ≤ 0 := xXf hF 4 rfl
        have f5 : -2147483648 ≤ (v2 4) * (v2 5 + (-1)) → (v2 4) * (v2 5 + (-1)) < 2147483648 → (v2 7) = (v2 4) * (v2 5 + (-1)) := xXf hF 5 rfl
        have f6 : -2147483648 ≤ (v2 4 + (-1)) * (v2 5) → (v2 4 + (-1)) * (v2 5) < 2147483648 → (v2 8) = (v2 4 + (-1)) * (v2 5) := xXf hF 6 rfl
        have f7 : -2147483648 ≤ (v2 7) + (v2 8) → (v2 7) + (v2 8) < 2147483648 → (v2 9) = (v2 7) + (v2 8) := xXf hF 7 rfl
        have f7 := f7 (by omega) (by omega)
        have f8 : 0 ≤ (v2 1) := xXf hF 8 rfl
        have f9 : (v2 1) ≤ (v2 9 + (-1)) := xXf hF 9 rfl
        have f10 : (0 : Int) ≤ (v2 1 + 8) ∧ xE (zyEl zymx B H) 75 (v2 1 + 8) = (v2 10) := xXf hF 10 rfl
        have f11 : ¬ (v2 10) = (v2 2) := xXf hF 11 rfl
        have e75_0 : xE (zyEl zymx B H2) 75 0 = xE (zyEl zymx B H) 75 0 := xFr_E hfr rfl
        have q75_0 : xE (zyEl zymx B H) 75 0 = xE (zyEl zymx B s.heap) 75 0 := xFr_E hFr0 rfl
        have e75_1 : xE (zyEl zymx B H2) 75 1 = xE (zyEl zymx B H) 75 1 := xFr_E hfr rfl
        have q75_1 : xE (zyEl zymx B H) 75 1 = xE (zyEl zymx B s.heap) 75 1 := xFr_E hFr0 rfl
        have e75 : ∀ i, xE (zyEl zymx B H2) 75 i = xE (zyEl zymx B H) 75 i := fun i => xFr_E hfr rfl
        have hI : (zyEl zymx B H) = (zyEl zymx B s.heap) ∧ (v 1) = x0 0 ∧ (v 2) = x0 1 ∧ (v 3) = x0 2 := hInv
        have q75 : ∀ i, xE (zyEl zymx B H) 75 i = xE (zyEl zymx B s.heap) 75 i := fun i => by rw [hI.1]
        obtain ⟨hE, i1, i2, i3⟩ := hI
        obtain ⟨hr, hcc⟩ := (show xΦrc x0 (zyEl zymx B s.heap) from hΦ)
        have h750 := q75 0
        have h751 := q75 1
        obtain ⟨w1, w2, w3, w4, w5, w6⟩ := gN_of (r := (v2 4)) (c := (v2 5)) (A := (v2 5 + (-1))) (B := (v2 4 + (-1))) (by omega) (by omega) (by omega) (by omega) f5 f6
        rw [show (v2 4) = xE (zyEl zymx B s.heap) 75 0 by omega, show (v2 5) = xE (zyEl zymx B s.heap) 75 1 by omega] at w1 w6
        have c10 : xE (zyEl zymx B s.heap) 75 ((v2 1 + 8)) = (v2 10) := (q75 _).symm.trans f10.2
        rw [show (v2 1 + 8) = 8 + x0 0 by omega] at c10
        rw [show (v2 2) = x0 1 by omega, show (v2 3) = x0 2 by omega] at f3
        have hvl : vPrg (xE (zyEl zymx B s.heap) 75) (x0 0) (x0 1) (x0 2) := by
          unfold vPrg isG
          refine ⟨⟨by omega, by omega⟩, by omega, by omega, ⟨by omega, by omega⟩, ?_⟩
          rintro ⟨y1, y2⟩
          omega
        refine xGo hIH hAt hB hv hFr ⟨2, by decide⟩ [0, 34359738369, 68719476737, 103079215105] [0, (v2 1), (v2 2), (v2 3)] rfl ⟨by decide +kernel, ⟨rfl, by decide +kernel⟩, (xcs_c rfl (xcs_c rfl (xcs_c rfl (xcs_c rfl xcs_n)))), (xe_0 (xe_c (by omega) (by omega) rfl (xe_f (by omega) (xe_c (by omega) (by omega) rfl xe_n)))), xkq_n⟩ xst_n ?_ ?_
        · show vPrg (xE (zyEl zymx B s.heap) 75) (x0 0) (x0 1) (x0 2) ∧ (∀ k, 0 ≤ k → xE (zyEl zymx B H2) 75 k = xE (zyEl zymx B s.heap) 75 k) ∧ ((v2 1) : Int) = x0 0 ∧ ((v2 2) : Int) = x0 1 ∧ ((v2 3) : Int) = x0 2
          exact ⟨hvl, fun k _ => (e75 k).trans (q75 k), by omega, by omega, by omega⟩
        · show 7 < 8
          omega
      · skip
        have ex := List.mem_singleton.mp hx
        subst ex
        obtain ⟨hF, hBd, hM⟩ := hXs
        have r10 := hr2 10
        have r11 := hr2 11
        have g1 : v2 1 = v 1 := hag 1 (by decide)
        have g2 : v2 2 = v 2 := hag 2 (by decide)
        have g3 : v2 3 = v 3 := hag 3 (by decide)
        have g4 : v2 4 = v 4 := hag 4 (by decide)
        have g5 : v2 5 = v 5 := hag 5 (by decide)
        have b0 : ((2147483648 : Nat) : Int) ≤ (v2 1) + 2147483648 ∧ (v2 1) + 2147483648 ≤ ((2147483678 : Nat) : Int) := xXb hBd 0 rfl
        have b1 : ((2147483648 : Nat) : Int) ≤ (v2 2) + 2147483648 ∧ (v2 2) + 2147483648 ≤ ((4294967295 : Nat) : Int) := xXb hBd 1 rfl
        have b2 : ((2147483649 : Nat) : Int) ≤ (v2 3) + 2147483648 ∧ (v2 3) + 2147483648 ≤ ((2147483652 : Nat) : Int) := xXb hBd 2 rfl
        have b3 : ((2147483649 : Nat) : Int) ≤ (v2 4) + 2147483648 ∧ (v2 4) + 2147483648 ≤ ((2147483652 : Nat) : Int) := xXb hBd 3 rfl
        have b4 : ((2147483649 : Nat) : Int) ≤ (v2 5) + 2147483648 ∧ (v2 5) + 2147483648 ≤ ((2147483653 : Nat) : Int) := xXb hBd 4 rfl
        have b5 : ((2147483648 : Nat) : Int) ≤ (v2 6) + 2147483648 ∧ (v2 6) + 2147483648 ≤ ((2147483648 : Nat) : Int) := xXb hBd 5 rfl
        have b6 : ((2147483648 : Nat) : Int) ≤ (v2 7) + 2147483648 ∧ (v2 7) + 2147483648 ≤ ((2147483664 : Nat) : Int) := xXb hBd 6 rfl
        have b7 : ((2147483648 : Nat) : Int) ≤ (v2 8) + 2147483648 ∧ (v2 8) + 2147483648 ≤ ((2147483663 : Nat) : Int) := xXb hBd 7 rfl
        have b8 : ((2147483649 : Nat) : Int) ≤ (v2 9) + 2147483648 ∧ (v2 9) + 2147483648 ≤ ((2147483679 : Nat) : Int) := xXb hBd 8 rfl
        have k0 : xE (zyEl zymx B H) 75 0 = v 4 := xKcf hKc 0 rfl rfl
        have k1 : xE (zyEl zymx B H) 75 1 = v 5 := xKcf hKc 1 rfl rfl
        have f0 : 1 ≤ (v2 3) := xXf hF 0 rfl
        have f1 : (v2 3) ≤ 4 := xXf hF 1 rfl
        have f2 : 0 ≤ (v2 2) := xXf hF 2 rfl
        have f3 : (v2 6) = xop 9 (v2 2) (v2 3) := xXf hF 3 rfl
        have f4 : (v2 6) ≤ 0 := xXf hF 4 rfl
        have f5 : -2147483648 ≤ (v2 4) * (v2 5 + (-1)) → (v2 4) * (v2 5 + (-1)) < 2147483648 → (v2 7) = (v2 4) * (v2 5 + (-1)) := xXf hF 5 rfl
        have f6 : -2147483648 ≤ (v2 4 + (-1)) * (v2 5) → (v2 4 + (-1)) * (v2 5) < 2147483648 → (v2 8) = (v2 4 + (-1)) * (v2 5) := xXf hF 6 rfl
        have f7 : -2147483648 ≤ (v2 7) + (v2 8) → (v2 7) + (v2 8) < 2147483648 → (v2 9) = (v2 7) + (v2 8) := xXf hF 7 rfl
        have f7 := f7 (by omega) (by omega)
        have f8 : 0 ≤ (v2 1) := xXf hF 8 rfl
        have f9 : (v2 1) ≤ (v2 9 + (-1)) := xXf hF 9 rfl
        have f10 : (0 : Int) ≤ (v2 1 + 8) ∧ xE (zyEl zymx B H) 75 (v2 1 + 8) = (v2 10) := xXf hF 10 rfl
        have f11 : (v2 10) = (v2 2) := xXf hF 11 rfl
        have f12 : (0 : Int) ≤ (v2 1 + 40) ∧ xE (zyEl zymx B H) 75 (v2 1 + 40) = (v2 11) := xXf hF 12 rfl
        have f13 : ¬ (v2 11) = (v2 3) := xXf hF 13 rfl
        have e75_0 : xE (zyEl zymx B H2) 75 0 = xE (zyEl zymx B H) 75 0 := xFr_E hfr rfl
        have q75_0 : xE (zyEl zymx B H) 75 0 = xE (zyEl zymx B s.heap) 75 0 := xFr_E hFr0 rfl
        have e75_1 : xE (zyEl zymx B H2) 75 1 = xE (zyEl zymx B H) 75 1 := xFr_E hfr rfl
        have q75_1 : xE (zyEl zymx B H) 75 1 = xE (zyEl zymx B s.heap) 75 1 := xFr_E hFr0 rfl
        have e75 : ∀ i, xE (zyEl zymx B H2) 75 i = xE (zyEl zymx B H) 75 i := fun i => xFr_E hfr rfl
        have hI : (zyEl zymx B H) = (zyEl zymx B s.heap) ∧ (v 1) = x0 0 ∧ (v 2) = x0 1 ∧ (v 3) = x0 2 := hInv
        have q75 : ∀ i, xE (zyEl zymx B H) 75 i = xE (zyEl zymx B s.heap) 75 i := fun i => by rw [hI.1]
        obtain ⟨hE, i1, i2, i3⟩ := hI
        obtain ⟨hr, hcc⟩ := (show xΦrc x0 (zyEl zymx B s.heap) from hΦ)
        have h750 := q75 0
        have h751 := q75 1
        obtain ⟨w1, w2, w3, w4, w5, w6⟩ := gN_of (r := (v2 4)) (c := (v2 5)) (A := (v2 5 + (-1))) (B := (v2 4 + (-1))) (by omega) (by omega) (by omega) (by omega) f5 f6
        rw [show (v2 4) = xE (zyEl zymx B s.heap) 75 0 by omega, show (v2 5) = xE (zyEl zymx B s.heap) 75 1 by omega] at w1 w6
        have c10 : xE (zyEl zymx B s.heap) 75 ((v2 1 + 8)) = (v2 10) := (q75 _).symm.trans f10.2
        have c12 : xE (zyEl zymx B s.heap) 75 ((v2 1 + 40)) = (v2 11) := (q75 _).symm.trans f12.2
        rw [show (v2 1 + 40) = 40 + x0 0 by omega] at c12
        rw [show (v2 1 + 8) = 8 + x0 0 by omega] at c10
        rw [show (v2 2) = x0 1 by omega, show (v2 3) = x0 2 by omega] at f3
        have hvl : vPrg (xE (zyEl zymx B s.heap) 75) (x0 0) (x0 1) (x0 2) := by
          unfold vPrg isG
          refine ⟨⟨by omega, by omega⟩, by omega, by omega, ⟨by omega, by omega⟩, ?_⟩
          rintro ⟨y1, y2⟩
          omega
        refine xGo hIH hAt hB hv hFr ⟨2, by decide⟩ [0, 34359738369, 68719476737, 103079215105] [0, (v2 1), (v2 2), (v2 3)] rfl ⟨by decide +kernel, ⟨rfl, by decide +kernel⟩, (xcs_c rfl (xcs_c rfl (xcs_c rfl (xcs_c rfl xcs_n)))), (xe_0 (xe_c (by omega) (by omega) rfl (xe_f (by omega) (xe_c (by omega) (by omega) rfl xe_n)))), xkq_n⟩ xst_n ?_ ?_
        · show vPrg (xE (zyEl zymx B s.heap) 75) (x0 0) (x0 1) (x0 2) ∧ (∀ k, 0 ≤ k → xE (zyEl zymx B H2) 75 k = xE (zyEl zymx B s.heap) 75 k) ∧ ((v2 1) : Int) = x0 0 ∧ ((v2 2) : Int) = x0 1 ∧ ((v2 3) : Int) = x0 2
          exact ⟨hvl, fun k _ => (e75 k).trans (q75 k), by omega, by omega, by omega⟩
        · show 7 < 8
          omega
    · have hx : x ∈ [zxfpg_bx0] := hx
      have hag : ∀ k, k < 4 → v2 k = v k := hag
      have hfr : xFr [] _ _ := hfr
      have ex := List.mem_singleton.mp hx
      subst ex
      obtain ⟨hF, hBd, hM⟩ := hXs
      have r2 := hr2 2
      have g1 : v2 1 = v 1 := hag 1 (by decide)
      have g2 : v2 2 = v 2 := hag 2 (by decide)
      have g3 : v2 3 = v 3 := hag 3 (by decide)
      have b0 : ((2147483648 : Nat) : Int) ≤ (v2 1) + 2147483648 ∧ (v2 1) + 2147483648 ≤ ((2147483678 : Nat) : Int) := xXb hBd 0 rfl
      have b1 : ((2147483649 : Nat) : Int) ≤ (v2 3) + 2147483648 ∧ (v2 3) + 2147483648 ≤ ((2147483652 : Nat) : Int) := xXb hBd 1 rfl
      have e75_0 : xE (zyEl zymx B H2) 75 0 = xE (zyEl zymx B H) 75 0 := xFr_E hfr rfl
      have q75_0 : xE (zyEl zymx B H) 75 0 = xE (zyEl zymx B s.heap) 75 0 := xFr_E hFr0 rfl
      have e75_1 : xE (zyEl zymx B H2) 75 1 = xE (zyEl zymx B H) 75 1 := xFr_E hfr rfl
      have q75_1 : xE (zyEl zymx B H) 75 1 = xE (zyEl zymx B s.heap) 75 1 := xFr_E hFr0 rfl
      have e75 : ∀ i, xE (zyEl zymx B H2) 75 i = xE (zyEl zymx B H) 75 i := fun i => xFr_E hfr rfl
      have hI : vPrg (xE (zyEl zymx B s.heap) 75) (x0 0) (x0 1) (x0 2) ∧ (∀ k, 0 ≤ k → xE (zyEl zymx B H) 75 k = xE (zyEl zymx B s.heap) 75 k) ∧ (v 1) = x0 0 ∧ (v 2) = x0 1 ∧ (v 3) = x0 2 := hInv
      obtain ⟨hvl, hc, i1, i2, i3⟩ := hI
      refine xGo hIH hAt hB hv hFr ⟨3, by decide⟩ [0, 34359738369, 68719476737, 103079215105] [0, (v2 1), (v2 2), (v2 3)] rfl ⟨by decide +kernel, ⟨rfl, by decide +kernel⟩, (xcs_c rfl (xcs_c rfl (xcs_c rfl (xcs_c rfl xcs_n)))), (xe_0 (xe_c (by omega) (by omega) rfl (xe_f (by omega) (xe_c (by omega) (by omega) rfl xe_n)))), xkq_n⟩ xst_n ?_ ?_
      · show vPrg (xE (zyEl zymx B s.heap) 75) (x0 0) (x0 1) (x0 2) ∧ (∀ k, 0 ≤ k → xE (zyEl zymx B H2) 75 k = xE (zyEl zymx B s.heap) 75 k) ∧ ((v2 1) : Int) = x0 0 ∧ ((v2 2) : Int) = x0 1 ∧ ((v2 3) : Int) = x0 2
        exact ⟨hvl, fun k k0 => (e75 k).trans (hc k k0), by omega, by omega, by omega⟩
      · show 6 < 7
        omega
    · have hx : x ∈ [zxfpg_b2x0] := hx
      have hag : ∀ k, k < 4 → v2 k = v k := hag
      have hfr : xFr [] _ _ := hfr
      have ex := List.mem_singleton.mp hx
      subst ex
      obtain ⟨hF, hBd, hM⟩ := hXs
      have r2 := hr2 2
      have g1 : v2 1 = v 1 := hag 1 (by decide)
      have g2 : v2 2 = v 2 := hag 2 (by decide)
      have g3 : v2 3 = v 3 := hag 3 (by decide)
      have b0 : ((2147483648 : Nat) : Int) ≤ (v2 1) + 2147483648 ∧ (v2 1) + 2147483648 ≤ ((2147483678 : Nat) : Int) := xXb hBd 0 rfl
      have b1 : ((2147483649 : Nat) : Int) ≤ (v2 3) + 2147483648 ∧ (v2 3) + 2147483648 ≤ ((2147483652 : Nat) : Int) := xXb hBd 1 rfl
      have b2 : ((2147483656 : Nat) : Int) ≤ (v2 1 + 8) + 2147483648 ∧ (v2 1 + 8) + 2147483648 ≤ ((2147483686 : Nat) : Int) := xXb hBd 2 rfl
      have e75_0 : xE (zyEl zymx B H2) 75 0 = xE (zyEl zymx B H) 75 0 := xFr_E hfr rfl
      have q75_0 : xE (zyEl zymx B H) 75 0 = xE (zyEl zymx B s.heap) 75 0 := xFr_E hFr0 rfl
      have e75_1 : xE (zyEl zymx B H2) 75 1 = xE (zyEl zymx B H) 75 1 := xFr_E hfr rfl
      have q75_1 : xE (zyEl zymx B H) 75 1 = xE (zyEl zymx B s.heap) 75 1 := xFr_E hFr0 rfl
      have e75 : ∀ i, xE (zyEl zymx B H2) 75 i = xE (zyEl zymx B H) 75 i := fun i => xFr_E hfr rfl
      have hI : vPrg (xE (zyEl zymx B s.heap) 75) (x0 0) (x0 1) (x0 2) ∧ (∀ k, 0 ≤ k → xE (zyEl zymx B H) 75 k = xE (zyEl zymx B s.heap) 75 k) ∧ (v 1) = x0 0 ∧ (v 2) = x0 1 ∧ (v 3) = x0 2 := hInv
      obtain ⟨hvl, hc, i1, i2, i3⟩ := hI
      refine xSt hRu hIH hAt hB hv hFr 75 (ax := 0) 68719476737 34359738433 (v2 2) (v2 1 + 8) rfl (Or.inl ⟨rfl, rfl⟩) rfl (by decide +kernel) rfl rfl (by omega) (by show (v2 1 + 8) < ((556 : Nat) : Int); omega) (fun r hr q1 q2 => by rw [List.mem_singleton.mp hr]; exact ⟨rfl, by show ((0 : Nat) : Int) ≤ (v2 2) + 2147483648; omega, by show (v2 2) + 2147483648 ≤ ((4294967295 : Nat) : Int); omega⟩) (zyin_iff.mpr ⟨(75, 8, 70), by decide, rfl, (by show 8 ≤ Int.toNat (v2 1 + 8); omega), by show Int.toNat (v2 1 + 8) ≤ 70; omega⟩) (fun H3 hT3 hst3 hne3 hfn3 hFr3 => ?_)
      have hfe3 : ∀ (a2 : Nat) (k2 : Int), ¬ a2 = 75 → xE (zyEl zymx B H3) a2 k2 = xE (zyEl zymx B H2) a2 k2 := fun a2 k2 hne => by unfold xE; rw [hfn3 a2 k2.toNat (fun z => hne z.1)]
      skip
      refine ⟨⟨4, by decide⟩, [0, 34359738369, 68719476737, 103079215105], [0, (v2 1), (v2 2), (v2 3)], rfl, ⟨by decide +kernel, ⟨rfl, by decide +kernel⟩, (xcs_c rfl (xcs_c rfl (xcs_c rfl (xcs_c rfl xcs_n)))), (xe_0 (xe_c (by omega) (by omega) rfl (xe_f (by omega) (xe_c (by omega) (by omega) rfl xe_n)))), xkq_n⟩, rfl, ?_, ?_⟩
      · show vPrg (xE (zyEl zymx B s.heap) 75) (x0 0) (x0 1) (x0 2) ∧ (∀ k, 0 ≤ k → xE (zyEl zymx B H3) 75 k = uS (xE (zyEl zymx B s.heap) 75) (8 + x0 0) (x0 1) k) ∧ ((v2 1) : Int) = x0 0 ∧ ((v2 2) : Int) = x0 1 ∧ ((v2 3) : Int) = x0 2
        refine ⟨hvl, fun k k0 => ?_, by omega, by omega, by omega⟩
        by_cases e : k = 8 + x0 0
        · rw [uS_e e, e, show 8 + x0 0 = (v2 1 + 8) by omega, hst3] <;> omega
        · rw [uS_n e, hne3 75 k k0 (fun z => e (by omega)), e75]
          exact hc k k0
      · show 5 < 6
        omega
    · have hx : x ∈ [zxfpg_cx0] := hx
      have hag : ∀ k, k < 4 → v2 k = v k := hag
      have hfr : xFr [] _ _ := hfr
      have ex := List.mem_singleton.mp hx
      subst ex
      obtain ⟨hF, hBd, hM⟩ := hXs
      have g1 : v2 1 = v 1 := hag 1 (by decide)
      have g2 : v2 2 = v 2 := hag 2 (by decide)
      have g3 : v2 3 = v 3 := hag 3 (by decide)
      have b0 : ((2147483648 : Nat) : Int) ≤ (v2 1) + 2147483648 ∧ (v2 1) + 2147483648 ≤ ((2147483678 : Nat) : Int) := xXb hBd 0 rfl
      have b1 : ((2147483649 : Nat) : Int) ≤ (v2 3) + 2147483648 ∧ (v2 3) + 2147483648 ≤ ((2147483652 : Nat) : Int) := xXb hBd 1 rfl
      have b2 : ((2147483688 : Nat) : Int) ≤ (v2 1 + 40) + 2147483648 ∧ (v2 1 + 40) + 2147483648 ≤ ((2147483718 : Nat) : Int) := xXb hBd 2 rfl
      have e75_0 : xE (zyEl zymx B H2) 75 0 = xE (zyEl zymx B H) 75 0 := xFr_E hfr rfl
      have q75_0 : xE (zyEl zymx B H) 75 0 = xE (zyEl zymx B s.heap) 75 0 := xFr_E hFr0 rfl
      have e75_1 : xE (zyEl zymx B H2) 75 1 = xE (zyEl zymx B H) 75 1 := xFr_E hfr rfl
      have q75_1 : xE (zyEl zymx B H) 75 1 = xE (zyEl zymx B s.heap) 75 1 := xFr_E hFr0 rfl
      have e75 : ∀ i, xE (zyEl zymx B H2) 75 i = xE (zyEl zymx B H) 75 i := fun i => xFr_E hfr rfl
      have hI : vPrg (xE (zyEl zymx B s.heap) 75) (x0 0) (x0 1) (x0 2) ∧ (∀ k, 0 ≤ k → xE (zyEl zymx B H) 75 k = uS (xE (zyEl zymx B s.heap) 75) (8 + x0 0) (x0 1) k) ∧ (v 1) = x0 0 ∧ (v 2) = x0 1 ∧ (v 3) = x0 2 := hInv
      obtain ⟨hvl, hc, i1, i2, i3⟩ := hI
      refine xSt hRu hIH hAt hB hv hFr 75 (ax := 0) 103079215105 34359738689 (v2 3) (v2 1 + 40) rfl (Or.inl ⟨rfl, rfl⟩) rfl (by decide +kernel) rfl rfl (by omega) (by show (v2 1 + 40) < ((556 : Nat) : Int); omega) (fun r hr q1 q2 => by rw [List.mem_singleton.mp hr]; exact ⟨rfl, by show ((0 : Nat) : Int) ≤ (v2 3) + 2147483648; omega, by show (v2 3) + 2147483648 ≤ ((4294967295 : Nat) : Int); omega⟩) (zyin_iff.mpr ⟨(75, 8, 70), by decide, rfl, (by show 8 ≤ Int.toNat (v2 1 + 40); omega), by show Int.toNat (v2 1 + 40) ≤ 70; omega⟩) (fun H3 hT3 hst3 hne3 hfn3 hFr3 => ?_)
      have hfe3 : ∀ (a2 : Nat) (k2 : Int), ¬ a2 = 75 → xE (zyEl zymx B H3) a2 k2 = xE (zyEl zymx B H2) a2 k2 := fun a2 k2 hne => by unfold xE; rw [hfn3 a2 k2.toNat (fun z => hne z.1)]
      skip
      refine ⟨⟨5, by decide⟩, [0, 0, 0, 103079215105], [0, 0, 0, (v2 3)], rfl, ⟨by decide +kernel, ⟨rfl, by decide +kernel⟩, (xcs_c rfl (xcs_c rfl (xcs_c rfl (xcs_c rfl xcs_n)))), (xe_0 (xe_0 (xe_0 (xe_c (by omega) (by omega) rfl xe_n)))), xkq_n⟩, rfl, ?_, ?_⟩
      · show vPrg (xE (zyEl zymx B s.heap) 75) (x0 0) (x0 1) (x0 2) ∧ (∀ k, 0 ≤ k → xE (zyEl zymx B H3) 75 k = uS (uS (xE (zyEl zymx B s.heap) 75) (8 + x0 0) (x0 1)) (40 + x0 0) (x0 2) k) ∧ ((v2 3) : Int) = x0 2
        refine ⟨hvl, fun k k0 => ?_, by omega⟩
        by_cases e : k = 40 + x0 0
        · rw [uS_e e, e, show 40 + x0 0 = (v2 1 + 40) by omega, hst3] <;> omega
        · rw [uS_n e, hne3 75 k k0 (fun z => e (by omega)), e75]
          exact hc k k0
      · show 4 < 5
        omega
    · cases hx
  · intro x0 E0 E E2 hrx hT0 hΦ i v hT hrv hInv hKc hFr0 x hx v2 hr2 hXs hag hfr hFr hT2
    rcases i with ⟨i, hi⟩
    have hi2 : i = 0 ∨ i = 1 ∨ i = 2 ∨ i = 3 ∨ i = 4 ∨ i = 5 := by omega
    rcases hi2 with rfl | rfl | rfl | rfl | rfl | rfl
    · cases hx
    · have hx : x ∈ [zxfpg_ar0, zxfpg_ar1, zxfpg_ar2, zxfpg_ar3, zxfpg_ar4, zxfpg_ar5, zxfpg_ar6] := hx
      have hag : ∀ k, k < 6 → v2 k = v k := hag
      have hfr : xFr [(74, 2, 3)] _ _ := hfr
      rcases List.mem_cons.mp hx with ex | hx
      · subst ex
        obtain ⟨hF, hBd, hM⟩ := hXs
        have g1 : v2 1 = v 1 := hag 1 (by decide)
        have g2 : v2 2 = v 2 := hag 2 (by decide)
        have g3 : v2 3 = v 3 := hag 3 (by decide)
        have g4 : v2 4 = v 4 := hag 4 (by decide)
        have g5 : v2 5 = v 5 := hag 5 (by decide)
        have b0 : ((0 : Nat) : Int) ≤ (v2 3) + 2147483648 ∧ (v2 3) + 2147483648 ≤ ((2147483648 : Nat) : Int) := xXb hBd 0 rfl
        have k0 : xE E 75 0 = v 4 := xKcf hKc 0 rfl rfl
        have k1 : xE E 75 1 = v 5 := xKcf hKc 1 rfl rfl
        have f0 : (v2 3) < 1 := xXf hF 0 rfl
        have e75_0 : xE E2 75 0 = xE E 75 0 := xFr_E hfr rfl
        have q75_0 : xE E 75 0 = xE E0 75 0 := xFr_E hFr0 rfl
        have e75_1 : xE E2 75 1 = xE E 75 1 := xFr_E hfr rfl
        have q75_1 : xE E 75 1 = xE E0 75 1 := xFr_E hFr0 rfl
        have e75 : ∀ i, xE E2 75 i = xE E 75 i := fun i => xFr_E hfr rfl
        have hI : E = E0 ∧ (v 1) = x0 0 ∧ (v 2) = x0 1 ∧ (v 3) = x0 2 := hInv
        have q75 : ∀ i, xE E 75 i = xE E0 75 i := fun i => by rw [hI.1]
        show xΨpg x0 E0 E2 (-1)
        obtain ⟨hE, i1, i2, i3⟩ := hI
        obtain ⟨hr, hcc⟩ := (show xΦrc x0 E0 from hΦ)
        have hvl : ¬ vPrg (xE E0 75) (x0 0) (x0 1) (x0 2) := by
          unfold vPrg isG
          rintro ⟨⟨y1, y2⟩, y3, y4, ⟨y5, y6⟩, y7⟩
          omega
        exact ⟨fun h => absurd h hvl, fun _ => ⟨rfl, fun k => (e75 k).trans (q75 k)⟩⟩
      · skip
        rcases List.mem_cons.mp hx with ex | hx
        · subst ex
          obtain ⟨hF, hBd, hM⟩ := hXs
          have g1 : v2 1 = v 1 := hag 1 (by decide)
          have g2 : v2 2 = v 2 := hag 2 (by decide)
          have g3 : v2 3 = v 3 := hag 3 (by decide)
          have g4 : v2 4 = v 4 := hag 4 (by decide)
          have g5 : v2 5 = v 5 := hag 5 (by decide)
          have b0 : ((2147483653 : Nat) : Int) ≤ (v2 3) + 2147483648 ∧ (v2 3) + 2147483648 ≤ ((4294967295 : Nat) : Int) := xXb hBd 0 rfl
          have k0 : xE E 75 0 = v 4 := xKcf hKc 0 rfl rfl
          have k1 : xE E 75 1 = v 5 := xKcf hKc 1 rfl rfl
          have f0 : 1 ≤ (v2 3) := xXf hF 0 rfl
          have f1 : 4 < (v2 3) := xXf hF 1 rfl
          have e75_0 : xE E2 75 0 = xE E 75 0 := xFr_E hfr rfl
          have q75_0 : xE E 75 0 = xE E0 75 0 := xFr_E hFr0 rfl
          have e75_1 : xE E2 75 1 = xE E 75 1 := xFr_E hfr rfl
          have q75_1 : xE E 75 1 = xE E0 75 1 := xFr_E hFr0 rfl
          have e75 : ∀ i, xE E2 75 i = xE E 75 i := fun i => xFr_E hfr rfl
          have hI : E = E0 ∧ (v 1) = x0 0 ∧ (v 2) = x0 1 ∧ (v 3) = x0 2 := hInv
          have q75 : ∀ i, xE E 75 i = xE E0 75 i := fun i => by rw [hI.1]
          show xΨpg x0 E0 E2 (-1)
          obtain ⟨hE, i1, i2, i3⟩ := hI
          obtain ⟨hr, hcc⟩ := (show xΦrc x0 E0 from hΦ)
          have hvl : ¬ vPrg (xE E0 75) (x0 0) (x0 1) (x0 2) := by
            unfold vPrg isG
            rintro ⟨⟨y1, y2⟩, y3, y4, ⟨y5, y6⟩, y7⟩
            omega
          exact ⟨fun h => absurd h hvl, fun _ => ⟨rfl, fun k => (e75 k).trans (q75 k)⟩⟩
        · skip
          rcases List.mem_cons.mp hx with ex | hx
          · subst ex
            obtain ⟨hF, hBd, hM⟩ := hXs
            have g1 : v2 1 = v 1 := hag 1 (by decide)
            have g2 : v2 2 = v 2 := hag 2 (by decide)
            have g3 : v2 3 = v 3 := hag 3 (by decide)
            have g4 : v2 4 = v 4 := hag 4 (by decide)
            have g5 : v2 5 = v 5 := hag 5 (by decide)
            have b0 : ((0 : Nat) : Int) ≤ (v2 2) + 2147483648 ∧ (v2 2) + 2147483648 ≤ ((2147483647 : Nat) : Int) := xXb hBd 0 rfl
            have b1 : ((2147483649 : Nat) : Int) ≤ (v2 3) + 2147483648 ∧ (v2 3) + 2147483648 ≤ ((2147483652 : Nat) : Int) := xXb hBd 1 rfl
            have k0 : xE E 75 0 = v 4 := xKcf hKc 0 rfl rfl
            have k1 : xE E 75 1 = v 5 := xKcf hKc 1 rfl rfl
            have f0 : 1 ≤ (v2 3) := xXf hF 0 rfl
            have f1 : (v2 3) ≤ 4 := xXf hF 1 rfl
            have f2 : (v2 2) < 0 := xXf hF 2 rfl
            have e75_0 : xE E2 75 0 = xE E 75 0 := xFr_E hfr rfl
            have q75_0 : xE E 75 0 = xE E0 75 0 := xFr_E hFr0 rfl
            have e75_1 : xE E2 75 1 = xE E 75 1 := xFr_E hfr rfl
            have q75_1 : xE E 75 1 = xE E0 75 1 := xFr_E hFr0 rfl
            have e75 : ∀ i, xE E2 75 i = xE E 75 i := fun i => xFr_E hfr rfl
            have hI : E = E0 ∧ (v 1) = x0 0 ∧ (v 2) = x0 1 ∧ (v 3) = x0 2 := hInv
            have q75 : ∀ i, xE E 75 i = xE E0 75 i := fun i => by rw [hI.1]
            show xΨpg x0 E0 E2 (-1)
            obtain ⟨hE, i1, i2, i3⟩ := hI
            obtain ⟨hr, hcc⟩ := (show xΦrc x0 E0 from hΦ)
            have hvl : ¬ vPrg (xE E0 75) (x0 0) (x0 1) (x0 2) := by
              unfold vPrg isG
              rintro ⟨⟨y1, y2⟩, y3, y4, ⟨y5, y6⟩, y7⟩
              omega
            exact ⟨fun h => absurd h hvl, fun _ => ⟨rfl, fun k => (e75 k).trans (q75 k)⟩⟩
          · skip
            rcases List.mem_cons.mp hx with ex | hx
            · subst ex
              obtain ⟨hF, hBd, hM⟩ := hXs
              have g1 : v2 1 = v 1 := hag 1 (by decide)
              have g2 : v2 2 = v 2 := hag 2 (by decide)
              have g3 : v2 3 = v 3 := hag 3 (by decide)
              have g4 : v2 4 = v 4 := hag 4 (by decide)
              have g5 : v2 5 = v 5 := hag 5 (by decide)
              have b0 : ((2147483648 : Nat) : Int) ≤ (v2 2) + 2147483648 ∧ (v2 2) + 2147483648 ≤ ((4294967295 : Nat) : Int) := xXb hBd 0 rfl
              have b1 : ((2147483649 : Nat) : Int) ≤ (v2 3) + 2147483648 ∧ (v2 3) + 2147483648 ≤ ((2147483652 : Nat) : Int) := xXb hBd 1 rfl
              have b2 : ((2147483649 : Nat) : Int) ≤ (v2 6) + 2147483648 ∧ (v2 6) + 2147483648 ≤ ((3221225471 : Nat) : Int) := xXb hBd 2 rfl
              have k0 : xE E 75 0 = v 4 := xKcf hKc 0 rfl rfl
              have k1 : xE E 75 1 = v 5 := xKcf hKc 1 rfl rfl
              have f0 : 1 ≤ (v2 3) := xXf hF 0 rfl
              have f1 : (v2 3) ≤ 4 := xXf hF 1 rfl
              have f2 : 0 ≤ (v2 2) := xXf hF 2 rfl
              have f3 : (v2 6) = xop 9 (v2 2) (v2 3) := xXf hF 3 rfl
              have f4 : 0 < (v2 6) := xXf hF 4 rfl
              have e75_0 : xE E2 75 0 = xE E 75 0 := xFr_E hfr rfl
              have q75_0 : xE E 75 0 = xE E0 75 0 := xFr_E hFr0 rfl
              have e75_1 : xE E2 75 1 = xE E 75 1 := xFr_E hfr rfl
              have q75_1 : xE E 75 1 = xE E0 75 1 := xFr_E hFr0 rfl
              have e75 : ∀ i, xE E2 75 i = xE E 75 i := fun i => xFr_E hfr rfl
              have hI : E = E0 ∧ (v 1) = x0 0 ∧ (v 2) = x0 1 ∧ (v 3) = x0 2 := hInv
              have q75 : ∀ i, xE E 75 i = xE E0 75 i := fun i => by rw [hI.1]
              show xΨpg x0 E0 E2 (-1)
              obtain ⟨hE, i1, i2, i3⟩ := hI
              obtain ⟨hr, hcc⟩ := (show xΦrc x0 E0 from hΦ)
              rw [show (v2 2) = x0 1 by omega, show (v2 3) = x0 2 by omega] at f3
              have hvl : ¬ vPrg (xE E0 75) (x0 0) (x0 1) (x0 2) := by
                unfold vPrg isG
                rintro ⟨⟨y1, y2⟩, y3, y4, ⟨y5, y6⟩, y7⟩
                omega
              exact ⟨fun h => absurd h hvl, fun _ => ⟨rfl, fun k => (e75 k).trans (q75 k)⟩⟩
            · skip
              rcases List.mem_cons.mp hx with ex | hx
              · subst ex
                obtain ⟨hF, hBd, hM⟩ := hXs
                have g1 : v2 1 = v 1 := hag 1 (by decide)
                have g2 : v2 2 = v 2 := hag 2 (by decide)
                have g3 : v2 3 = v 3 := hag 3 (by decide)
                have g4 : v2 4 = v 4 := hag 4 (by decide)
                have g5 : v2 5 = v 5 := hag 5 (by decide)
                have b0 : ((0 : Nat) : Int) ≤ (v2 1) + 2147483648 ∧ (v2 1) + 2147483648 ≤ ((2147483647 : Nat) : Int) := xXb hBd 0 rfl
                have b1 : ((2147483648 : Nat) : Int) ≤ (v2 2) + 2147483648 ∧ (v2 2) + 2147483648 ≤ ((4294967295 : Nat) : Int) := xXb hBd 1 rfl
                have b2 : ((2147483649 : Nat) : Int) ≤ (v2 3) + 2147483648 ∧ (v2 3) + 2147483648 ≤ ((2147483652 : Nat) : Int) := xXb hBd 2 rfl
                have b3 : ((2147483649 : Nat) : Int) ≤ (v2 4) + 2147483648 ∧ (v2 4) + 2147483648 ≤ ((2147483652 : Nat) : Int) := xXb hBd 3 rfl
                have b4 : ((2147483649 : Nat) : Int) ≤ (v2 5) + 2147483648 ∧ (v2 5) + 2147483648 ≤ ((2147483653 : Nat) : Int) := xXb hBd 4 rfl
                have b5 : ((2147483648 : Nat) : Int) ≤ (v2 6) + 2147483648 ∧ (v2 6) + 2147483648 ≤ ((2147483648 : Nat) : Int) := xXb hBd 5 rfl
                have b6 : ((2147483648 : Nat) : Int) ≤ (v2 7) + 2147483648 ∧ (v2 7) + 2147483648 ≤ ((2147483664 : Nat) : Int) := xXb hBd 6 rfl
                have b7 : ((2147483648 : Nat) : Int) ≤ (v2 8) + 2147483648 ∧ (v2 8) + 2147483648 ≤ ((2147483663 : Nat) : Int) := xXb hBd 7 rfl
                have b8 : ((2147483648 : Nat) : Int) ≤ (v2 9) + 2147483648 ∧ (v2 9) + 2147483648 ≤ ((2147483679 : Nat) : Int) := xXb hBd 8 rfl
                have k0 : xE E 75 0 = v 4 := xKcf hKc 0 rfl rfl
                have k1 : xE E 75 1 = v 5 := xKcf hKc 1 rfl rfl
                have f0 : 1 ≤ (v2 3) := xXf hF 0 rfl
                have f1 : (v2 3) ≤ 4 := xXf hF 1 rfl
                have f2 : 0 ≤ (v2 2) := xXf hF 2 rfl
                have f3 : (v2 6) = xop 9 (v2 2) (v2 3) := xXf hF 3 rfl
                have f4 : (v2 6) ≤ 0 := xXf hF 4 rfl
                have f5 : -2147483648 ≤ (v2 4) * (v2 5 + (-1)) → (v2 4) * (v2 5 + (-1)) < 2147483648 → (v2 7) = (v2 4) * (v2 5 + (-1)) := xXf hF 5 rfl
                have f6 : -2147483648 ≤ (v2 4 + (-1)) * (v2 5) → (v2 4 + (-1)) * (v2 5) < 2147483648 → (v2 8) = (v2 4 + (-1)) * (v2 5) := xXf hF 6 rfl
                have f7 : -2147483648 ≤ (v2 7) + (v2 8) → (v2 7) + (v2 8) < 2147483648 → (v2 9) = (v2 7) + (v2 8) := xXf hF 7 rfl
                have f7 := f7 (by omega) (by omega)
                have f8 : (v2 1) < 0 := xXf hF 8 rfl
                have e75_0 : xE E2 75 0 = xE E 75 0 := xFr_E hfr rfl
                have q75_0 : xE E 75 0 = xE E0 75 0 := xFr_E hFr0 rfl
                have e75_1 : xE E2 75 1 = xE E 75 1 := xFr_E hfr rfl
                have q75_1 : xE E 75 1 = xE E0 75 1 := xFr_E hFr0 rfl
                have e75 : ∀ i, xE E2 75 i = xE E 75 i := fun i => xFr_E hfr rfl
                have hI : E = E0 ∧ (v 1) = x0 0 ∧ (v 2) = x0 1 ∧ (v 3) = x0 2 := hInv
                have q75 : ∀ i, xE E 75 i = xE E0 75 i := fun i => by rw [hI.1]
                show xΨpg x0 E0 E2 (-1)
                obtain ⟨hE, i1, i2, i3⟩ := hI
                obtain ⟨hr, hcc⟩ := (show xΦrc x0 E0 from hΦ)
                have h750 := q75 0
                have h751 := q75 1
                obtain ⟨w1, w2, w3, w4, w5, w6⟩ := gN_of (r := (v2 4)) (c := (v2 5)) (A := (v2 5 + (-1))) (B := (v2 4 + (-1))) (by omega) (by omega) (by omega) (by omega) f5 f6
                rw [show (v2 4) = xE E0 75 0 by omega, show (v2 5) = xE E0 75 1 by omega] at w1 w6
                rw [show (v2 2) = x0 1 by omega, show (v2 3) = x0 2 by omega] at f3
                have hvl : ¬ vPrg (xE E0 75) (x0 0) (x0 1) (x0 2) := by
                  unfold vPrg isG
                  rintro ⟨⟨y1, y2⟩, y3, y4, ⟨y5, y6⟩, y7⟩
                  omega
                exact ⟨fun h => absurd h hvl, fun _ => ⟨rfl, fun k => (e75 k).trans (q75 k)⟩⟩
              · skip
                rcases List.mem_cons.mp hx with ex | hx
                · subst ex
                  obtain ⟨hF, hBd, hM⟩ := hXs
                  have g1 : v2 1 = v 1 := hag 1 (by decide)
                  have g2 : v2 2 = v 2 := hag 2 (by decide)
                  have g3 : v2 3 = v 3 := hag 3 (by decide)
                  have g4 : v2 4 = v 4 := hag 4 (by decide)
                  have g5 : v2 5 = v 5 := hag 5 (by decide)
                  have b0 : ((2147483648 : Nat) : Int) ≤ (v2 1) + 2147483648 ∧ (v2 1) + 2147483648 ≤ ((4294967295 : Nat) : Int) := xXb hBd 0 rfl
                  have b1 : ((2147483648 : Nat) : Int) ≤ (v2 2) + 2147483648 ∧ (v2 2) + 2147483648 ≤ ((4294967295 : Nat) : Int) := xXb hBd 1 rfl
                  have b2 : ((2147483649 : Nat) : Int) ≤ (v2 3) + 2147483648 ∧ (v2 3) + 2147483648 ≤ ((2147483652 : Nat) : Int) := xXb hBd 2 rfl
                  have b3 : ((2147483649 : Nat) : Int) ≤ (v2 4) + 2147483648 ∧ (v2 4) + 2147483648 ≤ ((2147483652 : Nat) : Int) := xXb hBd 3 rfl
                  have b4 : ((2147483649 : Nat) : Int) ≤ (v2 5) + 2147483648 ∧ (v2 5) + 2147483648 ≤ ((2147483653 : Nat) : Int) := xXb hBd 4 rfl
                  have b5 : ((2147483648 : Nat) : Int) ≤ (v2 6) + 2147483648 ∧ (v2 6) + 2147483648 ≤ ((2147483648 : Nat) : Int) := xXb hBd 5 rfl
                  have b6 : ((2147483648 : Nat) : Int) ≤ (v2 7) + 2147483648 ∧ (v2 7) + 2147483648 ≤ ((2147483664 : Nat) : Int) := xXb hBd 6 rfl
                  have b7 : ((2147483648 : Nat) : Int) ≤ (v2 8) + 2147483648 ∧ (v2 8) + 2147483648 ≤ ((2147483663 : Nat) : Int) := xXb hBd 7 rfl
                  have b8 : ((2147483648 : Nat) : Int) ≤ (v2 9) + 2147483648 ∧ (v2 9) + 2147483648 ≤ ((2147483679 : Nat) : Int) := xXb hBd 8 rfl
                  have k0 : xE E 75 0 = v 4 := xKcf hKc 0 rfl rfl
                  have k1 : xE E 75 1 = v 5 := xKcf hKc 1 rfl rfl
                  have f0 : 1 ≤ (v2 3) := xXf hF 0 rfl
                  have f1 : (v2 3) ≤ 4 := xXf hF 1 rfl
                  have f2 : 0 ≤ (v2 2) := xXf hF 2 rfl
                  have f3 : (v2 6) = xop 9 (v2 2) (v2 3) := xXf hF 3 rfl
                  have f4 : (v2 6) ≤ 0 := xXf hF 4 rfl
                  have f5 : -2147483648 ≤ (v2 4) * (v2 5 + (-1)) → (v2 4) * (v2 5 + (-1)) < 2147483648 → (v2 7) = (v2 4) * (v2 5 + (-1)) := xXf hF 5 rfl
                  have f6 : -2147483648 ≤ (v2 4 + (-1)) * (v2 5) → (v2 4 + (-1)) * (v2 5) < 2147483648 → (v2 8) = (v2 4 + (-1)) * (v2 5) := xXf hF 6 rfl
                  have f7 : -2147483648 ≤ (v2 7) + (v2 8) → (v2 7) + (v2 8) < 2147483648 → (v2 9) = (v2 7) + (v2 8) := xXf hF 7 rfl
                  have f7 := f7 (by omega) (by omega)
                  have f8 : 0 ≤ (v2 1) := xXf hF 8 rfl
                  have f9 : (v2 9 + (-1)) < (v2 1) := xXf hF 9 rfl
                  have e75_0 : xE E2 75 0 = xE E 75 0 := xFr_E hfr rfl
                  have q75_0 : xE E 75 0 = xE E0 75 0 := xFr_E hFr0 rfl
                  have e75_1 : xE E2 75 1 = xE E 75 1 := xFr_E hfr rfl
                  have q75_1 : xE E 75 1 = xE E0 75 1 := xFr_E hFr0 rfl
                  have e75 : ∀ i, xE E2 75 i = xE E 75 i := fun i => xFr_E hfr rfl
                  have hI : E = E0 ∧ (v 1) = x0 0 ∧ (v 2) = x0 1 ∧ (v 3) = x0 2 := hInv
                  have q75 : ∀ i, xE E 75 i = xE E0 75 i := fun i => by rw [hI.1]
                  show xΨpg x0 E0 E2 (-1)
                  obtain ⟨hE, i1, i2, i3⟩ := hI
                  obtain ⟨hr, hcc⟩ := (show xΦrc x0 E0 from hΦ)
                  have h750 := q75 0
                  have h751 := q75 1
                  obtain ⟨w1, w2, w3, w4, w5, w6⟩ := gN_of (r := (v2 4)) (c := (v2 5)) (A := (v2 5 + (-1))) (B := (v2 4 + (-1))) (by omega) (by omega) (by omega) (by omega) f5 f6
                  rw [show (v2 4) = xE E0 75 0 by omega, show (v2 5) = xE E0 75 1 by omega] at w1 w6
                  rw [show (v2 2) = x0 1 by omega, show (v2 3) = x0 2 by omega] at f3
                  have hvl : ¬ vPrg (xE E0 75) (x0 0) (x0 1) (x0 2) := by
                    unfold vPrg isG
                    rintro ⟨⟨y1, y2⟩, y3, y4, ⟨y5, y6⟩, y7⟩
                    omega
                  exact ⟨fun h => absurd h hvl, fun _ => ⟨rfl, fun k => (e75 k).trans (q75 k)⟩⟩
                · skip
                  have ex := List.mem_singleton.mp hx
                  subst ex
                  obtain ⟨hF, hBd, hM⟩ := hXs
                  have r10 := hr2 10
                  have r11 := hr2 11
                  have g1 : v2 1 = v 1 := hag 1 (by decide)
                  have g2 : v2 2 = v 2 := hag 2 (by decide)
                  have g3 : v2 3 = v 3 := hag 3 (by decide)
                  have g4 : v2 4 = v 4 := hag 4 (by decide)
                  have g5 : v2 5 = v 5 := hag 5 (by decide)
                  have b0 : ((2147483648 : Nat) : Int) ≤ (v2 1) + 2147483648 ∧ (v2 1) + 2147483648 ≤ ((2147483678 : Nat) : Int) := xXb hBd 0 rfl
                  have b1 : ((2147483648 : Nat) : Int) ≤ (v2 2) + 2147483648 ∧ (v2 2) + 2147483648 ≤ ((4294967295 : Nat) : Int) := xXb hBd 1 rfl
                  have b2 : ((2147483649 : Nat) : Int) ≤ (v2 3) + 2147483648 ∧ (v2 3) + 2147483648 ≤ ((2147483652 : Nat) : Int) := xXb hBd 2 rfl
                  have b3 : ((2147483649 : Nat) : Int) ≤ (v2 4) + 2147483648 ∧ (v2 4) + 2147483648 ≤ ((2147483652 : Nat) : Int) := xXb hBd 3 rfl
                  have b4 : ((2147483649 : Nat) : Int) ≤ (v2 5) + 2147483648 ∧ (v2 5) + 2147483648 ≤ ((2147483653 : Nat) : Int) := xXb hBd 4 rfl
                  have b5 : ((2147483648 : Nat) : Int) ≤ (v2 6) + 2147483648 ∧ (v2 6) + 2147483648 ≤ ((2147483648 : Nat) : Int) := xXb hBd 5 rfl
                  have b6 : ((2147483648 : Nat) : Int) ≤ (v2 7) + 2147483648 ∧ (v2 7) + 2147483648 ≤ ((2147483664 : Nat) : Int) := xXb hBd 6 rfl
                  have b7 : ((2147483648 : Nat) : Int) ≤ (v2 8) + 2147483648 ∧ (v2 8) + 2147483648 ≤ ((2147483663 : Nat) : Int) := xXb hBd 7 rfl
                  have b8 : ((2147483649 : Nat) : Int) ≤ (v2 9) + 2147483648 ∧ (v2 9) + 2147483648 ≤ ((2147483679 : Nat) : Int) := xXb hBd 8 rfl
                  have k0 : xE E 75 0 = v 4 := xKcf hKc 0 rfl rfl
                  have k1 : xE E 75 1 = v 5 := xKcf hKc 1 rfl rfl
                  have f0 : 1 ≤ (v2 3) := xXf hF 0 rfl
                  have f1 : (v2 3) ≤ 4 := xXf hF 1 rfl
                  have f2 : 0 ≤ (v2 2) := xXf hF 2 rfl
                  have f3 : (v2 6) = xop 9 (v2 2) (v2 3) := xXf hF 3 rfl
                  have f4 : (v2 6) ≤ 0 := xXf hF 4 rfl
                  have f5 : -2147483648 ≤ (v2 4) * (v2 5 + (-1)) → (v2 4) * (v2 5 + (-1)) < 2147483648 → (v2 7) = (v2 4) * (v2 5 + (-1)) := xXf hF 5 rfl
                  have f6 : -2147483648 ≤ (v2 4 + (-1)) * (v2 5) → (v2 4 + (-1)) * (v2 5) < 2147483648 → (v2 8) = (v2 4 + (-1)) * (v2 5) := xXf hF 6 rfl
                  have f7 : -2147483648 ≤ (v2 7) + (v2 8) → (v2 7) + (v2 8) < 2147483648 → (v2 9) = (v2 7) + (v2 8) := xXf hF 7 rfl
                  have f7 := f7 (by omega) (by omega)
                  have f8 : 0 ≤ (v2 1) := xXf hF 8 rfl
                  have f9 : (v2 1) ≤ (v2 9 + (-1)) := xXf hF 9 rfl
                  have f10 : (0 : Int) ≤ (v2 1 + 8) ∧ xE E 75 (v2 1 + 8) = (v2 10) := xXf hF 10 rfl
                  have f11 : (v2 10) = (v2 2) := xXf hF 11 rfl
                  have f12 : (0 : Int) ≤ (v2 1 + 40) ∧ xE E 75 (v2 1 + 40) = (v2 11) := xXf hF 12 rfl
                  have f13 : (v2 11) = (v2 3) := xXf hF 13 rfl
                  have e75_0 : xE E2 75 0 = xE E 75 0 := xFr_E hfr rfl
                  have q75_0 : xE E 75 0 = xE E0 75 0 := xFr_E hFr0 rfl
                  have e75_1 : xE E2 75 1 = xE E 75 1 := xFr_E hfr rfl
                  have q75_1 : xE E 75 1 = xE E0 75 1 := xFr_E hFr0 rfl
                  have e75 : ∀ i, xE E2 75 i = xE E 75 i := fun i => xFr_E hfr rfl
                  have hI : E = E0 ∧ (v 1) = x0 0 ∧ (v 2) = x0 1 ∧ (v 3) = x0 2 := hInv
                  have q75 : ∀ i, xE E 75 i = xE E0 75 i := fun i => by rw [hI.1]
                  show xΨpg x0 E0 E2 (-1)
                  obtain ⟨hE, i1, i2, i3⟩ := hI
                  obtain ⟨hr, hcc⟩ := (show xΦrc x0 E0 from hΦ)
                  have h750 := q75 0
                  have h751 := q75 1
                  obtain ⟨w1, w2, w3, w4, w5, w6⟩ := gN_of (r := (v2 4)) (c := (v2 5)) (A := (v2 5 + (-1))) (B := (v2 4 + (-1))) (by omega) (by omega) (by omega) (by omega) f5 f6
                  rw [show (v2 4) = xE E0 75 0 by omega, show (v2 5) = xE E0 75 1 by omega] at w1 w6
                  have c10 : xE E0 75 ((v2 1 + 8)) = (v2 10) := (q75 _).symm.trans f10.2
                  have c12 : xE E0 75 ((v2 1 + 40)) = (v2 11) := (q75 _).symm.trans f12.2
                  rw [show (v2 1 + 40) = 40 + x0 0 by omega] at c12
                  rw [show (v2 1 + 8) = 8 + x0 0 by omega] at c10
                  rw [show (v2 2) = x0 1 by omega, show (v2 3) = x0 2 by omega] at f3
                  have hvl : ¬ vPrg (xE E0 75) (x0 0) (x0 1) (x0 2) := by
                    unfold vPrg isG
                    rintro ⟨⟨y1, y2⟩, y3, y4, ⟨y5, y6⟩, y7⟩
                    omega
                  exact ⟨fun h => absurd h hvl, fun _ => ⟨rfl, fun k => (e75 k).trans (q75 k)⟩⟩
    · cases hx
    · cases hx
    · cases hx
    · have hx : x ∈ [zxfpg_dr0] := hx
      have hag : ∀ k, k < 4 → v2 k = v k := hag
      have hfr : xFr [] _ _ := hfr
      have ex := List.mem_singleton.mp hx
      subst ex
      obtain ⟨hF, hBd, hM⟩ := hXs
      have g3 : v2 3 = v 3 := hag 3 (by decide)
      have b0 : ((2147483649 : Nat) : Int) ≤ (v2 3) + 2147483648 ∧ (v2 3) + 2147483648 ≤ ((2147483652 : Nat) : Int) := xXb hBd 0 rfl
      have e75_0 : xE E2 75 0 = xE E 75 0 := xFr_E hfr rfl
      have q75_0 : xE E 75 0 = xE E0 75 0 := xFr_E hFr0 rfl
      have e75_1 : xE E2 75 1 = xE E 75 1 := xFr_E hfr rfl
      have q75_1 : xE E 75 1 = xE E0 75 1 := xFr_E hFr0 rfl
      have e75 : ∀ i, xE E2 75 i = xE E 75 i := fun i => xFr_E hfr rfl
      have hI : vPrg (xE E0 75) (x0 0) (x0 1) (x0 2) ∧ (∀ k, 0 ≤ k → xE E 75 k = uS (uS (xE E0 75) (8 + x0 0) (x0 1)) (40 + x0 0) (x0 2) k) ∧ (v 3) = x0 2 := hInv
      show xΨpg x0 E0 E2 (v2 3)
      obtain ⟨hvl, hc, i3⟩ := hI
      exact ⟨fun _ => ⟨by omega, fun k k0 => (e75 k).trans (hc k k0)⟩, fun h => absurd hvl h⟩
noncomputable def zxfst2_zx0 : zyXp := (0, [595, 34359738369, 68719476737, 13], [], [], [], [])
noncomputable def zpfst2_z : zyPh := (0, [595, 34359738369, 68719476737, 13], [(0, 4294967295), (0, 4294967295), (0, 4294967295), (0, 4294967295)], [], [])
noncomputable def zxfst2_ax0 : zyXp := (52, [595, 34359738369, 68719476737, 13], [], [(21, 0, 68719476737, 0), (21, 0, 16, 68719476737), (3, 206158430209, 137438953473, 206158430201), (3, 240518168577, 171798691833, 171798691841), (1, 274877906945, 206158430209, 240518168577), (21, 0, 34359738369, 0), (21, 0, 309237645305, 34359738369), (24, 309237645313, 75, 34359738945), (23, 0, 309237645313, 68719476737)], [(34359738369, 2147483648, 2147483678), (68719476737, 2147483648, 2147483650), (137438953473, 2147483649, 2147483652), (171798691841, 2147483649, 2147483653), (206158430209, 2147483648, 2147483664), (240518168577, 2147483648, 2147483663), (274877906945, 2147483649, 2147483679)], [])
noncomputable def zxfst2_ar0 : zyXp := (0, [], [34359738360], [(20, 0, 68719476737, 0)], [(68719476737, 0, 2147483647)], [])
noncomputable def zxfst2_ar1 : zyXp := (0, [], [34359738360], [(21, 0, 68719476737, 0), (20, 0, 16, 68719476737)], [(68719476737, 2147483651, 4294967295)], [])
noncomputable def zxfst2_ar2 : zyXp := (0, [], [34359738360], [(21, 0, 68719476737, 0), (21, 0, 16, 68719476737), (3, 206158430209, 137438953473, 206158430201), (3, 240518168577, 171798691833, 171798691841), (1, 274877906945, 206158430209, 240518168577), (20, 0, 34359738369, 0)], [(34359738369, 0, 2147483647), (68719476737, 2147483648, 2147483650), (137438953473, 2147483649, 2147483652), (171798691841, 2147483649, 2147483653), (206158430209, 2147483648, 2147483664), (240518168577, 2147483648, 2147483663), (274877906945, 2147483648, 2147483679)], [])
noncomputable def zxfst2_ar3 : zyXp := (0, [], [34359738360], [(21, 0, 68719476737, 0), (21, 0, 16, 68719476737), (3, 206158430209, 137438953473, 206158430201), (3, 240518168577, 171798691833, 171798691841), (1, 274877906945, 206158430209, 240518168577), (21, 0, 34359738369, 0), (20, 0, 309237645305, 34359738369)], [(34359738369, 2147483648, 4294967295), (68719476737, 2147483648, 2147483650), (137438953473, 2147483649, 2147483652), (171798691841, 2147483649, 2147483653), (206158430209, 2147483648, 2147483664), (240518168577, 2147483648, 2147483663), (274877906945, 2147483648, 2147483679)], [])
noncomputable def zxfst2_ar4 : zyXp := (0, [], [34359738360], [(21, 0, 68719476737, 0), (21, 0, 16, 68719476737), (3, 206158430209, 137438953473, 206158430201), (3, 240518168577, 171798691833, 171798691841), (1, 274877906945, 206158430209, 240518168577), (21, 0, 34359738369, 0), (21, 0, 309237645305, 34359738369), (24, 309237645313, 75, 34359738945), (22, 0, 309237645313, 68719476737)], [(34359738369, 2147483648, 2147483678), (68719476737, 2147483648, 2147483650), (137438953473, 2147483649, 2147483652), (171798691841, 2147483649, 2147483653), (206158430209, 2147483648, 2147483664), (240518168577, 2147483648, 2147483663), (274877906945, 2147483649, 2147483679)], [])
noncomputable def zpfst2_a : zyPh := (0, [595, 34359738369, 68719476737, 13], [(0, 4294967295), (0, 4294967295), (0, 4294967295), (0, 4294967295), (2147483649, 2147483652), (2147483649, 2147483653)], [(1228800, 137438953473), (1228801, 171798691841)], [])
noncomputable def zxfst2_bx0 : zyXp := (52, [595, 34359738369, 68719476737, 13], [], [], [(34359738369, 2147483648, 2147483678), (68719476737, 2147483648, 2147483650)], [])
noncomputable def zpfst2_b : zyPh := (52, [595, 34359738369, 68719476737, 13], [(0, 4294967295), (2147483648, 2147483678), (2147483648, 2147483650), (0, 4294967295)], [], [])
noncomputable def zxfst2_b2x0 : zyXp := (71, [595, 34359738369, 68719476737, 137438953473], [68719476737, 34359738945, 603], [(24, 137438953473, 75, 34359738945)], [(34359738369, 2147483648, 2147483678), (68719476737, 2147483648, 2147483650), (34359738945, 2147483720, 2147483750)], [])
noncomputable def zpfst2_b2 : zyPh := (52, [595, 34359738369, 68719476737, 13], [(0, 4294967295), (2147483648, 2147483678), (2147483648, 2147483650), (0, 4294967295)], [], [])
noncomputable def zxfst2_cr0 : zyXp := (0, [], [103079215105], [], [], [])
noncomputable def zpfst2_c : zyPh := (72, [595, 13, 13, 103079215105], [(0, 4294967295), (0, 4294967295), (0, 4294967295), (0, 4294967295)], [], [])
noncomputable def zpfst2 (i : Nat) : zyPh := zif (Nat.beq i 0) (zpfst2_z) (zif (Nat.beq i 1) (zpfst2_a) (zif (Nat.beq i 2) (zpfst2_b) (zif (Nat.beq i 3) (zpfst2_b2) (zpfst2_c))))
noncomputable def zXfst2 (i : Nat) : List zyXp := zif (Nat.beq i 0) ([zxfst2_zx0]) (zif (Nat.beq i 1) ([zxfst2_ax0]) (zif (Nat.beq i 2) ([zxfst2_bx0]) (zif (Nat.beq i 3) ([zxfst2_b2x0]) ([]))))
noncomputable def zRfst2 (i : Nat) : List zyXp := zif (Nat.beq i 0) ([]) (zif (Nat.beq i 1) ([zxfst2_ar0, zxfst2_ar1, zxfst2_ar2, zxfst2_ar3, zxfst2_ar4]) (zif (Nat.beq i 2) ([]) (zif (Nat.beq i 3) ([]) ([zxfst2_cr0]))))
noncomputable def zFfst2 (i : Nat) : zyR := zif (Nat.beq i 0) ([]) (zif (Nat.beq i 1) ([(74, 2, 3)]) (zif (Nat.beq i 2) ([]) (zif (Nat.beq i 3) ([]) ([]))))
noncomputable def zSfst2 (i : Nat) : Nat := zif (Nat.beq i 0) (0) (zif (Nat.beq i 1) (0) (zif (Nat.beq i 2) (0) (zif (Nat.beq i 3) (0) (0))))
def xΨsk2 (x : Nat → Int) (E E2 : zyEm) (r : Int) : Prop := (vStk (xE E 75) (x 0) (x 1) → r = xE E 75 (72 + x 0) ∧ ∀ k, 0 ≤ k → xE E2 75 k = uS (xE E 75) (72 + x 0) (x 1) k) ∧ (¬ vStk (xE E 75) (x 0) (x 1) → r = -1 ∧ ∀ k, xE E2 75 k = xE E 75 k)
noncomputable def fpfst2 : zyR := [(74, 2, 3), (75, 72, 103)]
theorem zyfst2_run : zyrS zymx zxi271 (271, 0, 0, 1, 0) 4 zpfst2 (fun _ _ => []) zFfst2 zSfst2 zXfst2 zRfst2 5 = true := by decide +kernel
theorem zyfst2_ck : zyAll (fun i => xsubR (zFfst2 i) fpfst2 && ((zXfst2 i).all xckX && (zRfst2 i).all (fun x => xckX x && xrtB true x))) 5 = true := by decide +kernel
def xIfst2 (i : Nat) (x0 : Nat → Int) (E0 : zyEm) (v : Nat → Int) (E : zyEm) : Prop := if i = 0 then (E = E0 ∧ (v 1) = x0 0 ∧ (v 2) = x0 1) else if i = 1 then (E = E0 ∧ (v 1) = x0 0 ∧ (v 2) = x0 1) else if i = 2 then (vStk (xE E0 75) (x0 0) (x0 1) ∧ (∀ k, 0 ≤ k → xE E 75 k = xE E0 75 k) ∧ (v 1) = x0 0 ∧ (v 2) = x0 1) else if i = 3 then (vStk (xE E0 75) (x0 0) (x0 1) ∧ (∀ k, 0 ≤ k → xE E 75 k = xE E0 75 k) ∧ (v 1) = x0 0 ∧ (v 2) = x0 1) else (vStk (xE E0 75) (x0 0) (x0 1) ∧ (∀ k, 0 ≤ k → xE E 75 k = uS (xE E0 75) (72 + x0 0) (x0 1) k) ∧ (v 3) = xE E0 75 (72 + x0 0))
def xMfst2 (i : Nat) (x0 : Nat → Int) (E0 : zyEm) (v : Nat → Int) (E : zyEm) : Nat := if i = 0 then (9) else if i = 1 then (8) else if i = 2 then (7) else if i = 3 then (6) else (5)
theorem xSk2 {l : Launch} {en : zEn} {me : zMe} (hen : zG zxMeta 271 = some en) (hme : zG zMeth 271 = some me) : xFc l zymx en me 4 [74] 2 fpfst2 true xΦrc xΨsk2 := by
  have een : zG zxMeta 271 = some (zxi271, 3, 4, 11, 271, 0, 0, 1, 0) := rfl
  obtain ⟨me1, hme1, hOK⟩ := zall hen
  rw [hme] at hme1
  cases hme1
  rw [een] at hen
  cases hen
  have hr := zyfst2_run
  have hck := fun i hi => zyAll_iff zyfst2_ck i hi
  simp only [Bool.and_eq_true] at hck
  intro B
  refine xcut (mi := zymx) (B := B) hOK rfl rfl (ι := Fin 5) (fun i => zpfst2 i.val) (fun _ _ => []) (fun i => zFfst2 i.val) (fun i => zSfst2 i.val) (fun i => zXfst2 i.val) (fun i => zRfst2 i.val) (fun i y2 ct en2 me2 h => by cases h) 200000 (fun i => zyAll_iff hr i.val i.isLt) (fun i => (hck i.val i.isLt).1) (fun i => (hck i.val i.isLt).2.1) (fun i => (hck i.val i.isLt).2.2) ⟨0, by decide⟩ ⟨rfl, rfl, rfl, rfl⟩ ⟨by decide, by decide⟩ (fun i x0 E0 v E => xIfst2 i.val x0 E0 v E) (fun i x0 E0 v E => xMfst2 i.val x0 E0 v E) ?_ ?_ ?_
  · intro x0 E hx0 hT hΦ
    have hΦ : xΦrc x0 E := hΦ
    refine ⟨fun k p hp => ?_, ?_⟩
    · have hk : k < 4 := (List.getElem?_eq_some_iff.mp hp).1
      have hk : k = 0 ∨ k = 1 ∨ k = 2 ∨ k = 3 := by omega
      rcases hk with rfl | rfl | rfl | rfl
      · have hp : some (0, 4294967295) = some p := hp
        cases hp
        show ((0 : Nat) : Int) ≤ 0 + 2147483648 ∧ 0 + 2147483648 ≤ ((4294967295 : Nat) : Int)
        omega
      · have hp : some (0, 4294967295) = some p := hp
        cases hp
        show ((0 : Nat) : Int) ≤ x0 0 + 2147483648 ∧ x0 0 + 2147483648 ≤ ((4294967295 : Nat) : Int)
        have hx := hx0 0
        omega
      · have hp : some (0, 4294967295) = some p := hp
        cases hp
        show ((0 : Nat) : Int) ≤ x0 1 + 2147483648 ∧ x0 1 + 2147483648 ≤ ((4294967295 : Nat) : Int)
        have hx := hx0 1
        omega
      · have hp : some (0, 4294967295) = some p := hp
        cases hp
        show ((0 : Nat) : Int) ≤ x0 2 + 2147483648 ∧ x0 2 + 2147483648 ≤ ((4294967295 : Nat) : Int)
        have hx := hx0 2
        omega
    · show E = E ∧ (x0 0) = x0 0 ∧ (x0 1) = x0 1
      exact ⟨rfl, rfl, rfl⟩
  · intro x0 s Wg hRu hrx hT0 hΦ i v H hT hrv hInv hKc hFr0 hIH x hx ρ2 v2 N2 H2 locs lsB stA hAt hB hv hr2 hXs hag hfr hFr hT2
    rcases i with ⟨i, hi⟩
    have hi2 : i = 0 ∨ i = 1 ∨ i = 2 ∨ i = 3 ∨ i = 4 := by omega
    rcases hi2 with rfl | rfl | rfl | rfl | rfl
    · have hx : x ∈ [zxfst2_zx0] := hx
      have hag : ∀ k, k < 4 → v2 k = v k := hag
      have hfr : xFr [] _ _ := hfr
      have ex := List.mem_singleton.mp hx
      subst ex
      obtain ⟨hF, hBd, hM⟩ := hXs
      have r1 := hr2 1
      have r2 := hr2 2
      have g1 : v2 1 = v 1 := hag 1 (by decide)
      have g2 : v2 2 = v 2 := hag 2 (by decide)
      have e75_0 : xE (zyEl zymx B H2) 75 0 = xE (zyEl zymx B H) 75 0 := xFr_E hfr rfl
      have q75_0 : xE (zyEl zymx B H) 75 0 = xE (zyEl zymx B s.heap) 75 0 := xFr_E hFr0 rfl
      have e75_1 : xE (zyEl zymx B H2) 75 1 = xE (zyEl zymx B H) 75 1 := xFr_E hfr rfl
      have q75_1 : xE (zyEl zymx B H) 75 1 = xE (zyEl zymx B s.heap) 75 1 := xFr_E hFr0 rfl
      have e75 : ∀ i, xE (zyEl zymx B H2) 75 i = xE (zyEl zymx B H) 75 i := fun i => xFr_E hfr rfl
      have hI : (zyEl zymx B H) = (zyEl zymx B s.heap) ∧ (v 1) = x0 0 ∧ (v 2) = x0 1 := hInv
      have q75 : ∀ i, xE (zyEl zymx B H) 75 i = xE (zyEl zymx B s.heap) 75 i := fun i => by rw [hI.1]
      obtain ⟨hE, i1, i2⟩ := hI
      obtain ⟨hr, hcc⟩ := (show xΦrc x0 (zyEl zymx B s.heap) from hΦ)
      have z75_0 : ((0 : Nat) : Int) ≤ xE (zyEl zymx B H2) 75 0 + 2147483648 ∧ xE (zyEl zymx B H2) 75 0 + 2147483648 ≤ ((4294967295 : Nat) : Int) := xTyF hT2 75 0 0 rfl rfl rfl rfl rfl rfl
      have z75_1 : ((0 : Nat) : Int) ≤ xE (zyEl zymx B H2) 75 1 + 2147483648 ∧ xE (zyEl zymx B H2) 75 1 + 2147483648 ≤ ((4294967295 : Nat) : Int) := xTyF hT2 75 1 0 rfl rfl rfl rfl rfl rfl
      refine xGo hIH hAt hB hv hFr ⟨1, by decide⟩ [0, 34359738369, 68719476737, 0] [0, (v2 1), (v2 2), 0, xE (zyEl zymx B H2) 75 0, xE (zyEl zymx B H2) 75 1] rfl ⟨by decide +kernel, ⟨rfl, by decide +kernel⟩, (xcs_c rfl (xcs_c rfl (xcs_c rfl (xcs_c rfl xcs_n)))), (xe_0 (xe_f (by omega) (xe_f (by omega) (xe_0 (xe_c (by omega) (by omega) rfl (xe_c (by omega) (by omega) rfl xe_n)))))), (xkq_c hT2 75 0 (q := 0) rfl rfl rfl rfl rfl rfl rfl rfl rfl rfl rfl (xkq_c hT2 75 1 (q := 0) rfl rfl rfl rfl rfl rfl rfl rfl rfl rfl rfl xkq_n))⟩ xst_n ?_ ?_
      · show (zyEl zymx B H2) = (zyEl zymx B s.heap) ∧ ((v2 1) : Int) = x0 0 ∧ ((v2 2) : Int) = x0 1
        exact ⟨(xFr_n hfr).trans hE, by omega, by omega⟩
      · show 8 < 9
        omega
    · have hx : x ∈ [zxfst2_ax0] := hx
      have hag : ∀ k, k < 6 → v2 k = v k := hag
      have hfr : xFr [(74, 2, 3)] _ _ := hfr
      have ex := List.mem_singleton.mp hx
      subst ex
      obtain ⟨hF, hBd, hM⟩ := hXs
      have r9 := hr2 9
      have g1 : v2 1 = v 1 := hag 1 (by decide)
      have g2 : v2 2 = v 2 := hag 2 (by decide)
      have g4 : v2 4 = v 4 := hag 4 (by decide)
      have g5 : v2 5 = v 5 := hag 5 (by decide)
      have b0 : ((2147483648 : Nat) : Int) ≤ (v2 1) + 2147483648 ∧ (v2 1) + 2147483648 ≤ ((2147483678 : Nat) : Int) := xXb hBd 0 rfl
      have b1 : ((2147483648 : Nat) : Int) ≤ (v2 2) + 2147483648 ∧ (v2 2) + 2147483648 ≤ ((2147483650 : Nat) : Int) := xXb hBd 1 rfl
      have b2 : ((2147483649 : Nat) : Int) ≤ (v2 4) + 2147483648 ∧ (v2 4) + 2147483648 ≤ ((2147483652 : Nat) : Int) := xXb hBd 2 rfl
      have b3 : ((2147483649 : Nat) : Int) ≤ (v2 5) + 2147483648 ∧ (v2 5) + 2147483648 ≤ ((2147483653 : Nat) : Int) := xXb hBd 3 rfl
      have b4 : ((2147483648 : Nat) : Int) ≤ (v2 6) + 2147483648 ∧ (v2 6) + 2147483648 ≤ ((2147483664 : Nat) : Int) := xXb hBd 4 rfl
      have b5 : ((2147483648 : Nat) : Int) ≤ (v2 7) + 2147483648 ∧ (v2 7) + 2147483648 ≤ ((2147483663 : Nat) : Int) := xXb hBd 5 rfl
      have b6 : ((2147483649 : Nat) : Int) ≤ (v2 8) + 2147483648 ∧ (v2 8) + 2147483648 ≤ ((2147483679 : Nat) : Int) := xXb hBd 6 rfl
      have k0 : xE (zyEl zymx B H) 75 0 = v 4 := xKcf hKc 0 rfl rfl
      have k1 : xE (zyEl zymx B H) 75 1 = v 5 := xKcf hKc 1 rfl rfl
      have f0 : 0 ≤ (v2 2) := xXf hF 0 rfl
      have f1 : (v2 2) ≤ 2 := xXf hF 1 rfl
      have f2 : -2147483648 ≤ (v2 4) * (v2 5 + (-1)) → (v2 4) * (v2 5 + (-1)) < 2147483648 → (v2 6) = (v2 4) * (v2 5 + (-1)) := xXf hF 2 rfl
      have f3 : -2147483648 ≤ (v2 4 + (-1)) * (v2 5) → (v2 4 + (-1)) * (v2 5) < 2147483648 → (v2 7) = (v2 4 + (-1)) * (v2 5) := xXf hF 3 rfl
      have f4 : -2147483648 ≤ (v2 6) + (v2 7) → (v2 6) + (v2 7) < 2147483648 → (v2 8) = (v2 6) + (v2 7) := xXf hF 4 rfl
      have f4 := f4 (by omega) (by omega)
      have f5 : 0 ≤ (v2 1) := xXf hF 5 rfl
      have f6 : (v2 1) ≤ (v2 8 + (-1)) := xXf hF 6 rfl
      have f7 : (0 : Int) ≤ (v2 1 + 72) ∧ xE (zyEl zymx B H) 75 (v2 1 + 72) = (v2 9) := xXf hF 7 rfl
      have f8 : ¬ (v2 9) = (v2 2) := xXf hF 8 rfl
      have e75_0 : xE (zyEl zymx B H2) 75 0 = xE (zyEl zymx B H) 75 0 := xFr_E hfr rfl
      have q75_0 : xE (zyEl zymx B H) 75 0 = xE (zyEl zymx B s.heap) 75 0 := xFr_E hFr0 rfl
      have e75_1 : xE (zyEl zymx B H2) 75 1 = xE (zyEl zymx B H) 75 1 := xFr_E hfr rfl
      have q75_1 : xE (zyEl zymx B H) 75 1 = xE (zyEl zymx B s.heap) 75 1 := xFr_E hFr0 rfl
      have e75 : ∀ i, xE (zyEl zymx B H2) 75 i = xE (zyEl zymx B H) 75 i := fun i => xFr_E hfr rfl
      have hI : (zyEl zymx B H) = (zyEl zymx B s.heap) ∧ (v 1) = x0 0 ∧ (v 2) = x0 1 := hInv
      have q75 : ∀ i, xE (zyEl zymx B H) 75 i = xE (zyEl zymx B s.heap) 75 i := fun i => by rw [hI.1]
      obtain ⟨hE, i1, i2⟩ := hI
      obtain ⟨hr, hcc⟩ := (show xΦrc x0 (zyEl zymx B s.heap) from hΦ)
      have h750 := q75 0
      have h751 := q75 1
      obtain ⟨w1, w2, w3, w4, w5, w6⟩ := gN_of (r := (v2 4)) (c := (v2 5)) (A := (v2 5 + (-1))) (B := (v2 4 + (-1))) (by omega) (by omega) (by omega) (by omega) f2 f3
      rw [show (v2 4) = xE (zyEl zymx B s.heap) 75 0 by omega, show (v2 5) = xE (zyEl zymx B s.heap) 75 1 by omega] at w1 w6
      have c7 : xE (zyEl zymx B s.heap) 75 ((v2 1 + 72)) = (v2 9) := (q75 _).symm.trans f7.2
      rw [show (v2 1 + 72) = 72 + x0 0 by omega] at c7
      have hvl : vStk (xE (zyEl zymx B s.heap) 75) (x0 0) (x0 1) := by
        unfold vStk isG
        refine ⟨⟨by omega, by omega⟩, ⟨by omega, by omega⟩, ?_⟩
        intro y1
        omega
      refine xGo hIH hAt hB hv hFr ⟨2, by decide⟩ [0, 34359738369, 68719476737, 0] [0, (v2 1), (v2 2), 0] rfl ⟨by decide +kernel, ⟨rfl, by decide +kernel⟩, (xcs_c rfl (xcs_c rfl (xcs_c rfl (xcs_c rfl xcs_n)))), (xe_0 (xe_c (by omega) (by omega) rfl (xe_c (by omega) (by omega) rfl (xe_0 xe_n)))), xkq_n⟩ xst_n ?_ ?_
      · show vStk (xE (zyEl zymx B s.heap) 75) (x0 0) (x0 1) ∧ (∀ k, 0 ≤ k → xE (zyEl zymx B H2) 75 k = xE (zyEl zymx B s.heap) 75 k) ∧ ((v2 1) : Int) = x0 0 ∧ ((v2 2) : Int) = x0 1
        exact ⟨hvl, fun k _ => (e75 k).trans (q75 k), by omega, by omega⟩
      · show 7 < 8
        omega
    · have hx : x ∈ [zxfst2_bx0] := hx
      have hag : ∀ k, k < 4 → v2 k = v k := hag
      have hfr : xFr [] _ _ := hfr
      have ex := List.mem_singleton.mp hx
      subst ex
      obtain ⟨hF, hBd, hM⟩ := hXs
      have g1 : v2 1 = v 1 := hag 1 (by decide)
      have g2 : v2 2 = v 2 := hag 2 (by decide)
      have b0 : ((2147483648 : Nat) : Int) ≤ (v2 1) + 2147483648 ∧ (v2 1) + 2147483648 ≤ ((2147483678 : Nat) : Int) := xXb hBd 0 rfl
      have b1 : ((2147483648 : Nat) : Int) ≤ (v2 2) + 2147483648 ∧ (v2 2) + 2147483648 ≤ ((2147483650 : Nat) : Int) := xXb hBd 1 rfl
      have e75_0 : xE (zyEl zymx B H2) 75 0 = xE (zyEl zymx B H) 75 0 := xFr_E hfr rfl
      have q75_0 : xE (zyEl zymx B H) 75 0 = xE (zyEl zymx B s.heap) 75 0 := xFr_E hFr0 rfl
      have e75_1 : xE (zyEl zymx B H2) 75 1 = xE (zyEl zymx B H) 75 1 := xFr_E hfr rfl
      have q75_1 : xE (zyEl zymx B H) 75 1 = xE (zyEl zymx B s.heap) 75 1 := xFr_E hFr0 rfl
      have e75 : ∀ i, xE (zyEl zymx B H2) 75 i = xE (zyEl zymx B H) 75 i := fun i => xFr_E hfr rfl
      have hI : vStk (xE (zyEl zymx B s.heap) 75) (x0 0) (x0 1) ∧ (∀ k, 0 ≤ k → xE (zyEl zymx B H) 75 k = xE (zyEl zymx B s.heap) 75 k) ∧ (v 1) = x0 0 ∧ (v 2) = x0 1 := hInv
      obtain ⟨hvl, hc, i1, i2⟩ := hI
      refine xGo hIH hAt hB hv hFr ⟨3, by decide⟩ [0, 34359738369, 68719476737, 0] [0, (v2 1), (v2 2), 0] rfl ⟨by decide +kernel, ⟨rfl, by decide +kernel⟩, (xcs_c rfl (xcs_c rfl (xcs_c rfl (xcs_c rfl xcs_n)))), (xe_0 (xe_c (by omega) (by omega) rfl (xe_c (by omega) (by omega) rfl (xe_0 xe_n)))), xkq_n⟩ xst_n ?_ ?_
      · show vStk (xE (zyEl zymx B s.heap) 75) (x0 0) (x0 1) ∧ (∀ k, 0 ≤ k → xE (zyEl zymx B H2) 75 k = xE (zyEl zymx B s.heap) 75 k) ∧ ((v2 1) : Int) = x0 0 ∧ ((v2 2) : Int) = x0 1
        exact ⟨hvl, fun k k0 => (e75 k).trans (hc k k0), by omega, by omega⟩
      · show 6 < 7
        omega
    · have hx : x ∈ [zxfst2_b2x0] := hx
      have hag : ∀ k, k < 4 → v2 k = v k := hag
      have hfr : xFr [] _ _ := hfr
      have ex := List.mem_singleton.mp hx
      subst ex
      obtain ⟨hF, hBd, hM⟩ := hXs
      have r4 := hr2 4
      have g1 : v2 1 = v 1 := hag 1 (by decide)
      have g2 : v2 2 = v 2 := hag 2 (by decide)
      have b0 : ((2147483648 : Nat) : Int) ≤ (v2 1) + 2147483648 ∧ (v2 1) + 2147483648 ≤ ((2147483678 : Nat) : Int) := xXb hBd 0 rfl
      have b1 : ((2147483648 : Nat) : Int) ≤ (v2 2) + 2147483648 ∧ (v2 2) + 2147483648 ≤ ((2147483650 : Nat) : Int) := xXb hBd 1 rfl
      have b2 : ((2147483720 : Nat) : Int) ≤ (v2 1 + 72) + 2147483648 ∧ (v2 1 + 72) + 2147483648 ≤ ((2147483750 : Nat) : Int) := xXb hBd 2 rfl
      have f0 : (0 : Int) ≤ (v2 1 + 72) ∧ xE (zyEl zymx B H) 75 (v2 1 + 72) = (v2 4) := xXf hF 0 rfl
      have e75_0 : xE (zyEl zymx B H2) 75 0 = xE (zyEl zymx B H) 75 0 := xFr_E hfr rfl
      have q75_0 : xE (zyEl zymx B H) 75 0 = xE (zyEl zymx B s.heap) 75 0 := xFr_E hFr0 rfl
      have e75_1 : xE (zyEl zymx B H2) 75 1 = xE (zyEl zymx B H) 75 1 := xFr_E hfr rfl
      have q75_1 : xE (zyEl zymx B H) 75 1 = xE (zyEl zymx B s.heap) 75 1 := xFr_E hFr0 rfl
      have e75 : ∀ i, xE (zyEl zymx B H2) 75 i = xE (zyEl zymx B H) 75 i := fun i => xFr_E hfr rfl
      have hI : vStk (xE (zyEl zymx B s.heap) 75) (x0 0) (x0 1) ∧ (∀ k, 0 ≤ k → xE (zyEl zymx B H) 75 k = xE (zyEl zymx B s.heap) 75 k) ∧ (v 1) = x0 0 ∧ (v 2) = x0 1 := hInv
      obtain ⟨hvl, hc, i1, i2⟩ := hI
      have c0 : xE (zyEl zymx B s.heap) 75 (72 + x0 0) = (v2 4) := by
        rw [← hc _ (by omega), show 72 + x0 0 = (v2 1 + 72) by omega]
        exact f0.2
      refine xSt hRu hIH hAt hB hv hFr 75 (ax := 0) 68719476737 34359738945 (v2 2) (v2 1 + 72) rfl (Or.inl ⟨rfl, rfl⟩) rfl (by decide +kernel) rfl rfl (by omega) (by show (v2 1 + 72) < ((556 : Nat) : Int); omega) (fun r hr q1 q2 => by rw [List.mem_singleton.mp hr]; exact ⟨rfl, by show ((0 : Nat) : Int) ≤ (v2 2) + 2147483648; omega, by show (v2 2) + 2147483648 ≤ ((4294967295 : Nat) : Int); omega⟩) (zyin_iff.mpr ⟨(75, 72, 103), by decide, rfl, (by show 72 ≤ Int.toNat (v2 1 + 72); omega), by show Int.toNat (v2 1 + 72) ≤ 103; omega⟩) (fun H3 hT3 hst3 hne3 hfn3 hFr3 => ?_)
      have hfe3 : ∀ (a2 : Nat) (k2 : Int), ¬ a2 = 75 → xE (zyEl zymx B H3) a2 k2 = xE (zyEl zymx B H2) a2 k2 := fun a2 k2 hne => by unfold xE; rw [hfn3 a2 k2.toNat (fun z => hne z.1)]
      skip
      refine ⟨⟨4, by decide⟩, [0, 0, 0, 137438953473], [0, 0, 0, (v2 4)], rfl, ⟨by decide +kernel, ⟨rfl, by decide +kernel⟩, (xcs_c rfl (xcs_c rfl (xcs_c rfl (xcs_c rfl xcs_n)))), (xe_0 (xe_0 (xe_0 (xe_f (by omega) xe_n)))), xkq_n⟩, rfl, ?_, ?_⟩
      · show vStk (xE (zyEl zymx B s.heap) 75) (x0 0) (x0 1) ∧ (∀ k, 0 ≤ k → xE (zyEl zymx B H3) 75 k = uS (xE (zyEl zymx B s.heap) 75) (72 + x0 0) (x0 1) k) ∧ ((v2 4) : Int) = xE (zyEl zymx B s.heap) 75 (72 + x0 0)
        refine ⟨hvl, fun k k0 => ?_, by omega⟩
        by_cases e : k = 72 + x0 0
        · rw [uS_e e, e, show 72 + x0 0 = (v2 1 + 72) by omega, hst3] <;> omega
        · rw [uS_n e, hne3 75 k k0 (fun z => e (by omega)), e75]
          exact hc k k0
      · show 5 < 6
        omega
    · cases hx
  · intro x0 E0 E E2 hrx hT0 hΦ i v hT hrv hInv hKc hFr0 x hx v2 hr2 hXs hag hfr hFr hT2
    rcases i with ⟨i, hi⟩
    have hi2 : i = 0 ∨ i = 1 ∨ i = 2 ∨ i = 3 ∨ i = 4 := by omega
    rcases hi2 with rfl | rfl | rfl | rfl | rfl
    · cases hx
    · have hx : x ∈ [zxfst2_ar0, zxfst2_ar1, zxfst2_ar2, zxfst2_ar3, zxfst2_ar4] := hx
      have hag : ∀ k, k < 6 → v2 k = v k := hag
      have hfr : xFr [(74, 2, 3)] _ _ := hfr
      rcases List.mem_cons.mp hx with ex | hx
      · subst ex
        obtain ⟨hF, hBd, hM⟩ := hXs
        have g1 : v2 1 = v 1 := hag 1 (by decide)
        have g2 : v2 2 = v 2 := hag 2 (by decide)
        have g4 : v2 4 = v 4 := hag 4 (by decide)
        have g5 : v2 5 = v 5 := hag 5 (by decide)
        have b0 : ((0 : Nat) : Int) ≤ (v2 2) + 2147483648 ∧ (v2 2) + 2147483648 ≤ ((2147483647 : Nat) : Int) := xXb hBd 0 rfl
        have k0 : xE E 75 0 = v 4 := xKcf hKc 0 rfl rfl
        have k1 : xE E 75 1 = v 5 := xKcf hKc 1 rfl rfl
        have f0 : (v2 2) < 0 := xXf hF 0 rfl
        have e75_0 : xE E2 75 0 = xE E 75 0 := xFr_E hfr rfl
        have q75_0 : xE E 75 0 = xE E0 75 0 := xFr_E hFr0 rfl
        have e75_1 : xE E2 75 1 = xE E 75 1 := xFr_E hfr rfl
        have q75_1 : xE E 75 1 = xE E0 75 1 := xFr_E hFr0 rfl
        have e75 : ∀ i, xE E2 75 i = xE E 75 i := fun i => xFr_E hfr rfl
        have hI : E = E0 ∧ (v 1) = x0 0 ∧ (v 2) = x0 1 := hInv
        have q75 : ∀ i, xE E 75 i = xE E0 75 i := fun i => by rw [hI.1]
        show xΨsk2 x0 E0 E2 (-1)
        obtain ⟨hE, i1, i2⟩ := hI
        obtain ⟨hr, hcc⟩ := (show xΦrc x0 E0 from hΦ)
        have hvl : ¬ vStk (xE E0 75) (x0 0) (x0 1) := by
          unfold vStk isG
          rintro ⟨⟨y1, y2⟩, ⟨y5, y6⟩, y7⟩
          omega
        exact ⟨fun h => absurd h hvl, fun _ => ⟨rfl, fun k => (e75 k).trans (q75 k)⟩⟩
      · skip
        rcases List.mem_cons.mp hx with ex | hx
        · subst ex
          obtain ⟨hF, hBd, hM⟩ := hXs
          have g1 : v2 1 = v 1 := hag 1 (by decide)
          have g2 : v2 2 = v 2 := hag 2 (by decide)
          have g4 : v2 4 = v 4 := hag 4 (by decide)
          have g5 : v2 5 = v 5 := hag 5 (by decide)
          have b0 : ((2147483651 : Nat) : Int) ≤ (v2 2) + 2147483648 ∧ (v2 2) + 2147483648 ≤ ((4294967295 : Nat) : Int) := xXb hBd 0 rfl
          have k0 : xE E 75 0 = v 4 := xKcf hKc 0 rfl rfl
          have k1 : xE E 75 1 = v 5 := xKcf hKc 1 rfl rfl
          have f0 : 0 ≤ (v2 2) := xXf hF 0 rfl
          have f1 : 2 < (v2 2) := xXf hF 1 rfl
          have e75_0 : xE E2 75 0 = xE E 75 0 := xFr_E hfr rfl
          have q75_0 : xE E 75 0 = xE E0 75 0 := xFr_E hFr0 rfl
          have e75_1 : xE E2 75 1 = xE E 75 1 := xFr_E hfr rfl
          have q75_1 : xE E 75 1 = xE E0 75 1 := xFr_E hFr0 rfl
          have e75 : ∀ i, xE E2 75 i = xE E 75 i := fun i => xFr_E hfr rfl
          have hI : E = E0 ∧ (v 1) = x0 0 ∧ (v 2) = x0 1 := hInv
          have q75 : ∀ i, xE E 75 i = xE E0 75 i := fun i => by rw [hI.1]
          show xΨsk2 x0 E0 E2 (-1)
          obtain ⟨hE, i1, i2⟩ := hI
          obtain ⟨hr, hcc⟩ := (show xΦrc x0 E0 from hΦ)
          have hvl : ¬ vStk (xE E0 75) (x0 0) (x0 1) := by
            unfold vStk isG
            rintro ⟨⟨y1, y2⟩, ⟨y5, y6⟩, y7⟩
            omega
          exact ⟨fun h => absurd h hvl, fun _ => ⟨rfl, fun k => (e75 k).trans (q75 k)⟩⟩
        · skip
          rcases List.mem_cons.mp hx with ex | hx
          · subst ex
            obtain ⟨hF, hBd, hM⟩ := hXs
            have g1 : v2 1 = v 1 := hag 1 (by decide)
            have g2 : v2 2 = v 2 := hag 2 (by decide)
            have g4 : v2 4 = v 4 := hag 4 (by decide)
            have g5 : v2 5 = v 5 := hag 5 (by decide)
            have b0 : ((0 : Nat) : Int) ≤ (v2 1) + 2147483648 ∧ (v2 1) + 2147483648 ≤ ((2147483647 : Nat) : Int) := xXb hBd 0 rfl
            have b1 : ((2147483648 : Nat) : Int) ≤ (v2 2) + 2147483648 ∧ (v2 2) + 2147483648 ≤ ((2147483650 : Nat) : Int) := xXb hBd 1 rfl
            have b2 : ((2147483649 : Nat) : Int) ≤ (v2 4) + 2147483648 ∧ (v2 4) + 2147483648 ≤ ((2147483652 : Nat) : Int) := xXb hBd 2 rfl
            have b3 : ((2147483649 : Nat) : Int) ≤ (v2 5) + 2147483648 ∧ (v2 5) + 2147483648 ≤ ((2147483653 : Nat) : Int) := xXb hBd 3 rfl
            have b4 : ((2147483648 : Nat) : Int) ≤ (v2 6) + 2147483648 ∧ (v2 6) + 2147483648 ≤ ((2147483664 : Nat) : Int) := xXb hBd 4 rfl
            have b5 : ((2147483648 : Nat) : Int) ≤ (v2 7) + 2147483648 ∧ (v2 7) + 2147483648 ≤ ((2147483663 : Nat) : Int) := xXb hBd 5 rfl
            have b6 : ((2147483648 : Nat) : Int) ≤ (v2 8) + 2147483648 ∧ (v2 8) + 2147483648 ≤ ((2147483679 : Nat) : Int) := xXb hBd 6 rfl
            have k0 : xE E 75 0 = v 4 := xKcf hKc 0 rfl rfl
            have k1 : xE E 75 1 = v 5 := xKcf hKc 1 rfl rfl
            have f0 : 0 ≤ (v2 2) := xXf hF 0 rfl
            have f1 : (v2 2) ≤ 2 := xXf hF 1 rfl
            have f2 : -2147483648 ≤ (v2 4) * (v2 5 + (-1)) → (v2 4) * (v2 5 + (-1)) < 2147483648 → (v2 6) = (v2 4) * (v2 5 + (-1)) := xXf hF 2 rfl
            have f3 : -2147483648 ≤ (v2 4 + (-1)) * (v2 5) → (v2 4 + (-1)) * (v2 5) < 2147483648 → (v2 7) = (v2 4 + (-1)) * (v2 5) := xXf hF 3 rfl
            have f4 : -2147483648 ≤ (v2 6) + (v2 7) → (v2 6) + (v2 7) < 2147483648 → (v2 8) = (v2 6) + (v2 7) := xXf hF 4 rfl
            have f4 := f4 (by omega) (by omega)
            have f5 : (v2 1) < 0 := xXf hF 5 rfl
            have e75_0 : xE E2 75 0 = xE E 75 0 := xFr_E hfr rfl
            have q75_0 : xE E 75 0 = xE E0 75 0 := xFr_E hFr0 rfl
            have e75_1 : xE E2 75 1 = xE E 75 1 := xFr_E hfr rfl
            have q75_1 : xE E 75 1 = xE E0 75 1 := xFr_E hFr0 rfl
            have e75 : ∀ i, xE E2 75 i = xE E 75 i := fun i => xFr_E hfr rfl
            have hI : E = E0 ∧ (v 1) = x0 0 ∧ (v 2) = x0 1 := hInv
            have q75 : ∀ i, xE E 75 i = xE E0 75 i := fun i => by rw [hI.1]
            show xΨsk2 x0 E0 E2 (-1)
            obtain ⟨hE, i1, i2⟩ := hI
            obtain ⟨hr, hcc⟩ := (show xΦrc x0 E0 from hΦ)
            have h750 := q75 0
            have h751 := q75 1
            obtain ⟨w1, w2, w3, w4, w5, w6⟩ := gN_of (r := (v2 4)) (c := (v2 5)) (A := (v2 5 + (-1))) (B := (v2 4 + (-1))) (by omega) (by omega) (by omega) (by omega) f2 f3
            rw [show (v2 4) = xE E0 75 0 by omega, show (v2 5) = xE E0 75 1 by omega] at w1 w6
            have hvl : ¬ vStk (xE E0 75) (x0 0) (x0 1) := by
              unfold vStk isG
              rintro ⟨⟨y1, y2⟩, ⟨y5, y6⟩, y7⟩
              omega
            exact ⟨fun h => absurd h hvl, fun _ => ⟨rfl, fun k => (e75 k).trans (q75 k)⟩⟩
          · skip
            rcases List.mem_cons.mp hx with ex | hx
            · subst ex
              obtain ⟨hF, hBd, hM⟩ := hXs
              have g1 : v2 1 = v 1 := hag 1 (by decide)
              have g2 : v2 2 = v 2 := hag 2 (by decide)
              have g4 : v2 4 = v 4 := hag 4 (by decide)
              have g5 : v2 5 = v 5 := hag 5 (by decide)
              have b0 : ((2147483648 : Nat) : Int) ≤ (v2 1) + 2147483648 ∧ (v2 1) + 2147483648 ≤ ((4294967295 : Nat) : Int) := xXb hBd 0 rfl
              have b1 : ((2147483648 : Nat) : Int) ≤ (v2 2) + 2147483648 ∧ (v2 2) + 2147483648 ≤ ((2147483650 : Nat) : Int) := xXb hBd 1 rfl
              have b2 : ((2147483649 : Nat) : Int) ≤ (v2 4) + 2147483648 ∧ (v2 4) + 2147483648 ≤ ((2147483652 : Nat) : Int) := xXb hBd 2 rfl
              have b3 : ((2147483649 : Nat) : Int) ≤ (v2 5) + 2147483648 ∧ (v2 5) + 2147483648 ≤ ((2147483653 : Nat) : Int) := xXb hBd 3 rfl
              have b4 : ((2147483648 : Nat) : Int) ≤ (v2 6) + 2147483648 ∧ (v2 6) + 2147483648 ≤ ((2147483664 : Nat) : Int) := xXb hBd 4 rfl
              have b5 : ((2147483648 : Nat) : Int) ≤ (v2 7) + 2147483648 ∧ (v2 7) + 2147483648 ≤ ((2147483663 : Nat) : Int) := xXb hBd 5 rfl
              have b6 : ((2147483648 : Nat) : Int) ≤ (v2 8) + 2147483648 ∧ (v2 8) + 2147483648 ≤ ((2147483679 : Nat) : Int) := xXb hBd 6 rfl
              have k0 : xE E 75 0 = v 4 := xKcf hKc 0 rfl rfl
              have k1 : xE E 75 1 = v 5 := xKcf hKc 1 rfl rfl
              have f0 : 0 ≤ (v2 2) := xXf hF 0 rfl
              have f1 : (v2 2) ≤ 2 := xXf hF 1 rfl
              have f2 : -2147483648 ≤ (v2 4) * (v2 5 + (-1)) → (v2 4) * (v2 5 + (-1)) < 2147483648 → (v2 6) = (v2 4) * (v2 5 + (-1)) := xXf hF 2 rfl
              have f3 : -2147483648 ≤ (v2 4 + (-1)) * (v2 5) → (v2 4 + (-1)) * (v2 5) < 2147483648 → (v2 7) = (v2 4 + (-1)) * (v2 5) := xXf hF 3 rfl
              have f4 : -2147483648 ≤ (v2 6) + (v2 7) → (v2 6) + (v2 7) < 2147483648 → (v2 8) = (v2 6) + (v2 7) := xXf hF 4 rfl
              have f4 := f4 (by omega) (by omega)
              have f5 : 0 ≤ (v2 1) := xXf hF 5 rfl
              have f6 : (v2 8 + (-1)) < (v2 1) := xXf hF 6 rfl
              have e75_0 : xE E2 75 0 = xE E 75 0 := xFr_E hfr rfl
              have q75_0 : xE E 75 0 = xE E0 75 0 := xFr_E hFr0 rfl
              have e75_1 : xE E2 75 1 = xE E 75 1 := xFr_E hfr rfl
              have q75_1 : xE E 75 1 = xE E0 75 1 := xFr_E hFr0 rfl
              have e75 : ∀ i, xE E2 75 i = xE E 75 i := fun i => xFr_E hfr rfl
              have hI : E = E0 ∧ (v 1) = x0 0 ∧ (v 2) = x0 1 := hInv
              have q75 : ∀ i, xE E 75 i = xE E0 75 i := fun i => by rw [hI.1]
              show xΨsk2 x0 E0 E2 (-1)
              obtain ⟨hE, i1, i2⟩ := hI
              obtain ⟨hr, hcc⟩ := (show xΦrc x0 E0 from hΦ)
              have h750 := q75 0
              have h751 := q75 1
              obtain ⟨w1, w2, w3, w4, w5, w6⟩ := gN_of (r := (v2 4)) (c := (v2 5)) (A := (v2 5 + (-1))) (B := (v2 4 + (-1))) (by omega) (by omega) (by omega) (by omega) f2 f3
              rw [show (v2 4) = xE E0 75 0 by omega, show (v2 5) = xE E0 75 1 by omega] at w1 w6
              have hvl : ¬ vStk (xE E0 75) (x0 0) (x0 1) := by
                unfold vStk isG
                rintro ⟨⟨y1, y2⟩, ⟨y5, y6⟩, y7⟩
                omega
              exact ⟨fun h => absurd h hvl, fun _ => ⟨rfl, fun k => (e75 k).trans (q75 k)⟩⟩
            · skip
              have ex := List.mem_singleton.mp hx
              subst ex
              obtain ⟨hF, hBd, hM⟩ := hXs
              have r9 := hr2 9
              have g1 : v2 1 = v 1 := hag 1 (by decide)
              have g2 : v2 2 = v 2 := hag 2 (by decide)
              have g4 : v2 4 = v 4 := hag 4 (by decide)
              have g5 : v2 5 = v 5 := hag 5 (by decide)
              have b0 : ((2147483648 : Nat) : Int) ≤ (v2 1) + 2147483648 ∧ (v2 1) + 2147483648 ≤ ((2147483678 : Nat) : Int) := xXb hBd 0 rfl
              have b1 : ((2147483648 : Nat) : Int) ≤ (v2 2) + 2147483648 ∧ (v2 2) + 2147483648 ≤ ((2147483650 : Nat) : Int) := xXb hBd 1 rfl
              have b2 : ((2147483649 : Nat) : Int) ≤ (v2 4) + 2147483648 ∧ (v2 4) + 2147483648 ≤ ((2147483652 : Nat) : Int) := xXb hBd 2 rfl
              have b3 : ((2147483649 : Nat) : Int) ≤ (v2 5) + 2147483648 ∧ (v2 5) + 2147483648 ≤ ((2147483653 : Nat) : Int) := xXb hBd 3 rfl
              have b4 : ((2147483648 : Nat) : Int) ≤ (v2 6) + 2147483648 ∧ (v2 6) + 2147483648 ≤ ((2147483664 : Nat) : Int) := xXb hBd 4 rfl
              have b5 : ((2147483648 : Nat) : Int) ≤ (v2 7) + 2147483648 ∧ (v2 7) + 2147483648 ≤ ((2147483663 : Nat) : Int) := xXb hBd 5 rfl
              have b6 : ((2147483649 : Nat) : Int) ≤ (v2 8) + 2147483648 ∧ (v2 8) + 2147483648 ≤ ((2147483679 : Nat) : Int) := xXb hBd 6 rfl
              have k0 : xE E 75 0 = v 4 := xKcf hKc 0 rfl rfl
              have k1 : xE E 75 1 = v 5 := xKcf hKc 1 rfl rfl
              have f0 : 0 ≤ (v2 2) := xXf hF 0 rfl
              have f1 : (v2 2) ≤ 2 := xXf hF 1 rfl
              have f2 : -2147483648 ≤ (v2 4) * (v2 5 + (-1)) → (v2 4) * (v2 5 + (-1)) < 2147483648 → (v2 6) = (v2 4) * (v2 5 + (-1)) := xXf hF 2 rfl
              have f3 : -2147483648 ≤ (v2 4 + (-1)) * (v2 5) → (v2 4 + (-1)) * (v2 5) < 2147483648 → (v2 7) = (v2 4 + (-1)) * (v2 5) := xXf hF 3 rfl
              have f4 : -2147483648 ≤ (v2 6) + (v2 7) → (v2 6) + (v2 7) < 2147483648 → (v2 8) = (v2 6) + (v2 7) := xXf hF 4 rfl
              have f4 := f4 (by omega) (by omega)
              have f5 : 0 ≤ (v2 1) := xXf hF 5 rfl
              have f6 : (v2 1) ≤ (v2 8 + (-1)) := xXf hF 6 rfl
              have f7 : (0 : Int) ≤ (v2 1 + 72) ∧ xE E 75 (v2 1 + 72) = (v2 9) := xXf hF 7 rfl
              have f8 : (v2 9) = (v2 2) := xXf hF 8 rfl
              have e75_0 : xE E2 75 0 = xE E 75 0 := xFr_E hfr rfl
              have q75_0 : xE E 75 0 = xE E0 75 0 := xFr_E hFr0 rfl
              have e75_1 : xE E2 75 1 = xE E 75 1 := xFr_E hfr rfl
              have q75_1 : xE E 75 1 = xE E0 75 1 := xFr_E hFr0 rfl
              have e75 : ∀ i, xE E2 75 i = xE E 75 i := fun i => xFr_E hfr rfl
              have hI : E = E0 ∧ (v 1) = x0 0 ∧ (v 2) = x0 1 := hInv
              have q75 : ∀ i, xE E 75 i = xE E0 75 i := fun i => by rw [hI.1]
              show xΨsk2 x0 E0 E2 (-1)
              obtain ⟨hE, i1, i2⟩ := hI
              obtain ⟨hr, hcc⟩ := (show xΦrc x0 E0 from hΦ)
              have h750 := q75 0
              have h751 := q75 1
              obtain ⟨w1, w2, w3, w4, w5, w6⟩ := gN_of (r := (v2 4)) (c := (v2 5)) (A := (v2 5 + (-1))) (B := (v2 4 + (-1))) (by omega) (by omega) (by omega) (by omega) f2 f3
              rw [show (v2 4) = xE E0 75 0 by omega, show (v2 5) = xE E0 75 1 by omega] at w1 w6
              have c7 : xE E0 75 ((v2 1 + 72)) = (v2 9) := (q75 _).symm.trans f7.2
              rw [show (v2 1 + 72) = 72 + x0 0 by omega] at c7
              have hvl : ¬ vStk (xE E0 75) (x0 0) (x0 1) := by
                unfold vStk isG
                rintro ⟨⟨y1, y2⟩, ⟨y5, y6⟩, y7⟩
                omega
              exact ⟨fun h => absurd h hvl, fun _ => ⟨rfl, fun k => (e75 k).trans (q75 k)⟩⟩
    · cases hx
    · cases hx
    · have hx : x ∈ [zxfst2_cr0] := hx
      have hag : ∀ k, k < 4 → v2 k = v k := hag
      have hfr : xFr [] _ _ := hfr
      have ex := List.mem_singleton.mp hx
      subst ex
      obtain ⟨hF, hBd, hM⟩ := hXs
      have r3 := hr2 3
      have g3 : v2 3 = v 3 := hag 3 (by decide)
      have e75_0 : xE E2 75 0 = xE E 75 0 := xFr_E hfr rfl
      have q75_0 : xE E 75 0 = xE E0 75 0 := xFr_E hFr0 rfl
      have e75_1 : xE E2 75 1 = xE E 75 1 := xFr_E hfr rfl
      have q75_1 : xE E 75 1 = xE E0 75 1 := xFr_E hFr0 rfl
      have e75 : ∀ i, xE E2 75 i = xE E 75 i := fun i => xFr_E hfr rfl
      have hI : vStk (xE E0 75) (x0 0) (x0 1) ∧ (∀ k, 0 ≤ k → xE E 75 k = uS (xE E0 75) (72 + x0 0) (x0 1) k) ∧ (v 3) = xE E0 75 (72 + x0 0) := hInv
      show xΨsk2 x0 E0 E2 (v2 3)
      obtain ⟨hvl, hc, i3⟩ := hI
      exact ⟨fun _ => ⟨by omega, fun k k0 => (e75 k).trans (hc k k0)⟩, fun h => absurd hvl h⟩
noncomputable def zxffs_zx0 : zyXp := (0, [595, 34359738369, 13], [], [], [], [])
noncomputable def zpffs_z : zyPh := (0, [595, 34359738369, 13], [(0, 4294967295), (0, 4294967295), (0, 4294967295)], [], [])
noncomputable def zxffs_ax0 : zyXp := (24, [595, 34359738369, 13], [34359738369, 595], [(3, 171798691841, 32, 103079215105), (3, 206158430209, 171798691841, 137438953473), (21, 0, 34359738369, 0), (21, 0, 240518168569, 34359738369)], [(34359738369, 2147483648, 2147483727), (103079215105, 2147483649, 2147483652), (137438953473, 2147483649, 2147483653), (171798691841, 2147483652, 2147483664), (206158430209, 2147483652, 2147483728)], [])
noncomputable def zxffs_ar0 : zyXp := (0, [], [34359738360], [(3, 171798691841, 32, 103079215105), (3, 206158430209, 171798691841, 137438953473), (20, 0, 34359738369, 0)], [(34359738369, 0, 2147483647), (103079215105, 2147483649, 2147483652), (137438953473, 2147483649, 2147483653), (171798691841, 2147483652, 2147483664), (206158430209, 2147483652, 2147483728)], [])
noncomputable def zxffs_ar1 : zyXp := (0, [], [34359738360], [(3, 171798691841, 32, 103079215105), (3, 206158430209, 171798691841, 137438953473), (21, 0, 34359738369, 0), (20, 0, 240518168569, 34359738369)], [(34359738369, 2147483652, 4294967295), (103079215105, 2147483649, 2147483652), (137438953473, 2147483649, 2147483653), (171798691841, 2147483652, 2147483664), (206158430209, 2147483652, 2147483728)], [])
noncomputable def zpffs_a : zyPh := (0, [595, 34359738369, 13], [(0, 4294967295), (0, 4294967295), (0, 4294967295), (2147483649, 2147483652), (2147483649, 2147483653)], [(1228800, 103079215105), (1228801, 137438953473)], [])
noncomputable def zxffs_br0 : zyXp := (0, [], [34359738360], [(20, 0, 103079215105, 0)], [(103079215105, 0, 2147483647)], [])
noncomputable def zxffs_br1 : zyXp := (0, [], [103079215105], [(21, 0, 103079215105, 0)], [(103079215105, 2147483648, 4294967295)], [])
noncomputable def zpffs_b : zyPh := (27, [595, 13, 13], [(0, 4294967295), (0, 4294967295), (0, 4294967295), (0, 4294967295)], [], [103079215105])
noncomputable def zpffs (i : Nat) : zyPh := zif (Nat.beq i 0) (zpffs_z) (zif (Nat.beq i 1) (zpffs_a) (zpffs_b))
noncomputable def zXffs (i : Nat) : List zyXp := zif (Nat.beq i 0) ([zxffs_zx0]) (zif (Nat.beq i 1) ([zxffs_ax0]) ([]))
noncomputable def zRffs (i : Nat) : List zyXp := zif (Nat.beq i 0) ([]) (zif (Nat.beq i 1) ([zxffs_ar0, zxffs_ar1]) ([zxffs_br0, zxffs_br1]))
noncomputable def zFffs (i : Nat) : zyR := zif (Nat.beq i 0) ([]) (zif (Nat.beq i 1) ([(74, 2, 3)]) ([(74, 2, 3)]))
noncomputable def zSffs (i : Nat) : Nat := zif (Nat.beq i 0) (0) (zif (Nat.beq i 1) (0) (0))
noncomputable def aFac (S : Int → Int) (s : Int) : Int := if 0 ≤ s ∧ s < sN (S 0) (S 1) ∧ 0 ≤ pF (S 0) (S 1) s then pF (S 0) (S 1) s else -1
def xΨfs (x : Nat → Int) (E _ : zyEm) (r : Int) : Prop := r = aFac (xE E 75) (x 0)
noncomputable def fpffs : zyR := [(74, 2, 3)]
theorem zyffs_run : zyrS zymx zxi269 (269, 0, 0, 1, 0) 6 zpffs (fun _ _ => []) zFffs zSffs zXffs zRffs 3 = true := by decide +kernel
theorem zyffs_ck : zyAll (fun i => xsubR (zFffs i) fpffs && ((zXffs i).all xckX && (zRffs i).all (fun x => xckX x && xrtB true x))) 3 = true := by decide +kernel
def xIffs (i : Nat) (x0 : Nat → Int) (E0 : zyEm) (v : Nat → Int) (E : zyEm) : Prop := if i = 0 then (E = E0 ∧ (v 1) = x0 0) else if i = 1 then (E = E0 ∧ (v 1) = x0 0) else (0 ≤ x0 0 ∧ x0 0 < sN (xE E0 75 0) (xE E0 75 1) ∧ (v 3) = pF (xE E0 75 0) (xE E0 75 1) (x0 0))
def xMffs (i : Nat) (x0 : Nat → Int) (E0 : zyEm) (v : Nat → Int) (E : zyEm) : Nat := if i = 0 then (3) else if i = 1 then (2) else (1)
theorem xFs {l : Launch} {en : zEn} {me : zMe} (hen : zG zxMeta 269 = some en) (hme : zG zMeth 269 = some me) : xFc l zymx en me 6 [74] 1 fpffs true xΦrc xΨfs := by
  have een : zG zxMeta 269 = some (zxi269, 2, 3, 11, 269, 0, 0, 1, 0) := rfl
  obtain ⟨me1, hme1, hOK⟩ := zall hen
  rw [hme] at hme1
  cases hme1
  rw [een] at hen
  cases hen
  have hr := zyffs_run
  have hck := fun i hi => zyAll_iff zyffs_ck i hi
  simp only [Bool.and_eq_true] at hck
  obtain ⟨meffa, hmeffa, -⟩ := zall (show zG zxMeta 203 = some (zxi203, 2, 3, 11, 203, 0, 0, 1, 0) from rfl)
  have hffa := xFa (l := l) (show zG zxMeta 203 = some (zxi203, 2, 3, 11, 203, 0, 0, 1, 0) from rfl) hmeffa
  intro B
  refine xcut (mi := zymx) (B := B) hOK rfl rfl (ι := Fin 3) (fun i => zpffs i.val) (fun _ _ => []) (fun i => zFffs i.val) (fun i => zSffs i.val) (fun i => zXffs i.val) (fun i => zRffs i.val) (fun i y2 ct en2 me2 h => by cases h) 200000 (fun i => zyAll_iff hr i.val i.isLt) (fun i => (hck i.val i.isLt).1) (fun i => (hck i.val i.isLt).2.1) (fun i => (hck i.val i.isLt).2.2) ⟨0, by decide⟩ ⟨rfl, rfl, rfl, rfl⟩ ⟨by decide, by decide⟩ (fun i x0 E0 v E => xIffs i.val x0 E0 v E) (fun i x0 E0 v E => xMffs i.val x0 E0 v E) ?_ ?_ ?_
  · intro x0 E hx0 hT hΦ
    have hΦ : xΦrc x0 E := hΦ
    refine ⟨fun k p hp => ?_, ?_⟩
    · have hk : k < 3 := (List.getElem?_eq_some_iff.mp hp).1
      have hk : k = 0 ∨ k = 1 ∨ k = 2 := by omega
      rcases hk with rfl | rfl | rfl
      · have hp : some (0, 4294967295) = some p := hp
        cases hp
        show ((0 : Nat) : Int) ≤ 0 + 2147483648 ∧ 0 + 2147483648 ≤ ((4294967295 : Nat) : Int)
        omega
      · have hp : some (0, 4294967295) = some p := hp
        cases hp
        show ((0 : Nat) : Int) ≤ x0 0 + 2147483648 ∧ x0 0 + 2147483648 ≤ ((4294967295 : Nat) : Int)
        have hx := hx0 0
        omega
      · have hp : some (0, 4294967295) = some p := hp
        cases hp
        show ((0 : Nat) : Int) ≤ x0 1 + 2147483648 ∧ x0 1 + 2147483648 ≤ ((4294967295 : Nat) : Int)
        have hx := hx0 1
        omega
    · show E = E ∧ (x0 0) = x0 0
      exact ⟨rfl, rfl⟩
  · intro x0 s Wg hRu hrx hT0 hΦ i v H hT hrv hInv hKc hFr0 hIH x hx ρ2 v2 N2 H2 locs lsB stA hAt hB hv hr2 hXs hag hfr hFr hT2
    rcases i with ⟨i, hi⟩
    have hi2 : i = 0 ∨ i = 1 ∨ i = 2 := by omega
    rcases hi2 with rfl | rfl | rfl
    · have hx : x ∈ [zxffs_zx0] := hx
      have hag : ∀ k, k < 3 → v2 k = v k := hag
      have hfr : xFr [] _ _ := hfr
      have ex := List.mem_singleton.mp hx
      subst ex
      obtain ⟨hF, hBd, hM⟩ := hXs
      have r1 := hr2 1
      have g1 : v2 1 = v 1 := hag 1 (by decide)
      have e75_0 : xE (zyEl zymx B H2) 75 0 = xE (zyEl zymx B H) 75 0 := xFr_E hfr rfl
      have q75_0 : xE (zyEl zymx B H) 75 0 = xE (zyEl zymx B s.heap) 75 0 := xFr_E hFr0 rfl
      have e75_1 : xE (zyEl zymx B H2) 75 1 = xE (zyEl zymx B H) 75 1 := xFr_E hfr rfl
      have q75_1 : xE (zyEl zymx B H) 75 1 = xE (zyEl zymx B s.heap) 75 1 := xFr_E hFr0 rfl
      have e75 : ∀ i, xE (zyEl zymx B H2) 75 i = xE (zyEl zymx B H) 75 i := fun i => xFr_E hfr rfl
      have q75 : ∀ i, xE (zyEl zymx B H) 75 i = xE (zyEl zymx B s.heap) 75 i := fun i => xFr_E hFr0 rfl
      have hI : (zyEl zymx B H) = (zyEl zymx B s.heap) ∧ (v 1) = x0 0 := hInv
      obtain ⟨hE, i1⟩ := hI
      obtain ⟨hr, hcc⟩ := (show xΦrc x0 (zyEl zymx B s.heap) from hΦ)
      have z75_0 : ((0 : Nat) : Int) ≤ xE (zyEl zymx B H2) 75 0 + 2147483648 ∧ xE (zyEl zymx B H2) 75 0 + 2147483648 ≤ ((4294967295 : Nat) : Int) := xTyF hT2 75 0 0 rfl rfl rfl rfl rfl rfl
      have z75_1 : ((0 : Nat) : Int) ≤ xE (zyEl zymx B H2) 75 1 + 2147483648 ∧ xE (zyEl zymx B H2) 75 1 + 2147483648 ≤ ((4294967295 : Nat) : Int) := xTyF hT2 75 1 0 rfl rfl rfl rfl rfl rfl
      refine xGo hIH hAt hB hv hFr ⟨1, by decide⟩ [0, 34359738369, 0] [0, (v2 1), 0, xE (zyEl zymx B H2) 75 0, xE (zyEl zymx B H2) 75 1] rfl ⟨by decide +kernel, ⟨rfl, by decide +kernel⟩, (xcs_c rfl (xcs_c rfl (xcs_c rfl xcs_n))), (xe_0 (xe_f (by omega) (xe_0 (xe_c (by omega) (by omega) rfl (xe_c (by omega) (by omega) rfl xe_n))))), (xkq_c hT2 75 0 (q := 0) rfl rfl rfl rfl rfl rfl rfl rfl rfl rfl rfl (xkq_c hT2 75 1 (q := 0) rfl rfl rfl rfl rfl rfl rfl rfl rfl rfl rfl xkq_n))⟩ xst_n ?_ ?_
      · show (zyEl zymx B H2) = (zyEl zymx B s.heap) ∧ ((v2 1) : Int) = x0 0
        exact ⟨(xFr_n hfr).trans hE, by omega⟩
      · show 2 < 3
        omega
    · have hx : x ∈ [zxffs_ax0] := hx
      have hag : ∀ k, k < 5 → v2 k = v k := hag
      have hfr : xFr [(74, 2, 3)] _ _ := hfr
      have ex := List.mem_singleton.mp hx
      subst ex
      obtain ⟨hF, hBd, hM⟩ := hXs
      have g1 : v2 1 = v 1 := hag 1 (by decide)
      have g3 : v2 3 = v 3 := hag 3 (by decide)
      have g4 : v2 4 = v 4 := hag 4 (by decide)
      have b0 : ((2147483648 : Nat) : Int) ≤ (v2 1) + 2147483648 ∧ (v2 1) + 2147483648 ≤ ((2147483727 : Nat) : Int) := xXb hBd 0 rfl
      have b1 : ((2147483649 : Nat) : Int) ≤ (v2 3) + 2147483648 ∧ (v2 3) + 2147483648 ≤ ((2147483652 : Nat) : Int) := xXb hBd 1 rfl
      have b2 : ((2147483649 : Nat) : Int) ≤ (v2 4) + 2147483648 ∧ (v2 4) + 2147483648 ≤ ((2147483653 : Nat) : Int) := xXb hBd 2 rfl
      have b3 : ((2147483652 : Nat) : Int) ≤ (v2 5) + 2147483648 ∧ (v2 5) + 2147483648 ≤ ((2147483664 : Nat) : Int) := xXb hBd 3 rfl
      have b4 : ((2147483652 : Nat) : Int) ≤ (v2 6) + 2147483648 ∧ (v2 6) + 2147483648 ≤ ((2147483728 : Nat) : Int) := xXb hBd 4 rfl
      have k0 : xE (zyEl zymx B H) 75 0 = v 3 := xKcf hKc 0 rfl rfl
      have k1 : xE (zyEl zymx B H) 75 1 = v 4 := xKcf hKc 1 rfl rfl
      have f0 : -2147483648 ≤ 4 * (v2 3) → 4 * (v2 3) < 2147483648 → (v2 5) = 4 * (v2 3) := xXf hF 0 rfl
      have f0 := f0 (by omega) (by omega)
      have f1 : -2147483648 ≤ (v2 5) * (v2 4) → (v2 5) * (v2 4) < 2147483648 → (v2 6) = (v2 5) * (v2 4) := xXf hF 1 rfl
      have f2 : 0 ≤ (v2 1) := xXf hF 2 rfl
      have f3 : (v2 1) ≤ (v2 6 + (-1)) := xXf hF 3 rfl
      have e75_0 : xE (zyEl zymx B H2) 75 0 = xE (zyEl zymx B H) 75 0 := xFr_E hfr rfl
      have q75_0 : xE (zyEl zymx B H) 75 0 = xE (zyEl zymx B s.heap) 75 0 := xFr_E hFr0 rfl
      have e75_1 : xE (zyEl zymx B H2) 75 1 = xE (zyEl zymx B H) 75 1 := xFr_E hfr rfl
      have q75_1 : xE (zyEl zymx B H) 75 1 = xE (zyEl zymx B s.heap) 75 1 := xFr_E hFr0 rfl
      have e75 : ∀ i, xE (zyEl zymx B H2) 75 i = xE (zyEl zymx B H) 75 i := fun i => xFr_E hfr rfl
      have q75 : ∀ i, xE (zyEl zymx B H) 75 i = xE (zyEl zymx B s.heap) 75 i := fun i => xFr_E hFr0 rfl
      have hI : (zyEl zymx B H) = (zyEl zymx B s.heap) ∧ (v 1) = x0 0 := hInv
      obtain ⟨hE, i1⟩ := hI
      obtain ⟨hr, hcc⟩ := (show xΦrc x0 (zyEl zymx B s.heap) from hΦ)
      have h750 := q75 0
      have h751 := q75 1
      obtain ⟨w1, w2, w3⟩ := sN_of (r := xE (zyEl zymx B s.heap) 75 0) (c := (v2 4)) (A := (v2 5)) (by omega) (by omega) (by omega) f1
      rw [show (v2 4) = xE (zyEl zymx B s.heap) 75 1 by omega] at w1
      have hcc2 : xE (zyEl zymx B H2) 75 = xE (zyEl zymx B s.heap) 75 := funext fun k => (e75 k).trans (q75 k)
      refine xCa hRu hIH hAt hB hv hFr (hffa B) (ix := 145) (ax := 3248) rfl rfl rfl hmeffa ⟨_, rfl, rfl, by decide⟩ ⟨rfl, rfl, rfl⟩ (by decide) [34359738369] [] [(v2 1)] rfl ⟨rfl, rfl⟩ (by decide +kernel) (xcs_c rfl xcs_n) (by decide +kernel) ?_ (fun H3 r hT3 hf3 hFr3 hr3 hΨ3 => ?_)
      · show xΦfa (xfv [(v2 1)]) (zyEl zymx B H2)
        unfold xΦfa
        rw [hcc2]
        exact ⟨hr, hcc, by show 0 ≤ (v2 1); omega, by show (v2 1) < _; omega⟩
      · have hΨ3 : xΨfa (xfv [(v2 1)]) (zyEl zymx B H2) (zyEl zymx B H3) r := hΨ3
        have d75_0 : xE (zyEl zymx B H3) 75 0 = xE (zyEl zymx B H2) 75 0 := xFr_E hf3 rfl
        have d75_1 : xE (zyEl zymx B H3) 75 1 = xE (zyEl zymx B H2) 75 1 := xFr_E hf3 rfl
        have d75 : ∀ i, xE (zyEl zymx B H3) 75 i = xE (zyEl zymx B H2) 75 i := fun i => xFr_E hf3 rfl
        have hrr : r = pF (xE (zyEl zymx B H2) 75 0) (xE (zyEl zymx B H2) 75 1) (v2 1) := hΨ3
        rw [hcc2, show (v2 1) = x0 0 by omega] at hrr
        refine ⟨⟨2, by decide⟩, [0, 0, 0], [0, 0, 0, r], rfl, ⟨by decide +kernel, ⟨rfl, by decide +kernel⟩, (xcs_c rfl (xcs_c rfl (xcs_c rfl xcs_n))), (xe_0 (xe_0 (xe_0 (xe_f (by omega) xe_n)))), xkq_n⟩, (by rw [if_pos rfl]; exact ⟨3, [], rfl, by decide, rfl, xst_n⟩), ?_, ?_⟩
        · show 0 ≤ x0 0 ∧ x0 0 < sN (xE (zyEl zymx B s.heap) 75 0) (xE (zyEl zymx B s.heap) 75 1) ∧ (r : Int) = pF (xE (zyEl zymx B s.heap) 75 0) (xE (zyEl zymx B s.heap) 75 1) (x0 0)
          exact ⟨by omega, by omega, hrr⟩
        · show 1 < 2
          omega
    · cases hx
  · intro x0 E0 E E2 hrx hT0 hΦ i v hT hrv hInv hKc hFr0 x hx v2 hr2 hXs hag hfr hFr hT2
    rcases i with ⟨i, hi⟩
    have hi2 : i = 0 ∨ i = 1 ∨ i = 2 := by omega
    rcases hi2 with rfl | rfl | rfl
    · cases hx
    · have hx : x ∈ [zxffs_ar0, zxffs_ar1] := hx
      have hag : ∀ k, k < 5 → v2 k = v k := hag
      have hfr : xFr [(74, 2, 3)] _ _ := hfr
      rcases List.mem_cons.mp hx with ex | hx
      · subst ex
        obtain ⟨hF, hBd, hM⟩ := hXs
        have g1 : v2 1 = v 1 := hag 1 (by decide)
        have g3 : v2 3 = v 3 := hag 3 (by decide)
        have g4 : v2 4 = v 4 := hag 4 (by decide)
        have b0 : ((0 : Nat) : Int) ≤ (v2 1) + 2147483648 ∧ (v2 1) + 2147483648 ≤ ((2147483647 : Nat) : Int) := xXb hBd 0 rfl
        have b1 : ((2147483649 : Nat) : Int) ≤ (v2 3) + 2147483648 ∧ (v2 3) + 2147483648 ≤ ((2147483652 : Nat) : Int) := xXb hBd 1 rfl
        have b2 : ((2147483649 : Nat) : Int) ≤ (v2 4) + 2147483648 ∧ (v2 4) + 2147483648 ≤ ((2147483653 : Nat) : Int) := xXb hBd 2 rfl
        have b3 : ((2147483652 : Nat) : Int) ≤ (v2 5) + 2147483648 ∧ (v2 5) + 2147483648 ≤ ((2147483664 : Nat) : Int) := xXb hBd 3 rfl
        have b4 : ((2147483652 : Nat) : Int) ≤ (v2 6) + 2147483648 ∧ (v2 6) + 2147483648 ≤ ((2147483728 : Nat) : Int) := xXb hBd 4 rfl
        have k0 : xE E 75 0 = v 3 := xKcf hKc 0 rfl rfl
        have k1 : xE E 75 1 = v 4 := xKcf hKc 1 rfl rfl
        have f0 : -2147483648 ≤ 4 * (v2 3) → 4 * (v2 3) < 2147483648 → (v2 5) = 4 * (v2 3) := xXf hF 0 rfl
        have f0 := f0 (by omega) (by omega)
        have f1 : -2147483648 ≤ (v2 5) * (v2 4) → (v2 5) * (v2 4) < 2147483648 → (v2 6) = (v2 5) * (v2 4) := xXf hF 1 rfl
        have f2 : (v2 1) < 0 := xXf hF 2 rfl
        have e75_0 : xE E2 75 0 = xE E 75 0 := xFr_E hfr rfl
        have q75_0 : xE E 75 0 = xE E0 75 0 := xFr_E hFr0 rfl
        have e75_1 : xE E2 75 1 = xE E 75 1 := xFr_E hfr rfl
        have q75_1 : xE E 75 1 = xE E0 75 1 := xFr_E hFr0 rfl
        have e75 : ∀ i, xE E2 75 i = xE E 75 i := fun i => xFr_E hfr rfl
        have q75 : ∀ i, xE E 75 i = xE E0 75 i := fun i => xFr_E hFr0 rfl
        have hI : E = E0 ∧ (v 1) = x0 0 := hInv
        show xΨfs x0 E0 E2 (-1)
        obtain ⟨hE, i1⟩ := hI
        obtain ⟨hr, hcc⟩ := (show xΦrc x0 E0 from hΦ)
        have h750 := q75 0
        have h751 := q75 1
        obtain ⟨w1, w2, w3⟩ := sN_of (r := xE E0 75 0) (c := (v2 4)) (A := (v2 5)) (by omega) (by omega) (by omega) f1
        rw [show (v2 4) = xE E0 75 1 by omega] at w1
        unfold xΨfs aFac
        rw [if_neg]
        rintro ⟨y1, y2, y3⟩
        omega
      · skip
        have ex := List.mem_singleton.mp hx
        subst ex
        obtain ⟨hF, hBd, hM⟩ := hXs
        have g1 : v2 1 = v 1 := hag 1 (by decide)
        have g3 : v2 3 = v 3 := hag 3 (by decide)
        have g4 : v2 4 = v 4 := hag 4 (by decide)
        have b0 : ((2147483652 : Nat) : Int) ≤ (v2 1) + 2147483648 ∧ (v2 1) + 2147483648 ≤ ((4294967295 : Nat) : Int) := xXb hBd 0 rfl
        have b1 : ((2147483649 : Nat) : Int) ≤ (v2 3) + 2147483648 ∧ (v2 3) + 2147483648 ≤ ((2147483652 : Nat) : Int) := xXb hBd 1 rfl
        have b2 : ((2147483649 : Nat) : Int) ≤ (v2 4) + 2147483648 ∧ (v2 4) + 2147483648 ≤ ((2147483653 : Nat) : Int) := xXb hBd 2 rfl
        have b3 : ((2147483652 : Nat) : Int) ≤ (v2 5) + 2147483648 ∧ (v2 5) + 2147483648 ≤ ((2147483664 : Nat) : Int) := xXb hBd 3 rfl
        have b4 : ((2147483652 : Nat) : Int) ≤ (v2 6) + 2147483648 ∧ (v2 6) + 2147483648 ≤ ((2147483728 : Nat) : Int) := xXb hBd 4 rfl
        have k0 : xE E 75 0 = v 3 := xKcf hKc 0 rfl rfl
        have k1 : xE E 75 1 = v 4 := xKcf hKc 1 rfl rfl
        have f0 : -2147483648 ≤ 4 * (v2 3) → 4 * (v2 3) < 2147483648 → (v2 5) = 4 * (v2 3) := xXf hF 0 rfl
        have f0 := f0 (by omega) (by omega)
        have f1 : -2147483648 ≤ (v2 5) * (v2 4) → (v2 5) * (v2 4) < 2147483648 → (v2 6) = (v2 5) * (v2 4) := xXf hF 1 rfl
        have f2 : 0 ≤ (v2 1) := xXf hF 2 rfl
        have f3 : (v2 6 + (-1)) < (v2 1) := xXf hF 3 rfl
        have e75_0 : xE E2 75 0 = xE E 75 0 := xFr_E hfr rfl
        have q75_0 : xE E 75 0 = xE E0 75 0 := xFr_E hFr0 rfl
        have e75_1 : xE E2 75 1 = xE E 75 1 := xFr_E hfr rfl
        have q75_1 : xE E 75 1 = xE E0 75 1 := xFr_E hFr0 rfl
        have e75 : ∀ i, xE E2 75 i = xE E 75 i := fun i => xFr_E hfr rfl
        have q75 : ∀ i, xE E 75 i = xE E0 75 i := fun i => xFr_E hFr0 rfl
        have hI : E = E0 ∧ (v 1) = x0 0 := hInv
        show xΨfs x0 E0 E2 (-1)
        obtain ⟨hE, i1⟩ := hI
        obtain ⟨hr, hcc⟩ := (show xΦrc x0 E0 from hΦ)
        have h750 := q75 0
        have h751 := q75 1
        obtain ⟨w1, w2, w3⟩ := sN_of (r := xE E0 75 0) (c := (v2 4)) (A := (v2 5)) (by omega) (by omega) (by omega) f1
        rw [show (v2 4) = xE E0 75 1 by omega] at w1
        unfold xΨfs aFac
        rw [if_neg]
        rintro ⟨y1, y2, y3⟩
        omega
    · have hx : x ∈ [zxffs_br0, zxffs_br1] := hx
      have hag : ∀ k, k < 4 → v2 k = v k := hag
      have hfr : xFr [(74, 2, 3)] _ _ := hfr
      rcases List.mem_cons.mp hx with ex | hx
      · subst ex
        obtain ⟨hF, hBd, hM⟩ := hXs
        have g3 : v2 3 = v 3 := hag 3 (by decide)
        have b0 : ((0 : Nat) : Int) ≤ (v2 3) + 2147483648 ∧ (v2 3) + 2147483648 ≤ ((2147483647 : Nat) : Int) := xXb hBd 0 rfl
        have f0 : (v2 3) < 0 := xXf hF 0 rfl
        have e75_0 : xE E2 75 0 = xE E 75 0 := xFr_E hfr rfl
        have q75_0 : xE E 75 0 = xE E0 75 0 := xFr_E hFr0 rfl
        have e75_1 : xE E2 75 1 = xE E 75 1 := xFr_E hfr rfl
        have q75_1 : xE E 75 1 = xE E0 75 1 := xFr_E hFr0 rfl
        have e75 : ∀ i, xE E2 75 i = xE E 75 i := fun i => xFr_E hfr rfl
        have q75 : ∀ i, xE E 75 i = xE E0 75 i := fun i => xFr_E hFr0 rfl
        have hI : 0 ≤ x0 0 ∧ x0 0 < sN (xE E0 75 0) (xE E0 75 1) ∧ (v 3) = pF (xE E0 75 0) (xE E0 75 1) (x0 0) := hInv
        show xΨfs x0 E0 E2 (-1)
        obtain ⟨i1, i2, i3⟩ := hI
        unfold xΨfs aFac
        rw [if_neg (by omega)]
      · skip
        have ex := List.mem_singleton.mp hx
        subst ex
        obtain ⟨hF, hBd, hM⟩ := hXs
        have g3 : v2 3 = v 3 := hag 3 (by decide)
        have b0 : ((2147483648 : Nat) : Int) ≤ (v2 3) + 2147483648 ∧ (v2 3) + 2147483648 ≤ ((4294967295 : Nat) : Int) := xXb hBd 0 rfl
        have f0 : 0 ≤ (v2 3) := xXf hF 0 rfl
        have e75_0 : xE E2 75 0 = xE E 75 0 := xFr_E hfr rfl
        have q75_0 : xE E 75 0 = xE E0 75 0 := xFr_E hFr0 rfl
        have e75_1 : xE E2 75 1 = xE E 75 1 := xFr_E hfr rfl
        have q75_1 : xE E 75 1 = xE E0 75 1 := xFr_E hFr0 rfl
        have e75 : ∀ i, xE E2 75 i = xE E 75 i := fun i => xFr_E hfr rfl
        have q75 : ∀ i, xE E 75 i = xE E0 75 i := fun i => xFr_E hFr0 rfl
        have hI : 0 ≤ x0 0 ∧ x0 0 < sN (xE E0 75 0) (xE E0 75 1) ∧ (v 3) = pF (xE E0 75 0) (xE E0 75 1) (x0 0) := hInv
        show xΨfs x0 E0 E2 (v2 3)
        obtain ⟨i1, i2, i3⟩ := hI
        unfold xΨfs aFac
        rw [if_pos (by omega)]
        omega
