/-! braid; feed -/
def zyFbd (E E2 : zyEm) : Prop := ∀ a k, ¬ (a = 74 ∧ ((2 ≤ k ∧ k ≤ 3) ∨ (19 ≤ k ∧ k ≤ 21))) → ¬ (81 ≤ a ∧ a ≤ 83) → E2 a k = E a k
def zyΨbd (_ : List Int32) (E E2 : zyEm) (vo : Option Value) : Prop := zyFbd E E2 ∧ ∃ z : Int32, vo = some (.int z)
theorem zJ1_bd {E E2 : zyEm} (h : zyFbd E E2) (hJ : zJ1 E) : zJ1 E2 := zJ1_fr (fun k _ => h 75 k (by omega) (by omega)) hJ
theorem zybrd_run : zyAllP (fun r c => zyrS (zymr r c) zxi253 (253, 0, 0, 1, 0) 9 zpbrd (fun _ => zydeps (zyir r c) [19]) zFbrd zSbrd zXbrd zRbrd 9) = true := by decide +kernel
theorem zybraid_H {l : Launch} {r c : Nat} (h1 : 1 ≤ r) (h2 : r ≤ 4) (h3 : 1 ≤ c) (h4 : c ≤ 5) {en : zEn} {me : zMe} (hen : zG zxMeta 253 = some en) (hme : zG zMeth 253 = some me) : zyHc l (zymr r c) en me 9 1 zyΦj zyΨbd := by
  have een : zG zxMeta 253 = some (zxi253, 2, 3, 11, 253, 0, 0, 1, 0) := rfl
  obtain ⟨me1, hme1, hOK⟩ := zall hen
  rw [hme] at hme1
  cases hme1
  rw [een] at hen
  cases hen
  have hr := zyAllP_iff zybrd_run h1 h2 h3 h4
  obtain ⟨meso, hmeso, -⟩ := zall (show zG zxMeta 246 = some (zxi246, 3, 3, 11, 246, 0, 0, 2, 0) from rfl)
  have hso := zyisItselfSo (l := l) h1 h2 h3 h4 (show zG zxMeta 246 = some (zxi246, 3, 3, 11, 246, 0, 0, 2, 0) from rfl) hmeso
  obtain ⟨mege, hmege, -⟩ := zall (show zG zxMeta 247 = some (zxi247, 1, 1, 11, 247, 0, 0, 2, 0) from rfl)
  have hge := zygoEitherWay (l := l) h1 h2 h3 h4 (show zG zxMeta 247 = some (zxi247, 1, 1, 11, 247, 0, 0, 2, 0) from rfl) hmege
  obtain ⟨mewa, hmewa, -⟩ := zall (show zG zxMeta 245 = some (zxi245, 2, 3, 11, 245, 0, 0, 2, 0) from rfl)
  have hwa := zyisWishedAgain (l := l) h1 h2 h3 h4 (show zG zxMeta 245 = some (zxi245, 2, 3, 11, 245, 0, 0, 2, 0) from rfl) hmewa
  obtain ⟨melp, hmelp, -⟩ := zall (show zG zxMeta 251 = some (zxi251, 1, 5, 11, 251, 0, 0, 1, 0) from rfl)
  have hlp := zyloops (l := l) h1 h2 h3 h4 (show zG zxMeta 251 = some (zxi251, 1, 5, 11, 251, 0, 0, 1, 0) from rfl) hmelp
  obtain ⟨mebb, hmebb, -⟩ := zall (show zG zxMeta 238 = some (zxi238, 1, 1, 11, 238, 0, 0, 0, 0) from rfl)
  have hbb := zybeginsBraid (l := l) h1 h2 h3 h4 (show zG zxMeta 238 = some (zxi238, 1, 1, 11, 238, 0, 0, 0, 0) from rfl) hmebb
  obtain ⟨mejw, hmejw, -⟩ := zall (show zG zxMeta 240 = some (zxi240, 3, 5, 11, 240, 0, 0, 0, 0) from rfl)
  have hjw := zyjoinsWord (l := l) h1 h2 h3 h4 (show zG zxMeta 240 = some (zxi240, 3, 5, 11, 240, 0, 0, 0, 0) from rfl) hmejw
  obtain ⟨menb, hmenb, -⟩ := zall (show zG zxMeta 239 = some (zxi239, 1, 1, 11, 239, 0, 0, 2, 0) from rfl)
  have hnb := zyisNoBraid (l := l) h1 h2 h3 h4 (show zG zxMeta 239 = some (zxi239, 1, 1, 11, 239, 0, 0, 2, 0) from rfl) hmenb
  have hCon : ∀ i : Fin 9, zyCons l (zymr r c, zydeps (zyir r c) [19], zFbrd i.val, [], zSbrd i.val) zyJ0 := fun _ => zyrefD (deps := [19]) zyJ0_r h1 h2 h3 h4 rfl
  refine zycutS (mi := zymr r c) hOK rfl rfl ⟨_, rfl, rfl⟩ (ι := Fin 9) (fun i => zpbrd i.val) (fun _ => zydeps (zyir r c) [19]) (fun i => zFbrd i.val) (fun i => zSbrd i.val) (fun i => zXbrd i.val) (fun i => zRbrd i.val) hCon 200000 (fun i => zyAll_iff hr i.val i.isLt) ⟨0, by decide⟩ ⟨rfl, rfl, rfl, rfl⟩ ⟨by decide, by decide⟩
    (fun i as E0 ρ E => zJ1 E0 ∧ zyFbd E0 E ∧ (i.val = 2 ∨ i.val = 3 → ∃ n m : Nat, m ≤ 8 ∧ E0 75 2 = some (.int (Int32.ofNat m)) ∧ n ≤ 300 ∧ zBs E n m ∧ (i.val = 2 → n = 0))) (fun i as E0 ρ E => 10 - i.val) ?_ ?_ ?_
  · intro as E hlen hT hΦ
    exact ⟨zEnv_c (zyfull _) (zEnv_c (zyfull _) (zEnv_c (zyfull _) zEnv_nil)), hΦ, fun _ _ _ _ => rfl, fun h => absurd (show 0 = 2 ∨ 0 = 3 from h) (by decide)⟩
  · intro as B s Wg hRu hT0 hΦ hlen i ρ H hT hInv hIH x hx ρ2 N2 H2 locs lsB stA hAt hXs hag hfr hT2
    rcases i with ⟨i, hi⟩
    have hi2 : i = 0 ∨ i = 1 ∨ i = 2 ∨ i = 3 ∨ i = 4 ∨ i = 5 ∨ i = 6 ∨ i = 7 ∨ i = 8 := by omega
    rcases hi2 with rfl | rfl | rfl | rfl | rfl | rfl | rfl | rfl | rfl
    · have hx : x ∈ [zxbrd_ax0, zxbrd_ax1, zxbrd_ax2, zxbrd_ax3, zxbrd_ax4, zxbrd_ax5] := hx
      have hg : ∀ k, k < 3 → ρ2 k = ρ k := hag
      have hI := hInv
      have hI : zJ1 (zyEl (zymr r c) B s.heap) ∧ zyFbd (zyEl (zymr r c) B s.heap) (zyEl (zymr r c) B H) ∧ (0 = 2 ∨ 0 = 3 → ∃ n m : Nat, m ≤ 8 ∧ (zyEl (zymr r c) B s.heap) 75 2 = some (.int (Int32.ofNat m)) ∧ n ≤ 300 ∧ zBs (zyEl (zymr r c) B H) n m ∧ (0 = 2 → n = 0)) := hI
      obtain ⟨hF, hB, hM⟩ := hXs
      have hfr : ∀ a k, zyin [(74, 2, 3)] a k = false → (zyEl (zymr r c) B H2) a k = (zyEl (zymr r c) B H) a k := hfr
      rcases List.mem_cons.mp hx with ex | hx
      · subst ex
        obtain ⟨hJ, i1, i2⟩ := hI
        have hk : ∀ a k, ¬ (a = 74 ∧ 2 ≤ k ∧ k ≤ 3) → (zyEl (zymr r c) B H2) a k = (zyEl (zymr r c) B H) a k := by
          intro a k n0
          apply hfr
          cases hq : zyin [(74, 2, 3)] a k with
          | false => rfl
          | true =>
            obtain ⟨p0, g1, g2, g3, g4⟩ := zyin_iff.mp hq
            simp only [List.mem_cons, List.not_mem_nil, or_false] at g1
            rcases g1 with rfl
            · exact absurd ⟨g2.symm, g3, g4⟩ n0
        have k2 : zyFbd (zyEl (zymr r c) B s.heap) (zyEl (zymr r c) B H2) := fun a k n1 n2 => (hk a k (fun z => n1 ⟨z.1, by omega⟩)).trans (i1 a k n1 n2)
        obtain ⟨m, hm, s1⟩ := zc_m hT0
        have hJ2 := zJ1_bd k2 hJ
        have e2 := (k2 75 2 (by omega) (by omega)).trans s1
        obtain ⟨j1, j2, -⟩ := hJ2 m hm e2
        refine zyCa1 hRu hIH hAt hB hso (ix := 289) (ax := 3936) rfl rfl rfl hmeso ⟨rfl, rfl, rfl, rfl⟩ (by decide) [8, 0] rfl (by decide) rfl ⟨7, by decide⟩ [595, 0, 0] [(0, 4294967295), (0, 4294967295), (0, 4294967295)] 2147483648 2147483649 rfl (by decide) rfl rfl rfl rfl rfl ?_ ?_
        · show zyΦbr _ _
          exact ⟨m, hm, e2, j1, j2⟩
        · intro E3 vo hT3 hΨ
          obtain ⟨p1, z, ez, hz⟩ := (show zyΨbr _ _ E3 vo from hΨ)
          refine ⟨z, ez, ?_, ?_, ⟨hJ, fun a k n1 n2 => (p1 a k (by omega) (by omega) (by omega)).trans (k2 a k n1 n2), fun h => absurd (show 7 = 2 ∨ 7 = 3 from h) (by decide)⟩, (show 10 - 7 < 10 - 0 by decide)⟩
          · rcases hz with rfl | rfl <;> decide
          · rcases hz with rfl | rfl <;> decide
      · skip
        rcases List.mem_cons.mp hx with ex | hx
        · subst ex
          obtain ⟨hJ, i1, i2⟩ := hI
          have hk : ∀ a k, ¬ (a = 74 ∧ 2 ≤ k ∧ k ≤ 3) → (zyEl (zymr r c) B H2) a k = (zyEl (zymr r c) B H) a k := by
            intro a k n0
            apply hfr
            cases hq : zyin [(74, 2, 3)] a k with
            | false => rfl
            | true =>
              obtain ⟨p0, g1, g2, g3, g4⟩ := zyin_iff.mp hq
              simp only [List.mem_cons, List.not_mem_nil, or_false] at g1
              rcases g1 with rfl
              · exact absurd ⟨g2.symm, g3, g4⟩ n0
          have k2 : zyFbd (zyEl (zymr r c) B s.heap) (zyEl (zymr r c) B H2) := fun a k n1 n2 => (hk a k (fun z => n1 ⟨z.1, by omega⟩)).trans (i1 a k n1 n2)
          obtain ⟨m, hm, s1⟩ := zc_m hT0
          have hJ2 := zJ1_bd k2 hJ
          have e2 := (k2 75 2 (by omega) (by omega)).trans s1
          obtain ⟨j1, j2, -⟩ := hJ2 m hm e2
          refine zyCa1 hRu hIH hAt hB hso (ix := 289) (ax := 3936) rfl rfl rfl hmeso ⟨rfl, rfl, rfl, rfl⟩ (by decide) [0, 8] rfl (by decide) rfl ⟨6, by decide⟩ [595, 0, 0] [(0, 4294967295), (0, 4294967295), (0, 4294967295)] 2147483648 2147483649 rfl (by decide) rfl rfl rfl rfl rfl ?_ ?_
          · show zyΦbr _ _
            exact ⟨m, hm, e2, j1, j2⟩
          · intro E3 vo hT3 hΨ
            obtain ⟨p1, z, ez, hz⟩ := (show zyΨbr _ _ E3 vo from hΨ)
            refine ⟨z, ez, ?_, ?_, ⟨hJ, fun a k n1 n2 => (p1 a k (by omega) (by omega) (by omega)).trans (k2 a k n1 n2), fun h => absurd (show 6 = 2 ∨ 6 = 3 from h) (by decide)⟩, (show 10 - 6 < 10 - 0 by decide)⟩
            · rcases hz with rfl | rfl <;> decide
            · rcases hz with rfl | rfl <;> decide
        · skip
          rcases List.mem_cons.mp hx with ex | hx
          · subst ex
            obtain ⟨hJ, i1, i2⟩ := hI
            have hk : ∀ a k, ¬ (a = 74 ∧ 2 ≤ k ∧ k ≤ 3) → (zyEl (zymr r c) B H2) a k = (zyEl (zymr r c) B H) a k := by
              intro a k n0
              apply hfr
              cases hq : zyin [(74, 2, 3)] a k with
              | false => rfl
              | true =>
                obtain ⟨p0, g1, g2, g3, g4⟩ := zyin_iff.mp hq
                simp only [List.mem_cons, List.not_mem_nil, or_false] at g1
                rcases g1 with rfl
                · exact absurd ⟨g2.symm, g3, g4⟩ n0
            have k2 : zyFbd (zyEl (zymr r c) B s.heap) (zyEl (zymr r c) B H2) := fun a k n1 n2 => (hk a k (fun z => n1 ⟨z.1, by omega⟩)).trans (i1 a k n1 n2)
            obtain ⟨m, hm, s1⟩ := zc_m hT0
            have hJ2 := zJ1_bd k2 hJ
            have e2 := (k2 75 2 (by omega) (by omega)).trans s1
            obtain ⟨j1, j2, -⟩ := hJ2 m hm e2
            refine zyCa1 hRu hIH hAt hB hge (ix := 293) (ax := 3952) rfl rfl rfl hmege ⟨rfl, rfl, rfl, rfl⟩ (by decide) [] rfl (by decide) rfl ⟨8, by decide⟩ [595, 0, 0] [(0, 4294967295), (0, 4294967295), (0, 4294967295)] 2147483648 2147483649 rfl (by decide) rfl rfl rfl rfl rfl ?_ ?_
            · show zyΦbr _ _
              exact ⟨m, hm, e2, j1, j2⟩
            · intro E3 vo hT3 hΨ
              obtain ⟨p1, z, ez, hz⟩ := (show zyΨbr _ _ E3 vo from hΨ)
              refine ⟨z, ez, ?_, ?_, ⟨hJ, fun a k n1 n2 => (p1 a k (by omega) (by omega) (by omega)).trans (k2 a k n1 n2), fun h => absurd (show 8 = 2 ∨ 8 = 3 from h) (by decide)⟩, (show 10 - 8 < 10 - 0 by decide)⟩
              · rcases hz with rfl | rfl <;> decide
              · rcases hz with rfl | rfl <;> decide
          · skip
            rcases List.mem_cons.mp hx with ex | hx
            · subst ex
              obtain ⟨hJ, i1, i2⟩ := hI
              have hk : ∀ a k, ¬ (a = 74 ∧ 2 ≤ k ∧ k ≤ 3) → (zyEl (zymr r c) B H2) a k = (zyEl (zymr r c) B H) a k := by
                intro a k n0
                apply hfr
                cases hq : zyin [(74, 2, 3)] a k with
                | false => rfl
                | true =>
                  obtain ⟨p0, g1, g2, g3, g4⟩ := zyin_iff.mp hq
                  simp only [List.mem_cons, List.not_mem_nil, or_false] at g1
                  rcases g1 with rfl
                  · exact absurd ⟨g2.symm, g3, g4⟩ n0
              have k2 : zyFbd (zyEl (zymr r c) B s.heap) (zyEl (zymr r c) B H2) := fun a k n1 n2 => (hk a k (fun z => n1 ⟨z.1, by omega⟩)).trans (i1 a k n1 n2)
              obtain ⟨m, hm, s1⟩ := zc_m hT0
              have hJ2 := zJ1_bd k2 hJ
              have e2 := (k2 75 2 (by omega) (by omega)).trans s1
              obtain ⟨j1, j2, -⟩ := hJ2 m hm e2
              refine zyCa1 hRu hIH hAt hB hlp (ix := 283) (ax := 4016) rfl rfl rfl hmelp ⟨rfl, rfl, rfl, rfl⟩ (by decide) [] rfl (by decide) rfl ⟨1, by decide⟩ [595, 0, 0] [(0, 4294967295), (0, 4294967295), (0, 4294967295)] 0 4294967295 rfl (by decide) rfl rfl rfl rfl rfl ?_ ?_
              · show zyΦloo _ _
                exact ⟨m, hm, e2, j1⟩
              · intro E3 vo hT3 hΨ
                obtain ⟨p1, z, ez⟩ := (show zyΨloo _ _ E3 vo from hΨ)
                exact ⟨z, ez, Nat.zero_le _, by have := zB_lt z; omega, ⟨hJ, fun a k n1 n2 => (p1 a k (by omega)).trans (k2 a k n1 n2), fun h => absurd (show 1 = 2 ∨ 1 = 3 from h) (by decide)⟩, (show 10 - 1 < 10 - 0 by decide)⟩
            · skip
              rcases List.mem_cons.mp hx with ex | hx
              · subst ex
                obtain ⟨hJ, i1, i2⟩ := hI
                have hk : ∀ a k, ¬ (a = 74 ∧ 2 ≤ k ∧ k ≤ 3) → (zyEl (zymr r c) B H2) a k = (zyEl (zymr r c) B H) a k := by
                  intro a k n0
                  apply hfr
                  cases hq : zyin [(74, 2, 3)] a k with
                  | false => rfl
                  | true =>
                    obtain ⟨p0, g1, g2, g3, g4⟩ := zyin_iff.mp hq
                    simp only [List.mem_cons, List.not_mem_nil, or_false] at g1
                    rcases g1 with rfl
                    · exact absurd ⟨g2.symm, g3, g4⟩ n0
                have k2 : zyFbd (zyEl (zymr r c) B s.heap) (zyEl (zymr r c) B H2) := fun a k n1 n2 => (hk a k (fun z => n1 ⟨z.1, by omega⟩)).trans (i1 a k n1 n2)
                obtain ⟨m, hm, s1⟩ := zc_m hT0
                have hJ2 := zJ1_bd k2 hJ
                have e2 := (k2 75 2 (by omega) (by omega)).trans s1
                obtain ⟨j1, j2, -⟩ := hJ2 m hm e2
                refine zyCa0 hRu hIH hAt hB hbb (ix := 249) (ax := 3808) rfl rfl rfl hmebb ⟨rfl, rfl, rfl, rfl⟩ (by decide) [] rfl (by decide) rfl ⟨2, by decide⟩ [595, 0, 0] rfl rfl rfl rfl trivial ?_
                intro E3 vo hT3 hΨ
                obtain ⟨ev, p1, p2⟩ := (show zyΨbb [] _ E3 vo from hΨ)
                exact ⟨ev, ⟨hJ, fun a k n1 n2 => (p1 a k (by omega) (by omega) (by omega)).trans (k2 a k n1 n2), fun _ => ⟨0, m, hm, s1, Nat.zero_le _, p2 m hm e2, fun _ => rfl⟩⟩, (show 10 - 2 < 10 - 0 by decide)⟩
              · skip
                have ex := List.mem_singleton.mp hx
                subst ex
                obtain ⟨hJ, i1, i2⟩ := hI
                have hk : ∀ a k, ¬ (a = 74 ∧ 2 ≤ k ∧ k ≤ 3) → (zyEl (zymr r c) B H2) a k = (zyEl (zymr r c) B H) a k := by
                  intro a k n0
                  apply hfr
                  cases hq : zyin [(74, 2, 3)] a k with
                  | false => rfl
                  | true =>
                    obtain ⟨p0, g1, g2, g3, g4⟩ := zyin_iff.mp hq
                    simp only [List.mem_cons, List.not_mem_nil, or_false] at g1
                    rcases g1 with rfl
                    · exact absurd ⟨g2.symm, g3, g4⟩ n0
                have k2 : zyFbd (zyEl (zymr r c) B s.heap) (zyEl (zymr r c) B H2) := fun a k n1 n2 => (hk a k (fun z => n1 ⟨z.1, by omega⟩)).trans (i1 a k n1 n2)
                obtain ⟨m, hm, s1⟩ := zc_m hT0
                have hJ2 := zJ1_bd k2 hJ
                have e2 := (k2 75 2 (by omega) (by omega)).trans s1
                obtain ⟨j1, j2, -⟩ := hJ2 m hm e2
                refine zyCa1 hRu hIH hAt hB hwa (ix := 286) (ax := 3920) rfl rfl rfl hmewa ⟨rfl, rfl, rfl, rfl⟩ (by decide) [8] rfl (by decide) rfl ⟨5, by decide⟩ [595, 0, 0] [(0, 4294967295), (0, 4294967295), (0, 4294967295)] 2147483648 2147483649 rfl (by decide) rfl rfl rfl rfl rfl ?_ ?_
                · show zyΦwa _ _
                  exact ⟨⟨m, hm, e2, j1, j2⟩, Int32.ofNat 1, rfl, by decide⟩
                · intro E3 vo hT3 hΨ
                  obtain ⟨p1, z, ez, hz⟩ := (show zyΨbr _ _ E3 vo from hΨ)
                  refine ⟨z, ez, ?_, ?_, ⟨hJ, fun a k n1 n2 => (p1 a k (by omega) (by omega) (by omega)).trans (k2 a k n1 n2), fun h => absurd (show 5 = 2 ∨ 5 = 3 from h) (by decide)⟩, (show 10 - 5 < 10 - 0 by decide)⟩
                  · rcases hz with rfl | rfl <;> decide
                  · rcases hz with rfl | rfl <;> decide
    · cases hx
    · have hx : x ∈ [zxbrd_cx0] := hx
      have hg : ∀ k, k < 3 → ρ2 k = ρ k := hag
      have hI := hInv
      have hI : zJ1 (zyEl (zymr r c) B s.heap) ∧ zyFbd (zyEl (zymr r c) B s.heap) (zyEl (zymr r c) B H) ∧ (2 = 2 ∨ 2 = 3 → ∃ n m : Nat, m ≤ 8 ∧ (zyEl (zymr r c) B s.heap) 75 2 = some (.int (Int32.ofNat m)) ∧ n ≤ 300 ∧ zBs (zyEl (zymr r c) B H) n m ∧ (2 = 2 → n = 0)) := hI
      obtain ⟨hF, hB, hM⟩ := hXs
      have hEE : (zyEl (zymr r c) B H2) = (zyEl (zymr r c) B H) := zyfr0 hfr
      have ex := List.mem_singleton.mp hx
      subst ex
      obtain ⟨hJ, i1, i2⟩ := hI
      obtain ⟨n, m, hm, s1, hn, hbs, h0⟩ := i2 (Or.inl rfl)
      have hn0 := h0 rfl
      subst hn0
      have hJ2 := zJ1_bd i1 hJ
      have e2 := (i1 75 2 (by omega) (by omega)).trans s1
      obtain ⟨j1, j2, -⟩ := hJ2 m hm e2
      refine zyCa0 hRu hIH hAt hB hjw (ix := 252) (ax := 3840) rfl rfl rfl hmejw ⟨rfl, rfl, rfl, rfl⟩ (by decide) [0, 0] rfl (by decide) rfl ⟨3, by decide⟩ [595, 0, 0] rfl rfl rfl rfl ?_ ?_
      · show zyΦwd 300 zLv _ _
        rw [hEE]
        exact ⟨0, m, hbs, by omega, j1⟩
      · intro E3 vo hT3 hΨ
        have hΨ : zyΨwd 300 _ _ E3 vo := hΨ
        rw [hEE] at hΨ
        obtain ⟨ev, p1, p2⟩ := hΨ
        obtain ⟨n', hn', hbs'⟩ := p2 0 m hbs (by omega)
        exact ⟨ev, ⟨hJ, fun a k n1 n2 => (p1 a k (by omega) (by omega) (by omega)).trans (i1 a k n1 n2), fun _ => ⟨n', m, hm, s1, by omega, hbs', fun h => absurd (show 3 = 2 from h) (by decide)⟩⟩, (show 10 - 3 < 10 - 2 by decide)⟩
    · have hx : x ∈ [zxbrd_dx0] := hx
      have hg : ∀ k, k < 3 → ρ2 k = ρ k := hag
      have hI := hInv
      have hI : zJ1 (zyEl (zymr r c) B s.heap) ∧ zyFbd (zyEl (zymr r c) B s.heap) (zyEl (zymr r c) B H) ∧ (3 = 2 ∨ 3 = 3 → ∃ n m : Nat, m ≤ 8 ∧ (zyEl (zymr r c) B s.heap) 75 2 = some (.int (Int32.ofNat m)) ∧ n ≤ 300 ∧ zBs (zyEl (zymr r c) B H) n m ∧ (3 = 2 → n = 0)) := hI
      obtain ⟨hF, hB, hM⟩ := hXs
      have hEE : (zyEl (zymr r c) B H2) = (zyEl (zymr r c) B H) := zyfr0 hfr
      have ex := List.mem_singleton.mp hx
      subst ex
      obtain ⟨hJ, i1, i2⟩ := hI
      refine zyCa1 hRu hIH hAt hB hnb (ix := 259) (ax := 3824) rfl rfl rfl hmenb ⟨rfl, rfl, rfl, rfl⟩ (by decide) [] rfl (by decide) rfl ⟨4, by decide⟩ [595, 0, 0] [(0, 4294967295), (0, 4294967295), (0, 4294967295)] 2147483648 2147483649 rfl (by decide) rfl rfl rfl rfl rfl trivial ?_
      intro E3 vo hT3 hΨ
      obtain ⟨e3, z, ez, hz⟩ := (show zyΨie [] _ E3 vo from hΨ)
      rw [hEE] at e3
      refine ⟨z, ez, ?_, ?_, ⟨hJ, by rw [e3]; exact i1, fun h => absurd (show 4 = 2 ∨ 4 = 3 from h) (by decide)⟩, (show 10 - 4 < 10 - 3 by decide)⟩
      · rcases hz with rfl | rfl <;> decide
      · rcases hz with rfl | rfl <;> decide
    · cases hx
    · cases hx
    · cases hx
    · cases hx
    · cases hx
  · intro as E0 E E2 hT0 hΦ hlen i ρ hT hInv x hx ρ2 N2 B vo hXs hag hfr hT2 hvo
    rcases i with ⟨i, hi⟩
    have hi2 : i = 0 ∨ i = 1 ∨ i = 2 ∨ i = 3 ∨ i = 4 ∨ i = 5 ∨ i = 6 ∨ i = 7 ∨ i = 8 := by omega
    rcases hi2 with rfl | rfl | rfl | rfl | rfl | rfl | rfl | rfl | rfl
    · have hx : x ∈ [zxbrd_ar0, zxbrd_ar1] := hx
      have hg : ∀ k, k < 3 → ρ2 k = ρ k := hag
      have hI := hInv
      have hI : zJ1 E0 ∧ zyFbd E0 E ∧ (0 = 2 ∨ 0 = 3 → ∃ n m : Nat, m ≤ 8 ∧ E0 75 2 = some (.int (Int32.ofNat m)) ∧ n ≤ 300 ∧ zBs E n m ∧ (0 = 2 → n = 0)) := hI
      obtain ⟨hF, hB, hM⟩ := hXs
      have hfr : ∀ a k, zyin [(74, 2, 3)] a k = false → E2 a k = E a k := hfr
      rcases List.mem_cons.mp hx with ex | hx
      · subst ex
        obtain ⟨hJ, i1, i2⟩ := hI
        have hk : ∀ a k, ¬ (a = 74 ∧ 2 ≤ k ∧ k ≤ 3) → E2 a k = E a k := by
          intro a k n0
          apply hfr
          cases hq : zyin [(74, 2, 3)] a k with
          | false => rfl
          | true =>
            obtain ⟨p0, g1, g2, g3, g4⟩ := zyin_iff.mp hq
            simp only [List.mem_cons, List.not_mem_nil, or_false] at g1
            rcases g1 with rfl
            · exact absurd ⟨g2.symm, g3, g4⟩ n0
        exact ⟨fun a k n1 n2 => (hk a k (fun z => n1 ⟨z.1, by omega⟩)).trans (i1 a k n1 n2), ⟨_, zyvo_1 (c := 34359738360) (by decide) (show zyvo (zyXn B ρ2 N2) [34359738360] vo from hvo)⟩⟩
      · skip
        have ex := List.mem_singleton.mp hx
        subst ex
        obtain ⟨hJ, i1, i2⟩ := hI
        have hk : ∀ a k, ¬ (a = 74 ∧ 2 ≤ k ∧ k ≤ 3) → E2 a k = E a k := by
          intro a k n0
          apply hfr
          cases hq : zyin [(74, 2, 3)] a k with
          | false => rfl
          | true =>
            obtain ⟨p0, g1, g2, g3, g4⟩ := zyin_iff.mp hq
            simp only [List.mem_cons, List.not_mem_nil, or_false] at g1
            rcases g1 with rfl
            · exact absurd ⟨g2.symm, g3, g4⟩ n0
        exact ⟨fun a k n1 n2 => (hk a k (fun z => n1 ⟨z.1, by omega⟩)).trans (i1 a k n1 n2), ⟨_, zyvo_1 (c := 103079215105) (by decide) (show zyvo (zyXn B ρ2 N2) [103079215105] vo from hvo)⟩⟩
    · have hx : x ∈ [zxbrd_br0] := hx
      have hg : ∀ k, k < 4 → ρ2 k = ρ k := hag
      have hI := hInv
      have hI : zJ1 E0 ∧ zyFbd E0 E ∧ (1 = 2 ∨ 1 = 3 → ∃ n m : Nat, m ≤ 8 ∧ E0 75 2 = some (.int (Int32.ofNat m)) ∧ n ≤ 300 ∧ zBs E n m ∧ (1 = 2 → n = 0)) := hI
      obtain ⟨hF, hB, hM⟩ := hXs
      have hEE : E2 = E := zyfr0 hfr
      have ex := List.mem_singleton.mp hx
      subst ex
      obtain ⟨hJ, i1, i2⟩ := hI
      exact ⟨fun a k n1 n2 => by rw [hEE]; exact i1 a k n1 n2, ⟨_, zyvo_1 (c := 103079215105) (by decide) (show zyvo (zyXn B ρ2 N2) [103079215105] vo from hvo)⟩⟩
    · cases hx
    · cases hx
    · have hx : x ∈ [zxbrd_er0, zxbrd_er1] := hx
      have hg : ∀ k, k < 4 → ρ2 k = ρ k := hag
      have hI := hInv
      have hI : zJ1 E0 ∧ zyFbd E0 E ∧ (4 = 2 ∨ 4 = 3 → ∃ n m : Nat, m ≤ 8 ∧ E0 75 2 = some (.int (Int32.ofNat m)) ∧ n ≤ 300 ∧ zBs E n m ∧ (4 = 2 → n = 0)) := hI
      obtain ⟨hF, hB, hM⟩ := hXs
      have hEE : E2 = E := zyfr0 hfr
      rcases List.mem_cons.mp hx with ex | hx
      · subst ex
        obtain ⟨hJ, i1, i2⟩ := hI
        exact ⟨fun a k n1 n2 => by rw [hEE]; exact i1 a k n1 n2, ⟨_, zyvo_1 (c := 8) (by decide) (show zyvo (zyXn B ρ2 N2) [8] vo from hvo)⟩⟩
      · skip
        have ex := List.mem_singleton.mp hx
        subst ex
        obtain ⟨hJ, i1, i2⟩ := hI
        exact ⟨fun a k n1 n2 => by rw [hEE]; exact i1 a k n1 n2, ⟨_, zyvo_1 (c := 0) (by decide) (show zyvo (zyXn B ρ2 N2) [0] vo from hvo)⟩⟩
    · have hx : x ∈ [zxbrd_fr0, zxbrd_fr1] := hx
      have hg : ∀ k, k < 4 → ρ2 k = ρ k := hag
      have hI := hInv
      have hI : zJ1 E0 ∧ zyFbd E0 E ∧ (5 = 2 ∨ 5 = 3 → ∃ n m : Nat, m ≤ 8 ∧ E0 75 2 = some (.int (Int32.ofNat m)) ∧ n ≤ 300 ∧ zBs E n m ∧ (5 = 2 → n = 0)) := hI
      obtain ⟨hF, hB, hM⟩ := hXs
      have hEE : E2 = E := zyfr0 hfr
      rcases List.mem_cons.mp hx with ex | hx
      · subst ex
        obtain ⟨hJ, i1, i2⟩ := hI
        exact ⟨fun a k n1 n2 => by rw [hEE]; exact i1 a k n1 n2, ⟨_, zyvo_1 (c := 8) (by decide) (show zyvo (zyXn B ρ2 N2) [8] vo from hvo)⟩⟩
      · skip
        have ex := List.mem_singleton.mp hx
        subst ex
        obtain ⟨hJ, i1, i2⟩ := hI
        exact ⟨fun a k n1 n2 => by rw [hEE]; exact i1 a k n1 n2, ⟨_, zyvo_1 (c := 0) (by decide) (show zyvo (zyXn B ρ2 N2) [0] vo from hvo)⟩⟩
    · have hx : x ∈ [zxbrd_gr0, zxbrd_gr1] := hx
      have hg : ∀ k, k < 4 → ρ2 k = ρ k := hag
      have hI := hInv
      have hI : zJ1 E0 ∧ zyFbd E0 E ∧ (6 = 2 ∨ 6 = 3 → ∃ n m : Nat, m ≤ 8 ∧ E0 75 2 = some (.int (Int32.ofNat m)) ∧ n ≤ 300 ∧ zBs E n m ∧ (6 = 2 → n = 0)) := hI
      obtain ⟨hF, hB, hM⟩ := hXs
      have hEE : E2 = E := zyfr0 hfr
      rcases List.mem_cons.mp hx with ex | hx
      · subst ex
        obtain ⟨hJ, i1, i2⟩ := hI
        exact ⟨fun a k n1 n2 => by rw [hEE]; exact i1 a k n1 n2, ⟨_, zyvo_1 (c := 8) (by decide) (show zyvo (zyXn B ρ2 N2) [8] vo from hvo)⟩⟩
      · skip
        have ex := List.mem_singleton.mp hx
        subst ex
        obtain ⟨hJ, i1, i2⟩ := hI
        exact ⟨fun a k n1 n2 => by rw [hEE]; exact i1 a k n1 n2, ⟨_, zyvo_1 (c := 0) (by decide) (show zyvo (zyXn B ρ2 N2) [0] vo from hvo)⟩⟩
    · have hx : x ∈ [zxbrd_hr0, zxbrd_hr1] := hx
      have hg : ∀ k, k < 4 → ρ2 k = ρ k := hag
      have hI := hInv
      have hI : zJ1 E0 ∧ zyFbd E0 E ∧ (7 = 2 ∨ 7 = 3 → ∃ n m : Nat, m ≤ 8 ∧ E0 75 2 = some (.int (Int32.ofNat m)) ∧ n ≤ 300 ∧ zBs E n m ∧ (7 = 2 → n = 0)) := hI
      obtain ⟨hF, hB, hM⟩ := hXs
      have hEE : E2 = E := zyfr0 hfr
      rcases List.mem_cons.mp hx with ex | hx
      · subst ex
        obtain ⟨hJ, i1, i2⟩ := hI
        exact ⟨fun a k n1 n2 => by rw [hEE]; exact i1 a k n1 n2, ⟨_, zyvo_1 (c := 8) (by decide) (show zyvo (zyXn B ρ2 N2) [8] vo from hvo)⟩⟩
      · skip
        have ex := List.mem_singleton.mp hx
        subst ex
        obtain ⟨hJ, i1, i2⟩ := hI
        exact ⟨fun a k n1 n2 => by rw [hEE]; exact i1 a k n1 n2, ⟨_, zyvo_1 (c := 0) (by decide) (show zyvo (zyXn B ρ2 N2) [0] vo from hvo)⟩⟩
    · have hx : x ∈ [zxbrd_jr0, zxbrd_jr1] := hx
      have hg : ∀ k, k < 4 → ρ2 k = ρ k := hag
      have hI := hInv
      have hI : zJ1 E0 ∧ zyFbd E0 E ∧ (8 = 2 ∨ 8 = 3 → ∃ n m : Nat, m ≤ 8 ∧ E0 75 2 = some (.int (Int32.ofNat m)) ∧ n ≤ 300 ∧ zBs E n m ∧ (8 = 2 → n = 0)) := hI
      obtain ⟨hF, hB, hM⟩ := hXs
      have hEE : E2 = E := zyfr0 hfr
      rcases List.mem_cons.mp hx with ex | hx
      · subst ex
        obtain ⟨hJ, i1, i2⟩ := hI
        exact ⟨fun a k n1 n2 => by rw [hEE]; exact i1 a k n1 n2, ⟨_, zyvo_1 (c := 8) (by decide) (show zyvo (zyXn B ρ2 N2) [8] vo from hvo)⟩⟩
      · skip
        have ex := List.mem_singleton.mp hx
        subst ex
        obtain ⟨hJ, i1, i2⟩ := hI
        exact ⟨fun a k n1 n2 => by rw [hEE]; exact i1 a k n1 n2, ⟨_, zyvo_1 (c := 0) (by decide) (show zyvo (zyXn B ρ2 N2) [0] vo from hvo)⟩⟩
def zyΦfe (_ : List Int32) (_ : zyEm) : Prop := True
def zyΨfe (_ : List Int32) (E E2 : zyEm) (vo : Option Value) : Prop := (∀ k, E2 75 k = E 75 k) ∧ ∃ q : Nat, q ≤ 900 ∧ E 74 33 = some (.int (Int32.ofNat q)) ∧ ((q ≤ 880 ∧ vo = some (.int (Int32.ofNat (q + 20))) ∧ E2 74 33 = some (.int (Int32.ofNat (q + 20)))) ∨ (¬ q ≤ 880 ∧ vo = some (.int (Int32.ofNat 4294967295)) ∧ E2 74 33 = some (.int (Int32.ofNat q))))
theorem zc_t {r c : Nat} {E : zyEm} (hT : zyTy (zymr r c) E) : ∃ q, q ≤ 900 ∧ E 74 33 = some (.int (Int32.ofNat q)) := by
  obtain ⟨x, e, b1, b2⟩ := (hT 74 zymr74 33 rfl (show 33 < 49 by decide) (33, 33, 73786976312018082850) (List.mem_of_getElem? (i := 33) rfl) (Nat.le_refl _) (Nat.le_refl _)).1 rfl
  have b1 : 2147483648 ≤ zB x := b1
  have b2 : zB x ≤ 2147484548 := b2
  obtain ⟨o1, o2⟩ := zyOn b1
  exact ⟨zyN1 x, by omega, by rw [← o1]; exact e⟩
theorem zyfee_run : zyAllP (fun r c => zyrS (zymr r c) zxi312 (312, 0, 0, 1, 0) 3 zpfee (fun _ _ => []) zFfee zSfee zXfee zRfee 2) = true := by decide +kernel
theorem zyfeed_H {l : Launch} {r c : Nat} (h1 : 1 ≤ r) (h2 : r ≤ 4) (h3 : 1 ≤ c) (h4 : c ≤ 5) {en : zEn} {me : zMe} (hen : zG zxMeta 312 = some en) (hme : zG zMeth 312 = some me) : zyHc l (zymr r c) en me 3 5 zyΦfe zyΨfe := by
  have een : zG zxMeta 312 = some (zxi312, 6, 6, 11, 312, 0, 0, 1, 0) := rfl
  obtain ⟨me1, hme1, hOK⟩ := zall hen
  rw [hme] at hme1
  cases hme1
  rw [een] at hen
  cases hen
  have hr := zyAllP_iff zyfee_run h1 h2 h3 h4
  refine zycutS (mi := zymr r c) hOK rfl rfl ⟨_, rfl, rfl⟩ (ι := Fin 2) (fun i => zpfee i.val) (fun _ _ => []) (fun i => zFfee i.val) (fun i => zSfee i.val) (fun i => zXfee i.val) (fun i => zRfee i.val) (fun i y2 ct en2 me2 h => by cases h) 200000 (fun i => zyAll_iff hr i.val i.isLt) ⟨0, by decide⟩ ⟨rfl, rfl, rfl, rfl⟩ ⟨by decide, by decide⟩
    (fun i as E0 ρ E => ∃ q : Nat, q ≤ 900 ∧ E0 74 33 = some (.int (Int32.ofNat q)) ∧ E = E0 ∧ (i.val = 1 → ρ 6 = Int32.ofNat q)) (fun i as E0 ρ E => 1 - i.val) ?_ ?_ ?_
  · intro as E hlen hT hΦ
    obtain ⟨q, hq, e⟩ := zc_t hT
    exact ⟨zEnv_c (zyfull _) (zEnv_c (zyfull _) (zEnv_c (zyfull _) (zEnv_c (zyfull _) (zEnv_c (zyfull _) (zEnv_c (zyfull _) (zEnv_nil)))))), q, hq, e, rfl, fun h => absurd (show 0 = 1 from h) (by decide)⟩
  · intro as B s Wg hRu hT0 hΦ hlen i ρ H hT hInv hIH x hx ρ2 N2 H2 locs lsB stA hAt hXs hag hfr hT2
    rcases i with ⟨i, hi⟩
    have hi2 : i = 0 ∨ i = 1 := by omega
    rcases hi2 with rfl | rfl
    · have hx : x ∈ [zxfee_zx0] := hx
      have hg : ∀ k, k < 6 → ρ2 k = ρ k := hag
      have hI := hInv
      have hI : ∃ q : Nat, q ≤ 900 ∧ (zyEl (zymr r c) B s.heap) 74 33 = some (.int (Int32.ofNat q)) ∧ (zyEl (zymr r c) B H) = (zyEl (zymr r c) B s.heap) ∧ (0 = 1 → ρ 6 = Int32.ofNat q) := hI
      obtain ⟨hF, hB, hM⟩ := hXs
      have hEE : (zyEl (zymr r c) B H2) = (zyEl (zymr r c) B H) := zyfr0 hfr
      have ex := List.mem_singleton.mp hx
      subst ex
      obtain ⟨q, hq, s1, i1, -⟩ := hI
      refine zyGoKi hIH hAt hB ⟨1, by decide⟩ [595, 34359738369, 68719476737, 103079215105, 137438953473, 171798691841] [(0, 4294967295), (0, 4294967295), (0, 4294967295), (0, 4294967295), (0, 4294967295), (0, 4294967295)] 2147483648 2147484548 rfl (by decide) rfl rfl rfl (74 * 16384 + 33) zymr74 rfl rfl (show 33 < 49 by decide) (Int32.ofNat q) ?_ ?_ ⟨q, hq, s1, hEE.trans i1, fun _ => zyρi_e⟩ (show 1 - 1 < 1 - 0 by decide)
      · show zyEl (zymr r c) B H2 74 33 = _
        rw [hEE, i1]
        exact s1
      · rw [zyBn (by omega)]
        omega
    · cases hx
  · intro as E0 E E2 hT0 hΦ hlen i ρ hT hInv x hx ρ2 N2 B vo hXs hag hfr hT2 hvo
    rcases i with ⟨i, hi⟩
    have hi2 : i = 0 ∨ i = 1 := by omega
    rcases hi2 with rfl | rfl
    · cases hx
    · have hx : x ∈ [zxfee_ar0, zxfee_ar1] := hx
      have hg : ∀ k, k < 7 → ρ2 k = ρ k := hag
      have hI := hInv
      have hI : ∃ q : Nat, q ≤ 900 ∧ E0 74 33 = some (.int (Int32.ofNat q)) ∧ E = E0 ∧ (1 = 1 → ρ 6 = Int32.ofNat q) := hI
      obtain ⟨hF, hB, hM⟩ := hXs
      have hfr : ∀ a k, zyin [(74, 3, 3), (74, 33, 33), (84, 0, 899)] a k = false → E2 a k = E a k := hfr
      rcases List.mem_cons.mp hx with ex | hx
      · subst ex
        obtain ⟨q, hq, s1, i1, i2⟩ := hI
        have a2 : ρ2 6 = Int32.ofNat q := (hg 6 (by decide)).trans (i2 rfl)
        have hk : ∀ a k, ¬ (a = 74 ∧ 3 ≤ k ∧ k ≤ 3) → ¬ (a = 74 ∧ 33 ≤ k ∧ k ≤ 33) → ¬ (a = 84 ∧ 0 ≤ k ∧ k ≤ 899) → E2 a k = E a k := by
          intro a k n0 n1 n2
          apply hfr
          cases hq : zyin [(74, 3, 3), (74, 33, 33), (84, 0, 899)] a k with
          | false => rfl
          | true =>
            obtain ⟨p0, g1, g2, g3, g4⟩ := zyin_iff.mp hq
            simp only [List.mem_cons, List.not_mem_nil, or_false] at g1
            rcases g1 with rfl | rfl | rfl
            · exact absurd ⟨g2.symm, g3, g4⟩ n0
            · exact absurd ⟨g2.symm, g3, g4⟩ n1
            · exact absurd ⟨g2.symm, g3, g4⟩ n2
        have m := zyXm hM 0 rfl
        have b6 := zyXb hB 0 rfl
        have m : E2 74 33 = some (.int (ρ2 6)) := m
        have b6 : 2147484529 ≤ zB (ρ2 6) ∧ zB (ρ2 6) ≤ 2147484548 := b6
        rw [a2, zyBn (by omega)] at b6
        rw [a2] at m
        exact ⟨fun k => (hk 75 k (by omega) (by omega) (by omega)).trans (by rw [i1]), q, hq, s1, Or.inr ⟨by omega, zyvo_1 (c := 34359738360) (by decide) (show zyvo (zyXn B ρ2 N2) [34359738360] vo from hvo), m⟩⟩
      · skip
        have ex := List.mem_singleton.mp hx
        subst ex
        obtain ⟨q, hq, s1, i1, i2⟩ := hI
        have a2 : ρ2 6 = Int32.ofNat q := (hg 6 (by decide)).trans (i2 rfl)
        have hk : ∀ a k, ¬ (a = 74 ∧ 3 ≤ k ∧ k ≤ 3) → ¬ (a = 74 ∧ 33 ≤ k ∧ k ≤ 33) → ¬ (a = 84 ∧ 0 ≤ k ∧ k ≤ 899) → E2 a k = E a k := by
          intro a k n0 n1 n2
          apply hfr
          cases hq : zyin [(74, 3, 3), (74, 33, 33), (84, 0, 899)] a k with
          | false => rfl
          | true =>
            obtain ⟨p0, g1, g2, g3, g4⟩ := zyin_iff.mp hq
            simp only [List.mem_cons, List.not_mem_nil, or_false] at g1
            rcases g1 with rfl | rfl | rfl
            · exact absurd ⟨g2.symm, g3, g4⟩ n0
            · exact absurd ⟨g2.symm, g3, g4⟩ n1
            · exact absurd ⟨g2.symm, g3, g4⟩ n2
        have m := zyXm hM 0 rfl
        have b6 := zyXb hB 0 rfl
        have m : E2 74 33 = some (.int (ρ2 6 + Int32.ofNat 20)) := m
        have b6 : 2147483648 ≤ zB (ρ2 6) ∧ zB (ρ2 6) ≤ 2147484528 := b6
        rw [a2, zyBn (by omega)] at b6
        rw [a2, zyOa] at m
        have ev := zyvo_1 (c := 206158430369) (by decide) (show zyvo (zyXn B ρ2 N2) [206158430369] vo from hvo)
        have ev : vo = some (.int (ρ2 6 + Int32.ofNat 20)) := ev
        rw [a2, zyOa] at ev
        exact ⟨fun k => (hk 75 k (by omega) (by omega) (by omega)).trans (by rw [i1]), q, hq, s1, Or.inl ⟨by omega, ev, m⟩⟩
