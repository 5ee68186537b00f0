section
/-! WHETHER BRAIDS ARE ONE: the reference's questions -/
def zyJb (E E2 : zyEm) : Prop := ∀ a2 k2, ¬ a2 = 81 → ¬ a2 = 82 → ¬ (a2 = 74 ∧ 19 ≤ k2 ∧ k2 ≤ 21) → E2 a2 k2 = E a2 k2
theorem zyJb_jo {E E2 E3 : zyEm} (h1 : zyJb E E2) (h2 : zyJo E2 E3) : zyJb E E3 := fun a k p1 p2 p3 => (h2 a k p1 p2 (fun z => p3 ⟨z.1, by omega, by omega⟩)).trans (h1 a k p1 p2 p3)
theorem zyJb_75 {E E2 : zyEm} (h : zyJb E E2) (k : Nat) : zyI E2 75 k = zyI E 75 k := zyI_eq (h 75 k (by decide) (by decide) (fun z => absurd z.1 (by decide)))
theorem zLv_jb {E E2 : zyEm} {m : Nat} (h : zyJb E E2) (hv : zLv E m) : zLv E2 m := fun k hk h2 => by
  rw [zyJb_75 h] at h2 ⊢
  exact hv k hk h2
theorem zWl_jb {E E2 : zyEm} {m : Nat} (h : zyJb E E2) (hv : zWl E m) : zWl E2 m := fun k hk h2 => by
  rw [zyJb_75 h] at h2 ⊢
  exact hv k hk h2
def zyΦbb (_ : List Int32) (_ : zyEm) : Prop := True
def zyΨbb (_ : List Int32) (E E2 : zyEm) (vo : Option Value) : Prop := vo = none ∧ zyJb E E2 ∧ ∀ m : Nat, m ≤ 8 → E 75 2 = some (.int (Int32.ofNat m)) → zBs E2 0 m
def zyΦbr (_ : List Int32) (E : zyEm) : Prop := ∃ m : Nat, m ≤ 8 ∧ E 75 2 = some (.int (Int32.ofNat m)) ∧ zLv E m ∧ zWv E
def zyΨbr (_ : List Int32) (E E2 : zyEm) (vo : Option Value) : Prop := zyJb E E2 ∧ ∃ z : Int32, vo = some (.int z) ∧ (z = 0 ∨ z = 1)
theorem zybb_run : zyAllP (fun r c => zyrS (zymr r c) zxi238 (238, 0, 0, 0, 0) 1 zpbb (fun _ _ => []) zFbb zSbb zXbb zRbb 1) = true := by decide +kernel
theorem zybeginsBraid {l : Launch} {r c : Nat} (h1 : 1 ≤ r) (h2 : r ≤ 4) (h3 : 1 ≤ c) (h4 : c ≤ 5) {en : zEn} {me : zMe} (hen : zG zxMeta 238 = some en) (hme : zG zMeth 238 = some me) : zyHc l (zymr r c) en me 1 0 zyΦbb zyΨbb := by
  have een : zG zxMeta 238 = some (zxi238, 1, 1, 11, 238, 0, 0, 0, 0) := rfl
  obtain ⟨me1, hme1, hOK⟩ := zall hen
  rw [hme] at hme1
  cases hme1
  rw [een] at hen
  cases hen
  have hr := zyAllP_iff zybb_run h1 h2 h3 h4
  refine zycutS (mi := zymr r c) hOK rfl rfl ⟨_, rfl, rfl⟩ (ι := Fin 1) (fun i => zpbb i.val) (fun _ _ => []) (fun i => zFbb i.val) (fun i => zSbb i.val) (fun i => zXbb i.val) (fun i => zRbb i.val) (fun i y2 ct en2 me2 h => by cases h) 200000 (fun i => zyAll_iff hr i.val i.isLt) ⟨0, by decide⟩ ⟨rfl, rfl, rfl, rfl⟩ ⟨by decide, by decide⟩
    (fun i as E0 ρ E => E = E0) (fun i as E0 ρ E => 0) ?_ ?_ ?_
  · intro as E hlen hT hΦ
    exact ⟨zEnv_c (zyfull _) zEnv_nil, rfl⟩
  · intro as B s Wg hRu hT0 hΦ hlen i ρ H hT hInv hIH x hx ρ2 N2 H2 locs lsB stA hAt hXs hag hfr hT2
    rcases i with ⟨i, hi⟩
    have hi2 : i = 0 := by omega
    rcases hi2 with rfl
    · cases hx
  · intro as E0 E E2 hT0 hΦ hlen i ρ hT hInv x hx ρ2 N2 B vo hXs hag hfr hT2 hvo
    rcases i with ⟨i, hi⟩
    have hi2 : i = 0 := by omega
    rcases hi2 with rfl
    · have hx : x ∈ [zxbb_ar0] := hx
      have hg : ∀ k, k < 1 → ρ2 k = ρ k := hag
      have hI := hInv
      have hI : E = E0 := hI
      obtain ⟨hF, hB, hM⟩ := hXs
      have hfr : ∀ a k, zyin [(74, 19, 21)] a k = false → E2 a k = E a k := hfr
      have ex := List.mem_singleton.mp hx
      subst ex
      have m1 := zyXm hM 0 rfl
      have m1 : E2 74 19 = some (.int (Int32.ofNat 0)) := m1
      have m2 := zyXm hM 1 rfl
      have m2 : E2 74 21 = some (.int (ρ2 1)) := m2
      have hk : ∀ a2 k2, ¬ (a2 = 74 ∧ 19 ≤ k2 ∧ k2 ≤ 21) → E2 a2 k2 = E a2 k2 := by
        intro a2 k2 q
        apply hfr
        cases hq : zyin [(74, 19, 21)] a2 k2 with
        | false => rfl
        | true =>
          obtain ⟨p0, g1, g2, g3, g4⟩ := zyin_iff.mp hq
          rw [List.mem_singleton.mp g1] at g2 g3 g4
          exact absurd ⟨g2.symm, g3, g4⟩ q
      refine ⟨zyvo_0 (show zyvo _ [] vo from hvo), fun a2 k2 _ _ q => (hk a2 k2 q).trans (by rw [hI]), fun m hm hms => ?_⟩
      rw [← hI] at hms
      obtain ⟨n3, w1, w2, w3⟩ := zyXe hF 0 rfl
      have w1 : Int32.ofNat 2 = Int32.ofNat n3 := w1
      have w3 : E 75 n3 = some (.int (ρ2 1)) := w3
      have em : ρ2 1 = Int32.ofNat m := zyEk w1 (by decide) w2 w3 hms
      rw [em] at m2
      exact ⟨by omega, hm, m1, m2, (hk 75 2 (fun z => absurd z.1 (by decide))).trans hms, fun f hf => absurd hf (Nat.not_lt_zero f)⟩
theorem zynb_run : zyAllP (fun r c => zyrS (zymr r c) zxi239 (239, 0, 0, 2, 0) 1 zpnb (fun _ _ => []) zFnb zSnb zXnb zRnb 1) = true := by decide +kernel
theorem zyisNoBraid {l : Launch} {r c : Nat} (h1 : 1 ≤ r) (h2 : r ≤ 4) (h3 : 1 ≤ c) (h4 : c ≤ 5) {en : zEn} {me : zMe} (hen : zG zxMeta 239 = some en) (hme : zG zMeth 239 = some me) : zyHc l (zymr r c) en me 1 0 zyΦbb zyΨie := by
  have een : zG zxMeta 239 = some (zxi239, 1, 1, 11, 239, 0, 0, 2, 0) := rfl
  obtain ⟨me1, hme1, hOK⟩ := zall hen
  rw [hme] at hme1
  cases hme1
  rw [een] at hen
  cases hen
  have hr := zyAllP_iff zynb_run h1 h2 h3 h4
  refine zycutS (mi := zymr r c) hOK rfl rfl ⟨_, rfl, rfl⟩ (ι := Fin 1) (fun i => zpnb i.val) (fun _ _ => []) (fun i => zFnb i.val) (fun i => zSnb i.val) (fun i => zXnb i.val) (fun i => zRnb i.val) (fun i y2 ct en2 me2 h => by cases h) 200000 (fun i => zyAll_iff hr i.val i.isLt) ⟨0, by decide⟩ ⟨rfl, rfl, rfl, rfl⟩ ⟨by decide, by decide⟩
    (fun i as E0 ρ E => E = E0) (fun i as E0 ρ E => 0) ?_ ?_ ?_
  · intro as E hlen hT hΦ
    exact ⟨zEnv_c (zyfull _) zEnv_nil, rfl⟩
  · intro as B s Wg hRu hT0 hΦ hlen i ρ H hT hInv hIH x hx ρ2 N2 H2 locs lsB stA hAt hXs hag hfr hT2
    rcases i with ⟨i, hi⟩
    have hi2 : i = 0 := by omega
    rcases hi2 with rfl
    · cases hx
  · intro as E0 E E2 hT0 hΦ hlen i ρ hT hInv x hx ρ2 N2 B vo hXs hag hfr hT2 hvo
    rcases i with ⟨i, hi⟩
    have hi2 : i = 0 := by omega
    rcases hi2 with rfl
    · have hx : x ∈ [zxnb_ar0, zxnb_ar1, zxnb_ar2, zxnb_ar3] := hx
      have hg : ∀ k, k < 1 → ρ2 k = ρ k := hag
      have hI := hInv
      have hI : E = E0 := hI
      obtain ⟨hF, hB, hM⟩ := hXs
      have hEE : E2 = E := zyfr0 hfr
      rcases List.mem_cons.mp hx with ex | hx
      · subst ex
        exact ⟨hEE.trans hI, 0, zyvo_1 (c := 0) (by decide) (show zyvo (zyXn B ρ2 N2) [0] vo from hvo), Or.inl rfl⟩
      · skip
        rcases List.mem_cons.mp hx with ex | hx
        · subst ex
          exact ⟨hEE.trans hI, 0, zyvo_1 (c := 0) (by decide) (show zyvo (zyXn B ρ2 N2) [0] vo from hvo), Or.inl rfl⟩
        · skip
          rcases List.mem_cons.mp hx with ex | hx
          · subst ex
            exact ⟨hEE.trans hI, 0, zyvo_1 (c := 0) (by decide) (show zyvo (zyXn B ρ2 N2) [0] vo from hvo), Or.inl rfl⟩
          · skip
            have ex := List.mem_singleton.mp hx
            subst ex
            exact ⟨hEE.trans hI, 1, zyvo_1 (c := 8) (by decide) (show zyvo (zyXn B ρ2 N2) [8] vo from hvo), Or.inr rfl⟩
theorem zyge_run : zyAllP (fun r c => zyrS (zymr r c) zxi247 (247, 0, 0, 2, 0) 8 zpge (fun _ _ => []) zFge zSge zXge zRge 8) = true := by decide +kernel
theorem zygoEitherWay {l : Launch} {r c : Nat} (h1 : 1 ≤ r) (h2 : r ≤ 4) (h3 : 1 ≤ c) (h4 : c ≤ 5) {en : zEn} {me : zMe} (hen : zG zxMeta 247 = some en) (hme : zG zMeth 247 = some me) : zyHc l (zymr r c) en me 8 0 zyΦbr zyΨbr := by
  have een : zG zxMeta 247 = some (zxi247, 1, 1, 11, 247, 0, 0, 2, 0) := rfl
  obtain ⟨me1, hme1, hOK⟩ := zall hen
  rw [hme] at hme1
  cases hme1
  rw [een] at hen
  cases hen
  have hr := zyAllP_iff zyge_run h1 h2 h3 h4
  obtain ⟨mebb, hmebb, -⟩ := zall (show zG zxMeta 238 = some (zxi238, 1, 1, 11, 238, 0, 0, 0, 0) from rfl)
  have hbb := zybeginsBraid (l := l) h1 h2 h3 h4 (show zG zxMeta 238 = some (zxi238, 1, 1, 11, 238, 0, 0, 0, 0) from rfl) hmebb
  obtain ⟨menb, hmenb, -⟩ := zall (show zG zxMeta 239 = some (zxi239, 1, 1, 11, 239, 0, 0, 2, 0) from rfl)
  have hnb := zyisNoBraid (l := l) h1 h2 h3 h4 (show zG zxMeta 239 = some (zxi239, 1, 1, 11, 239, 0, 0, 2, 0) from rfl) hmenb
  obtain ⟨mejw, hmejw, -⟩ := zall (show zG zxMeta 240 = some (zxi240, 3, 5, 11, 240, 0, 0, 0, 0) from rfl)
  have hjw := zyjoinsWord (l := l) h1 h2 h3 h4 (show zG zxMeta 240 = some (zxi240, 3, 5, 11, 240, 0, 0, 0, 0) from rfl) hmejw
  obtain ⟨mejd, hmejd, -⟩ := zall (show zG zxMeta 241 = some (zxi241, 1, 2, 11, 241, 0, 0, 0, 0) from rfl)
  have hjd := zyjoinsWished (l := l) h1 h2 h3 h4 (show zG zxMeta 241 = some (zxi241, 1, 2, 11, 241, 0, 0, 0, 0) from rfl) hmejd
  obtain ⟨meud, hmeud, -⟩ := zall (show zG zxMeta 242 = some (zxi242, 1, 2, 11, 242, 0, 0, 0, 0) from rfl)
  have hud := zyunjoinsWished (l := l) h1 h2 h3 h4 (show zG zxMeta 242 = some (zxi242, 1, 2, 11, 242, 0, 0, 0, 0) from rfl) hmeud
  obtain ⟨meuw, hmeuw, -⟩ := zall (show zG zxMeta 243 = some (zxi243, 1, 2, 11, 243, 0, 0, 0, 0) from rfl)
  have huw := zyunjoinsWord (l := l) h1 h2 h3 h4 (show zG zxMeta 243 = some (zxi243, 1, 2, 11, 243, 0, 0, 0, 0) from rfl) hmeuw
  obtain ⟨mecw, hmecw, -⟩ := zall (show zG zxMeta 244 = some (zxi244, 1, 3, 11, 244, 0, 0, 2, 0) from rfl)
  have hcw := zycanBeWished (l := l) h1 h2 h3 h4 (show zG zxMeta 244 = some (zxi244, 1, 3, 11, 244, 0, 0, 2, 0) from rfl) hmecw
  obtain ⟨mejo, hmejo, -⟩ := zall (show zG zxMeta 237 = some (zxi237, 2, 5, 11, 237, 0, 0, 0, 0) from rfl)
  have hjo := zyjoins (l := l) h1 h2 h3 h4 (show zG zxMeta 237 = some (zxi237, 2, 5, 11, 237, 0, 0, 0, 0) from rfl) hmejo
  refine zycutS (mi := zymr r c) hOK rfl rfl ⟨_, rfl, rfl⟩ (ι := Fin 8) (fun i => zpge i.val) (fun _ _ => []) (fun i => zFge i.val) (fun i => zSge i.val) (fun i => zXge i.val) (fun i => zRge i.val) (fun i y2 ct en2 me2 h => by cases h) 200000 (fun i => zyAll_iff hr i.val i.isLt) ⟨0, by decide⟩ ⟨rfl, rfl, rfl, rfl⟩ ⟨by decide, by decide⟩
    (fun i as E0 ρ E => (i.val = 0 → E = E0) ∧ (i.val = 1 → E = E0 ∧ (ρ 1 = 0 ∨ ∀ m : Nat, m ≤ 8 → E0 75 2 = some (.int (Int32.ofNat m)) → zWl E0 m)) ∧ (i.val = 2 → ∃ n m : Nat, m ≤ 8 ∧ E0 75 2 = some (.int (Int32.ofNat m)) ∧ zBs E n m ∧ zyJb E0 E ∧ zLv E0 m ∧ zWl E0 m ∧ n ≤ 0) ∧ (i.val = 3 → ∃ n m : Nat, m ≤ 8 ∧ E0 75 2 = some (.int (Int32.ofNat m)) ∧ zBs E n m ∧ zyJb E0 E ∧ zLv E0 m ∧ zWl E0 m ∧ n ≤ 300) ∧ (i.val = 4 → ∃ n m : Nat, m ≤ 8 ∧ E0 75 2 = some (.int (Int32.ofNat m)) ∧ zBs E n m ∧ zyJb E0 E ∧ zLv E0 m ∧ zWl E0 m ∧ n ≤ 360) ∧ (i.val = 5 → ∃ n m : Nat, m ≤ 8 ∧ E0 75 2 = some (.int (Int32.ofNat m)) ∧ zBs E n m ∧ zyJb E0 E ∧ zLv E0 m ∧ zWl E0 m ∧ n ≤ 661) ∧ (i.val = 6 → zyJb E0 E) ∧ (i.val = 7 → zyJb E0 E)) (fun i as E0 ρ E => 20 - i.val) ?_ ?_ ?_
  · intro as E hlen hT hΦ
    exact ⟨zEnv_c (zyfull _) zEnv_nil, ⟨fun _ => rfl, fun h => absurd (show 0 = 1 from h) (by decide), fun h => absurd (show 0 = 2 from h) (by decide), fun h => absurd (show 0 = 3 from h) (by decide), fun h => absurd (show 0 = 4 from h) (by decide), fun h => absurd (show 0 = 5 from h) (by decide), fun h => absurd (show 0 = 6 from h) (by decide), fun h => absurd (show 0 = 7 from h) (by decide)⟩⟩
  · intro as B s Wg hRu hT0 hΦ hlen i ρ H hT hInv hIH x hx ρ2 N2 H2 locs lsB stA hAt hXs hag hfr hT2
    rcases i with ⟨i, hi⟩
    have hi2 : i = 0 ∨ i = 1 ∨ i = 2 ∨ i = 3 ∨ i = 4 ∨ i = 5 ∨ i = 6 ∨ i = 7 := by omega
    rcases hi2 with rfl | rfl | rfl | rfl | rfl | rfl | rfl | rfl
    · have hx : x ∈ [zxge_ax0] := hx
      have hg : ∀ k, k < 1 → ρ2 k = ρ k := hag
      have hI := hInv
      have hI : (0 = 0 → (zyEl (zymr r c) B H) = (zyEl (zymr r c) B s.heap)) ∧ (0 = 1 → (zyEl (zymr r c) B H) = (zyEl (zymr r c) B s.heap) ∧ (ρ 1 = 0 ∨ ∀ m : Nat, m ≤ 8 → (zyEl (zymr r c) B s.heap) 75 2 = some (.int (Int32.ofNat m)) → zWl (zyEl (zymr r c) B s.heap) m)) ∧ (0 = 2 → ∃ n m : Nat, m ≤ 8 ∧ (zyEl (zymr r c) B s.heap) 75 2 = some (.int (Int32.ofNat m)) ∧ zBs (zyEl (zymr r c) B H) n m ∧ zyJb (zyEl (zymr r c) B s.heap) (zyEl (zymr r c) B H) ∧ zLv (zyEl (zymr r c) B s.heap) m ∧ zWl (zyEl (zymr r c) B s.heap) m ∧ n ≤ 0) ∧ (0 = 3 → ∃ n m : Nat, m ≤ 8 ∧ (zyEl (zymr r c) B s.heap) 75 2 = some (.int (Int32.ofNat m)) ∧ zBs (zyEl (zymr r c) B H) n m ∧ zyJb (zyEl (zymr r c) B s.heap) (zyEl (zymr r c) B H) ∧ zLv (zyEl (zymr r c) B s.heap) m ∧ zWl (zyEl (zymr r c) B s.heap) m ∧ n ≤ 300) ∧ (0 = 4 → ∃ n m : Nat, m ≤ 8 ∧ (zyEl (zymr r c) B s.heap) 75 2 = some (.int (Int32.ofNat m)) ∧ zBs (zyEl (zymr r c) B H) n m ∧ zyJb (zyEl (zymr r c) B s.heap) (zyEl (zymr r c) B H) ∧ zLv (zyEl (zymr r c) B s.heap) m ∧ zWl (zyEl (zymr r c) B s.heap) m ∧ n ≤ 360) ∧ (0 = 5 → ∃ n m : Nat, m ≤ 8 ∧ (zyEl (zymr r c) B s.heap) 75 2 = some (.int (Int32.ofNat m)) ∧ zBs (zyEl (zymr r c) B H) n m ∧ zyJb (zyEl (zymr r c) B s.heap) (zyEl (zymr r c) B H) ∧ zLv (zyEl (zymr r c) B s.heap) m ∧ zWl (zyEl (zymr r c) B s.heap) m ∧ n ≤ 661) ∧ (0 = 6 → zyJb (zyEl (zymr r c) B s.heap) (zyEl (zymr r c) B H)) ∧ (0 = 7 → zyJb (zyEl (zymr r c) B s.heap) (zyEl (zymr r c) B H)) := hI
      obtain ⟨hF, hB, hM⟩ := hXs
      have hEE : (zyEl (zymr r c) B H2) = (zyEl (zymr r c) B H) := zyfr0 hfr
      have ex := List.mem_singleton.mp hx
      subst ex
      have hI := hI.1 rfl
      obtain ⟨m0, m1, m2, m3, m4⟩ := hΦ
      refine zyCa1 hRu hIH hAt hB hcw (ix := 245) (ax := 3904) rfl rfl rfl hmecw ⟨rfl, rfl, rfl, rfl⟩ (by decide) [] rfl (by decide) rfl ⟨1, by decide⟩ [595] [(0, 4294967295)] 2147483648 2147483649 rfl (by decide) rfl rfl rfl rfl rfl ?_ ?_
      · show zyΦcw [] _
        rw [hEE, hI]
        exact ⟨m0, m1, m2, m4⟩
      · intro E3 vo hT3 hΨ
        obtain ⟨e3, z, ez, hz⟩ := (show zyΨcw [] _ E3 vo from hΨ)
        rw [hEE, hI] at e3 hz
        subst e3
        refine ⟨z, ez, ?_, ?_, ⟨fun h => absurd (show 1 = 0 from h) (by decide), fun _ => ⟨rfl, hz.imp (fun q => (zyρi_e (k0 := 1)).trans q) (fun q => q.2)⟩, fun h => absurd (show 1 = 2 from h) (by decide), fun h => absurd (show 1 = 3 from h) (by decide), fun h => absurd (show 1 = 4 from h) (by decide), fun h => absurd (show 1 = 5 from h) (by decide), fun h => absurd (show 1 = 6 from h) (by decide), fun h => absurd (show 1 = 7 from h) (by decide)⟩, ?_⟩
        · rcases hz with rfl | ⟨rfl, -⟩ <;> decide
        · rcases hz with rfl | ⟨rfl, -⟩ <;> decide
        · show 19 < 20
          decide
    · have hx : x ∈ [zxge_bx0] := hx
      have hg : ∀ k, k < 2 → ρ2 k = ρ k := hag
      have hI := hInv
      have hI : (1 = 0 → (zyEl (zymr r c) B H) = (zyEl (zymr r c) B s.heap)) ∧ (1 = 1 → (zyEl (zymr r c) B H) = (zyEl (zymr r c) B s.heap) ∧ (ρ 1 = 0 ∨ ∀ m : Nat, m ≤ 8 → (zyEl (zymr r c) B s.heap) 75 2 = some (.int (Int32.ofNat m)) → zWl (zyEl (zymr r c) B s.heap) m)) ∧ (1 = 2 → ∃ n m : Nat, m ≤ 8 ∧ (zyEl (zymr r c) B s.heap) 75 2 = some (.int (Int32.ofNat m)) ∧ zBs (zyEl (zymr r c) B H) n m ∧ zyJb (zyEl (zymr r c) B s.heap) (zyEl (zymr r c) B H) ∧ zLv (zyEl (zymr r c) B s.heap) m ∧ zWl (zyEl (zymr r c) B s.heap) m ∧ n ≤ 0) ∧ (1 = 3 → ∃ n m : Nat, m ≤ 8 ∧ (zyEl (zymr r c) B s.heap) 75 2 = some (.int (Int32.ofNat m)) ∧ zBs (zyEl (zymr r c) B H) n m ∧ zyJb (zyEl (zymr r c) B s.heap) (zyEl (zymr r c) B H) ∧ zLv (zyEl (zymr r c) B s.heap) m ∧ zWl (zyEl (zymr r c) B s.heap) m ∧ n ≤ 300) ∧ (1 = 4 → ∃ n m : Nat, m ≤ 8 ∧ (zyEl (zymr r c) B s.heap) 75 2 = some (.int (Int32.ofNat m)) ∧ zBs (zyEl (zymr r c) B H) n m ∧ zyJb (zyEl (zymr r c) B s.heap) (zyEl (zymr r c) B H) ∧ zLv (zyEl (zymr r c) B s.heap) m ∧ zWl (zyEl (zymr r c) B s.heap) m ∧ n ≤ 360) ∧ (1 = 5 → ∃ n m : Nat, m ≤ 8 ∧ (zyEl (zymr r c) B s.heap) 75 2 = some (.int (Int32.ofNat m)) ∧ zBs (zyEl (zymr r c) B H) n m ∧ zyJb (zyEl (zymr r c) B s.heap) (zyEl (zymr r c) B H) ∧ zLv (zyEl (zymr r c) B s.heap) m ∧ zWl (zyEl (zymr r c) B s.heap) m ∧ n ≤ 661) ∧ (1 = 6 → zyJb (zyEl (zymr r c) B s.heap) (zyEl (zymr r c) B H)) ∧ (1 = 7 → zyJb (zyEl (zymr r c) B s.heap) (zyEl (zymr r c) B H)) := hI
      obtain ⟨hF, hB, hM⟩ := hXs
      have hEE : (zyEl (zymr r c) B H2) = (zyEl (zymr r c) B H) := zyfr0 hfr
      have ex := List.mem_singleton.mp hx
      subst ex
      have hI := hI.2.1 rfl
      obtain ⟨hE0, hz⟩ := hI
      obtain ⟨m0, m1, m2, m3, m4⟩ := hΦ
      have f0 := zyX23 hF 0 rfl
      have f0 : ¬ ρ2 1 = Int32.ofNat 0 := f0
      have hw0 := hz.resolve_left (fun q => f0 ((hg 1 (by decide)).trans q)) m0 m1 m2
      refine zyCa0 hRu hIH hAt hB hbb (ix := 249) (ax := 3808) rfl rfl rfl hmebb ⟨rfl, rfl, rfl, rfl⟩ (by decide) [] rfl (by decide) rfl ⟨2, by decide⟩ [595] rfl rfl rfl rfl trivial ?_
      intro E3 vo hT3 hΨ
      obtain ⟨ev, q1, q2⟩ := (show zyΨbb [] _ E3 vo from hΨ)
      rw [hEE, hE0] at q1 q2
      refine ⟨ev, ⟨fun h => absurd (show 2 = 0 from h) (by decide), fun h => absurd (show 2 = 1 from h) (by decide), fun _ => ⟨0, m0, m1, m2, q2 m0 m1 m2, q1, m3, hw0, by omega⟩, fun h => absurd (show 2 = 3 from h) (by decide), fun h => absurd (show 2 = 4 from h) (by decide), fun h => absurd (show 2 = 5 from h) (by decide), fun h => absurd (show 2 = 6 from h) (by decide), fun h => absurd (show 2 = 7 from h) (by decide)⟩, ?_⟩
      show 18 < 19
      decide
    · have hx : x ∈ [zxge_cx0] := hx
      have hg : ∀ k, k < 1 → ρ2 k = ρ k := hag
      have hI := hInv
      have hI : (2 = 0 → (zyEl (zymr r c) B H) = (zyEl (zymr r c) B s.heap)) ∧ (2 = 1 → (zyEl (zymr r c) B H) = (zyEl (zymr r c) B s.heap) ∧ (ρ 1 = 0 ∨ ∀ m : Nat, m ≤ 8 → (zyEl (zymr r c) B s.heap) 75 2 = some (.int (Int32.ofNat m)) → zWl (zyEl (zymr r c) B s.heap) m)) ∧ (2 = 2 → ∃ n m : Nat, m ≤ 8 ∧ (zyEl (zymr r c) B s.heap) 75 2 = some (.int (Int32.ofNat m)) ∧ zBs (zyEl (zymr r c) B H) n m ∧ zyJb (zyEl (zymr r c) B s.heap) (zyEl (zymr r c) B H) ∧ zLv (zyEl (zymr r c) B s.heap) m ∧ zWl (zyEl (zymr r c) B s.heap) m ∧ n ≤ 0) ∧ (2 = 3 → ∃ n m : Nat, m ≤ 8 ∧ (zyEl (zymr r c) B s.heap) 75 2 = some (.int (Int32.ofNat m)) ∧ zBs (zyEl (zymr r c) B H) n m ∧ zyJb (zyEl (zymr r c) B s.heap) (zyEl (zymr r c) B H) ∧ zLv (zyEl (zymr r c) B s.heap) m ∧ zWl (zyEl (zymr r c) B s.heap) m ∧ n ≤ 300) ∧ (2 = 4 → ∃ n m : Nat, m ≤ 8 ∧ (zyEl (zymr r c) B s.heap) 75 2 = some (.int (Int32.ofNat m)) ∧ zBs (zyEl (zymr r c) B H) n m ∧ zyJb (zyEl (zymr r c) B s.heap) (zyEl (zymr r c) B H) ∧ zLv (zyEl (zymr r c) B s.heap) m ∧ zWl (zyEl (zymr r c) B s.heap) m ∧ n ≤ 360) ∧ (2 = 5 → ∃ n m : Nat, m ≤ 8 ∧ (zyEl (zymr r c) B s.heap) 75 2 = some (.int (Int32.ofNat m)) ∧ zBs (zyEl (zymr r c) B H) n m ∧ zyJb (zyEl (zymr r c) B s.heap) (zyEl (zymr r c) B H) ∧ zLv (zyEl (zymr r c) B s.heap) m ∧ zWl (zyEl (zymr r c) B s.heap) m ∧ n ≤ 661) ∧ (2 = 6 → zyJb (zyEl (zymr r c) B s.heap) (zyEl (zymr r c) B H)) ∧ (2 = 7 → zyJb (zyEl (zymr r c) B s.heap) (zyEl (zymr r c) B H)) := hI
      obtain ⟨hF, hB, hM⟩ := hXs
      have hEE : (zyEl (zymr r c) B H2) = (zyEl (zymr r c) B H) := zyfr0 hfr
      have ex := List.mem_singleton.mp hx
      subst ex
      have hI := hI.2.2.1 rfl
      obtain ⟨n, m, hm, hms, hbs, i1, hv, hw, hn⟩ := hI
      refine zyCa0 hRu hIH hAt hB hjw (ix := 252) (ax := 3840) rfl rfl rfl hmejw ⟨rfl, rfl, rfl, rfl⟩ (by decide) [0, 0] rfl (by decide) rfl ⟨3, by decide⟩ [595] rfl rfl rfl rfl ?_ ?_
      · show zyΦwd 300 zLv [Int32.ofNat 0, Int32.ofNat 0] _
        rw [hEE]
        exact ⟨n, m, hbs, by omega, zLv_jb i1 hv⟩
      · intro E3 vo hT3 hΨ
        have hΨ : zyΨwd 300 [Int32.ofNat 0, Int32.ofNat 0] _ E3 vo := hΨ
        rw [hEE] at hΨ
        obtain ⟨ev, q1, q2⟩ := hΨ
        obtain ⟨n', q3, q4⟩ := q2 n m hbs (by omega)
        refine ⟨ev, ⟨fun h => absurd (show 3 = 0 from h) (by decide), fun h => absurd (show 3 = 1 from h) (by decide), fun h => absurd (show 3 = 2 from h) (by decide), fun _ => ⟨n', m, hm, hms, q4, zyJb_jo i1 q1, hv, hw, by omega⟩, fun h => absurd (show 3 = 4 from h) (by decide), fun h => absurd (show 3 = 5 from h) (by decide), fun h => absurd (show 3 = 6 from h) (by decide), fun h => absurd (show 3 = 7 from h) (by decide)⟩, ?_⟩
        show 17 < 18
        decide
    · have hx : x ∈ [zxge_dx0] := hx
      have hg : ∀ k, k < 1 → ρ2 k = ρ k := hag
      have hI := hInv
      have hI : (3 = 0 → (zyEl (zymr r c) B H) = (zyEl (zymr r c) B s.heap)) ∧ (3 = 1 → (zyEl (zymr r c) B H) = (zyEl (zymr r c) B s.heap) ∧ (ρ 1 = 0 ∨ ∀ m : Nat, m ≤ 8 → (zyEl (zymr r c) B s.heap) 75 2 = some (.int (Int32.ofNat m)) → zWl (zyEl (zymr r c) B s.heap) m)) ∧ (3 = 2 → ∃ n m : Nat, m ≤ 8 ∧ (zyEl (zymr r c) B s.heap) 75 2 = some (.int (Int32.ofNat m)) ∧ zBs (zyEl (zymr r c) B H) n m ∧ zyJb (zyEl (zymr r c) B s.heap) (zyEl (zymr r c) B H) ∧ zLv (zyEl (zymr r c) B s.heap) m ∧ zWl (zyEl (zymr r c) B s.heap) m ∧ n ≤ 0) ∧ (3 = 3 → ∃ n m : Nat, m ≤ 8 ∧ (zyEl (zymr r c) B s.heap) 75 2 = some (.int (Int32.ofNat m)) ∧ zBs (zyEl (zymr r c) B H) n m ∧ zyJb (zyEl (zymr r c) B s.heap) (zyEl (zymr r c) B H) ∧ zLv (zyEl (zymr r c) B s.heap) m ∧ zWl (zyEl (zymr r c) B s.heap) m ∧ n ≤ 300) ∧ (3 = 4 → ∃ n m : Nat, m ≤ 8 ∧ (zyEl (zymr r c) B s.heap) 75 2 = some (.int (Int32.ofNat m)) ∧ zBs (zyEl (zymr r c) B H) n m ∧ zyJb (zyEl (zymr r c) B s.heap) (zyEl (zymr r c) B H) ∧ zLv (zyEl (zymr r c) B s.heap) m ∧ zWl (zyEl (zymr r c) B s.heap) m ∧ n ≤ 360) ∧ (3 = 5 → ∃ n m : Nat, m ≤ 8 ∧ (zyEl (zymr r c) B s.heap) 75 2 = some (.int (Int32.ofNat m)) ∧ zBs (zyEl (zymr r c) B H) n m ∧ zyJb (zyEl (zymr r c) B s.heap) (zyEl (zymr r c) B H) ∧ zLv (zyEl (zymr r c) B s.heap) m ∧ zWl (zyEl (zymr r c) B s.heap) m ∧ n ≤ 661) ∧ (3 = 6 → zyJb (zyEl (zymr r c) B s.heap) (zyEl (zymr r c) B H)) ∧ (3 = 7 → zyJb (zyEl (zymr r c) B s.heap) (zyEl (zymr r c) B H)) := hI
      obtain ⟨hF, hB, hM⟩ := hXs
      have hEE : (zyEl (zymr r c) B H2) = (zyEl (zymr r c) B H) := zyfr0 hfr
      have ex := List.mem_singleton.mp hx
      subst ex
      have hI := hI.2.2.2.1 rfl
      obtain ⟨n, m, hm, hms, hbs, i1, hv, hw, hn⟩ := hI
      refine zyCa0 hRu hIH hAt hB hjd (ix := 265) (ax := 3856) rfl rfl rfl hmejd ⟨rfl, rfl, rfl, rfl⟩ (by decide) [] rfl (by decide) rfl ⟨4, by decide⟩ [595] rfl rfl rfl rfl ?_ ?_
      · show zyΦwd 60 zWl [] _
        rw [hEE]
        exact ⟨n, m, hbs, by omega, zWl_jb i1 hw⟩
      · intro E3 vo hT3 hΨ
        have hΨ : zyΨwd 60 [] _ E3 vo := hΨ
        rw [hEE] at hΨ
        obtain ⟨ev, q1, q2⟩ := hΨ
        obtain ⟨n', q3, q4⟩ := q2 n m hbs (by omega)
        refine ⟨ev, ⟨fun h => absurd (show 4 = 0 from h) (by decide), fun h => absurd (show 4 = 1 from h) (by decide), fun h => absurd (show 4 = 2 from h) (by decide), fun h => absurd (show 4 = 3 from h) (by decide), fun _ => ⟨n', m, hm, hms, q4, zyJb_jo i1 q1, hv, hw, by omega⟩, fun h => absurd (show 4 = 5 from h) (by decide), fun h => absurd (show 4 = 6 from h) (by decide), fun h => absurd (show 4 = 7 from h) (by decide)⟩, ?_⟩
        show 16 < 17
        decide
    · have hx : x ∈ [zxge_ex0] := hx
      have hg : ∀ k, k < 1 → ρ2 k = ρ k := hag
      have hI := hInv
      have hI : (4 = 0 → (zyEl (zymr r c) B H) = (zyEl (zymr r c) B s.heap)) ∧ (4 = 1 → (zyEl (zymr r c) B H) = (zyEl (zymr r c) B s.heap) ∧ (ρ 1 = 0 ∨ ∀ m : Nat, m ≤ 8 → (zyEl (zymr r c) B s.heap) 75 2 = some (.int (Int32.ofNat m)) → zWl (zyEl (zymr r c) B s.heap) m)) ∧ (4 = 2 → ∃ n m : Nat, m ≤ 8 ∧ (zyEl (zymr r c) B s.heap) 75 2 = some (.int (Int32.ofNat m)) ∧ zBs (zyEl (zymr r c) B H) n m ∧ zyJb (zyEl (zymr r c) B s.heap) (zyEl (zymr r c) B H) ∧ zLv (zyEl (zymr r c) B s.heap) m ∧ zWl (zyEl (zymr r c) B s.heap) m ∧ n ≤ 0) ∧ (4 = 3 → ∃ n m : Nat, m ≤ 8 ∧ (zyEl (zymr r c) B s.heap) 75 2 = some (.int (Int32.ofNat m)) ∧ zBs (zyEl (zymr r c) B H) n m ∧ zyJb (zyEl (zymr r c) B s.heap) (zyEl (zymr r c) B H) ∧ zLv (zyEl (zymr r c) B s.heap) m ∧ zWl (zyEl (zymr r c) B s.heap) m ∧ n ≤ 300) ∧ (4 = 4 → ∃ n m : Nat, m ≤ 8 ∧ (zyEl (zymr r c) B s.heap) 75 2 = some (.int (Int32.ofNat m)) ∧ zBs (zyEl (zymr r c) B H) n m ∧ zyJb (zyEl (zymr r c) B s.heap) (zyEl (zymr r c) B H) ∧ zLv (zyEl (zymr r c) B s.heap) m ∧ zWl (zyEl (zymr r c) B s.heap) m ∧ n ≤ 360) ∧ (4 = 5 → ∃ n m : Nat, m ≤ 8 ∧ (zyEl (zymr r c) B s.heap) 75 2 = some (.int (Int32.ofNat m)) ∧ zBs (zyEl (zymr r c) B H) n m ∧ zyJb (zyEl (zymr r c) B s.heap) (zyEl (zymr r c) B H) ∧ zLv (zyEl (zymr r c) B s.heap) m ∧ zWl (zyEl (zymr r c) B s.heap) m ∧ n ≤ 661) ∧ (4 = 6 → zyJb (zyEl (zymr r c) B s.heap) (zyEl (zymr r c) B H)) ∧ (4 = 7 → zyJb (zyEl (zymr r c) B s.heap) (zyEl (zymr r c) B H)) := hI
      obtain ⟨hF, hB, hM⟩ := hXs
      have hEE : (zyEl (zymr r c) B H2) = (zyEl (zymr r c) B H) := zyfr0 hfr
      have ex := List.mem_singleton.mp hx
      subst ex
      have hI := hI.2.2.2.2.1 rfl
      obtain ⟨n, m, hm, hms, hbs, i1, hv, hw, hn⟩ := hI
      refine zyCa0 hRu hIH hAt hB huw (ix := 262) (ax := 3888) rfl rfl rfl hmeuw ⟨rfl, rfl, rfl, rfl⟩ (by decide) [] rfl (by decide) rfl ⟨5, by decide⟩ [595] rfl rfl rfl rfl ?_ ?_
      · show zyΦwd 300 zLv [] _
        rw [hEE]
        exact ⟨n, m, hbs, by omega, zLv_jb i1 hv⟩
      · intro E3 vo hT3 hΨ
        have hΨ : zyΨwd 301 [] _ E3 vo := hΨ
        rw [hEE] at hΨ
        obtain ⟨ev, q1, q2⟩ := hΨ
        obtain ⟨n', q3, q4⟩ := q2 n m hbs (by omega)
        refine ⟨ev, ⟨fun h => absurd (show 5 = 0 from h) (by decide), fun h => absurd (show 5 = 1 from h) (by decide), fun h => absurd (show 5 = 2 from h) (by decide), fun h => absurd (show 5 = 3 from h) (by decide), fun h => absurd (show 5 = 4 from h) (by decide), fun _ => ⟨n', m, hm, hms, q4, zyJb_jo i1 q1, hv, hw, by omega⟩, fun h => absurd (show 5 = 6 from h) (by decide), fun h => absurd (show 5 = 7 from h) (by decide)⟩, ?_⟩
        show 15 < 16
        decide
    · have hx : x ∈ [zxge_fx0] := hx
      have hg : ∀ k, k < 1 → ρ2 k = ρ k := hag
      have hI := hInv
      have hI : (5 = 0 → (zyEl (zymr r c) B H) = (zyEl (zymr r c) B s.heap)) ∧ (5 = 1 → (zyEl (zymr r c) B H) = (zyEl (zymr r c) B s.heap) ∧ (ρ 1 = 0 ∨ ∀ m : Nat, m ≤ 8 → (zyEl (zymr r c) B s.heap) 75 2 = some (.int (Int32.ofNat m)) → zWl (zyEl (zymr r c) B s.heap) m)) ∧ (5 = 2 → ∃ n m : Nat, m ≤ 8 ∧ (zyEl (zymr r c) B s.heap) 75 2 = some (.int (Int32.ofNat m)) ∧ zBs (zyEl (zymr r c) B H) n m ∧ zyJb (zyEl (zymr r c) B s.heap) (zyEl (zymr r c) B H) ∧ zLv (zyEl (zymr r c) B s.heap) m ∧ zWl (zyEl (zymr r c) B s.heap) m ∧ n ≤ 0) ∧ (5 = 3 → ∃ n m : Nat, m ≤ 8 ∧ (zyEl (zymr r c) B s.heap) 75 2 = some (.int (Int32.ofNat m)) ∧ zBs (zyEl (zymr r c) B H) n m ∧ zyJb (zyEl (zymr r c) B s.heap) (zyEl (zymr r c) B H) ∧ zLv (zyEl (zymr r c) B s.heap) m ∧ zWl (zyEl (zymr r c) B s.heap) m ∧ n ≤ 300) ∧ (5 = 4 → ∃ n m : Nat, m ≤ 8 ∧ (zyEl (zymr r c) B s.heap) 75 2 = some (.int (Int32.ofNat m)) ∧ zBs (zyEl (zymr r c) B H) n m ∧ zyJb (zyEl (zymr r c) B s.heap) (zyEl (zymr r c) B H) ∧ zLv (zyEl (zymr r c) B s.heap) m ∧ zWl (zyEl (zymr r c) B s.heap) m ∧ n ≤ 360) ∧ (5 = 5 → ∃ n m : Nat, m ≤ 8 ∧ (zyEl (zymr r c) B s.heap) 75 2 = some (.int (Int32.ofNat m)) ∧ zBs (zyEl (zymr r c) B H) n m ∧ zyJb (zyEl (zymr r c) B s.heap) (zyEl (zymr r c) B H) ∧ zLv (zyEl (zymr r c) B s.heap) m ∧ zWl (zyEl (zymr r c) B s.heap) m ∧ n ≤ 661) ∧ (5 = 6 → zyJb (zyEl (zymr r c) B s.heap) (zyEl (zymr r c) B H)) ∧ (5 = 7 → zyJb (zyEl (zymr r c) B s.heap) (zyEl (zymr r c) B H)) := hI
      obtain ⟨hF, hB, hM⟩ := hXs
      have hEE : (zyEl (zymr r c) B H2) = (zyEl (zymr r c) B H) := zyfr0 hfr
      have ex := List.mem_singleton.mp hx
      subst ex
      have hI := hI.2.2.2.2.2.1 rfl
      obtain ⟨n, m, hm, hms, hbs, i1, hv, hw, hn⟩ := hI
      refine zyCa0 hRu hIH hAt hB hud (ix := 256) (ax := 3872) rfl rfl rfl hmeud ⟨rfl, rfl, rfl, rfl⟩ (by decide) [] rfl (by decide) rfl ⟨6, by decide⟩ [595] rfl rfl rfl rfl ?_ ?_
      · show zyΦwd 60 zWl [] _
        rw [hEE]
        exact ⟨n, m, hbs, by omega, zWl_jb i1 hw⟩
      · intro E3 vo hT3 hΨ
        have hΨ : zyΨwd 61 [] _ E3 vo := hΨ
        rw [hEE] at hΨ
        obtain ⟨ev, q1, q2⟩ := hΨ
        obtain ⟨n', q3, q4⟩ := q2 n m hbs (by omega)
        refine ⟨ev, ⟨fun h => absurd (show 6 = 0 from h) (by decide), fun h => absurd (show 6 = 1 from h) (by decide), fun h => absurd (show 6 = 2 from h) (by decide), fun h => absurd (show 6 = 3 from h) (by decide), fun h => absurd (show 6 = 4 from h) (by decide), fun h => absurd (show 6 = 5 from h) (by decide), fun _ => zyJb_jo i1 q1, fun h => absurd (show 6 = 7 from h) (by decide)⟩, ?_⟩
        show 14 < 15
        decide
    · have hx : x ∈ [zxge_gx0] := hx
      have hg : ∀ k, k < 1 → ρ2 k = ρ k := hag
      have hI := hInv
      have hI : (6 = 0 → (zyEl (zymr r c) B H) = (zyEl (zymr r c) B s.heap)) ∧ (6 = 1 → (zyEl (zymr r c) B H) = (zyEl (zymr r c) B s.heap) ∧ (ρ 1 = 0 ∨ ∀ m : Nat, m ≤ 8 → (zyEl (zymr r c) B s.heap) 75 2 = some (.int (Int32.ofNat m)) → zWl (zyEl (zymr r c) B s.heap) m)) ∧ (6 = 2 → ∃ n m : Nat, m ≤ 8 ∧ (zyEl (zymr r c) B s.heap) 75 2 = some (.int (Int32.ofNat m)) ∧ zBs (zyEl (zymr r c) B H) n m ∧ zyJb (zyEl (zymr r c) B s.heap) (zyEl (zymr r c) B H) ∧ zLv (zyEl (zymr r c) B s.heap) m ∧ zWl (zyEl (zymr r c) B s.heap) m ∧ n ≤ 0) ∧ (6 = 3 → ∃ n m : Nat, m ≤ 8 ∧ (zyEl (zymr r c) B s.heap) 75 2 = some (.int (Int32.ofNat m)) ∧ zBs (zyEl (zymr r c) B H) n m ∧ zyJb (zyEl (zymr r c) B s.heap) (zyEl (zymr r c) B H) ∧ zLv (zyEl (zymr r c) B s.heap) m ∧ zWl (zyEl (zymr r c) B s.heap) m ∧ n ≤ 300) ∧ (6 = 4 → ∃ n m : Nat, m ≤ 8 ∧ (zyEl (zymr r c) B s.heap) 75 2 = some (.int (Int32.ofNat m)) ∧ zBs (zyEl (zymr r c) B H) n m ∧ zyJb (zyEl (zymr r c) B s.heap) (zyEl (zymr r c) B H) ∧ zLv (zyEl (zymr r c) B s.heap) m ∧ zWl (zyEl (zymr r c) B s.heap) m ∧ n ≤ 360) ∧ (6 = 5 → ∃ n m : Nat, m ≤ 8 ∧ (zyEl (zymr r c) B s.heap) 75 2 = some (.int (Int32.ofNat m)) ∧ zBs (zyEl (zymr r c) B H) n m ∧ zyJb (zyEl (zymr r c) B s.heap) (zyEl (zymr r c) B H) ∧ zLv (zyEl (zymr r c) B s.heap) m ∧ zWl (zyEl (zymr r c) B s.heap) m ∧ n ≤ 661) ∧ (6 = 6 → zyJb (zyEl (zymr r c) B s.heap) (zyEl (zymr r c) B H)) ∧ (6 = 7 → zyJb (zyEl (zymr r c) B s.heap) (zyEl (zymr r c) B H)) := hI
      obtain ⟨hF, hB, hM⟩ := hXs
      have hEE : (zyEl (zymr r c) B H2) = (zyEl (zymr r c) B H) := zyfr0 hfr
      have ex := List.mem_singleton.mp hx
      subst ex
      have hI := hI.2.2.2.2.2.2.1 rfl
      have i1 := hI
      refine zyCa1 hRu hIH hAt hB hnb (ix := 259) (ax := 3824) rfl rfl rfl hmenb ⟨rfl, rfl, rfl, rfl⟩ (by decide) [] rfl (by decide) rfl ⟨7, by decide⟩ [595] [(0, 4294967295)] 2147483648 2147483649 rfl (by decide) rfl rfl rfl rfl rfl trivial ?_
      intro E3 vo hT3 hΨ
      obtain ⟨e3, z, ez, hz⟩ := (show zyΨie [] _ E3 vo from hΨ)
      rw [hEE] at e3
      subst e3
      refine ⟨z, ez, ?_, ?_, ⟨fun h => absurd (show 7 = 0 from h) (by decide), fun h => absurd (show 7 = 1 from h) (by decide), fun h => absurd (show 7 = 2 from h) (by decide), fun h => absurd (show 7 = 3 from h) (by decide), fun h => absurd (show 7 = 4 from h) (by decide), fun h => absurd (show 7 = 5 from h) (by decide), fun h => absurd (show 7 = 6 from h) (by decide), fun _ => i1⟩, ?_⟩
      · rcases hz with rfl | rfl <;> decide
      · rcases hz with rfl | rfl <;> decide
      · show 13 < 14
        decide
    · cases hx
  · intro as E0 E E2 hT0 hΦ hlen i ρ hT hInv x hx ρ2 N2 B vo hXs hag hfr hT2 hvo
    rcases i with ⟨i, hi⟩
    have hi2 : i = 0 ∨ i = 1 ∨ i = 2 ∨ i = 3 ∨ i = 4 ∨ i = 5 ∨ i = 6 ∨ i = 7 := by omega
    rcases hi2 with rfl | rfl | rfl | rfl | rfl | rfl | rfl | rfl
    · cases hx
    · have hx : x ∈ [zxge_br0] := hx
      have hg : ∀ k, k < 2 → ρ2 k = ρ k := hag
      have hI := hInv
      have hI : (1 = 0 → E = E0) ∧ (1 = 1 → E = E0 ∧ (ρ 1 = 0 ∨ ∀ m : Nat, m ≤ 8 → E0 75 2 = some (.int (Int32.ofNat m)) → zWl E0 m)) ∧ (1 = 2 → ∃ n m : Nat, m ≤ 8 ∧ E0 75 2 = some (.int (Int32.ofNat m)) ∧ zBs E n m ∧ zyJb E0 E ∧ zLv E0 m ∧ zWl E0 m ∧ n ≤ 0) ∧ (1 = 3 → ∃ n m : Nat, m ≤ 8 ∧ E0 75 2 = some (.int (Int32.ofNat m)) ∧ zBs E n m ∧ zyJb E0 E ∧ zLv E0 m ∧ zWl E0 m ∧ n ≤ 300) ∧ (1 = 4 → ∃ n m : Nat, m ≤ 8 ∧ E0 75 2 = some (.int (Int32.ofNat m)) ∧ zBs E n m ∧ zyJb E0 E ∧ zLv E0 m ∧ zWl E0 m ∧ n ≤ 360) ∧ (1 = 5 → ∃ n m : Nat, m ≤ 8 ∧ E0 75 2 = some (.int (Int32.ofNat m)) ∧ zBs E n m ∧ zyJb E0 E ∧ zLv E0 m ∧ zWl E0 m ∧ n ≤ 661) ∧ (1 = 6 → zyJb E0 E) ∧ (1 = 7 → zyJb E0 E) := hI
      obtain ⟨hF, hB, hM⟩ := hXs
      have hEE : E2 = E := zyfr0 hfr
      have ex := List.mem_singleton.mp hx
      subst ex
      have hI := hI.2.1 rfl
      rw [hEE, hI.1]
      exact ⟨fun _ _ _ _ _ => rfl, 0, zyvo_1 (c := 0) (by decide) (show zyvo (zyXn B ρ2 N2) [0] vo from hvo), Or.inl rfl⟩
    · cases hx
    · cases hx
    · cases hx
    · cases hx
    · cases hx
    · have hx : x ∈ [zxge_hr0] := hx
      have hg : ∀ k, k < 2 → ρ2 k = ρ k := hag
      have hI := hInv
      have hI : (7 = 0 → E = E0) ∧ (7 = 1 → E = E0 ∧ (ρ 1 = 0 ∨ ∀ m : Nat, m ≤ 8 → E0 75 2 = some (.int (Int32.ofNat m)) → zWl E0 m)) ∧ (7 = 2 → ∃ n m : Nat, m ≤ 8 ∧ E0 75 2 = some (.int (Int32.ofNat m)) ∧ zBs E n m ∧ zyJb E0 E ∧ zLv E0 m ∧ zWl E0 m ∧ n ≤ 0) ∧ (7 = 3 → ∃ n m : Nat, m ≤ 8 ∧ E0 75 2 = some (.int (Int32.ofNat m)) ∧ zBs E n m ∧ zyJb E0 E ∧ zLv E0 m ∧ zWl E0 m ∧ n ≤ 300) ∧ (7 = 4 → ∃ n m : Nat, m ≤ 8 ∧ E0 75 2 = some (.int (Int32.ofNat m)) ∧ zBs E n m ∧ zyJb E0 E ∧ zLv E0 m ∧ zWl E0 m ∧ n ≤ 360) ∧ (7 = 5 → ∃ n m : Nat, m ≤ 8 ∧ E0 75 2 = some (.int (Int32.ofNat m)) ∧ zBs E n m ∧ zyJb E0 E ∧ zLv E0 m ∧ zWl E0 m ∧ n ≤ 661) ∧ (7 = 6 → zyJb E0 E) ∧ (7 = 7 → zyJb E0 E) := hI
      obtain ⟨hF, hB, hM⟩ := hXs
      have hEE : E2 = E := zyfr0 hfr
      have ex := List.mem_singleton.mp hx
      subst ex
      have hI := hI.2.2.2.2.2.2.2 rfl
      have hb : 2147483648 ≤ zB (ρ2 1) ∧ zB (ρ2 1) ≤ 2147483649 := zyXb hB 0 rfl
      rw [hEE]
      exact ⟨hI, ρ2 1, zyvo_1 (c := 34359738369) (by decide) (show zyvo (zyXn B ρ2 N2) [34359738369] vo from hvo), zybool hb.1 hb.2⟩
theorem zyso_run : zyAllP (fun r c => zyrS (zymr r c) zxi246 (246, 0, 0, 2, 0) 8 zpso (fun _ _ => []) zFso zSso zXso zRso 5) = true := by decide +kernel
theorem zyisItselfSo {l : Launch} {r c : Nat} (h1 : 1 ≤ r) (h2 : r ≤ 4) (h3 : 1 ≤ c) (h4 : c ≤ 5) {en : zEn} {me : zMe} (hen : zG zxMeta 246 = some en) (hme : zG zMeth 246 = some me) : zyHc l (zymr r c) en me 8 2 zyΦbr zyΨbr := by
  have een : zG zxMeta 246 = some (zxi246, 3, 3, 11, 246, 0, 0, 2, 0) := rfl
  obtain ⟨me1, hme1, hOK⟩ := zall hen
  rw [hme] at hme1
  cases hme1
  rw [een] at hen
  cases hen
  have hr := zyAllP_iff zyso_run h1 h2 h3 h4
  obtain ⟨mebb, hmebb, -⟩ := zall (show zG zxMeta 238 = some (zxi238, 1, 1, 11, 238, 0, 0, 0, 0) from rfl)
  have hbb := zybeginsBraid (l := l) h1 h2 h3 h4 (show zG zxMeta 238 = some (zxi238, 1, 1, 11, 238, 0, 0, 0, 0) from rfl) hmebb
  obtain ⟨menb, hmenb, -⟩ := zall (show zG zxMeta 239 = some (zxi239, 1, 1, 11, 239, 0, 0, 2, 0) from rfl)
  have hnb := zyisNoBraid (l := l) h1 h2 h3 h4 (show zG zxMeta 239 = some (zxi239, 1, 1, 11, 239, 0, 0, 2, 0) from rfl) hmenb
  obtain ⟨mejw, hmejw, -⟩ := zall (show zG zxMeta 240 = some (zxi240, 3, 5, 11, 240, 0, 0, 0, 0) from rfl)
  have hjw := zyjoinsWord (l := l) h1 h2 h3 h4 (show zG zxMeta 240 = some (zxi240, 3, 5, 11, 240, 0, 0, 0, 0) from rfl) hmejw
  obtain ⟨mejd, hmejd, -⟩ := zall (show zG zxMeta 241 = some (zxi241, 1, 2, 11, 241, 0, 0, 0, 0) from rfl)
  have hjd := zyjoinsWished (l := l) h1 h2 h3 h4 (show zG zxMeta 241 = some (zxi241, 1, 2, 11, 241, 0, 0, 0, 0) from rfl) hmejd
  obtain ⟨meud, hmeud, -⟩ := zall (show zG zxMeta 242 = some (zxi242, 1, 2, 11, 242, 0, 0, 0, 0) from rfl)
  have hud := zyunjoinsWished (l := l) h1 h2 h3 h4 (show zG zxMeta 242 = some (zxi242, 1, 2, 11, 242, 0, 0, 0, 0) from rfl) hmeud
  obtain ⟨meuw, hmeuw, -⟩ := zall (show zG zxMeta 243 = some (zxi243, 1, 2, 11, 243, 0, 0, 0, 0) from rfl)
  have huw := zyunjoinsWord (l := l) h1 h2 h3 h4 (show zG zxMeta 243 = some (zxi243, 1, 2, 11, 243, 0, 0, 0, 0) from rfl) hmeuw
  obtain ⟨mecw, hmecw, -⟩ := zall (show zG zxMeta 244 = some (zxi244, 1, 3, 11, 244, 0, 0, 2, 0) from rfl)
  have hcw := zycanBeWished (l := l) h1 h2 h3 h4 (show zG zxMeta 244 = some (zxi244, 1, 3, 11, 244, 0, 0, 2, 0) from rfl) hmecw
  obtain ⟨mejo, hmejo, -⟩ := zall (show zG zxMeta 237 = some (zxi237, 2, 5, 11, 237, 0, 0, 0, 0) from rfl)
  have hjo := zyjoins (l := l) h1 h2 h3 h4 (show zG zxMeta 237 = some (zxi237, 2, 5, 11, 237, 0, 0, 0, 0) from rfl) hmejo
  refine zycutS (mi := zymr r c) hOK rfl rfl ⟨_, rfl, rfl⟩ (ι := Fin 5) (fun i => zpso i.val) (fun _ _ => []) (fun i => zFso i.val) (fun i => zSso i.val) (fun i => zXso i.val) (fun i => zRso i.val) (fun i y2 ct en2 me2 h => by cases h) 200000 (fun i => zyAll_iff hr i.val i.isLt) ⟨0, by decide⟩ ⟨rfl, rfl, rfl, rfl⟩ ⟨by decide, by decide⟩
    (fun i as E0 ρ E => (i.val = 0 → E = E0) ∧ (i.val = 1 → ∃ n m : Nat, m ≤ 8 ∧ E0 75 2 = some (.int (Int32.ofNat m)) ∧ zBs E n m ∧ zyJb E0 E ∧ zLv E0 m ∧ n ≤ 0) ∧ (i.val = 2 → ∃ n m : Nat, m ≤ 8 ∧ E0 75 2 = some (.int (Int32.ofNat m)) ∧ zBs E n m ∧ zyJb E0 E ∧ zLv E0 m ∧ n ≤ 300) ∧ (i.val = 3 → zyJb E0 E) ∧ (i.val = 4 → zyJb E0 E)) (fun i as E0 ρ E => 20 - i.val) ?_ ?_ ?_
  · intro as E hlen hT hΦ
    exact ⟨zEnv_c (zyfull _) (zEnv_c (zyfull _) (zEnv_c (zyfull _) zEnv_nil)), ⟨fun _ => rfl, fun h => absurd (show 0 = 1 from h) (by decide), fun h => absurd (show 0 = 2 from h) (by decide), fun h => absurd (show 0 = 3 from h) (by decide), fun h => absurd (show 0 = 4 from h) (by decide)⟩⟩
  · intro as B s Wg hRu hT0 hΦ hlen i ρ H hT hInv hIH x hx ρ2 N2 H2 locs lsB stA hAt hXs hag hfr hT2
    rcases i with ⟨i, hi⟩
    have hi2 : i = 0 ∨ i = 1 ∨ i = 2 ∨ i = 3 ∨ i = 4 := by omega
    rcases hi2 with rfl | rfl | rfl | rfl | rfl
    · have hx : x ∈ [zxso_ax0] := hx
      have hg : ∀ k, k < 3 → ρ2 k = ρ k := hag
      have hI := hInv
      have hI : (0 = 0 → (zyEl (zymr r c) B H) = (zyEl (zymr r c) B s.heap)) ∧ (0 = 1 → ∃ n m : Nat, m ≤ 8 ∧ (zyEl (zymr r c) B s.heap) 75 2 = some (.int (Int32.ofNat m)) ∧ zBs (zyEl (zymr r c) B H) n m ∧ zyJb (zyEl (zymr r c) B s.heap) (zyEl (zymr r c) B H) ∧ zLv (zyEl (zymr r c) B s.heap) m ∧ n ≤ 0) ∧ (0 = 2 → ∃ n m : Nat, m ≤ 8 ∧ (zyEl (zymr r c) B s.heap) 75 2 = some (.int (Int32.ofNat m)) ∧ zBs (zyEl (zymr r c) B H) n m ∧ zyJb (zyEl (zymr r c) B s.heap) (zyEl (zymr r c) B H) ∧ zLv (zyEl (zymr r c) B s.heap) m ∧ n ≤ 300) ∧ (0 = 3 → zyJb (zyEl (zymr r c) B s.heap) (zyEl (zymr r c) B H)) ∧ (0 = 4 → zyJb (zyEl (zymr r c) B s.heap) (zyEl (zymr r c) B H)) := hI
      obtain ⟨hF, hB, hM⟩ := hXs
      have hEE : (zyEl (zymr r c) B H2) = (zyEl (zymr r c) B H) := zyfr0 hfr
      have ex := List.mem_singleton.mp hx
      subst ex
      have hI := hI.1 rfl
      have hE0 := hI
      obtain ⟨m0, m1, m2, m3, m4⟩ := hΦ
      refine zyCa0 hRu hIH hAt hB hbb (ix := 249) (ax := 3808) rfl rfl rfl hmebb ⟨rfl, rfl, rfl, rfl⟩ (by decide) [] rfl (by decide) rfl ⟨1, by decide⟩ [595, 34359738369, 68719476737] rfl rfl rfl rfl trivial ?_
      intro E3 vo hT3 hΨ
      obtain ⟨ev, q1, q2⟩ := (show zyΨbb [] _ E3 vo from hΨ)
      rw [hEE, hE0] at q1 q2
      refine ⟨ev, ⟨fun h => absurd (show 1 = 0 from h) (by decide), fun _ => ⟨0, m0, m1, m2, q2 m0 m1 m2, q1, m3, by omega⟩, fun h => absurd (show 1 = 2 from h) (by decide), fun h => absurd (show 1 = 3 from h) (by decide), fun h => absurd (show 1 = 4 from h) (by decide)⟩, ?_⟩
      show 19 < 20
      decide
    · have hx : x ∈ [zxso_bx0] := hx
      have hg : ∀ k, k < 3 → ρ2 k = ρ k := hag
      have hI := hInv
      have hI : (1 = 0 → (zyEl (zymr r c) B H) = (zyEl (zymr r c) B s.heap)) ∧ (1 = 1 → ∃ n m : Nat, m ≤ 8 ∧ (zyEl (zymr r c) B s.heap) 75 2 = some (.int (Int32.ofNat m)) ∧ zBs (zyEl (zymr r c) B H) n m ∧ zyJb (zyEl (zymr r c) B s.heap) (zyEl (zymr r c) B H) ∧ zLv (zyEl (zymr r c) B s.heap) m ∧ n ≤ 0) ∧ (1 = 2 → ∃ n m : Nat, m ≤ 8 ∧ (zyEl (zymr r c) B s.heap) 75 2 = some (.int (Int32.ofNat m)) ∧ zBs (zyEl (zymr r c) B H) n m ∧ zyJb (zyEl (zymr r c) B s.heap) (zyEl (zymr r c) B H) ∧ zLv (zyEl (zymr r c) B s.heap) m ∧ n ≤ 300) ∧ (1 = 3 → zyJb (zyEl (zymr r c) B s.heap) (zyEl (zymr r c) B H)) ∧ (1 = 4 → zyJb (zyEl (zymr r c) B s.heap) (zyEl (zymr r c) B H)) := hI
      obtain ⟨hF, hB, hM⟩ := hXs
      have hEE : (zyEl (zymr r c) B H2) = (zyEl (zymr r c) B H) := zyfr0 hfr
      have ex := List.mem_singleton.mp hx
      subst ex
      have hI := hI.2.1 rfl
      obtain ⟨n, m, hm, hms, hbs, i1, hv, hn⟩ := hI
      refine zyCa0 hRu hIH hAt hB hjw (ix := 252) (ax := 3840) rfl rfl rfl hmejw ⟨rfl, rfl, rfl, rfl⟩ (by decide) [34359738369, 68719476737] rfl (by decide) rfl ⟨2, by decide⟩ [595, 0, 0] rfl rfl rfl rfl ?_ ?_
      · show zyΦwd 300 zLv [ρ2 1, ρ2 2] _
        rw [hEE]
        exact ⟨n, m, hbs, by omega, zLv_jb i1 hv⟩
      · intro E3 vo hT3 hΨ
        have hΨ : zyΨwd 300 [ρ2 1, ρ2 2] _ E3 vo := hΨ
        rw [hEE] at hΨ
        obtain ⟨ev, q1, q2⟩ := hΨ
        obtain ⟨n', q3, q4⟩ := q2 n m hbs (by omega)
        refine ⟨ev, ⟨fun h => absurd (show 2 = 0 from h) (by decide), fun h => absurd (show 2 = 1 from h) (by decide), fun _ => ⟨n', m, hm, hms, q4, zyJb_jo i1 q1, hv, by omega⟩, fun h => absurd (show 2 = 3 from h) (by decide), fun h => absurd (show 2 = 4 from h) (by decide)⟩, ?_⟩
        show 18 < 19
        decide
    · have hx : x ∈ [zxso_cx0] := hx
      have hg : ∀ k, k < 3 → ρ2 k = ρ k := hag
      have hI := hInv
      have hI : (2 = 0 → (zyEl (zymr r c) B H) = (zyEl (zymr r c) B s.heap)) ∧ (2 = 1 → ∃ n m : Nat, m ≤ 8 ∧ (zyEl (zymr r c) B s.heap) 75 2 = some (.int (Int32.ofNat m)) ∧ zBs (zyEl (zymr r c) B H) n m ∧ zyJb (zyEl (zymr r c) B s.heap) (zyEl (zymr r c) B H) ∧ zLv (zyEl (zymr r c) B s.heap) m ∧ n ≤ 0) ∧ (2 = 2 → ∃ n m : Nat, m ≤ 8 ∧ (zyEl (zymr r c) B s.heap) 75 2 = some (.int (Int32.ofNat m)) ∧ zBs (zyEl (zymr r c) B H) n m ∧ zyJb (zyEl (zymr r c) B s.heap) (zyEl (zymr r c) B H) ∧ zLv (zyEl (zymr r c) B s.heap) m ∧ n ≤ 300) ∧ (2 = 3 → zyJb (zyEl (zymr r c) B s.heap) (zyEl (zymr r c) B H)) ∧ (2 = 4 → zyJb (zyEl (zymr r c) B s.heap) (zyEl (zymr r c) B H)) := hI
      obtain ⟨hF, hB, hM⟩ := hXs
      have hEE : (zyEl (zymr r c) B H2) = (zyEl (zymr r c) B H) := zyfr0 hfr
      have ex := List.mem_singleton.mp hx
      subst ex
      have hI := hI.2.2.1 rfl
      obtain ⟨n, m, hm, hms, hbs, i1, hv, hn⟩ := hI
      refine zyCa0 hRu hIH hAt hB huw (ix := 262) (ax := 3888) rfl rfl rfl hmeuw ⟨rfl, rfl, rfl, rfl⟩ (by decide) [] rfl (by decide) rfl ⟨3, by decide⟩ [595, 0, 0] rfl rfl rfl rfl ?_ ?_
      · show zyΦwd 300 zLv [] _
        rw [hEE]
        exact ⟨n, m, hbs, by omega, zLv_jb i1 hv⟩
      · intro E3 vo hT3 hΨ
        have hΨ : zyΨwd 301 [] _ E3 vo := hΨ
        rw [hEE] at hΨ
        obtain ⟨ev, q1, q2⟩ := hΨ
        obtain ⟨n', q3, q4⟩ := q2 n m hbs (by omega)
        refine ⟨ev, ⟨fun h => absurd (show 3 = 0 from h) (by decide), fun h => absurd (show 3 = 1 from h) (by decide), fun h => absurd (show 3 = 2 from h) (by decide), fun _ => zyJb_jo i1 q1, fun h => absurd (show 3 = 4 from h) (by decide)⟩, ?_⟩
        show 17 < 18
        decide
    · have hx : x ∈ [zxso_dx0] := hx
      have hg : ∀ k, k < 3 → ρ2 k = ρ k := hag
      have hI := hInv
      have hI : (3 = 0 → (zyEl (zymr r c) B H) = (zyEl (zymr r c) B s.heap)) ∧ (3 = 1 → ∃ n m : Nat, m ≤ 8 ∧ (zyEl (zymr r c) B s.heap) 75 2 = some (.int (Int32.ofNat m)) ∧ zBs (zyEl (zymr r c) B H) n m ∧ zyJb (zyEl (zymr r c) B s.heap) (zyEl (zymr r c) B H) ∧ zLv (zyEl (zymr r c) B s.heap) m ∧ n ≤ 0) ∧ (3 = 2 → ∃ n m : Nat, m ≤ 8 ∧ (zyEl (zymr r c) B s.heap) 75 2 = some (.int (Int32.ofNat m)) ∧ zBs (zyEl (zymr r c) B H) n m ∧ zyJb (zyEl (zymr r c) B s.heap) (zyEl (zymr r c) B H) ∧ zLv (zyEl (zymr r c) B s.heap) m ∧ n ≤ 300) ∧ (3 = 3 → zyJb (zyEl (zymr r c) B s.heap) (zyEl (zymr r c) B H)) ∧ (3 = 4 → zyJb (zyEl (zymr r c) B s.heap) (zyEl (zymr r c) B H)) := hI
      obtain ⟨hF, hB, hM⟩ := hXs
      have hEE : (zyEl (zymr r c) B H2) = (zyEl (zymr r c) B H) := zyfr0 hfr
      have ex := List.mem_singleton.mp hx
      subst ex
      have hI := hI.2.2.2.1 rfl
      have i1 := hI
      refine zyCa1 hRu hIH hAt hB hnb (ix := 259) (ax := 3824) rfl rfl rfl hmenb ⟨rfl, rfl, rfl, rfl⟩ (by decide) [] rfl (by decide) rfl ⟨4, by decide⟩ [595, 0, 0] [(0, 4294967295), (0, 4294967295), (0, 4294967295)] 2147483648 2147483649 rfl (by decide) rfl rfl rfl rfl rfl trivial ?_
      intro E3 vo hT3 hΨ
      obtain ⟨e3, z, ez, hz⟩ := (show zyΨie [] _ E3 vo from hΨ)
      rw [hEE] at e3
      subst e3
      refine ⟨z, ez, ?_, ?_, ⟨fun h => absurd (show 4 = 0 from h) (by decide), fun h => absurd (show 4 = 1 from h) (by decide), fun h => absurd (show 4 = 2 from h) (by decide), fun h => absurd (show 4 = 3 from h) (by decide), fun _ => i1⟩, ?_⟩
      · rcases hz with rfl | rfl <;> decide
      · rcases hz with rfl | rfl <;> decide
      · show 16 < 17
        decide
    · cases hx
  · intro as E0 E E2 hT0 hΦ hlen i ρ hT hInv x hx ρ2 N2 B vo hXs hag hfr hT2 hvo
    rcases i with ⟨i, hi⟩
    have hi2 : i = 0 ∨ i = 1 ∨ i = 2 ∨ i = 3 ∨ i = 4 := by omega
    rcases hi2 with rfl | rfl | rfl | rfl | rfl
    · cases hx
    · cases hx
    · cases hx
    · cases hx
    · have hx : x ∈ [zxso_er0] := hx
      have hg : ∀ k, k < 4 → ρ2 k = ρ k := hag
      have hI := hInv
      have hI : (4 = 0 → E = E0) ∧ (4 = 1 → ∃ n m : Nat, m ≤ 8 ∧ E0 75 2 = some (.int (Int32.ofNat m)) ∧ zBs E n m ∧ zyJb E0 E ∧ zLv E0 m ∧ n ≤ 0) ∧ (4 = 2 → ∃ n m : Nat, m ≤ 8 ∧ E0 75 2 = some (.int (Int32.ofNat m)) ∧ zBs E n m ∧ zyJb E0 E ∧ zLv E0 m ∧ n ≤ 300) ∧ (4 = 3 → zyJb E0 E) ∧ (4 = 4 → zyJb E0 E) := hI
      obtain ⟨hF, hB, hM⟩ := hXs
      have hEE : E2 = E := zyfr0 hfr
      have ex := List.mem_singleton.mp hx
      subst ex
      have hI := hI.2.2.2.2 rfl
      have hb : 2147483648 ≤ zB (ρ2 3) ∧ zB (ρ2 3) ≤ 2147483649 := zyXb hB 0 rfl
      rw [hEE]
      exact ⟨hI, ρ2 3, zyvo_1 (c := 103079215105) (by decide) (show zyvo (zyXn B ρ2 N2) [103079215105] vo from hvo), zybool hb.1 hb.2⟩
def zyΦwa (as : List Int32) (E : zyEm) : Prop := zyΦbr as E ∧ ∃ x : Int32, as = [x] ∧ zB x ≤ 2147483652
theorem zywa_run : zyAllP (fun r c => zyrS (zymr r c) zxi245 (245, 0, 0, 2, 0) 8 zpwa (fun _ _ => []) zFwa zSwa zXwa zRwa 7) = true := by decide +kernel
theorem zyisWishedAgain {l : Launch} {r c : Nat} (h1 : 1 ≤ r) (h2 : r ≤ 4) (h3 : 1 ≤ c) (h4 : c ≤ 5) {en : zEn} {me : zMe} (hen : zG zxMeta 245 = some en) (hme : zG zMeth 245 = some me) : zyHc l (zymr r c) en me 8 1 zyΦwa zyΨbr := by
  have een : zG zxMeta 245 = some (zxi245, 2, 3, 11, 245, 0, 0, 2, 0) := rfl
  obtain ⟨me1, hme1, hOK⟩ := zall hen
  rw [hme] at hme1
  cases hme1
  rw [een] at hen
  cases hen
  have hr := zyAllP_iff zywa_run h1 h2 h3 h4
  obtain ⟨mebb, hmebb, -⟩ := zall (show zG zxMeta 238 = some (zxi238, 1, 1, 11, 238, 0, 0, 0, 0) from rfl)
  have hbb := zybeginsBraid (l := l) h1 h2 h3 h4 (show zG zxMeta 238 = some (zxi238, 1, 1, 11, 238, 0, 0, 0, 0) from rfl) hmebb
  obtain ⟨menb, hmenb, -⟩ := zall (show zG zxMeta 239 = some (zxi239, 1, 1, 11, 239, 0, 0, 2, 0) from rfl)
  have hnb := zyisNoBraid (l := l) h1 h2 h3 h4 (show zG zxMeta 239 = some (zxi239, 1, 1, 11, 239, 0, 0, 2, 0) from rfl) hmenb
  obtain ⟨mejw, hmejw, -⟩ := zall (show zG zxMeta 240 = some (zxi240, 3, 5, 11, 240, 0, 0, 0, 0) from rfl)
  have hjw := zyjoinsWord (l := l) h1 h2 h3 h4 (show zG zxMeta 240 = some (zxi240, 3, 5, 11, 240, 0, 0, 0, 0) from rfl) hmejw
  obtain ⟨mejd, hmejd, -⟩ := zall (show zG zxMeta 241 = some (zxi241, 1, 2, 11, 241, 0, 0, 0, 0) from rfl)
  have hjd := zyjoinsWished (l := l) h1 h2 h3 h4 (show zG zxMeta 241 = some (zxi241, 1, 2, 11, 241, 0, 0, 0, 0) from rfl) hmejd
  obtain ⟨meud, hmeud, -⟩ := zall (show zG zxMeta 242 = some (zxi242, 1, 2, 11, 242, 0, 0, 0, 0) from rfl)
  have hud := zyunjoinsWished (l := l) h1 h2 h3 h4 (show zG zxMeta 242 = some (zxi242, 1, 2, 11, 242, 0, 0, 0, 0) from rfl) hmeud
  obtain ⟨meuw, hmeuw, -⟩ := zall (show zG zxMeta 243 = some (zxi243, 1, 2, 11, 243, 0, 0, 0, 0) from rfl)
  have huw := zyunjoinsWord (l := l) h1 h2 h3 h4 (show zG zxMeta 243 = some (zxi243, 1, 2, 11, 243, 0, 0, 0, 0) from rfl) hmeuw
  obtain ⟨mecw, hmecw, -⟩ := zall (show zG zxMeta 244 = some (zxi244, 1, 3, 11, 244, 0, 0, 2, 0) from rfl)
  have hcw := zycanBeWished (l := l) h1 h2 h3 h4 (show zG zxMeta 244 = some (zxi244, 1, 3, 11, 244, 0, 0, 2, 0) from rfl) hmecw
  obtain ⟨mejo, hmejo, -⟩ := zall (show zG zxMeta 237 = some (zxi237, 2, 5, 11, 237, 0, 0, 0, 0) from rfl)
  have hjo := zyjoins (l := l) h1 h2 h3 h4 (show zG zxMeta 237 = some (zxi237, 2, 5, 11, 237, 0, 0, 0, 0) from rfl) hmejo
  refine zycutS (mi := zymr r c) hOK rfl rfl ⟨_, rfl, rfl⟩ (ι := Fin 7) (fun i => zpwa i.val) (fun _ _ => []) (fun i => zFwa i.val) (fun i => zSwa i.val) (fun i => zXwa i.val) (fun i => zRwa i.val) (fun i y2 ct en2 me2 h => by cases h) 200000 (fun i => zyAll_iff hr i.val i.isLt) ⟨0, by decide⟩ ⟨rfl, rfl, rfl, rfl⟩ ⟨by decide, by decide⟩
    (fun i as E0 ρ E => (i.val = 0 → E = E0) ∧ (i.val = 1 → E = E0 ∧ (ρ 3 = 0 ∨ ∀ m : Nat, m ≤ 8 → E0 75 2 = some (.int (Int32.ofNat m)) → zWl E0 m)) ∧ (i.val = 2 → ∃ n m : Nat, m ≤ 8 ∧ E0 75 2 = some (.int (Int32.ofNat m)) ∧ zBs E n m ∧ zyJb E0 E ∧ zLv E0 m ∧ zWl E0 m ∧ n ≤ 0) ∧ (i.val = 3 → ∃ n m : Nat, m ≤ 8 ∧ E0 75 2 = some (.int (Int32.ofNat m)) ∧ zBs E n m ∧ zyJb E0 E ∧ zLv E0 m ∧ zWl E0 m ∧ n ≤ 300 * zyN1 (ρ 2) ∧ 2147483648 ≤ zB (ρ 2) ∧ zB (ρ 2) ≤ 2147483652) ∧ (i.val = 4 → ∃ n m : Nat, m ≤ 8 ∧ E0 75 2 = some (.int (Int32.ofNat m)) ∧ zBs E n m ∧ zyJb E0 E ∧ zLv E0 m ∧ zWl E0 m ∧ n ≤ 300 * zyN1 (ρ 2) + 300 ∧ 2147483648 ≤ zB (ρ 2) ∧ zB (ρ 2) ≤ 2147483651) ∧ (i.val = 5 → zyJb E0 E) ∧ (i.val = 6 → zyJb E0 E)) (fun i as E0 ρ E => if i.val = 3 ∨ i.val = 4 then 10 + 2 * (4 - zyN1 (ρ 2)) + (5 - i.val) else if 5 ≤ i.val then 8 - i.val else 40 - i.val) ?_ ?_ ?_
  · intro as E hlen hT hΦ
    obtain ⟨-, x, rfl, hx⟩ := hΦ
    exact ⟨zEnv_c (zyfull _) (zEnv_c ⟨Nat.zero_le _, hx⟩ (zEnv_c (zyfull _) zEnv_nil)), ⟨fun _ => rfl, fun h => absurd (show 0 = 1 from h) (by decide), fun h => absurd (show 0 = 2 from h) (by decide), fun h => absurd (show 0 = 3 from h) (by decide), fun h => absurd (show 0 = 4 from h) (by decide), fun h => absurd (show 0 = 5 from h) (by decide), fun h => absurd (show 0 = 6 from h) (by decide)⟩⟩
  · intro as B s Wg hRu hT0 hΦ hlen i ρ H hT hInv hIH x hx ρ2 N2 H2 locs lsB stA hAt hXs hag hfr hT2
    rcases i with ⟨i, hi⟩
    have hi2 : i = 0 ∨ i = 1 ∨ i = 2 ∨ i = 3 ∨ i = 4 ∨ i = 5 ∨ i = 6 := by omega
    rcases hi2 with rfl | rfl | rfl | rfl | rfl | rfl | rfl
    · have hx : x ∈ [zxwa_ax0] := hx
      have hg : ∀ k, k < 3 → ρ2 k = ρ k := hag
      have hI := hInv
      have hI : (0 = 0 → (zyEl (zymr r c) B H) = (zyEl (zymr r c) B s.heap)) ∧ (0 = 1 → (zyEl (zymr r c) B H) = (zyEl (zymr r c) B s.heap) ∧ (ρ 3 = 0 ∨ ∀ m : Nat, m ≤ 8 → (zyEl (zymr r c) B s.heap) 75 2 = some (.int (Int32.ofNat m)) → zWl (zyEl (zymr r c) B s.heap) m)) ∧ (0 = 2 → ∃ n m : Nat, m ≤ 8 ∧ (zyEl (zymr r c) B s.heap) 75 2 = some (.int (Int32.ofNat m)) ∧ zBs (zyEl (zymr r c) B H) n m ∧ zyJb (zyEl (zymr r c) B s.heap) (zyEl (zymr r c) B H) ∧ zLv (zyEl (zymr r c) B s.heap) m ∧ zWl (zyEl (zymr r c) B s.heap) m ∧ n ≤ 0) ∧ (0 = 3 → ∃ n m : Nat, m ≤ 8 ∧ (zyEl (zymr r c) B s.heap) 75 2 = some (.int (Int32.ofNat m)) ∧ zBs (zyEl (zymr r c) B H) n m ∧ zyJb (zyEl (zymr r c) B s.heap) (zyEl (zymr r c) B H) ∧ zLv (zyEl (zymr r c) B s.heap) m ∧ zWl (zyEl (zymr r c) B s.heap) m ∧ n ≤ 300 * zyN1 (ρ 2) ∧ 2147483648 ≤ zB (ρ 2) ∧ zB (ρ 2) ≤ 2147483652) ∧ (0 = 4 → ∃ n m : Nat, m ≤ 8 ∧ (zyEl (zymr r c) B s.heap) 75 2 = some (.int (Int32.ofNat m)) ∧ zBs (zyEl (zymr r c) B H) n m ∧ zyJb (zyEl (zymr r c) B s.heap) (zyEl (zymr r c) B H) ∧ zLv (zyEl (zymr r c) B s.heap) m ∧ zWl (zyEl (zymr r c) B s.heap) m ∧ n ≤ 300 * zyN1 (ρ 2) + 300 ∧ 2147483648 ≤ zB (ρ 2) ∧ zB (ρ 2) ≤ 2147483651) ∧ (0 = 5 → zyJb (zyEl (zymr r c) B s.heap) (zyEl (zymr r c) B H)) ∧ (0 = 6 → zyJb (zyEl (zymr r c) B s.heap) (zyEl (zymr r c) B H)) := hI
      obtain ⟨hF, hB, hM⟩ := hXs
      have hEE : (zyEl (zymr r c) B H2) = (zyEl (zymr r c) B H) := zyfr0 hfr
      have ex := List.mem_singleton.mp hx
      subst ex
      have hI := hI.1 rfl
      obtain ⟨⟨m0, m1, m2, m3, m4⟩, -⟩ := hΦ
      refine zyCa1 hRu hIH hAt hB hcw (ix := 245) (ax := 3904) rfl rfl rfl hmecw ⟨rfl, rfl, rfl, rfl⟩ (by decide) [] rfl (by decide) rfl ⟨1, by decide⟩ [595, 34359738369, 0] [(0, 4294967295), (0, 2147483652), (0, 4294967295)] 2147483648 2147483649 rfl (by decide) rfl rfl rfl rfl rfl ?_ ?_
      · show zyΦcw [] _
        rw [hEE, hI]
        exact ⟨m0, m1, m2, m4⟩
      · intro E3 vo hT3 hΨ
        obtain ⟨e3, z, ez, hz⟩ := (show zyΨcw [] _ E3 vo from hΨ)
        rw [hEE, hI] at e3 hz
        subst e3
        refine ⟨z, ez, ?_, ?_, ⟨fun h => absurd (show 1 = 0 from h) (by decide), fun _ => ⟨rfl, hz.imp (fun q => (zyρi_e (k0 := 3)).trans q) (fun q => q.2)⟩, fun h => absurd (show 1 = 2 from h) (by decide), fun h => absurd (show 1 = 3 from h) (by decide), fun h => absurd (show 1 = 4 from h) (by decide), fun h => absurd (show 1 = 5 from h) (by decide), fun h => absurd (show 1 = 6 from h) (by decide)⟩, ?_⟩
        · rcases hz with rfl | ⟨rfl, -⟩ <;> decide
        · rcases hz with rfl | ⟨rfl, -⟩ <;> decide
        · show 39 < 40
          decide
    · have hx : x ∈ [zxwa_bx0] := hx
      have hg : ∀ k, k < 4 → ρ2 k = ρ k := hag
      have hI := hInv
      have hI : (1 = 0 → (zyEl (zymr r c) B H) = (zyEl (zymr r c) B s.heap)) ∧ (1 = 1 → (zyEl (zymr r c) B H) = (zyEl (zymr r c) B s.heap) ∧ (ρ 3 = 0 ∨ ∀ m : Nat, m ≤ 8 → (zyEl (zymr r c) B s.heap) 75 2 = some (.int (Int32.ofNat m)) → zWl (zyEl (zymr r c) B s.heap) m)) ∧ (1 = 2 → ∃ n m : Nat, m ≤ 8 ∧ (zyEl (zymr r c) B s.heap) 75 2 = some (.int (Int32.ofNat m)) ∧ zBs (zyEl (zymr r c) B H) n m ∧ zyJb (zyEl (zymr r c) B s.heap) (zyEl (zymr r c) B H) ∧ zLv (zyEl (zymr r c) B s.heap) m ∧ zWl (zyEl (zymr r c) B s.heap) m ∧ n ≤ 0) ∧ (1 = 3 → ∃ n m : Nat, m ≤ 8 ∧ (zyEl (zymr r c) B s.heap) 75 2 = some (.int (Int32.ofNat m)) ∧ zBs (zyEl (zymr r c) B H) n m ∧ zyJb (zyEl (zymr r c) B s.heap) (zyEl (zymr r c) B H) ∧ zLv (zyEl (zymr r c) B s.heap) m ∧ zWl (zyEl (zymr r c) B s.heap) m ∧ n ≤ 300 * zyN1 (ρ 2) ∧ 2147483648 ≤ zB (ρ 2) ∧ zB (ρ 2) ≤ 2147483652) ∧ (1 = 4 → ∃ n m : Nat, m ≤ 8 ∧ (zyEl (zymr r c) B s.heap) 75 2 = some (.int (Int32.ofNat m)) ∧ zBs (zyEl (zymr r c) B H) n m ∧ zyJb (zyEl (zymr r c) B s.heap) (zyEl (zymr r c) B H) ∧ zLv (zyEl (zymr r c) B s.heap) m ∧ zWl (zyEl (zymr r c) B s.heap) m ∧ n ≤ 300 * zyN1 (ρ 2) + 300 ∧ 2147483648 ≤ zB (ρ 2) ∧ zB (ρ 2) ≤ 2147483651) ∧ (1 = 5 → zyJb (zyEl (zymr r c) B s.heap) (zyEl (zymr r c) B H)) ∧ (1 = 6 → zyJb (zyEl (zymr r c) B s.heap) (zyEl (zymr r c) B H)) := hI
      obtain ⟨hF, hB, hM⟩ := hXs
      have hEE : (zyEl (zymr r c) B H2) = (zyEl (zymr r c) B H) := zyfr0 hfr
      have ex := List.mem_singleton.mp hx
      subst ex
      have hI := hI.2.1 rfl
      obtain ⟨hE0, hz⟩ := hI
      obtain ⟨⟨m0, m1, m2, m3, m4⟩, -⟩ := hΦ
      have f0 := zyX23 hF 0 rfl
      have f0 : ¬ ρ2 3 = Int32.ofNat 0 := f0
      have hw0 := hz.resolve_left (fun q => f0 ((hg 3 (by decide)).trans q)) m0 m1 m2
      refine zyCa0 hRu hIH hAt hB hbb (ix := 249) (ax := 3808) rfl rfl rfl hmebb ⟨rfl, rfl, rfl, rfl⟩ (by decide) [] rfl (by decide) rfl ⟨2, by decide⟩ [595, 34359738369, 0] rfl rfl rfl rfl trivial ?_
      intro E3 vo hT3 hΨ
      obtain ⟨ev, q1, q2⟩ := (show zyΨbb [] _ E3 vo from hΨ)
      rw [hEE, hE0] at q1 q2
      refine ⟨ev, ⟨fun h => absurd (show 2 = 0 from h) (by decide), fun h => absurd (show 2 = 1 from h) (by decide), fun _ => ⟨0, m0, m1, m2, q2 m0 m1 m2, q1, m3, hw0, by omega⟩, fun h => absurd (show 2 = 3 from h) (by decide), fun h => absurd (show 2 = 4 from h) (by decide), fun h => absurd (show 2 = 5 from h) (by decide), fun h => absurd (show 2 = 6 from h) (by decide)⟩, ?_⟩
      show 38 < 39
      decide
    · have hx : x ∈ [zxwa_cx0] := hx
      have hg : ∀ k, k < 3 → ρ2 k = ρ k := hag
      have hI := hInv
      have hI : (2 = 0 → (zyEl (zymr r c) B H) = (zyEl (zymr r c) B s.heap)) ∧ (2 = 1 → (zyEl (zymr r c) B H) = (zyEl (zymr r c) B s.heap) ∧ (ρ 3 = 0 ∨ ∀ m : Nat, m ≤ 8 → (zyEl (zymr r c) B s.heap) 75 2 = some (.int (Int32.ofNat m)) → zWl (zyEl (zymr r c) B s.heap) m)) ∧ (2 = 2 → ∃ n m : Nat, m ≤ 8 ∧ (zyEl (zymr r c) B s.heap) 75 2 = some (.int (Int32.ofNat m)) ∧ zBs (zyEl (zymr r c) B H) n m ∧ zyJb (zyEl (zymr r c) B s.heap) (zyEl (zymr r c) B H) ∧ zLv (zyEl (zymr r c) B s.heap) m ∧ zWl (zyEl (zymr r c) B s.heap) m ∧ n ≤ 0) ∧ (2 = 3 → ∃ n m : Nat, m ≤ 8 ∧ (zyEl (zymr r c) B s.heap) 75 2 = some (.int (Int32.ofNat m)) ∧ zBs (zyEl (zymr r c) B H) n m ∧ zyJb (zyEl (zymr r c) B s.heap) (zyEl (zymr r c) B H) ∧ zLv (zyEl (zymr r c) B s.heap) m ∧ zWl (zyEl (zymr r c) B s.heap) m ∧ n ≤ 300 * zyN1 (ρ 2) ∧ 2147483648 ≤ zB (ρ 2) ∧ zB (ρ 2) ≤ 2147483652) ∧ (2 = 4 → ∃ n m : Nat, m ≤ 8 ∧ (zyEl (zymr r c) B s.heap) 75 2 = some (.int (Int32.ofNat m)) ∧ zBs (zyEl (zymr r c) B H) n m ∧ zyJb (zyEl (zymr r c) B s.heap) (zyEl (zymr r c) B H) ∧ zLv (zyEl (zymr r c) B s.heap) m ∧ zWl (zyEl (zymr r c) B s.heap) m ∧ n ≤ 300 * zyN1 (ρ 2) + 300 ∧ 2147483648 ≤ zB (ρ 2) ∧ zB (ρ 2) ≤ 2147483651) ∧ (2 = 5 → zyJb (zyEl (zymr r c) B s.heap) (zyEl (zymr r c) B H)) ∧ (2 = 6 → zyJb (zyEl (zymr r c) B s.heap) (zyEl (zymr r c) B H)) := hI
      obtain ⟨hF, hB, hM⟩ := hXs
      have hEE : (zyEl (zymr r c) B H2) = (zyEl (zymr r c) B H) := zyfr0 hfr
      have ex := List.mem_singleton.mp hx
      subst ex
      have hI := hI.2.2.1 rfl
      obtain ⟨n, m, hm, hms, hbs, i1, hv, hw, hn⟩ := hI
      refine zyGoB hIH hAt hB ⟨3, by decide⟩ [595, 34359738369, 0] rfl rfl rfl rfl ⟨fun h => absurd (show 3 = 0 from h) (by decide), fun h => absurd (show 3 = 1 from h) (by decide), fun h => absurd (show 3 = 2 from h) (by decide), fun _ => ⟨n, m, hm, hms, by rw [hEE]; exact hbs, by rw [hEE]; exact i1, hv, hw, by omega, (show 2147483648 ≤ zB (Int32.ofNat 0) by decide), (show zB (Int32.ofNat 0) ≤ 2147483652 by decide)⟩, fun h => absurd (show 3 = 4 from h) (by decide), fun h => absurd (show 3 = 5 from h) (by decide), fun h => absurd (show 3 = 6 from h) (by decide)⟩ ?_
      show 10 + 2 * (4 - zyN1 (Int32.ofNat 0)) + (5 - 3) < 38
      omega
    · have hx : x ∈ [zxwa_dx0, zxwa_dx1] := hx
      have hg : ∀ k, k < 3 → ρ2 k = ρ k := hag
      have hI := hInv
      have hI : (3 = 0 → (zyEl (zymr r c) B H) = (zyEl (zymr r c) B s.heap)) ∧ (3 = 1 → (zyEl (zymr r c) B H) = (zyEl (zymr r c) B s.heap) ∧ (ρ 3 = 0 ∨ ∀ m : Nat, m ≤ 8 → (zyEl (zymr r c) B s.heap) 75 2 = some (.int (Int32.ofNat m)) → zWl (zyEl (zymr r c) B s.heap) m)) ∧ (3 = 2 → ∃ n m : Nat, m ≤ 8 ∧ (zyEl (zymr r c) B s.heap) 75 2 = some (.int (Int32.ofNat m)) ∧ zBs (zyEl (zymr r c) B H) n m ∧ zyJb (zyEl (zymr r c) B s.heap) (zyEl (zymr r c) B H) ∧ zLv (zyEl (zymr r c) B s.heap) m ∧ zWl (zyEl (zymr r c) B s.heap) m ∧ n ≤ 0) ∧ (3 = 3 → ∃ n m : Nat, m ≤ 8 ∧ (zyEl (zymr r c) B s.heap) 75 2 = some (.int (Int32.ofNat m)) ∧ zBs (zyEl (zymr r c) B H) n m ∧ zyJb (zyEl (zymr r c) B s.heap) (zyEl (zymr r c) B H) ∧ zLv (zyEl (zymr r c) B s.heap) m ∧ zWl (zyEl (zymr r c) B s.heap) m ∧ n ≤ 300 * zyN1 (ρ 2) ∧ 2147483648 ≤ zB (ρ 2) ∧ zB (ρ 2) ≤ 2147483652) ∧ (3 = 4 → ∃ n m : Nat, m ≤ 8 ∧ (zyEl (zymr r c) B s.heap) 75 2 = some (.int (Int32.ofNat m)) ∧ zBs (zyEl (zymr r c) B H) n m ∧ zyJb (zyEl (zymr r c) B s.heap) (zyEl (zymr r c) B H) ∧ zLv (zyEl (zymr r c) B s.heap) m ∧ zWl (zyEl (zymr r c) B s.heap) m ∧ n ≤ 300 * zyN1 (ρ 2) + 300 ∧ 2147483648 ≤ zB (ρ 2) ∧ zB (ρ 2) ≤ 2147483651) ∧ (3 = 5 → zyJb (zyEl (zymr r c) B s.heap) (zyEl (zymr r c) B H)) ∧ (3 = 6 → zyJb (zyEl (zymr r c) B s.heap) (zyEl (zymr r c) B H)) := hI
      obtain ⟨hF, hB, hM⟩ := hXs
      have hEE : (zyEl (zymr r c) B H2) = (zyEl (zymr r c) B H) := zyfr0 hfr
      rcases List.mem_cons.mp hx with ex | hx
      · subst ex
        have hI := hI.2.2.2.1 rfl
        obtain ⟨n, m, hm, hms, hbs, i1, hv, hw, hn, v1, v2⟩ := hI
        have bd : 2147483648 ≤ zB (ρ2 2) ∧ zB (ρ2 2) ≤ 2147483651 := zyXb hB 1 rfl
        obtain ⟨o1, o2⟩ := zyOn bd.1
        rw [← hg 2 (by decide)] at hn
        refine zyCa0 hRu hIH hAt hB hjw (ix := 252) (ax := 3840) rfl rfl rfl hmejw ⟨rfl, rfl, rfl, rfl⟩ (by decide) [0, 0] rfl (by decide) rfl ⟨4, by decide⟩ [595, 34359738369, 68719476737] rfl rfl rfl rfl ?_ ?_
        · show zyΦwd 300 zLv [Int32.ofNat 0, Int32.ofNat 0] _
          rw [hEE]
          exact ⟨n, m, hbs, by omega, zLv_jb i1 hv⟩
        · intro E3 vo hT3 hΨ
          have hΨ : zyΨwd 300 [Int32.ofNat 0, Int32.ofNat 0] _ E3 vo := hΨ
          rw [hEE] at hΨ
          obtain ⟨ev, q1, q2⟩ := hΨ
          obtain ⟨n', q3, q4⟩ := q2 n m hbs (by omega)
          refine ⟨ev, ⟨fun h => absurd (show 4 = 0 from h) (by decide), fun h => absurd (show 4 = 1 from h) (by decide), fun h => absurd (show 4 = 2 from h) (by decide), fun h => absurd (show 4 = 3 from h) (by decide), fun _ => ⟨n', m, hm, hms, q4, zyJb_jo i1 q1, hv, hw, (by show n' ≤ 300 * zyN1 (ρ2 2) + 300; omega), bd.1, bd.2⟩, fun h => absurd (show 4 = 5 from h) (by decide), fun h => absurd (show 4 = 6 from h) (by decide)⟩, ?_⟩
          show 10 + 2 * (4 - zyN1 (ρ2 2)) + (5 - 4) < 10 + 2 * (4 - zyN1 (ρ 2)) + (5 - 3)
          rw [hg 2 (by decide)]
          omega
      · skip
        have ex := List.mem_singleton.mp hx
        subst ex
        have hI := hI.2.2.2.1 rfl
        obtain ⟨n, m, hm, hms, hbs, i1, hv, hw, hn, v1, v2⟩ := hI
        obtain ⟨o1, o2⟩ := zyOn v1
        refine zyCa0 hRu hIH hAt hB hud (ix := 256) (ax := 3872) rfl rfl rfl hmeud ⟨rfl, rfl, rfl, rfl⟩ (by decide) [] rfl (by decide) rfl ⟨5, by decide⟩ [595, 0, 0] rfl rfl rfl rfl ?_ ?_
        · show zyΦwd 60 zWl [] _
          rw [hEE]
          exact ⟨n, m, hbs, by omega, zWl_jb i1 hw⟩
        · intro E3 vo hT3 hΨ
          have hΨ : zyΨwd 61 [] _ E3 vo := hΨ
          rw [hEE] at hΨ
          obtain ⟨ev, q1, q2⟩ := hΨ
          obtain ⟨n', q3, q4⟩ := q2 n m hbs (by omega)
          refine ⟨ev, ⟨fun h => absurd (show 5 = 0 from h) (by decide), fun h => absurd (show 5 = 1 from h) (by decide), fun h => absurd (show 5 = 2 from h) (by decide), fun h => absurd (show 5 = 3 from h) (by decide), fun h => absurd (show 5 = 4 from h) (by decide), fun _ => zyJb_jo i1 q1, fun h => absurd (show 5 = 6 from h) (by decide)⟩, ?_⟩
          show 8 - 5 < 10 + 2 * (4 - zyN1 (ρ 2)) + (5 - 3)
          omega
    · have hx : x ∈ [zxwa_ex0] := hx
      have hg : ∀ k, k < 3 → ρ2 k = ρ k := hag
      have hI := hInv
      have hI : (4 = 0 → (zyEl (zymr r c) B H) = (zyEl (zymr r c) B s.heap)) ∧ (4 = 1 → (zyEl (zymr r c) B H) = (zyEl (zymr r c) B s.heap) ∧ (ρ 3 = 0 ∨ ∀ m : Nat, m ≤ 8 → (zyEl (zymr r c) B s.heap) 75 2 = some (.int (Int32.ofNat m)) → zWl (zyEl (zymr r c) B s.heap) m)) ∧ (4 = 2 → ∃ n m : Nat, m ≤ 8 ∧ (zyEl (zymr r c) B s.heap) 75 2 = some (.int (Int32.ofNat m)) ∧ zBs (zyEl (zymr r c) B H) n m ∧ zyJb (zyEl (zymr r c) B s.heap) (zyEl (zymr r c) B H) ∧ zLv (zyEl (zymr r c) B s.heap) m ∧ zWl (zyEl (zymr r c) B s.heap) m ∧ n ≤ 0) ∧ (4 = 3 → ∃ n m : Nat, m ≤ 8 ∧ (zyEl (zymr r c) B s.heap) 75 2 = some (.int (Int32.ofNat m)) ∧ zBs (zyEl (zymr r c) B H) n m ∧ zyJb (zyEl (zymr r c) B s.heap) (zyEl (zymr r c) B H) ∧ zLv (zyEl (zymr r c) B s.heap) m ∧ zWl (zyEl (zymr r c) B s.heap) m ∧ n ≤ 300 * zyN1 (ρ 2) ∧ 2147483648 ≤ zB (ρ 2) ∧ zB (ρ 2) ≤ 2147483652) ∧ (4 = 4 → ∃ n m : Nat, m ≤ 8 ∧ (zyEl (zymr r c) B s.heap) 75 2 = some (.int (Int32.ofNat m)) ∧ zBs (zyEl (zymr r c) B H) n m ∧ zyJb (zyEl (zymr r c) B s.heap) (zyEl (zymr r c) B H) ∧ zLv (zyEl (zymr r c) B s.heap) m ∧ zWl (zyEl (zymr r c) B s.heap) m ∧ n ≤ 300 * zyN1 (ρ 2) + 300 ∧ 2147483648 ≤ zB (ρ 2) ∧ zB (ρ 2) ≤ 2147483651) ∧ (4 = 5 → zyJb (zyEl (zymr r c) B s.heap) (zyEl (zymr r c) B H)) ∧ (4 = 6 → zyJb (zyEl (zymr r c) B s.heap) (zyEl (zymr r c) B H)) := hI
      obtain ⟨hF, hB, hM⟩ := hXs
      have hEE : (zyEl (zymr r c) B H2) = (zyEl (zymr r c) B H) := zyfr0 hfr
      have ex := List.mem_singleton.mp hx
      subst ex
      have hI := hI.2.2.2.2.1 rfl
      obtain ⟨n, m, hm, hms, hbs, i1, hv, hw, hn, v1, v2⟩ := hI
      obtain ⟨o1, o2⟩ := zyOn v1
      have bd : 2147483648 ≤ zB (ρ2 2) ∧ zB (ρ2 2) ≤ 2147483651 := zyXb hB 1 rfl
      obtain ⟨q1, q2, -⟩ := zyStep (b := 3) bd (by decide)
      have bd2 : 2147483649 ≤ zB (ρ2 2 + Int32.ofNat 1) ∧ zB (ρ2 2 + Int32.ofNat 1) ≤ 2147483652 := zyXb hB 2 rfl
      rw [← hg 2 (by decide)] at hn o2
      refine zyGoB hIH hAt hB ⟨3, by decide⟩ [595, 34359738369, 68719476745] rfl rfl rfl rfl ⟨fun h => absurd (show 3 = 0 from h) (by decide), fun h => absurd (show 3 = 1 from h) (by decide), fun h => absurd (show 3 = 2 from h) (by decide), fun _ => ⟨n, m, hm, hms, by rw [hEE]; exact hbs, by rw [hEE]; exact i1, hv, hw, (by show n ≤ 300 * zyN1 (ρ2 2 + Int32.ofNat 1); rw [q1]; omega), (by show 2147483648 ≤ zB (ρ2 2 + Int32.ofNat 1); omega), bd2.2⟩, fun h => absurd (show 3 = 4 from h) (by decide), fun h => absurd (show 3 = 5 from h) (by decide), fun h => absurd (show 3 = 6 from h) (by decide)⟩ ?_
      show 10 + 2 * (4 - zyN1 (ρ2 2 + Int32.ofNat 1)) + (5 - 3) < 10 + 2 * (4 - zyN1 (ρ 2)) + (5 - 4)
      rw [q1, ← hg 2 (by decide)]
      omega
    · have hx : x ∈ [zxwa_fx0] := hx
      have hg : ∀ k, k < 3 → ρ2 k = ρ k := hag
      have hI := hInv
      have hI : (5 = 0 → (zyEl (zymr r c) B H) = (zyEl (zymr r c) B s.heap)) ∧ (5 = 1 → (zyEl (zymr r c) B H) = (zyEl (zymr r c) B s.heap) ∧ (ρ 3 = 0 ∨ ∀ m : Nat, m ≤ 8 → (zyEl (zymr r c) B s.heap) 75 2 = some (.int (Int32.ofNat m)) → zWl (zyEl (zymr r c) B s.heap) m)) ∧ (5 = 2 → ∃ n m : Nat, m ≤ 8 ∧ (zyEl (zymr r c) B s.heap) 75 2 = some (.int (Int32.ofNat m)) ∧ zBs (zyEl (zymr r c) B H) n m ∧ zyJb (zyEl (zymr r c) B s.heap) (zyEl (zymr r c) B H) ∧ zLv (zyEl (zymr r c) B s.heap) m ∧ zWl (zyEl (zymr r c) B s.heap) m ∧ n ≤ 0) ∧ (5 = 3 → ∃ n m : Nat, m ≤ 8 ∧ (zyEl (zymr r c) B s.heap) 75 2 = some (.int (Int32.ofNat m)) ∧ zBs (zyEl (zymr r c) B H) n m ∧ zyJb (zyEl (zymr r c) B s.heap) (zyEl (zymr r c) B H) ∧ zLv (zyEl (zymr r c) B s.heap) m ∧ zWl (zyEl (zymr r c) B s.heap) m ∧ n ≤ 300 * zyN1 (ρ 2) ∧ 2147483648 ≤ zB (ρ 2) ∧ zB (ρ 2) ≤ 2147483652) ∧ (5 = 4 → ∃ n m : Nat, m ≤ 8 ∧ (zyEl (zymr r c) B s.heap) 75 2 = some (.int (Int32.ofNat m)) ∧ zBs (zyEl (zymr r c) B H) n m ∧ zyJb (zyEl (zymr r c) B s.heap) (zyEl (zymr r c) B H) ∧ zLv (zyEl (zymr r c) B s.heap) m ∧ zWl (zyEl (zymr r c) B s.heap) m ∧ n ≤ 300 * zyN1 (ρ 2) + 300 ∧ 2147483648 ≤ zB (ρ 2) ∧ zB (ρ 2) ≤ 2147483651) ∧ (5 = 5 → zyJb (zyEl (zymr r c) B s.heap) (zyEl (zymr r c) B H)) ∧ (5 = 6 → zyJb (zyEl (zymr r c) B s.heap) (zyEl (zymr r c) B H)) := hI
      obtain ⟨hF, hB, hM⟩ := hXs
      have hEE : (zyEl (zymr r c) B H2) = (zyEl (zymr r c) B H) := zyfr0 hfr
      have ex := List.mem_singleton.mp hx
      subst ex
      have hI := hI.2.2.2.2.2.1 rfl
      have i1 := hI
      refine zyCa1 hRu hIH hAt hB hnb (ix := 259) (ax := 3824) rfl rfl rfl hmenb ⟨rfl, rfl, rfl, rfl⟩ (by decide) [] rfl (by decide) rfl ⟨6, by decide⟩ [595, 0, 0] [(0, 4294967295), (0, 4294967295), (0, 4294967295)] 2147483648 2147483649 rfl (by decide) rfl rfl rfl rfl rfl trivial ?_
      intro E3 vo hT3 hΨ
      obtain ⟨e3, z, ez, hz⟩ := (show zyΨie [] _ E3 vo from hΨ)
      rw [hEE] at e3
      subst e3
      refine ⟨z, ez, ?_, ?_, ⟨fun h => absurd (show 6 = 0 from h) (by decide), fun h => absurd (show 6 = 1 from h) (by decide), fun h => absurd (show 6 = 2 from h) (by decide), fun h => absurd (show 6 = 3 from h) (by decide), fun h => absurd (show 6 = 4 from h) (by decide), fun h => absurd (show 6 = 5 from h) (by decide), fun _ => i1⟩, ?_⟩
      · rcases hz with rfl | rfl <;> decide
      · rcases hz with rfl | rfl <;> decide
      · show 2 < 3
        decide
    · cases hx
  · intro as E0 E E2 hT0 hΦ hlen i ρ hT hInv x hx ρ2 N2 B vo hXs hag hfr hT2 hvo
    rcases i with ⟨i, hi⟩
    have hi2 : i = 0 ∨ i = 1 ∨ i = 2 ∨ i = 3 ∨ i = 4 ∨ i = 5 ∨ i = 6 := by omega
    rcases hi2 with rfl | rfl | rfl | rfl | rfl | rfl | rfl
    · cases hx
    · have hx : x ∈ [zxwa_br0] := hx
      have hg : ∀ k, k < 4 → ρ2 k = ρ k := hag
      have hI := hInv
      have hI : (1 = 0 → E = E0) ∧ (1 = 1 → E = E0 ∧ (ρ 3 = 0 ∨ ∀ m : Nat, m ≤ 8 → E0 75 2 = some (.int (Int32.ofNat m)) → zWl E0 m)) ∧ (1 = 2 → ∃ n m : Nat, m ≤ 8 ∧ E0 75 2 = some (.int (Int32.ofNat m)) ∧ zBs E n m ∧ zyJb E0 E ∧ zLv E0 m ∧ zWl E0 m ∧ n ≤ 0) ∧ (1 = 3 → ∃ n m : Nat, m ≤ 8 ∧ E0 75 2 = some (.int (Int32.ofNat m)) ∧ zBs E n m ∧ zyJb E0 E ∧ zLv E0 m ∧ zWl E0 m ∧ n ≤ 300 * zyN1 (ρ 2) ∧ 2147483648 ≤ zB (ρ 2) ∧ zB (ρ 2) ≤ 2147483652) ∧ (1 = 4 → ∃ n m : Nat, m ≤ 8 ∧ E0 75 2 = some (.int (Int32.ofNat m)) ∧ zBs E n m ∧ zyJb E0 E ∧ zLv E0 m ∧ zWl E0 m ∧ n ≤ 300 * zyN1 (ρ 2) + 300 ∧ 2147483648 ≤ zB (ρ 2) ∧ zB (ρ 2) ≤ 2147483651) ∧ (1 = 5 → zyJb E0 E) ∧ (1 = 6 → zyJb E0 E) := hI
      obtain ⟨hF, hB, hM⟩ := hXs
      have hEE : E2 = E := zyfr0 hfr
      have ex := List.mem_singleton.mp hx
      subst ex
      have hI := hI.2.1 rfl
      rw [hEE, hI.1]
      exact ⟨fun _ _ _ _ _ => rfl, 0, zyvo_1 (c := 0) (by decide) (show zyvo (zyXn B ρ2 N2) [0] vo from hvo), Or.inl rfl⟩
    · cases hx
    · cases hx
    · cases hx
    · cases hx
    · have hx : x ∈ [zxwa_gr0] := hx
      have hg : ∀ k, k < 4 → ρ2 k = ρ k := hag
      have hI := hInv
      have hI : (6 = 0 → E = E0) ∧ (6 = 1 → E = E0 ∧ (ρ 3 = 0 ∨ ∀ m : Nat, m ≤ 8 → E0 75 2 = some (.int (Int32.ofNat m)) → zWl E0 m)) ∧ (6 = 2 → ∃ n m : Nat, m ≤ 8 ∧ E0 75 2 = some (.int (Int32.ofNat m)) ∧ zBs E n m ∧ zyJb E0 E ∧ zLv E0 m ∧ zWl E0 m ∧ n ≤ 0) ∧ (6 = 3 → ∃ n m : Nat, m ≤ 8 ∧ E0 75 2 = some (.int (Int32.ofNat m)) ∧ zBs E n m ∧ zyJb E0 E ∧ zLv E0 m ∧ zWl E0 m ∧ n ≤ 300 * zyN1 (ρ 2) ∧ 2147483648 ≤ zB (ρ 2) ∧ zB (ρ 2) ≤ 2147483652) ∧ (6 = 4 → ∃ n m : Nat, m ≤ 8 ∧ E0 75 2 = some (.int (Int32.ofNat m)) ∧ zBs E n m ∧ zyJb E0 E ∧ zLv E0 m ∧ zWl E0 m ∧ n ≤ 300 * zyN1 (ρ 2) + 300 ∧ 2147483648 ≤ zB (ρ 2) ∧ zB (ρ 2) ≤ 2147483651) ∧ (6 = 5 → zyJb E0 E) ∧ (6 = 6 → zyJb E0 E) := hI
      obtain ⟨hF, hB, hM⟩ := hXs
      have hEE : E2 = E := zyfr0 hfr
      have ex := List.mem_singleton.mp hx
      subst ex
      have hI := hI.2.2.2.2.2.2 rfl
      have hb : 2147483648 ≤ zB (ρ2 3) ∧ zB (ρ2 3) ≤ 2147483649 := zyXb hB 0 rfl
      rw [hEE]
      exact ⟨hI, ρ2 3, zyvo_1 (c := 103079215105) (by decide) (show zyvo (zyXn B ρ2 N2) [103079215105] vo from hvo), zybool hb.1 hb.2⟩
end
section
/-! WHETHER the letters that were spelled aside are one braid with those wished -/
def zSv (E : zyEm) (m q : Nat) : Prop := ∀ k, k < q → zVl m (zyI E 80 k)
def zyΦsw (as : List Int32) (E : zyEm) : Prop := zyΦbr as E ∧ ∃ q : Nat, q ≤ 300 ∧ E 74 14 = some (.int (Int32.ofNat q)) ∧ ∀ m : Nat, m ≤ 8 → E 75 2 = some (.int (Int32.ofNat m)) → zSv E m q
theorem zyJb_80 {E E2 : zyEm} (h : zyJb E E2) (k : Nat) : zyI E2 80 k = zyI E 80 k := zyI_eq (h 80 k (by decide) (by decide) (fun z => absurd z.1 (by decide)))
theorem zysw_run : zyAllP (fun r c => zyrS (zymr r c) zxi296 (296, 0, 0, 2, 0) 8 zpsw (fun _ _ => []) zFsw zSsw zXsw zRsw 7) = true := by decide +kernel
theorem zyisSpelledWished {l : Launch} {r c : Nat} (h1 : 1 ≤ r) (h2 : r ≤ 4) (h3 : 1 ≤ c) (h4 : c ≤ 5) {en : zEn} {me : zMe} (hen : zG zxMeta 296 = some en) (hme : zG zMeth 296 = some me) : zyHc l (zymr r c) en me 8 0 zyΦsw zyΨbr := by
  have een : zG zxMeta 296 = some (zxi296, 1, 2, 11, 296, 0, 0, 2, 0) := rfl
  obtain ⟨me1, hme1, hOK⟩ := zall hen
  rw [hme] at hme1
  cases hme1
  rw [een] at hen
  cases hen
  have hr := zyAllP_iff zysw_run h1 h2 h3 h4
  obtain ⟨mebb, hmebb, -⟩ := zall (show zG zxMeta 238 = some (zxi238, 1, 1, 11, 238, 0, 0, 0, 0) from rfl)
  have hbb := zybeginsBraid (l := l) h1 h2 h3 h4 (show zG zxMeta 238 = some (zxi238, 1, 1, 11, 238, 0, 0, 0, 0) from rfl) hmebb
  obtain ⟨menb, hmenb, -⟩ := zall (show zG zxMeta 239 = some (zxi239, 1, 1, 11, 239, 0, 0, 2, 0) from rfl)
  have hnb := zyisNoBraid (l := l) h1 h2 h3 h4 (show zG zxMeta 239 = some (zxi239, 1, 1, 11, 239, 0, 0, 2, 0) from rfl) hmenb
  obtain ⟨mejw, hmejw, -⟩ := zall (show zG zxMeta 240 = some (zxi240, 3, 5, 11, 240, 0, 0, 0, 0) from rfl)
  have hjw := zyjoinsWord (l := l) h1 h2 h3 h4 (show zG zxMeta 240 = some (zxi240, 3, 5, 11, 240, 0, 0, 0, 0) from rfl) hmejw
  obtain ⟨mejd, hmejd, -⟩ := zall (show zG zxMeta 241 = some (zxi241, 1, 2, 11, 241, 0, 0, 0, 0) from rfl)
  have hjd := zyjoinsWished (l := l) h1 h2 h3 h4 (show zG zxMeta 241 = some (zxi241, 1, 2, 11, 241, 0, 0, 0, 0) from rfl) hmejd
  obtain ⟨meud, hmeud, -⟩ := zall (show zG zxMeta 242 = some (zxi242, 1, 2, 11, 242, 0, 0, 0, 0) from rfl)
  have hud := zyunjoinsWished (l := l) h1 h2 h3 h4 (show zG zxMeta 242 = some (zxi242, 1, 2, 11, 242, 0, 0, 0, 0) from rfl) hmeud
  obtain ⟨meuw, hmeuw, -⟩ := zall (show zG zxMeta 243 = some (zxi243, 1, 2, 11, 243, 0, 0, 0, 0) from rfl)
  have huw := zyunjoinsWord (l := l) h1 h2 h3 h4 (show zG zxMeta 243 = some (zxi243, 1, 2, 11, 243, 0, 0, 0, 0) from rfl) hmeuw
  obtain ⟨mecw, hmecw, -⟩ := zall (show zG zxMeta 244 = some (zxi244, 1, 3, 11, 244, 0, 0, 2, 0) from rfl)
  have hcw := zycanBeWished (l := l) h1 h2 h3 h4 (show zG zxMeta 244 = some (zxi244, 1, 3, 11, 244, 0, 0, 2, 0) from rfl) hmecw
  obtain ⟨mejo, hmejo, -⟩ := zall (show zG zxMeta 237 = some (zxi237, 2, 5, 11, 237, 0, 0, 0, 0) from rfl)
  have hjo := zyjoins (l := l) h1 h2 h3 h4 (show zG zxMeta 237 = some (zxi237, 2, 5, 11, 237, 0, 0, 0, 0) from rfl) hmejo
  refine zycutS (mi := zymr r c) hOK rfl rfl ⟨_, rfl, rfl⟩ (ι := Fin 7) (fun i => zpsw i.val) (fun _ _ => []) (fun i => zFsw i.val) (fun i => zSsw i.val) (fun i => zXsw i.val) (fun i => zRsw i.val) (fun i y2 ct en2 me2 h => by cases h) 200000 (fun i => zyAll_iff hr i.val i.isLt) ⟨0, by decide⟩ ⟨rfl, rfl, rfl, rfl⟩ ⟨by decide, by decide⟩
    (fun i as E0 ρ E => (i.val = 0 → E = E0) ∧ (i.val = 1 → E = E0 ∧ (ρ 2 = 0 ∨ ∀ m : Nat, m ≤ 8 → E0 75 2 = some (.int (Int32.ofNat m)) → zWl E0 m)) ∧ (i.val = 2 → ∃ n m : Nat, m ≤ 8 ∧ E0 75 2 = some (.int (Int32.ofNat m)) ∧ zBs E n m ∧ zyJb E0 E ∧ zLv E0 m ∧ zWl E0 m ∧ n ≤ 0) ∧ (i.val = 3 → ∃ n m : Nat, m ≤ 8 ∧ E0 75 2 = some (.int (Int32.ofNat m)) ∧ zBs E n m ∧ zyJb E0 E ∧ zLv E0 m ∧ zWl E0 m ∧ n ≤ zyN1 (ρ 1) ∧ 2147483648 ≤ zB (ρ 1) ∧ zB (ρ 1) ≤ 2147483948 ∧ ρ 2 = zyI E0 74 14) ∧ (i.val = 4 → ∃ n m : Nat, m ≤ 8 ∧ E0 75 2 = some (.int (Int32.ofNat m)) ∧ zBs E n m ∧ zyJb E0 E ∧ zLv E0 m ∧ zWl E0 m ∧ n ≤ zyN1 (ρ 1) + 1 ∧ 2147483648 ≤ zB (ρ 1) ∧ zB (ρ 1) ≤ 2147483947) ∧ (i.val = 5 → zyJb E0 E) ∧ (i.val = 6 → zyJb E0 E)) (fun i as E0 ρ E => if i.val = 3 ∨ i.val = 4 then 10 + 2 * (300 - zyN1 (ρ 1)) + (5 - i.val) else if 5 ≤ i.val then 8 - i.val else 4000 - i.val) ?_ ?_ ?_
  · intro as E hlen hT hΦ
    exact ⟨zEnv_c (zyfull _) (zEnv_c (zyfull _) zEnv_nil), ⟨fun _ => rfl, fun h => absurd (show 0 = 1 from h) (by decide), fun h => absurd (show 0 = 2 from h) (by decide), fun h => absurd (show 0 = 3 from h) (by decide), fun h => absurd (show 0 = 4 from h) (by decide), fun h => absurd (show 0 = 5 from h) (by decide), fun h => absurd (show 0 = 6 from h) (by decide)⟩⟩
  · intro as B s Wg hRu hT0 hΦ hlen i ρ H hT hInv hIH x hx ρ2 N2 H2 locs lsB stA hAt hXs hag hfr hT2
    rcases i with ⟨i, hi⟩
    have hi2 : i = 0 ∨ i = 1 ∨ i = 2 ∨ i = 3 ∨ i = 4 ∨ i = 5 ∨ i = 6 := by omega
    rcases hi2 with rfl | rfl | rfl | rfl | rfl | rfl | rfl
    · have hx : x ∈ [zxsw_ax0] := hx
      have hg : ∀ k, k < 2 → ρ2 k = ρ k := hag
      have hI := hInv
      have hI : (0 = 0 → (zyEl (zymr r c) B H) = (zyEl (zymr r c) B s.heap)) ∧ (0 = 1 → (zyEl (zymr r c) B H) = (zyEl (zymr r c) B s.heap) ∧ (ρ 2 = 0 ∨ ∀ m : Nat, m ≤ 8 → (zyEl (zymr r c) B s.heap) 75 2 = some (.int (Int32.ofNat m)) → zWl (zyEl (zymr r c) B s.heap) m)) ∧ (0 = 2 → ∃ n m : Nat, m ≤ 8 ∧ (zyEl (zymr r c) B s.heap) 75 2 = some (.int (Int32.ofNat m)) ∧ zBs (zyEl (zymr r c) B H) n m ∧ zyJb (zyEl (zymr r c) B s.heap) (zyEl (zymr r c) B H) ∧ zLv (zyEl (zymr r c) B s.heap) m ∧ zWl (zyEl (zymr r c) B s.heap) m ∧ n ≤ 0) ∧ (0 = 3 → ∃ n m : Nat, m ≤ 8 ∧ (zyEl (zymr r c) B s.heap) 75 2 = some (.int (Int32.ofNat m)) ∧ zBs (zyEl (zymr r c) B H) n m ∧ zyJb (zyEl (zymr r c) B s.heap) (zyEl (zymr r c) B H) ∧ zLv (zyEl (zymr r c) B s.heap) m ∧ zWl (zyEl (zymr r c) B s.heap) m ∧ n ≤ zyN1 (ρ 1) ∧ 2147483648 ≤ zB (ρ 1) ∧ zB (ρ 1) ≤ 2147483948 ∧ ρ 2 = zyI (zyEl (zymr r c) B s.heap) 74 14) ∧ (0 = 4 → ∃ n m : Nat, m ≤ 8 ∧ (zyEl (zymr r c) B s.heap) 75 2 = some (.int (Int32.ofNat m)) ∧ zBs (zyEl (zymr r c) B H) n m ∧ zyJb (zyEl (zymr r c) B s.heap) (zyEl (zymr r c) B H) ∧ zLv (zyEl (zymr r c) B s.heap) m ∧ zWl (zyEl (zymr r c) B s.heap) m ∧ n ≤ zyN1 (ρ 1) + 1 ∧ 2147483648 ≤ zB (ρ 1) ∧ zB (ρ 1) ≤ 2147483947) ∧ (0 = 5 → zyJb (zyEl (zymr r c) B s.heap) (zyEl (zymr r c) B H)) ∧ (0 = 6 → zyJb (zyEl (zymr r c) B s.heap) (zyEl (zymr r c) B H)) := hI
      obtain ⟨hF, hB, hM⟩ := hXs
      have hEE : (zyEl (zymr r c) B H2) = (zyEl (zymr r c) B H) := zyfr0 hfr
      have ex := List.mem_singleton.mp hx
      subst ex
      have hI := hI.1 rfl
      obtain ⟨⟨m0, m1, m2, m3, m4⟩, q, s1, s2, s3⟩ := hΦ
      refine zyCa1 hRu hIH hAt hB hcw (ix := 245) (ax := 3904) rfl rfl rfl hmecw ⟨rfl, rfl, rfl, rfl⟩ (by decide) [] rfl (by decide) rfl ⟨1, by decide⟩ [595, 0] [(0, 4294967295), (0, 4294967295)] 2147483648 2147483649 rfl (by decide) rfl rfl rfl rfl rfl ?_ ?_
      · show zyΦcw [] _
        rw [hEE, hI]
        exact ⟨m0, m1, m2, m4⟩
      · intro E3 vo hT3 hΨ
        obtain ⟨e3, z, ez, hz⟩ := (show zyΨcw [] _ E3 vo from hΨ)
        rw [hEE, hI] at e3 hz
        subst e3
        refine ⟨z, ez, ?_, ?_, ⟨fun h => absurd (show 1 = 0 from h) (by decide), fun _ => ⟨rfl, hz.imp (fun q => (zyρi_e (k0 := 2)).trans q) (fun q => q.2)⟩, fun h => absurd (show 1 = 2 from h) (by decide), fun h => absurd (show 1 = 3 from h) (by decide), fun h => absurd (show 1 = 4 from h) (by decide), fun h => absurd (show 1 = 5 from h) (by decide), fun h => absurd (show 1 = 6 from h) (by decide)⟩, ?_⟩
        · rcases hz with rfl | ⟨rfl, -⟩ <;> decide
        · rcases hz with rfl | ⟨rfl, -⟩ <;> decide
        · show 3999 < 4000
          decide
    · have hx : x ∈ [zxsw_bx0] := hx
      have hg : ∀ k, k < 3 → ρ2 k = ρ k := hag
      have hI := hInv
      have hI : (1 = 0 → (zyEl (zymr r c) B H) = (zyEl (zymr r c) B s.heap)) ∧ (1 = 1 → (zyEl (zymr r c) B H) = (zyEl (zymr r c) B s.heap) ∧ (ρ 2 = 0 ∨ ∀ m : Nat, m ≤ 8 → (zyEl (zymr r c) B s.heap) 75 2 = some (.int (Int32.ofNat m)) → zWl (zyEl (zymr r c) B s.heap) m)) ∧ (1 = 2 → ∃ n m : Nat, m ≤ 8 ∧ (zyEl (zymr r c) B s.heap) 75 2 = some (.int (Int32.ofNat m)) ∧ zBs (zyEl (zymr r c) B H) n m ∧ zyJb (zyEl (zymr r c) B s.heap) (zyEl (zymr r c) B H) ∧ zLv (zyEl (zymr r c) B s.heap) m ∧ zWl (zyEl (zymr r c) B s.heap) m ∧ n ≤ 0) ∧ (1 = 3 → ∃ n m : Nat, m ≤ 8 ∧ (zyEl (zymr r c) B s.heap) 75 2 = some (.int (Int32.ofNat m)) ∧ zBs (zyEl (zymr r c) B H) n m ∧ zyJb (zyEl (zymr r c) B s.heap) (zyEl (zymr r c) B H) ∧ zLv (zyEl (zymr r c) B s.heap) m ∧ zWl (zyEl (zymr r c) B s.heap) m ∧ n ≤ zyN1 (ρ 1) ∧ 2147483648 ≤ zB (ρ 1) ∧ zB (ρ 1) ≤ 2147483948 ∧ ρ 2 = zyI (zyEl (zymr r c) B s.heap) 74 14) ∧ (1 = 4 → ∃ n m : Nat, m ≤ 8 ∧ (zyEl (zymr r c) B s.heap) 75 2 = some (.int (Int32.ofNat m)) ∧ zBs (zyEl (zymr r c) B H) n m ∧ zyJb (zyEl (zymr r c) B s.heap) (zyEl (zymr r c) B H) ∧ zLv (zyEl (zymr r c) B s.heap) m ∧ zWl (zyEl (zymr r c) B s.heap) m ∧ n ≤ zyN1 (ρ 1) + 1 ∧ 2147483648 ≤ zB (ρ 1) ∧ zB (ρ 1) ≤ 2147483947) ∧ (1 = 5 → zyJb (zyEl (zymr r c) B s.heap) (zyEl (zymr r c) B H)) ∧ (1 = 6 → zyJb (zyEl (zymr r c) B s.heap) (zyEl (zymr r c) B H)) := hI
      obtain ⟨hF, hB, hM⟩ := hXs
      have hEE : (zyEl (zymr r c) B H2) = (zyEl (zymr r c) B H) := zyfr0 hfr
      have ex := List.mem_singleton.mp hx
      subst ex
      have hI := hI.2.1 rfl
      obtain ⟨hE0, hz⟩ := hI
      obtain ⟨⟨m0, m1, m2, m3, m4⟩, q, s1, s2, s3⟩ := hΦ
      have f0 := zyX23 hF 0 rfl
      have f0 : ¬ ρ2 2 = Int32.ofNat 0 := f0
      have hw0 := hz.resolve_left (fun q => f0 ((hg 2 (by decide)).trans q)) m0 m1 m2
      refine zyCa0 hRu hIH hAt hB hbb (ix := 249) (ax := 3808) rfl rfl rfl hmebb ⟨rfl, rfl, rfl, rfl⟩ (by decide) [] rfl (by decide) rfl ⟨2, by decide⟩ [595, 0] rfl rfl rfl rfl trivial ?_
      intro E3 vo hT3 hΨ
      obtain ⟨ev, q1, q2⟩ := (show zyΨbb [] _ E3 vo from hΨ)
      rw [hEE, hE0] at q1 q2
      refine ⟨ev, ⟨fun h => absurd (show 2 = 0 from h) (by decide), fun h => absurd (show 2 = 1 from h) (by decide), fun _ => ⟨0, m0, m1, m2, q2 m0 m1 m2, q1, m3, hw0, by omega⟩, fun h => absurd (show 2 = 3 from h) (by decide), fun h => absurd (show 2 = 4 from h) (by decide), fun h => absurd (show 2 = 5 from h) (by decide), fun h => absurd (show 2 = 6 from h) (by decide)⟩, ?_⟩
      show 3998 < 3999
      decide
    · have hx : x ∈ [zxsw_cx0] := hx
      have hg : ∀ k, k < 2 → ρ2 k = ρ k := hag
      have hI := hInv
      have hI : (2 = 0 → (zyEl (zymr r c) B H) = (zyEl (zymr r c) B s.heap)) ∧ (2 = 1 → (zyEl (zymr r c) B H) = (zyEl (zymr r c) B s.heap) ∧ (ρ 2 = 0 ∨ ∀ m : Nat, m ≤ 8 → (zyEl (zymr r c) B s.heap) 75 2 = some (.int (Int32.ofNat m)) → zWl (zyEl (zymr r c) B s.heap) m)) ∧ (2 = 2 → ∃ n m : Nat, m ≤ 8 ∧ (zyEl (zymr r c) B s.heap) 75 2 = some (.int (Int32.ofNat m)) ∧ zBs (zyEl (zymr r c) B H) n m ∧ zyJb (zyEl (zymr r c) B s.heap) (zyEl (zymr r c) B H) ∧ zLv (zyEl (zymr r c) B s.heap) m ∧ zWl (zyEl (zymr r c) B s.heap) m ∧ n ≤ 0) ∧ (2 = 3 → ∃ n m : Nat, m ≤ 8 ∧ (zyEl (zymr r c) B s.heap) 75 2 = some (.int (Int32.ofNat m)) ∧ zBs (zyEl (zymr r c) B H) n m ∧ zyJb (zyEl (zymr r c) B s.heap) (zyEl (zymr r c) B H) ∧ zLv (zyEl (zymr r c) B s.heap) m ∧ zWl (zyEl (zymr r c) B s.heap) m ∧ n ≤ zyN1 (ρ 1) ∧ 2147483648 ≤ zB (ρ 1) ∧ zB (ρ 1) ≤ 2147483948 ∧ ρ 2 = zyI (zyEl (zymr r c) B s.heap) 74 14) ∧ (2 = 4 → ∃ n m : Nat, m ≤ 8 ∧ (zyEl (zymr r c) B s.heap) 75 2 = some (.int (Int32.ofNat m)) ∧ zBs (zyEl (zymr r c) B H) n m ∧ zyJb (zyEl (zymr r c) B s.heap) (zyEl (zymr r c) B H) ∧ zLv (zyEl (zymr r c) B s.heap) m ∧ zWl (zyEl (zymr r c) B s.heap) m ∧ n ≤ zyN1 (ρ 1) + 1 ∧ 2147483648 ≤ zB (ρ 1) ∧ zB (ρ 1) ≤ 2147483947) ∧ (2 = 5 → zyJb (zyEl (zymr r c) B s.heap) (zyEl (zymr r c) B H)) ∧ (2 = 6 → zyJb (zyEl (zymr r c) B s.heap) (zyEl (zymr r c) B H)) := hI
      obtain ⟨hF, hB, hM⟩ := hXs
      have hEE : (zyEl (zymr r c) B H2) = (zyEl (zymr r c) B H) := zyfr0 hfr
      have ex := List.mem_singleton.mp hx
      subst ex
      have hI := hI.2.2.1 rfl
      obtain ⟨n, m, hm, hms, hbs, i1, hv, hw, hn⟩ := hI
      obtain ⟨⟨m0, m1, m2, m3, m4⟩, q, s1, s2, s3⟩ := hΦ
      refine zyGoKi hIH hAt hB ⟨3, by decide⟩ [595, 0] [(0, 4294967295), (2147483648, 2147483948)] 2147483648 2147483948 rfl (by decide) rfl rfl rfl (74 * 16384 + 14) zymr74 rfl rfl (show 14 < 49 by decide) (Int32.ofNat q) ?_ ?_ ⟨fun h => absurd (show 3 = 0 from h) (by decide), fun h => absurd (show 3 = 1 from h) (by decide), fun h => absurd (show 3 = 2 from h) (by decide), fun _ => ⟨n, m, hm, hms, by rw [hEE]; exact hbs, by rw [hEE]; exact i1, hv, hw, by omega, (show 2147483648 ≤ zB (Int32.ofNat 0) by decide), (show zB (Int32.ofNat 0) ≤ 2147483948 by decide), (zyρi_e (k0 := 2)).trans (zyI_s s2).symm⟩, fun h => absurd (show 3 = 4 from h) (by decide), fun h => absurd (show 3 = 5 from h) (by decide), fun h => absurd (show 3 = 6 from h) (by decide)⟩ ?_
      · show zyEl (zymr r c) B H2 74 14 = _
        rw [hEE, i1 74 14 (by decide) (by decide) (fun z => absurd z.2 (by decide))]
        exact s2
      · rw [zyBn (by omega)]
        omega
      · show 10 + 2 * (300 - zyN1 (zyρi _ 2 _ 1)) + (5 - 3) < 3998
        omega
    · have hx : x ∈ [zxsw_dx0, zxsw_dx1] := hx
      have hg : ∀ k, k < 3 → ρ2 k = ρ k := hag
      have hI := hInv
      have hI : (3 = 0 → (zyEl (zymr r c) B H) = (zyEl (zymr r c) B s.heap)) ∧ (3 = 1 → (zyEl (zymr r c) B H) = (zyEl (zymr r c) B s.heap) ∧ (ρ 2 = 0 ∨ ∀ m : Nat, m ≤ 8 → (zyEl (zymr r c) B s.heap) 75 2 = some (.int (Int32.ofNat m)) → zWl (zyEl (zymr r c) B s.heap) m)) ∧ (3 = 2 → ∃ n m : Nat, m ≤ 8 ∧ (zyEl (zymr r c) B s.heap) 75 2 = some (.int (Int32.ofNat m)) ∧ zBs (zyEl (zymr r c) B H) n m ∧ zyJb (zyEl (zymr r c) B s.heap) (zyEl (zymr r c) B H) ∧ zLv (zyEl (zymr r c) B s.heap) m ∧ zWl (zyEl (zymr r c) B s.heap) m ∧ n ≤ 0) ∧ (3 = 3 → ∃ n m : Nat, m ≤ 8 ∧ (zyEl (zymr r c) B s.heap) 75 2 = some (.int (Int32.ofNat m)) ∧ zBs (zyEl (zymr r c) B H) n m ∧ zyJb (zyEl (zymr r c) B s.heap) (zyEl (zymr r c) B H) ∧ zLv (zyEl (zymr r c) B s.heap) m ∧ zWl (zyEl (zymr r c) B s.heap) m ∧ n ≤ zyN1 (ρ 1) ∧ 2147483648 ≤ zB (ρ 1) ∧ zB (ρ 1) ≤ 2147483948 ∧ ρ 2 = zyI (zyEl (zymr r c) B s.heap) 74 14) ∧ (3 = 4 → ∃ n m : Nat, m ≤ 8 ∧ (zyEl (zymr r c) B s.heap) 75 2 = some (.int (Int32.ofNat m)) ∧ zBs (zyEl (zymr r c) B H) n m ∧ zyJb (zyEl (zymr r c) B s.heap) (zyEl (zymr r c) B H) ∧ zLv (zyEl (zymr r c) B s.heap) m ∧ zWl (zyEl (zymr r c) B s.heap) m ∧ n ≤ zyN1 (ρ 1) + 1 ∧ 2147483648 ≤ zB (ρ 1) ∧ zB (ρ 1) ≤ 2147483947) ∧ (3 = 5 → zyJb (zyEl (zymr r c) B s.heap) (zyEl (zymr r c) B H)) ∧ (3 = 6 → zyJb (zyEl (zymr r c) B s.heap) (zyEl (zymr r c) B H)) := hI
      obtain ⟨hF, hB, hM⟩ := hXs
      have hEE : (zyEl (zymr r c) B H2) = (zyEl (zymr r c) B H) := zyfr0 hfr
      rcases List.mem_cons.mp hx with ex | hx
      · subst ex
        have hI := hI.2.2.2.1 rfl
        obtain ⟨⟨m0, m1, m2, m3, m4⟩, q, s1, s2, s3⟩ := hΦ
        obtain ⟨n, m, hm, hms, hbs, i1, hv, hw, hn, v1, v2, v3⟩ := hI
        have bd : 2147483648 ≤ zB (ρ2 1) ∧ zB (ρ2 1) ≤ 2147483947 := zyXb hB 0 rfl
        obtain ⟨o1, o2⟩ := zyOn bd.1
        have a1 : ρ2 1 = ρ 1 := hg 1 (by decide)
        rw [← a1] at hn
        have a2 : ρ2 2 = Int32.ofNat q := (hg 2 (by decide)).trans (v3.trans (zyI_s s2))
        have f0 := zyX20 hF 0 rfl
        have f0 : ρ2 1 < ρ2 2 := f0
        rw [o1, a2, zyOl (by omega) (by omega)] at f0
        obtain ⟨n3, w1, w2, w3⟩ := zyXe hF 1 rfl
        have w1 : ρ2 1 = Int32.ofNat n3 := w1
        have w3 : zyEl (zymr r c) B H 80 n3 = some (.int (ρ2 3)) := w3
        rw [o1] at w1
        rw [← zyOi (by omega) (by omega) w1] at w3
        have hval : zVl m (ρ2 3) := by
          have := s3 m hm hms (zyN1 (ρ2 1)) f0
          rw [← zyJb_80 i1, zyI_s w3] at this
          exact this
        refine zyCa0 hRu hIH hAt hB hjo (ix := 242) (ax := 3792) rfl rfl rfl hmejo ⟨rfl, rfl, rfl, rfl⟩ (by decide) [103079215105] rfl (by decide) rfl ⟨4, by decide⟩ [595, 34359738369] rfl rfl rfl rfl ?_ ?_
        · show zyΦjo [ρ2 3] _
          rw [hEE]
          exact zBs_Φ hbs (by omega) hval
        · intro E3 vo hT3 hΨ
          have hΨ : zyΨjo [ρ2 3] _ E3 vo := hΨ
          rw [hEE] at hΨ
          obtain ⟨ev, n', q1, q2, q3⟩ := zBs_jo hbs (by omega) hΨ
          refine ⟨ev, ⟨fun h => absurd (show 4 = 0 from h) (by decide), fun h => absurd (show 4 = 1 from h) (by decide), fun h => absurd (show 4 = 2 from h) (by decide), fun h => absurd (show 4 = 3 from h) (by decide), fun _ => ⟨n', m, hm, hms, q2, zyJb_jo i1 q3, hv, hw, (by show n' ≤ zyN1 (ρ2 1) + 1; omega), bd.1, bd.2⟩, fun h => absurd (show 4 = 5 from h) (by decide), fun h => absurd (show 4 = 6 from h) (by decide)⟩, ?_⟩
          show 10 + 2 * (300 - zyN1 (ρ2 1)) + (5 - 4) < 10 + 2 * (300 - zyN1 (ρ 1)) + (5 - 3)
          rw [a1]
          omega
      · skip
        have ex := List.mem_singleton.mp hx
        subst ex
        have hI := hI.2.2.2.1 rfl
        obtain ⟨n, m, hm, hms, hbs, i1, hv, hw, hn, v1, v2, v3⟩ := hI
        obtain ⟨o1, o2⟩ := zyOn v1
        refine zyCa0 hRu hIH hAt hB hud (ix := 256) (ax := 3872) rfl rfl rfl hmeud ⟨rfl, rfl, rfl, rfl⟩ (by decide) [] rfl (by decide) rfl ⟨5, by decide⟩ [595, 0] rfl rfl rfl rfl ?_ ?_
        · show zyΦwd 60 zWl [] _
          rw [hEE]
          exact ⟨n, m, hbs, by omega, zWl_jb i1 hw⟩
        · intro E3 vo hT3 hΨ
          have hΨ : zyΨwd 61 [] _ E3 vo := hΨ
          rw [hEE] at hΨ
          obtain ⟨ev, q1, q2⟩ := hΨ
          obtain ⟨n', q3, q4⟩ := q2 n m hbs (by omega)
          refine ⟨ev, ⟨fun h => absurd (show 5 = 0 from h) (by decide), fun h => absurd (show 5 = 1 from h) (by decide), fun h => absurd (show 5 = 2 from h) (by decide), fun h => absurd (show 5 = 3 from h) (by decide), fun h => absurd (show 5 = 4 from h) (by decide), fun _ => zyJb_jo i1 q1, fun h => absurd (show 5 = 6 from h) (by decide)⟩, ?_⟩
          show 8 - 5 < 10 + 2 * (300 - zyN1 (ρ 1)) + (5 - 3)
          omega
    · have hx : x ∈ [zxsw_ex0] := hx
      have hg : ∀ k, k < 2 → ρ2 k = ρ k := hag
      have hI := hInv
      have hI : (4 = 0 → (zyEl (zymr r c) B H) = (zyEl (zymr r c) B s.heap)) ∧ (4 = 1 → (zyEl (zymr r c) B H) = (zyEl (zymr r c) B s.heap) ∧ (ρ 2 = 0 ∨ ∀ m : Nat, m ≤ 8 → (zyEl (zymr r c) B s.heap) 75 2 = some (.int (Int32.ofNat m)) → zWl (zyEl (zymr r c) B s.heap) m)) ∧ (4 = 2 → ∃ n m : Nat, m ≤ 8 ∧ (zyEl (zymr r c) B s.heap) 75 2 = some (.int (Int32.ofNat m)) ∧ zBs (zyEl (zymr r c) B H) n m ∧ zyJb (zyEl (zymr r c) B s.heap) (zyEl (zymr r c) B H) ∧ zLv (zyEl (zymr r c) B s.heap) m ∧ zWl (zyEl (zymr r c) B s.heap) m ∧ n ≤ 0) ∧ (4 = 3 → ∃ n m : Nat, m ≤ 8 ∧ (zyEl (zymr r c) B s.heap) 75 2 = some (.int (Int32.ofNat m)) ∧ zBs (zyEl (zymr r c) B H) n m ∧ zyJb (zyEl (zymr r c) B s.heap) (zyEl (zymr r c) B H) ∧ zLv (zyEl (zymr r c) B s.heap) m ∧ zWl (zyEl (zymr r c) B s.heap) m ∧ n ≤ zyN1 (ρ 1) ∧ 2147483648 ≤ zB (ρ 1) ∧ zB (ρ 1) ≤ 2147483948 ∧ ρ 2 = zyI (zyEl (zymr r c) B s.heap) 74 14) ∧ (4 = 4 → ∃ n m : Nat, m ≤ 8 ∧ (zyEl (zymr r c) B s.heap) 75 2 = some (.int (Int32.ofNat m)) ∧ zBs (zyEl (zymr r c) B H) n m ∧ zyJb (zyEl (zymr r c) B s.heap) (zyEl (zymr r c) B H) ∧ zLv (zyEl (zymr r c) B s.heap) m ∧ zWl (zyEl (zymr r c) B s.heap) m ∧ n ≤ zyN1 (ρ 1) + 1 ∧ 2147483648 ≤ zB (ρ 1) ∧ zB (ρ 1) ≤ 2147483947) ∧ (4 = 5 → zyJb (zyEl (zymr r c) B s.heap) (zyEl (zymr r c) B H)) ∧ (4 = 6 → zyJb (zyEl (zymr r c) B s.heap) (zyEl (zymr r c) B H)) := hI
      obtain ⟨hF, hB, hM⟩ := hXs
      have hEE : (zyEl (zymr r c) B H2) = (zyEl (zymr r c) B H) := zyfr0 hfr
      have ex := List.mem_singleton.mp hx
      subst ex
      have hI := hI.2.2.2.2.1 rfl
      obtain ⟨⟨m0, m1, m2, m3, m4⟩, q, s1, s2, s3⟩ := hΦ
      obtain ⟨n, m, hm, hms, hbs, i1, hv, hw, hn, v1, v2⟩ := hI
      have bd : 2147483648 ≤ zB (ρ2 1) ∧ zB (ρ2 1) ≤ 2147483947 := zyXb hB 0 rfl
      obtain ⟨q1, q2, -⟩ := zyStep (b := 299) bd (by decide)
      have bd2 : 2147483649 ≤ zB (ρ2 1 + Int32.ofNat 1) ∧ zB (ρ2 1 + Int32.ofNat 1) ≤ 2147483948 := zyXb hB 1 rfl
      rw [← hg 1 (by decide)] at hn
      refine zyGoKi hIH hAt hB ⟨3, by decide⟩ [595, 34359738377] [(0, 4294967295), (2147483648, 2147483948)] 2147483648 2147483948 rfl (by decide) rfl rfl rfl (74 * 16384 + 14) zymr74 rfl rfl (show 14 < 49 by decide) (Int32.ofNat q) ?_ ?_ ⟨fun h => absurd (show 3 = 0 from h) (by decide), fun h => absurd (show 3 = 1 from h) (by decide), fun h => absurd (show 3 = 2 from h) (by decide), fun _ => ⟨n, m, hm, hms, by rw [hEE]; exact hbs, by rw [hEE]; exact i1, hv, hw, (by rw [zyρi_n (by decide)]; show n ≤ zyN1 (ρ2 1 + Int32.ofNat 1); rw [q1]; omega), (by rw [zyρi_n (by decide)]; show 2147483648 ≤ zB (ρ2 1 + Int32.ofNat 1); omega), (by rw [zyρi_n (by decide)]; exact bd2.2), (zyρi_e (k0 := 2)).trans (zyI_s s2).symm⟩, fun h => absurd (show 3 = 4 from h) (by decide), fun h => absurd (show 3 = 5 from h) (by decide), fun h => absurd (show 3 = 6 from h) (by decide)⟩ ?_
      · show zyEl (zymr r c) B H2 74 14 = _
        rw [hEE, i1 74 14 (by decide) (by decide) (fun z => absurd z.2 (by decide))]
        exact s2
      · rw [zyBn (by omega)]
        omega
      · show 10 + 2 * (300 - zyN1 (zyρi _ 2 _ 1)) + (5 - 3) < 10 + 2 * (300 - zyN1 (ρ 1)) + (5 - 4)
        rw [zyρi_n (by decide)]
        show 10 + 2 * (300 - zyN1 (ρ2 1 + Int32.ofNat 1)) + (5 - 3) < 10 + 2 * (300 - zyN1 (ρ 1)) + (5 - 4)
        rw [q1, ← hg 1 (by decide)]
        omega
    · have hx : x ∈ [zxsw_fx0] := hx
      have hg : ∀ k, k < 2 → ρ2 k = ρ k := hag
      have hI := hInv
      have hI : (5 = 0 → (zyEl (zymr r c) B H) = (zyEl (zymr r c) B s.heap)) ∧ (5 = 1 → (zyEl (zymr r c) B H) = (zyEl (zymr r c) B s.heap) ∧ (ρ 2 = 0 ∨ ∀ m : Nat, m ≤ 8 → (zyEl (zymr r c) B s.heap) 75 2 = some (.int (Int32.ofNat m)) → zWl (zyEl (zymr r c) B s.heap) m)) ∧ (5 = 2 → ∃ n m : Nat, m ≤ 8 ∧ (zyEl (zymr r c) B s.heap) 75 2 = some (.int (Int32.ofNat m)) ∧ zBs (zyEl (zymr r c) B H) n m ∧ zyJb (zyEl (zymr r c) B s.heap) (zyEl (zymr r c) B H) ∧ zLv (zyEl (zymr r c) B s.heap) m ∧ zWl (zyEl (zymr r c) B s.heap) m ∧ n ≤ 0) ∧ (5 = 3 → ∃ n m : Nat, m ≤ 8 ∧ (zyEl (zymr r c) B s.heap) 75 2 = some (.int (Int32.ofNat m)) ∧ zBs (zyEl (zymr r c) B H) n m ∧ zyJb (zyEl (zymr r c) B s.heap) (zyEl (zymr r c) B H) ∧ zLv (zyEl (zymr r c) B s.heap) m ∧ zWl (zyEl (zymr r c) B s.heap) m ∧ n ≤ zyN1 (ρ 1) ∧ 2147483648 ≤ zB (ρ 1) ∧ zB (ρ 1) ≤ 2147483948 ∧ ρ 2 = zyI (zyEl (zymr r c) B s.heap) 74 14) ∧ (5 = 4 → ∃ n m : Nat, m ≤ 8 ∧ (zyEl (zymr r c) B s.heap) 75 2 = some (.int (Int32.ofNat m)) ∧ zBs (zyEl (zymr r c) B H) n m ∧ zyJb (zyEl (zymr r c) B s.heap) (zyEl (zymr r c) B H) ∧ zLv (zyEl (zymr r c) B s.heap) m ∧ zWl (zyEl (zymr r c) B s.heap) m ∧ n ≤ zyN1 (ρ 1) + 1 ∧ 2147483648 ≤ zB (ρ 1) ∧ zB (ρ 1) ≤ 2147483947) ∧ (5 = 5 → zyJb (zyEl (zymr r c) B s.heap) (zyEl (zymr r c) B H)) ∧ (5 = 6 → zyJb (zyEl (zymr r c) B s.heap) (zyEl (zymr r c) B H)) := hI
      obtain ⟨hF, hB, hM⟩ := hXs
      have hEE : (zyEl (zymr r c) B H2) = (zyEl (zymr r c) B H) := zyfr0 hfr
      have ex := List.mem_singleton.mp hx
      subst ex
      have hI := hI.2.2.2.2.2.1 rfl
      have i1 := hI
      refine zyCa1 hRu hIH hAt hB hnb (ix := 259) (ax := 3824) rfl rfl rfl hmenb ⟨rfl, rfl, rfl, rfl⟩ (by decide) [] rfl (by decide) rfl ⟨6, by decide⟩ [595, 0] [(0, 4294967295), (0, 4294967295)] 2147483648 2147483649 rfl (by decide) rfl rfl rfl rfl rfl trivial ?_
      intro E3 vo hT3 hΨ
      obtain ⟨e3, z, ez, hz⟩ := (show zyΨie [] _ E3 vo from hΨ)
      rw [hEE] at e3
      subst e3
      refine ⟨z, ez, ?_, ?_, ⟨fun h => absurd (show 6 = 0 from h) (by decide), fun h => absurd (show 6 = 1 from h) (by decide), fun h => absurd (show 6 = 2 from h) (by decide), fun h => absurd (show 6 = 3 from h) (by decide), fun h => absurd (show 6 = 4 from h) (by decide), fun h => absurd (show 6 = 5 from h) (by decide), fun _ => i1⟩, ?_⟩
      · rcases hz with rfl | rfl <;> decide
      · rcases hz with rfl | rfl <;> decide
      · show 2 < 3
        decide
    · cases hx
  · intro as E0 E E2 hT0 hΦ hlen i ρ hT hInv x hx ρ2 N2 B vo hXs hag hfr hT2 hvo
    rcases i with ⟨i, hi⟩
    have hi2 : i = 0 ∨ i = 1 ∨ i = 2 ∨ i = 3 ∨ i = 4 ∨ i = 5 ∨ i = 6 := by omega
    rcases hi2 with rfl | rfl | rfl | rfl | rfl | rfl | rfl
    · cases hx
    · have hx : x ∈ [zxsw_br0] := hx
      have hg : ∀ k, k < 3 → ρ2 k = ρ k := hag
      have hI := hInv
      have hI : (1 = 0 → E = E0) ∧ (1 = 1 → E = E0 ∧ (ρ 2 = 0 ∨ ∀ m : Nat, m ≤ 8 → E0 75 2 = some (.int (Int32.ofNat m)) → zWl E0 m)) ∧ (1 = 2 → ∃ n m : Nat, m ≤ 8 ∧ E0 75 2 = some (.int (Int32.ofNat m)) ∧ zBs E n m ∧ zyJb E0 E ∧ zLv E0 m ∧ zWl E0 m ∧ n ≤ 0) ∧ (1 = 3 → ∃ n m : Nat, m ≤ 8 ∧ E0 75 2 = some (.int (Int32.ofNat m)) ∧ zBs E n m ∧ zyJb E0 E ∧ zLv E0 m ∧ zWl E0 m ∧ n ≤ zyN1 (ρ 1) ∧ 2147483648 ≤ zB (ρ 1) ∧ zB (ρ 1) ≤ 2147483948 ∧ ρ 2 = zyI E0 74 14) ∧ (1 = 4 → ∃ n m : Nat, m ≤ 8 ∧ E0 75 2 = some (.int (Int32.ofNat m)) ∧ zBs E n m ∧ zyJb E0 E ∧ zLv E0 m ∧ zWl E0 m ∧ n ≤ zyN1 (ρ 1) + 1 ∧ 2147483648 ≤ zB (ρ 1) ∧ zB (ρ 1) ≤ 2147483947) ∧ (1 = 5 → zyJb E0 E) ∧ (1 = 6 → zyJb E0 E) := hI
      obtain ⟨hF, hB, hM⟩ := hXs
      have hEE : E2 = E := zyfr0 hfr
      have ex := List.mem_singleton.mp hx
      subst ex
      have hI := hI.2.1 rfl
      rw [hEE, hI.1]
      exact ⟨fun _ _ _ _ _ => rfl, 0, zyvo_1 (c := 0) (by decide) (show zyvo (zyXn B ρ2 N2) [0] vo from hvo), Or.inl rfl⟩
    · cases hx
    · cases hx
    · cases hx
    · cases hx
    · have hx : x ∈ [zxsw_gr0] := hx
      have hg : ∀ k, k < 3 → ρ2 k = ρ k := hag
      have hI := hInv
      have hI : (6 = 0 → E = E0) ∧ (6 = 1 → E = E0 ∧ (ρ 2 = 0 ∨ ∀ m : Nat, m ≤ 8 → E0 75 2 = some (.int (Int32.ofNat m)) → zWl E0 m)) ∧ (6 = 2 → ∃ n m : Nat, m ≤ 8 ∧ E0 75 2 = some (.int (Int32.ofNat m)) ∧ zBs E n m ∧ zyJb E0 E ∧ zLv E0 m ∧ zWl E0 m ∧ n ≤ 0) ∧ (6 = 3 → ∃ n m : Nat, m ≤ 8 ∧ E0 75 2 = some (.int (Int32.ofNat m)) ∧ zBs E n m ∧ zyJb E0 E ∧ zLv E0 m ∧ zWl E0 m ∧ n ≤ zyN1 (ρ 1) ∧ 2147483648 ≤ zB (ρ 1) ∧ zB (ρ 1) ≤ 2147483948 ∧ ρ 2 = zyI E0 74 14) ∧ (6 = 4 → ∃ n m : Nat, m ≤ 8 ∧ E0 75 2 = some (.int (Int32.ofNat m)) ∧ zBs E n m ∧ zyJb E0 E ∧ zLv E0 m ∧ zWl E0 m ∧ n ≤ zyN1 (ρ 1) + 1 ∧ 2147483648 ≤ zB (ρ 1) ∧ zB (ρ 1) ≤ 2147483947) ∧ (6 = 5 → zyJb E0 E) ∧ (6 = 6 → zyJb E0 E) := hI
      obtain ⟨hF, hB, hM⟩ := hXs
      have hEE : E2 = E := zyfr0 hfr
      have ex := List.mem_singleton.mp hx
      subst ex
      have hI := hI.2.2.2.2.2.2 rfl
      have hb : 2147483648 ≤ zB (ρ2 2) ∧ zB (ρ2 2) ≤ 2147483649 := zyXb hB 0 rfl
      rw [hEE]
      exact ⟨hI, ρ2 2, zyvo_1 (c := 68719476737) (by decide) (show zyvo (zyXn B ρ2 N2) [68719476737] vo from hvo), zybool hb.1 hb.2⟩
end
section
/-! phases: isAhead (printed by yex7.py) -/
noncomputable def zxah_ax0 : zyXp := (2, [595, 34359738369, 68719476737], [34359738369, 595], [], [(34359738369, 2147483648, 2147483727), (68719476737, 2147483648, 2147483727)], [])
noncomputable def zpah_a : zyPh := (0, [595, 34359738369, 68719476737], [(0, 4294967295), (2147483648, 2147483727), (2147483648, 2147483727)], [], [])
noncomputable def zxah_bx0 : zyXp := (7, [595, 34359738369, 68719476737], [68719476737, 595, 103079215105], [], [(34359738369, 2147483648, 2147483727), (68719476737, 2147483648, 2147483727), (103079215105, 2147483647, 2147483657)], [])
noncomputable def zpah_b : zyPh := (5, [595, 34359738369, 68719476737], [(0, 4294967295), (2147483648, 2147483727), (2147483648, 2147483727), (2147483647, 2147483657)], [], [103079215105])
noncomputable def zxah_cx0 : zyXp := (15, [595, 34359738369, 68719476737], [34359738369, 595], [(23, 0, 103079215105, 137438953473)], [(34359738369, 2147483648, 2147483727), (68719476737, 2147483648, 2147483727), (103079215105, 2147483647, 2147483657), (137438953473, 2147483647, 2147483657)], [])
noncomputable def zxah_cx1 : zyXp := (36, [595, 34359738369, 68719476737], [34359738369, 595], [(22, 0, 103079215105, 137438953473)], [(34359738369, 2147483648, 2147483727), (68719476737, 2147483648, 2147483727), (103079215105, 2147483647, 2147483657), (137438953473, 2147483647, 2147483657)], [])
noncomputable def zpah_c : zyPh := (10, [595, 34359738369, 68719476737], [(0, 4294967295), (2147483648, 2147483727), (2147483648, 2147483727), (2147483647, 2147483657), (2147483647, 2147483657)], [], [137438953473, 103079215105])
noncomputable def zxah_dx0 : zyXp := (20, [595, 34359738369, 68719476737], [68719476737, 595, 103079215105], [], [(34359738369, 2147483648, 2147483727), (68719476737, 2147483648, 2147483727), (103079215105, 2147483647, 2147483657)], [])
noncomputable def zpah_d : zyPh := (18, [595, 34359738369, 68719476737], [(0, 4294967295), (2147483648, 2147483727), (2147483648, 2147483727), (2147483647, 2147483657)], [], [103079215105])
noncomputable def zxah_er0 : zyXp := (0, [], [8], [(20, 0, 103079215105, 137438953473)], [(103079215105, 2147483647, 2147483656), (137438953473, 2147483648, 2147483657)], [])
noncomputable def zxah_er1 : zyXp := (0, [], [0], [(21, 0, 103079215105, 137438953473)], [(103079215105, 2147483647, 2147483657), (137438953473, 2147483647, 2147483657)], [])
noncomputable def zpah_e : zyPh := (23, [595, 34359738369, 68719476737], [(0, 4294967295), (2147483648, 2147483727), (2147483648, 2147483727), (2147483647, 2147483657), (2147483647, 2147483657)], [], [137438953473, 103079215105])
noncomputable def zxah_fx0 : zyXp := (41, [595, 34359738369, 68719476737], [68719476737, 595, 103079215105], [], [(34359738369, 2147483648, 2147483727), (68719476737, 2147483648, 2147483727), (103079215105, 2147483647, 2147483687)], [])
noncomputable def zpah_f : zyPh := (39, [595, 34359738369, 68719476737], [(0, 4294967295), (2147483648, 2147483727), (2147483648, 2147483727), (2147483647, 2147483687)], [], [103079215105])
noncomputable def zxah_gr0 : zyXp := (0, [], [8], [(20, 0, 103079215105, 137438953473)], [(103079215105, 2147483647, 2147483686), (137438953473, 2147483648, 2147483687)], [])
noncomputable def zxah_gr1 : zyXp := (0, [], [0], [(21, 0, 103079215105, 137438953473)], [(103079215105, 2147483647, 2147483687), (137438953473, 2147483647, 2147483687)], [])
noncomputable def zpah_g : zyPh := (44, [595, 34359738369, 68719476737], [(0, 4294967295), (2147483648, 2147483727), (2147483648, 2147483727), (2147483647, 2147483687), (2147483647, 2147483687)], [], [137438953473, 103079215105])
noncomputable def zpah (i : Nat) : zyPh := zif (Nat.beq i 0) (zpah_a) (zif (Nat.beq i 1) (zpah_b) (zif (Nat.beq i 2) (zpah_c) (zif (Nat.beq i 3) (zpah_d) (zif (Nat.beq i 4) (zpah_e) (zif (Nat.beq i 5) (zpah_f) (zpah_g))))))
noncomputable def zXah (i : Nat) : List zyXp := zif (Nat.beq i 0) ([zxah_ax0]) (zif (Nat.beq i 1) ([zxah_bx0]) (zif (Nat.beq i 2) ([zxah_cx0, zxah_cx1]) (zif (Nat.beq i 3) ([zxah_dx0]) (zif (Nat.beq i 4) ([]) (zif (Nat.beq i 5) ([zxah_fx0]) ([]))))))
noncomputable def zRah (i : Nat) : List zyXp := zif (Nat.beq i 0) ([]) (zif (Nat.beq i 1) ([]) (zif (Nat.beq i 2) ([]) (zif (Nat.beq i 3) ([]) (zif (Nat.beq i 4) ([zxah_er0, zxah_er1]) (zif (Nat.beq i 5) ([]) ([zxah_gr0, zxah_gr1]))))))
noncomputable def zFah (i : Nat) : zyR := zif (Nat.beq i 0) ([]) (zif (Nat.beq i 1) ([]) (zif (Nat.beq i 2) ([]) (zif (Nat.beq i 3) ([]) (zif (Nat.beq i 4) ([]) (zif (Nat.beq i 5) ([]) ([]))))))
noncomputable def zSah (i : Nat) : Nat := zif (Nat.beq i 0) (0) (zif (Nat.beq i 1) (0) (zif (Nat.beq i 2) (0) (zif (Nat.beq i 3) (0) (zif (Nat.beq i 4) (0) (zif (Nat.beq i 5) (0) (0))))))
end
section
/-! WHERE A SLOT IS: xOf, yOf at each slot, which one is ahead -/
noncomputable def zgX1 (c s : Nat) : Nat := Nat.add (Nat.mul 2 (Nat.mod (Nat.div s 4) c)) (zif (Nat.beq (Nat.mod s 4) 1) 2 (zif (Nat.beq (Nat.mod s 4) 3) 0 1))
noncomputable def zgY1 (c s : Nat) : Nat := Nat.add (Nat.mul 2 (Nat.div (Nat.div s 4) c)) (zif (Nat.beq (Nat.mod s 4) 2) 2 (zif (Nat.beq (Nat.mod s 4) 0) 0 1))
noncomputable def zgD (v : Nat) : Nat := Nat.mod (Nat.add v 4294967295) 4294967296
theorem zgrunX : zyAllP (fun r c => zyAll (fun s => zand (Nat.ble (zgX1 c s) 10) (zyk1 (zymr r c) 205 2 1 [595, Nat.mul 8 s] [] (Nat.mul 8 (zgD (zgX1 c s))))) 80) = true := by decide +kernel
theorem zgrunY : zyAllP (fun r c => zyAll (fun s => zand (Nat.ble (zgY1 c s) 40) (zyk1 (zymr r c) 206 2 1 [595, Nat.mul 8 s] [] (Nat.mul 8 (zgD (zgY1 c s))))) 80) = true := by decide +kernel
def zyΦx (as : List Int32) (_ : zyEm) : Prop := ∃ s : Nat, s < 80 ∧ as = [Int32.ofNat s]
def zyΨx (f : Nat → Nat) (as : List Int32) (E E2 : zyEm) (vo : Option Value) : Prop := E2 = E ∧ ∀ s : Nat, s < 80 → as = [Int32.ofNat s] → vo = some (.int (Int32.ofNat (zgD (f s))))
theorem zyHc_pt {l : Launch} {mi : zyB} {en : zEn} {me : zMe} {dep : Nat} {f : Nat → Nat} (h : ∀ s, s < 80 → zyCon l mi zyJ0 en me ([595, 8 * s], [], [8 * zgD (f s)], dep, [], [])) : zyHc l mi en me dep 1 zyΦx (zyΨx f) := by
  intro B xs hx
  refine zyMet_pt (fun a s hp => ?_)
  obtain ⟨rfl, hK, hI, q, hq, rfl⟩ := hp
  have hm := h q hq B (zyAr B [Int32.ofNat q]) ⟨Or.inl ⟨Or.inr (Or.inr (Or.inr (Or.inl ⟨rfl, rfl⟩))), fun q => by omega, fun q => by omega⟩, zyv_mk rfl, trivial⟩
  refine ⟨_, _, hm, ⟨rfl, hK, hI, fun p hp => by cases hp⟩, fun o t hq2 => ?_⟩
  obtain ⟨vo, e1, hv, k1, k2, k3, k4, k5⟩ := hq2
  refine ⟨vo, e1, k1, k2, ⟨?_, fun s' hs' e => ?_⟩, k5⟩
  · funext a k
    exact k4 a k rfl
  · have e := zyOi (by omega) (by omega) (List.cons.inj e).1
    subst e
    cases vo with
    | none => exact hv.elim
    | some w =>
      have e3 := zyv_0 (show zyV (zyX0 B zyJ0) (8 * zgD (f q)) w from hv) (by omega)
      rw [show 8 * zgD (f q) / 8 = zgD (f q) by omega] at e3
      rw [e3]
theorem zyxOf {l : Launch} {r c : Nat} (h1 : 1 ≤ r) (h2 : r ≤ 4) (h3 : 1 ≤ c) (h4 : c ≤ 5) {en : zEn} {me : zMe} (hen : zG zxMeta 205 = some en) (hme : zG zMeth 205 = some me) : zyHc l (zymr r c) en me 1 1 zyΦx (zyΨx (zgX1 c)) := zyHc_pt (fun s hs => zyk1_ok zyJ0_r.1 (zand_iff (zyAll_iff (zyAllP_iff zgrunX h1 h2 h3 h4) s hs)).2 hen hme)
theorem zyyOf {l : Launch} {r c : Nat} (h1 : 1 ≤ r) (h2 : r ≤ 4) (h3 : 1 ≤ c) (h4 : c ≤ 5) {en : zEn} {me : zMe} (hen : zG zxMeta 206 = some en) (hme : zG zMeth 206 = some me) : zyHc l (zymr r c) en me 1 1 zyΦx (zyΨx (zgY1 c)) := zyHc_pt (fun s hs => zyk1_ok zyJ0_r.1 (zand_iff (zyAll_iff (zyAllP_iff zgrunY h1 h2 h3 h4) s hs)).2 hen hme)
theorem zgX1_le {r c : Nat} (h1 : 1 ≤ r) (h2 : r ≤ 4) (h3 : 1 ≤ c) (h4 : c ≤ 5) {s : Nat} (hs : s < 80) : zgX1 c s ≤ 10 := zbleT (zand_iff (zyAll_iff (zyAllP_iff zgrunX h1 h2 h3 h4) s hs)).1
theorem zgY1_le {r c : Nat} (h1 : 1 ≤ r) (h2 : r ≤ 4) (h3 : 1 ≤ c) (h4 : c ≤ 5) {s : Nat} (hs : s < 80) : zgY1 c s ≤ 40 := zbleT (zand_iff (zyAll_iff (zyAllP_iff zgrunY h1 h2 h3 h4) s hs)).1
theorem zgD_B {v : Nat} (h : v ≤ 40) : zB (Int32.ofNat (zgD v)) = v + 2147483647 := by
  have e : zgD v = (v + 4294967295) % 4294967296 := rfl
  rw [zB_of, zb_def, e]
  omega
theorem zgD_i {v w : Nat} (h : v ≤ 40) (h' : w ≤ 40) (e : Int32.ofNat (zgD v) = Int32.ofNat (zgD w)) : v = w := by
  have e2 := congrArg zB e
  rw [zgD_B h, zgD_B h'] at e2
  omega
noncomputable def zky (c s : Nat) : Nat := 64 * zgX1 c s + zgY1 c s
section YGO8
variable {l : Launch} {mi : zyB} {en : zEn} {dep : Nat} {B : zCx} {s : State} {ι : Type} {φ : ι → zyPh} {Inv : ι → (Nat → Int32) → zyEm → Prop} {Mu : ι → (Nat → Int32) → zyEm → Nat} {M : Nat} {Wg : zyWt} {x : zyXp} {ρ2 : Nat → Int32} {N : Nat} {H : Heap} {locs : List Loc} {lsB : Array Slot} {stA : List Value}
theorem zySt_i {B : zCx} {ρ : Nat → Int32} {k0 : Nat} {z : Int32} {N : Nat} : ∀ {st : List Nat} {vs : List Value}, zySt (zyXn B ρ k0) st vs → k0 ≤ N → zySt (zyXn B (zyρi ρ k0 z) N) st vs := by
  intro st
  induction st with
  | nil => intro vs h _; rw [zySt_n h]; trivial
  | cons a t ih =>
    intro vs h hN
    obtain ⟨v, u, rfl, g1, g2⟩ := zySt_c h
    exact ⟨zyv_up (N := k0) g1 (fun k hk => zyρi_n (by omega)) hN, ih g2 hN⟩
/-- a call that answers an int, with a rest of the stack -/
theorem zyCa1r (hRu : zyRu l mi en dep B s Wg) (hIH : zyIH mi en.2.2.1 B s φ Inv Mu M Wg) (hAt : zyAt mi B s en.2.2.1 x ρ2 N H locs lsB stA) (hB : ∀ b ∈ x.2.2.2.2.1, b.2.1 ≤ zB (zyw ρ2 b.1) ∧ zB (zyw ρ2 b.1) ≤ b.2.2) {en2 : zEn} {me2 : zMe} {dep2 na2 : Nat} {Φ2 : List Int32 → zyEm → Prop} {Ψ2 : List Int32 → zyEm → zyEm → Option Value → Prop} (hHc : zyHc l mi en2 me2 dep2 na2 Φ2 Ψ2) {ix ax : Nat} (hrow : en.1 x.1 = (.invokevirtual ix, x.1 + 3, ax)) (hkd : zG zKd (ax / 16) = some 0) (hen2 : zG zxMeta (ax / 16) = some en2) (hme2 : zG zMeth (ax / 16) = some me2) (hsh : en2.2.2.2.1 = 11 ∧ en2.2.1 = na2 + 1 ∧ en2.2.2.2.2.2.1 = 0 ∧ en2.2.2.2.2.2.2.1 = 0) (hdp : dep2 + 1 ≤ dep) (cs2 cr : List Nat) (hcs2 : x.2.2.1 = cs2.reverse ++ 595 :: cr) (hk : ∀ c ∈ cs2, c % 8 ≤ 1) (hkr : cr.length ≤ 8 ∧ ∀ c ∈ cr, c % 8 ≤ 1) (hlen : cs2.length = na2)
    (i2 : ι) (cs : List Nat) (env : List (Nat × Nat)) (lo hi : Nat) (he : (φ i2).2.2.1 = env ++ [(lo, hi)]) (hnl : en.2.2.1 ≤ zyln env) (hpc : (φ i2).1 = x.1 + 3) (hchk : zygoB en.2.2.1 x.2.1 (φ i2) cs = true) (henv : zyenvB x.2.2.2.2.1 cs env 0 = true) (hkc : (φ i2).2.2.2.1 = []) (st' : List Nat) (hst : (φ i2).2.2.2.2 = zysym (zyln env) :: st') (hT : zygoT cs (zyln env) st' cr = true)
    (hΦ : Φ2 (cs2.map (zyw ρ2)) (zyEl mi B H)) (kk : ∀ (E3 : zyEm) (vo : Option Value), zyTy mi E3 → Ψ2 (cs2.map (zyw ρ2)) (zyEl mi B H) E3 vo → ∃ z : Int32, vo = some (.int z) ∧ lo ≤ zB z ∧ zB z ≤ hi ∧ Inv i2 (zyρi (fun k => zyw ρ2 (zyag cs k)) (zyln env) z) E3 ∧ Mu i2 (zyρi (fun k => zyw ρ2 (zyag cs k)) (zyln env) z) E3 < M) : Wg H locs x.1 lsB stA := by
  have hsr : zySt (zyXn B ρ2 N) cr ((cr.map (zyw ρ2)).map Value.int) := by
    have h := hAt.2.2.2.2.2
    rw [hcs2] at h
    obtain ⟨q1, q2, e, g1, g2⟩ := zySt_split h
    obtain ⟨b, u, rfl, g3, g4⟩ := zySt_c g2
    have e2 := zySt_ints hkr.2 g4
    rw [e2] at g4
    exact g4
  refine zyCa hRu hIH hAt hrow hkd hen2 hme2 hsh hHc hdp cs2 cr hcs2 hk hkr hlen hΦ (fun H3 vo hT3 hΨ => ?_)
  obtain ⟨z, q1, q2, q3, q4, q5⟩ := kk _ vo hT3 hΨ
  have hl : (φ i2).2.2.1.length = zyln env + 1 := by rw [he, List.length_append, zyln_eq, List.length_singleton]
  refine ⟨i2, zyρi (fun k => zyw ρ2 (zyag cs k)) (zyln env) z, cs, hpc, hchk, fun i hi => zyρi_n (by omega), ?_, hkc, ?_, q4, q5⟩
  · rw [he]
    refine zEnv_i (zyln_eq env) (fun k p hp => ?_) ⟨q2, q3⟩
    have := zyenvB_iff hB henv k p hp
    rwa [Nat.zero_add] at this
  · rw [q1, hst, hl]
    exact zySt_sc (by omega) zyρi_e (zySt_i (zygoT_iff hT hsr) (by omega))
end YGO8
def zyΦah (as : List Int32) (_ : zyEm) : Prop := ∃ s o : Nat, as = [Int32.ofNat s, Int32.ofNat o] ∧ s < 80 ∧ o < 80
def zyΨah (c : Nat) (as : List Int32) (E E2 : zyEm) (vo : Option Value) : Prop := E2 = E ∧ ∃ z : Int32, vo = some (.int z) ∧ (z = 0 ∨ z = 1) ∧ ∀ s o : Nat, as = [Int32.ofNat s, Int32.ofNat o] → s < 80 → o < 80 → (z = 1 ↔ zky c s < zky c o)
theorem zyah_run : zyAllP (fun r c => zyrS (zymr r c) zxi207 (207, 0, 0, 2, 0) 2 zpah (fun _ _ => []) zFah zSah zXah zRah 7) = true := by decide +kernel
theorem zyisAhead {l : Launch} {r c : Nat} (h1 : 1 ≤ r) (h2 : r ≤ 4) (h3 : 1 ≤ c) (h4 : c ≤ 5) {en : zEn} {me : zMe} (hen : zG zxMeta 207 = some en) (hme : zG zMeth 207 = some me) : zyHc l (zymr r c) en me 2 2 zyΦah (zyΨah c) := by
  have een : zG zxMeta 207 = some (zxi207, 3, 3, 11, 207, 0, 0, 2, 0) := rfl
  obtain ⟨me1, hme1, hOK⟩ := zall hen
  rw [hme] at hme1
  cases hme1
  rw [een] at hen
  cases hen
  have hr := zyAllP_iff zyah_run h1 h2 h3 h4
  obtain ⟨mexo, hmexo, -⟩ := zall (show zG zxMeta 205 = some (zxi205, 2, 2, 11, 205, 0, 0, 1, 0) from rfl)
  have hxo := zyxOf (l := l) h1 h2 h3 h4 (show zG zxMeta 205 = some (zxi205, 2, 2, 11, 205, 0, 0, 1, 0) from rfl) hmexo
  obtain ⟨meyo, hmeyo, -⟩ := zall (show zG zxMeta 206 = some (zxi206, 2, 2, 11, 206, 0, 0, 1, 0) from rfl)
  have hyo := zyyOf (l := l) h1 h2 h3 h4 (show zG zxMeta 206 = some (zxi206, 2, 2, 11, 206, 0, 0, 1, 0) from rfl) hmeyo
  refine zycutS (mi := zymr r c) hOK rfl rfl ⟨_, rfl, rfl⟩ (ι := Fin 7) (fun i => zpah i.val) (fun _ _ => []) (fun i => zFah i.val) (fun i => zSah i.val) (fun i => zXah i.val) (fun i => zRah i.val) (fun i y2 ct en2 me2 h => by cases h) 200000 (fun i => zyAll_iff hr i.val i.isLt) ⟨0, by decide⟩ ⟨rfl, rfl, rfl, rfl⟩ ⟨by decide, by decide⟩
    (fun i as E0 ρ E => E = E0 ∧ ∃ s o : Nat, as = [Int32.ofNat s, Int32.ofNat o] ∧ s < 80 ∧ o < 80 ∧ ρ 1 = Int32.ofNat s ∧ ρ 2 = Int32.ofNat o ∧ (1 ≤ i.val ∧ i.val ≤ 4 → ρ 3 = Int32.ofNat (zgD (zgX1 c s))) ∧ (i.val = 2 ∨ i.val = 4 → ρ 4 = Int32.ofNat (zgD (zgX1 c o))) ∧ (i.val = 3 ∨ i.val = 4 → ¬ zgX1 c s = zgX1 c o) ∧ (5 ≤ i.val → zgX1 c s = zgX1 c o ∧ ρ 3 = Int32.ofNat (zgD (zgY1 c s))) ∧ (i.val = 6 → ρ 4 = Int32.ofNat (zgD (zgY1 c o)))) (fun i as E0 ρ E => 10 - i.val) ?_ ?_ ?_
  · intro as E hlen hT hΦ
    obtain ⟨s', o', rfl, b1, b2⟩ := hΦ
    refine ⟨zEnv_c (zyfull _) (zEnv_c ?_ (zEnv_c ?_ zEnv_nil)), rfl, s', o', rfl, b1, b2, rfl, rfl, fun h => absurd (show 1 ≤ 0 ∧ 0 ≤ 4 from h) (by decide), fun h => absurd (show 0 = 2 ∨ 0 = 4 from h) (by decide), fun h => absurd (show 0 = 3 ∨ 0 = 4 from h) (by decide), fun h => absurd (show 5 ≤ 0 from h) (by decide), fun h => absurd (show 0 = 6 from h) (by decide)⟩
    · show 2147483648 ≤ zB (Int32.ofNat s') ∧ zB (Int32.ofNat s') ≤ 2147483727
      rw [zyBn (by omega)]
      omega
    · show 2147483648 ≤ zB (Int32.ofNat o') ∧ zB (Int32.ofNat o') ≤ 2147483727
      rw [zyBn (by omega)]
      omega
  · intro as B s Wg hRu hT0 hΦ hlen i ρ H hT hInv hIH x hx ρ2 N2 H2 locs lsB stA hAt hXs hag hfr hT2
    rcases i with ⟨i, hi⟩
    have hi2 : i = 0 ∨ i = 1 ∨ i = 2 ∨ i = 3 ∨ i = 4 ∨ i = 5 ∨ i = 6 := by omega
    rcases hi2 with rfl | rfl | rfl | rfl | rfl | rfl | rfl
    · have hx : x ∈ [zxah_ax0] := hx
      have hg : ∀ k, k < 3 → ρ2 k = ρ k := hag
      have hI := hInv
      have hI : (zyEl (zymr r c) B H) = (zyEl (zymr r c) B s.heap) ∧ ∃ s o : Nat, as = [Int32.ofNat s, Int32.ofNat o] ∧ s < 80 ∧ o < 80 ∧ ρ 1 = Int32.ofNat s ∧ ρ 2 = Int32.ofNat o ∧ (1 ≤ 0 ∧ 0 ≤ 4 → ρ 3 = Int32.ofNat (zgD (zgX1 c s))) ∧ (0 = 2 ∨ 0 = 4 → ρ 4 = Int32.ofNat (zgD (zgX1 c o))) ∧ (0 = 3 ∨ 0 = 4 → ¬ zgX1 c s = zgX1 c o) ∧ (5 ≤ 0 → zgX1 c s = zgX1 c o ∧ ρ 3 = Int32.ofNat (zgD (zgY1 c s))) ∧ (0 = 6 → ρ 4 = Int32.ofNat (zgD (zgY1 c o))) := hI
      obtain ⟨hF, hB, hM⟩ := hXs
      have hEE : (zyEl (zymr r c) B H2) = (zyEl (zymr r c) B H) := zyfr0 hfr
      have ex := List.mem_singleton.mp hx
      subst ex
      obtain ⟨hE0, s', o', has, l1, l2, r1, r2, j3, j4, j5, j6, j7⟩ := hI
      have a1 : ρ2 1 = Int32.ofNat s' := (hg 1 (by decide)).trans r1
      have a2 : ρ2 2 = Int32.ofNat o' := (hg 2 (by decide)).trans r2
      have bs := zgX1_le h1 h2 h3 h4 l1
      have bo := zgX1_le h1 h2 h3 h4 l2
      have cs := zgY1_le h1 h2 h3 h4 l1
      have co := zgY1_le h1 h2 h3 h4 l2
      refine zyCa1r hRu hIH hAt hB hxo (ix := 119) (ax := 3280) rfl rfl rfl hmexo ⟨rfl, rfl, rfl, rfl⟩ (by decide) [34359738369] [] rfl (by decide) ⟨by decide, by decide⟩ rfl ⟨1, by decide⟩ [595, 34359738369, 68719476737] [(0, 4294967295), (2147483648, 2147483727), (2147483648, 2147483727)] 2147483647 2147483657 rfl (by decide) rfl rfl rfl rfl [] rfl rfl ?_ ?_
      · show zyΦx [ρ2 1] _
        rw [a1]
        exact ⟨s', by omega, rfl⟩
      · intro E3 vo hT3 hΨ
        have hΨ : zyΨx (zgX1 c) [ρ2 1] _ E3 vo := hΨ
        rw [a1, hEE] at hΨ
        obtain ⟨e3, q⟩ := hΨ
        subst e3
        have ez := q s' (by omega) rfl
        refine ⟨_, ez, ?_, ?_, ⟨hE0, s', o', has, l1, l2, (zyρi_n (by decide)).trans a1, (zyρi_n (by decide)).trans a2, fun _ => zyρi_e, fun h => absurd (show 1 = 2 ∨ 1 = 4 from h) (by decide), fun h => absurd (show 1 = 3 ∨ 1 = 4 from h) (by decide), fun h => absurd (show 5 ≤ 1 from h) (by decide), fun h => absurd (show 1 = 6 from h) (by decide)⟩, (show 10 - 1 < 10 - 0 by decide)⟩
        · rw [zgD_B (by omega)]
          omega
        · rw [zgD_B (by omega)]
          omega
    · have hx : x ∈ [zxah_bx0] := hx
      have hg : ∀ k, k < 4 → ρ2 k = ρ k := hag
      have hI := hInv
      have hI : (zyEl (zymr r c) B H) = (zyEl (zymr r c) B s.heap) ∧ ∃ s o : Nat, as = [Int32.ofNat s, Int32.ofNat o] ∧ s < 80 ∧ o < 80 ∧ ρ 1 = Int32.ofNat s ∧ ρ 2 = Int32.ofNat o ∧ (1 ≤ 1 ∧ 1 ≤ 4 → ρ 3 = Int32.ofNat (zgD (zgX1 c s))) ∧ (1 = 2 ∨ 1 = 4 → ρ 4 = Int32.ofNat (zgD (zgX1 c o))) ∧ (1 = 3 ∨ 1 = 4 → ¬ zgX1 c s = zgX1 c o) ∧ (5 ≤ 1 → zgX1 c s = zgX1 c o ∧ ρ 3 = Int32.ofNat (zgD (zgY1 c s))) ∧ (1 = 6 → ρ 4 = Int32.ofNat (zgD (zgY1 c o))) := hI
      obtain ⟨hF, hB, hM⟩ := hXs
      have hEE : (zyEl (zymr r c) B H2) = (zyEl (zymr r c) B H) := zyfr0 hfr
      have ex := List.mem_singleton.mp hx
      subst ex
      obtain ⟨hE0, s', o', has, l1, l2, r1, r2, j3, j4, j5, j6, j7⟩ := hI
      have a1 : ρ2 1 = Int32.ofNat s' := (hg 1 (by decide)).trans r1
      have a2 : ρ2 2 = Int32.ofNat o' := (hg 2 (by decide)).trans r2
      have bs := zgX1_le h1 h2 h3 h4 l1
      have bo := zgX1_le h1 h2 h3 h4 l2
      have cs := zgY1_le h1 h2 h3 h4 l1
      have co := zgY1_le h1 h2 h3 h4 l2
      have a3 := (hg 3 (by decide)).trans (j3 (by decide))
      refine zyCa1r hRu hIH hAt hB hxo (ix := 119) (ax := 3280) rfl rfl rfl hmexo ⟨rfl, rfl, rfl, rfl⟩ (by decide) [68719476737] [103079215105] rfl (by decide) ⟨by decide, by decide⟩ rfl ⟨2, by decide⟩ [595, 34359738369, 68719476737, 103079215105] [(0, 4294967295), (2147483648, 2147483727), (2147483648, 2147483727), (2147483647, 2147483657)] 2147483647 2147483657 rfl (by decide) rfl rfl rfl rfl [103079215105] rfl rfl ?_ ?_
      · show zyΦx [ρ2 2] _
        rw [a2]
        exact ⟨o', by omega, rfl⟩
      · intro E3 vo hT3 hΨ
        have hΨ : zyΨx (zgX1 c) [ρ2 2] _ E3 vo := hΨ
        rw [a2, hEE] at hΨ
        obtain ⟨e3, q⟩ := hΨ
        subst e3
        have ez := q o' (by omega) rfl
        refine ⟨_, ez, ?_, ?_, ⟨hE0, s', o', has, l1, l2, (zyρi_n (by decide)).trans a1, (zyρi_n (by decide)).trans a2, fun _ => (zyρi_n (by decide)).trans a3, fun _ => zyρi_e, fun h => absurd (show 2 = 3 ∨ 2 = 4 from h) (by decide), fun h => absurd (show 5 ≤ 2 from h) (by decide), fun h => absurd (show 2 = 6 from h) (by decide)⟩, (show 10 - 2 < 10 - 1 by decide)⟩
        · rw [zgD_B (by omega)]
          omega
        · rw [zgD_B (by omega)]
          omega
    · have hx : x ∈ [zxah_cx0, zxah_cx1] := hx
      have hg : ∀ k, k < 5 → ρ2 k = ρ k := hag
      have hI := hInv
      have hI : (zyEl (zymr r c) B H) = (zyEl (zymr r c) B s.heap) ∧ ∃ s o : Nat, as = [Int32.ofNat s, Int32.ofNat o] ∧ s < 80 ∧ o < 80 ∧ ρ 1 = Int32.ofNat s ∧ ρ 2 = Int32.ofNat o ∧ (1 ≤ 2 ∧ 2 ≤ 4 → ρ 3 = Int32.ofNat (zgD (zgX1 c s))) ∧ (2 = 2 ∨ 2 = 4 → ρ 4 = Int32.ofNat (zgD (zgX1 c o))) ∧ (2 = 3 ∨ 2 = 4 → ¬ zgX1 c s = zgX1 c o) ∧ (5 ≤ 2 → zgX1 c s = zgX1 c o ∧ ρ 3 = Int32.ofNat (zgD (zgY1 c s))) ∧ (2 = 6 → ρ 4 = Int32.ofNat (zgD (zgY1 c o))) := hI
      obtain ⟨hF, hB, hM⟩ := hXs
      have hEE : (zyEl (zymr r c) B H2) = (zyEl (zymr r c) B H) := zyfr0 hfr
      rcases List.mem_cons.mp hx with ex | hx
      · subst ex
        obtain ⟨hE0, s', o', has, l1, l2, r1, r2, j3, j4, j5, j6, j7⟩ := hI
        have a1 : ρ2 1 = Int32.ofNat s' := (hg 1 (by decide)).trans r1
        have a2 : ρ2 2 = Int32.ofNat o' := (hg 2 (by decide)).trans r2
        have bs := zgX1_le h1 h2 h3 h4 l1
        have bo := zgX1_le h1 h2 h3 h4 l2
        have cs := zgY1_le h1 h2 h3 h4 l1
        have co := zgY1_le h1 h2 h3 h4 l2
        have a3 := (hg 3 (by decide)).trans (j3 (by decide))
        have a4 := (hg 4 (by decide)).trans (j4 (by decide))
        have f0 := zyX23 hF 0 rfl
        have f0 : ¬ ρ2 3 = ρ2 4 := f0
        rw [a3, a4] at f0
        have ne : ¬ zgX1 c s' = zgX1 c o' := fun q => f0 (by rw [q])
        refine zyCa1r hRu hIH hAt hB hxo (ix := 119) (ax := 3280) rfl rfl rfl hmexo ⟨rfl, rfl, rfl, rfl⟩ (by decide) [34359738369] [] rfl (by decide) ⟨by decide, by decide⟩ rfl ⟨3, by decide⟩ [595, 34359738369, 68719476737] [(0, 4294967295), (2147483648, 2147483727), (2147483648, 2147483727)] 2147483647 2147483657 rfl (by decide) rfl rfl rfl rfl [] rfl rfl ?_ ?_
        · show zyΦx [ρ2 1] _
          rw [a1]
          exact ⟨s', by omega, rfl⟩
        · intro E3 vo hT3 hΨ
          have hΨ : zyΨx (zgX1 c) [ρ2 1] _ E3 vo := hΨ
          rw [a1, hEE] at hΨ
          obtain ⟨e3, q⟩ := hΨ
          subst e3
          have ez := q s' (by omega) rfl
          refine ⟨_, ez, ?_, ?_, ⟨hE0, s', o', has, l1, l2, (zyρi_n (by decide)).trans a1, (zyρi_n (by decide)).trans a2, fun _ => zyρi_e, fun h => absurd (show 3 = 2 ∨ 3 = 4 from h) (by decide), fun _ => ne, fun h => absurd (show 5 ≤ 3 from h) (by decide), fun h => absurd (show 3 = 6 from h) (by decide)⟩, (show 10 - 3 < 10 - 2 by decide)⟩
          · rw [zgD_B (by omega)]
            omega
          · rw [zgD_B (by omega)]
            omega
      · skip
        have ex := List.mem_singleton.mp hx
        subst ex
        obtain ⟨hE0, s', o', has, l1, l2, r1, r2, j3, j4, j5, j6, j7⟩ := hI
        have a1 : ρ2 1 = Int32.ofNat s' := (hg 1 (by decide)).trans r1
        have a2 : ρ2 2 = Int32.ofNat o' := (hg 2 (by decide)).trans r2
        have bs := zgX1_le h1 h2 h3 h4 l1
        have bo := zgX1_le h1 h2 h3 h4 l2
        have cs := zgY1_le h1 h2 h3 h4 l1
        have co := zgY1_le h1 h2 h3 h4 l2
        have a3 := (hg 3 (by decide)).trans (j3 (by decide))
        have a4 := (hg 4 (by decide)).trans (j4 (by decide))
        have f0 := zyX22 hF 0 rfl
        have f0 : ρ2 3 = ρ2 4 := f0
        rw [a3, a4] at f0
        have eq := zgD_i (by omega) (by omega) f0
        refine zyCa1r hRu hIH hAt hB hyo (ix := 122) (ax := 3296) rfl rfl rfl hmeyo ⟨rfl, rfl, rfl, rfl⟩ (by decide) [34359738369] [] rfl (by decide) ⟨by decide, by decide⟩ rfl ⟨5, by decide⟩ [595, 34359738369, 68719476737] [(0, 4294967295), (2147483648, 2147483727), (2147483648, 2147483727)] 2147483647 2147483687 rfl (by decide) rfl rfl rfl rfl [] rfl rfl ?_ ?_
        · show zyΦx [ρ2 1] _
          rw [a1]
          exact ⟨s', by omega, rfl⟩
        · intro E3 vo hT3 hΨ
          have hΨ : zyΨx (zgY1 c) [ρ2 1] _ E3 vo := hΨ
          rw [a1, hEE] at hΨ
          obtain ⟨e3, q⟩ := hΨ
          subst e3
          have ez := q s' (by omega) rfl
          refine ⟨_, ez, ?_, ?_, ⟨hE0, s', o', has, l1, l2, (zyρi_n (by decide)).trans a1, (zyρi_n (by decide)).trans a2, fun h => absurd (show 1 ≤ 5 ∧ 5 ≤ 4 from h) (by decide), fun h => absurd (show 5 = 2 ∨ 5 = 4 from h) (by decide), fun h => absurd (show 5 = 3 ∨ 5 = 4 from h) (by decide), fun _ => ⟨eq, zyρi_e⟩, fun h => absurd (show 5 = 6 from h) (by decide)⟩, (show 10 - 5 < 10 - 2 by decide)⟩
          · rw [zgD_B (by omega)]
            omega
          · rw [zgD_B (by omega)]
            omega
    · have hx : x ∈ [zxah_dx0] := hx
      have hg : ∀ k, k < 4 → ρ2 k = ρ k := hag
      have hI := hInv
      have hI : (zyEl (zymr r c) B H) = (zyEl (zymr r c) B s.heap) ∧ ∃ s o : Nat, as = [Int32.ofNat s, Int32.ofNat o] ∧ s < 80 ∧ o < 80 ∧ ρ 1 = Int32.ofNat s ∧ ρ 2 = Int32.ofNat o ∧ (1 ≤ 3 ∧ 3 ≤ 4 → ρ 3 = Int32.ofNat (zgD (zgX1 c s))) ∧ (3 = 2 ∨ 3 = 4 → ρ 4 = Int32.ofNat (zgD (zgX1 c o))) ∧ (3 = 3 ∨ 3 = 4 → ¬ zgX1 c s = zgX1 c o) ∧ (5 ≤ 3 → zgX1 c s = zgX1 c o ∧ ρ 3 = Int32.ofNat (zgD (zgY1 c s))) ∧ (3 = 6 → ρ 4 = Int32.ofNat (zgD (zgY1 c o))) := hI
      obtain ⟨hF, hB, hM⟩ := hXs
      have hEE : (zyEl (zymr r c) B H2) = (zyEl (zymr r c) B H) := zyfr0 hfr
      have ex := List.mem_singleton.mp hx
      subst ex
      obtain ⟨hE0, s', o', has, l1, l2, r1, r2, j3, j4, j5, j6, j7⟩ := hI
      have a1 : ρ2 1 = Int32.ofNat s' := (hg 1 (by decide)).trans r1
      have a2 : ρ2 2 = Int32.ofNat o' := (hg 2 (by decide)).trans r2
      have bs := zgX1_le h1 h2 h3 h4 l1
      have bo := zgX1_le h1 h2 h3 h4 l2
      have cs := zgY1_le h1 h2 h3 h4 l1
      have co := zgY1_le h1 h2 h3 h4 l2
      have a3 := (hg 3 (by decide)).trans (j3 (by decide))
      refine zyCa1r hRu hIH hAt hB hxo (ix := 119) (ax := 3280) rfl rfl rfl hmexo ⟨rfl, rfl, rfl, rfl⟩ (by decide) [68719476737] [103079215105] rfl (by decide) ⟨by decide, by decide⟩ rfl ⟨4, by decide⟩ [595, 34359738369, 68719476737, 103079215105] [(0, 4294967295), (2147483648, 2147483727), (2147483648, 2147483727), (2147483647, 2147483657)] 2147483647 2147483657 rfl (by decide) rfl rfl rfl rfl [103079215105] rfl rfl ?_ ?_
      · show zyΦx [ρ2 2] _
        rw [a2]
        exact ⟨o', by omega, rfl⟩
      · intro E3 vo hT3 hΨ
        have hΨ : zyΨx (zgX1 c) [ρ2 2] _ E3 vo := hΨ
        rw [a2, hEE] at hΨ
        obtain ⟨e3, q⟩ := hΨ
        subst e3
        have ez := q o' (by omega) rfl
        refine ⟨_, ez, ?_, ?_, ⟨hE0, s', o', has, l1, l2, (zyρi_n (by decide)).trans a1, (zyρi_n (by decide)).trans a2, fun _ => (zyρi_n (by decide)).trans a3, fun _ => zyρi_e, fun _ => j5 (by decide), fun h => absurd (show 5 ≤ 4 from h) (by decide), fun h => absurd (show 4 = 6 from h) (by decide)⟩, (show 10 - 4 < 10 - 3 by decide)⟩
        · rw [zgD_B (by omega)]
          omega
        · rw [zgD_B (by omega)]
          omega
    · cases hx
    · have hx : x ∈ [zxah_fx0] := hx
      have hg : ∀ k, k < 4 → ρ2 k = ρ k := hag
      have hI := hInv
      have hI : (zyEl (zymr r c) B H) = (zyEl (zymr r c) B s.heap) ∧ ∃ s o : Nat, as = [Int32.ofNat s, Int32.ofNat o] ∧ s < 80 ∧ o < 80 ∧ ρ 1 = Int32.ofNat s ∧ ρ 2 = Int32.ofNat o ∧ (1 ≤ 5 ∧ 5 ≤ 4 → ρ 3 = Int32.ofNat (zgD (zgX1 c s))) ∧ (5 = 2 ∨ 5 = 4 → ρ 4 = Int32.ofNat (zgD (zgX1 c o))) ∧ (5 = 3 ∨ 5 = 4 → ¬ zgX1 c s = zgX1 c o) ∧ (5 ≤ 5 → zgX1 c s = zgX1 c o ∧ ρ 3 = Int32.ofNat (zgD (zgY1 c s))) ∧ (5 = 6 → ρ 4 = Int32.ofNat (zgD (zgY1 c o))) := hI
      obtain ⟨hF, hB, hM⟩ := hXs
      have hEE : (zyEl (zymr r c) B H2) = (zyEl (zymr r c) B H) := zyfr0 hfr
      have ex := List.mem_singleton.mp hx
      subst ex
      obtain ⟨hE0, s', o', has, l1, l2, r1, r2, j3, j4, j5, j6, j7⟩ := hI
      have a1 : ρ2 1 = Int32.ofNat s' := (hg 1 (by decide)).trans r1
      have a2 : ρ2 2 = Int32.ofNat o' := (hg 2 (by decide)).trans r2
      have bs := zgX1_le h1 h2 h3 h4 l1
      have bo := zgX1_le h1 h2 h3 h4 l2
      have cs := zgY1_le h1 h2 h3 h4 l1
      have co := zgY1_le h1 h2 h3 h4 l2
      obtain ⟨eq, b3⟩ := j6 (by decide)
      have a3 := (hg 3 (by decide)).trans b3
      refine zyCa1r hRu hIH hAt hB hyo (ix := 122) (ax := 3296) rfl rfl rfl hmeyo ⟨rfl, rfl, rfl, rfl⟩ (by decide) [68719476737] [103079215105] rfl (by decide) ⟨by decide, by decide⟩ rfl ⟨6, by decide⟩ [595, 34359738369, 68719476737, 103079215105] [(0, 4294967295), (2147483648, 2147483727), (2147483648, 2147483727), (2147483647, 2147483687)] 2147483647 2147483687 rfl (by decide) rfl rfl rfl rfl [103079215105] rfl rfl ?_ ?_
      · show zyΦx [ρ2 2] _
        rw [a2]
        exact ⟨o', by omega, rfl⟩
      · intro E3 vo hT3 hΨ
        have hΨ : zyΨx (zgY1 c) [ρ2 2] _ E3 vo := hΨ
        rw [a2, hEE] at hΨ
        obtain ⟨e3, q⟩ := hΨ
        subst e3
        have ez := q o' (by omega) rfl
        refine ⟨_, ez, ?_, ?_, ⟨hE0, s', o', has, l1, l2, (zyρi_n (by decide)).trans a1, (zyρi_n (by decide)).trans a2, fun h => absurd (show 1 ≤ 6 ∧ 6 ≤ 4 from h) (by decide), fun h => absurd (show 6 = 2 ∨ 6 = 4 from h) (by decide), fun h => absurd (show 6 = 3 ∨ 6 = 4 from h) (by decide), fun _ => ⟨eq, (zyρi_n (by decide)).trans a3⟩, fun _ => zyρi_e⟩, (show 10 - 6 < 10 - 5 by decide)⟩
        · rw [zgD_B (by omega)]
          omega
        · rw [zgD_B (by omega)]
          omega
    · cases hx
  · intro as E0 E E2 hT0 hΦ hlen i ρ hT hInv x hx ρ2 N2 B vo hXs hag hfr hT2 hvo
    rcases i with ⟨i, hi⟩
    have hi2 : i = 0 ∨ i = 1 ∨ i = 2 ∨ i = 3 ∨ i = 4 ∨ i = 5 ∨ i = 6 := by omega
    rcases hi2 with rfl | rfl | rfl | rfl | rfl | rfl | rfl
    · cases hx
    · cases hx
    · cases hx
    · cases hx
    · have hx : x ∈ [zxah_er0, zxah_er1] := hx
      have hg : ∀ k, k < 5 → ρ2 k = ρ k := hag
      have hI := hInv
      have hI : E = E0 ∧ ∃ s o : Nat, as = [Int32.ofNat s, Int32.ofNat o] ∧ s < 80 ∧ o < 80 ∧ ρ 1 = Int32.ofNat s ∧ ρ 2 = Int32.ofNat o ∧ (1 ≤ 4 ∧ 4 ≤ 4 → ρ 3 = Int32.ofNat (zgD (zgX1 c s))) ∧ (4 = 2 ∨ 4 = 4 → ρ 4 = Int32.ofNat (zgD (zgX1 c o))) ∧ (4 = 3 ∨ 4 = 4 → ¬ zgX1 c s = zgX1 c o) ∧ (5 ≤ 4 → zgX1 c s = zgX1 c o ∧ ρ 3 = Int32.ofNat (zgD (zgY1 c s))) ∧ (4 = 6 → ρ 4 = Int32.ofNat (zgD (zgY1 c o))) := hI
      obtain ⟨hF, hB, hM⟩ := hXs
      have hEE : E2 = E := zyfr0 hfr
      rcases List.mem_cons.mp hx with ex | hx
      · subst ex
        obtain ⟨hE0, s', o', has, l1, l2, r1, r2, j3, j4, j5, j6, j7⟩ := hI
        have a1 : ρ2 1 = Int32.ofNat s' := (hg 1 (by decide)).trans r1
        have a2 : ρ2 2 = Int32.ofNat o' := (hg 2 (by decide)).trans r2
        have bs := zgX1_le h1 h2 h3 h4 l1
        have bo := zgX1_le h1 h2 h3 h4 l2
        have cs := zgY1_le h1 h2 h3 h4 l1
        have co := zgY1_le h1 h2 h3 h4 l2
        have a3 := (hg 3 (by decide)).trans (j3 (by decide))
        have a4 := (hg 4 (by decide)).trans (j4 (by decide))
        have ne := j5 (by decide)
        have f0 := zyX20 hF 0 rfl
        have f0 : ρ2 3 < ρ2 4 := f0
        rw [a3, a4, zylt_B, zgD_B (by omega), zgD_B (by omega)] at f0
        refine ⟨hEE.trans hE0, 1, zyvo_1 (c := 8) (by decide) (show zyvo (zyXn B ρ2 N2) [8] vo from hvo), Or.inr rfl, fun s2 o2 e m1 m2 => ?_⟩
        rw [has] at e
        obtain ⟨e1, e2⟩ := zyas2 e (by omega) (by omega) (by omega) (by omega)
        subst e1
        subst e2
        unfold zky
        exact ⟨fun _ => by omega, fun _ => rfl⟩
      · skip
        have ex := List.mem_singleton.mp hx
        subst ex
        obtain ⟨hE0, s', o', has, l1, l2, r1, r2, j3, j4, j5, j6, j7⟩ := hI
        have a1 : ρ2 1 = Int32.ofNat s' := (hg 1 (by decide)).trans r1
        have a2 : ρ2 2 = Int32.ofNat o' := (hg 2 (by decide)).trans r2
        have bs := zgX1_le h1 h2 h3 h4 l1
        have bo := zgX1_le h1 h2 h3 h4 l2
        have cs := zgY1_le h1 h2 h3 h4 l1
        have co := zgY1_le h1 h2 h3 h4 l2
        have a3 := (hg 3 (by decide)).trans (j3 (by decide))
        have a4 := (hg 4 (by decide)).trans (j4 (by decide))
        have ne := j5 (by decide)
        have f0 := zyX21 hF 0 rfl
        have f0 : ¬ ρ2 3 < ρ2 4 := f0
        rw [a3, a4, zylt_B, zgD_B (by omega), zgD_B (by omega)] at f0
        refine ⟨hEE.trans hE0, 0, zyvo_1 (c := 0) (by decide) (show zyvo (zyXn B ρ2 N2) [0] vo from hvo), Or.inl rfl, fun s2 o2 e m1 m2 => ?_⟩
        rw [has] at e
        obtain ⟨e1, e2⟩ := zyas2 e (by omega) (by omega) (by omega) (by omega)
        subst e1
        subst e2
        unfold zky
        exact ⟨fun h => absurd h (by decide), fun h => by omega⟩
    · cases hx
    · have hx : x ∈ [zxah_gr0, zxah_gr1] := hx
      have hg : ∀ k, k < 5 → ρ2 k = ρ k := hag
      have hI := hInv
      have hI : E = E0 ∧ ∃ s o : Nat, as = [Int32.ofNat s, Int32.ofNat o] ∧ s < 80 ∧ o < 80 ∧ ρ 1 = Int32.ofNat s ∧ ρ 2 = Int32.ofNat o ∧ (1 ≤ 6 ∧ 6 ≤ 4 → ρ 3 = Int32.ofNat (zgD (zgX1 c s))) ∧ (6 = 2 ∨ 6 = 4 → ρ 4 = Int32.ofNat (zgD (zgX1 c o))) ∧ (6 = 3 ∨ 6 = 4 → ¬ zgX1 c s = zgX1 c o) ∧ (5 ≤ 6 → zgX1 c s = zgX1 c o ∧ ρ 3 = Int32.ofNat (zgD (zgY1 c s))) ∧ (6 = 6 → ρ 4 = Int32.ofNat (zgD (zgY1 c o))) := hI
      obtain ⟨hF, hB, hM⟩ := hXs
      have hEE : E2 = E := zyfr0 hfr
      rcases List.mem_cons.mp hx with ex | hx
      · subst ex
        obtain ⟨hE0, s', o', has, l1, l2, r1, r2, j3, j4, j5, j6, j7⟩ := hI
        have a1 : ρ2 1 = Int32.ofNat s' := (hg 1 (by decide)).trans r1
        have a2 : ρ2 2 = Int32.ofNat o' := (hg 2 (by decide)).trans r2
        have bs := zgX1_le h1 h2 h3 h4 l1
        have bo := zgX1_le h1 h2 h3 h4 l2
        have cs := zgY1_le h1 h2 h3 h4 l1
        have co := zgY1_le h1 h2 h3 h4 l2
        obtain ⟨eq, b3⟩ := j6 (by decide)
        have a3 := (hg 3 (by decide)).trans b3
        have a4 := (hg 4 (by decide)).trans (j7 rfl)
        have f0 := zyX20 hF 0 rfl
        have f0 : ρ2 3 < ρ2 4 := f0
        rw [a3, a4, zylt_B, zgD_B (by omega), zgD_B (by omega)] at f0
        refine ⟨hEE.trans hE0, 1, zyvo_1 (c := 8) (by decide) (show zyvo (zyXn B ρ2 N2) [8] vo from hvo), Or.inr rfl, fun s2 o2 e m1 m2 => ?_⟩
        rw [has] at e
        obtain ⟨e1, e2⟩ := zyas2 e (by omega) (by omega) (by omega) (by omega)
        subst e1
        subst e2
        unfold zky
        exact ⟨fun _ => by omega, fun _ => rfl⟩
      · skip
        have ex := List.mem_singleton.mp hx
        subst ex
        obtain ⟨hE0, s', o', has, l1, l2, r1, r2, j3, j4, j5, j6, j7⟩ := hI
        have a1 : ρ2 1 = Int32.ofNat s' := (hg 1 (by decide)).trans r1
        have a2 : ρ2 2 = Int32.ofNat o' := (hg 2 (by decide)).trans r2
        have bs := zgX1_le h1 h2 h3 h4 l1
        have bo := zgX1_le h1 h2 h3 h4 l2
        have cs := zgY1_le h1 h2 h3 h4 l1
        have co := zgY1_le h1 h2 h3 h4 l2
        obtain ⟨eq, b3⟩ := j6 (by decide)
        have a3 := (hg 3 (by decide)).trans b3
        have a4 := (hg 4 (by decide)).trans (j7 rfl)
        have f0 := zyX21 hF 0 rfl
        have f0 : ¬ ρ2 3 < ρ2 4 := f0
        rw [a3, a4, zylt_B, zgD_B (by omega), zgD_B (by omega)] at f0
        refine ⟨hEE.trans hE0, 0, zyvo_1 (c := 0) (by decide) (show zyvo (zyXn B ρ2 N2) [0] vo from hvo), Or.inl rfl, fun s2 o2 e m1 m2 => ?_⟩
        rw [has] at e
        obtain ⟨e1, e2⟩ := zyas2 e (by omega) (by omega) (by omega) (by omega)
        subst e1
        subst e2
        unfold zky
        exact ⟨fun h => absurd h (by decide), fun h => by omega⟩
end
section
/-! phases: stands, spells, spellsStep (printed by yex8.py) -/
noncomputable def zxsd_ax0 : zyXp := (2, [595, 0, 13], [], [], [], [])
noncomputable def zpsd_a : zyPh := (0, [595, 13, 13], [(0, 4294967295), (0, 4294967295), (0, 4294967295)], [], [])
noncomputable def zxsd_bx0 : zyXp := (14, [595, 34359738369, 34359738369], [], [(24, 103079215105, 75, 16), (20, 0, 34359738369, 103079215105)], [(34359738369, 2147483648, 2147483655), (103079215105, 2147483649, 2147483656)], [])
noncomputable def zxsd_br0 : zyXp := (0, [], [], [(24, 103079215105, 75, 16), (21, 0, 34359738369, 103079215105)], [(34359738369, 2147483648, 2147483656), (103079215105, 2147483648, 2147483656)], [])
noncomputable def zpsd_b : zyPh := (2, [595, 34359738369, 13], [(0, 4294967295), (2147483648, 2147483656), (0, 4294967295)], [], [])
noncomputable def zxsd_cx0 : zyXp := (14, [595, 34359738369, 103079215097], [], [(20, 0, 0, 68719476737), (24, 103079215105, 77, 34359738369), (24, 171798691841, 77, 137438953473), (23, 0, 206158430209, 0)], [(34359738369, 2147483648, 2147483655), (68719476737, 2147483649, 2147483655), (103079215105, 2147483648, 2147483727), (137438953473, 2147483648, 2147483655), (171798691841, 2147483648, 2147483727), (206158430209, 2147483649, 2147483649), (103079215097, 2147483648, 2147483654)], [])
noncomputable def zxsd_cx1 : zyXp := (2, [595, 34359738377, 13], [], [(20, 0, 0, 68719476737), (24, 103079215105, 77, 34359738369), (24, 171798691841, 77, 137438953473), (22, 0, 206158430209, 0)], [(34359738369, 2147483648, 2147483655), (68719476737, 2147483649, 2147483655), (103079215105, 2147483648, 2147483727), (137438953473, 2147483648, 2147483655), (171798691841, 2147483648, 2147483727), (206158430209, 2147483648, 2147483648), (34359738377, 2147483649, 2147483656)], [])
noncomputable def zxsd_cx2 : zyXp := (2, [595, 34359738377, 13], [], [(21, 0, 0, 68719476737)], [(34359738369, 2147483648, 2147483655), (68719476737, 2147483648, 2147483648), (34359738377, 2147483649, 2147483656)], [])
noncomputable def zpsd_c : zyPh := (14, [595, 34359738369, 68719476737], [(0, 4294967295), (2147483648, 2147483655), (2147483648, 2147483655)], [], [])
noncomputable def zpsd (i : Nat) : zyPh := zif (Nat.beq i 0) (zpsd_a) (zif (Nat.beq i 1) (zpsd_b) (zpsd_c))
noncomputable def zXsd (i : Nat) : List zyXp := zif (Nat.beq i 0) ([zxsd_ax0]) (zif (Nat.beq i 1) ([zxsd_bx0]) ([zxsd_cx0, zxsd_cx1, zxsd_cx2]))
noncomputable def zRsd (i : Nat) : List zyXp := zif (Nat.beq i 0) ([]) (zif (Nat.beq i 1) ([zxsd_br0]) ([]))
noncomputable def zFsd (i : Nat) : zyR := zif (Nat.beq i 0) ([]) (zif (Nat.beq i 1) ([]) ([(79, 0, 7)]))
noncomputable def zSsd (i : Nat) : Nat := zif (Nat.beq i 0) (0) (zif (Nat.beq i 1) (0) (0))
noncomputable def zxsp_zx0 : zyXp := (0, [595, 34359738369], [], [], [(34359738369, 2147483641, 2147483655)], [])
noncomputable def zpsp_z : zyPh := (0, [595, 34359738369], [(0, 4294967295), (2147483641, 2147483655)], [], [])
noncomputable def zxsp_ax0 : zyXp := (19, [595, 13], [34359738369, 68719476737, 643], [(20, 0, 68719476737, 2400)], [(34359738369, 2147483641, 2147483655), (68719476737, 2147483648, 2147483947)], [])
noncomputable def zxsp_ax1 : zyXp := (20, [595, 13], [], [(21, 0, 68719476737, 2400)], [(68719476737, 2147483948, 2147485648)], [])
noncomputable def zpsp_a : zyPh := (0, [595, 34359738369], [(0, 4294967295), (2147483641, 2147483655), (2147483648, 2147485648)], [(1212430, 68719476737)], [])
noncomputable def zxsp_bx0 : zyXp := (20, [595, 13], [], [], [], [])
noncomputable def zpsp_b : zyPh := (20, [595, 13], [(0, 4294967295), (0, 4294967295)], [], [])
noncomputable def zxsp_cr0 : zyXp := (0, [], [], [], [], [(1212430, 68719476745)])
noncomputable def zpsp_c : zyPh := (20, [595, 13], [(0, 4294967295), (0, 4294967295), (2147483648, 2147485648)], [(1212430, 68719476737)], [])
noncomputable def zpsp (i : Nat) : zyPh := zif (Nat.beq i 0) (zpsp_z) (zif (Nat.beq i 1) (zpsp_a) (zif (Nat.beq i 2) (zpsp_b) (zpsp_c)))
noncomputable def zXsp (i : Nat) : List zyXp := zif (Nat.beq i 0) ([zxsp_zx0]) (zif (Nat.beq i 1) ([zxsp_ax0, zxsp_ax1]) (zif (Nat.beq i 2) ([zxsp_bx0]) ([])))
noncomputable def zRsp (i : Nat) : List zyXp := zif (Nat.beq i 0) ([]) (zif (Nat.beq i 1) ([]) (zif (Nat.beq i 2) ([]) ([zxsp_cr0])))
noncomputable def zFsp (i : Nat) : zyR := zif (Nat.beq i 0) ([]) (zif (Nat.beq i 1) ([]) (zif (Nat.beq i 2) ([]) ([(74, 14, 14)])))
noncomputable def zSsp (i : Nat) : Nat := zif (Nat.beq i 0) (0) (zif (Nat.beq i 1) (0) (zif (Nat.beq i 2) (0) (0)))
noncomputable def zxss_ax0 : zyXp := (1, [595, 13, 13, 13], [595], [], [], [])
noncomputable def zpss_a : zyPh := (0, [595, 13, 13, 13], [(0, 4294967295), (0, 4294967295), (0, 4294967295), (0, 4294967295)], [], [])
noncomputable def zxss_bx0 : zyXp := (6, [595, 0, 13, 13], [], [], [], [])
noncomputable def zpss_b : zyPh := (4, [595, 13, 13, 13], [(0, 4294967295), (0, 4294967295), (0, 4294967295), (0, 4294967295)], [], [])
noncomputable def zxss_cx0 : zyXp := (47, [595, 34359738369, 171798691841, 206158430209], [274877906945, 240518168577, 595], [(24, 137438953473, 75, 16), (20, 0, 34359738377, 137438953473), (24, 171798691841, 79, 34359738369), (24, 206158430209, 79, 34359738377), (24, 240518168577, 78, 206158430209), (24, 274877906945, 78, 171798691841)], [(34359738369, 2147483648, 2147483654), (137438953473, 2147483650, 2147483656), (171798691841, 2147483648, 2147483655), (206158430209, 2147483648, 2147483655), (240518168577, 2147483648, 2147483727), (274877906945, 2147483648, 2147483727)], [])
noncomputable def zxss_cr0 : zyXp := (0, [], [], [(24, 137438953473, 75, 16), (21, 0, 34359738377, 137438953473)], [(34359738369, 2147483648, 2147483655), (137438953473, 2147483648, 2147483656)], [])
noncomputable def zpss_c : zyPh := (6, [595, 34359738369, 13, 13], [(0, 4294967295), (2147483648, 2147483655), (0, 4294967295), (0, 4294967295)], [], [])
noncomputable def zxss_dx0 : zyXp := (80, [595, 34359738369, 68719476737, 103079215105], [34359738377, 595], [(23, 0, 137438953473, 0), (23, 0, 171798691841, 0)], [(34359738369, 2147483648, 2147483654), (68719476737, 2147483648, 2147483655), (103079215105, 2147483648, 2147483655), (137438953473, 2147483649, 2147483649), (171798691841, 2147483649, 2147483649), (34359738377, 2147483649, 2147483655)], [])
noncomputable def zxss_dx1 : zyXp := (80, [595, 34359738369, 68719476737, 103079215105], [240518168569, 595], [(23, 0, 137438953473, 0), (22, 0, 171798691841, 0), (2, 206158430209, 0, 34359738369)], [(34359738369, 2147483648, 2147483654), (68719476737, 2147483648, 2147483655), (103079215105, 2147483648, 2147483655), (137438953473, 2147483649, 2147483649), (171798691841, 2147483648, 2147483648), (206158430209, 2147483642, 2147483648), (240518168569, 2147483641, 2147483647)], [])
noncomputable def zxss_dx2 : zyXp := (6, [595, 34359738377, 13, 13], [], [(22, 0, 137438953473, 0)], [(34359738369, 2147483648, 2147483654), (137438953473, 2147483648, 2147483648), (34359738377, 2147483649, 2147483655)], [])
noncomputable def zpss_d : zyPh := (50, [595, 34359738369, 68719476737, 103079215105], [(0, 4294967295), (2147483648, 2147483654), (2147483648, 2147483655), (2147483648, 2147483655), (2147483648, 2147483649)], [], [137438953473])
noncomputable def zxss_ex0 : zyXp := (89, [595, 34359738369, 68719476737, 103079215105], [103079215105, 34359738369, 635], [], [(34359738369, 2147483648, 2147483654), (68719476737, 2147483648, 2147483655), (103079215105, 2147483648, 2147483655)], [])
noncomputable def zpss_e : zyPh := (83, [595, 34359738369, 68719476737, 103079215105], [(0, 4294967295), (2147483648, 2147483654), (2147483648, 2147483655), (2147483648, 2147483655)], [], [])
noncomputable def zxss_fx0 : zyXp := (98, [595, 34359738369, 68719476737, 103079215105], [68719476737, 34359738377, 635], [], [(34359738369, 2147483648, 2147483654), (68719476737, 2147483648, 2147483655), (103079215105, 2147483648, 2147483655), (34359738377, 2147483649, 2147483655)], [])
noncomputable def zpss_f : zyPh := (90, [595, 34359738369, 68719476737, 103079215105], [(0, 4294967295), (2147483648, 2147483654), (2147483648, 2147483655), (2147483648, 2147483655)], [], [])
noncomputable def zxss_gx0 : zyXp := (6, [595, 0, 13, 13], [], [], [], [])
noncomputable def zpss_g : zyPh := (99, [595, 13, 13, 13], [(0, 4294967295), (0, 4294967295), (0, 4294967295), (0, 4294967295)], [], [])
noncomputable def zpss (i : Nat) : zyPh := zif (Nat.beq i 0) (zpss_a) (zif (Nat.beq i 1) (zpss_b) (zif (Nat.beq i 2) (zpss_c) (zif (Nat.beq i 3) (zpss_d) (zif (Nat.beq i 4) (zpss_e) (zif (Nat.beq i 5) (zpss_f) (zpss_g))))))
noncomputable def zXss (i : Nat) : List zyXp := zif (Nat.beq i 0) ([zxss_ax0]) (zif (Nat.beq i 1) ([zxss_bx0]) (zif (Nat.beq i 2) ([zxss_cx0]) (zif (Nat.beq i 3) ([zxss_dx0, zxss_dx1, zxss_dx2]) (zif (Nat.beq i 4) ([zxss_ex0]) (zif (Nat.beq i 5) ([zxss_fx0]) ([zxss_gx0]))))))
noncomputable def zRss (i : Nat) : List zyXp := zif (Nat.beq i 0) ([]) (zif (Nat.beq i 1) ([]) (zif (Nat.beq i 2) ([zxss_cr0]) (zif (Nat.beq i 3) ([]) (zif (Nat.beq i 4) ([]) (zif (Nat.beq i 5) ([]) ([]))))))
noncomputable def zFss (i : Nat) : zyR := zif (Nat.beq i 0) ([]) (zif (Nat.beq i 1) ([]) (zif (Nat.beq i 2) ([]) (zif (Nat.beq i 3) ([]) (zif (Nat.beq i 4) ([]) (zif (Nat.beq i 5) ([]) ([]))))))
noncomputable def zSss (i : Nat) : Nat := zif (Nat.beq i 0) (0) (zif (Nat.beq i 1) (0) (zif (Nat.beq i 2) (0) (zif (Nat.beq i 3) (0) (zif (Nat.beq i 4) (0) (zif (Nat.beq i 5) (0) (0))))))
end
section
/-! THREADS STAND IN LINE; letters are spelled -/
/-- a contract for the executor out of a semantic one -/
theorem zyCon_b {l : Launch} {mi : zyB} {J : zyJt} {en : zEn} {me : zMe} {dep na : Nat} {Φ : List Int32 → zyEm → Prop} {Ψ : List Int32 → zyEm → zyEm → Option Value → Prop} (h : zyHc l mi en me dep na Φ Ψ) {ct : zyCt} (hd : ct.2.2.2.1 = dep) (hpost : ct.2.2.2.2.2 = []) (hargs : ∀ (B : zCx) (AsV : List Value), zySt (zyX0 B J) ct.1 AsV → ∃ xs : List Int32, AsV = zyAr B xs ∧ xs.length = na ∧ ∀ (U : State) (H : Heap), zyMI mi B J U H → zyPk mi B ct.2.2.2.2.1 H → Φ xs (zyEl mi B H))
    (hΨ : ∀ (B : zCx) (xs : List Int32) (E E2 : zyEm) (vo : Option Value), zyTy mi E → J.1 E → zyTy mi E2 → Φ xs E → Ψ xs E E2 vo → J.1 E2 ∧ (∀ a k, zyin ct.2.1 a k = false → E2 a k = E a k) ∧ zyvo (zyX0 B J) ct.2.2.1 vo) : zyCon l mi J en me ct := by
  intro B AsV hA
  obtain ⟨xs, rfl, hl, hΦ⟩ := hargs B AsV hA
  subst hd
  refine zyMet_pt (fun a s hp => ?_)
  obtain ⟨rfl, hK, hI, hPk⟩ := hp
  have hI0 : zyMI mi B zyJ0 s s.heap := ⟨hI.1, hI.2.1, trivial, hI.2.2.2⟩
  have hφ := hΦ s s.heap hI hPk
  refine ⟨_, _, h B xs hl, ⟨rfl, hK, hI0, hφ⟩, fun o t hq => ?_⟩
  obtain ⟨vo, e1, k1, k2, k3, k4⟩ := hq
  obtain ⟨g1, g2, g3⟩ := hΨ B xs _ _ vo (zyTy_of hI) hI.2.2.1 (zyTy_of k2) hφ k3
  refine ⟨vo, e1, zyvr_of g3, k1, ⟨k2.1, k2.2.1, g1, k2.2.2.2⟩, ?_, g2, k4⟩
  rw [hpost]
  exact fun p hp => by cases hp
theorem zyvo_b {B : zCx} {J : zyJt} {vo : Option Value} {z : Int32} (e : vo = some (.int z)) (h : z = 0 ∨ z = 1) : zyvo (zyX0 B J) [73786976312018075658] vo := by
  rw [e]
  refine Or.inl ⟨Or.inr (Or.inr (Or.inl ⟨by decide, z, rfl, ?_, ?_⟩)), fun q => absurd q (by decide), fun q => absurd q (by decide)⟩
  · rcases h with rfl | rfl <;> decide
  · rcases h with rfl | rfl <;> decide
theorem zyar2 {B : zCx} {J : zyJt} {AsV : List Value} {lo hi lo2 hi2 : Nat} (h : zySt (zyX0 B J) [595, 8 * (lo * 4294967296 + hi) + 2, 8 * (lo2 * 4294967296 + hi2) + 2] AsV) (hh : hi < 4294967296) (hh2 : hi2 < 4294967296) : ∃ x y : Int32, AsV = zyAr B [x, y] ∧ lo ≤ zB x ∧ zB x ≤ hi ∧ lo2 ≤ zB y ∧ zB y ≤ hi2 := by
  obtain ⟨v0, t0, rfl, a0, h⟩ := zySt_c h
  obtain ⟨v1, t1, rfl, a1, h⟩ := zySt_c h
  obtain ⟨v2, t2, rfl, a2, h⟩ := zySt_c h
  have e := zySt_n h
  subst e
  have e0 : v0 = .ref (zad B 74) := zyv_3 (v := 595) a0 (by decide)
  obtain ⟨x, rfl, b1, b2⟩ := zv_2 (zyv_zv a1 (by omega) (by omega)) (by omega)
  obtain ⟨y, rfl, b3, b4⟩ := zv_2 (zyv_zv a2 (by omega) (by omega)) (by omega)
  refine ⟨x, y, by rw [e0]; rfl, by omega, by omega, by omega, by omega⟩
noncomputable def zyTah : Nat → List zyCt := fun y => zif (Nat.beq y 207) [([595, 73786976312018076282, 73786976312018076282], [], [73786976312018075658], 2, [], [])] []
theorem zyTah_ok {l : Launch} {r c : Nat} (h1 : 1 ≤ r) (h2 : r ≤ 4) (h3 : 1 ≤ c) (h4 : c ≤ 5) : ∀ y2 ct en2 me2, ct ∈ zyTah y2 → zG zxMeta y2 = some en2 → zG zMeth y2 = some me2 → zyCon l (zymr r c) zyJ0 en2 me2 ct := by
  intro y2 ct en2 me2 hct hen hme
  unfold zyTah at hct
  by_cases e : y2 = 207
  · subst e
    have hct : ct ∈ [([595, 73786976312018076282, 73786976312018076282], [], [73786976312018075658], 2, [], [])] := hct
    rw [List.mem_singleton.mp hct]
    refine zyCon_b (zyisAhead h1 h2 h3 h4 hen hme) rfl rfl (fun B AsV hA => ?_) (fun B xs E E2 vo _ _ _ _ hΨ => ?_)
    · obtain ⟨x, y, e, b1, b2, b3, b4⟩ := zyar2 (lo := 2147483648) (hi := 2147483727) (lo2 := 2147483648) (hi2 := 2147483727) hA (by decide) (by decide)
      obtain ⟨o1, o2⟩ := zyOn b1
      obtain ⟨o3, o4⟩ := zyOn b3
      exact ⟨[x, y], e, rfl, fun _ _ _ _ => ⟨zyN1 x, zyN1 y, by rw [← o1, ← o3], by omega, by omega⟩⟩
    · obtain ⟨e3, z, ez, hz, -⟩ := hΨ
      exact ⟨trivial, fun a k _ => by rw [e3], zyvo_b ez hz⟩
  · rw [zybeq_ne e, zif_f] at hct
    cases hct
def zyΨsd (_ : List Int32) (E E2 : zyEm) (vo : Option Value) : Prop := vo = none ∧ ∀ a k, ¬ a = 79 → E2 a k = E a k
theorem zyfr79 {E E2 : zyEm} (h : ∀ a k, zyin [(79, 0, 7)] a k = false → E2 a k = E a k) : ∀ a k, ¬ a = 79 → E2 a k = E a k := by
  intro a k hn
  apply h
  cases hq : zyin [(79, 0, 7)] a k with
  | false => rfl
  | true =>
    obtain ⟨p0, g1, g2, g3, g4⟩ := zyin_iff.mp hq
    rw [List.mem_singleton.mp g1] at g2
    exact absurd g2.symm hn
theorem zysd_run : zyAllP (fun r c => zyrS (zymr r c) zxi221 (221, 0, 0, 0, 0) 3 zpsd (fun _ => zyTah) zFsd zSsd zXsd zRsd 3) = true := by decide +kernel
theorem zystands {l : Launch} {r c : Nat} (h1 : 1 ≤ r) (h2 : r ≤ 4) (h3 : 1 ≤ c) (h4 : c ≤ 5) {en : zEn} {me : zMe} (hen : zG zxMeta 221 = some en) (hme : zG zMeth 221 = some me) : zyHc l (zymr r c) en me 3 0 zyΦbb zyΨsd := by
  have een : zG zxMeta 221 = some (zxi221, 1, 3, 11, 221, 0, 0, 0, 0) := rfl
  obtain ⟨me1, hme1, hOK⟩ := zall hen
  rw [hme] at hme1
  cases hme1
  rw [een] at hen
  cases hen
  have hr := zyAllP_iff zysd_run h1 h2 h3 h4
  have hCon : ∀ i : Fin 3, zyCons l (zymr r c, zyTah, zFsd i.val, [], zSsd i.val) zyJ0 := fun _ => zyTah_ok h1 h2 h3 h4
  refine zycutS (mi := zymr r c) hOK rfl rfl ⟨_, rfl, rfl⟩ (ι := Fin 3) (fun i => zpsd i.val) (fun _ => zyTah) (fun i => zFsd i.val) (fun i => zSsd i.val) (fun i => zXsd i.val) (fun i => zRsd i.val) hCon 200000 (fun i => zyAll_iff hr i.val i.isLt) ⟨0, by decide⟩ ⟨rfl, rfl, rfl, rfl⟩ ⟨by decide, by decide⟩
    (fun i as E0 ρ E => ∀ a k, ¬ a = 79 → E a k = E0 a k) (fun i as E0 ρ E => if i.val = 0 then 1000 else if i.val = 1 then 20 * (8 - zyN1 (ρ 1)) + 15 else 20 * (8 - zyN1 (ρ 1)) + zyN1 (ρ 2)) ?_ ?_ ?_
  · intro as E hlen hT hΦ
    exact ⟨zEnv_c (zyfull _) (zEnv_c (zyfull _) (zEnv_c (zyfull _) zEnv_nil)), fun _ _ _ => rfl⟩
  · intro as B s Wg hRu hT0 hΦ hlen i ρ H hT hInv hIH x hx ρ2 N2 H2 locs lsB stA hAt hXs hag hfr hT2
    rcases i with ⟨i, hi⟩
    have hi2 : i = 0 ∨ i = 1 ∨ i = 2 := by omega
    rcases hi2 with rfl | rfl | rfl
    · have hx : x ∈ [zxsd_ax0] := hx
      have hg : ∀ k, k < 3 → ρ2 k = ρ k := hag
      have hI := hInv
      have hI : ∀ a k, ¬ a = 79 → (zyEl (zymr r c) B H) a k = (zyEl (zymr r c) B s.heap) a k := hI
      obtain ⟨hF, hB, hM⟩ := hXs
      have hEE : (zyEl (zymr r c) B H2) = (zyEl (zymr r c) B H) := zyfr0 hfr
      have ex := List.mem_singleton.mp hx
      subst ex
      refine zyGoB hIH hAt hB ⟨1, by decide⟩ [595, 0, 0] rfl rfl rfl rfl (by rw [hEE]; exact hI) ?_
      show 20 * (8 - zyN1 (Int32.ofNat 0)) + 15 < 1000
      omega
    · have hx : x ∈ [zxsd_bx0] := hx
      have hg : ∀ k, k < 3 → ρ2 k = ρ k := hag
      have hI := hInv
      have hI : ∀ a k, ¬ a = 79 → (zyEl (zymr r c) B H) a k = (zyEl (zymr r c) B s.heap) a k := hI
      obtain ⟨hF, hB, hM⟩ := hXs
      have hEE : (zyEl (zymr r c) B H2) = (zyEl (zymr r c) B H) := zyfr0 hfr
      have ex := List.mem_singleton.mp hx
      subst ex
      have b1 : 2147483648 ≤ zB (ρ2 1) ∧ zB (ρ2 1) ≤ 2147483655 := zyXb hB 0 rfl
      obtain ⟨q1, q2, -⟩ := zyStep (b := 7) b1 (by decide)
      refine zyGoB hIH hAt hB ⟨2, by decide⟩ [595, 34359738369, 34359738369] rfl rfl rfl rfl (by rw [hEE]; exact hI) ?_
      show 20 * (8 - zyN1 (ρ2 1)) + zyN1 (ρ2 1) < 20 * (8 - zyN1 (ρ 1)) + 15
      rw [← hg 1 (by decide)]
      omega
    · have hx : x ∈ [zxsd_cx0, zxsd_cx1, zxsd_cx2] := hx
      have hg : ∀ k, k < 3 → ρ2 k = ρ k := hag
      have hI := hInv
      have hI : ∀ a k, ¬ a = 79 → (zyEl (zymr r c) B H) a k = (zyEl (zymr r c) B s.heap) a k := hI
      obtain ⟨hF, hB, hM⟩ := hXs
      have hfr : ∀ a k, zyin [(79, 0, 7)] a k = false → (zyEl (zymr r c) B H2) a k = (zyEl (zymr r c) B H) a k := hfr
      rcases List.mem_cons.mp hx with ex | hx
      · subst ex
        have b2 : 2147483649 ≤ zB (ρ2 2) ∧ zB (ρ2 2) ≤ 2147483655 := zyXb hB 1 rfl
        obtain ⟨o1, o2⟩ := zyOn (x := ρ2 2) (by omega)
        have e2 : zyN1 (ρ2 2 + Int32.ofNat 4294967295) = zyN1 (ρ2 2) - 1 := by
          rw [o1, zyOd (by omega), zyN1_of (by omega), zyN1_of (by omega)]
        refine zyGoB hIH hAt hB ⟨2, by decide⟩ [595, 34359738369, 103079215097] rfl rfl rfl rfl (fun a k q => (zyfr79 hfr a k q).trans (hI a k q)) ?_
        show 20 * (8 - zyN1 (ρ2 1)) + zyN1 (ρ2 2 + Int32.ofNat 4294967295) < 20 * (8 - zyN1 (ρ 1)) + zyN1 (ρ 2)
        rw [e2, ← hg 1 (by decide), ← hg 2 (by decide)]
        omega
      · skip
        rcases List.mem_cons.mp hx with ex | hx
        · subst ex
          have b1 : 2147483648 ≤ zB (ρ2 1) ∧ zB (ρ2 1) ≤ 2147483655 := zyXb hB 0 rfl
          obtain ⟨q1, q2, -⟩ := zyStep (b := 7) b1 (by decide)
          refine zyGoB hIH hAt hB ⟨1, by decide⟩ [595, 34359738377, 0] rfl rfl rfl rfl (fun a k q => (zyfr79 hfr a k q).trans (hI a k q)) ?_
          show 20 * (8 - zyN1 (ρ2 1 + Int32.ofNat 1)) + 15 < 20 * (8 - zyN1 (ρ 1)) + zyN1 (ρ 2)
          rw [q1, ← hg 1 (by decide)]
          omega
        · skip
          have ex := List.mem_singleton.mp hx
          subst ex
          have b1 : 2147483648 ≤ zB (ρ2 1) ∧ zB (ρ2 1) ≤ 2147483655 := zyXb hB 0 rfl
          obtain ⟨q1, q2, -⟩ := zyStep (b := 7) b1 (by decide)
          refine zyGoB hIH hAt hB ⟨1, by decide⟩ [595, 34359738377, 0] rfl rfl rfl rfl (fun a k q => (zyfr79 hfr a k q).trans (hI a k q)) ?_
          show 20 * (8 - zyN1 (ρ2 1 + Int32.ofNat 1)) + 15 < 20 * (8 - zyN1 (ρ 1)) + zyN1 (ρ 2)
          rw [q1, ← hg 1 (by decide)]
          omega
  · intro as E0 E E2 hT0 hΦ hlen i ρ hT hInv x hx ρ2 N2 B vo hXs hag hfr hT2 hvo
    rcases i with ⟨i, hi⟩
    have hi2 : i = 0 ∨ i = 1 ∨ i = 2 := by omega
    rcases hi2 with rfl | rfl | rfl
    · cases hx
    · have hx : x ∈ [zxsd_br0] := hx
      have hg : ∀ k, k < 3 → ρ2 k = ρ k := hag
      have hI := hInv
      have hI : ∀ a k, ¬ a = 79 → E a k = E0 a k := hI
      obtain ⟨hF, hB, hM⟩ := hXs
      have hEE : E2 = E := zyfr0 hfr
      have ex := List.mem_singleton.mp hx
      subst ex
      rw [hEE]
      exact ⟨zyvo_0 (show zyvo _ [] vo from hvo), hI⟩
    · cases hx
def zyΦsp (as : List Int32) (E : zyEm) : Prop := ∃ (x : Int32) (q : Nat), as = [x] ∧ 2147483641 ≤ zB x ∧ zB x ≤ 2147483655 ∧ q ≤ 2000 ∧ E 74 14 = some (.int (Int32.ofNat q))
def zyΨsp (as : List Int32) (E E2 : zyEm) (vo : Option Value) : Prop := vo = none ∧ ∀ q : Nat, q ≤ 2000 → E 74 14 = some (.int (Int32.ofNat q)) → E2 74 14 = some (.int (Int32.ofNat (q + 1))) ∧ (∀ x : Int32, as = [x] → q < 300 → E2 80 q = some (.int x)) ∧ ∀ a k, ¬ (a = 74 ∧ k = 14) → ¬ (a = 80 ∧ k = q ∧ q < 300) → E2 a k = E a k
theorem zysp_run : zyAllP (fun r c => zyrS (zymr r c) zxi222 (222, 0, 0, 0, 0) 1 zpsp (fun _ _ => []) zFsp zSsp zXsp zRsp 4) = true := by decide +kernel
theorem zyspells {l : Launch} {r c : Nat} (h1 : 1 ≤ r) (h2 : r ≤ 4) (h3 : 1 ≤ c) (h4 : c ≤ 5) {en : zEn} {me : zMe} (hen : zG zxMeta 222 = some en) (hme : zG zMeth 222 = some me) : zyHc l (zymr r c) en me 1 1 zyΦsp zyΨsp := by
  have een : zG zxMeta 222 = some (zxi222, 2, 2, 11, 222, 0, 0, 0, 0) := rfl
  obtain ⟨me1, hme1, hOK⟩ := zall hen
  rw [hme] at hme1
  cases hme1
  rw [een] at hen
  cases hen
  have hr := zyAllP_iff zysp_run h1 h2 h3 h4
  refine zycutS (mi := zymr r c) hOK rfl rfl ⟨_, rfl, rfl⟩ (ι := Fin 4) (fun i => zpsp i.val) (fun _ _ => []) (fun i => zFsp i.val) (fun i => zSsp i.val) (fun i => zXsp i.val) (fun i => zRsp i.val) (fun i y2 ct en2 me2 h => by cases h) 200000 (fun i => zyAll_iff hr i.val i.isLt) ⟨0, by decide⟩ ⟨rfl, rfl, rfl, rfl⟩ ⟨by decide, by decide⟩
    (fun i as E0 ρ E => ∃ (x : Int32) (q : Nat), as = [x] ∧ q ≤ 2000 ∧ E0 74 14 = some (.int (Int32.ofNat q)) ∧ E 74 14 = some (.int (Int32.ofNat q)) ∧ (i.val ≤ 1 → ρ 1 = x) ∧ (i.val = 1 ∨ i.val = 3 → ρ 2 = Int32.ofNat q) ∧ (i.val ≤ 1 → E = E0) ∧ (2 ≤ i.val → (q < 300 → E 80 q = some (.int x)) ∧ ∀ a k, ¬ (a = 80 ∧ k = q ∧ q < 300) → E a k = E0 a k)) (fun i as E0 ρ E => 5 - i.val) ?_ ?_ ?_
  · intro as E hlen hT hΦ
    obtain ⟨x, q, rfl, b1, b2, b3, b4⟩ := hΦ
    exact ⟨zEnv_c (zyfull _) (zEnv_c ⟨b1, b2⟩ zEnv_nil), x, q, rfl, b3, b4, b4, fun _ => rfl, fun h => absurd (show 0 = 1 ∨ 0 = 3 from h) (by decide), fun _ => rfl, fun h => absurd (show 2 ≤ 0 from h) (by decide)⟩
  · intro as B s Wg hRu hT0 hΦ hlen i ρ H hT hInv hIH x hx ρ2 N2 H2 locs lsB stA hAt hXs hag hfr hT2
    rcases i with ⟨i, hi⟩
    have hi2 : i = 0 ∨ i = 1 ∨ i = 2 ∨ i = 3 := by omega
    rcases hi2 with rfl | rfl | rfl | rfl
    · have hx : x ∈ [zxsp_zx0] := hx
      have hg : ∀ k, k < 2 → ρ2 k = ρ k := hag
      have hI := hInv
      have hI : ∃ (x : Int32) (q : Nat), as = [x] ∧ q ≤ 2000 ∧ (zyEl (zymr r c) B s.heap) 74 14 = some (.int (Int32.ofNat q)) ∧ (zyEl (zymr r c) B H) 74 14 = some (.int (Int32.ofNat q)) ∧ (0 ≤ 1 → ρ 1 = x) ∧ (0 = 1 ∨ 0 = 3 → ρ 2 = Int32.ofNat q) ∧ (0 ≤ 1 → (zyEl (zymr r c) B H) = (zyEl (zymr r c) B s.heap)) ∧ (2 ≤ 0 → (q < 300 → (zyEl (zymr r c) B H) 80 q = some (.int x)) ∧ ∀ a k, ¬ (a = 80 ∧ k = q ∧ q < 300) → (zyEl (zymr r c) B H) a k = (zyEl (zymr r c) B s.heap) a k) := hI
      obtain ⟨hF, hB, hM⟩ := hXs
      have hEE : (zyEl (zymr r c) B H2) = (zyEl (zymr r c) B H) := zyfr0 hfr
      have ex := List.mem_singleton.mp hx
      subst ex
      obtain ⟨x0, q, has, hq, s1, s2, i1, i2, i3, i4⟩ := hI
      have e0 := i3 (by decide)
      have a1 : ρ2 1 = x0 := (hg 1 (by decide)).trans (i1 (by decide))
      refine zyGoKi hIH hAt hB ⟨1, by decide⟩ [595, 34359738369] [(0, 4294967295), (2147483641, 2147483655)] 2147483648 2147485648 rfl (by decide) rfl rfl rfl (74 * 16384 + 14) zymr74 rfl rfl (show 14 < 49 by decide) (Int32.ofNat q) ?_ ?_ ⟨x0, q, has, hq, s1, by rw [hEE]; exact s2, fun _ => (zyρi_n (by decide)).trans a1, fun _ => zyρi_e, fun _ => hEE.trans e0, fun h => absurd (show 2 ≤ 1 from h) (by decide)⟩ (show 5 - 1 < 5 - 0 by decide)
      · show zyEl (zymr r c) B H2 74 14 = _
        rw [hEE]
        exact s2
      · rw [zyBn (by omega)]
        omega
    · have hx : x ∈ [zxsp_ax0, zxsp_ax1] := hx
      have hg : ∀ k, k < 3 → ρ2 k = ρ k := hag
      have hI := hInv
      have hI : ∃ (x : Int32) (q : Nat), as = [x] ∧ q ≤ 2000 ∧ (zyEl (zymr r c) B s.heap) 74 14 = some (.int (Int32.ofNat q)) ∧ (zyEl (zymr r c) B H) 74 14 = some (.int (Int32.ofNat q)) ∧ (1 ≤ 1 → ρ 1 = x) ∧ (1 = 1 ∨ 1 = 3 → ρ 2 = Int32.ofNat q) ∧ (1 ≤ 1 → (zyEl (zymr r c) B H) = (zyEl (zymr r c) B s.heap)) ∧ (2 ≤ 1 → (q < 300 → (zyEl (zymr r c) B H) 80 q = some (.int x)) ∧ ∀ a k, ¬ (a = 80 ∧ k = q ∧ q < 300) → (zyEl (zymr r c) B H) a k = (zyEl (zymr r c) B s.heap) a k) := hI
      obtain ⟨hF, hB, hM⟩ := hXs
      have hEE : (zyEl (zymr r c) B H2) = (zyEl (zymr r c) B H) := zyfr0 hfr
      rcases List.mem_cons.mp hx with ex | hx
      · subst ex
        obtain ⟨x0, q, has, hq, s1, s2, i1, i2, i3, i4⟩ := hI
        have e0 := i3 (by decide)
        have a1 : ρ2 1 = x0 := (hg 1 (by decide)).trans (i1 (by decide))
        have a2 : ρ2 2 = Int32.ofNat q := (hg 2 (by decide)).trans (i2 (Or.inl rfl))
        have f0 := zyX20 hF 0 rfl
        have f0 : ρ2 2 < Int32.ofNat 300 := f0
        rw [a2, zyOl (by omega) (by omega)] at f0
        have bx : 2147483641 ≤ zB (ρ2 1) ∧ zB (ρ2 1) ≤ 2147483655 := zyXb hB 0 rfl
        refine zyAsB hRu hIH hAt hB 80 q (20, 300, [(0, 299, 73786976071499907130)]) rfl rfl rfl (cv := 34359738369) (cj := 68719476737) rfl (by decide) (by decide) ⟨2, by decide⟩ [595, 0] rfl rfl rfl rfl f0 a2 ?_ ?_
        · intro r0 hr0 _ _
          rw [List.mem_singleton.mp hr0]
          exact ⟨rfl, bx⟩
        · intro E3 hT3 e1 e2
          have e1 : E3 80 q = some (.int (ρ2 1)) := e1
          rw [hEE, e0] at e2
          refine ⟨⟨x0, q, has, hq, s1, (e2 74 14 (fun z => absurd z.1 (by decide))).trans s1, fun h => absurd (show 2 ≤ 1 from h) (by decide), fun h => absurd (show 2 = 1 ∨ 2 = 3 from h) (by decide), fun h => absurd (show 2 ≤ 1 from h) (by decide), fun _ => ⟨fun _ => by rw [e1, a1], fun a k n => e2 a k (fun z => n ⟨z.1, z.2, f0⟩)⟩⟩, (show 5 - 2 < 5 - 1 by decide)⟩
      · skip
        have ex := List.mem_singleton.mp hx
        subst ex
        obtain ⟨x0, q, has, hq, s1, s2, i1, i2, i3, i4⟩ := hI
        have e0 := i3 (by decide)
        have a2 : ρ2 2 = Int32.ofNat q := (hg 2 (by decide)).trans (i2 (Or.inl rfl))
        have f0 := zyX21 hF 0 rfl
        have f0 : ¬ ρ2 2 < Int32.ofNat 300 := f0
        rw [a2, zyOl (by omega) (by omega)] at f0
        refine zyGoKi hIH hAt hB ⟨3, by decide⟩ [595, 0] [(0, 4294967295), (0, 4294967295)] 2147483648 2147485648 rfl (by decide) rfl rfl rfl (74 * 16384 + 14) zymr74 rfl rfl (show 14 < 49 by decide) (Int32.ofNat q) ?_ ?_ ⟨x0, q, has, hq, s1, by rw [hEE]; exact s2, fun h => absurd (show 3 ≤ 1 from h) (by decide), fun _ => zyρi_e, fun h => absurd (show 3 ≤ 1 from h) (by decide), fun _ => ⟨fun z => absurd z f0, fun a k _ => by rw [hEE, e0]⟩⟩ (show 5 - 3 < 5 - 1 by decide)
        · show zyEl (zymr r c) B H2 74 14 = _
          rw [hEE]
          exact s2
        · rw [zyBn (by omega)]
          omega
    · have hx : x ∈ [zxsp_bx0] := hx
      have hg : ∀ k, k < 2 → ρ2 k = ρ k := hag
      have hI := hInv
      have hI : ∃ (x : Int32) (q : Nat), as = [x] ∧ q ≤ 2000 ∧ (zyEl (zymr r c) B s.heap) 74 14 = some (.int (Int32.ofNat q)) ∧ (zyEl (zymr r c) B H) 74 14 = some (.int (Int32.ofNat q)) ∧ (2 ≤ 1 → ρ 1 = x) ∧ (2 = 1 ∨ 2 = 3 → ρ 2 = Int32.ofNat q) ∧ (2 ≤ 1 → (zyEl (zymr r c) B H) = (zyEl (zymr r c) B s.heap)) ∧ (2 ≤ 2 → (q < 300 → (zyEl (zymr r c) B H) 80 q = some (.int x)) ∧ ∀ a k, ¬ (a = 80 ∧ k = q ∧ q < 300) → (zyEl (zymr r c) B H) a k = (zyEl (zymr r c) B s.heap) a k) := hI
      obtain ⟨hF, hB, hM⟩ := hXs
      have hEE : (zyEl (zymr r c) B H2) = (zyEl (zymr r c) B H) := zyfr0 hfr
      have ex := List.mem_singleton.mp hx
      subst ex
      obtain ⟨x0, q, has, hq, s1, s2, i1, i2, i3, i4⟩ := hI
      have i5 := i4 (by decide)
      refine zyGoKi hIH hAt hB ⟨3, by decide⟩ [595, 0] [(0, 4294967295), (0, 4294967295)] 2147483648 2147485648 rfl (by decide) rfl rfl rfl (74 * 16384 + 14) zymr74 rfl rfl (show 14 < 49 by decide) (Int32.ofNat q) ?_ ?_ ⟨x0, q, has, hq, s1, by rw [hEE]; exact s2, fun h => absurd (show 3 ≤ 1 from h) (by decide), fun _ => zyρi_e, fun h => absurd (show 3 ≤ 1 from h) (by decide), fun _ => by rw [hEE]; exact i5⟩ (show 5 - 3 < 5 - 2 by decide)
      · show zyEl (zymr r c) B H2 74 14 = _
        rw [hEE]
        exact s2
      · rw [zyBn (by omega)]
        omega
    · cases hx
  · intro as E0 E E2 hT0 hΦ hlen i ρ hT hInv x hx ρ2 N2 B vo hXs hag hfr hT2 hvo
    rcases i with ⟨i, hi⟩
    have hi2 : i = 0 ∨ i = 1 ∨ i = 2 ∨ i = 3 := by omega
    rcases hi2 with rfl | rfl | rfl | rfl
    · cases hx
    · cases hx
    · cases hx
    · have hx : x ∈ [zxsp_cr0] := hx
      have hg : ∀ k, k < 3 → ρ2 k = ρ k := hag
      have hI := hInv
      have hI : ∃ (x : Int32) (q : Nat), as = [x] ∧ q ≤ 2000 ∧ E0 74 14 = some (.int (Int32.ofNat q)) ∧ E 74 14 = some (.int (Int32.ofNat q)) ∧ (3 ≤ 1 → ρ 1 = x) ∧ (3 = 1 ∨ 3 = 3 → ρ 2 = Int32.ofNat q) ∧ (3 ≤ 1 → E = E0) ∧ (2 ≤ 3 → (q < 300 → E 80 q = some (.int x)) ∧ ∀ a k, ¬ (a = 80 ∧ k = q ∧ q < 300) → E a k = E0 a k) := hI
      obtain ⟨hF, hB, hM⟩ := hXs
      have hfr : ∀ a k, zyin [(74, 14, 14)] a k = false → E2 a k = E a k := hfr
      have ex := List.mem_singleton.mp hx
      subst ex
      obtain ⟨x0, q, has, hq, s1, s2, i1, i2, i3, i4⟩ := hI
      have a2 : ρ2 2 = Int32.ofNat q := (hg 2 (by decide)).trans (i2 (Or.inr rfl))
      obtain ⟨i5, i6⟩ := i4 (by decide)
      have m2 := zyXm hM 0 rfl
      have m2 : E2 74 14 = some (.int (ρ2 2 + Int32.ofNat 1)) := m2
      rw [a2, zyOa] at m2
      have hk := zyfr1 hfr
      refine ⟨zyvo_0 (show zyvo _ [] vo from hvo), fun q' c1 c2 => ?_⟩
      rw [s1] at c2
      have e1 := zyOi (by omega) (by omega) (Value.int.inj (Option.some.inj c2))
      subst e1
      refine ⟨m2, fun x e hx => ?_, fun a k n1 n2 => (hk a k n1).trans (i6 a k n2)⟩
      rw [has] at e
      have e := (List.cons.inj e).1
      rw [← e]
      exact (hk 80 q (fun z => absurd z.1 (by decide))).trans (i5 hx)
end
section
/-! LETTERS OF A STEP are spelled: as many as there are inversions -/
noncomputable def zyIyo : zyIn := (206, ([595, 73786976312018076282], [], [73786976277658337594], 1, [], []), [(0, 2, [595, 34359738369], [(0, 4294967295), (2147483648, 2147483727)], [], [])], 0, 0, [])
noncomputable def zyIif : zyIn := (220, ([595, 73786976312018075706, 73786976312018075706], [], [73786976312018075658], 2, [], []), [(0, 5, [595, 34359738369, 68719476737, 13, 13], [(0, 4294967295), (2147483648, 2147483655), (2147483648, 2147483655), (0, 4294967295), (0, 4294967295)], [], [])], 0, 0, [0])
noncomputable def zyITf : List (List (List zyIn)) := [[[zyIyo, zyIif]]]
theorem zyif_run : zyAllP (fun r c => zand (zychk (zymr r c) zydr zyITf 0 zyIyo) (zychk (zymr r c) zydr zyITf 1 zyIif)) = true := by decide +kernel
noncomputable def zyTif : Nat → List zyCt := fun y => zif (Nat.beq y 220) [([595, 73786976312018075706, 73786976312018075706], [], [73786976312018075658], 2, [], [])] []
theorem zyTif_ok {l : Launch} {J : zyJt} (hJ : zyJp zydr J) {r c : Nat} (h1 : 1 ≤ r) (h2 : r ≤ 4) (h3 : 1 ≤ c) (h4 : c ≤ 5) : ∀ y2 ct en2 me2, ct ∈ zyTif y2 → zG zxMeta y2 = some en2 → zG zMeth y2 = some me2 → zyCon l (zymr r c) J en2 me2 ct := by
  intro y2 ct en2 me2 hct hen hme
  unfold zyTif at hct
  by_cases e : y2 = 220
  · subst e
    have hct : ct ∈ [([595, 73786976312018075706, 73786976312018075706], [], [73786976312018075658], 2, [], [])] := hct
    rw [List.mem_singleton.mp hct]
    obtain ⟨q1, q2⟩ := zand_iff (zyAllP_iff zyif_run h1 h2 h3 h4)
    have c0 : zyCo l (zymr r c) J zyITf 0 := zychk_ok (IT := zyITf) (i := 0) q1 hJ (fun d hd => absurd hd (Nat.not_lt_zero d))
    have c1 : zyCo l (zymr r c) J zyITf 1 := zychk_ok (IT := zyITf) (i := 1) q2 hJ (fun d hd => by
      have : d = 0 := by omega
      subst this
      exact c0)
    exact c1 en2 me2 hen hme
  · rw [zybeq_ne e, zif_f] at hct
    cases hct
def zli (E : zyEm) (j : Nat) : Nat := zyN1 (zyI E 79 j)
def zth (E : zyEm) (j : Nat) : Nat := zyN1 (zyI E 78 j)
theorem zli_el {r c : Nat} {E : zyEm} (hT : zyTy (zymr r c) E) {i : Nat} (hi : i < 8) : E 79 i = some (.int (Int32.ofNat (zli E i))) ∧ zli E i < 8 := by
  obtain ⟨x, h1, h2, h3⟩ := (hT 79 (20, 8, [(0, 7, 73786976312018075706)]) i rfl (show i < 8 from hi) (0, 7, 73786976312018075706) List.mem_cons_self (Nat.zero_le _) (by dsimp only; omega)).1 rfl
  have h2 : 2147483648 ≤ zB x := h2
  have h3 : zB x ≤ 2147483655 := h3
  have e : zli E i = zyN1 x := by
    unfold zli zyI
    rw [h1]
  obtain ⟨q1, q2⟩ := zyOn h2
  rw [e]
  exact ⟨by rw [h1, ← q1], by omega⟩
theorem zth_el {r c : Nat} {E : zyEm} (hT : zyTy (zymr r c) E) {i : Nat} (hi : i < 8) : E 78 i = some (.int (Int32.ofNat (zth E i))) ∧ zth E i < 80 := by
  obtain ⟨x, h1, h2, h3⟩ := (hT 78 (20, 8, [(0, 7, 73786976312018076282)]) i rfl (show i < 8 from hi) (0, 7, 73786976312018076282) List.mem_cons_self (Nat.zero_le _) (by dsimp only; omega)).1 rfl
  have h2 : 2147483648 ≤ zB x := h2
  have h3 : zB x ≤ 2147483727 := h3
  have e : zth E i = zyN1 x := by
    unfold zth zyI
    rw [h1]
  obtain ⟨q1, q2⟩ := zyOn h2
  rw [e]
  exact ⟨by rw [h1, ← q1], by omega⟩
theorem zli_eq {E E2 : zyEm} {j : Nat} (h : E2 79 j = E 79 j) : zli E2 j = zli E j := by
  unfold zli
  rw [zyI_eq h]
theorem zth_eq {E E2 : zyEm} {j : Nat} (h : E2 78 j = E 78 j) : zth E2 j = zth E j := by
  unfold zth
  rw [zyI_eq h]
/-- the keys in line -/
noncomputable def zyh (c : Nat) (E : zyEm) (j : Nat) : Nat := zky c (zth E (zli E j))
def zyFss (E E2 : zyEm) : Prop := ∀ a k, ¬ a = 79 → ¬ a = 80 → ¬ (a = 74 ∧ k = 14) → E2 a k = E a k
def zyΦss (_ : List Int32) (E : zyEm) : Prop := ∃ m q : Nat, m ≤ 8 ∧ q ≤ 1900 ∧ E 75 2 = some (.int (Int32.ofNat m)) ∧ E 74 14 = some (.int (Int32.ofNat q)) ∧ zSv E m (min q 300)
def zyΨss (_ : List Int32) (E E2 : zyEm) (vo : Option Value) : Prop := vo = none ∧ zyFss E E2 ∧ ∀ m q : Nat, m ≤ 8 → q ≤ 1900 → E 75 2 = some (.int (Int32.ofNat m)) → E 74 14 = some (.int (Int32.ofNat q)) → ∃ q', q ≤ q' ∧ q' ≤ q + 28 ∧ E2 74 14 = some (.int (Int32.ofNat q')) ∧ zSv E2 m (min q' 300)
noncomputable def zyMss (i m k : Nat) (h : Nat → Nat) : Nat := if i ≤ 1 then 100000 - i else if i = 6 then (zinv h m * 9 + 8) * 20 + 11 else (zinv h m * 9 + (8 - k)) * 20 + (12 - i)
noncomputable def zyMs3 (c i : Nat) (E0 : zyEm) (ρ : Nat → Int32) (E : zyEm) : Nat := zyMss i (zyN1 (zyI E0 75 2)) (zyN1 (ρ 1)) (fun j => zky c (zth E (if i = 5 ∧ j = zyN1 (ρ 1) then zyN1 (ρ 2) else zli E j)))
def zyIss (c i m q0 q k : Nat) (E0 : zyEm) (ρ : Nat → Int32) (E : zyEm) : Prop := zyFss E0 E ∧ E 74 14 = some (.int (Int32.ofNat q)) ∧ zSv E m (min q 300) ∧ q0 ≤ q ∧ (i ≤ 1 → q = q0) ∧ (2 ≤ i → i ≤ 5 → ρ 1 = Int32.ofNat k) ∧ (i = 2 ∨ i = 6 → q + zinv (zyh c E) m ≤ q0 + 28) ∧
  (i = 3 ∨ i = 4 → k + 1 < m ∧ ρ 2 = Int32.ofNat (zli E k) ∧ ρ 3 = Int32.ofNat (zli E (k + 1)) ∧ q + zinv (zyh c E) m ≤ q0 + 28 + (i - 3)) ∧ (i = 3 → (ρ 4 = 1 ↔ zyh c E (k + 1) < zyh c E k)) ∧ (i = 4 → zyh c E (k + 1) < zyh c E k) ∧
  (i = 5 → ∃ g : Nat → Nat, k + 1 < m ∧ ρ 2 = Int32.ofNat (g k) ∧ g k < 8 ∧ zky c (zth E (g (k + 1))) < zky c (zth E (g k)) ∧ (∀ j, j < 8 → zli E j = if j = k then g (k + 1) else g j) ∧ q + zinv (fun j => zky c (zth E (g j))) m ≤ q0 + 29)
theorem zyMs3_eq {c i m k : Nat} {E0 E : zyEm} {ρ : Nat → Int32} (hm : E0 75 2 = some (.int (Int32.ofNat m))) (hm8 : m ≤ 8) (h1 : 2 ≤ i → i ≤ 5 → ρ 1 = Int32.ofNat k) (hk : k < 16) (h5 : ¬ i = 5) (hi : i ≤ 6) : zyMs3 c i E0 ρ E = zyMss i m k (zyh c E) := by
  unfold zyMs3
  rw [zyI_of hm (by omega)]
  have e3 : (fun j => zky c (zth E (if i = 5 ∧ j = zyN1 (ρ 1) then zyN1 (ρ 2) else zli E j))) = zyh c E := by
    funext j
    rw [if_neg (fun q => h5 q.1)]
    rfl
  rw [e3]
  unfold zyMss
  by_cases e : i ≤ 1
  · rw [if_pos e, if_pos e]
  · rw [if_neg e, if_neg e]
    by_cases e6 : i = 6
    · rw [if_pos e6, if_pos e6]
    · rw [if_neg e6, if_neg e6, h1 (by omega) (by omega), zyN1_of (by omega)]
theorem zyMs3_5 {c m k : Nat} {E0 E : zyEm} {ρ : Nat → Int32} {g : Nat → Nat} (hm : E0 75 2 = some (.int (Int32.ofNat m))) (hm8 : m ≤ 8) (h1 : ρ 1 = Int32.ofNat k) (hk : k < 16) (h2 : ρ 2 = Int32.ofNat (g k)) (h3 : g k < 8) (hh : ∀ j, j < 8 → zli E j = if j = k then g (k + 1) else g j) : zyMs3 c 5 E0 ρ E = zyMss 5 m k (fun j => zky c (zth E (g j))) := by
  unfold zyMs3
  rw [zyI_of hm (by omega), h1, h2, zyN1_of (by omega), zyN1_of (by omega)]
  unfold zyMss
  rw [if_neg (by decide), if_neg (by decide), if_neg (by decide), if_neg (by decide)]
  rw [zinv_congr (g := fun j => zky c (zth E (g j))) (fun j hj => ?_)]
  by_cases e : j = k
  · rw [if_pos ⟨rfl, e⟩, e]
  · rw [if_neg (fun q => e q.2), hh j (by omega), if_neg e]
theorem zyMss_m {i m k : Nat} {h : Nat → Nat} (hi : 2 ≤ i ∧ i ≤ 5) : zyMss i m k h = (zinv h m * 9 + (8 - k)) * 20 + (12 - i) := by
  unfold zyMss
  rw [if_neg (by omega), if_neg (by omega)]
theorem zyMss_6 {m k : Nat} {h : Nat → Nat} : zyMss 6 m k h = (zinv h m * 9 + 8) * 20 + 11 := rfl
theorem zyh_eq {c : Nat} {E E2 : zyEm} {j : Nat} (h1 : E2 79 j = E 79 j) (h2 : ∀ q, E2 78 q = E 78 q) : zyh c E2 j = zyh c E j := by
  unfold zyh
  rw [zli_eq h1, zth_eq (h2 _)]
theorem zyss_run : zyAllP (fun r c => zyrS (zymr r c) zxi223 (223, 0, 0, 0, 0) 5 zpss (fun _ => zyTif) zFss zSss zXss zRss 7) = true := by decide +kernel
theorem zyspellsStep {l : Launch} {r c : Nat} (h1 : 1 ≤ r) (h2 : r ≤ 4) (h3 : 1 ≤ c) (h4 : c ≤ 5) {en : zEn} {me : zMe} (hen : zG zxMeta 223 = some en) (hme : zG zMeth 223 = some me) : zyHc l (zymr r c) en me 5 0 zyΦss zyΨss := by
  have een : zG zxMeta 223 = some (zxi223, 1, 4, 11, 223, 0, 0, 0, 0) := rfl
  obtain ⟨me1, hme1, hOK⟩ := zall hen
  rw [hme] at hme1
  cases hme1
  rw [een] at hen
  cases hen
  have hr := zyAllP_iff zyss_run h1 h2 h3 h4
  obtain ⟨mesd, hmesd, -⟩ := zall (show zG zxMeta 221 = some (zxi221, 1, 3, 11, 221, 0, 0, 0, 0) from rfl)
  have hsd := zystands (l := l) h1 h2 h3 h4 (show zG zxMeta 221 = some (zxi221, 1, 3, 11, 221, 0, 0, 0, 0) from rfl) hmesd
  obtain ⟨meah, hmeah, -⟩ := zall (show zG zxMeta 207 = some (zxi207, 3, 3, 11, 207, 0, 0, 2, 0) from rfl)
  have hah := zyisAhead (l := l) h1 h2 h3 h4 (show zG zxMeta 207 = some (zxi207, 3, 3, 11, 207, 0, 0, 2, 0) from rfl) hmeah
  obtain ⟨mesp, hmesp, -⟩ := zall (show zG zxMeta 222 = some (zxi222, 2, 2, 11, 222, 0, 0, 0, 0) from rfl)
  have hsp := zyspells (l := l) h1 h2 h3 h4 (show zG zxMeta 222 = some (zxi222, 2, 2, 11, 222, 0, 0, 0, 0) from rfl) hmesp
  have hCon : ∀ i : Fin 7, zyCons l (zymr r c, zyTif, zFss i.val, [], zSss i.val) zyJ0 := fun _ => zyTif_ok zyJ0_r.1 h1 h2 h3 h4
  refine zycutS (mi := zymr r c) hOK rfl rfl ⟨_, rfl, rfl⟩ (ι := Fin 7) (fun i => zpss i.val) (fun _ => zyTif) (fun i => zFss i.val) (fun i => zSss i.val) (fun i => zXss i.val) (fun i => zRss i.val) hCon 200000 (fun i => zyAll_iff hr i.val i.isLt) ⟨0, by decide⟩ ⟨rfl, rfl, rfl, rfl⟩ ⟨by decide, by decide⟩
    (fun i as E0 ρ E => ∃ m q0 q k : Nat, m ≤ 8 ∧ q0 ≤ 1900 ∧ E0 75 2 = some (.int (Int32.ofNat m)) ∧ E0 74 14 = some (.int (Int32.ofNat q0)) ∧ k ≤ 7 ∧ zyIss c i.val m q0 q k E0 ρ E) (fun i as E0 ρ E => zyMs3 c i.val E0 ρ E) ?_ ?_ ?_
  · intro as E hlen hT hΦ
    obtain ⟨m, q, b1, b2, b3, b4, b5⟩ := hΦ
    exact ⟨zEnv_c (zyfull _) (zEnv_c (zyfull _) (zEnv_c (zyfull _) (zEnv_c (zyfull _) zEnv_nil))), m, q, q, 0, b1, b2, b3, b4, Nat.zero_le _, fun _ _ _ _ _ => rfl, b4, b5, Nat.le_refl _, fun _ => rfl, fun h => absurd (show 2 ≤ 0 from h) (by decide), fun h => absurd (show 0 = 2 ∨ 0 = 6 from h) (by decide), fun h => absurd (show 0 = 3 ∨ 0 = 4 from h) (by decide), fun h => absurd (show 0 = 3 from h) (by decide), fun h => absurd (show 0 = 4 from h) (by decide), fun h => absurd (show 0 = 5 from h) (by decide)⟩
  · intro as B s Wg hRu hT0 hΦ hlen i ρ H hT hInv hIH x hx ρ2 N2 H2 locs lsB stA hAt hXs hag hfr hT2
    rcases i with ⟨i, hi⟩
    have hi2 : i = 0 ∨ i = 1 ∨ i = 2 ∨ i = 3 ∨ i = 4 ∨ i = 5 ∨ i = 6 := by omega
    rcases hi2 with rfl | rfl | rfl | rfl | rfl | rfl | rfl
    · have hx : x ∈ [zxss_ax0] := hx
      have hg : ∀ k, k < 4 → ρ2 k = ρ k := hag
      have hI := hInv
      have hI : ∃ m q0 q k : Nat, m ≤ 8 ∧ q0 ≤ 1900 ∧ (zyEl (zymr r c) B s.heap) 75 2 = some (.int (Int32.ofNat m)) ∧ (zyEl (zymr r c) B s.heap) 74 14 = some (.int (Int32.ofNat q0)) ∧ k ≤ 7 ∧ zyIss c 0 m q0 q k (zyEl (zymr r c) B s.heap) ρ (zyEl (zymr r c) B H) := hI
      obtain ⟨hF, hB, hM⟩ := hXs
      have hEE : (zyEl (zymr r c) B H2) = (zyEl (zymr r c) B H) := zyfr0 hfr
      have ex := List.mem_singleton.mp hx
      subst ex
      obtain ⟨m, q0, q, k, hm, hq, s1, s2, hk, i1, i2, i3, i4, i5, i6, i7, i8, i9, i10, i11⟩ := hI
      have T1 : zyTy (zymr r c) (zyEl (zymr r c) B H) := hT
      refine zyCa0 hRu hIH hAt hB hsd (ix := 188) (ax := 3536) rfl rfl rfl hmesd ⟨rfl, rfl, rfl, rfl⟩ (by decide) [] rfl (by decide) rfl ⟨1, by decide⟩ [595, 0, 0, 0] rfl rfl rfl rfl trivial ?_
      intro E3 vo hT3 hΨ
      obtain ⟨ev, q1⟩ := (show zyΨsd [] _ E3 vo from hΨ)
      rw [hEE] at q1
      refine ⟨ev, ⟨m, q0, q, 0, hm, hq, s1, s2, Nat.zero_le _, fun a k n1 n2 n3 => (q1 a k n1).trans (i1 a k n1 n2 n3), (q1 74 14 (by decide)).trans i2, fun j hj => by rw [zyI_eq (q1 80 j (by decide))]; exact i3 j hj, i4, fun _ => i5 (by decide), fun h => absurd (show 2 ≤ 1 from h) (by decide), fun h => absurd (show 1 = 2 ∨ 1 = 6 from h) (by decide), fun h => absurd (show 1 = 3 ∨ 1 = 4 from h) (by decide), fun h => absurd (show 1 = 3 from h) (by decide), fun h => absurd (show 1 = 4 from h) (by decide), fun h => absurd (show 1 = 5 from h) (by decide)⟩, (show 100000 - 1 < 100000 - 0 by decide)⟩
    · have hx : x ∈ [zxss_bx0] := hx
      have hg : ∀ k, k < 4 → ρ2 k = ρ k := hag
      have hI := hInv
      have hI : ∃ m q0 q k : Nat, m ≤ 8 ∧ q0 ≤ 1900 ∧ (zyEl (zymr r c) B s.heap) 75 2 = some (.int (Int32.ofNat m)) ∧ (zyEl (zymr r c) B s.heap) 74 14 = some (.int (Int32.ofNat q0)) ∧ k ≤ 7 ∧ zyIss c 1 m q0 q k (zyEl (zymr r c) B s.heap) ρ (zyEl (zymr r c) B H) := hI
      obtain ⟨hF, hB, hM⟩ := hXs
      have hEE : (zyEl (zymr r c) B H2) = (zyEl (zymr r c) B H) := zyfr0 hfr
      have ex := List.mem_singleton.mp hx
      subst ex
      obtain ⟨m, q0, q, k, hm, hq, s1, s2, hk, i1, i2, i3, i4, i5, i6, i7, i8, i9, i10, i11⟩ := hI
      have T1 : zyTy (zymr r c) (zyEl (zymr r c) B H) := hT
      have e0 := i5 (by decide)
      have z28 := zinv_28 (h := zyh c (zyEl (zymr r c) B H)) hm
      refine zyGoB hIH hAt hB ⟨2, by decide⟩ [595, 0, 0, 0] rfl rfl rfl rfl ⟨m, q0, q, 0, hm, hq, s1, s2, Nat.zero_le _, by rw [hEE]; exact i1, by rw [hEE]; exact i2, by rw [hEE]; exact i3, i4, fun h => absurd (show 2 ≤ 1 from h) (by decide), fun _ _ => rfl, fun _ => by rw [hEE]; omega, fun h => absurd (show 2 = 3 ∨ 2 = 4 from h) (by decide), fun h => absurd (show 2 = 3 from h) (by decide), fun h => absurd (show 2 = 4 from h) (by decide), fun h => absurd (show 2 = 5 from h) (by decide)⟩ ?_
      show zyMs3 c 2 _ _ _ < 100000 - 1
      refine Nat.lt_of_le_of_lt (Nat.le_of_eq (zyMs3_eq (c := c) (i := 2) (m := m) (k := 0) s1 hm (fun _ _ => rfl) (by omega) (by decide) (by decide))) ?_
      rw [hEE, zyMss_m (by decide)]
      omega
    · have hx : x ∈ [zxss_cx0] := hx
      have hg : ∀ k, k < 4 → ρ2 k = ρ k := hag
      have hI := hInv
      have hI : ∃ m q0 q k : Nat, m ≤ 8 ∧ q0 ≤ 1900 ∧ (zyEl (zymr r c) B s.heap) 75 2 = some (.int (Int32.ofNat m)) ∧ (zyEl (zymr r c) B s.heap) 74 14 = some (.int (Int32.ofNat q0)) ∧ k ≤ 7 ∧ zyIss c 2 m q0 q k (zyEl (zymr r c) B s.heap) ρ (zyEl (zymr r c) B H) := hI
      obtain ⟨hF, hB, hM⟩ := hXs
      have hEE : (zyEl (zymr r c) B H2) = (zyEl (zymr r c) B H) := zyfr0 hfr
      have ex := List.mem_singleton.mp hx
      subst ex
      obtain ⟨m, q0, q, k, hm, hq, s1, s2, hk, i1, i2, i3, i4, i5, i6, i7, i8, i9, i10, i11⟩ := hI
      have T1 : zyTy (zymr r c) (zyEl (zymr r c) B H) := hT
      have a1 : ρ2 1 = Int32.ofNat k := (hg 1 (by decide)).trans (i6 (by decide) (by decide))
      have b1 : ρ2 1 + Int32.ofNat 1 = Int32.ofNat (k + 1) := by rw [a1, zyOa]
      obtain ⟨n3, w1, w2, w3⟩ := zyXe hF 0 rfl
      have w1 : Int32.ofNat 2 = Int32.ofNat n3 := w1
      have w3 : zyEl (zymr r c) B H 75 n3 = some (.int (ρ2 4)) := w3
      have em : ρ2 4 = Int32.ofNat m := zyEk w1 (by decide) w2 w3 ((i1 75 2 (by decide) (by decide) (fun z => absurd z.1 (by decide))).trans s1)
      have f1 := zyX20 hF 1 rfl
      have f1 : ρ2 1 + Int32.ofNat 1 < ρ2 4 := f1
      rw [b1, em, zyOl (by omega) (by omega)] at f1
      obtain ⟨na, u1, u2, u3⟩ := zyXe hF 2 rfl
      have u1 : ρ2 1 = Int32.ofNat na := u1
      have u3 : zyEl (zymr r c) B H 79 na = some (.int (ρ2 5)) := u3
      rw [a1] at u1
      have e5 := zyEk u1 (by omega) u2 u3 (zli_el T1 (i := k) (by omega)).1
      obtain ⟨nb, u1, u2, u3⟩ := zyXe hF 3 rfl
      have u1 : ρ2 1 + Int32.ofNat 1 = Int32.ofNat nb := u1
      have u3 : zyEl (zymr r c) B H 79 nb = some (.int (ρ2 6)) := u3
      rw [b1] at u1
      have e6 := zyEk u1 (by omega) u2 u3 (zli_el T1 (i := k + 1) (by omega)).1
      have l5 := (zli_el T1 (i := k) (by omega)).2
      have l6 := (zli_el T1 (i := k + 1) (by omega)).2
      obtain ⟨nc, u1, u2, u3⟩ := zyXe hF 4 rfl
      have u1 : ρ2 6 = Int32.ofNat nc := u1
      have u3 : zyEl (zymr r c) B H 78 nc = some (.int (ρ2 7)) := u3
      rw [e6] at u1
      have e7 := zyEk u1 (by omega) u2 u3 (zth_el T1 l6).1
      obtain ⟨nd, u1, u2, u3⟩ := zyXe hF 5 rfl
      have u1 : ρ2 5 = Int32.ofNat nd := u1
      have u3 : zyEl (zymr r c) B H 78 nd = some (.int (ρ2 8)) := u3
      rw [e5] at u1
      have e8 := zyEk u1 (by omega) u2 u3 (zth_el T1 l5).1
      have l7 := (zth_el T1 l6).2
      have l8 := (zth_el T1 l5).2
      have zz := i7 (Or.inl rfl)
      refine zyCa1 hRu hIH hAt hB hah (ix := 182) (ax := 3312) rfl rfl rfl hmeah ⟨rfl, rfl, rfl, rfl⟩ (by decide) [240518168577, 274877906945] rfl (by decide) rfl ⟨3, by decide⟩ [595, 34359738369, 171798691841, 206158430209] [(0, 4294967295), (2147483648, 2147483654), (2147483648, 2147483655), (2147483648, 2147483655)] 2147483648 2147483649 rfl (by decide) rfl rfl rfl rfl rfl ?_ ?_
      · show zyΦah [ρ2 7, ρ2 8] _
        rw [e7, e8]
        exact ⟨_, _, rfl, l7, l8⟩
      · intro E3 vo hT3 hΨ
        have hΨ : zyΨah c [ρ2 7, ρ2 8] _ E3 vo := hΨ
        rw [e7, e8, hEE] at hΨ
        obtain ⟨e3, z, ez, hz, hzz⟩ := hΨ
        subst e3
        have hzz := hzz _ _ rfl l7 l8
        refine ⟨z, ez, ?_, ?_, ⟨m, q0, q, k, hm, hq, s1, s2, hk, i1, i2, i3, i4, fun h => absurd (show 3 ≤ 1 from h) (by decide), fun _ _ => (zyρi_n (by decide)).trans a1, fun h => absurd (show 3 = 2 ∨ 3 = 6 from h) (by decide), fun _ => ⟨f1, (zyρi_n (by decide)).trans e5, (zyρi_n (by decide)).trans e6, zz⟩, fun _ => ⟨fun q => hzz.mp (zyρi_e.symm.trans q), fun q => zyρi_e.trans (hzz.mpr q)⟩, fun h => absurd (show 3 = 4 from h) (by decide), fun h => absurd (show 3 = 5 from h) (by decide)⟩, ?_⟩
        · rcases hz with rfl | rfl <;> decide
        · rcases hz with rfl | rfl <;> decide
        · show zyMs3 c 3 _ _ _ < zyMs3 c 2 _ _ _
          refine Nat.lt_of_le_of_lt (Nat.le_of_eq (zyMs3_eq (c := c) (i := 3) (m := m) (k := k) s1 hm (fun _ _ => (zyρi_n (by decide)).trans a1) (by omega) (by decide) (by decide))) (Nat.lt_of_lt_of_eq ?_ (zyMs3_eq (c := c) (i := 2) (m := m) (k := k) s1 hm i6 (by omega) (by decide) (by decide)).symm)
          rw [zyMss_m (i := 3) (by decide), zyMss_m (i := 2) (by decide)]
          omega
    · have hx : x ∈ [zxss_dx0, zxss_dx1, zxss_dx2] := hx
      have hg : ∀ k, k < 5 → ρ2 k = ρ k := hag
      have hI := hInv
      have hI : ∃ m q0 q k : Nat, m ≤ 8 ∧ q0 ≤ 1900 ∧ (zyEl (zymr r c) B s.heap) 75 2 = some (.int (Int32.ofNat m)) ∧ (zyEl (zymr r c) B s.heap) 74 14 = some (.int (Int32.ofNat q0)) ∧ k ≤ 7 ∧ zyIss c 3 m q0 q k (zyEl (zymr r c) B s.heap) ρ (zyEl (zymr r c) B H) := hI
      obtain ⟨hF, hB, hM⟩ := hXs
      have hEE : (zyEl (zymr r c) B H2) = (zyEl (zymr r c) B H) := zyfr0 hfr
      rcases List.mem_cons.mp hx with ex | hx
      · subst ex
        obtain ⟨m, q0, q, k, hm, hq, s1, s2, hk, i1, i2, i3, i4, i5, i6, i7, i8, i9, i10, i11⟩ := hI
        have T1 : zyTy (zymr r c) (zyEl (zymr r c) B H) := hT
        have a1 : ρ2 1 = Int32.ofNat k := (hg 1 (by decide)).trans (i6 (by decide) (by decide))
        have b1 : ρ2 1 + Int32.ofNat 1 = Int32.ofNat (k + 1) := by rw [a1, zyOa]
        obtain ⟨k1, e2, e3, zz⟩ := i8 (Or.inl rfl)
        have a2 := (hg 2 (by decide)).trans e2
        have a3 := (hg 3 (by decide)).trans e3
        have a4 : ρ2 4 = ρ 4 := hg 4 (by decide)
        have f0 := zyX23 hF 0 rfl
        have f0 : ¬ ρ2 4 = Int32.ofNat 0 := f0
        have z4 : 2147483649 ≤ zB (ρ2 4) ∧ zB (ρ2 4) ≤ 2147483649 := zyXb hB 3 rfl
        have z4 : ρ2 4 = 1 := by
          rcases zybool (x := ρ2 4) (by omega) (by omega) with q | q
          · exact absurd q f0
          · exact q
        have dsc := (i9 rfl).mp (by rw [← a4]; exact z4)
        have ee := b1
        have hval : zVl m (ρ2 1 + Int32.ofNat 1) := ⟨true, k, k1, Or.inl ⟨rfl, ee⟩⟩
        refine zyCa0 hRu hIH hAt hB hsp (ix := 194) (ax := 3552) rfl rfl rfl hmesp ⟨rfl, rfl, rfl, rfl⟩ (by decide) [34359738377] rfl (by decide) rfl ⟨4, by decide⟩ [595, 34359738369, 68719476737, 103079215105] rfl rfl rfl rfl ?_ ?_
        · show zyΦsp [ρ2 1 + Int32.ofNat 1] _
          rw [hEE]
          refine ⟨_, q, rfl, ?_, ?_, by omega, i2⟩
          · rw [ee]
            rw [zyBn (by omega)]
            omega
          · rw [ee]
            rw [zyBn (by omega)]
            omega
        · intro E3 vo hT3 hΨ
          have hΨ : zyΨsp [ρ2 1 + Int32.ofNat 1] _ E3 vo := hΨ
          rw [hEE] at hΨ
          obtain ⟨ev, hq2⟩ := hΨ
          obtain ⟨p1, p2, p3⟩ := hq2 q (by omega) i2
          have hh : ∀ j, zyh c E3 j = zyh c (zyEl (zymr r c) B H) j := fun j => zyh_eq (p3 79 j (fun z => absurd z.1 (by decide)) (fun z => absurd z.1 (by decide))) (fun q => p3 78 q (fun z => absurd z.1 (by decide)) (fun z => absurd z.1 (by decide)))
          have hz : zinv (zyh c E3) m = zinv (zyh c (zyEl (zymr r c) B H)) m := zinv_congr (fun j _ => hh j)
          refine ⟨ev, ⟨m, q0, q + 1, k, hm, hq, s1, s2, hk, fun a k n1 n2 n3 => (p3 a k n3 (fun z => n2 z.1)).trans (i1 a k n1 n2 n3), p1, fun j hj => ?_, by omega, fun h => absurd (show 4 ≤ 1 from h) (by decide), fun _ _ => a1, fun h => absurd (show 4 = 2 ∨ 4 = 6 from h) (by decide), fun _ => ⟨k1, by rw [zli_eq (p3 79 k (fun z => absurd z.1 (by decide)) (fun z => absurd z.1 (by decide)))]; exact a2, by rw [zli_eq (p3 79 (k + 1) (fun z => absurd z.1 (by decide)) (fun z => absurd z.1 (by decide)))]; exact a3, (by show q + 1 + zinv (zyh c E3) m ≤ q0 + 28 + (4 - 3); have zz : q + zinv (zyh c (zyEl (zymr r c) B H)) m ≤ q0 + 28 + (3 - 3) := zz; rw [hz]; omega)⟩, fun h => absurd (show 4 = 3 from h) (by decide), fun _ => by rw [hh, hh]; exact dsc, fun h => absurd (show 4 = 5 from h) (by decide)⟩, ?_⟩
          · by_cases e : j = q
            · rw [e, zyI_s (p2 _ rfl (by omega))]
              exact hval
            · rw [zyI_eq (p3 80 j (fun z => absurd z.1 (by decide)) (fun z => e z.2.1))]
              exact i3 j (by omega)
          · show zyMs3 c 4 _ _ _ < zyMs3 c 3 _ _ _
            refine Nat.lt_of_le_of_lt (Nat.le_of_eq (zyMs3_eq (c := c) (i := 4) (m := m) (k := k) s1 hm (fun _ _ => a1) (by omega) (by decide) (by decide))) (Nat.lt_of_lt_of_eq ?_ (zyMs3_eq (c := c) (i := 3) (m := m) (k := k) s1 hm i6 (by omega) (by decide) (by decide)).symm)
            rw [zyMss_m (i := 4) (by decide), zyMss_m (i := 3) (by decide), hz]
            omega
      · skip
        rcases List.mem_cons.mp hx with ex | hx
        · subst ex
          obtain ⟨m, q0, q, k, hm, hq, s1, s2, hk, i1, i2, i3, i4, i5, i6, i7, i8, i9, i10, i11⟩ := hI
          have T1 : zyTy (zymr r c) (zyEl (zymr r c) B H) := hT
          have a1 : ρ2 1 = Int32.ofNat k := (hg 1 (by decide)).trans (i6 (by decide) (by decide))
          have b1 : ρ2 1 + Int32.ofNat 1 = Int32.ofNat (k + 1) := by rw [a1, zyOa]
          obtain ⟨k1, e2, e3, zz⟩ := i8 (Or.inl rfl)
          have a2 := (hg 2 (by decide)).trans e2
          have a3 := (hg 3 (by decide)).trans e3
          have a4 : ρ2 4 = ρ 4 := hg 4 (by decide)
          have f0 := zyX23 hF 0 rfl
          have f0 : ¬ ρ2 4 = Int32.ofNat 0 := f0
          have z4 : 2147483649 ≤ zB (ρ2 4) ∧ zB (ρ2 4) ≤ 2147483649 := zyXb hB 3 rfl
          have z4 : ρ2 4 = 1 := by
            rcases zybool (x := ρ2 4) (by omega) (by omega) with q | q
            · exact absurd q f0
            · exact q
          have dsc := (i9 rfl).mp (by rw [← a4]; exact z4)
          have f2 := zyXop hF 2 rfl (by decide)
          have f2 : ρ2 6 = Int32.ofNat 0 - ρ2 1 := f2
          have ee : ρ2 6 + Int32.ofNat 4294967295 = Int32.ofNat (4294967295 - k) := by
            rw [f2, a1]
            apply zN_inj
            rw [zN_add, zN_sub, zN_of, zN_of, zN_of, zN_of]
            omega
          have hval : zVl m (ρ2 6 + Int32.ofNat 4294967295) := ⟨false, k, k1, Or.inr ⟨rfl, ee⟩⟩
          refine zyCa0 hRu hIH hAt hB hsp (ix := 194) (ax := 3552) rfl rfl rfl hmesp ⟨rfl, rfl, rfl, rfl⟩ (by decide) [240518168569] rfl (by decide) rfl ⟨4, by decide⟩ [595, 34359738369, 68719476737, 103079215105] rfl rfl rfl rfl ?_ ?_
          · show zyΦsp [ρ2 6 + Int32.ofNat 4294967295] _
            rw [hEE]
            refine ⟨_, q, rfl, ?_, ?_, by omega, i2⟩
            · rw [ee]
              rw [zyBng (by omega)]
              omega
            · rw [ee]
              rw [zyBng (by omega)]
              omega
          · intro E3 vo hT3 hΨ
            have hΨ : zyΨsp [ρ2 6 + Int32.ofNat 4294967295] _ E3 vo := hΨ
            rw [hEE] at hΨ
            obtain ⟨ev, hq2⟩ := hΨ
            obtain ⟨p1, p2, p3⟩ := hq2 q (by omega) i2
            have hh : ∀ j, zyh c E3 j = zyh c (zyEl (zymr r c) B H) j := fun j => zyh_eq (p3 79 j (fun z => absurd z.1 (by decide)) (fun z => absurd z.1 (by decide))) (fun q => p3 78 q (fun z => absurd z.1 (by decide)) (fun z => absurd z.1 (by decide)))
            have hz : zinv (zyh c E3) m = zinv (zyh c (zyEl (zymr r c) B H)) m := zinv_congr (fun j _ => hh j)
            refine ⟨ev, ⟨m, q0, q + 1, k, hm, hq, s1, s2, hk, fun a k n1 n2 n3 => (p3 a k n3 (fun z => n2 z.1)).trans (i1 a k n1 n2 n3), p1, fun j hj => ?_, by omega, fun h => absurd (show 4 ≤ 1 from h) (by decide), fun _ _ => a1, fun h => absurd (show 4 = 2 ∨ 4 = 6 from h) (by decide), fun _ => ⟨k1, by rw [zli_eq (p3 79 k (fun z => absurd z.1 (by decide)) (fun z => absurd z.1 (by decide)))]; exact a2, by rw [zli_eq (p3 79 (k + 1) (fun z => absurd z.1 (by decide)) (fun z => absurd z.1 (by decide)))]; exact a3, (by show q + 1 + zinv (zyh c E3) m ≤ q0 + 28 + (4 - 3); have zz : q + zinv (zyh c (zyEl (zymr r c) B H)) m ≤ q0 + 28 + (3 - 3) := zz; rw [hz]; omega)⟩, fun h => absurd (show 4 = 3 from h) (by decide), fun _ => by rw [hh, hh]; exact dsc, fun h => absurd (show 4 = 5 from h) (by decide)⟩, ?_⟩
            · by_cases e : j = q
              · rw [e, zyI_s (p2 _ rfl (by omega))]
                exact hval
              · rw [zyI_eq (p3 80 j (fun z => absurd z.1 (by decide)) (fun z => e z.2.1))]
                exact i3 j (by omega)
            · show zyMs3 c 4 _ _ _ < zyMs3 c 3 _ _ _
              refine Nat.lt_of_le_of_lt (Nat.le_of_eq (zyMs3_eq (c := c) (i := 4) (m := m) (k := k) s1 hm (fun _ _ => a1) (by omega) (by decide) (by decide))) (Nat.lt_of_lt_of_eq ?_ (zyMs3_eq (c := c) (i := 3) (m := m) (k := k) s1 hm i6 (by omega) (by decide) (by decide)).symm)
              rw [zyMss_m (i := 4) (by decide), zyMss_m (i := 3) (by decide), hz]
              omega
        · skip
          have ex := List.mem_singleton.mp hx
          subst ex
          obtain ⟨m, q0, q, k, hm, hq, s1, s2, hk, i1, i2, i3, i4, i5, i6, i7, i8, i9, i10, i11⟩ := hI
          have T1 : zyTy (zymr r c) (zyEl (zymr r c) B H) := hT
          have a1 : ρ2 1 = Int32.ofNat k := (hg 1 (by decide)).trans (i6 (by decide) (by decide))
          have b1 : ρ2 1 + Int32.ofNat 1 = Int32.ofNat (k + 1) := by rw [a1, zyOa]
          obtain ⟨k1, e2, e3, zz⟩ := i8 (Or.inl rfl)
          refine zyGoB hIH hAt hB ⟨2, by decide⟩ [595, 34359738377, 0, 0] rfl rfl rfl rfl ⟨m, q0, q, k + 1, hm, hq, s1, s2, by omega, by rw [hEE]; exact i1, by rw [hEE]; exact i2, by rw [hEE]; exact i3, i4, fun h => absurd (show 2 ≤ 1 from h) (by decide), fun _ _ => b1, fun _ => by rw [hEE]; exact zz, fun h => absurd (show 2 = 3 ∨ 2 = 4 from h) (by decide), fun h => absurd (show 2 = 3 from h) (by decide), fun h => absurd (show 2 = 4 from h) (by decide), fun h => absurd (show 2 = 5 from h) (by decide)⟩ ?_
          show zyMs3 c 2 _ _ _ < zyMs3 c 3 _ _ _
          refine Nat.lt_of_le_of_lt (Nat.le_of_eq (zyMs3_eq (c := c) (i := 2) (m := m) (k := k + 1) s1 hm (fun _ _ => b1) (by omega) (by decide) (by decide))) (Nat.lt_of_lt_of_eq ?_ (zyMs3_eq (c := c) (i := 3) (m := m) (k := k) s1 hm i6 (by omega) (by decide) (by decide)).symm)
          rw [hEE, zyMss_m (i := 2) (by decide), zyMss_m (i := 3) (by decide)]
          omega
    · have hx : x ∈ [zxss_ex0] := hx
      have hg : ∀ k, k < 4 → ρ2 k = ρ k := hag
      have hI := hInv
      have hI : ∃ m q0 q k : Nat, m ≤ 8 ∧ q0 ≤ 1900 ∧ (zyEl (zymr r c) B s.heap) 75 2 = some (.int (Int32.ofNat m)) ∧ (zyEl (zymr r c) B s.heap) 74 14 = some (.int (Int32.ofNat q0)) ∧ k ≤ 7 ∧ zyIss c 4 m q0 q k (zyEl (zymr r c) B s.heap) ρ (zyEl (zymr r c) B H) := hI
      obtain ⟨hF, hB, hM⟩ := hXs
      have hEE : (zyEl (zymr r c) B H2) = (zyEl (zymr r c) B H) := zyfr0 hfr
      have ex := List.mem_singleton.mp hx
      subst ex
      obtain ⟨m, q0, q, k, hm, hq, s1, s2, hk, i1, i2, i3, i4, i5, i6, i7, i8, i9, i10, i11⟩ := hI
      have T1 : zyTy (zymr r c) (zyEl (zymr r c) B H) := hT
      have a1 : ρ2 1 = Int32.ofNat k := (hg 1 (by decide)).trans (i6 (by decide) (by decide))
      have b1 : ρ2 1 + Int32.ofNat 1 = Int32.ofNat (k + 1) := by rw [a1, zyOa]
      obtain ⟨k1, e2, e3, zz⟩ := i8 (Or.inr rfl)
      have zz : q + zinv (zyh c (zyEl (zymr r c) B H)) m ≤ q0 + 28 + (4 - 3) := zz
      have dsc := i10 rfl
      have a2 := (hg 2 (by decide)).trans e2
      have a3 := (hg 3 (by decide)).trans e3
      have l5 := (zli_el T1 (i := k) (by omega)).2
      have l6 := (zli_el T1 (i := k + 1) (by omega)).2
      refine zyAsB hRu hIH hAt hB 79 k (20, 8, [(0, 7, 73786976312018075706)]) rfl rfl rfl (cv := 103079215105) (cj := 34359738369) rfl (by decide) (by decide) ⟨5, by decide⟩ [595, 34359738369, 68719476737, 103079215105] rfl rfl rfl rfl (show k < 8 by omega) a1 ?_ ?_
      · intro r0 hr0 _ _
        rw [List.mem_singleton.mp hr0]
        refine ⟨rfl, ?_⟩
        show 2147483648 ≤ zB (ρ2 3) ∧ zB (ρ2 3) ≤ 2147483655
        rw [a3, zyBn (by omega)]
        omega
      · intro E3 hT3 p1 p2
        have p1 : E3 79 k = some (.int (ρ2 3)) := p1
        rw [hEE] at p2
        have ht : ∀ j, zth E3 j = zth (zyEl (zymr r c) B H) j := fun j => zth_eq (p2 78 j (fun z => absurd z.1 (by decide)))
        have hl : ∀ j, j < 8 → zli E3 j = if j = k then zli (zyEl (zymr r c) B H) (k + 1) else zli (zyEl (zymr r c) B H) j := fun j hj => by
          by_cases e : j = k
          · rw [if_pos e, e]
            unfold zli
            rw [zyI_s p1, a3, zyN1_of (by omega)]
            rfl
          · rw [if_neg e]
            exact zli_eq (p2 79 j (fun z => e z.2))
        have hz : zinv (fun j => zky c (zth E3 (zli (zyEl (zymr r c) B H) j))) m = zinv (zyh c (zyEl (zymr r c) B H)) m := zinv_congr (fun j _ => by rw [ht]; rfl)
        refine ⟨⟨m, q0, q, k, hm, hq, s1, s2, hk, fun a k n1 n2 n3 => (p2 a k (fun z => n1 z.1)).trans (i1 a k n1 n2 n3), (p2 74 14 (fun z => absurd z.1 (by decide))).trans i2, fun j hj => by rw [zyI_eq (p2 80 j (fun z => absurd z.1 (by decide)))]; exact i3 j hj, i4, fun h => absurd (show 5 ≤ 1 from h) (by decide), fun _ _ => a1, fun h => absurd (show 5 = 2 ∨ 5 = 6 from h) (by decide), fun h => absurd (show 5 = 3 ∨ 5 = 4 from h) (by decide), fun h => absurd (show 5 = 3 from h) (by decide), fun h => absurd (show 5 = 4 from h) (by decide), fun _ => ⟨zli (zyEl (zymr r c) B H), k1, a2, l5, by rw [ht, ht]; exact dsc, hl, by rw [hz]; omega⟩⟩, ?_⟩
        show zyMs3 c 5 _ _ _ < zyMs3 c 4 _ _ _
        refine Nat.lt_of_le_of_lt (Nat.le_of_eq (zyMs3_5 (c := c) (m := m) (k := k) (g := zli (zyEl (zymr r c) B H)) s1 hm a1 (by omega) a2 l5 hl)) (Nat.lt_of_lt_of_eq ?_ (zyMs3_eq (c := c) (i := 4) (m := m) (k := k) s1 hm i6 (by omega) (by decide) (by decide)).symm)
        rw [zyMss_m (i := 5) (by decide), zyMss_m (i := 4) (by decide), hz]
        omega
    · have hx : x ∈ [zxss_fx0] := hx
      have hg : ∀ k, k < 4 → ρ2 k = ρ k := hag
      have hI := hInv
      have hI : ∃ m q0 q k : Nat, m ≤ 8 ∧ q0 ≤ 1900 ∧ (zyEl (zymr r c) B s.heap) 75 2 = some (.int (Int32.ofNat m)) ∧ (zyEl (zymr r c) B s.heap) 74 14 = some (.int (Int32.ofNat q0)) ∧ k ≤ 7 ∧ zyIss c 5 m q0 q k (zyEl (zymr r c) B s.heap) ρ (zyEl (zymr r c) B H) := hI
      obtain ⟨hF, hB, hM⟩ := hXs
      have hEE : (zyEl (zymr r c) B H2) = (zyEl (zymr r c) B H) := zyfr0 hfr
      have ex := List.mem_singleton.mp hx
      subst ex
      obtain ⟨m, q0, q, k, hm, hq, s1, s2, hk, i1, i2, i3, i4, i5, i6, i7, i8, i9, i10, i11⟩ := hI
      have T1 : zyTy (zymr r c) (zyEl (zymr r c) B H) := hT
      have a1 : ρ2 1 = Int32.ofNat k := (hg 1 (by decide)).trans (i6 (by decide) (by decide))
      have b1 : ρ2 1 + Int32.ofNat 1 = Int32.ofNat (k + 1) := by rw [a1, zyOa]
      obtain ⟨g, k1, e2, l2, dsc, hl, zz⟩ := i11 rfl
      have a2 := (hg 2 (by decide)).trans e2
      refine zyAsB hRu hIH hAt hB 79 (k + 1) (20, 8, [(0, 7, 73786976312018075706)]) rfl rfl rfl (cv := 68719476737) (cj := 34359738377) rfl (by decide) (by decide) ⟨6, by decide⟩ [595, 0, 0, 0] rfl rfl rfl rfl (show k + 1 < 8 by omega) b1 ?_ ?_
      · intro r0 hr0 _ _
        rw [List.mem_singleton.mp hr0]
        refine ⟨rfl, ?_⟩
        show 2147483648 ≤ zB (ρ2 2) ∧ zB (ρ2 2) ≤ 2147483655
        rw [a2, zyBn (by omega)]
        omega
      · intro E3 hT3 p1 p2
        have p1 : E3 79 (k + 1) = some (.int (ρ2 2)) := p1
        rw [hEE] at p2
        have ht : ∀ j, zth E3 j = zth (zyEl (zymr r c) B H) j := fun j => zth_eq (p2 78 j (fun z => absurd z.1 (by decide)))
        have hl2 : ∀ j, j < 8 → zyh c E3 j = zsw (fun j => zky c (zth (zyEl (zymr r c) B H) (g j))) k j := fun j hj => by
          unfold zyh zsw
          rw [ht]
          by_cases e : j = k + 1
          · rw [if_neg (by omega), if_pos e, e]
            have : zli E3 (k + 1) = g k := by
              unfold zli
              rw [zyI_s p1, a2, zyN1_of (by omega)]
            rw [this]
          · rw [zli_eq (p2 79 j (fun z => e z.2)), hl j hj]
            by_cases e2 : j = k
            · rw [if_pos e2, if_pos e2]
            · rw [if_neg e2, if_neg e2, if_neg e]
        have hz : zinv (zyh c E3) m = zinv (zsw (fun j => zky c (zth (zyEl (zymr r c) B H) (g j))) k) m := zinv_congr (fun j hj => hl2 j (by omega))
        have hlt := zinv_lt (h := fun j => zky c (zth (zyEl (zymr r c) B H) (g j))) dsc k1
        refine ⟨⟨m, q0, q, k, hm, hq, s1, s2, hk, fun a k n1 n2 n3 => (p2 a k (fun z => n1 z.1)).trans (i1 a k n1 n2 n3), (p2 74 14 (fun z => absurd z.1 (by decide))).trans i2, fun j hj => by rw [zyI_eq (p2 80 j (fun z => absurd z.1 (by decide)))]; exact i3 j hj, i4, fun h => absurd (show 6 ≤ 1 from h) (by decide), fun _ h => absurd (show 6 ≤ 5 from h) (by decide), fun _ => by rw [hz]; omega, fun h => absurd (show 6 = 3 ∨ 6 = 4 from h) (by decide), fun h => absurd (show 6 = 3 from h) (by decide), fun h => absurd (show 6 = 4 from h) (by decide), fun h => absurd (show 6 = 5 from h) (by decide)⟩, ?_⟩
        show zyMs3 c 6 _ _ _ < zyMs3 c 5 _ _ _
        refine Nat.lt_of_le_of_lt (Nat.le_of_eq (zyMs3_eq (c := c) (i := 6) (m := m) (k := k) s1 hm (fun _ h => absurd (show 6 ≤ 5 from h) (by decide)) (by omega) (by decide) (by decide))) (Nat.lt_of_lt_of_eq ?_ (zyMs3_5 (c := c) (m := m) (k := k) (g := g) s1 hm (i6 (by decide) (by decide)) (by omega) e2 l2 hl).symm)
        rw [zyMss_6, zyMss_m (i := 5) (by decide), hz]
        omega
    · have hx : x ∈ [zxss_gx0] := hx
      have hg : ∀ k, k < 4 → ρ2 k = ρ k := hag
      have hI := hInv
      have hI : ∃ m q0 q k : Nat, m ≤ 8 ∧ q0 ≤ 1900 ∧ (zyEl (zymr r c) B s.heap) 75 2 = some (.int (Int32.ofNat m)) ∧ (zyEl (zymr r c) B s.heap) 74 14 = some (.int (Int32.ofNat q0)) ∧ k ≤ 7 ∧ zyIss c 6 m q0 q k (zyEl (zymr r c) B s.heap) ρ (zyEl (zymr r c) B H) := hI
      obtain ⟨hF, hB, hM⟩ := hXs
      have hEE : (zyEl (zymr r c) B H2) = (zyEl (zymr r c) B H) := zyfr0 hfr
      have ex := List.mem_singleton.mp hx
      subst ex
      obtain ⟨m, q0, q, k, hm, hq, s1, s2, hk, i1, i2, i3, i4, i5, i6, i7, i8, i9, i10, i11⟩ := hI
      have T1 : zyTy (zymr r c) (zyEl (zymr r c) B H) := hT
      have zz := i7 (Or.inr rfl)
      refine zyGoB hIH hAt hB ⟨2, by decide⟩ [595, 0, 0, 0] rfl rfl rfl rfl ⟨m, q0, q, 0, hm, hq, s1, s2, Nat.zero_le _, by rw [hEE]; exact i1, by rw [hEE]; exact i2, by rw [hEE]; exact i3, i4, fun h => absurd (show 2 ≤ 1 from h) (by decide), fun _ _ => rfl, fun _ => by rw [hEE]; exact zz, fun h => absurd (show 2 = 3 ∨ 2 = 4 from h) (by decide), fun h => absurd (show 2 = 3 from h) (by decide), fun h => absurd (show 2 = 4 from h) (by decide), fun h => absurd (show 2 = 5 from h) (by decide)⟩ ?_
      show zyMs3 c 2 _ _ _ < zyMs3 c 6 _ _ _
      refine Nat.lt_of_le_of_lt (Nat.le_of_eq (zyMs3_eq (c := c) (i := 2) (m := m) (k := 0) s1 hm (fun _ _ => rfl) (by omega) (by decide) (by decide))) (Nat.lt_of_lt_of_eq ?_ (zyMs3_eq (c := c) (i := 6) (m := m) (k := k) s1 hm i6 (by omega) (by decide) (by decide)).symm)
      rw [hEE, zyMss_m (i := 2) (by decide), zyMss_6]
      omega
  · intro as E0 E E2 hT0 hΦ hlen i ρ hT hInv x hx ρ2 N2 B vo hXs hag hfr hT2 hvo
    rcases i with ⟨i, hi⟩
    have hi2 : i = 0 ∨ i = 1 ∨ i = 2 ∨ i = 3 ∨ i = 4 ∨ i = 5 ∨ i = 6 := by omega
    rcases hi2 with rfl | rfl | rfl | rfl | rfl | rfl | rfl
    · cases hx
    · cases hx
    · have hx : x ∈ [zxss_cr0] := hx
      have hg : ∀ k, k < 4 → ρ2 k = ρ k := hag
      have hI := hInv
      have hI : ∃ m q0 q k : Nat, m ≤ 8 ∧ q0 ≤ 1900 ∧ E0 75 2 = some (.int (Int32.ofNat m)) ∧ E0 74 14 = some (.int (Int32.ofNat q0)) ∧ k ≤ 7 ∧ zyIss c 2 m q0 q k E0 ρ E := hI
      obtain ⟨hF, hB, hM⟩ := hXs
      have hEE : E2 = E := zyfr0 hfr
      have ex := List.mem_singleton.mp hx
      subst ex
      obtain ⟨m, q0, q, k, hm, hq, s1, s2, hk, i1, i2, i3, i4, i5, i6, i7, -⟩ := hI
      have zz := i7 (Or.inl rfl)
      rw [hEE]
      refine ⟨zyvo_0 (show zyvo _ [] vo from hvo), i1, fun m' q' c1 c2 c3 c4 => ?_⟩
      rw [s1] at c3
      rw [s2] at c4
      have e1 := zyOi (by omega) (by omega) (Value.int.inj (Option.some.inj c3))
      have e2 := zyOi (by omega) (by omega) (Value.int.inj (Option.some.inj c4))
      subst e1
      subst e2
      exact ⟨q, i4, by omega, i2, i3⟩
    · cases hx
    · cases hx
    · cases hx
    · cases hx
end
section
/-! phases: meeting, tries (printed by yex9.py) -/
noncomputable def zxme_ax0 : zyXp := (4, [595, 34359738360, 0, 13, 13], [], [], [], [])
noncomputable def zpme_a : zyPh := (0, [595, 13, 13, 13, 13], [(0, 4294967295), (0, 4294967295), (0, 4294967295), (0, 4294967295), (0, 4294967295)], [], [])
noncomputable def zxme_bx0 : zyXp := (18, [595, 34359738369, 68719476737, 68719476745, 13], [], [(24, 171798691841, 75, 16), (20, 0, 68719476737, 171798691841)], [(34359738369, 2147483647, 2147483678), (68719476737, 2147483648, 2147483655), (171798691841, 2147483649, 2147483656), (68719476745, 2147483649, 2147483656)], [])
noncomputable def zxme_br0 : zyXp := (0, [], [34359738369], [(24, 171798691841, 75, 16), (21, 0, 68719476737, 171798691841)], [(34359738369, 2147483647, 2147483678), (68719476737, 2147483648, 2147483656), (171798691841, 2147483648, 2147483656)], [])
noncomputable def zpme_b : zyPh := (4, [595, 34359738369, 68719476737, 13, 13], [(0, 4294967295), (2147483647, 2147483678), (2147483648, 2147483656), (0, 4294967295), (0, 4294967295)], [], [])
noncomputable def zxme_cx0 : zyXp := (35, [595, 34359738369, 68719476737, 103079215105, 13], [206158430209, 595], [(24, 171798691841, 75, 16), (20, 0, 103079215105, 171798691841), (24, 206158430209, 78, 68719476737)], [(34359738369, 2147483647, 2147483678), (68719476737, 2147483648, 2147483655), (103079215105, 2147483648, 2147483655), (171798691841, 2147483649, 2147483656), (206158430209, 2147483648, 2147483727)], [])
noncomputable def zxme_cx1 : zyXp := (4, [595, 34359738369, 68719476745, 13, 13], [], [(24, 171798691841, 75, 16), (21, 0, 103079215105, 171798691841)], [(34359738369, 2147483647, 2147483678), (68719476737, 2147483648, 2147483655), (103079215105, 2147483648, 2147483656), (171798691841, 2147483648, 2147483656), (68719476745, 2147483649, 2147483656)], [])
noncomputable def zpme_c : zyPh := (18, [595, 34359738369, 68719476737, 103079215105, 13], [(0, 4294967295), (2147483647, 2147483678), (2147483648, 2147483655), (2147483648, 2147483656), (0, 4294967295)], [], [])
noncomputable def zxme_dx0 : zyXp := (18, [595, 34359738369, 68719476737, 103079215113, 13], [], [(24, 206158430209, 78, 103079215105), (23, 0, 171798691841, 206158430209)], [(34359738369, 2147483647, 2147483678), (68719476737, 2147483648, 2147483655), (103079215105, 2147483648, 2147483655), (171798691841, 2147483647, 2147483727), (206158430209, 2147483648, 2147483727), (103079215113, 2147483649, 2147483656)], [])
noncomputable def zxme_dx1 : zyXp := (57, [595, 34359738369, 68719476737, 103079215105, 13], [240518168577, 595], [(24, 206158430209, 78, 103079215105), (22, 0, 171798691841, 206158430209), (24, 240518168577, 78, 68719476737)], [(34359738369, 2147483647, 2147483678), (68719476737, 2147483648, 2147483655), (103079215105, 2147483648, 2147483655), (171798691841, 2147483647, 2147483727), (206158430209, 2147483648, 2147483727), (240518168577, 2147483648, 2147483727)], [])
noncomputable def zpme_d : zyPh := (38, [595, 34359738369, 68719476737, 103079215105, 13], [(0, 4294967295), (2147483647, 2147483678), (2147483648, 2147483655), (2147483648, 2147483655), (0, 4294967295), (2147483647, 2147483727)], [], [171798691841])
noncomputable def zxme_ex0 : zyXp := (18, [595, 171798691841, 68719476737, 103079215113, 13], [], [(20, 0, 34359738369, 0)], [(34359738369, 2147483647, 2147483647), (68719476737, 2147483648, 2147483655), (103079215105, 2147483648, 2147483655), (171798691841, 2147483647, 2147483678), (103079215113, 2147483649, 2147483656)], [])
noncomputable def zxme_ex1 : zyXp := (18, [595, 34359738369, 68719476737, 103079215113, 13], [], [(21, 0, 34359738369, 0), (20, 0, 34359738369, 171798691841)], [(34359738369, 2147483648, 2147483677), (68719476737, 2147483648, 2147483655), (103079215105, 2147483648, 2147483655), (171798691841, 2147483649, 2147483678), (103079215113, 2147483649, 2147483656)], [])
noncomputable def zxme_ex2 : zyXp := (18, [595, 171798691841, 68719476737, 103079215113, 13], [], [(21, 0, 34359738369, 0), (21, 0, 34359738369, 171798691841)], [(34359738369, 2147483648, 2147483678), (68719476737, 2147483648, 2147483655), (103079215105, 2147483648, 2147483655), (171798691841, 2147483647, 2147483678), (103079215113, 2147483649, 2147483656)], [])
noncomputable def zpme_e : zyPh := (60, [595, 34359738369, 68719476737, 103079215105, 13], [(0, 4294967295), (2147483647, 2147483678), (2147483648, 2147483655), (2147483648, 2147483655), (0, 4294967295), (2147483647, 2147483678)], [], [171798691841])
noncomputable def zpme (i : Nat) : zyPh := zif (Nat.beq i 0) (zpme_a) (zif (Nat.beq i 1) (zpme_b) (zif (Nat.beq i 2) (zpme_c) (zif (Nat.beq i 3) (zpme_d) (zpme_e))))
noncomputable def zXme (i : Nat) : List zyXp := zif (Nat.beq i 0) ([zxme_ax0]) (zif (Nat.beq i 1) ([zxme_bx0]) (zif (Nat.beq i 2) ([zxme_cx0, zxme_cx1]) (zif (Nat.beq i 3) ([zxme_dx0, zxme_dx1]) ([zxme_ex0, zxme_ex1, zxme_ex2]))))
noncomputable def zRme (i : Nat) : List zyXp := zif (Nat.beq i 0) ([]) (zif (Nat.beq i 1) ([zxme_br0]) (zif (Nat.beq i 2) ([]) (zif (Nat.beq i 3) ([]) ([]))))
noncomputable def zFme (i : Nat) : zyR := zif (Nat.beq i 0) ([]) (zif (Nat.beq i 1) ([]) (zif (Nat.beq i 2) ([]) (zif (Nat.beq i 3) ([]) ([(74, 16, 17)]))))
noncomputable def zSme (i : Nat) : Nat := zif (Nat.beq i 0) (0) (zif (Nat.beq i 1) (0) (zif (Nat.beq i 2) (0) (zif (Nat.beq i 3) (0) (0))))
noncomputable def zxtrs_ax0 : zyXp := (2, [595, 34359738369, 0], [], [], [], [])
noncomputable def zptrs_a : zyPh := (0, [595, 34359738369, 13], [(0, 4294967295), (0, 4294967295), (0, 4294967295)], [], [])
noncomputable def zxtrs_bx0 : zyXp := (24, [595, 34359738369, 68719476737], [137438953473, 595, 68719476737, 627], [(24, 103079215105, 75, 16), (20, 0, 68719476737, 103079215105), (24, 137438953473, 77, 68719476737)], [(68719476737, 2147483648, 2147483655), (103079215105, 2147483649, 2147483656), (137438953473, 2147483648, 2147483727)], [])
noncomputable def zxtrs_bx1 : zyXp := (36, [595, 34359738369, 13], [595, 595], [(24, 103079215105, 75, 16), (21, 0, 68719476737, 103079215105)], [(68719476737, 2147483648, 2147483656), (103079215105, 2147483648, 2147483656)], [])
noncomputable def zptrs_b : zyPh := (2, [595, 34359738369, 68719476737], [(0, 4294967295), (0, 4294967295), (2147483648, 2147483656)], [], [])
noncomputable def zxtrs_cx0 : zyXp := (27, [595, 34359738369, 68719476737], [137438953473, 103079215105, 627], [], [(68719476737, 2147483648, 2147483655), (103079215105, 2147483648, 2147483655), (137438953473, 2147483648, 2147483727)], [])
noncomputable def zptrs_c : zyPh := (27, [595, 34359738369, 68719476737], [(0, 4294967295), (0, 4294967295), (2147483648, 2147483655), (2147483648, 2147483655), (2147483648, 2147483727)], [], [137438953473, 103079215105, 627])
noncomputable def zxtrs_dx0 : zyXp := (2, [595, 34359738369, 68719476745], [], [], [(68719476737, 2147483648, 2147483655), (68719476745, 2147483649, 2147483656)], [])
noncomputable def zptrs_d : zyPh := (28, [595, 34359738369, 68719476737], [(0, 4294967295), (0, 4294967295), (2147483648, 2147483655)], [], [])
noncomputable def zxtrs_ex0 : zyXp := (53, [595, 34359738369, 0], [], [(20, 0, 103079215105, 0)], [(103079215105, 2147483647, 2147483647)], [])
noncomputable def zxtrs_er0 : zyXp := (0, [], [0], [(21, 0, 103079215105, 0)], [(103079215105, 2147483648, 2147483678)], [])
noncomputable def zptrs_e : zyPh := (39, [595, 34359738369, 13], [(0, 4294967295), (0, 4294967295), (0, 4294967295), (2147483647, 2147483678)], [], [103079215105, 595])
noncomputable def zxtrs_fx0 : zyXp := (76, [595, 34359738369, 68719476737], [34359738369, 137438953473, 595, 68719476737, 627], [(24, 103079215105, 75, 16), (20, 0, 68719476737, 103079215105), (24, 137438953473, 78, 68719476737)], [(68719476737, 2147483648, 2147483655), (103079215105, 2147483649, 2147483656), (137438953473, 2147483648, 2147483727)], [])
noncomputable def zxtrs_fr0 : zyXp := (0, [], [8], [(24, 103079215105, 75, 16), (21, 0, 68719476737, 103079215105)], [(68719476737, 2147483648, 2147483656), (103079215105, 2147483648, 2147483656)], [])
noncomputable def zptrs_f : zyPh := (53, [595, 34359738369, 68719476737], [(0, 4294967295), (0, 4294967295), (2147483648, 2147483656)], [], [])
noncomputable def zxtrs_gx0 : zyXp := (79, [595, 34359738369, 68719476737], [137438953473, 103079215105, 627], [], [(68719476737, 2147483648, 2147483655), (103079215105, 2147483648, 2147483655), (137438953473, 2147483648, 2147483727)], [])
noncomputable def zptrs_g : zyPh := (79, [595, 34359738369, 68719476737], [(0, 4294967295), (0, 4294967295), (2147483648, 2147483655), (2147483648, 2147483655), (2147483648, 2147483727)], [], [137438953473, 103079215105, 627])
noncomputable def zxtrs_hx0 : zyXp := (53, [595, 34359738369, 68719476745], [], [], [(68719476737, 2147483648, 2147483655), (68719476745, 2147483649, 2147483656)], [])
noncomputable def zptrs_h : zyPh := (80, [595, 34359738369, 68719476737], [(0, 4294967295), (0, 4294967295), (2147483648, 2147483655)], [], [])
noncomputable def zptrs (i : Nat) : zyPh := zif (Nat.beq i 0) (zptrs_a) (zif (Nat.beq i 1) (zptrs_b) (zif (Nat.beq i 2) (zptrs_c) (zif (Nat.beq i 3) (zptrs_d) (zif (Nat.beq i 4) (zptrs_e) (zif (Nat.beq i 5) (zptrs_f) (zif (Nat.beq i 6) (zptrs_g) (zptrs_h)))))))
noncomputable def zXtrs (i : Nat) : List zyXp := zif (Nat.beq i 0) ([zxtrs_ax0]) (zif (Nat.beq i 1) ([zxtrs_bx0, zxtrs_bx1]) (zif (Nat.beq i 2) ([zxtrs_cx0]) (zif (Nat.beq i 3) ([zxtrs_dx0]) (zif (Nat.beq i 4) ([zxtrs_ex0]) (zif (Nat.beq i 5) ([zxtrs_fx0]) (zif (Nat.beq i 6) ([zxtrs_gx0]) ([zxtrs_hx0])))))))
noncomputable def zRtrs (i : Nat) : List zyXp := zif (Nat.beq i 0) ([]) (zif (Nat.beq i 1) ([]) (zif (Nat.beq i 2) ([]) (zif (Nat.beq i 3) ([]) (zif (Nat.beq i 4) ([zxtrs_er0]) (zif (Nat.beq i 5) ([zxtrs_fr0]) (zif (Nat.beq i 6) ([]) ([])))))))
noncomputable def zFtrs (i : Nat) : zyR := zif (Nat.beq i 0) ([]) (zif (Nat.beq i 1) ([]) (zif (Nat.beq i 2) ([]) (zif (Nat.beq i 3) ([]) (zif (Nat.beq i 4) ([(74, 15, 15)]) (zif (Nat.beq i 5) ([]) (zif (Nat.beq i 6) ([]) ([])))))))
noncomputable def zStrs (i : Nat) : Nat := zif (Nat.beq i 0) (0) (zif (Nat.beq i 1) (0) (zif (Nat.beq i 2) (0) (zif (Nat.beq i 3) (0) (zif (Nat.beq i 4) (0) (zif (Nat.beq i 5) (0) (zif (Nat.beq i 6) (0) (0)))))))
end
section
/-! A STEP IS TRIED -/
section YGO9
variable {l : Launch} {mi : zyB} {en : zEn} {dep : Nat} {B : zCx} {s : State} {ι : Type} {φ : ι → zyPh} {Inv : ι → (Nat → Int32) → zyEm → Prop} {Mu : ι → (Nat → Int32) → zyEm → Nat} {M : Nat} {Wg : zyWt} {x : zyXp} {ρ2 : Nat → Int32} {N : Nat} {H : Heap} {locs : List Loc} {lsB : Array Slot} {stA : List Value}
/-- a call that answers an int, with any rest of the stack -/
theorem zyCaV (hRu : zyRu l mi en dep B s Wg) (hIH : zyIH mi en.2.2.1 B s φ Inv Mu M Wg) (hAt : zyAt mi B s en.2.2.1 x ρ2 N H locs lsB stA) (hB : ∀ b ∈ x.2.2.2.2.1, b.2.1 ≤ zB (zyw ρ2 b.1) ∧ zB (zyw ρ2 b.1) ≤ b.2.2) {en2 : zEn} {me2 : zMe} {dep2 na2 : Nat} {Φ2 : List Int32 → zyEm → Prop} {Ψ2 : List Int32 → zyEm → zyEm → Option Value → Prop} (hHc : zyHc l mi en2 me2 dep2 na2 Φ2 Ψ2) {ix ax : Nat} (hrow : en.1 x.1 = (.invokevirtual ix, x.1 + 3, ax)) (hkd : zG zKd (ax / 16) = some 0) (hen2 : zG zxMeta (ax / 16) = some en2) (hme2 : zG zMeth (ax / 16) = some me2) (hsh : en2.2.2.2.1 = 11 ∧ en2.2.1 = na2 + 1 ∧ en2.2.2.2.2.2.1 = 0 ∧ en2.2.2.2.2.2.2.1 = 0) (hdp : dep2 + 1 ≤ dep) (cs2 cr : List Nat) (hcs2 : x.2.2.1 = cs2.reverse ++ 595 :: cr) (hk : ∀ c ∈ cs2, c % 8 ≤ 1) (hkr : zwords cr ≤ 8) (hlen : cs2.length = na2)
    (i2 : ι) (cs : List Nat) (env : List (Nat × Nat)) (lo hi : Nat) (he : (φ i2).2.2.1 = env ++ [(lo, hi)]) (hnl : en.2.2.1 ≤ zyln env) (hpc : (φ i2).1 = x.1 + 3) (hchk : zygoB en.2.2.1 x.2.1 (φ i2) cs = true) (henv : zyenvB x.2.2.2.2.1 cs env 0 = true) (hkc : (φ i2).2.2.2.1 = []) (st' : List Nat) (hst : (φ i2).2.2.2.2 = zysym (zyln env) :: st') (hT : zygoT cs (zyln env) st' cr = true)
    (hΦ : Φ2 (cs2.map (zyw ρ2)) (zyEl mi B H)) (kk : ∀ (E3 : zyEm) (vo : Option Value), zyTy mi E3 → Ψ2 (cs2.map (zyw ρ2)) (zyEl mi B H) E3 vo → ∃ z : Int32, vo = some (.int z) ∧ lo ≤ zB z ∧ zB z ≤ hi ∧ Inv i2 (zyρi (fun k => zyw ρ2 (zyag cs k)) (zyln env) z) E3 ∧ Mu i2 (zyρi (fun k => zyw ρ2 (zyag cs k)) (zyln env) z) E3 < M) : Wg H locs x.1 lsB stA := by
  have hs := hAt.2.2.2.2.2
  rw [hcs2] at hs
  obtain ⟨q1, q2, rfl, g1, g2⟩ := zySt_split hs
  have e1 := zySt_ints (fun c hc => hk c (List.mem_reverse.mp hc)) g1
  obtain ⟨b, u, rfl, g3, g4⟩ := zySt_c g2
  have e3 : b = .ref (zad B 74) := zyv_3 (v := 595) g3 (by decide)
  have e4 : q1 ++ b :: u = (zyAr B (cs2.map (zyw ρ2))).reverse ++ u := by
    rw [e1, e3]
    unfold zyAr
    rw [List.reverse_cons, List.map_reverse, List.map_reverse, List.append_assoc]
    rfl
  rw [e4]
  refine hRu.1 x.1 ix ax en2 me2 dep2 na2 Φ2 Ψ2 _ u H locs lsB (by rw [zySt_words g4]; exact hkr) hrow hkd hen2 hme2 hsh.1 hsh.2.1 hsh.2.2.1 hsh.2.2.2 hHc hdp (by rw [List.length_map]; exact hlen) hAt.1 hAt.2.2.1 hAt.2.2.2.1.1 hΦ (fun H3 locs3 vo hI3 hO3 hlo3 hΨ => ?_)
  obtain ⟨z, k1, k2, k3, k4, k5⟩ := kk _ vo (zyTy_of hI3) hΨ
  have hl : (φ i2).2.2.1.length = zyln env + 1 := by rw [he, List.length_append, zyln_eq, List.length_singleton]
  rw [← hpc, k1]
  refine hIH i2 _ H3 locs3 lsB _ hI3 (fun q hq => (hO3 q hq).trans (hAt.2.1 q hq)) k4 (zyAss (ρ' := zyρi (fun k => zyw ρ2 (zyag cs k)) (zyln env) z) hAt hchk (fun i hi => zyρi_n (by omega)) ?_ hlo3 ?_ (fun p hp => by rw [hkc] at hp; cases hp)) k5
  · rw [he]
    refine zEnv_i (zyln_eq env) (fun k p hp => ?_) ⟨k2, k3⟩
    have := zyenvB_iff hB henv k p hp
    rwa [Nat.zero_add] at this
  · rw [hst, hl]
    exact zySt_sc (by omega) zyρi_e (zySt_i (zygoT_iff hT g4) (by omega))
end YGO9
def zyΦs (K : Nat) (as : List Int32) (_ : zyEm) : Prop := ∃ s : Nat, s < K ∧ as = [Int32.ofNat s]
def zyΨs (K : Nat) (f : Nat → Nat) (as : List Int32) (E E2 : zyEm) (vo : Option Value) : Prop := E2 = E ∧ ∀ s : Nat, s < K → as = [Int32.ofNat s] → vo = some (.int (Int32.ofNat (f s)))
theorem zyHc_p2 {l : Launch} {mi : zyB} {en : zEn} {me : zMe} {dep K : Nat} {f : Nat → Nat} (hK8 : K ≤ 80) (h : ∀ s, s < K → zyCon l mi zyJ0 en me ([595, 8 * s], [], [8 * f s], dep, [], [])) : zyHc l mi en me dep 1 (zyΦs K) (zyΨs K f) := by
  intro B xs hx
  refine zyMet_pt (fun a s hp => ?_)
  obtain ⟨rfl, hK, hI, q, hq, rfl⟩ := hp
  have hm := h q hq B (zyAr B [Int32.ofNat q]) ⟨Or.inl ⟨Or.inr (Or.inr (Or.inr (Or.inl ⟨rfl, rfl⟩))), fun q => by omega, fun q => by omega⟩, zyv_mk rfl, trivial⟩
  refine ⟨_, _, hm, ⟨rfl, hK, hI, fun p hp => by cases hp⟩, fun o t hq2 => ?_⟩
  obtain ⟨vo, e1, hv, k1, k2, k3, k4, k5⟩ := hq2
  refine ⟨vo, e1, k1, k2, ⟨?_, fun s' hs' e => ?_⟩, k5⟩
  · funext a k
    exact k4 a k rfl
  · have e := zyOi (by omega) (by omega) (List.cons.inj e).1
    subst e
    cases vo with
    | none => exact hv.elim
    | some w =>
      have e3 := zyv_0 (show zyV (zyX0 B zyJ0) (8 * f q) w from hv) (by omega)
      rw [show 8 * f q / 8 = f q by omega] at e3
      rw [e3]
section YSL
variable {l : Launch} {r c : Nat} {en : zEn} {me : zMe}
theorem zyturnH (h1 : 1 ≤ r) (h2 : r ≤ 4) (h3 : 1 ≤ c) (h4 : c ≤ 5) (hen : zG zxMeta 204 = some en) (hme : zG zMeth 204 = some me) : zyHc l (zymr r c) en me 2 1 (zyΦs (zgNS r c)) (zyΨs (zgNS r c) (zgT c)) := zyHc_p2 (zgNS_le h2 h4) (fun s hs => zyk1_ok zyJ0_r.1 (zyAll_iff (zyAllP_iff zgrunT h1 h2 h3 h4) s hs) hen hme)
theorem zygateH (h1 : 1 ≤ r) (h2 : r ≤ 4) (h3 : 1 ≤ c) (h4 : c ≤ 5) (hen : zG zxMeta 202 = some en) (hme : zG zMeth 202 = some me) : zyHc l (zymr r c) en me 3 1 (zyΦs (zgNS r c)) (zyΨs (zgNS r c) (zgG r c)) := zyHc_p2 (zgNS_le h2 h4) (fun s hs => zyk1_ok zyJ0_r.1 (zyAll_iff (zyAllP_iff zgrunG h1 h2 h3 h4) s hs) hen hme)
theorem zyfaceH (h1 : 1 ≤ r) (h2 : r ≤ 4) (h3 : 1 ≤ c) (h4 : c ≤ 5) (hen : zG zxMeta 203 = some en) (hme : zG zMeth 203 = some me) : zyHc l (zymr r c) en me 5 1 (zyΦs (zgNS r c)) (zyΨs (zgNS r c) (zgF r c)) := zyHc_p2 (zgNS_le h2 h4) (fun s hs => zyk1_ok zyJ0_r.1 (zyAll_iff (zyAllP_iff zgrunF h1 h2 h3 h4) s hs) hen hme)
def zyΦov (K : Nat) (as : List Int32) (_ : zyEm) : Prop := ∃ (s : Nat) (y : Int32), s < K ∧ as = [Int32.ofNat s, y]
def zyΨov (K : Nat) (_ : List Int32) (E E2 : zyEm) (vo : Option Value) : Prop := E2 = E ∧ ∃ s : Nat, s < K ∧ vo = some (.int (Int32.ofNat s))
theorem zyoverH (h1 : 1 ≤ r) (h2 : r ≤ 4) (h3 : 1 ≤ c) (h4 : c ≤ 5) (hen : zG zxMeta 211 = some en) (hme : zG zMeth 211 = some me) : zyHc l (zymr r c) en me 6 2 (zyΦov (zgNS r c)) (zyΨov (zgNS r c)) := by
  intro B xs hx
  refine zyMet_pt (fun a s hp => ?_)
  obtain ⟨rfl, hK, hI, q, y, hq, rfl⟩ := hp
  have hn := zyrc20 h2 h4
  have hq' : q < 4 * (r * c) := hq
  have hm := zyover zyJ0_r h1 h2 h3 h4 hen hme (l := l) B (zyAr B [Int32.ofNat q, y]) ⟨Or.inl ⟨Or.inr (Or.inr (Or.inr (Or.inl ⟨rfl, rfl⟩))), fun q => by omega, fun q => by omega⟩, by
    rw [zyS_def]
    exact zyv_bd (by rw [zyBn (by omega)]; omega) (by rw [zyBn (by omega)]; omega) (by omega), Or.inl ⟨Or.inr (Or.inr (Or.inl ⟨by decide, y, rfl, (zyfull y).1, (zyfull y).2⟩)), fun q => absurd q (by decide), fun q => absurd q (by decide)⟩, trivial⟩
  refine ⟨_, _, hm, ⟨rfl, hK, hI, fun p hp => by cases hp⟩, fun o t hq2 => ?_⟩
  obtain ⟨vo, e1, ⟨z, ez, hz, -⟩, k1, k2, k3, k4, k5⟩ := hq2
  obtain ⟨o1, o2⟩ := zyS_iff hn hz
  refine ⟨vo, e1, k1, k2, ⟨?_, zyN1 z, o2, by rw [← o1]; exact ez⟩, k5⟩
  funext a k
  exact k4 a k rfl
end YSL
def zyΦme (K : Nat) (_ : List Int32) (E : zyEm) : Prop := ∃ m : Nat, m ≤ 8 ∧ E 75 2 = some (.int (Int32.ofNat m)) ∧ ∀ b, b < m → zth E b < K
def zyΨme (_ : List Int32) (E E2 : zyEm) (vo : Option Value) : Prop := (∀ a k, ¬ (a = 74 ∧ 16 ≤ k ∧ k ≤ 17) → E2 a k = E a k) ∧ ∃ z : Int32, vo = some (.int z) ∧ 2147483647 ≤ zB z ∧ zB z ≤ 2147483678
theorem zyfr67 {E E2 : zyEm} (h : ∀ a k, zyin [(74, 16, 17)] a k = false → E2 a k = E a k) : ∀ a k, ¬ (a = 74 ∧ 16 ≤ k ∧ k ≤ 17) → E2 a k = E a k := by
  intro a k hn
  apply h
  cases hq : zyin [(74, 16, 17)] a k with
  | false => rfl
  | true =>
    obtain ⟨p0, g1, g2, g3, g4⟩ := zyin_iff.mp hq
    rw [List.mem_singleton.mp g1] at g2 g3 g4
    exact absurd ⟨g2.symm, g3, g4⟩ hn
theorem zyme_run : zyAllP (fun r c => zyrS (zymr r c) zxi218 (218, 0, 0, 1, 0) 6 zpme (fun _ _ => []) zFme zSme zXme zRme 5) = true := by decide +kernel
theorem zymeeting {l : Launch} {r c : Nat} (h1 : 1 ≤ r) (h2 : r ≤ 4) (h3 : 1 ≤ c) (h4 : c ≤ 5) {en : zEn} {me : zMe} (hen : zG zxMeta 218 = some en) (hme : zG zMeth 218 = some me) : zyHc l (zymr r c) en me 6 0 (zyΦme (zgNS r c)) zyΨme := by
  have een : zG zxMeta 218 = some (zxi218, 1, 5, 11, 218, 0, 0, 1, 0) := rfl
  obtain ⟨me1, hme1, hOK⟩ := zall hen
  rw [hme] at hme1
  cases hme1
  rw [een] at hen
  cases hen
  have hr := zyAllP_iff zyme_run h1 h2 h3 h4
  obtain ⟨mefc, hmefc, -⟩ := zall (show zG zxMeta 203 = some (zxi203, 2, 3, 11, 203, 0, 0, 1, 0) from rfl)
  have hfc := zyfaceH (l := l) h1 h2 h3 h4 (show zG zxMeta 203 = some (zxi203, 2, 3, 11, 203, 0, 0, 1, 0) from rfl) hmefc
  obtain ⟨megt, hmegt, -⟩ := zall (show zG zxMeta 202 = some (zxi202, 2, 5, 11, 202, 0, 0, 1, 0) from rfl)
  have hgt := zygateH (l := l) h1 h2 h3 h4 (show zG zxMeta 202 = some (zxi202, 2, 5, 11, 202, 0, 0, 1, 0) from rfl) hmegt
  refine zycutS (mi := zymr r c) hOK rfl rfl ⟨_, rfl, rfl⟩ (ι := Fin 5) (fun i => zpme i.val) (fun _ _ => []) (fun i => zFme i.val) (fun i => zSme i.val) (fun i => zXme i.val) (fun i => zRme i.val) (fun i y2 ct en2 me2 h => by cases h) 200000 (fun i => zyAll_iff hr i.val i.isLt) ⟨0, by decide⟩ ⟨rfl, rfl, rfl, rfl⟩ ⟨by decide, by decide⟩
    (fun i as E0 ρ E => ∃ m : Nat, m ≤ 8 ∧ E0 75 2 = some (.int (Int32.ofNat m)) ∧ (∀ b, b < m → zth E0 b < zgNS r c) ∧ (∀ a k, ¬ (a = 74 ∧ 16 ≤ k ∧ k ≤ 17) → E a k = E0 a k) ∧ (2 ≤ i.val → 2147483648 ≤ zB (ρ 2) ∧ zB (ρ 2) < 2147483648 + m) ∧ (3 ≤ i.val → 2147483648 ≤ zB (ρ 3) ∧ zB (ρ 3) < 2147483648 + m)) (fun i as E0 ρ E => if i.val = 0 then 10000 else if i.val = 1 then 100 * (8 - zyN1 (ρ 2)) + 99 else 100 * (8 - zyN1 (ρ 2)) + 5 * (8 - zyN1 (ρ 3)) + (5 - i.val)) ?_ ?_ ?_
  · intro as E hlen hT hΦ
    obtain ⟨m, b1, b2, b3⟩ := hΦ
    exact ⟨zEnv_c (zyfull _) (zEnv_c (zyfull _) (zEnv_c (zyfull _) (zEnv_c (zyfull _) (zEnv_c (zyfull _) zEnv_nil)))), m, b1, b2, b3, fun _ _ _ => rfl, fun h => absurd (show 2 ≤ 0 from h) (by decide), fun h => absurd (show 3 ≤ 0 from h) (by decide)⟩
  · intro as B s Wg hRu hT0 hΦ hlen i ρ H hT hInv hIH x hx ρ2 N2 H2 locs lsB stA hAt hXs hag hfr hT2
    rcases i with ⟨i, hi⟩
    have hi2 : i = 0 ∨ i = 1 ∨ i = 2 ∨ i = 3 ∨ i = 4 := by omega
    rcases hi2 with rfl | rfl | rfl | rfl | rfl
    · have hx : x ∈ [zxme_ax0] := hx
      have hg : ∀ k, k < 5 → ρ2 k = ρ k := hag
      have hI := hInv
      have hI : ∃ m : Nat, m ≤ 8 ∧ (zyEl (zymr r c) B s.heap) 75 2 = some (.int (Int32.ofNat m)) ∧ (∀ b, b < m → zth (zyEl (zymr r c) B s.heap) b < zgNS r c) ∧ (∀ a k, ¬ (a = 74 ∧ 16 ≤ k ∧ k ≤ 17) → (zyEl (zymr r c) B H) a k = (zyEl (zymr r c) B s.heap) a k) ∧ (2 ≤ 0 → 2147483648 ≤ zB (ρ 2) ∧ zB (ρ 2) < 2147483648 + m) ∧ (3 ≤ 0 → 2147483648 ≤ zB (ρ 3) ∧ zB (ρ 3) < 2147483648 + m) := hI
      obtain ⟨hF, hB, hM⟩ := hXs
      have hEE : (zyEl (zymr r c) B H2) = (zyEl (zymr r c) B H) := zyfr0 hfr
      have ex := List.mem_singleton.mp hx
      subst ex
      obtain ⟨m, hm, s1, s2, i1, i2, i3⟩ := hI
      have T1 : zyTy (zymr r c) (zyEl (zymr r c) B H) := hT
      have n80 : zgNS r c ≤ 80 := zgNS_le h2 h4
      refine zyGoB hIH hAt hB ⟨1, by decide⟩ [595, 34359738360, 0, 0, 0] rfl rfl rfl rfl ⟨m, hm, s1, s2, by rw [hEE]; exact i1, fun h => absurd (show 2 ≤ 1 from h) (by decide), fun h => absurd (show 3 ≤ 1 from h) (by decide)⟩ ?_
      show 100 * (8 - zyN1 (Int32.ofNat 0)) + 99 < 10000
      omega
    · have hx : x ∈ [zxme_bx0] := hx
      have hg : ∀ k, k < 5 → ρ2 k = ρ k := hag
      have hI := hInv
      have hI : ∃ m : Nat, m ≤ 8 ∧ (zyEl (zymr r c) B s.heap) 75 2 = some (.int (Int32.ofNat m)) ∧ (∀ b, b < m → zth (zyEl (zymr r c) B s.heap) b < zgNS r c) ∧ (∀ a k, ¬ (a = 74 ∧ 16 ≤ k ∧ k ≤ 17) → (zyEl (zymr r c) B H) a k = (zyEl (zymr r c) B s.heap) a k) ∧ (2 ≤ 1 → 2147483648 ≤ zB (ρ 2) ∧ zB (ρ 2) < 2147483648 + m) ∧ (3 ≤ 1 → 2147483648 ≤ zB (ρ 3) ∧ zB (ρ 3) < 2147483648 + m) := hI
      obtain ⟨hF, hB, hM⟩ := hXs
      have hEE : (zyEl (zymr r c) B H2) = (zyEl (zymr r c) B H) := zyfr0 hfr
      have ex := List.mem_singleton.mp hx
      subst ex
      obtain ⟨m, hm, s1, s2, i1, i2, i3⟩ := hI
      have T1 : zyTy (zymr r c) (zyEl (zymr r c) B H) := hT
      have n80 : zgNS r c ≤ 80 := zgNS_le h2 h4
      obtain ⟨n3, w1, w2, w3⟩ := zyXe hF 0 rfl
      have w1 : Int32.ofNat 2 = Int32.ofNat n3 := w1
      have w3 : zyEl (zymr r c) B H 75 n3 = some (.int (ρ2 5)) := w3
      have em : ρ2 5 = Int32.ofNat m := zyEk w1 (by decide) w2 w3 ((i1 75 2 (fun z => absurd z.1 (by decide))).trans s1)
      have f1 := zyX20 hF 1 rfl
      have f1 : ρ2 2 < ρ2 5 := f1
      rw [em, zylt_B, zyBn (by omega)] at f1
      have b2 : 2147483648 ≤ zB (ρ2 2) ∧ zB (ρ2 2) ≤ 2147483655 := zyXb hB 1 rfl
      refine zyGoB hIH hAt hB ⟨2, by decide⟩ [595, 34359738369, 68719476737, 68719476745, 0] rfl rfl rfl rfl ⟨m, hm, s1, s2, by rw [hEE]; exact i1, fun _ => ⟨b2.1, (by show zB (ρ2 2) < _; omega)⟩, fun h => absurd (show 3 ≤ 2 from h) (by decide)⟩ ?_
      show 100 * (8 - zyN1 (ρ2 2)) + 5 * (8 - zyN1 (ρ2 2 + Int32.ofNat 1)) + (5 - 2) < 100 * (8 - zyN1 (ρ 2)) + 99
      rw [hg 2 (by decide)]
      omega
    · have hx : x ∈ [zxme_cx0, zxme_cx1] := hx
      have hg : ∀ k, k < 5 → ρ2 k = ρ k := hag
      have hI := hInv
      have hI : ∃ m : Nat, m ≤ 8 ∧ (zyEl (zymr r c) B s.heap) 75 2 = some (.int (Int32.ofNat m)) ∧ (∀ b, b < m → zth (zyEl (zymr r c) B s.heap) b < zgNS r c) ∧ (∀ a k, ¬ (a = 74 ∧ 16 ≤ k ∧ k ≤ 17) → (zyEl (zymr r c) B H) a k = (zyEl (zymr r c) B s.heap) a k) ∧ (2 ≤ 2 → 2147483648 ≤ zB (ρ 2) ∧ zB (ρ 2) < 2147483648 + m) ∧ (3 ≤ 2 → 2147483648 ≤ zB (ρ 3) ∧ zB (ρ 3) < 2147483648 + m) := hI
      obtain ⟨hF, hB, hM⟩ := hXs
      have hEE : (zyEl (zymr r c) B H2) = (zyEl (zymr r c) B H) := zyfr0 hfr
      rcases List.mem_cons.mp hx with ex | hx
      · subst ex
        obtain ⟨m, hm, s1, s2, i1, i2, i3⟩ := hI
        have T1 : zyTy (zymr r c) (zyEl (zymr r c) B H) := hT
        have n80 : zgNS r c ≤ 80 := zgNS_le h2 h4
        obtain ⟨v1, v2⟩ := i2 (by decide)
        have a2 : ρ2 2 = ρ 2 := hg 2 (by decide)
        have a3 : ρ2 3 = ρ 3 := hg 3 (by decide)
        rw [← a2] at v1 v2
        obtain ⟨o1, o2⟩ := zyOn v1
        obtain ⟨n3, w1, w2, w3⟩ := zyXe hF 0 rfl
        have w1 : Int32.ofNat 2 = Int32.ofNat n3 := w1
        have w3 : zyEl (zymr r c) B H 75 n3 = some (.int (ρ2 5)) := w3
        have em : ρ2 5 = Int32.ofNat m := zyEk w1 (by decide) w2 w3 ((i1 75 2 (fun z => absurd z.1 (by decide))).trans s1)
        have f1 := zyX20 hF 1 rfl
        have f1 : ρ2 3 < ρ2 5 := f1
        rw [em, zylt_B, zyBn (by omega)] at f1
        have b3 : 2147483648 ≤ zB (ρ2 3) ∧ zB (ρ2 3) ≤ 2147483655 := zyXb hB 2 rfl
        have v3 := b3.1
        have v4 : zB (ρ2 3) < 2147483648 + m := by omega
        obtain ⟨na, u1, u2, u3⟩ := zyXe hF 2 rfl
        have u1 : ρ2 2 = Int32.ofNat na := u1
        have u3 : zyEl (zymr r c) B H 78 na = some (.int (ρ2 6)) := u3
        rw [o1] at u1
        have e6 := zyEk u1 (by omega) u2 u3 (zth_el T1 (i := zyN1 (ρ2 2)) (by omega)).1
        have k6 : zth (zyEl (zymr r c) B H) (zyN1 (ρ2 2)) < zgNS r c := by
          rw [zth_eq (i1 78 _ (fun z => absurd z.1 (by decide)))]
          exact s2 _ (by omega)
        refine zyCa1 hRu hIH hAt hB hfc (ix := 145) (ax := 3248) rfl rfl rfl hmefc ⟨rfl, rfl, rfl, rfl⟩ (by decide) [206158430209] rfl (by decide) rfl ⟨3, by decide⟩ [595, 34359738369, 68719476737, 103079215105, 0] [(0, 4294967295), (2147483647, 2147483678), (2147483648, 2147483655), (2147483648, 2147483655), (0, 4294967295)] 2147483647 2147483727 rfl (by decide) rfl rfl rfl rfl rfl ?_ ?_
        · show zyΦs _ [ρ2 6] _
          rw [e6]
          exact ⟨_, k6, rfl⟩
        · intro E3 vo hT3 hΨ
          have hΨ : zyΨs _ _ [ρ2 6] _ E3 vo := hΨ
          rw [e6, hEE] at hΨ
          obtain ⟨e3, hq⟩ := hΨ
          subst e3
          have ez := hq _ k6 rfl
          have fb := (zgfacts h1 h2 h3 h4 k6).2.2
          refine ⟨_, ez, ?_, ?_, ⟨m, hm, s1, s2, i1, fun _ => (by rw [zyρi_n (by decide)]; exact ⟨v1, v2⟩), fun _ => (by rw [zyρi_n (by decide)]; exact ⟨v3, v4⟩)⟩, ?_⟩
          · rcases fb with fb | ⟨-, fb, -⟩
            · rw [zgF_none fb, zB_none]
              omega
            · rw [zyBn (by omega)]
              omega
          · rcases fb with fb | ⟨-, fb, -⟩
            · rw [zgF_none fb, zB_none]
              omega
            · rw [zyBn (by omega)]
              omega
          · show 100 * (8 - zyN1 (ρ2 2)) + 5 * (8 - zyN1 (ρ2 3)) + (5 - 3) < 100 * (8 - zyN1 (ρ 2)) + 5 * (8 - zyN1 (ρ 3)) + (5 - 2)
            rw [a2, a3]
            omega
      · skip
        have ex := List.mem_singleton.mp hx
        subst ex
        obtain ⟨m, hm, s1, s2, i1, i2, i3⟩ := hI
        have T1 : zyTy (zymr r c) (zyEl (zymr r c) B H) := hT
        have n80 : zgNS r c ≤ 80 := zgNS_le h2 h4
        obtain ⟨v1, v2⟩ := i2 (by decide)
        have a2 : ρ2 2 = ρ 2 := hg 2 (by decide)
        have a3 : ρ2 3 = ρ 3 := hg 3 (by decide)
        rw [← a2] at v1 v2
        obtain ⟨o1, o2⟩ := zyOn v1
        refine zyGoB hIH hAt hB ⟨1, by decide⟩ [595, 34359738369, 68719476745, 0, 0] rfl rfl rfl rfl ⟨m, hm, s1, s2, by rw [hEE]; exact i1, fun h => absurd (show 2 ≤ 1 from h) (by decide), fun h => absurd (show 3 ≤ 1 from h) (by decide)⟩ ?_
        obtain ⟨q1, q2, -⟩ := zyStep (b := 7) (x := ρ2 2) ⟨v1, by omega⟩ (by decide)
        show 100 * (8 - zyN1 (ρ2 2 + Int32.ofNat 1)) + 99 < 100 * (8 - zyN1 (ρ 2)) + 5 * (8 - zyN1 (ρ 3)) + (5 - 2)
        rw [q1, ← a2]
        omega
    · have hx : x ∈ [zxme_dx0, zxme_dx1] := hx
      have hg : ∀ k, k < 6 → ρ2 k = ρ k := hag
      have hI := hInv
      have hI : ∃ m : Nat, m ≤ 8 ∧ (zyEl (zymr r c) B s.heap) 75 2 = some (.int (Int32.ofNat m)) ∧ (∀ b, b < m → zth (zyEl (zymr r c) B s.heap) b < zgNS r c) ∧ (∀ a k, ¬ (a = 74 ∧ 16 ≤ k ∧ k ≤ 17) → (zyEl (zymr r c) B H) a k = (zyEl (zymr r c) B s.heap) a k) ∧ (2 ≤ 3 → 2147483648 ≤ zB (ρ 2) ∧ zB (ρ 2) < 2147483648 + m) ∧ (3 ≤ 3 → 2147483648 ≤ zB (ρ 3) ∧ zB (ρ 3) < 2147483648 + m) := hI
      obtain ⟨hF, hB, hM⟩ := hXs
      have hEE : (zyEl (zymr r c) B H2) = (zyEl (zymr r c) B H) := zyfr0 hfr
      rcases List.mem_cons.mp hx with ex | hx
      · subst ex
        obtain ⟨m, hm, s1, s2, i1, i2, i3⟩ := hI
        have T1 : zyTy (zymr r c) (zyEl (zymr r c) B H) := hT
        have n80 : zgNS r c ≤ 80 := zgNS_le h2 h4
        obtain ⟨v1, v2⟩ := i2 (by decide)
        have a2 : ρ2 2 = ρ 2 := hg 2 (by decide)
        have a3 : ρ2 3 = ρ 3 := hg 3 (by decide)
        rw [← a2] at v1 v2
        obtain ⟨o1, o2⟩ := zyOn v1
        obtain ⟨v3, v4⟩ := i3 (by decide)
        rw [← a3] at v3 v4
        obtain ⟨q1, q2, -⟩ := zyStep (b := 7) (x := ρ2 3) ⟨v3, by omega⟩ (by decide)
        refine zyGoB hIH hAt hB ⟨2, by decide⟩ [595, 34359738369, 68719476737, 103079215113, 0] rfl rfl rfl rfl ⟨m, hm, s1, s2, by rw [hEE]; exact i1, fun _ => ⟨v1, v2⟩, fun h => absurd (show 3 ≤ 2 from h) (by decide)⟩ ?_
        show 100 * (8 - zyN1 (ρ2 2)) + 5 * (8 - zyN1 (ρ2 3 + Int32.ofNat 1)) + (5 - 2) < 100 * (8 - zyN1 (ρ 2)) + 5 * (8 - zyN1 (ρ 3)) + (5 - 3)
        rw [q1, a2, ← a3]
        omega
      · skip
        have ex := List.mem_singleton.mp hx
        subst ex
        obtain ⟨m, hm, s1, s2, i1, i2, i3⟩ := hI
        have T1 : zyTy (zymr r c) (zyEl (zymr r c) B H) := hT
        have n31 : zgNG r c ≤ 31 := zgNG_le h2 h4
        have n80 : zgNS r c ≤ 80 := zgNS_le h2 h4
        obtain ⟨v1, v2⟩ := i2 (by decide)
        have a2 : ρ2 2 = ρ 2 := hg 2 (by decide)
        have a3 : ρ2 3 = ρ 3 := hg 3 (by decide)
        rw [← a2] at v1 v2
        obtain ⟨o1, o2⟩ := zyOn v1
        obtain ⟨v3, v4⟩ := i3 (by decide)
        rw [← a3] at v3 v4
        obtain ⟨na, u1, u2, u3⟩ := zyXe hF 2 rfl
        have u1 : ρ2 2 = Int32.ofNat na := u1
        have u3 : zyEl (zymr r c) B H 78 na = some (.int (ρ2 7)) := u3
        rw [o1] at u1
        have e7 := zyEk u1 (by omega) u2 u3 (zth_el T1 (i := zyN1 (ρ2 2)) (by omega)).1
        have k7 : zth (zyEl (zymr r c) B H) (zyN1 (ρ2 2)) < zgNS r c := by
          rw [zth_eq (i1 78 _ (fun z => absurd z.1 (by decide)))]
          exact s2 _ (by omega)
        refine zyCa1 hRu hIH hAt hB hgt (ix := 113) (ax := 3232) rfl rfl rfl hmegt ⟨rfl, rfl, rfl, rfl⟩ (by decide) [240518168577] rfl (by decide) rfl ⟨4, by decide⟩ [595, 34359738369, 68719476737, 103079215105, 0] [(0, 4294967295), (2147483647, 2147483678), (2147483648, 2147483655), (2147483648, 2147483655), (0, 4294967295)] 2147483647 2147483678 rfl (by decide) rfl rfl rfl rfl rfl ?_ ?_
        · show zyΦs _ [ρ2 7] _
          rw [e7]
          exact ⟨_, k7, rfl⟩
        · intro E3 vo hT3 hΨ
          have hΨ : zyΨs _ _ [ρ2 7] _ E3 vo := hΨ
          rw [e7, hEE] at hΨ
          obtain ⟨e3, hq⟩ := hΨ
          subst e3
          have ez := hq _ k7 rfl
          have fb := (zgfacts h1 h2 h3 h4 k7).2.2
          refine ⟨_, ez, ?_, ?_, ⟨m, hm, s1, s2, i1, fun _ => (by rw [zyρi_n (by decide)]; exact ⟨v1, v2⟩), fun _ => (by rw [zyρi_n (by decide)]; exact ⟨v3, v4⟩)⟩, ?_⟩
          · rcases fb with fb | ⟨fb, -, -⟩
            · rw [fb, zB_none]
              omega
            · rw [zyBn (by omega)]
              omega
          · rcases fb with fb | ⟨fb, -, -⟩
            · rw [fb, zB_none]
              omega
            · rw [zyBn (by omega)]
              omega
          · show 100 * (8 - zyN1 (ρ2 2)) + 5 * (8 - zyN1 (ρ2 3)) + (5 - 4) < 100 * (8 - zyN1 (ρ 2)) + 5 * (8 - zyN1 (ρ 3)) + (5 - 3)
            rw [a2, a3]
            omega
    · have hx : x ∈ [zxme_ex0, zxme_ex1, zxme_ex2] := hx
      have hg : ∀ k, k < 6 → ρ2 k = ρ k := hag
      have hI := hInv
      have hI : ∃ m : Nat, m ≤ 8 ∧ (zyEl (zymr r c) B s.heap) 75 2 = some (.int (Int32.ofNat m)) ∧ (∀ b, b < m → zth (zyEl (zymr r c) B s.heap) b < zgNS r c) ∧ (∀ a k, ¬ (a = 74 ∧ 16 ≤ k ∧ k ≤ 17) → (zyEl (zymr r c) B H) a k = (zyEl (zymr r c) B s.heap) a k) ∧ (2 ≤ 4 → 2147483648 ≤ zB (ρ 2) ∧ zB (ρ 2) < 2147483648 + m) ∧ (3 ≤ 4 → 2147483648 ≤ zB (ρ 3) ∧ zB (ρ 3) < 2147483648 + m) := hI
      obtain ⟨hF, hB, hM⟩ := hXs
      have hfr : ∀ a k, zyin [(74, 16, 17)] a k = false → (zyEl (zymr r c) B H2) a k = (zyEl (zymr r c) B H) a k := hfr
      rcases List.mem_cons.mp hx with ex | hx
      · subst ex
        obtain ⟨m, hm, s1, s2, i1, i2, i3⟩ := hI
        have T1 : zyTy (zymr r c) (zyEl (zymr r c) B H) := hT
        have n80 : zgNS r c ≤ 80 := zgNS_le h2 h4
        obtain ⟨v1, v2⟩ := i2 (by decide)
        have a2 : ρ2 2 = ρ 2 := hg 2 (by decide)
        have a3 : ρ2 3 = ρ 3 := hg 3 (by decide)
        rw [← a2] at v1 v2
        obtain ⟨o1, o2⟩ := zyOn v1
        obtain ⟨v3, v4⟩ := i3 (by decide)
        rw [← a3] at v3 v4
        obtain ⟨q1, q2, -⟩ := zyStep (b := 7) (x := ρ2 3) ⟨v3, by omega⟩ (by decide)
        refine zyGoB hIH hAt hB ⟨2, by decide⟩ [595, 171798691841, 68719476737, 103079215113, 0] rfl rfl rfl rfl ⟨m, hm, s1, s2, fun a k q => (zyfr67 hfr a k q).trans (i1 a k q), fun _ => ⟨v1, v2⟩, fun h => absurd (show 3 ≤ 2 from h) (by decide)⟩ ?_
        show 100 * (8 - zyN1 (ρ2 2)) + 5 * (8 - zyN1 (ρ2 3 + Int32.ofNat 1)) + (5 - 2) < 100 * (8 - zyN1 (ρ 2)) + 5 * (8 - zyN1 (ρ 3)) + (5 - 4)
        rw [q1, a2, ← a3]
        omega
      · skip
        rcases List.mem_cons.mp hx with ex | hx
        · subst ex
          obtain ⟨m, hm, s1, s2, i1, i2, i3⟩ := hI
          have T1 : zyTy (zymr r c) (zyEl (zymr r c) B H) := hT
          have n80 : zgNS r c ≤ 80 := zgNS_le h2 h4
          obtain ⟨v1, v2⟩ := i2 (by decide)
          have a2 : ρ2 2 = ρ 2 := hg 2 (by decide)
          have a3 : ρ2 3 = ρ 3 := hg 3 (by decide)
          rw [← a2] at v1 v2
          obtain ⟨o1, o2⟩ := zyOn v1
          obtain ⟨v3, v4⟩ := i3 (by decide)
          rw [← a3] at v3 v4
          obtain ⟨q1, q2, -⟩ := zyStep (b := 7) (x := ρ2 3) ⟨v3, by omega⟩ (by decide)
          refine zyGoB hIH hAt hB ⟨2, by decide⟩ [595, 34359738369, 68719476737, 103079215113, 0] rfl rfl rfl rfl ⟨m, hm, s1, s2, fun a k q => (zyfr67 hfr a k q).trans (i1 a k q), fun _ => ⟨v1, v2⟩, fun h => absurd (show 3 ≤ 2 from h) (by decide)⟩ ?_
          show 100 * (8 - zyN1 (ρ2 2)) + 5 * (8 - zyN1 (ρ2 3 + Int32.ofNat 1)) + (5 - 2) < 100 * (8 - zyN1 (ρ 2)) + 5 * (8 - zyN1 (ρ 3)) + (5 - 4)
          rw [q1, a2, ← a3]
          omega
        · skip
          have ex := List.mem_singleton.mp hx
          subst ex
          obtain ⟨m, hm, s1, s2, i1, i2, i3⟩ := hI
          have T1 : zyTy (zymr r c) (zyEl (zymr r c) B H) := hT
          have n80 : zgNS r c ≤ 80 := zgNS_le h2 h4
          obtain ⟨v1, v2⟩ := i2 (by decide)
          have a2 : ρ2 2 = ρ 2 := hg 2 (by decide)
          have a3 : ρ2 3 = ρ 3 := hg 3 (by decide)
          rw [← a2] at v1 v2
          obtain ⟨o1, o2⟩ := zyOn v1
          obtain ⟨v3, v4⟩ := i3 (by decide)
          rw [← a3] at v3 v4
          obtain ⟨q1, q2, -⟩ := zyStep (b := 7) (x := ρ2 3) ⟨v3, by omega⟩ (by decide)
          refine zyGoB hIH hAt hB ⟨2, by decide⟩ [595, 171798691841, 68719476737, 103079215113, 0] rfl rfl rfl rfl ⟨m, hm, s1, s2, fun a k q => (zyfr67 hfr a k q).trans (i1 a k q), fun _ => ⟨v1, v2⟩, fun h => absurd (show 3 ≤ 2 from h) (by decide)⟩ ?_
          show 100 * (8 - zyN1 (ρ2 2)) + 5 * (8 - zyN1 (ρ2 3 + Int32.ofNat 1)) + (5 - 2) < 100 * (8 - zyN1 (ρ 2)) + 5 * (8 - zyN1 (ρ 3)) + (5 - 4)
          rw [q1, a2, ← a3]
          omega
  · intro as E0 E E2 hT0 hΦ hlen i ρ hT hInv x hx ρ2 N2 B vo hXs hag hfr hT2 hvo
    rcases i with ⟨i, hi⟩
    have hi2 : i = 0 ∨ i = 1 ∨ i = 2 ∨ i = 3 ∨ i = 4 := by omega
    rcases hi2 with rfl | rfl | rfl | rfl | rfl
    · cases hx
    · have hx : x ∈ [zxme_br0] := hx
      have hg : ∀ k, k < 5 → ρ2 k = ρ k := hag
      have hI := hInv
      have hI : ∃ m : Nat, m ≤ 8 ∧ E0 75 2 = some (.int (Int32.ofNat m)) ∧ (∀ b, b < m → zth E0 b < zgNS r c) ∧ (∀ a k, ¬ (a = 74 ∧ 16 ≤ k ∧ k ≤ 17) → E a k = E0 a k) ∧ (2 ≤ 1 → 2147483648 ≤ zB (ρ 2) ∧ zB (ρ 2) < 2147483648 + m) ∧ (3 ≤ 1 → 2147483648 ≤ zB (ρ 3) ∧ zB (ρ 3) < 2147483648 + m) := hI
      obtain ⟨hF, hB, hM⟩ := hXs
      have hEE : E2 = E := zyfr0 hfr
      have ex := List.mem_singleton.mp hx
      subst ex
      obtain ⟨m, hm, s1, s2, i1, i2, i3⟩ := hI
      rw [hEE]
      exact ⟨i1, ρ2 1, zyvo_1 (c := 34359738369) (by decide) (show zyvo (zyXn B ρ2 N2) [34359738369] vo from hvo), zyXb hB 0 rfl⟩
    · cases hx
    · cases hx
    · cases hx
end
