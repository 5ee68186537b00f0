/-! WHETHER BRAIDS ARE ONE: the reference's questions -/
def zyJb (E E2 : zyEm) : Prop := ∀ a2 k2, ¬ a2 = 81 → ¬ a2 = 82 → ¬ (a2 = 74 ∧ 19 ≤ k2 ∧ k2 ≤ 21) → E2 a2 k2 = E a2 k2
theorem zyJb_jo {E E2 E3 : zyEm} (h1 : zyJb E E2) (h2 : zyJo E2 E3) : zyJb E E3 := fun a k p1 p2 p3 => (h2 a k p1 p2 (fun z => p3 ⟨z.1, by omega, by omega⟩)).trans (h1 a k p1 p2 p3)
theorem zyJb_75 {E E2 : zyEm} (h : zyJb E E2) (k : Nat) : zyI E2 75 k = zyI E 75 k := zyI_eq (h 75 k (by decide) (by decide) (fun z => absurd z.1 (by decide)))
theorem zLv_jb {E E2 : zyEm} {m : Nat} (h : zyJb E E2) (hv : zLv E m) : zLv E2 m := fun k hk h2 => by
  rw [zyJb_75 h] at h2 ⊢
  exact hv k hk h2
theorem zWl_jb {E E2 : zyEm} {m : Nat} (h : zyJb E E2) (hv : zWl E m) : zWl E2 m := fun k hk h2 => by
  rw [zyJb_75 h] at h2 ⊢
  exact hv k hk h2
def zyΦbb (_ : List Int32) (_ : zyEm) : Prop := True
def zyΨbb (_ : List Int32) (E E2 : zyEm) (vo : Option Value) : Prop := vo = none ∧ zyJb E E2 ∧ ∀ m : Nat, m ≤ 8 → E 75 2 = some (.int (Int32.ofNat m)) → zBs E2 0 m
def zyΦbr (_ : List Int32) (E : zyEm) : Prop := ∃ m : Nat, m ≤ 8 ∧ E 75 2 = some (.int (Int32.ofNat m)) ∧ zLv E m ∧ zWv E
def zyΨbr (_ : List Int32) (E E2 : zyEm) (vo : Option Value) : Prop := zyJb E E2 ∧ ∃ z : Int32, vo = some (.int z) ∧ (z = 0 ∨ z = 1)
theorem zybb_run : zyAllP (fun r c => zyrS (zymr r c) zxi238 (238, 0, 0, 0, 0) 1 zpbb (fun _ _ => []) zFbb zSbb zXbb zRbb 1) = true := by decide +kernel
theorem zybeginsBraid {l : Launch} {r c : Nat} (h1 : 1 ≤ r) (h2 : r ≤ 4) (h3 : 1 ≤ c) (h4 : c ≤ 5) {en : zEn} {me : zMe} (hen : zG zxMeta 238 = some en) (hme : zG zMeth 238 = some me) : zyHc l (zymr r c) en me 1 0 zyΦbb zyΨbb := by
  have een : zG zxMeta 238 = some (zxi238, 1, 1, 11, 238, 0, 0, 0, 0) := rfl
  obtain ⟨me1, hme1, hOK⟩ := zall hen
  rw [hme] at hme1
  cases hme1
  rw [een] at hen
  cases hen
  have hr := zyAllP_iff zybb_run h1 h2 h3 h4
  refine zycutS (mi := zymr r c) hOK rfl rfl ⟨_, rfl, rfl⟩ (ι := Fin 1) (fun i => zpbb i.val) (fun _ _ => []) (fun i => zFbb i.val) (fun i => zSbb i.val) (fun i => zXbb i.val) (fun i => zRbb i.val) (fun i y2 ct en2 me2 h => by cases h) 200000 (fun i => zyAll_iff hr i.val i.isLt) ⟨0, by decide⟩ ⟨rfl, rfl, rfl, rfl⟩ ⟨by decide, by decide⟩
    (fun i as E0 ρ E => E = E0) (fun i as E0 ρ E => 0) ?_ ?_ ?_
  · intro as E hlen hT hΦ
    exact ⟨zEnv_c (zyfull _) zEnv_nil, rfl⟩
  · intro as B s Wg hRu hT0 hΦ hlen i ρ H hT hInv hIH x hx ρ2 N2 H2 locs lsB stA hAt hXs hag hfr hT2
    rcases i with ⟨i, hi⟩
    have hi2 : i = 0 := by omega
    rcases hi2 with rfl
    · cases hx
  · intro as E0 E E2 hT0 hΦ hlen i ρ hT hInv x hx ρ2 N2 B vo hXs hag hfr hT2 hvo
    rcases i with ⟨i, hi⟩
    have hi2 : i = 0 := by omega
    rcases hi2 with rfl
    · have hx : x ∈ [zxbb_ar0] := hx
      have hg : ∀ k, k < 1 → ρ2 k = ρ k := hag
      have hI := hInv
      have hI : E = E0 := hI
      obtain ⟨hF, hB, hM⟩ := hXs
      have hfr : ∀ a k, zyin [(74, 19, 21)] a k = false → E2 a k = E a k := hfr
      have ex := List.mem_singleton.mp hx
      subst ex
      have m1 := zyXm hM 0 rfl
      have m1 : E2 74 19 = some (.int (Int32.ofNat 0)) := m1
      have m2 := zyXm hM 1 rfl
      have m2 : E2 74 21 = some (.int (ρ2 1)) := m2
      have hk : ∀ a2 k2, ¬ (a2 = 74 ∧ 19 ≤ k2 ∧ k2 ≤ 21) → E2 a2 k2 = E a2 k2 := by
        intro a2 k2 q
        apply hfr
        cases hq : zyin [(74, 19, 21)] a2 k2 with
        | false => rfl
        | true =>
          obtain ⟨p0, g1, g2, g3, g4⟩ := zyin_iff.mp hq
          rw [List.mem_singleton.mp g1] at g2 g3 g4
          exact absurd ⟨g2.symm, g3, g4⟩ q
      refine ⟨zyvo_0 (show zyvo _ [] vo from hvo), fun a2 k2 _ _ q => (hk a2 k2 q).trans (by rw [hI]), fun m hm hms => ?_⟩
      rw [← hI] at hms
      obtain ⟨n3, w1, w2, w3⟩ := zyXe hF 0 rfl
      have w1 : Int32.ofNat 2 = Int32.ofNat n3 := w1
      have w3 : E 75 n3 = some (.int (ρ2 1)) := w3
      have em : ρ2 1 = Int32.ofNat m := zyEk w1 (by decide) w2 w3 hms
      rw [em] at m2
      exact ⟨by omega, hm, m1, m2, (hk 75 2 (fun z => absurd z.1 (by decide))).trans hms, fun f hf => absurd hf (Nat.not_lt_zero f)⟩
theorem zynb_run : zyAllP (fun r c => zyrS (zymr r c) zxi239 (239, 0, 0, 2, 0) 1 zpnb (fun _ _ => []) zFnb zSnb zXnb zRnb 1) = true := by decide +kernel
theorem zyisNoBraid {l : Launch} {r c : Nat} (h1 : 1 ≤ r) (h2 : r ≤ 4) (h3 : 1 ≤ c) (h4 : c ≤ 5) {en : zEn} {me : zMe} (hen : zG zxMeta 239 = some en) (hme : zG zMeth 239 = some me) : zyHc l (zymr r c) en me 1 0 zyΦbb zyΨie := by
  have een : zG zxMeta 239 = some (zxi239, 1, 1, 11, 239, 0, 0, 2, 0) := rfl
  obtain ⟨me1, hme1, hOK⟩ := zall hen
  rw [hme] at hme1
  cases hme1
  rw [een] at hen
  cases hen
  have hr := zyAllP_iff zynb_run h1 h2 h3 h4
  refine zycutS (mi := zymr r c) hOK rfl rfl ⟨_, rfl, rfl⟩ (ι := Fin 1) (fun i => zpnb i.val) (fun _ _ => []) (fun i => zFnb i.val) (fun i => zSnb i.val) (fun i => zXnb i.val) (fun i => zRnb i.val) (fun i y2 ct en2 me2 h => by cases h) 200000 (fun i => zyAll_iff hr i.val i.isLt) ⟨0, by decide⟩ ⟨rfl, rfl, rfl, rfl⟩ ⟨by decide, by decide⟩
    (fun i as E0 ρ E => E = E0) (fun i as E0 ρ E => 0) ?_ ?_ ?_
  · intro as E hlen hT hΦ
    exact ⟨zEnv_c (zyfull _) zEnv_nil, rfl⟩
  · intro as B s Wg hRu hT0 hΦ hlen i ρ H hT hInv hIH x hx ρ2 N2 H2 locs lsB stA hAt hXs hag hfr hT2
    rcases i with ⟨i, hi⟩
    have hi2 : i = 0 := by omega
    rcases hi2 with rfl
    · cases hx
  · intro as E0 E E2 hT0 hΦ hlen i ρ hT hInv x hx ρ2 N2 B vo hXs hag hfr hT2 hvo
    rcases i with ⟨i, hi⟩
    have hi2 : i = 0 := by omega
    rcases hi2 with rfl
    · have hx : x ∈ [zxnb_ar0, zxnb_ar1, zxnb_ar2, zxnb_ar3] := hx
      have hg : ∀ k, k < 1 → ρ2 k = ρ k := hag
      have hI := hInv
      have hI : E = E0 := hI
      obtain ⟨hF, hB, hM⟩ := hXs
      have hEE : E2 = E := zyfr0 hfr
      rcases List.mem_cons.mp hx with ex | hx
      · subst ex
        exact ⟨hEE.trans hI, 0, zyvo_1 (c := 0) (by decide) (show zyvo (zyXn B ρ2 N2) [0] vo from hvo), Or.inl rfl⟩
      · skip
        rcases List.mem_cons.mp hx with ex | hx
        · subst ex
          exact ⟨hEE.trans hI, 0, zyvo_1 (c := 0) (by decide) (show zyvo (zyXn B ρ2 N2) [0] vo from hvo), Or.inl rfl⟩
        · skip
          rcases List.mem_cons.mp hx with ex | hx
          · subst ex
            exact ⟨hEE.trans hI, 0, zyvo_1 (c := 0) (by decide) (show zyvo (zyXn B ρ2 N2) [0] vo from hvo), Or.inl rfl⟩
          · skip
            have ex := List.mem_singleton.mp hx
            subst ex
            exact ⟨hEE.trans hI, 1, zyvo_1 (c := 8) (by decide) (show zyvo (zyXn B ρ2 N2) [8] vo from hvo), Or.inr rfl⟩
theorem zyge_run : zyAllP (fun r c => zyrS (zymr r c) zxi247 (247, 0, 0, 2, 0) 8 zpge (fun _ _ => []) zFge zSge zXge zRge 8) = true := by decide +kernel
theorem zygoEitherWay {l : Launch} {r c : Nat} (h1 : 1 ≤ r) (h2 : r ≤ 4) (h3 : 1 ≤ c) (h4 : c ≤ 5) {en : zEn} {me : zMe} (hen : zG zxMeta 247 = some en) (hme : zG zMeth 247 = some me) : zyHc l (zymr r c) en me 8 0 zyΦbr zyΨbr := by
  have een : zG zxMeta 247 = some (zxi247, 1, 1, 11, 247, 0, 0, 2, 0) := rfl
  obtain ⟨me1, hme1, hOK⟩ := zall hen
  rw [hme] at hme1
  cases hme1
  rw [een] at hen
  cases hen
  have hr := zyAllP_iff zyge_run h1 h2 h3 h4
  obtain ⟨mebb, hmebb, -⟩ := zall (show zG zxMeta 238 = some (zxi238, 1, 1, 11, 238, 0, 0, 0, 0) from rfl)
  have hbb := zybeginsBraid (l := l) h1 h2 h3 h4 (show zG zxMeta 238 = some (zxi238, 1, 1, 11, 238, 0, 0, 0, 0) from rfl) hmebb
  obtain ⟨menb, hmenb, -⟩ := zall (show zG zxMeta 239 = some (zxi239, 1, 1, 11, 239, 0, 0, 2, 0) from rfl)
  have hnb := zyisNoBraid (l := l) h1 h2 h3 h4 (show zG zxMeta 239 = some (zxi239, 1, 1, 11, 239, 0, 0, 2, 0) from rfl) hmenb
  obtain ⟨mejw, hmejw, -⟩ := zall (show zG zxMeta 240 = some (zxi240, 3, 5, 11, 240, 0, 0, 0, 0) from rfl)
  have hjw := zyjoinsWord (l := l) h1 h2 h3 h4 (show zG zxMeta 240 = some (zxi240, 3, 5, 11, 240, 0, 0, 0, 0) from rfl) hmejw
  obtain ⟨mejd, hmejd, -⟩ := zall (show zG zxMeta 241 = some (zxi241, 1, 2, 11, 241, 0, 0, 0, 0) from rfl)
  have hjd := zyjoinsWished (l := l) h1 h2 h3 h4 (show zG zxMeta 241 = some (zxi241, 1, 2, 11, 241, 0, 0, 0, 0) from rfl) hmejd
  obtain ⟨meud, hmeud, -⟩ := zall (show zG zxMeta 242 = some (zxi242, 1, 2, 11, 242, 0, 0, 0, 0) from rfl)
  have hud := zyunjoinsWished (l := l) h1 h2 h3 h4 (show zG zxMeta 242 = some (zxi242, 1, 2, 11, 242, 0, 0, 0, 0) from rfl) hmeud
  obtain ⟨meuw, hmeuw, -⟩ := zall (show zG zxMeta 243 = some (zxi243, 1, 2, 11, 243, 0, 0, 0, 0) from rfl)
  have huw := zyunjoinsWord (l := l) h1 h2 h3 h4 (show zG zxMeta 243 = some (zxi243, 1, 2, 11, 243, 0, 0, 0, 0) from rfl) hmeuw
  obtain ⟨mecw, hmecw, -⟩ := zall (show zG zxMeta 244 = some (zxi244, 1, 3, 11, 244, 0, 0, 2, 0) from rfl)
  have hcw := zycanBeWished (l := l) h1 h2 h3 h4 (show zG zxMeta 244 = some (zxi244, 1, 3, 11, 244, 0, 0, 2, 0) from rfl) hmecw
  obtain ⟨mejo, hmejo, -⟩ := zall (show zG zxMeta 237 = some (zxi237, 2, 5, 11, 237, 0, 0, 0, 0) from rfl)
  have hjo := zyjoins (l := l) h1 h2 h3 h4 (show zG zxMeta 237 = some (zxi237, 2, 5, 11, 237, 0, 0, 0, 0) from rfl) hmejo
  refine zycutS (mi := zymr r c) hOK rfl rfl ⟨_, rfl, rfl⟩ (ι := Fin 8) (fun i => zpge i.val) (fun _ _ => []) (fun i => zFge i.val) (fun i => zSge i.val) (fun i => zXge i.val) (fun i => zRge i.val) (fun i y2 ct en2 me2 h => by cases h) 200000 (fun i => zyAll_iff hr i.val i.isLt) ⟨0, by decide⟩ ⟨rfl, rfl, rfl, rfl⟩ ⟨by decide, by decide⟩
    (fun i as E0 ρ E => (i.val = 0 → E = E0) ∧ (i.val = 1 → E = E0 ∧ (ρ 1 = 0 ∨ ∀ m : Nat, m ≤ 8 → E0 75 2 = some (.int (Int32.ofNat m)) → zWl E0 m)) ∧ (i.val = 2 → ∃ n m : Nat, m ≤ 8 ∧ E0 75 2 = some (.int (Int32.ofNat m)) ∧ zBs E n m ∧ zyJb E0 E ∧ zLv E0 m ∧ zWl E0 m ∧ n ≤ 0) ∧ (i.val = 3 → ∃ n m : Nat, m ≤ 8 ∧ E0 75 2 = some (.int (Int32.ofNat m)) ∧ zBs E n m ∧ zyJb E0 E ∧ zLv E0 m ∧ zWl E0 m ∧ n ≤ 300) ∧ (i.val = 4 → ∃ n m : Nat, m ≤ 8 ∧ E0 75 2 = some (.int (Int32.ofNat m)) ∧ zBs E n m ∧ zyJb E0 E ∧ zLv E0 m ∧ zWl E0 m ∧ n ≤ 360) ∧ (i.val = 5 → ∃ n m : Nat, m ≤ 8 ∧ E0 75 2 = some (.int (Int32.ofNat m)) ∧ zBs E n m ∧ zyJb E0 E ∧ zLv E0 m ∧ zWl E0 m ∧ n ≤ 661) ∧ (i.val = 6 → zyJb E0 E) ∧ (i.val = 7 → zyJb E0 E)) (fun i as E0 ρ E => 20 - i.val) ?_ ?_ ?_
  · intro as E hlen hT hΦ
    exact ⟨zEnv_c (zyfull _) zEnv_nil, ⟨fun _ => rfl, fun h => absurd (show 0 = 1 from h) (by decide), fun h => absurd (show 0 = 2 from h) (by decide), fun h => absurd (show 0 = 3 from h) (by decide), fun h => absurd (show 0 = 4 from h) (by decide), fun h => absurd (show 0 = 5 from h) (by decide), fun h => absurd (show 0 = 6 from h) (by decide), fun h => absurd (show 0 = 7 from h) (by decide)⟩⟩
  · intro as B s Wg hRu hT0 hΦ hlen i ρ H hT hInv hIH x hx ρ2 N2 H2 locs lsB stA hAt hXs hag hfr hT2
    rcases i with ⟨i, hi⟩
    have hi2 : i = 0 ∨ i = 1 ∨ i = 2 ∨ i = 3 ∨ i = 4 ∨ i = 5 ∨ i = 6 ∨ i = 7 := by omega
    rcases hi2 with rfl | rfl | rfl | rfl | rfl | rfl | rfl | rfl
    · have hx : x ∈ [zxge_ax0] := hx
      have hg : ∀ k, k < 1 → ρ2 k = ρ k := hag
      have hI := hInv
      have hI : (0 = 0 → (zyEl (zymr r c) B H) = (zyEl (zymr r c) B s.heap)) ∧ (0 = 1 → (zyEl (zymr r c) B H) = (zyEl (zymr r c) B s.heap) ∧ (ρ 1 = 0 ∨ ∀ m : Nat, m ≤ 8 → (zyEl (zymr r c) B s.heap) 75 2 = some (.int (Int32.ofNat m)) → zWl (zyEl (zymr r c) B s.heap) m)) ∧ (0 = 2 → ∃ n m : Nat, m ≤ 8 ∧ (zyEl (zymr r c) B s.heap) 75 2 = some (.int (Int32.ofNat m)) ∧ zBs (zyEl (zymr r c) B H) n m ∧ zyJb (zyEl (zymr r c) B s.heap) (zyEl (zymr r c) B H) ∧ zLv (zyEl (zymr r c) B s.heap) m ∧ zWl (zyEl (zymr r c) B s.heap) m ∧ n ≤ 0) ∧ (0 = 3 → ∃ n m : Nat, m ≤ 8 ∧ (zyEl (zymr r c) B s.heap) 75 2 = some (.int (Int32.ofNat m)) ∧ zBs (zyEl (zymr r c) B H) n m ∧ zyJb (zyEl (zymr r c) B s.heap) (zyEl (zymr r c) B H) ∧ zLv (zyEl (zymr r c) B s.heap) m ∧ zWl (zyEl (zymr r c) B s.heap) m ∧ n ≤ 300) ∧ (0 = 4 → ∃ n m : Nat, m ≤ 8 ∧ (zyEl (zymr r c) B s.heap) 75 2 = some (.int (Int32.ofNat m)) ∧ zBs (zyEl (zymr r c) B H) n m ∧ zyJb (zyEl (zymr r c) B s.heap) (zyEl (zymr r c) B H) ∧ zLv (zyEl (zymr r c) B s.heap) m ∧ zWl (zyEl (zymr r c) B s.heap) m ∧ n ≤ 360) ∧ (0 = 5 → ∃ n m : Nat, m ≤ 8 ∧ (zyEl (zymr r c) B s.heap) 75 2 = some (.int (Int32.ofNat m)) ∧ zBs (zyEl (zymr r c) B H) n m ∧ zyJb (zyEl (zymr r c) B s.heap) (zyEl (zymr r c) B H) ∧ zLv (zyEl (zymr r c) B s.heap) m ∧ zWl (zyEl (zymr r c) B s.heap) m ∧ n ≤ 661) ∧ (0 = 6 → zyJb (zyEl (zymr r c) B s.heap) (zyEl (zymr r c) B H)) ∧ (0 = 7 → zyJb (zyEl (zymr r c) B s.heap) (zyEl (zymr r c) B H)) := hI
      obtain ⟨hF, hB, hM⟩ := hXs
      have hEE : (zyEl (zymr r c) B H2) = (zyEl (zymr r c) B H) := zyfr0 hfr
      have ex := List.mem_singleton.mp hx
      subst ex
      have hI := hI.1 rfl
      obtain ⟨m0, m1, m2, m3, m4⟩ := hΦ
      refine zyCa1 hRu hIH hAt hB hcw (ix := 245) (ax := 3904) rfl rfl rfl hmecw ⟨rfl, rfl, rfl, rfl⟩ (by decide) [] rfl (by decide) rfl ⟨1, by decide⟩ [595] [(0, 4294967295)] 2147483648 2147483649 rfl (by decide) rfl rfl rfl rfl rfl ?_ ?_
      · show zyΦcw [] _
        rw [hEE, hI]
        exact ⟨m0, m1, m2, m4⟩
      · intro E3 vo hT3 hΨ
        obtain ⟨e3, z, ez, hz⟩ := (show zyΨcw [] _ E3 vo from hΨ)
        rw [hEE, hI] at e3 hz
        subst e3
        refine ⟨z, ez, ?_, ?_, ⟨fun h => absurd (show 1 = 0 from h) (by decide), fun _ => ⟨rfl, hz.imp (fun q => (zyρi_e (k0 := 1)).trans q) (fun q => q.2)⟩, fun h => absurd (show 1 = 2 from h) (by decide), fun h => absurd (show 1 = 3 from h) (by decide), fun h => absurd (show 1 = 4 from h) (by decide), fun h => absurd (show 1 = 5 from h) (by decide), fun h => absurd (show 1 = 6 from h) (by decide), fun h => absurd (show 1 = 7 from h) (by decide)⟩, ?_⟩
        · rcases hz with rfl | ⟨rfl, -⟩ <;> decide
        · rcases hz with rfl | ⟨rfl, -⟩ <;> decide
        · show 19 < 20
          decide
    · have hx : x ∈ [zxge_bx0] := hx
      have hg : ∀ k, k < 2 → ρ2 k = ρ k := hag
      have hI := hInv
      have hI : (1 = 0 → (zyEl (zymr r c) B H) = (zyEl (zymr r c) B s.heap)) ∧ (1 = 1 → (zyEl (zymr r c) B H) = (zyEl (zymr r c) B s.heap) ∧ (ρ 1 = 0 ∨ ∀ m : Nat, m ≤ 8 → (zyEl (zymr r c) B s.heap) 75 2 = some (.int (Int32.ofNat m)) → zWl (zyEl (zymr r c) B s.heap) m)) ∧ (1 = 2 → ∃ n m : Nat, m ≤ 8 ∧ (zyEl (zymr r c) B s.heap) 75 2 = some (.int (Int32.ofNat m)) ∧ zBs (zyEl (zymr r c) B H) n m ∧ zyJb (zyEl (zymr r c) B s.heap) (zyEl (zymr r c) B H) ∧ zLv (zyEl (zymr r c) B s.heap) m ∧ zWl (zyEl (zymr r c) B s.heap) m ∧ n ≤ 0) ∧ (1 = 3 → ∃ n m : Nat, m ≤ 8 ∧ (zyEl (zymr r c) B s.heap) 75 2 = some (.int (Int32.ofNat m)) ∧ zBs (zyEl (zymr r c) B H) n m ∧ zyJb (zyEl (zymr r c) B s.heap) (zyEl (zymr r c) B H) ∧ zLv (zyEl (zymr r c) B s.heap) m ∧ zWl (zyEl (zymr r c) B s.heap) m ∧ n ≤ 300) ∧ (1 = 4 → ∃ n m : Nat, m ≤ 8 ∧ (zyEl (zymr r c) B s.heap) 75 2 = some (.int (Int32.ofNat m)) ∧ zBs (zyEl (zymr r c) B H) n m ∧ zyJb (zyEl (zymr r c) B s.heap) (zyEl (zymr r c) B H) ∧ zLv (zyEl (zymr r c) B s.heap) m ∧ zWl (zyEl (zymr r c) B s.heap) m ∧ n ≤ 360) ∧ (1 = 5 → ∃ n m : Nat, m ≤ 8 ∧ (zyEl (zymr r c) B s.heap) 75 2 = some (.int (Int32.ofNat m)) ∧ zBs (zyEl (zymr r c) B H) n m ∧ zyJb (zyEl (zymr r c) B s.heap) (zyEl (zymr r c) B H) ∧ zLv (zyEl (zymr r c) B s.heap) m ∧ zWl (zyEl (zymr r c) B s.heap) m ∧ n ≤ 661) ∧ (1 = 6 → zyJb (zyEl (zymr r c) B s.heap) (zyEl (zymr r c) B H)) ∧ (1 = 7 → zyJb (zyEl (zymr r c) B s.heap) (zyEl (zymr r c) B H)) := hI
      obtain ⟨hF, hB, hM⟩ := hXs
      have hEE : (zyEl (zymr r c) B H2) = (zyEl (zymr r c) B H) := zyfr0 hfr
      have ex := List.mem_singleton.mp hx
      subst ex
      have hI := hI.2.1 rfl
      obtain ⟨hE0, hz⟩ := hI
      obtain ⟨m0, m1, m2, m3, m4⟩ := hΦ
      have f0 := zyX23 hF 0 rfl
      have f0 : ¬ ρ2 1 = Int32.ofNat 0 := f0
      have hw0 := hz.resolve_left (fun q => f0 ((hg 1 (by decide)).trans q)) m0 m1 m2
      refine zyCa0 hRu hIH hAt hB hbb (ix := 249) (ax := 3808) rfl rfl rfl hmebb ⟨rfl, rfl, rfl, rfl⟩ (by decide) [] rfl (by decide) rfl ⟨2, by decide⟩ [595] rfl rfl rfl rfl trivial ?_
      intro E3 vo hT3 hΨ
      obtain ⟨ev, q1, q2⟩ := (show zyΨbb [] _ E3 vo from hΨ)
      rw [hEE, hE0] at q1 q2
      refine ⟨ev, ⟨fun h => absurd (show 2 = 0 from h) (by decide), fun h => absurd (show 2 = 1 from h) (by decide), fun _ => ⟨0, m0, m1, m2, q2 m0 m1 m2, q1, m3, hw0, by omega⟩, fun h => absurd (show 2 = 3 from h) (by decide), fun h => absurd (show 2 = 4 from h) (by decide), fun h => absurd (show 2 = 5 from h) (by decide), fun h => absurd (show 2 = 6 from h) (by decide), fun h => absurd (show 2 = 7 from h) (by decide)⟩, ?_⟩
      show 18 < 19
      decide
    · have hx : x ∈ [zxge_cx0] := hx
      have hg : ∀ k, k < 1 → ρ2 k = ρ k := hag
      have hI := hInv
      have hI : (2 = 0 → (zyEl (zymr r c) B H) = (zyEl (zymr r c) B s.heap)) ∧ (2 = 1 → (zyEl (zymr r c) B H) = (zyEl (zymr r c) B s.heap) ∧ (ρ 1 = 0 ∨ ∀ m : Nat, m ≤ 8 → (zyEl (zymr r c) B s.heap) 75 2 = some (.int (Int32.ofNat m)) → zWl (zyEl (zymr r c) B s.heap) m)) ∧ (2 = 2 → ∃ n m : Nat, m ≤ 8 ∧ (zyEl (zymr r c) B s.heap) 75 2 = some (.int (Int32.ofNat m)) ∧ zBs (zyEl (zymr r c) B H) n m ∧ zyJb (zyEl (zymr r c) B s.heap) (zyEl (zymr r c) B H) ∧ zLv (zyEl (zymr r c) B s.heap) m ∧ zWl (zyEl (zymr r c) B s.heap) m ∧ n ≤ 0) ∧ (2 = 3 → ∃ n m : Nat, m ≤ 8 ∧ (zyEl (zymr r c) B s.heap) 75 2 = some (.int (Int32.ofNat m)) ∧ zBs (zyEl (zymr r c) B H) n m ∧ zyJb (zyEl (zymr r c) B s.heap) (zyEl (zymr r c) B H) ∧ zLv (zyEl (zymr r c) B s.heap) m ∧ zWl (zyEl (zymr r c) B s.heap) m ∧ n ≤ 300) ∧ (2 = 4 → ∃ n m : Nat, m ≤ 8 ∧ (zyEl (zymr r c) B s.heap) 75 2 = some (.int (Int32.ofNat m)) ∧ zBs (zyEl (zymr r c) B H) n m ∧ zyJb (zyEl (zymr r c) B s.heap) (zyEl (zymr r c) B H) ∧ zLv (zyEl (zymr r c) B s.heap) m ∧ zWl (zyEl (zymr r c) B s.heap) m ∧ n ≤ 360) ∧ (2 = 5 → ∃ n m : Nat, m ≤ 8 ∧ (zyEl (zymr r c) B s.heap) 75 2 = some (.int (Int32.ofNat m)) ∧ zBs (zyEl (zymr r c) B H) n m ∧ zyJb (zyEl (zymr r c) B s.heap) (zyEl (zymr r c) B H) ∧ zLv (zyEl (zymr r c) B s.heap) m ∧ zWl (zyEl (zymr r c) B s.heap) m ∧ n ≤ 661) ∧ (2 = 6 → zyJb (zyEl (zymr r c) B s.heap) (zyEl (zymr r c) B H)) ∧ (2 = 7 → zyJb (zyEl (zymr r c) B s.heap) (zyEl (zymr r c) B H)) := hI
      obtain ⟨hF, hB, hM⟩ := hXs
      have hEE : (zyEl (zymr r c) B H2) = (zyEl (zymr r c) B H) := zyfr0 hfr
      have ex := List.mem_singleton.mp hx
      subst ex
      have hI := hI.2.2.1 rfl
      obtain ⟨n, m, hm, hms, hbs, i1, hv, hw, hn⟩ := hI
      refine zyCa0 hRu hIH hAt hB hjw (ix := 252) (ax := 3840) rfl rfl rfl hmejw ⟨rfl, rfl, rfl, rfl⟩ (by decide) [0, 0] rfl (by decide) rfl ⟨3, by decide⟩ [595] rfl rfl rfl rfl ?_ ?_
      · show zyΦwd 300 zLv [Int32.ofNat 0, Int32.ofNat 0] _
        rw [hEE]
        exact ⟨n, m, hbs, by omega, zLv_jb i1 hv⟩
      · intro E3 vo hT3 hΨ
        have hΨ : zyΨwd 300 [Int32.ofNat 0, Int32.ofNat 0] _ E3 vo := hΨ
        rw [hEE] at hΨ
        obtain ⟨ev, q1, q2⟩ := hΨ
        obtain ⟨n', q3, q4⟩ := q2 n m hbs (by omega)
        refine ⟨ev, ⟨fun h => absurd (show 3 = 0 from h) (by decide), fun h => absurd (show 3 = 1 from h) (by decide), fun h => absurd (show 3 = 2 from h) (by decide), fun _ => ⟨n', m, hm, hms, q4, zyJb_jo i1 q1, hv, hw, by omega⟩, fun h => absurd (show 3 = 4 from h) (by decide), fun h => absurd (show 3 = 5 from h) (by decide), fun h => absurd (show 3 = 6 from h) (by decide), fun h => absurd (show 3 = 7 from h) (by decide)⟩, ?_⟩
        show 17 < 18
        decide
    · have hx : x ∈ [zxge_dx0] := hx
      have hg : ∀ k, k < 1 → ρ2 k = ρ k := hag
      have hI := hInv
      have hI : (3 = 0 → (zyEl (zymr r c) B H) = (zyEl (zymr r c) B s.heap)) ∧ (3 = 1 → (zyEl (zymr r c) B H) = (zyEl (zymr r c) B s.heap) ∧ (ρ 1 = 0 ∨ ∀ m : Nat, m ≤ 8 → (zyEl (zymr r c) B s.heap) 75 2 = some (.int (Int32.ofNat m)) → zWl (zyEl (zymr r c) B s.heap) m)) ∧ (3 = 2 → ∃ n m : Nat, m ≤ 8 ∧ (zyEl (zymr r c) B s.heap) 75 2 = some (.int (Int32.ofNat m)) ∧ zBs (zyEl (zymr r c) B H) n m ∧ zyJb (zyEl (zymr r c) B s.heap) (zyEl (zymr r c) B H) ∧ zLv (zyEl (zymr r c) B s.heap) m ∧ zWl (zyEl (zymr r c) B s.heap) m ∧ n ≤ 0) ∧ (3 = 3 → ∃ n m : Nat, m ≤ 8 ∧ (zyEl (zymr r c) B s.heap) 75 2 = some (.int (Int32.ofNat m)) ∧ zBs (zyEl (zymr r c) B H) n m ∧ zyJb (zyEl (zymr r c) B s.heap) (zyEl (zymr r c) B H) ∧ zLv (zyEl (zymr r c) B s.heap) m ∧ zWl (zyEl (zymr r c) B s.heap) m ∧ n ≤ 300) ∧ (3 = 4 → ∃ n m : Nat, m ≤ 8 ∧ (zyEl (zymr r c) B s.heap) 75 2 = some (.int (Int32.ofNat m)) ∧ zBs (zyEl (zymr r c) B H) n m ∧ zyJb (zyEl (zymr r c) B s.heap) (zyEl (zymr r c) B H) ∧ zLv (zyEl (zymr r c) B s.heap) m ∧ zWl (zyEl (zymr r c) B s.heap) m ∧ n ≤ 360) ∧ (3 = 5 → ∃ n m : Nat, m ≤ 8 ∧ (zyEl (zymr r c) B s.heap) 75 2 = some (.int (Int32.ofNat m)) ∧ zBs (zyEl (zymr r c) B H) n m ∧ zyJb (zyEl (zymr r c) B s.heap) (zyEl (zymr r c) B H) ∧ zLv (zyEl (zymr r c) B s.heap) m ∧ zWl (zyEl (zymr r c) B s.heap) m ∧ n ≤ 661) ∧ (3 = 6 → zyJb (zyEl (zymr r c) B s.heap) (zyEl (zymr r c) B H)) ∧ (3 = 7 → zyJb (zyEl (zymr r c) B s.heap) (zyEl (zymr r c) B H)) := hI
      obtain ⟨hF, hB, hM⟩ := hXs
      have hEE : (zyEl (zymr r c) B H2) = (zyEl (zymr r c) B H) := zyfr0 hfr
      have ex := List.mem_singleton.mp hx
      subst ex
      have hI := hI.2.2.2.1 rfl
      obtain ⟨n, m, hm, hms, hbs, i1, hv, hw, hn⟩ := hI
      refine zyCa0 hRu hIH hAt hB hjd (ix := 265) (ax := 3856) rfl rfl rfl hmejd ⟨rfl, rfl, rfl, rfl⟩ (by decide) [] rfl (by decide) rfl ⟨4, by decide⟩ [595] rfl rfl rfl rfl ?_ ?_
      · show zyΦwd 60 zWl [] _
        rw [hEE]
        exact ⟨n, m, hbs, by omega, zWl_jb i1 hw⟩
      · intro E3 vo hT3 hΨ
        have hΨ : zyΨwd 60 [] _ E3 vo := hΨ
        rw [hEE] at hΨ
        obtain ⟨ev, q1, q2⟩ := hΨ
        obtain ⟨n', q3, q4⟩ := q2 n m hbs (by omega)
        refine ⟨ev, ⟨fun h => absurd (show 4 = 0 from h) (by decide), fun h => absurd (show 4 = 1 from h) (by decide), fun h => absurd (show 4 = 2 from h) (by decide), fun h => absurd (show 4 = 3 from h) (by decide), fun _ => ⟨n', m, hm, hms, q4, zyJb_jo i1 q1, hv, hw, by omega⟩, fun h => absurd (show 4 = 5 from h) (by decide), fun h => absurd (show 4 = 6 from h) (by decide), fun h => absurd (show 4 = 7 from h) (by decide)⟩, ?_⟩
        show 16 < 17
        decide
    · have hx : x ∈ [zxge_ex0] := hx
      have hg : ∀ k, k < 1 → ρ2 k = ρ k := hag
      have hI := hInv
      have hI : (4 = 0 → (zyEl (zymr r c) B H) = (zyEl (zymr r c) B s.heap)) ∧ (4 = 1 → (zyEl (zymr r c) B H) = (zyEl (zymr r c) B s.heap) ∧ (ρ 1 = 0 ∨ ∀ m : Nat, m ≤ 8 → (zyEl (zymr r c) B s.heap) 75 2 = some (.int (Int32.ofNat m)) → zWl (zyEl (zymr r c) B s.heap) m)) ∧ (4 = 2 → ∃ n m : Nat, m ≤ 8 ∧ (zyEl (zymr r c) B s.heap) 75 2 = some (.int (Int32.ofNat m)) ∧ zBs (zyEl (zymr r c) B H) n m ∧ zyJb (zyEl (zymr r c) B s.heap) (zyEl (zymr r c) B H) ∧ zLv (zyEl (zymr r c) B s.heap) m ∧ zWl (zyEl (zymr r c) B s.heap) m ∧ n ≤ 0) ∧ (4 = 3 → ∃ n m : Nat, m ≤ 8 ∧ (zyEl (zymr r c) B s.heap) 75 2 = some (.int (Int32.ofNat m)) ∧ zBs (zyEl (zymr r c) B H) n m ∧ zyJb (zyEl (zymr r c) B s.heap) (zyEl (zymr r c) B H) ∧ zLv (zyEl (zymr r c) B s.heap) m ∧ zWl (zyEl (zymr r c) B s.heap) m ∧ n ≤ 300) ∧ (4 = 4 → ∃ n m : Nat, m ≤ 8 ∧ (zyEl (zymr r c) B s.heap) 75 2 = some (.int (Int32.ofNat m)) ∧ zBs (zyEl (zymr r c) B H) n m ∧ zyJb (zyEl (zymr r c) B s.heap) (zyEl (zymr r c) B H) ∧ zLv (zyEl (zymr r c) B s.heap) m ∧ zWl (zyEl (zymr r c) B s.heap) m ∧ n ≤ 360) ∧ (4 = 5 → ∃ n m : Nat, m ≤ 8 ∧ (zyEl (zymr r c) B s.heap) 75 2 = some (.int (Int32.ofNat m)) ∧ zBs (zyEl (zymr r c) B H) n m ∧ zyJb (zyEl (zymr r c) B s.heap) (zyEl (zymr r c) B H) ∧ zLv (zyEl (zymr r c) B s.heap) m ∧ zWl (zyEl (zymr r c) B s.heap) m ∧ n ≤ 661) ∧ (4 = 6 → zyJb (zyEl (zymr r c) B s.heap) (zyEl (zymr r c) B H)) ∧ (4 = 7 → zyJb (zyEl (zymr r c) B s.heap) (zyEl (zymr r c) B H)) := hI
      obtain ⟨hF, hB, hM⟩ := hXs
      have hEE : (zyEl (zymr r c) B H2) = (zyEl (zymr r c) B H) := zyfr0 hfr
      have ex := List.mem_singleton.mp hx
      subst ex
      have hI := hI.2.2.2.2.1 rfl
      obtain ⟨n, m, hm, hms, hbs, i1, hv, hw, hn⟩ := hI
      refine zyCa0 hRu hIH hAt hB huw (ix := 262) (ax := 3888) rfl rfl rfl hmeuw ⟨rfl, rfl, rfl, rfl⟩ (by decide) [] rfl (by decide) rfl ⟨5, by decide⟩ [595] rfl rfl rfl rfl ?_ ?_
      · show zyΦwd 300 zLv [] _
        rw [hEE]
        exact ⟨n, m, hbs, by omega, zLv_jb i1 hv⟩
      · intro E3 vo hT3 hΨ
        have hΨ : zyΨwd 301 [] _ E3 vo := hΨ
        rw [hEE] at hΨ
        obtain ⟨ev, q1, q2⟩ := hΨ
        obtain ⟨n', q3, q4⟩ := q2 n m hbs (by omega)
        refine ⟨ev, ⟨fun h => absurd (show 5 = 0 from h) (by decide), fun h => absurd (show 5 = 1 from h) (by decide), fun h => absurd (show 5 = 2 from h) (by decide), fun h => absurd (show 5 = 3 from h) (by decide), fun h => absurd (show 5 = 4 from h) (by decide), fun _ => ⟨n', m, hm, hms, q4, zyJb_jo i1 q1, hv, hw, by omega⟩, fun h => absurd (show 5 = 6 from h) (by decide), fun h => absurd (show 5 = 7 from h) (by decide)⟩, ?_⟩
        show 15 < 16
        decide
    · have hx : x ∈ [zxge_fx0] := hx
      have hg : ∀ k, k < 1 → ρ2 k = ρ k := hag
      have hI := hInv
      have hI : (5 = 0 → (zyEl (zymr r c) B H) = (zyEl (zymr r c) B s.heap)) ∧ (5 = 1 → (zyEl (zymr r c) B H) = (zyEl (zymr r c) B s.heap) ∧ (ρ 1 = 0 ∨ ∀ m : Nat, m ≤ 8 → (zyEl (zymr r c) B s.heap) 75 2 = some (.int (Int32.ofNat m)) → zWl (zyEl (zymr r c) B s.heap) m)) ∧ (5 = 2 → ∃ n m : Nat, m ≤ 8 ∧ (zyEl (zymr r c) B s.heap) 75 2 = some (.int (Int32.ofNat m)) ∧ zBs (zyEl (zymr r c) B H) n m ∧ zyJb (zyEl (zymr r c) B s.heap) (zyEl (zymr r c) B H) ∧ zLv (zyEl (zymr r c) B s.heap) m ∧ zWl (zyEl (zymr r c) B s.heap) m ∧ n ≤ 0) ∧ (5 = 3 → ∃ n m : Nat, m ≤ 8 ∧ (zyEl (zymr r c) B s.heap) 75 2 = some (.int (Int32.ofNat m)) ∧ zBs (zyEl (zymr r c) B H) n m ∧ zyJb (zyEl (zymr r c) B s.heap) (zyEl (zymr r c) B H) ∧ zLv (zyEl (zymr r c) B s.heap) m ∧ zWl (zyEl (zymr r c) B s.heap) m ∧ n ≤ 300) ∧ (5 = 4 → ∃ n m : Nat, m ≤ 8 ∧ (zyEl (zymr r c) B s.heap) 75 2 = some (.int (Int32.ofNat m)) ∧ zBs (zyEl (zymr r c) B H) n m ∧ zyJb (zyEl (zymr r c) B s.heap) (zyEl (zymr r c) B H) ∧ zLv (zyEl (zymr r c) B s.heap) m ∧ zWl (zyEl (zymr r c) B s.heap) m ∧ n ≤ 360) ∧ (5 = 5 → ∃ n m : Nat, m ≤ 8 ∧ (zyEl (zymr r c) B s.heap) 75 2 = some (.int (Int32.ofNat m)) ∧ zBs (zyEl (zymr r c) B H) n m ∧ zyJb (zyEl (zymr r c) B s.heap) (zyEl (zymr r c) B H) ∧ zLv (zyEl (zymr r c) B s.heap) m ∧ zWl (zyEl (zymr r c) B s.heap) m ∧ n ≤ 661) ∧ (5 = 6 → zyJb (zyEl (zymr r c) B s.heap) (zyEl (zymr r c) B H)) ∧ (5 = 7 → zyJb (zyEl (zymr r c) B s.heap) (zyEl (zymr r c) B H)) := hI
      obtain ⟨hF, hB, hM⟩ := hXs
      have hEE : (zyEl (zymr r c) B H2) = (zyEl (zymr r c) B H) := zyfr0 hfr
      have ex := List.mem_singleton.mp hx
      subst ex
      have hI := hI.2.2.2.2.2.1 rfl
      obtain ⟨n, m, hm, hms, hbs, i1, hv, hw, hn⟩ := hI
      refine zyCa0 hRu hIH hAt hB hud (ix := 256) (ax := 3872) rfl rfl rfl hmeud ⟨rfl, rfl, rfl, rfl⟩ (by decide) [] rfl (by decide) rfl ⟨6, by decide⟩ [595] rfl rfl rfl rfl ?_ ?_
      · show zyΦwd 60 zWl [] _
        rw [hEE]
        exact ⟨n, m, hbs, by omega, zWl_jb i1 hw⟩
      · intro E3 vo hT3 hΨ
        have hΨ : zyΨwd 61 [] _ E3 vo := hΨ
        rw [hEE] at hΨ
        obtain ⟨ev, q1, q2⟩ := hΨ
        obtain ⟨n', q3, q4⟩ := q2 n m hbs (by omega)
        refine ⟨ev, ⟨fun h => absurd (show 6 = 0 from h) (by decide), fun h => absurd (show 6 = 1 from h) (by decide), fun h => absurd (show 6 = 2 from h) (by decide), fun h => absurd (show 6 = 3 from h) (by decide), fun h => absurd (show 6 = 4 from h) (by decide), fun h => absurd (show 6 = 5 from h) (by decide), fun _ => zyJb_jo i1 q1, fun h => absurd (show 6 = 7 from h) (by decide)⟩, ?_⟩
        show 14 < 15
        decide
    · have hx : x ∈ [zxge_gx0] := hx
      have hg : ∀ k, k < 1 → ρ2 k = ρ k := hag
      have hI := hInv
      have hI : (6 = 0 → (zyEl (zymr r c) B H) = (zyEl (zymr r c) B s.heap)) ∧ (6 = 1 → (zyEl (zymr r c) B H) = (zyEl (zymr r c) B s.heap) ∧ (ρ 1 = 0 ∨ ∀ m : Nat, m ≤ 8 → (zyEl (zymr r c) B s.heap) 75 2 = some (.int (Int32.ofNat m)) → zWl (zyEl (zymr r c) B s.heap) m)) ∧ (6 = 2 → ∃ n m : Nat, m ≤ 8 ∧ (zyEl (zymr r c) B s.heap) 75 2 = some (.int (Int32.ofNat m)) ∧ zBs (zyEl (zymr r c) B H) n m ∧ zyJb (zyEl (zymr r c) B s.heap) (zyEl (zymr r c) B H) ∧ zLv (zyEl (zymr r c) B s.heap) m ∧ zWl (zyEl (zymr r c) B s.heap) m ∧ n ≤ 0) ∧ (6 = 3 → ∃ n m : Nat, m ≤ 8 ∧ (zyEl (zymr r c) B s.heap) 75 2 = some (.int (Int32.ofNat m)) ∧ zBs (zyEl (zymr r c) B H) n m ∧ zyJb (zyEl (zymr r c) B s.heap) (zyEl (zymr r c) B H) ∧ zLv (zyEl (zymr r c) B s.heap) m ∧ zWl (zyEl (zymr r c) B s.heap) m ∧ n ≤ 300) ∧ (6 = 4 → ∃ n m : Nat, m ≤ 8 ∧ (zyEl (zymr r c) B s.heap) 75 2 = some (.int (Int32.ofNat m)) ∧ zBs (zyEl (zymr r c) B H) n m ∧ zyJb (zyEl (zymr r c) B s.heap) (zyEl (zymr r c) B H) ∧ zLv (zyEl (zymr r c) B s.heap) m ∧ zWl (zyEl (zymr r c) B s.heap) m ∧ n ≤ 360) ∧ (6 = 5 → ∃ n m : Nat, m ≤ 8 ∧ (zyEl (zymr r c) B s.heap) 75 2 = some (.int (Int32.ofNat m)) ∧ zBs (zyEl (zymr r c) B H) n m ∧ zyJb (zyEl (zymr r c) B s.heap) (zyEl (zymr r c) B H) ∧ zLv (zyEl (zymr r c) B s.heap) m ∧ zWl (zyEl (zymr r c) B s.heap) m ∧ n ≤ 661) ∧ (6 = 6 → zyJb (zyEl (zymr r c) B s.heap) (zyEl (zymr r c) B H)) ∧ (6 = 7 → zyJb (zyEl (zymr r c) B s.heap) (zyEl (zymr r c) B H)) := hI
      obtain ⟨hF, hB, hM⟩ := hXs
      have hEE : (zyEl (zymr r c) B H2) = (zyEl (zymr r c) B H) := zyfr0 hfr
      have ex := List.mem_singleton.mp hx
      subst ex
      have hI := hI.2.2.2.2.2.2.1 rfl
      have i1 := hI
      refine zyCa1 hRu hIH hAt hB hnb (ix := 259) (ax := 3824) rfl rfl rfl hmenb ⟨rfl, rfl, rfl, rfl⟩ (by decide) [] rfl (by decide) rfl ⟨7, by decide⟩ [595] [(0, 4294967295)] 2147483648 2147483649 rfl (by decide) rfl rfl rfl rfl rfl trivial ?_
      intro E3 vo hT3 hΨ
      obtain ⟨e3, z, ez, hz⟩ := (show zyΨie [] _ E3 vo from hΨ)
      rw [hEE] at e3
      subst e3
      refine ⟨z, ez, ?_, ?_, ⟨fun h => absurd (show 7 = 0 from h) (by decide), fun h => absurd (show 7 = 1 from h) (by decide), fun h => absurd (show 7 = 2 from h) (by decide), fun h => absurd (show 7 = 3 from h) (by decide), fun h => absurd (show 7 = 4 from h) (by decide), fun h => absurd (show 7 = 5 from h) (by decide), fun h => absurd (show 7 = 6 from h) (by decide), fun _ => i1⟩, ?_⟩
      · rcases hz with rfl | rfl <;> decide
      · rcases hz with rfl | rfl <;> decide
      · show 13 < 14
        decide
    · cases hx
  · intro as E0 E E2 hT0 hΦ hlen i ρ hT hInv x hx ρ2 N2 B vo hXs hag hfr hT2 hvo
    rcases i with ⟨i, hi⟩
    have hi2 : i = 0 ∨ i = 1 ∨ i = 2 ∨ i = 3 ∨ i = 4 ∨ i = 5 ∨ i = 6 ∨ i = 7 := by omega
    rcases hi2 with rfl | rfl | rfl | rfl | rfl | rfl | rfl | rfl
    · cases hx
    · have hx : x ∈ [zxge_br0] := hx
      have hg : ∀ k, k < 2 → ρ2 k = ρ k := hag
      have hI := hInv
      have hI : (1 = 0 → E = E0) ∧ (1 = 1 → E = E0 ∧ (ρ 1 = 0 ∨ ∀ m : Nat, m ≤ 8 → E0 75 2 = some (.int (Int32.ofNat m)) → zWl E0 m)) ∧ (1 = 2 → ∃ n m : Nat, m ≤ 8 ∧ E0 75 2 = some (.int (Int32.ofNat m)) ∧ zBs E n m ∧ zyJb E0 E ∧ zLv E0 m ∧ zWl E0 m ∧ n ≤ 0) ∧ (1 = 3 → ∃ n m : Nat, m ≤ 8 ∧ E0 75 2 = some (.int (Int32.ofNat m)) ∧ zBs E n m ∧ zyJb E0 E ∧ zLv E0 m ∧ zWl E0 m ∧ n ≤ 300) ∧ (1 = 4 → ∃ n m : Nat, m ≤ 8 ∧ E0 75 2 = some (.int (Int32.ofNat m)) ∧ zBs E n m ∧ zyJb E0 E ∧ zLv E0 m ∧ zWl E0 m ∧ n ≤ 360) ∧ (1 = 5 → ∃ n m : Nat, m ≤ 8 ∧ E0 75 2 = some (.int (Int32.ofNat m)) ∧ zBs E n m ∧ zyJb E0 E ∧ zLv E0 m ∧ zWl E0 m ∧ n ≤ 661) ∧ (1 = 6 → zyJb E0 E) ∧ (1 = 7 → zyJb E0 E) := hI
      obtain ⟨hF, hB, hM⟩ := hXs
      have hEE : E2 = E := zyfr0 hfr
      have ex := List.mem_singleton.mp hx
      subst ex
      have hI := hI.2.1 rfl
      rw [hEE, hI.1]
      exact ⟨fun _ _ _ _ _ => rfl, 0, zyvo_1 (c := 0) (by decide) (show zyvo (zyXn B ρ2 N2) [0] vo from hvo), Or.inl rfl⟩
    · cases hx
    · cases hx
    · cases hx
    · cases hx
    · cases hx
    · have hx : x ∈ [zxge_hr0] := hx
      have hg : ∀ k, k < 2 → ρ2 k = ρ k := hag
      have hI := hInv
      have hI : (7 = 0 → E = E0) ∧ (7 = 1 → E = E0 ∧ (ρ 1 = 0 ∨ ∀ m : Nat, m ≤ 8 → E0 75 2 = some (.int (Int32.ofNat m)) → zWl E0 m)) ∧ (7 = 2 → ∃ n m : Nat, m ≤ 8 ∧ E0 75 2 = some (.int (Int32.ofNat m)) ∧ zBs E n m ∧ zyJb E0 E ∧ zLv E0 m ∧ zWl E0 m ∧ n ≤ 0) ∧ (7 = 3 → ∃ n m : Nat, m ≤ 8 ∧ E0 75 2 = some (.int (Int32.ofNat m)) ∧ zBs E n m ∧ zyJb E0 E ∧ zLv E0 m ∧ zWl E0 m ∧ n ≤ 300) ∧ (7 = 4 → ∃ n m : Nat, m ≤ 8 ∧ E0 75 2 = some (.int (Int32.ofNat m)) ∧ zBs E n m ∧ zyJb E0 E ∧ zLv E0 m ∧ zWl E0 m ∧ n ≤ 360) ∧ (7 = 5 → ∃ n m : Nat, m ≤ 8 ∧ E0 75 2 = some (.int (Int32.ofNat m)) ∧ zBs E n m ∧ zyJb E0 E ∧ zLv E0 m ∧ zWl E0 m ∧ n ≤ 661) ∧ (7 = 6 → zyJb E0 E) ∧ (7 = 7 → zyJb E0 E) := hI
      obtain ⟨hF, hB, hM⟩ := hXs
      have hEE : E2 = E := zyfr0 hfr
      have ex := List.mem_singleton.mp hx
      subst ex
      have hI := hI.2.2.2.2.2.2.2 rfl
      have hb : 2147483648 ≤ zB (ρ2 1) ∧ zB (ρ2 1) ≤ 2147483649 := zyXb hB 0 rfl
      rw [hEE]
      exact ⟨hI, ρ2 1, zyvo_1 (c := 34359738369) (by decide) (show zyvo (zyXn B ρ2 N2) [34359738369] vo from hvo), zybool hb.1 hb.2⟩
theorem zyso_run : zyAllP (fun r c => zyrS (zymr r c) zxi246 (246, 0, 0, 2, 0) 8 zpso (fun _ _ => []) zFso zSso zXso zRso 5) = true := by decide +kernel
theorem zyisItselfSo {l : Launch} {r c : Nat} (h1 : 1 ≤ r) (h2 : r ≤ 4) (h3 : 1 ≤ c) (h4 : c ≤ 5) {en : zEn} {me : zMe} (hen : zG zxMeta 246 = some en) (hme : zG zMeth 246 = some me) : zyHc l (zymr r c) en me 8 2 zyΦbr zyΨbr := by
  have een : zG zxMeta 246 = some (zxi246, 3, 3, 11, 246, 0, 0, 2, 0) := rfl
  obtain ⟨me1, hme1, hOK⟩ := zall hen
  rw [hme] at hme1
  cases hme1
  rw [een] at hen
  cases hen
  have hr := zyAllP_iff zyso_run h1 h2 h3 h4
  obtain ⟨mebb, hmebb, -⟩ := zall (show zG zxMeta 238 = some (zxi238, 1, 1, 11, 238, 0, 0, 0, 0) from rfl)
  have hbb := zybeginsBraid (l := l) h1 h2 h3 h4 (show zG zxMeta 238 = some (zxi238, 1, 1, 11, 238, 0, 0, 0, 0) from rfl) hmebb
  obtain ⟨menb, hmenb, -⟩ := zall (show zG zxMeta 239 = some (zxi239, 1, 1, 11, 239, 0, 0, 2, 0) from rfl)
  have hnb := zyisNoBraid (l := l) h1 h2 h3 h4 (show zG zxMeta 239 = some (zxi239, 1, 1, 11, 239, 0, 0, 2, 0) from rfl) hmenb
  obtain ⟨mejw, hmejw, -⟩ := zall (show zG zxMeta 240 = some (zxi240, 3, 5, 11, 240, 0, 0, 0, 0) from rfl)
  have hjw := zyjoinsWord (l := l) h1 h2 h3 h4 (show zG zxMeta 240 = some (zxi240, 3, 5, 11, 240, 0, 0, 0, 0) from rfl) hmejw
  obtain ⟨mejd, hmejd, -⟩ := zall (show zG zxMeta 241 = some (zxi241, 1, 2, 11, 241, 0, 0, 0, 0) from rfl)
  have hjd := zyjoinsWished (l := l) h1 h2 h3 h4 (show zG zxMeta 241 = some (zxi241, 1, 2, 11, 241, 0, 0, 0, 0) from rfl) hmejd
  obtain ⟨meud, hmeud, -⟩ := zall (show zG zxMeta 242 = some (zxi242, 1, 2, 11, 242, 0, 0, 0, 0) from rfl)
  have hud := zyunjoinsWished (l := l) h1 h2 h3 h4 (show zG zxMeta 242 = some (zxi242, 1, 2, 11, 242, 0, 0, 0, 0) from rfl) hmeud
  obtain ⟨meuw, hmeuw, -⟩ := zall (show zG zxMeta 243 = some (zxi243, 1, 2, 11, 243, 0, 0, 0, 0) from rfl)
  have huw := zyunjoinsWord (l := l) h1 h2 h3 h4 (show zG zxMeta 243 = some (zxi243, 1, 2, 11, 243, 0, 0, 0, 0) from rfl) hmeuw
  obtain ⟨mecw, hmecw, -⟩ := zall (show zG zxMeta 244 = some (zxi244, 1, 3, 11, 244, 0, 0, 2, 0) from rfl)
  have hcw := zycanBeWished (l := l) h1 h2 h3 h4 (show zG zxMeta 244 = some (zxi244, 1, 3, 11, 244, 0, 0, 2, 0) from rfl) hmecw
  obtain ⟨mejo, hmejo, -⟩ := zall (show zG zxMeta 237 = some (zxi237, 2, 5, 11, 237, 0, 0, 0, 0) from rfl)
  have hjo := zyjoins (l := l) h1 h2 h3 h4 (show zG zxMeta 237 = some (zxi237, 2, 5, 11, 237, 0, 0, 0, 0) from rfl) hmejo
  refine zycutS (mi := zymr r c) hOK rfl rfl ⟨_, rfl, rfl⟩ (ι := Fin 5) (fun i => zpso i.val) (fun _ _ => []) (fun i => zFso i.val) (fun i => zSso i.val) (fun i => zXso i.val) (fun i => zRso i.val) (fun i y2 ct en2 me2 h => by cases h) 200000 (fun i => zyAll_iff hr i.val i.isLt) ⟨0, by decide⟩ ⟨rfl, rfl, rfl, rfl⟩ ⟨by decide, by decide⟩
    (fun i as E0 ρ E => (i.val = 0 → E = E0) ∧ (i.val = 1 → ∃ n m : Nat, m ≤ 8 ∧ E0 75 2 = some (.int (Int32.ofNat m)) ∧ zBs E n m ∧ zyJb E0 E ∧ zLv E0 m ∧ n ≤ 0) ∧ (i.val = 2 → ∃ n m : Nat, m ≤ 8 ∧ E0 75 2 = some (.int (Int32.ofNat m)) ∧ zBs E n m ∧ zyJb E0 E ∧ zLv E0 m ∧ n ≤ 300) ∧ (i.val = 3 → zyJb E0 E) ∧ (i.val = 4 → zyJb E0 E)) (fun i as E0 ρ E => 20 - i.val) ?_ ?_ ?_
  · intro as E hlen hT hΦ
    exact ⟨zEnv_c (zyfull _) (zEnv_c (zyfull _) (zEnv_c (zyfull _) zEnv_nil)), ⟨fun _ => rfl, fun h => absurd (show 0 = 1 from h) (by decide), fun h => absurd (show 0 = 2 from h) (by decide), fun h => absurd (show 0 = 3 from h) (by decide), fun h => absurd (show 0 = 4 from h) (by decide)⟩⟩
  · intro as B s Wg hRu hT0 hΦ hlen i ρ H hT hInv hIH x hx ρ2 N2 H2 locs lsB stA hAt hXs hag hfr hT2
    rcases i with ⟨i, hi⟩
    have hi2 : i = 0 ∨ i = 1 ∨ i = 2 ∨ i = 3 ∨ i = 4 := by omega
    rcases hi2 with rfl | rfl | rfl | rfl | rfl
    · have hx : x ∈ [zxso_ax0] := hx
      have hg : ∀ k, k < 3 → ρ2 k = ρ k := hag
      have hI := hInv
      have hI : (0 = 0 → (zyEl (zymr r c) B H) = (zyEl (zymr r c) B s.heap)) ∧ (0 = 1 → ∃ n m : Nat, m ≤ 8 ∧ (zyEl (zymr r c) B s.heap) 75 2 = some (.int (Int32.ofNat m)) ∧ zBs (zyEl (zymr r c) B H) n m ∧ zyJb (zyEl (zymr r c) B s.heap) (zyEl (zymr r c) B H) ∧ zLv (zyEl (zymr r c) B s.heap) m ∧ n ≤ 0) ∧ (0 = 2 → ∃ n m : Nat, m ≤ 8 ∧ (zyEl (zymr r c) B s.heap) 75 2 = some (.int (Int32.ofNat m)) ∧ zBs (zyEl (zymr r c) B H) n m ∧ zyJb (zyEl (zymr r c) B s.heap) (zyEl (zymr r c) B H) ∧ zLv (zyEl (zymr r c) B s.heap) m ∧ n ≤ 300) ∧ (0 = 3 → zyJb (zyEl (zymr r c) B s.heap) (zyEl (zymr r c) B H)) ∧ (0 = 4 → zyJb (zyEl (zymr r c) B s.heap) (zyEl (zymr r c) B H)) := hI
      obtain ⟨hF, hB, hM⟩ := hXs
      have hEE : (zyEl (zymr r c) B H2) = (zyEl (zymr r c) B H) := zyfr0 hfr
      have ex := List.mem_singleton.mp hx
      subst ex
      have hI := hI.1 rfl
      have hE0 := hI
      obtain ⟨m0, m1, m2, m3, m4⟩ := hΦ
      refine zyCa0 hRu hIH hAt hB hbb (ix := 249) (ax := 3808) rfl rfl rfl hmebb ⟨rfl, rfl, rfl, rfl⟩ (by decide) [] rfl (by decide) rfl ⟨1, by decide⟩ [595, 34359738369, 68719476737] rfl rfl rfl rfl trivial ?_
      intro E3 vo hT3 hΨ
      obtain ⟨ev, q1, q2⟩ := (show zyΨbb [] _ E3 vo from hΨ)
      rw [hEE, hE0] at q1 q2
      refine ⟨ev, ⟨fun h => absurd (show 1 = 0 from h) (by decide), fun _ => ⟨0, m0, m1, m2, q2 m0 m1 m2, q1, m3, by omega⟩, fun h => absurd (show 1 = 2 from h) (by decide), fun h => absurd (show 1 = 3 from h) (by decide), fun h => absurd (show 1 = 4 from h) (by decide)⟩, ?_⟩
      show 19 < 20
      decide
    · have hx : x ∈ [zxso_bx0] := hx
      have hg : ∀ k, k < 3 → ρ2 k = ρ k := hag
      have hI := hInv
      have hI : (1 = 0 → (zyEl (zymr r c) B H) = (zyEl (zymr r c) B s.heap)) ∧ (1 = 1 → ∃ n m : Nat, m ≤ 8 ∧ (zyEl (zymr r c) B s.heap) 75 2 = some (.int (Int32.ofNat m)) ∧ zBs (zyEl (zymr r c) B H) n m ∧ zyJb (zyEl (zymr r c) B s.heap) (zyEl (zymr r c) B H) ∧ zLv (zyEl (zymr r c) B s.heap) m ∧ n ≤ 0) ∧ (1 = 2 → ∃ n m : Nat, m ≤ 8 ∧ (zyEl (zymr r c) B s.heap) 75 2 = some (.int (Int32.ofNat m)) ∧ zBs (zyEl (zymr r c) B H) n m ∧ zyJb (zyEl (zymr r c) B s.heap) (zyEl (zymr r c) B H) ∧ zLv (zyEl (zymr r c) B s.heap) m ∧ n ≤ 300) ∧ (1 = 3 → zyJb (zyEl (zymr r c) B s.heap) (zyEl (zymr r c) B H)) ∧ (1 = 4 → zyJb (zyEl (zymr r c) B s.heap) (zyEl (zymr r c) B H)) := hI
      obtain ⟨hF, hB, hM⟩ := hXs
      have hEE : (zyEl (zymr r c) B H2) = (zyEl (zymr r c) B H) := zyfr0 hfr
      have ex := List.mem_singleton.mp hx
      subst ex
      have hI := hI.2.1 rfl
      obtain ⟨n, m, hm, hms, hbs, i1, hv, hn⟩ := hI
      refine zyCa0 hRu hIH hAt hB hjw (ix := 252) (ax := 3840) rfl rfl rfl hmejw ⟨rfl, rfl, rfl, rfl⟩ (by decide) [34359738369, 68719476737] rfl (by decide) rfl ⟨2, by decide⟩ [595, 0, 0] rfl rfl rfl rfl ?_ ?_
      · show zyΦwd 300 zLv [ρ2 1, ρ2 2] _
        rw [hEE]
        exact ⟨n, m, hbs, by omega, zLv_jb i1 hv⟩
      · intro E3 vo hT3 hΨ
        have hΨ : zyΨwd 300 [ρ2 1, ρ2 2] _ E3 vo := hΨ
        rw [hEE] at hΨ
        obtain ⟨ev, q1, q2⟩ := hΨ
        obtain ⟨n', q3, q4⟩ := q2 n m hbs (by omega)
        refine ⟨ev, ⟨fun h => absurd (show 2 = 0 from h) (by decide), fun h => absurd (show 2 = 1 from h) (by decide), fun _ => ⟨n', m, hm, hms, q4, zyJb_jo i1 q1, hv, by omega⟩, fun h => absurd (show 2 = 3 from h) (by decide), fun h => absurd (show 2 = 4 from h) (by decide)⟩, ?_⟩
        show 18 < 19
        decide
    · have hx : x ∈ [zxso_cx0] := hx
      have hg : ∀ k, k < 3 → ρ2 k = ρ k := hag
      have hI := hInv
      have hI : (2 = 0 → (zyEl (zymr r c) B H) = (zyEl (zymr r c) B s.heap)) ∧ (2 = 1 → ∃ n m : Nat, m ≤ 8 ∧ (zyEl (zymr r c) B s.heap) 75 2 = some (.int (Int32.ofNat m)) ∧ zBs (zyEl (zymr r c) B H) n m ∧ zyJb (zyEl (zymr r c) B s.heap) (zyEl (zymr r c) B H) ∧ zLv (zyEl (zymr r c) B s.heap) m ∧ n ≤ 0) ∧ (2 = 2 → ∃ n m : Nat, m ≤ 8 ∧ (zyEl (zymr r c) B s.heap) 75 2 = some (.int (Int32.ofNat m)) ∧ zBs (zyEl (zymr r c) B H) n m ∧ zyJb (zyEl (zymr r c) B s.heap) (zyEl (zymr r c) B H) ∧ zLv (zyEl (zymr r c) B s.heap) m ∧ n ≤ 300) ∧ (2 = 3 → zyJb (zyEl (zymr r c) B s.heap) (zyEl (zymr r c) B H)) ∧ (2 = 4 → zyJb (zyEl (zymr r c) B s.heap) (zyEl (zymr r c) B H)) := hI
      obtain ⟨hF, hB, hM⟩ := hXs
      have hEE : (zyEl (zymr r c) B H2) = (zyEl (zymr r c) B H) := zyfr0 hfr
      have ex := List.mem_singleton.mp hx
      subst ex
      have hI := hI.2.2.1 rfl
      obtain ⟨n, m, hm, hms, hbs, i1, hv, hn⟩ := hI
      refine zyCa0 hRu hIH hAt hB huw (ix := 262) (ax := 3888) rfl rfl rfl hmeuw ⟨rfl, rfl, rfl, rfl⟩ (by decide) [] rfl (by decide) rfl ⟨3, by decide⟩ [595, 0, 0] rfl rfl rfl rfl ?_ ?_
      · show zyΦwd 300 zLv [] _
        rw [hEE]
        exact ⟨n, m, hbs, by omega, zLv_jb i1 hv⟩
      · intro E3 vo hT3 hΨ
        have hΨ : zyΨwd 301 [] _ E3 vo := hΨ
        rw [hEE] at hΨ
        obtain ⟨ev, q1, q2⟩ := hΨ
        obtain ⟨n', q3, q4⟩ := q2 n m hbs (by omega)
        refine ⟨ev, ⟨fun h => absurd (show 3 = 0 from h) (by decide), fun h => absurd (show 3 = 1 from h) (by decide), fun h => absurd (show 3 = 2 from h) (by decide), fun _ => zyJb_jo i1 q1, fun h => absurd (show 3 = 4 from h) (by decide)⟩, ?_⟩
        show 17 < 18
        decide
    · have hx : x ∈ [zxso_dx0] := hx
      have hg : ∀ k, k < 3 → ρ2 k = ρ k := hag
      have hI := hInv
      have hI : (3 = 0 → (zyEl (zymr r c) B H) = (zyEl (zymr r c) B s.heap)) ∧ (3 = 1 → ∃ n m : Nat, m ≤ 8 ∧ (zyEl (zymr r c) B s.heap) 75 2 = some (.int (Int32.ofNat m)) ∧ zBs (zyEl (zymr r c) B H) n m ∧ zyJb (zyEl (zymr r c) B s.heap) (zyEl (zymr r c) B H) ∧ zLv (zyEl (zymr r c) B s.heap) m ∧ n ≤ 0) ∧ (3 = 2 → ∃ n m : Nat, m ≤ 8 ∧ (zyEl (zymr r c) B s.heap) 75 2 = some (.int (Int32.ofNat m)) ∧ zBs (zyEl (zymr r c) B H) n m ∧ zyJb (zyEl (zymr r c) B s.heap) (zyEl (zymr r c) B H) ∧ zLv (zyEl (zymr r c) B s.heap) m ∧ n ≤ 300) ∧ (3 = 3 → zyJb (zyEl (zymr r c) B s.heap) (zyEl (zymr r c) B H)) ∧ (3 = 4 → zyJb (zyEl (zymr r c) B s.heap) (zyEl (zymr r c) B H)) := hI
      obtain ⟨hF, hB, hM⟩ := hXs
      have hEE : (zyEl (zymr r c) B H2) = (zyEl (zymr r c) B H) := zyfr0 hfr
      have ex := List.mem_singleton.mp hx
      subst ex
      have hI := hI.2.2.2.1 rfl
      have i1 := hI
      refine zyCa1 hRu hIH hAt hB hnb (ix := 259) (ax := 3824) rfl rfl rfl hmenb ⟨rfl, rfl, rfl, rfl⟩ (by decide) [] rfl (by decide) rfl ⟨4, by decide⟩ [595, 0, 0] [(0, 4294967295), (0, 4294967295), (0, 4294967295)] 2147483648 2147483649 rfl (by decide) rfl rfl rfl rfl rfl trivial ?_
      intro E3 vo hT3 hΨ
      obtain ⟨e3, z, ez, hz⟩ := (show zyΨie [] _ E3 vo from hΨ)
      rw [hEE] at e3
      subst e3
      refine ⟨z, ez, ?_, ?_, ⟨fun h => absurd (show 4 = 0 from h) (by decide), fun h => absurd (show 4 = 1 from h) (by decide), fun h => absurd (show 4 = 2 from h) (by decide), fun h => absurd (show 4 = 3 from h) (by decide), fun _ => i1⟩, ?_⟩
      · rcases hz with rfl | rfl <;> decide
      · rcases hz with rfl | rfl <;> decide
      · show 16 < 17
        decide
    · cases hx
  · intro as E0 E E2 hT0 hΦ hlen i ρ hT hInv x hx ρ2 N2 B vo hXs hag hfr hT2 hvo
    rcases i with ⟨i, hi⟩
    have hi2 : i = 0 ∨ i = 1 ∨ i = 2 ∨ i = 3 ∨ i = 4 := by omega
    rcases hi2 with rfl | rfl | rfl | rfl | rfl
    · cases hx
    · cases hx
    · cases hx
    · cases hx
    · have hx : x ∈ [zxso_er0] := hx
      have hg : ∀ k, k < 4 → ρ2 k = ρ k := hag
      have hI := hInv
      have hI : (4 = 0 → E = E0) ∧ (4 = 1 → ∃ n m : Nat, m ≤ 8 ∧ E0 75 2 = some (.int (Int32.ofNat m)) ∧ zBs E n m ∧ zyJb E0 E ∧ zLv E0 m ∧ n ≤ 0) ∧ (4 = 2 → ∃ n m : Nat, m ≤ 8 ∧ E0 75 2 = some (.int (Int32.ofNat m)) ∧ zBs E n m ∧ zyJb E0 E ∧ zLv E0 m ∧ n ≤ 300) ∧ (4 = 3 → zyJb E0 E) ∧ (4 = 4 → zyJb E0 E) := hI
      obtain ⟨hF, hB, hM⟩ := hXs
      have hEE : E2 = E := zyfr0 hfr
      have ex := List.mem_singleton.mp hx
      subst ex
      have hI := hI.2.2.2.2 rfl
      have hb : 2147483648 ≤ zB (ρ2 3) ∧ zB (ρ2 3) ≤ 2147483649 := zyXb hB 0 rfl
      rw [hEE]
      exact ⟨hI, ρ2 3, zyvo_1 (c := 103079215105) (by decide) (show zyvo (zyXn B ρ2 N2) [103079215105] vo from hvo), zybool hb.1 hb.2⟩
def zyΦwa (as : List Int32) (E : zyEm) : Prop := zyΦbr as E ∧ ∃ x : Int32, as = [x] ∧ zB x ≤ 2147483652
theorem zywa_run : zyAllP (fun r c => zyrS (zymr r c) zxi245 (245, 0, 0, 2, 0) 8 zpwa (fun _ _ => []) zFwa zSwa zXwa zRwa 7) = true := by decide +kernel
theorem zyisWishedAgain {l : Launch} {r c : Nat} (h1 : 1 ≤ r) (h2 : r ≤ 4) (h3 : 1 ≤ c) (h4 : c ≤ 5) {en : zEn} {me : zMe} (hen : zG zxMeta 245 = some en) (hme : zG zMeth 245 = some me) : zyHc l (zymr r c) en me 8 1 zyΦwa zyΨbr := by
  have een : zG zxMeta 245 = some (zxi245, 2, 3, 11, 245, 0, 0, 2, 0) := rfl
  obtain ⟨me1, hme1, hOK⟩ := zall hen
  rw [hme] at hme1
  cases hme1
  rw [een] at hen
  cases hen
  have hr := zyAllP_iff zywa_run h1 h2 h3 h4
  obtain ⟨mebb, hmebb, -⟩ := zall (show zG zxMeta 238 = some (zxi238, 1, 1, 11, 238, 0, 0, 0, 0) from rfl)
  have hbb := zybeginsBraid (l := l) h1 h2 h3 h4 (show zG zxMeta 238 = some (zxi238, 1, 1, 11, 238, 0, 0, 0, 0) from rfl) hmebb
  obtain ⟨menb, hmenb, -⟩ := zall (show zG zxMeta 239 = some (zxi239, 1, 1, 11, 239, 0, 0, 2, 0) from rfl)
  have hnb := zyisNoBraid (l := l) h1 h2 h3 h4 (show zG zxMeta 239 = some (zxi239, 1, 1, 11, 239, 0, 0, 2, 0) from rfl) hmenb
  obtain ⟨mejw, hmejw, -⟩ := zall (show zG zxMeta 240 = some (zxi240, 3, 5, 11, 240, 0, 0, 0, 0) from rfl)
  have hjw := zyjoinsWord (l := l) h1 h2 h3 h4 (show zG zxMeta 240 = some (zxi240, 3, 5, 11, 240, 0, 0, 0, 0) from rfl) hmejw
  obtain ⟨mejd, hmejd, -⟩ := zall (show zG zxMeta 241 = some (zxi241, 1, 2, 11, 241, 0, 0, 0, 0) from rfl)
  have hjd := zyjoinsWished (l := l) h1 h2 h3 h4 (show zG zxMeta 241 = some (zxi241, 1, 2, 11, 241, 0, 0, 0, 0) from rfl) hmejd
  obtain ⟨meud, hmeud, -⟩ := zall (show zG zxMeta 242 = some (zxi242, 1, 2, 11, 242, 0, 0, 0, 0) from rfl)
  have hud := zyunjoinsWished (l := l) h1 h2 h3 h4 (show zG zxMeta 242 = some (zxi242, 1, 2, 11, 242, 0, 0, 0, 0) from rfl) hmeud
  obtain ⟨meuw, hmeuw, -⟩ := zall (show zG zxMeta 243 = some (zxi243, 1, 2, 11, 243, 0, 0, 0, 0) from rfl)
  have huw := zyunjoinsWord (l := l) h1 h2 h3 h4 (show zG zxMeta 243 = some (zxi243, 1, 2, 11, 243, 0, 0, 0, 0) from rfl) hmeuw
  obtain ⟨mecw, hmecw, -⟩ := zall (show zG zxMeta 244 = some (zxi244, 1, 3, 11, 244, 0, 0, 2, 0) from rfl)
  have hcw := zycanBeWished (l := l) h1 h2 h3 h4 (show zG zxMeta 244 = some (zxi244, 1, 3, 11, 244, 0, 0, 2, 0) from rfl) hmecw
  obtain ⟨mejo, hmejo, -⟩ := zall (show zG zxMeta 237 = some (zxi237, 2, 5, 11, 237, 0, 0, 0, 0) from rfl)
  have hjo := zyjoins (l := l) h1 h2 h3 h4 (show zG zxMeta 237 = some (zxi237, 2, 5, 11, 237, 0, 0, 0, 0) from rfl) hmejo
  refine zycutS (mi := zymr r c) hOK rfl rfl ⟨_, rfl, rfl⟩ (ι := Fin 7) (fun i => zpwa i.val) (fun _ _ => []) (fun i => zFwa i.val) (fun i => zSwa i.val) (fun i => zXwa i.val) (fun i => zRwa i.val) (fun i y2 ct en2 me2 h => by cases h) 200000 (fun i => zyAll_iff hr i.val i.isLt) ⟨0, by decide⟩ ⟨rfl, rfl, rfl, rfl⟩ ⟨by decide, by decide⟩
    (fun i as E0 ρ E => (i.val = 0 → E = E0) ∧ (i.val = 1 → E = E0 ∧ (ρ 3 = 0 ∨ ∀ m : Nat, m ≤ 8 → E0 75 2 = some (.int (Int32.ofNat m)) → zWl E0 m)) ∧ (i.val = 2 → ∃ n m : Nat, m ≤ 8 ∧ E0 75 2 = some (.int (Int32.ofNat m)) ∧ zBs E n m ∧ zyJb E0 E ∧ zLv E0 m ∧ zWl E0 m ∧ n ≤ 0) ∧ (i.val = 3 → ∃ n m : Nat, m ≤ 8 ∧ E0 75 2 = some (.int (Int32.ofNat m)) ∧ zBs E n m ∧ zyJb E0 E ∧ zLv E0 m ∧ zWl E0 m ∧ n ≤ 300 * zyN1 (ρ 2) ∧ 2147483648 ≤ zB (ρ 2) ∧ zB (ρ 2) ≤ 2147483652) ∧ (i.val = 4 → ∃ n m : Nat, m ≤ 8 ∧ E0 75 2 = some (.int (Int32.ofNat m)) ∧ zBs E n m ∧ zyJb E0 E ∧ zLv E0 m ∧ zWl E0 m ∧ n ≤ 300 * zyN1 (ρ 2) + 300 ∧ 2147483648 ≤ zB (ρ 2) ∧ zB (ρ 2) ≤ 2147483651) ∧ (i.val = 5 → zyJb E0 E) ∧ (i.val = 6 → zyJb E0 E)) (fun i as E0 ρ E => if i.val = 3 ∨ i.val = 4 then 10 + 2 * (4 - zyN1 (ρ 2)) + (5 - i.val) else if 5 ≤ i.val then 8 - i.val else 40 - i.val) ?_ ?_ ?_
  · intro as E hlen hT hΦ
    obtain ⟨-, x, rfl, hx⟩ := hΦ
    exact ⟨zEnv_c (zyfull _) (zEnv_c ⟨Nat.zero_le _, hx⟩ (zEnv_c (zyfull _) zEnv_nil)), ⟨fun _ => rfl, fun h => absurd (show 0 = 1 from h) (by decide), fun h => absurd (show 0 = 2 from h) (by decide), fun h => absurd (show 0 = 3 from h) (by decide), fun h => absurd (show 0 = 4 from h) (by decide), fun h => absurd (show 0 = 5 from h) (by decide), fun h => absurd (show 0 = 6 from h) (by decide)⟩⟩
  · intro as B s Wg hRu hT0 hΦ hlen i ρ H hT hInv hIH x hx ρ2 N2 H2 locs lsB stA hAt hXs hag hfr hT2
    rcases i with ⟨i, hi⟩
    have hi2 : i = 0 ∨ i = 1 ∨ i = 2 ∨ i = 3 ∨ i = 4 ∨ i = 5 ∨ i = 6 := by omega
    rcases hi2 with rfl | rfl | rfl | rfl | rfl | rfl | rfl
    · have hx : x ∈ [zxwa_ax0] := hx
      have hg : ∀ k, k < 3 → ρ2 k = ρ k := hag
      have hI := hInv
      have hI : (0 = 0 → (zyEl (zymr r c) B H) = (zyEl (zymr r c) B s.heap)) ∧ (0 = 1 → (zyEl (zymr r c) B H) = (zyEl (zymr r c) B s.heap) ∧ (ρ 3 = 0 ∨ ∀ m : Nat, m ≤ 8 → (zyEl (zymr r c) B s.heap) 75 2 = some (.int (Int32.ofNat m)) → zWl (zyEl (zymr r c) B s.heap) m)) ∧ (0 = 2 → ∃ n m : Nat, m ≤ 8 ∧ (zyEl (zymr r c) B s.heap) 75 2 = some (.int (Int32.ofNat m)) ∧ zBs (zyEl (zymr r c) B H) n m ∧ zyJb (zyEl (zymr r c) B s.heap) (zyEl (zymr r c) B H) ∧ zLv (zyEl (zymr r c) B s.heap) m ∧ zWl (zyEl (zymr r c) B s.heap) m ∧ n ≤ 0) ∧ (0 = 3 → ∃ n m : Nat, m ≤ 8 ∧ (zyEl (zymr r c) B s.heap) 75 2 = some (.int (Int32.ofNat m)) ∧ zBs (zyEl (zymr r c) B H) n m ∧ zyJb (zyEl (zymr r c) B s.heap) (zyEl (zymr r c) B H) ∧ zLv (zyEl (zymr r c) B s.heap) m ∧ zWl (zyEl (zymr r c) B s.heap) m ∧ n ≤ 300 * zyN1 (ρ 2) ∧ 2147483648 ≤ zB (ρ 2) ∧ zB (ρ 2) ≤ 2147483652) ∧ (0 = 4 → ∃ n m : Nat, m ≤ 8 ∧ (zyEl (zymr r c) B s.heap) 75 2 = some (.int (Int32.ofNat m)) ∧ zBs (zyEl (zymr r c) B H) n m ∧ zyJb (zyEl (zymr r c) B s.heap) (zyEl (zymr r c) B H) ∧ zLv (zyEl (zymr r c) B s.heap) m ∧ zWl (zyEl (zymr r c) B s.heap) m ∧ n ≤ 300 * zyN1 (ρ 2) + 300 ∧ 2147483648 ≤ zB (ρ 2) ∧ zB (ρ 2) ≤ 2147483651) ∧ (0 = 5 → zyJb (zyEl (zymr r c) B s.heap) (zyEl (zymr r c) B H)) ∧ (0 = 6 → zyJb (zyEl (zymr r c) B s.heap) (zyEl (zymr r c) B H)) := hI
      obtain ⟨hF, hB, hM⟩ := hXs
      have hEE : (zyEl (zymr r c) B H2) = (zyEl (zymr r c) B H) := zyfr0 hfr
      have ex := List.mem_singleton.mp hx
      subst ex
      have hI := hI.1 rfl
      obtain ⟨⟨m0, m1, m2, m3, m4⟩, -⟩ := hΦ
      refine zyCa1 hRu hIH hAt hB hcw (ix := 245) (ax := 3904) rfl rfl rfl hmecw ⟨rfl, rfl, rfl, rfl⟩ (by decide) [] rfl (by decide) rfl ⟨1, by decide⟩ [595, 34359738369, 0] [(0, 4294967295), (0, 2147483652), (0, 4294967295)] 2147483648 2147483649 rfl (by decide) rfl rfl rfl rfl rfl ?_ ?_
      · show zyΦcw [] _
        rw [hEE, hI]
        exact ⟨m0, m1, m2, m4⟩
      · intro E3 vo hT3 hΨ
        obtain ⟨e3, z, ez, hz⟩ := (show zyΨcw [] _ E3 vo from hΨ)
        rw [hEE, hI] at e3 hz
        subst e3
        refine ⟨z, ez, ?_, ?_, ⟨fun h => absurd (show 1 = 0 from h) (by decide), fun _ => ⟨rfl, hz.imp (fun q => (zyρi_e (k0 := 3)).trans q) (fun q => q.2)⟩, fun h => absurd (show 1 = 2 from h) (by decide), fun h => absurd (show 1 = 3 from h) (by decide), fun h => absurd (show 1 = 4 from h) (by decide), fun h => absurd (show 1 = 5 from h) (by decide), fun h => absurd (show 1 = 6 from h) (by decide)⟩, ?_⟩
        · rcases hz with rfl | ⟨rfl, -⟩ <;> decide
        · rcases hz with rfl | ⟨rfl, -⟩ <;> decide
        · show 39 < 40
          decide
    · have hx : x ∈ [zxwa_bx0] := hx
      have hg : ∀ k, k < 4 → ρ2 k = ρ k := hag
      have hI := hInv
      have hI : (1 = 0 → (zyEl (zymr r c) B H) = (zyEl (zymr r c) B s.heap)) ∧ (1 = 1 → (zyEl (zymr r c) B H) = (zyEl (zymr r c) B s.heap) ∧ (ρ 3 = 0 ∨ ∀ m : Nat, m ≤ 8 → (zyEl (zymr r c) B s.heap) 75 2 = some (.int (Int32.ofNat m)) → zWl (zyEl (zymr r c) B s.heap) m)) ∧ (1 = 2 → ∃ n m : Nat, m ≤ 8 ∧ (zyEl (zymr r c) B s.heap) 75 2 = some (.int (Int32.ofNat m)) ∧ zBs (zyEl (zymr r c) B H) n m ∧ zyJb (zyEl (zymr r c) B s.heap) (zyEl (zymr r c) B H) ∧ zLv (zyEl (zymr r c) B s.heap) m ∧ zWl (zyEl (zymr r c) B s.heap) m ∧ n ≤ 0) ∧ (1 = 3 → ∃ n m : Nat, m ≤ 8 ∧ (zyEl (zymr r c) B s.heap) 75 2 = some (.int (Int32.ofNat m)) ∧ zBs (zyEl (zymr r c) B H) n m ∧ zyJb (zyEl (zymr r c) B s.heap) (zyEl (zymr r c) B H) ∧ zLv (zyEl (zymr r c) B s.heap) m ∧ zWl (zyEl (zymr r c) B s.heap) m ∧ n ≤ 300 * zyN1 (ρ 2) ∧ 2147483648 ≤ zB (ρ 2) ∧ zB (ρ 2) ≤ 2147483652) ∧ (1 = 4 → ∃ n m : Nat, m ≤ 8 ∧ (zyEl (zymr r c) B s.heap) 75 2 = some (.int (Int32.ofNat m)) ∧ zBs (zyEl (zymr r c) B H) n m ∧ zyJb (zyEl (zymr r c) B s.heap) (zyEl (zymr r c) B H) ∧ zLv (zyEl (zymr r c) B s.heap) m ∧ zWl (zyEl (zymr r c) B s.heap) m ∧ n ≤ 300 * zyN1 (ρ 2) + 300 ∧ 2147483648 ≤ zB (ρ 2) ∧ zB (ρ 2) ≤ 2147483651) ∧ (1 = 5 → zyJb (zyEl (zymr r c) B s.heap) (zyEl (zymr r c) B H)) ∧ (1 = 6 → zyJb (zyEl (zymr r c) B s.heap) (zyEl (zymr r c) B H)) := hI
      obtain ⟨hF, hB, hM⟩ := hXs
      have hEE : (zyEl (zymr r c) B H2) = (zyEl (zymr r c) B H) := zyfr0 hfr
      have ex := List.mem_singleton.mp hx
      subst ex
      have hI := hI.2.1 rfl
      obtain ⟨hE0, hz⟩ := hI
      obtain ⟨⟨m0, m1, m2, m3, m4⟩, -⟩ := hΦ
      have f0 := zyX23 hF 0 rfl
      have f0 : ¬ ρ2 3 = Int32.ofNat 0 := f0
      have hw0 := hz.resolve_left (fun q => f0 ((hg 3 (by decide)).trans q)) m0 m1 m2
      refine zyCa0 hRu hIH hAt hB hbb (ix := 249) (ax := 3808) rfl rfl rfl hmebb ⟨rfl, rfl, rfl, rfl⟩ (by decide) [] rfl (by decide) rfl ⟨2, by decide⟩ [595, 34359738369, 0] rfl rfl rfl rfl trivial ?_
      intro E3 vo hT3 hΨ
      obtain ⟨ev, q1, q2⟩ := (show zyΨbb [] _ E3 vo from hΨ)
      rw [hEE, hE0] at q1 q2
      refine ⟨ev, ⟨fun h => absurd (show 2 = 0 from h) (by decide), fun h => absurd (show 2 = 1 from h) (by decide), fun _ => ⟨0, m0, m1, m2, q2 m0 m1 m2, q1, m3, hw0, by omega⟩, fun h => absurd (show 2 = 3 from h) (by decide), fun h => absurd (show 2 = 4 from h) (by decide), fun h => absurd (show 2 = 5 from h) (by decide), fun h => absurd (show 2 = 6 from h) (by decide)⟩, ?_⟩
      show 38 < 39
      decide
    · have hx : x ∈ [zxwa_cx0] := hx
      have hg : ∀ k, k < 3 → ρ2 k = ρ k := hag
      have hI := hInv
      have hI : (2 = 0 → (zyEl (zymr r c) B H) = (zyEl (zymr r c) B s.heap)) ∧ (2 = 1 → (zyEl (zymr r c) B H) = (zyEl (zymr r c) B s.heap) ∧ (ρ 3 = 0 ∨ ∀ m : Nat, m ≤ 8 → (zyEl (zymr r c) B s.heap) 75 2 = some (.int (Int32.ofNat m)) → zWl (zyEl (zymr r c) B s.heap) m)) ∧ (2 = 2 → ∃ n m : Nat, m ≤ 8 ∧ (zyEl (zymr r c) B s.heap) 75 2 = some (.int (Int32.ofNat m)) ∧ zBs (zyEl (zymr r c) B H) n m ∧ zyJb (zyEl (zymr r c) B s.heap) (zyEl (zymr r c) B H) ∧ zLv (zyEl (zymr r c) B s.heap) m ∧ zWl (zyEl (zymr r c) B s.heap) m ∧ n ≤ 0) ∧ (2 = 3 → ∃ n m : Nat, m ≤ 8 ∧ (zyEl (zymr r c) B s.heap) 75 2 = some (.int (Int32.ofNat m)) ∧ zBs (zyEl (zymr r c) B H) n m ∧ zyJb (zyEl (zymr r c) B s.heap) (zyEl (zymr r c) B H) ∧ zLv (zyEl (zymr r c) B s.heap) m ∧ zWl (zyEl (zymr r c) B s.heap) m ∧ n ≤ 300 * zyN1 (ρ 2) ∧ 2147483648 ≤ zB (ρ 2) ∧ zB (ρ 2) ≤ 2147483652) ∧ (2 = 4 → ∃ n m : Nat, m ≤ 8 ∧ (zyEl (zymr r c) B s.heap) 75 2 = some (.int (Int32.ofNat m)) ∧ zBs (zyEl (zymr r c) B H) n m ∧ zyJb (zyEl (zymr r c) B s.heap) (zyEl (zymr r c) B H) ∧ zLv (zyEl (zymr r c) B s.heap) m ∧ zWl (zyEl (zymr r c) B s.heap) m ∧ n ≤ 300 * zyN1 (ρ 2) + 300 ∧ 2147483648 ≤ zB (ρ 2) ∧ zB (ρ 2) ≤ 2147483651) ∧ (2 = 5 → zyJb (zyEl (zymr r c) B s.heap) (zyEl (zymr r c) B H)) ∧ (2 = 6 → zyJb (zyEl (zymr r c) B s.heap) (zyEl (zymr r c) B H)) := hI
      obtain ⟨hF, hB, hM⟩ := hXs
      have hEE : (zyEl (zymr r c) B H2) = (zyEl (zymr r c) B H) := zyfr0 hfr
      have ex := List.mem_singleton.mp hx
      subst ex
      have hI := hI.2.2.1 rfl
      obtain ⟨n, m, hm, hms, hbs, i1, hv, hw, hn⟩ := hI
      refine zyGoB hIH hAt hB ⟨3, by decide⟩ [595, 34359738369, 0] rfl rfl rfl rfl ⟨fun h => absurd (show 3 = 0 from h) (by decide), fun h => absurd (show 3 = 1 from h) (by decide), fun h => absurd (show 3 = 2 from h) (by decide), fun _ => ⟨n, m, hm, hms, by rw [hEE]; exact hbs, by rw [hEE]; exact i1, hv, hw, by omega, (show 2147483648 ≤ zB (Int32.ofNat 0) by decide), (show zB (Int32.ofNat 0) ≤ 2147483652 by decide)⟩, fun h => absurd (show 3 = 4 from h) (by decide), fun h => absurd (show 3 = 5 from h) (by decide), fun h => absurd (show 3 = 6 from h) (by decide)⟩ ?_
      show 10 + 2 * (4 - zyN1 (Int32.ofNat 0)) + (5 - 3) < 38
      omega
    · have hx : x ∈ [zxwa_dx0, zxwa_dx1] := hx
      have hg : ∀ k, k < 3 → ρ2 k = ρ k := hag
      have hI := hInv
      have hI : (3 = 0 → (zyEl (zymr r c) B H) = (zyEl (zymr r c) B s.heap)) ∧ (3 = 1 → (zyEl (zymr r c) B H) = (zyEl (zymr r c) B s.heap) ∧ (ρ 3 = 0 ∨ ∀ m : Nat, m ≤ 8 → (zyEl (zymr r c) B s.heap) 75 2 = some (.int (Int32.ofNat m)) → zWl (zyEl (zymr r c) B s.heap) m)) ∧ (3 = 2 → ∃ n m : Nat, m ≤ 8 ∧ (zyEl (zymr r c) B s.heap) 75 2 = some (.int (Int32.ofNat m)) ∧ zBs (zyEl (zymr r c) B H) n m ∧ zyJb (zyEl (zymr r c) B s.heap) (zyEl (zymr r c) B H) ∧ zLv (zyEl (zymr r c) B s.heap) m ∧ zWl (zyEl (zymr r c) B s.heap) m ∧ n ≤ 0) ∧ (3 = 3 → ∃ n m : Nat, m ≤ 8 ∧ (zyEl (zymr r c) B s.heap) 75 2 = some (.int (Int32.ofNat m)) ∧ zBs (zyEl (zymr r c) B H) n m ∧ zyJb (zyEl (zymr r c) B s.heap) (zyEl (zymr r c) B H) ∧ zLv (zyEl (zymr r c) B s.heap) m ∧ zWl (zyEl (zymr r c) B s.heap) m ∧ n ≤ 300 * zyN1 (ρ 2) ∧ 2147483648 ≤ zB (ρ 2) ∧ zB (ρ 2) ≤ 2147483652) ∧ (3 = 4 → ∃ n m : Nat, m ≤ 8 ∧ (zyEl (zymr r c) B s.heap) 75 2 = some (.int (Int32.ofNat m)) ∧ zBs (zyEl (zymr r c) B H) n m ∧ zyJb (zyEl (zymr r c) B s.heap) (zyEl (zymr r c) B H) ∧ zLv (zyEl (zymr r c) B s.heap) m ∧ zWl (zyEl (zymr r c) B s.heap) m ∧ n ≤ 300 * zyN1 (ρ 2) + 300 ∧ 2147483648 ≤ zB (ρ 2) ∧ zB (ρ 2) ≤ 2147483651) ∧ (3 = 5 → zyJb (zyEl (zymr r c) B s.heap) (zyEl (zymr r c) B H)) ∧ (3 = 6 → zyJb (zyEl (zymr r c) B s.heap) (zyEl (zymr r c) B H)) := hI
      obtain ⟨hF, hB, hM⟩ := hXs
      have hEE : (zyEl (zymr r c) B H2) = (zyEl (zymr r c) B H) := zyfr0 hfr
      rcases List.mem_cons.mp hx with ex | hx
      · subst ex
        have hI := hI.2.2.2.1 rfl
        obtain ⟨n, m, hm, hms, hbs, i1, hv, hw, hn, v1, v2⟩ := hI
        have bd : 2147483648 ≤ zB (ρ2 2) ∧ zB (ρ2 2) ≤ 2147483651 := zyXb hB 1 rfl
        obtain ⟨o1, o2⟩ := zyOn bd.1
        rw [← hg 2 (by decide)] at hn
        refine zyCa0 hRu hIH hAt hB hjw (ix := 252) (ax := 3840) rfl rfl rfl hmejw ⟨rfl, rfl, rfl, rfl⟩ (by decide) [0, 0] rfl (by decide) rfl ⟨4, by decide⟩ [595, 34359738369, 68719476737] rfl rfl rfl rfl ?_ ?_
        · show zyΦwd 300 zLv [Int32.ofNat 0, Int32.ofNat 0] _
          rw [hEE]
          exact ⟨n, m, hbs, by omega, zLv_jb i1 hv⟩
        · intro E3 vo hT3 hΨ
          have hΨ : zyΨwd 300 [Int32.ofNat 0, Int32.ofNat 0] _ E3 vo := hΨ
          rw [hEE] at hΨ
          obtain ⟨ev, q1, q2⟩ := hΨ
          obtain ⟨n', q3, q4⟩ := q2 n m hbs (by omega)
          refine ⟨ev, ⟨fun h => absurd (show 4 = 0 from h) (by decide), fun h => absurd (show 4 = 1 from h) (by decide), fun h => absurd (show 4 = 2 from h) (by decide), fun h => absurd (show 4 = 3 from h) (by decide), fun _ => ⟨n', m, hm, hms, q4, zyJb_jo i1 q1, hv, hw, (by show n' ≤ 300 * zyN1 (ρ2 2) + 300; omega), bd.1, bd.2⟩, fun h => absurd (show 4 = 5 from h) (by decide), fun h => absurd (show 4 = 6 from h) (by decide)⟩, ?_⟩
          show 10 + 2 * (4 - zyN1 (ρ2 2)) + (5 - 4) < 10 + 2 * (4 - zyN1 (ρ 2)) + (5 - 3)
          rw [hg 2 (by decide)]
          omega
      · skip
        have ex := List.mem_singleton.mp hx
        subst ex
        have hI := hI.2.2.2.1 rfl
        obtain ⟨n, m, hm, hms, hbs, i1, hv, hw, hn, v1, v2⟩ := hI
        obtain ⟨o1, o2⟩ := zyOn v1
        refine zyCa0 hRu hIH hAt hB hud (ix := 256) (ax := 3872) rfl rfl rfl hmeud ⟨rfl, rfl, rfl, rfl⟩ (by decide) [] rfl (by decide) rfl ⟨5, by decide⟩ [595, 0, 0] rfl rfl rfl rfl ?_ ?_
        · show zyΦwd 60 zWl [] _
          rw [hEE]
          exact ⟨n, m, hbs, by omega, zWl_jb i1 hw⟩
        · intro E3 vo hT3 hΨ
          have hΨ : zyΨwd 61 [] _ E3 vo := hΨ
          rw [hEE] at hΨ
          obtain ⟨ev, q1, q2⟩ := hΨ
          obtain ⟨n', q3, q4⟩ := q2 n m hbs (by omega)
          refine ⟨ev, ⟨fun h => absurd (show 5 = 0 from h) (by decide), fun h => absurd (show 5 = 1 from h) (by decide), fun h => absurd (show 5 = 2 from h) (by decide), fun h => absurd (show 5 = 3 from h) (by decide), fun h => absurd (show 5 = 4 from h) (by decide), fun _ => zyJb_jo i1 q1, fun h => absurd (show 5 = 6 from h) (by decide)⟩, ?_⟩
          show 8 - 5 < 10 + 2 * (4 - zyN1 (ρ 2)) + (5 - 3)
          omega
    · have hx : x ∈ [zxwa_ex0] := hx
      have hg : ∀ k, k < 3 → ρ2 k = ρ k := hag
      have hI := hInv
      have hI : (4 = 0 → (zyEl (zymr r c) B H) = (zyEl (zymr r c) B s.heap)) ∧ (4 = 1 → (zyEl (zymr r c) B H) = (zyEl (zymr r c) B s.heap) ∧ (ρ 3 = 0 ∨ ∀ m : Nat, m ≤ 8 → (zyEl (zymr r c) B s.heap) 75 2 = some (.int (Int32.ofNat m)) → zWl (zyEl (zymr r c) B s.heap) m)) ∧ (4 = 2 → ∃ n m : Nat, m ≤ 8 ∧ (zyEl (zymr r c) B s.heap) 75 2 = some (.int (Int32.ofNat m)) ∧ zBs (zyEl (zymr r c) B H) n m ∧ zyJb (zyEl (zymr r c) B s.heap) (zyEl (zymr r c) B H) ∧ zLv (zyEl (zymr r c) B s.heap) m ∧ zWl (zyEl (zymr r c) B s.heap) m ∧ n ≤ 0) ∧ (4 = 3 → ∃ n m : Nat, m ≤ 8 ∧ (zyEl (zymr r c) B s.heap) 75 2 = some (.int (Int32.ofNat m)) ∧ zBs (zyEl (zymr r c) B H) n m ∧ zyJb (zyEl (zymr r c) B s.heap) (zyEl (zymr r c) B H) ∧ zLv (zyEl (zymr r c) B s.heap) m ∧ zWl (zyEl (zymr r c) B s.heap) m ∧ n ≤ 300 * zyN1 (ρ 2) ∧ 2147483648 ≤ zB (ρ 2) ∧ zB (ρ 2) ≤ 2147483652) ∧ (4 = 4 → ∃ n m : Nat, m ≤ 8 ∧ (zyEl (zymr r c) B s.heap) 75 2 = some (.int (Int32.ofNat m)) ∧ zBs (zyEl (zymr r c) B H) n m ∧ zyJb (zyEl (zymr r c) B s.heap) (zyEl (zymr r c) B H) ∧ zLv (zyEl (zymr r c) B s.heap) m ∧ zWl (zyEl (zymr r c) B s.heap) m ∧ n ≤ 300 * zyN1 (ρ 2) + 300 ∧ 2147483648 ≤ zB (ρ 2) ∧ zB (ρ 2) ≤ 2147483651) ∧ (4 = 5 → zyJb (zyEl (zymr r c) B s.heap) (zyEl (zymr r c) B H)) ∧ (4 = 6 → zyJb (zyEl (zymr r c) B s.heap) (zyEl (zymr r c) B H)) := hI
      obtain ⟨hF, hB, hM⟩ := hXs
      have hEE : (zyEl (zymr r c) B H2) = (zyEl (zymr r c) B H) := zyfr0 hfr
      have ex := List.mem_singleton.mp hx
      subst ex
      have hI := hI.2.2.2.2.1 rfl
      obtain ⟨n, m, hm, hms, hbs, i1, hv, hw, hn, v1, v2⟩ := hI
      obtain ⟨o1, o2⟩ := zyOn v1
      have bd : 2147483648 ≤ zB (ρ2 2) ∧ zB (ρ2 2) ≤ 2147483651 := zyXb hB 1 rfl
      obtain ⟨q1, q2, -⟩ := zyStep (b := 3) bd (by decide)
      have bd2 : 2147483649 ≤ zB (ρ2 2 + Int32.ofNat 1) ∧ zB (ρ2 2 + Int32.ofNat 1) ≤ 2147483652 := zyXb hB 2 rfl
      rw [← hg 2 (by decide)] at hn o2
      refine zyGoB hIH hAt hB ⟨3, by decide⟩ [595, 34359738369, 68719476745] rfl rfl rfl rfl ⟨fun h => absurd (show 3 = 0 from h) (by decide), fun h => absurd (show 3 = 1 from h) (by decide), fun h => absurd (show 3 = 2 from h) (by decide), fun _ => ⟨n, m, hm, hms, by rw [hEE]; exact hbs, by rw [hEE]; exact i1, hv, hw, (by show n ≤ 300 * zyN1 (ρ2 2 + Int32.ofNat 1); rw [q1]; omega), (by show 2147483648 ≤ zB (ρ2 2 + Int32.ofNat 1); omega), bd2.2⟩, fun h => absurd (show 3 = 4 from h) (by decide), fun h => absurd (show 3 = 5 from h) (by decide), fun h => absurd (show 3 = 6 from h) (by decide)⟩ ?_
      show 10 + 2 * (4 - zyN1 (ρ2 2 + Int32.ofNat 1)) + (5 - 3) < 10 + 2 * (4 - zyN1 (ρ 2)) + (5 - 4)
      rw [q1, ← hg 2 (by decide)]
      omega
    · have hx : x ∈ [zxwa_fx0] := hx
      have hg : ∀ k, k < 3 → ρ2 k = ρ k := hag
      have hI := hInv
      have hI : (5 = 0 → (zyEl (zymr r c) B H) = (zyEl (zymr r c) B s.heap)) ∧ (5 = 1 → (zyEl (zymr r c) B H) = (zyEl (zymr r c) B s.heap) ∧ (ρ 3 = 0 ∨ ∀ m : Nat, m ≤ 8 → (zyEl (zymr r c) B s.heap) 75 2 = some (.int (Int32.ofNat m)) → zWl (zyEl (zymr r c) B s.heap) m)) ∧ (5 = 2 → ∃ n m : Nat, m ≤ 8 ∧ (zyEl (zymr r c) B s.heap) 75 2 = some (.int (Int32.ofNat m)) ∧ zBs (zyEl (zymr r c) B H) n m ∧ zyJb (zyEl (zymr r c) B s.heap) (zyEl (zymr r c) B H) ∧ zLv (zyEl (zymr r c) B s.heap) m ∧ zWl (zyEl (zymr r c) B s.heap) m ∧ n ≤ 0) ∧ (5 = 3 → ∃ n m : Nat, m ≤ 8 ∧ (zyEl (zymr r c) B s.heap) 75 2 = some (.int (Int32.ofNat m)) ∧ zBs (zyEl (zymr r c) B H) n m ∧ zyJb (zyEl (zymr r c) B s.heap) (zyEl (zymr r c) B H) ∧ zLv (zyEl (zymr r c) B s.heap) m ∧ zWl (zyEl (zymr r c) B s.heap) m ∧ n ≤ 300 * zyN1 (ρ 2) ∧ 2147483648 ≤ zB (ρ 2) ∧ zB (ρ 2) ≤ 2147483652) ∧ (5 = 4 → ∃ n m : Nat, m ≤ 8 ∧ (zyEl (zymr r c) B s.heap) 75 2 = some (.int (Int32.ofNat m)) ∧ zBs (zyEl (zymr r c) B H) n m ∧ zyJb (zyEl (zymr r c) B s.heap) (zyEl (zymr r c) B H) ∧ zLv (zyEl (zymr r c) B s.heap) m ∧ zWl (zyEl (zymr r c) B s.heap) m ∧ n ≤ 300 * zyN1 (ρ 2) + 300 ∧ 2147483648 ≤ zB (ρ 2) ∧ zB (ρ 2) ≤ 2147483651) ∧ (5 = 5 → zyJb (zyEl (zymr r c) B s.heap) (zyEl (zymr r c) B H)) ∧ (5 = 6 → zyJb (zyEl (zymr r c) B s.heap) (zyEl (zymr r c) B H)) := hI
      obtain ⟨hF, hB, hM⟩ := hXs
      have hEE : (zyEl (zymr r c) B H2) = (zyEl (zymr r c) B H) := zyfr0 hfr
      have ex := List.mem_singleton.mp hx
      subst ex
      have hI := hI.2.2.2.2.2.1 rfl
      have i1 := hI
      refine zyCa1 hRu hIH hAt hB hnb (ix := 259) (ax := 3824) rfl rfl rfl hmenb ⟨rfl, rfl, rfl, rfl⟩ (by decide) [] rfl (by decide) rfl ⟨6, by decide⟩ [595, 0, 0] [(0, 4294967295), (0, 4294967295), (0, 4294967295)] 2147483648 2147483649 rfl (by decide) rfl rfl rfl rfl rfl trivial ?_
      intro E3 vo hT3 hΨ
      obtain ⟨e3, z, ez, hz⟩ := (show zyΨie [] _ E3 vo from hΨ)
      rw [hEE] at e3
      subst e3
      refine ⟨z, ez, ?_, ?_, ⟨fun h => absurd (show 6 = 0 from h) (by decide), fun h => absurd (show 6 = 1 from h) (by decide), fun h => absurd (show 6 = 2 from h) (by decide), fun h => absurd (show 6 = 3 from h) (by decide), fun h => absurd (show 6 = 4 from h) (by decide), fun h => absurd (show 6 = 5 from h) (by decide), fun _ => i1⟩, ?_⟩
      · rcases hz with rfl | rfl <;> decide
      · rcases hz with rfl | rfl <;> decide
      · show 2 < 3
        decide
    · cases hx
  · intro as E0 E E2 hT0 hΦ hlen i ρ hT hInv x hx ρ2 N2 B vo hXs hag hfr hT2 hvo
    rcases i with ⟨i, hi⟩
    have hi2 : i = 0 ∨ i = 1 ∨ i = 2 ∨ i = 3 ∨ i = 4 ∨ i = 5 ∨ i = 6 := by omega
    rcases hi2 with rfl | rfl | rfl | rfl | rfl | rfl | rfl
    · cases hx
    · have hx : x ∈ [zxwa_br0] := hx
      have hg : ∀ k, k < 4 → ρ2 k = ρ k := hag
      have hI := hInv
      have hI : (1 = 0 → E = E0) ∧ (1 = 1 → E = E0 ∧ (ρ 3 = 0 ∨ ∀ m : Nat, m ≤ 8 → E0 75 2 = some (.int (Int32.ofNat m)) → zWl E0 m)) ∧ (1 = 2 → ∃ n m : Nat, m ≤ 8 ∧ E0 75 2 = some (.int (Int32.ofNat m)) ∧ zBs E n m ∧ zyJb E0 E ∧ zLv E0 m ∧ zWl E0 m ∧ n ≤ 0) ∧ (1 = 3 → ∃ n m : Nat, m ≤ 8 ∧ E0 75 2 = some (.int (Int32.ofNat m)) ∧ zBs E n m ∧ zyJb E0 E ∧ zLv E0 m ∧ zWl E0 m ∧ n ≤ 300 * zyN1 (ρ 2) ∧ 2147483648 ≤ zB (ρ 2) ∧ zB (ρ 2) ≤ 2147483652) ∧ (1 = 4 → ∃ n m : Nat, m ≤ 8 ∧ E0 75 2 = some (.int (Int32.ofNat m)) ∧ zBs E n m ∧ zyJb E0 E ∧ zLv E0 m ∧ zWl E0 m ∧ n ≤ 300 * zyN1 (ρ 2) + 300 ∧ 2147483648 ≤ zB (ρ 2) ∧ zB (ρ 2) ≤ 2147483651) ∧ (1 = 5 → zyJb E0 E) ∧ (1 = 6 → zyJb E0 E) := hI
      obtain ⟨hF, hB, hM⟩ := hXs
      have hEE : E2 = E := zyfr0 hfr
      have ex := List.mem_singleton.mp hx
      subst ex
      have hI := hI.2.1 rfl
      rw [hEE, hI.1]
      exact ⟨fun _ _ _ _ _ => rfl, 0, zyvo_1 (c := 0) (by decide) (show zyvo (zyXn B ρ2 N2) [0] vo from hvo), Or.inl rfl⟩
    · cases hx
    · cases hx
    · cases hx
    · cases hx
    · have hx : x ∈ [zxwa_gr0] := hx
      have hg : ∀ k, k < 4 → ρ2 k = ρ k := hag
      have hI := hInv
      have hI : (6 = 0 → E = E0) ∧ (6 = 1 → E = E0 ∧ (ρ 3 = 0 ∨ ∀ m : Nat, m ≤ 8 → E0 75 2 = some (.int (Int32.ofNat m)) → zWl E0 m)) ∧ (6 = 2 → ∃ n m : Nat, m ≤ 8 ∧ E0 75 2 = some (.int (Int32.ofNat m)) ∧ zBs E n m ∧ zyJb E0 E ∧ zLv E0 m ∧ zWl E0 m ∧ n ≤ 0) ∧ (6 = 3 → ∃ n m : Nat, m ≤ 8 ∧ E0 75 2 = some (.int (Int32.ofNat m)) ∧ zBs E n m ∧ zyJb E0 E ∧ zLv E0 m ∧ zWl E0 m ∧ n ≤ 300 * zyN1 (ρ 2) ∧ 2147483648 ≤ zB (ρ 2) ∧ zB (ρ 2) ≤ 2147483652) ∧ (6 = 4 → ∃ n m : Nat, m ≤ 8 ∧ E0 75 2 = some (.int (Int32.ofNat m)) ∧ zBs E n m ∧ zyJb E0 E ∧ zLv E0 m ∧ zWl E0 m ∧ n ≤ 300 * zyN1 (ρ 2) + 300 ∧ 2147483648 ≤ zB (ρ 2) ∧ zB (ρ 2) ≤ 2147483651) ∧ (6 = 5 → zyJb E0 E) ∧ (6 = 6 → zyJb E0 E) := hI
      obtain ⟨hF, hB, hM⟩ := hXs
      have hEE : E2 = E := zyfr0 hfr
      have ex := List.mem_singleton.mp hx
      subst ex
      have hI := hI.2.2.2.2.2.2 rfl
      have hb : 2147483648 ≤ zB (ρ2 3) ∧ zB (ρ2 3) ≤ 2147483649 := zyXb hB 0 rfl
      rw [hEE]
      exact ⟨hI, ρ2 3, zyvo_1 (c := 103079215105) (by decide) (show zyvo (zyXn B ρ2 N2) [103079215105] vo from hvo), zybool hb.1 hb.2⟩
