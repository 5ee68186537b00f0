/-! WHETHER the letters that were spelled aside are one braid with those wished -/
def zSv (E : zyEm) (m q : Nat) : Prop := ∀ k, k < q → zVl m (zyI E 80 k)
def zyΦsw (as : List Int32) (E : zyEm) : Prop := zyΦbr as E ∧ ∃ q : Nat, q ≤ 300 ∧ E 74 14 = some (.int (Int32.ofNat q)) ∧ ∀ m : Nat, m ≤ 8 → E 75 2 = some (.int (Int32.ofNat m)) → zSv E m q
theorem zyJb_80 {E E2 : zyEm} (h : zyJb E E2) (k : Nat) : zyI E2 80 k = zyI E 80 k := zyI_eq (h 80 k (by decide) (by decide) (fun z => absurd z.1 (by decide)))
theorem zysw_run : zyAllP (fun r c => zyrS (zymr r c) zxi296 (296, 0, 0, 2, 0) 8 zpsw (fun _ _ => []) zFsw zSsw zXsw zRsw 7) = true := by decide +kernel
theorem zyisSpelledWished {l : Launch} {r c : Nat} (h1 : 1 ≤ r) (h2 : r ≤ 4) (h3 : 1 ≤ c) (h4 : c ≤ 5) {en : zEn} {me : zMe} (hen : zG zxMeta 296 = some en) (hme : zG zMeth 296 = some me) : zyHc l (zymr r c) en me 8 0 zyΦsw zyΨbr := by
  have een : zG zxMeta 296 = some (zxi296, 1, 2, 11, 296, 0, 0, 2, 0) := rfl
  obtain ⟨me1, hme1, hOK⟩ := zall hen
  rw [hme] at hme1
  cases hme1
  rw [een] at hen
  cases hen
  have hr := zyAllP_iff zysw_run h1 h2 h3 h4
  obtain ⟨mebb, hmebb, -⟩ := zall (show zG zxMeta 238 = some (zxi238, 1, 1, 11, 238, 0, 0, 0, 0) from rfl)
  have hbb := zybeginsBraid (l := l) h1 h2 h3 h4 (show zG zxMeta 238 = some (zxi238, 1, 1, 11, 238, 0, 0, 0, 0) from rfl) hmebb
  obtain ⟨menb, hmenb, -⟩ := zall (show zG zxMeta 239 = some (zxi239, 1, 1, 11, 239, 0, 0, 2, 0) from rfl)
  have hnb := zyisNoBraid (l := l) h1 h2 h3 h4 (show zG zxMeta 239 = some (zxi239, 1, 1, 11, 239, 0, 0, 2, 0) from rfl) hmenb
  obtain ⟨mejw, hmejw, -⟩ := zall (show zG zxMeta 240 = some (zxi240, 3, 5, 11, 240, 0, 0, 0, 0) from rfl)
  have hjw := zyjoinsWord (l := l) h1 h2 h3 h4 (show zG zxMeta 240 = some (zxi240, 3, 5, 11, 240, 0, 0, 0, 0) from rfl) hmejw
  obtain ⟨mejd, hmejd, -⟩ := zall (show zG zxMeta 241 = some (zxi241, 1, 2, 11, 241, 0, 0, 0, 0) from rfl)
  have hjd := zyjoinsWished (l := l) h1 h2 h3 h4 (show zG zxMeta 241 = some (zxi241, 1, 2, 11, 241, 0, 0, 0, 0) from rfl) hmejd
  obtain ⟨meud, hmeud, -⟩ := zall (show zG zxMeta 242 = some (zxi242, 1, 2, 11, 242, 0, 0, 0, 0) from rfl)
  have hud := zyunjoinsWished (l := l) h1 h2 h3 h4 (show zG zxMeta 242 = some (zxi242, 1, 2, 11, 242, 0, 0, 0, 0) from rfl) hmeud
  obtain ⟨meuw, hmeuw, -⟩ := zall (show zG zxMeta 243 = some (zxi243, 1, 2, 11, 243, 0, 0, 0, 0) from rfl)
  have huw := zyunjoinsWord (l := l) h1 h2 h3 h4 (show zG zxMeta 243 = some (zxi243, 1, 2, 11, 243, 0, 0, 0, 0) from rfl) hmeuw
  obtain ⟨mecw, hmecw, -⟩ := zall (show zG zxMeta 244 = some (zxi244, 1, 3, 11, 244, 0, 0, 2, 0) from rfl)
  have hcw := zycanBeWished (l := l) h1 h2 h3 h4 (show zG zxMeta 244 = some (zxi244, 1, 3, 11, 244, 0, 0, 2, 0) from rfl) hmecw
  obtain ⟨mejo, hmejo, -⟩ := zall (show zG zxMeta 237 = some (zxi237, 2, 5, 11, 237, 0, 0, 0, 0) from rfl)
  have hjo := zyjoins (l := l) h1 h2 h3 h4 (show zG zxMeta 237 = some (zxi237, 2, 5, 11, 237, 0, 0, 0, 0) from rfl) hmejo
  refine zycutS (mi := zymr r c) hOK rfl rfl ⟨_, rfl, rfl⟩ (ι := Fin 7) (fun i => zpsw i.val) (fun _ _ => []) (fun i => zFsw i.val) (fun i => zSsw i.val) (fun i => zXsw i.val) (fun i => zRsw i.val) (fun i y2 ct en2 me2 h => by cases h) 200000 (fun i => zyAll_iff hr i.val i.isLt) ⟨0, by decide⟩ ⟨rfl, rfl, rfl, rfl⟩ ⟨by decide, by decide⟩
    (fun i as E0 ρ E => (i.val = 0 → E = E0) ∧ (i.val = 1 → E = E0 ∧ (ρ 2 = 0 ∨ ∀ m : Nat, m ≤ 8 → E0 75 2 = some (.int (Int32.ofNat m)) → zWl E0 m)) ∧ (i.val = 2 → ∃ n m : Nat, m ≤ 8 ∧ E0 75 2 = some (.int (Int32.ofNat m)) ∧ zBs E n m ∧ zyJb E0 E ∧ zLv E0 m ∧ zWl E0 m ∧ n ≤ 0) ∧ (i.val = 3 → ∃ n m : Nat, m ≤ 8 ∧ E0 75 2 = some (.int (Int32.ofNat m)) ∧ zBs E n m ∧ zyJb E0 E ∧ zLv E0 m ∧ zWl E0 m ∧ n ≤ zyN1 (ρ 1) ∧ 2147483648 ≤ zB (ρ 1) ∧ zB (ρ 1) ≤ 2147483948 ∧ ρ 2 = zyI E0 74 14) ∧ (i.val = 4 → ∃ n m : Nat, m ≤ 8 ∧ E0 75 2 = some (.int (Int32.ofNat m)) ∧ zBs E n m ∧ zyJb E0 E ∧ zLv E0 m ∧ zWl E0 m ∧ n ≤ zyN1 (ρ 1) + 1 ∧ 2147483648 ≤ zB (ρ 1) ∧ zB (ρ 1) ≤ 2147483947) ∧ (i.val = 5 → zyJb E0 E) ∧ (i.val = 6 → zyJb E0 E)) (fun i as E0 ρ E => if i.val = 3 ∨ i.val = 4 then 10 + 2 * (300 - zyN1 (ρ 1)) + (5 - i.val) else if 5 ≤ i.val then 8 - i.val else 4000 - i.val) ?_ ?_ ?_
  · intro as E hlen hT hΦ
    exact ⟨zEnv_c (zyfull _) (zEnv_c (zyfull _) zEnv_nil), ⟨fun _ => rfl, fun h => absurd (show 0 = 1 from h) (by decide), fun h => absurd (show 0 = 2 from h) (by decide), fun h => absurd (show 0 = 3 from h) (by decide), fun h => absurd (show 0 = 4 from h) (by decide), fun h => absurd (show 0 = 5 from h) (by decide), fun h => absurd (show 0 = 6 from h) (by decide)⟩⟩
  · intro as B s Wg hRu hT0 hΦ hlen i ρ H hT hInv hIH x hx ρ2 N2 H2 locs lsB stA hAt hXs hag hfr hT2
    rcases i with ⟨i, hi⟩
    have hi2 : i = 0 ∨ i = 1 ∨ i = 2 ∨ i = 3 ∨ i = 4 ∨ i = 5 ∨ i = 6 := by omega
    rcases hi2 with rfl | rfl | rfl | rfl | rfl | rfl | rfl
    · have hx : x ∈ [zxsw_ax0] := hx
      have hg : ∀ k, k < 2 → ρ2 k = ρ k := hag
      have hI := hInv
      have hI : (0 = 0 → (zyEl (zymr r c) B H) = (zyEl (zymr r c) B s.heap)) ∧ (0 = 1 → (zyEl (zymr r c) B H) = (zyEl (zymr r c) B s.heap) ∧ (ρ 2 = 0 ∨ ∀ m : Nat, m ≤ 8 → (zyEl (zymr r c) B s.heap) 75 2 = some (.int (Int32.ofNat m)) → zWl (zyEl (zymr r c) B s.heap) m)) ∧ (0 = 2 → ∃ n m : Nat, m ≤ 8 ∧ (zyEl (zymr r c) B s.heap) 75 2 = some (.int (Int32.ofNat m)) ∧ zBs (zyEl (zymr r c) B H) n m ∧ zyJb (zyEl (zymr r c) B s.heap) (zyEl (zymr r c) B H) ∧ zLv (zyEl (zymr r c) B s.heap) m ∧ zWl (zyEl (zymr r c) B s.heap) m ∧ n ≤ 0) ∧ (0 = 3 → ∃ n m : Nat, m ≤ 8 ∧ (zyEl (zymr r c) B s.heap) 75 2 = some (.int (Int32.ofNat m)) ∧ zBs (zyEl (zymr r c) B H) n m ∧ zyJb (zyEl (zymr r c) B s.heap) (zyEl (zymr r c) B H) ∧ zLv (zyEl (zymr r c) B s.heap) m ∧ zWl (zyEl (zymr r c) B s.heap) m ∧ n ≤ zyN1 (ρ 1) ∧ 2147483648 ≤ zB (ρ 1) ∧ zB (ρ 1) ≤ 2147483948 ∧ ρ 2 = zyI (zyEl (zymr r c) B s.heap) 74 14) ∧ (0 = 4 → ∃ n m : Nat, m ≤ 8 ∧ (zyEl (zymr r c) B s.heap) 75 2 = some (.int (Int32.ofNat m)) ∧ zBs (zyEl (zymr r c) B H) n m ∧ zyJb (zyEl (zymr r c) B s.heap) (zyEl (zymr r c) B H) ∧ zLv (zyEl (zymr r c) B s.heap) m ∧ zWl (zyEl (zymr r c) B s.heap) m ∧ n ≤ zyN1 (ρ 1) + 1 ∧ 2147483648 ≤ zB (ρ 1) ∧ zB (ρ 1) ≤ 2147483947) ∧ (0 = 5 → zyJb (zyEl (zymr r c) B s.heap) (zyEl (zymr r c) B H)) ∧ (0 = 6 → zyJb (zyEl (zymr r c) B s.heap) (zyEl (zymr r c) B H)) := hI
      obtain ⟨hF, hB, hM⟩ := hXs
      have hEE : (zyEl (zymr r c) B H2) = (zyEl (zymr r c) B H) := zyfr0 hfr
      have ex := List.mem_singleton.mp hx
      subst ex
      have hI := hI.1 rfl
      obtain ⟨⟨m0, m1, m2, m3, m4⟩, q, s1, s2, s3⟩ := hΦ
      refine zyCa1 hRu hIH hAt hB hcw (ix := 245) (ax := 3904) rfl rfl rfl hmecw ⟨rfl, rfl, rfl, rfl⟩ (by decide) [] rfl (by decide) rfl ⟨1, by decide⟩ [595, 0] [(0, 4294967295), (0, 4294967295)] 2147483648 2147483649 rfl (by decide) rfl rfl rfl rfl rfl ?_ ?_
      · show zyΦcw [] _
        rw [hEE, hI]
        exact ⟨m0, m1, m2, m4⟩
      · intro E3 vo hT3 hΨ
        obtain ⟨e3, z, ez, hz⟩ := (show zyΨcw [] _ E3 vo from hΨ)
        rw [hEE, hI] at e3 hz
        subst e3
        refine ⟨z, ez, ?_, ?_, ⟨fun h => absurd (show 1 = 0 from h) (by decide), fun _ => ⟨rfl, hz.imp (fun q => (zyρi_e (k0 := 2)).trans q) (fun q => q.2)⟩, fun h => absurd (show 1 = 2 from h) (by decide), fun h => absurd (show 1 = 3 from h) (by decide), fun h => absurd (show 1 = 4 from h) (by decide), fun h => absurd (show 1 = 5 from h) (by decide), fun h => absurd (show 1 = 6 from h) (by decide)⟩, ?_⟩
        · rcases hz with rfl | ⟨rfl, -⟩ <;> decide
        · rcases hz with rfl | ⟨rfl, -⟩ <;> decide
        · show 3999 < 4000
          decide
    · have hx : x ∈ [zxsw_bx0] := hx
      have hg : ∀ k, k < 3 → ρ2 k = ρ k := hag
      have hI := hInv
      have hI : (1 = 0 → (zyEl (zymr r c) B H) = (zyEl (zymr r c) B s.heap)) ∧ (1 = 1 → (zyEl (zymr r c) B H) = (zyEl (zymr r c) B s.heap) ∧ (ρ 2 = 0 ∨ ∀ m : Nat, m ≤ 8 → (zyEl (zymr r c) B s.heap) 75 2 = some (.int (Int32.ofNat m)) → zWl (zyEl (zymr r c) B s.heap) m)) ∧ (1 = 2 → ∃ n m : Nat, m ≤ 8 ∧ (zyEl (zymr r c) B s.heap) 75 2 = some (.int (Int32.ofNat m)) ∧ zBs (zyEl (zymr r c) B H) n m ∧ zyJb (zyEl (zymr r c) B s.heap) (zyEl (zymr r c) B H) ∧ zLv (zyEl (zymr r c) B s.heap) m ∧ zWl (zyEl (zymr r c) B s.heap) m ∧ n ≤ 0) ∧ (1 = 3 → ∃ n m : Nat, m ≤ 8 ∧ (zyEl (zymr r c) B s.heap) 75 2 = some (.int (Int32.ofNat m)) ∧ zBs (zyEl (zymr r c) B H) n m ∧ zyJb (zyEl (zymr r c) B s.heap) (zyEl (zymr r c) B H) ∧ zLv (zyEl (zymr r c) B s.heap) m ∧ zWl (zyEl (zymr r c) B s.heap) m ∧ n ≤ zyN1 (ρ 1) ∧ 2147483648 ≤ zB (ρ 1) ∧ zB (ρ 1) ≤ 2147483948 ∧ ρ 2 = zyI (zyEl (zymr r c) B s.heap) 74 14) ∧ (1 = 4 → ∃ n m : Nat, m ≤ 8 ∧ (zyEl (zymr r c) B s.heap) 75 2 = some (.int (Int32.ofNat m)) ∧ zBs (zyEl (zymr r c) B H) n m ∧ zyJb (zyEl (zymr r c) B s.heap) (zyEl (zymr r c) B H) ∧ zLv (zyEl (zymr r c) B s.heap) m ∧ zWl (zyEl (zymr r c) B s.heap) m ∧ n ≤ zyN1 (ρ 1) + 1 ∧ 2147483648 ≤ zB (ρ 1) ∧ zB (ρ 1) ≤ 2147483947) ∧ (1 = 5 → zyJb (zyEl (zymr r c) B s.heap) (zyEl (zymr r c) B H)) ∧ (1 = 6 → zyJb (zyEl (zymr r c) B s.heap) (zyEl (zymr r c) B H)) := hI
      obtain ⟨hF, hB, hM⟩ := hXs
      have hEE : (zyEl (zymr r c) B H2) = (zyEl (zymr r c) B H) := zyfr0 hfr
      have ex := List.mem_singleton.mp hx
      subst ex
      have hI := hI.2.1 rfl
      obtain ⟨hE0, hz⟩ := hI
      obtain ⟨⟨m0, m1, m2, m3, m4⟩, q, s1, s2, s3⟩ := hΦ
      have f0 := zyX23 hF 0 rfl
      have f0 : ¬ ρ2 2 = Int32.ofNat 0 := f0
      have hw0 := hz.resolve_left (fun q => f0 ((hg 2 (by decide)).trans q)) m0 m1 m2
      refine zyCa0 hRu hIH hAt hB hbb (ix := 249) (ax := 3808) rfl rfl rfl hmebb ⟨rfl, rfl, rfl, rfl⟩ (by decide) [] rfl (by decide) rfl ⟨2, by decide⟩ [595, 0] rfl rfl rfl rfl trivial ?_
      intro E3 vo hT3 hΨ
      obtain ⟨ev, q1, q2⟩ := (show zyΨbb [] _ E3 vo from hΨ)
      rw [hEE, hE0] at q1 q2
      refine ⟨ev, ⟨fun h => absurd (show 2 = 0 from h) (by decide), fun h => absurd (show 2 = 1 from h) (by decide), fun _ => ⟨0, m0, m1, m2, q2 m0 m1 m2, q1, m3, hw0, by omega⟩, fun h => absurd (show 2 = 3 from h) (by decide), fun h => absurd (show 2 = 4 from h) (by decide), fun h => absurd (show 2 = 5 from h) (by decide), fun h => absurd (show 2 = 6 from h) (by decide)⟩, ?_⟩
      show 3998 < 3999
      decide
    · have hx : x ∈ [zxsw_cx0] := hx
      have hg : ∀ k, k < 2 → ρ2 k = ρ k := hag
      have hI := hInv
      have hI : (2 = 0 → (zyEl (zymr r c) B H) = (zyEl (zymr r c) B s.heap)) ∧ (2 = 1 → (zyEl (zymr r c) B H) = (zyEl (zymr r c) B s.heap) ∧ (ρ 2 = 0 ∨ ∀ m : Nat, m ≤ 8 → (zyEl (zymr r c) B s.heap) 75 2 = some (.int (Int32.ofNat m)) → zWl (zyEl (zymr r c) B s.heap) m)) ∧ (2 = 2 → ∃ n m : Nat, m ≤ 8 ∧ (zyEl (zymr r c) B s.heap) 75 2 = some (.int (Int32.ofNat m)) ∧ zBs (zyEl (zymr r c) B H) n m ∧ zyJb (zyEl (zymr r c) B s.heap) (zyEl (zymr r c) B H) ∧ zLv (zyEl (zymr r c) B s.heap) m ∧ zWl (zyEl (zymr r c) B s.heap) m ∧ n ≤ 0) ∧ (2 = 3 → ∃ n m : Nat, m ≤ 8 ∧ (zyEl (zymr r c) B s.heap) 75 2 = some (.int (Int32.ofNat m)) ∧ zBs (zyEl (zymr r c) B H) n m ∧ zyJb (zyEl (zymr r c) B s.heap) (zyEl (zymr r c) B H) ∧ zLv (zyEl (zymr r c) B s.heap) m ∧ zWl (zyEl (zymr r c) B s.heap) m ∧ n ≤ zyN1 (ρ 1) ∧ 2147483648 ≤ zB (ρ 1) ∧ zB (ρ 1) ≤ 2147483948 ∧ ρ 2 = zyI (zyEl (zymr r c) B s.heap) 74 14) ∧ (2 = 4 → ∃ n m : Nat, m ≤ 8 ∧ (zyEl (zymr r c) B s.heap) 75 2 = some (.int (Int32.ofNat m)) ∧ zBs (zyEl (zymr r c) B H) n m ∧ zyJb (zyEl (zymr r c) B s.heap) (zyEl (zymr r c) B H) ∧ zLv (zyEl (zymr r c) B s.heap) m ∧ zWl (zyEl (zymr r c) B s.heap) m ∧ n ≤ zyN1 (ρ 1) + 1 ∧ 2147483648 ≤ zB (ρ 1) ∧ zB (ρ 1) ≤ 2147483947) ∧ (2 = 5 → zyJb (zyEl (zymr r c) B s.heap) (zyEl (zymr r c) B H)) ∧ (2 = 6 → zyJb (zyEl (zymr r c) B s.heap) (zyEl (zymr r c) B H)) := hI
      obtain ⟨hF, hB, hM⟩ := hXs
      have hEE : (zyEl (zymr r c) B H2) = (zyEl (zymr r c) B H) := zyfr0 hfr
      have ex := List.mem_singleton.mp hx
      subst ex
      have hI := hI.2.2.1 rfl
      obtain ⟨n, m, hm, hms, hbs, i1, hv, hw, hn⟩ := hI
      obtain ⟨⟨m0, m1, m2, m3, m4⟩, q, s1, s2, s3⟩ := hΦ
      refine zyGoKi hIH hAt hB ⟨3, by decide⟩ [595, 0] [(0, 4294967295), (2147483648, 2147483948)] 2147483648 2147483948 rfl (by decide) rfl rfl rfl (74 * 16384 + 14) zymr74 rfl rfl (show 14 < 49 by decide) (Int32.ofNat q) ?_ ?_ ⟨fun h => absurd (show 3 = 0 from h) (by decide), fun h => absurd (show 3 = 1 from h) (by decide), fun h => absurd (show 3 = 2 from h) (by decide), fun _ => ⟨n, m, hm, hms, by rw [hEE]; exact hbs, by rw [hEE]; exact i1, hv, hw, by omega, (show 2147483648 ≤ zB (Int32.ofNat 0) by decide), (show zB (Int32.ofNat 0) ≤ 2147483948 by decide), (zyρi_e (k0 := 2)).trans (zyI_s s2).symm⟩, fun h => absurd (show 3 = 4 from h) (by decide), fun h => absurd (show 3 = 5 from h) (by decide), fun h => absurd (show 3 = 6 from h) (by decide)⟩ ?_
      · show zyEl (zymr r c) B H2 74 14 = _
        rw [hEE, i1 74 14 (by decide) (by decide) (fun z => absurd z.2 (by decide))]
        exact s2
      · rw [zyBn (by omega)]
        omega
      · show 10 + 2 * (300 - zyN1 (zyρi _ 2 _ 1)) + (5 - 3) < 3998
        omega
    · have hx : x ∈ [zxsw_dx0, zxsw_dx1] := hx
      have hg : ∀ k, k < 3 → ρ2 k = ρ k := hag
      have hI := hInv
      have hI : (3 = 0 → (zyEl (zymr r c) B H) = (zyEl (zymr r c) B s.heap)) ∧ (3 = 1 → (zyEl (zymr r c) B H) = (zyEl (zymr r c) B s.heap) ∧ (ρ 2 = 0 ∨ ∀ m : Nat, m ≤ 8 → (zyEl (zymr r c) B s.heap) 75 2 = some (.int (Int32.ofNat m)) → zWl (zyEl (zymr r c) B s.heap) m)) ∧ (3 = 2 → ∃ n m : Nat, m ≤ 8 ∧ (zyEl (zymr r c) B s.heap) 75 2 = some (.int (Int32.ofNat m)) ∧ zBs (zyEl (zymr r c) B H) n m ∧ zyJb (zyEl (zymr r c) B s.heap) (zyEl (zymr r c) B H) ∧ zLv (zyEl (zymr r c) B s.heap) m ∧ zWl (zyEl (zymr r c) B s.heap) m ∧ n ≤ 0) ∧ (3 = 3 → ∃ n m : Nat, m ≤ 8 ∧ (zyEl (zymr r c) B s.heap) 75 2 = some (.int (Int32.ofNat m)) ∧ zBs (zyEl (zymr r c) B H) n m ∧ zyJb (zyEl (zymr r c) B s.heap) (zyEl (zymr r c) B H) ∧ zLv (zyEl (zymr r c) B s.heap) m ∧ zWl (zyEl (zymr r c) B s.heap) m ∧ n ≤ zyN1 (ρ 1) ∧ 2147483648 ≤ zB (ρ 1) ∧ zB (ρ 1) ≤ 2147483948 ∧ ρ 2 = zyI (zyEl (zymr r c) B s.heap) 74 14) ∧ (3 = 4 → ∃ n m : Nat, m ≤ 8 ∧ (zyEl (zymr r c) B s.heap) 75 2 = some (.int (Int32.ofNat m)) ∧ zBs (zyEl (zymr r c) B H) n m ∧ zyJb (zyEl (zymr r c) B s.heap) (zyEl (zymr r c) B H) ∧ zLv (zyEl (zymr r c) B s.heap) m ∧ zWl (zyEl (zymr r c) B s.heap) m ∧ n ≤ zyN1 (ρ 1) + 1 ∧ 2147483648 ≤ zB (ρ 1) ∧ zB (ρ 1) ≤ 2147483947) ∧ (3 = 5 → zyJb (zyEl (zymr r c) B s.heap) (zyEl (zymr r c) B H)) ∧ (3 = 6 → zyJb (zyEl (zymr r c) B s.heap) (zyEl (zymr r c) B H)) := hI
      obtain ⟨hF, hB, hM⟩ := hXs
      have hEE : (zyEl (zymr r c) B H2) = (zyEl (zymr r c) B H) := zyfr0 hfr
      rcases List.mem_cons.mp hx with ex | hx
      · subst ex
        have hI := hI.2.2.2.1 rfl
        obtain ⟨⟨m0, m1, m2, m3, m4⟩, q, s1, s2, s3⟩ := hΦ
        obtain ⟨n, m, hm, hms, hbs, i1, hv, hw, hn, v1, v2, v3⟩ := hI
        have bd : 2147483648 ≤ zB (ρ2 1) ∧ zB (ρ2 1) ≤ 2147483947 := zyXb hB 0 rfl
        obtain ⟨o1, o2⟩ := zyOn bd.1
        have a1 : ρ2 1 = ρ 1 := hg 1 (by decide)
        rw [← a1] at hn
        have a2 : ρ2 2 = Int32.ofNat q := (hg 2 (by decide)).trans (v3.trans (zyI_s s2))
        have f0 := zyX20 hF 0 rfl
        have f0 : ρ2 1 < ρ2 2 := f0
        rw [o1, a2, zyOl (by omega) (by omega)] at f0
        obtain ⟨n3, w1, w2, w3⟩ := zyXe hF 1 rfl
        have w1 : ρ2 1 = Int32.ofNat n3 := w1
        have w3 : zyEl (zymr r c) B H 80 n3 = some (.int (ρ2 3)) := w3
        rw [o1] at w1
        rw [← zyOi (by omega) (by omega) w1] at w3
        have hval : zVl m (ρ2 3) := by
          have := s3 m hm hms (zyN1 (ρ2 1)) f0
          rw [← zyJb_80 i1, zyI_s w3] at this
          exact this
        refine zyCa0 hRu hIH hAt hB hjo (ix := 242) (ax := 3792) rfl rfl rfl hmejo ⟨rfl, rfl, rfl, rfl⟩ (by decide) [103079215105] rfl (by decide) rfl ⟨4, by decide⟩ [595, 34359738369] rfl rfl rfl rfl ?_ ?_
        · show zyΦjo [ρ2 3] _
          rw [hEE]
          exact zBs_Φ hbs (by omega) hval
        · intro E3 vo hT3 hΨ
          have hΨ : zyΨjo [ρ2 3] _ E3 vo := hΨ
          rw [hEE] at hΨ
          obtain ⟨ev, n', q1, q2, q3⟩ := zBs_jo hbs (by omega) hΨ
          refine ⟨ev, ⟨fun h => absurd (show 4 = 0 from h) (by decide), fun h => absurd (show 4 = 1 from h) (by decide), fun h => absurd (show 4 = 2 from h) (by decide), fun h => absurd (show 4 = 3 from h) (by decide), fun _ => ⟨n', m, hm, hms, q2, zyJb_jo i1 q3, hv, hw, (by show n' ≤ zyN1 (ρ2 1) + 1; omega), bd.1, bd.2⟩, fun h => absurd (show 4 = 5 from h) (by decide), fun h => absurd (show 4 = 6 from h) (by decide)⟩, ?_⟩
          show 10 + 2 * (300 - zyN1 (ρ2 1)) + (5 - 4) < 10 + 2 * (300 - zyN1 (ρ 1)) + (5 - 3)
          rw [a1]
          omega
      · skip
        have ex := List.mem_singleton.mp hx
        subst ex
        have hI := hI.2.2.2.1 rfl
        obtain ⟨n, m, hm, hms, hbs, i1, hv, hw, hn, v1, v2, v3⟩ := hI
        obtain ⟨o1, o2⟩ := zyOn v1
        refine zyCa0 hRu hIH hAt hB hud (ix := 256) (ax := 3872) rfl rfl rfl hmeud ⟨rfl, rfl, rfl, rfl⟩ (by decide) [] rfl (by decide) rfl ⟨5, by decide⟩ [595, 0] rfl rfl rfl rfl ?_ ?_
        · show zyΦwd 60 zWl [] _
          rw [hEE]
          exact ⟨n, m, hbs, by omega, zWl_jb i1 hw⟩
        · intro E3 vo hT3 hΨ
          have hΨ : zyΨwd 61 [] _ E3 vo := hΨ
          rw [hEE] at hΨ
          obtain ⟨ev, q1, q2⟩ := hΨ
          obtain ⟨n', q3, q4⟩ := q2 n m hbs (by omega)
          refine ⟨ev, ⟨fun h => absurd (show 5 = 0 from h) (by decide), fun h => absurd (show 5 = 1 from h) (by decide), fun h => absurd (show 5 = 2 from h) (by decide), fun h => absurd (show 5 = 3 from h) (by decide), fun h => absurd (show 5 = 4 from h) (by decide), fun _ => zyJb_jo i1 q1, fun h => absurd (show 5 = 6 from h) (by decide)⟩, ?_⟩
          show 8 - 5 < 10 + 2 * (300 - zyN1 (ρ 1)) + (5 - 3)
          omega
    · have hx : x ∈ [zxsw_ex0] := hx
      have hg : ∀ k, k < 2 → ρ2 k = ρ k := hag
      have hI := hInv
      have hI : (4 = 0 → (zyEl (zymr r c) B H) = (zyEl (zymr r c) B s.heap)) ∧ (4 = 1 → (zyEl (zymr r c) B H) = (zyEl (zymr r c) B s.heap) ∧ (ρ 2 = 0 ∨ ∀ m : Nat, m ≤ 8 → (zyEl (zymr r c) B s.heap) 75 2 = some (.int (Int32.ofNat m)) → zWl (zyEl (zymr r c) B s.heap) m)) ∧ (4 = 2 → ∃ n m : Nat, m ≤ 8 ∧ (zyEl (zymr r c) B s.heap) 75 2 = some (.int (Int32.ofNat m)) ∧ zBs (zyEl (zymr r c) B H) n m ∧ zyJb (zyEl (zymr r c) B s.heap) (zyEl (zymr r c) B H) ∧ zLv (zyEl (zymr r c) B s.heap) m ∧ zWl (zyEl (zymr r c) B s.heap) m ∧ n ≤ 0) ∧ (4 = 3 → ∃ n m : Nat, m ≤ 8 ∧ (zyEl (zymr r c) B s.heap) 75 2 = some (.int (Int32.ofNat m)) ∧ zBs (zyEl (zymr r c) B H) n m ∧ zyJb (zyEl (zymr r c) B s.heap) (zyEl (zymr r c) B H) ∧ zLv (zyEl (zymr r c) B s.heap) m ∧ zWl (zyEl (zymr r c) B s.heap) m ∧ n ≤ zyN1 (ρ 1) ∧ 2147483648 ≤ zB (ρ 1) ∧ zB (ρ 1) ≤ 2147483948 ∧ ρ 2 = zyI (zyEl (zymr r c) B s.heap) 74 14) ∧ (4 = 4 → ∃ n m : Nat, m ≤ 8 ∧ (zyEl (zymr r c) B s.heap) 75 2 = some (.int (Int32.ofNat m)) ∧ zBs (zyEl (zymr r c) B H) n m ∧ zyJb (zyEl (zymr r c) B s.heap) (zyEl (zymr r c) B H) ∧ zLv (zyEl (zymr r c) B s.heap) m ∧ zWl (zyEl (zymr r c) B s.heap) m ∧ n ≤ zyN1 (ρ 1) + 1 ∧ 2147483648 ≤ zB (ρ 1) ∧ zB (ρ 1) ≤ 2147483947) ∧ (4 = 5 → zyJb (zyEl (zymr r c) B s.heap) (zyEl (zymr r c) B H)) ∧ (4 = 6 → zyJb (zyEl (zymr r c) B s.heap) (zyEl (zymr r c) B H)) := hI
      obtain ⟨hF, hB, hM⟩ := hXs
      have hEE : (zyEl (zymr r c) B H2) = (zyEl (zymr r c) B H) := zyfr0 hfr
      have ex := List.mem_singleton.mp hx
      subst ex
      have hI := hI.2.2.2.2.1 rfl
      obtain ⟨⟨m0, m1, m2, m3, m4⟩, q, s1, s2, s3⟩ := hΦ
      obtain ⟨n, m, hm, hms, hbs, i1, hv, hw, hn, v1, v2⟩ := hI
      have bd : 2147483648 ≤ zB (ρ2 1) ∧ zB (ρ2 1) ≤ 2147483947 := zyXb hB 0 rfl
      obtain ⟨q1, q2, -⟩ := zyStep (b := 299) bd (by decide)
      have bd2 : 2147483649 ≤ zB (ρ2 1 + Int32.ofNat 1) ∧ zB (ρ2 1 + Int32.ofNat 1) ≤ 2147483948 := zyXb hB 1 rfl
      rw [← hg 1 (by decide)] at hn
      refine zyGoKi hIH hAt hB ⟨3, by decide⟩ [595, 34359738377] [(0, 4294967295), (2147483648, 2147483948)] 2147483648 2147483948 rfl (by decide) rfl rfl rfl (74 * 16384 + 14) zymr74 rfl rfl (show 14 < 49 by decide) (Int32.ofNat q) ?_ ?_ ⟨fun h => absurd (show 3 = 0 from h) (by decide), fun h => absurd (show 3 = 1 from h) (by decide), fun h => absurd (show 3 = 2 from h) (by decide), fun _ => ⟨n, m, hm, hms, by rw [hEE]; exact hbs, by rw [hEE]; exact i1, hv, hw, (by rw [zyρi_n (by decide)]; show n ≤ zyN1 (ρ2 1 + Int32.ofNat 1); rw [q1]; omega), (by rw [zyρi_n (by decide)]; show 2147483648 ≤ zB (ρ2 1 + Int32.ofNat 1); omega), (by rw [zyρi_n (by decide)]; exact bd2.2), (zyρi_e (k0 := 2)).trans (zyI_s s2).symm⟩, fun h => absurd (show 3 = 4 from h) (by decide), fun h => absurd (show 3 = 5 from h) (by decide), fun h => absurd (show 3 = 6 from h) (by decide)⟩ ?_
      · show zyEl (zymr r c) B H2 74 14 = _
        rw [hEE, i1 74 14 (by decide) (by decide) (fun z => absurd z.2 (by decide))]
        exact s2
      · rw [zyBn (by omega)]
        omega
      · show 10 + 2 * (300 - zyN1 (zyρi _ 2 _ 1)) + (5 - 3) < 10 + 2 * (300 - zyN1 (ρ 1)) + (5 - 4)
        rw [zyρi_n (by decide)]
        show 10 + 2 * (300 - zyN1 (ρ2 1 + Int32.ofNat 1)) + (5 - 3) < 10 + 2 * (300 - zyN1 (ρ 1)) + (5 - 4)
        rw [q1, ← hg 1 (by decide)]
        omega
    · have hx : x ∈ [zxsw_fx0] := hx
      have hg : ∀ k, k < 2 → ρ2 k = ρ k := hag
      have hI := hInv
      have hI : (5 = 0 → (zyEl (zymr r c) B H) = (zyEl (zymr r c) B s.heap)) ∧ (5 = 1 → (zyEl (zymr r c) B H) = (zyEl (zymr r c) B s.heap) ∧ (ρ 2 = 0 ∨ ∀ m : Nat, m ≤ 8 → (zyEl (zymr r c) B s.heap) 75 2 = some (.int (Int32.ofNat m)) → zWl (zyEl (zymr r c) B s.heap) m)) ∧ (5 = 2 → ∃ n m : Nat, m ≤ 8 ∧ (zyEl (zymr r c) B s.heap) 75 2 = some (.int (Int32.ofNat m)) ∧ zBs (zyEl (zymr r c) B H) n m ∧ zyJb (zyEl (zymr r c) B s.heap) (zyEl (zymr r c) B H) ∧ zLv (zyEl (zymr r c) B s.heap) m ∧ zWl (zyEl (zymr r c) B s.heap) m ∧ n ≤ 0) ∧ (5 = 3 → ∃ n m : Nat, m ≤ 8 ∧ (zyEl (zymr r c) B s.heap) 75 2 = some (.int (Int32.ofNat m)) ∧ zBs (zyEl (zymr r c) B H) n m ∧ zyJb (zyEl (zymr r c) B s.heap) (zyEl (zymr r c) B H) ∧ zLv (zyEl (zymr r c) B s.heap) m ∧ zWl (zyEl (zymr r c) B s.heap) m ∧ n ≤ zyN1 (ρ 1) ∧ 2147483648 ≤ zB (ρ 1) ∧ zB (ρ 1) ≤ 2147483948 ∧ ρ 2 = zyI (zyEl (zymr r c) B s.heap) 74 14) ∧ (5 = 4 → ∃ n m : Nat, m ≤ 8 ∧ (zyEl (zymr r c) B s.heap) 75 2 = some (.int (Int32.ofNat m)) ∧ zBs (zyEl (zymr r c) B H) n m ∧ zyJb (zyEl (zymr r c) B s.heap) (zyEl (zymr r c) B H) ∧ zLv (zyEl (zymr r c) B s.heap) m ∧ zWl (zyEl (zymr r c) B s.heap) m ∧ n ≤ zyN1 (ρ 1) + 1 ∧ 2147483648 ≤ zB (ρ 1) ∧ zB (ρ 1) ≤ 2147483947) ∧ (5 = 5 → zyJb (zyEl (zymr r c) B s.heap) (zyEl (zymr r c) B H)) ∧ (5 = 6 → zyJb (zyEl (zymr r c) B s.heap) (zyEl (zymr r c) B H)) := hI
      obtain ⟨hF, hB, hM⟩ := hXs
      have hEE : (zyEl (zymr r c) B H2) = (zyEl (zymr r c) B H) := zyfr0 hfr
      have ex := List.mem_singleton.mp hx
      subst ex
      have hI := hI.2.2.2.2.2.1 rfl
      have i1 := hI
      refine zyCa1 hRu hIH hAt hB hnb (ix := 259) (ax := 3824) rfl rfl rfl hmenb ⟨rfl, rfl, rfl, rfl⟩ (by decide) [] rfl (by decide) rfl ⟨6, by decide⟩ [595, 0] [(0, 4294967295), (0, 4294967295)] 2147483648 2147483649 rfl (by decide) rfl rfl rfl rfl rfl trivial ?_
      intro E3 vo hT3 hΨ
      obtain ⟨e3, z, ez, hz⟩ := (show zyΨie [] _ E3 vo from hΨ)
      rw [hEE] at e3
      subst e3
      refine ⟨z, ez, ?_, ?_, ⟨fun h => absurd (show 6 = 0 from h) (by decide), fun h => absurd (show 6 = 1 from h) (by decide), fun h => absurd (show 6 = 2 from h) (by decide), fun h => absurd (show 6 = 3 from h) (by decide), fun h => absurd (show 6 = 4 from h) (by decide), fun h => absurd (show 6 = 5 from h) (by decide), fun _ => i1⟩, ?_⟩
      · rcases hz with rfl | rfl <;> decide
      · rcases hz with rfl | rfl <;> decide
      · show 2 < 3
        decide
    · cases hx
  · intro as E0 E E2 hT0 hΦ hlen i ρ hT hInv x hx ρ2 N2 B vo hXs hag hfr hT2 hvo
    rcases i with ⟨i, hi⟩
    have hi2 : i = 0 ∨ i = 1 ∨ i = 2 ∨ i = 3 ∨ i = 4 ∨ i = 5 ∨ i = 6 := by omega
    rcases hi2 with rfl | rfl | rfl | rfl | rfl | rfl | rfl
    · cases hx
    · have hx : x ∈ [zxsw_br0] := hx
      have hg : ∀ k, k < 3 → ρ2 k = ρ k := hag
      have hI := hInv
      have hI : (1 = 0 → E = E0) ∧ (1 = 1 → E = E0 ∧ (ρ 2 = 0 ∨ ∀ m : Nat, m ≤ 8 → E0 75 2 = some (.int (Int32.ofNat m)) → zWl E0 m)) ∧ (1 = 2 → ∃ n m : Nat, m ≤ 8 ∧ E0 75 2 = some (.int (Int32.ofNat m)) ∧ zBs E n m ∧ zyJb E0 E ∧ zLv E0 m ∧ zWl E0 m ∧ n ≤ 0) ∧ (1 = 3 → ∃ n m : Nat, m ≤ 8 ∧ E0 75 2 = some (.int (Int32.ofNat m)) ∧ zBs E n m ∧ zyJb E0 E ∧ zLv E0 m ∧ zWl E0 m ∧ n ≤ zyN1 (ρ 1) ∧ 2147483648 ≤ zB (ρ 1) ∧ zB (ρ 1) ≤ 2147483948 ∧ ρ 2 = zyI E0 74 14) ∧ (1 = 4 → ∃ n m : Nat, m ≤ 8 ∧ E0 75 2 = some (.int (Int32.ofNat m)) ∧ zBs E n m ∧ zyJb E0 E ∧ zLv E0 m ∧ zWl E0 m ∧ n ≤ zyN1 (ρ 1) + 1 ∧ 2147483648 ≤ zB (ρ 1) ∧ zB (ρ 1) ≤ 2147483947) ∧ (1 = 5 → zyJb E0 E) ∧ (1 = 6 → zyJb E0 E) := hI
      obtain ⟨hF, hB, hM⟩ := hXs
      have hEE : E2 = E := zyfr0 hfr
      have ex := List.mem_singleton.mp hx
      subst ex
      have hI := hI.2.1 rfl
      rw [hEE, hI.1]
      exact ⟨fun _ _ _ _ _ => rfl, 0, zyvo_1 (c := 0) (by decide) (show zyvo (zyXn B ρ2 N2) [0] vo from hvo), Or.inl rfl⟩
    · cases hx
    · cases hx
    · cases hx
    · cases hx
    · have hx : x ∈ [zxsw_gr0] := hx
      have hg : ∀ k, k < 3 → ρ2 k = ρ k := hag
      have hI := hInv
      have hI : (6 = 0 → E = E0) ∧ (6 = 1 → E = E0 ∧ (ρ 2 = 0 ∨ ∀ m : Nat, m ≤ 8 → E0 75 2 = some (.int (Int32.ofNat m)) → zWl E0 m)) ∧ (6 = 2 → ∃ n m : Nat, m ≤ 8 ∧ E0 75 2 = some (.int (Int32.ofNat m)) ∧ zBs E n m ∧ zyJb E0 E ∧ zLv E0 m ∧ zWl E0 m ∧ n ≤ 0) ∧ (6 = 3 → ∃ n m : Nat, m ≤ 8 ∧ E0 75 2 = some (.int (Int32.ofNat m)) ∧ zBs E n m ∧ zyJb E0 E ∧ zLv E0 m ∧ zWl E0 m ∧ n ≤ zyN1 (ρ 1) ∧ 2147483648 ≤ zB (ρ 1) ∧ zB (ρ 1) ≤ 2147483948 ∧ ρ 2 = zyI E0 74 14) ∧ (6 = 4 → ∃ n m : Nat, m ≤ 8 ∧ E0 75 2 = some (.int (Int32.ofNat m)) ∧ zBs E n m ∧ zyJb E0 E ∧ zLv E0 m ∧ zWl E0 m ∧ n ≤ zyN1 (ρ 1) + 1 ∧ 2147483648 ≤ zB (ρ 1) ∧ zB (ρ 1) ≤ 2147483947) ∧ (6 = 5 → zyJb E0 E) ∧ (6 = 6 → zyJb E0 E) := hI
      obtain ⟨hF, hB, hM⟩ := hXs
      have hEE : E2 = E := zyfr0 hfr
      have ex := List.mem_singleton.mp hx
      subst ex
      have hI := hI.2.2.2.2.2.2 rfl
      have hb : 2147483648 ≤ zB (ρ2 2) ∧ zB (ρ2 2) ≤ 2147483649 := zyXb hB 0 rfl
      rw [hEE]
      exact ⟨hI, ρ2 2, zyvo_1 (c := 68719476737) (by decide) (show zyvo (zyXn B ρ2 N2) [68719476737] vo from hvo), zybool hb.1 hb.2⟩
