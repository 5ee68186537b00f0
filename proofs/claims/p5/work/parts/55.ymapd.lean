/-! THE REFERENCE: mapped -/
noncomputable def zyCm (r c : Nat) : Nat → List zyCt := fun y => zif (Nat.beq y 204) [([595, zyS r c], [], [zyS r c, 0], 2, [], [])] (zif (Nat.beq y 211) [([595, zyS r c, 34359738362], [], [zyS r c, 4], 6, [], [])] [])
noncomputable def zychM (w : zW) (v : List Nat) (F : List zyF) : Bool := zand (zyone v) (zqop 1000 (zysym 1) 0 (fun x => zand (zyk1b x) (zqop 1004 x (zysym 2) (fun z => zand (zyk1b z) (zylb v [z])) F)) F)
theorem zyrunM_all : zyAllP (fun r c => zyrun2 r c (zyCm r c) zxi212 (212, 0, 0, 1, 0) 3 7 [] zychM) = true := by decide +kernel
theorem zyCm_ok {l : Launch} {J : zyJt} (hJ : zyJr J) {r c : Nat} (h1 : 1 ≤ r) (h2 : r ≤ 4) (h3 : 1 ≤ c) (h4 : c ≤ 5) : ∀ y2 ct en2 me2, ct ∈ zyCm r c y2 → zG zxMeta y2 = some en2 → zG zMeth y2 = some me2 → zyCon l (zymr r c) J en2 me2 ct := by
  intro y2 ct en2 me2 hct hen hme
  unfold zyCm at hct
  by_cases e0 : y2 = 204
  · subst e0
    have hct : ct ∈ [([595, zyS r c], [], [zyS r c, 0], 2, [], [])] := hct
    rw [List.mem_singleton.mp hct]
    exact zyturned hJ h1 h2 h3 h4 hen hme
  rw [zybeq_ne e0, zif_f] at hct
  by_cases e1 : y2 = 211
  · subst e1
    have hct : ct ∈ [([595, zyS r c, 34359738362], [], [zyS r c, 4], 6, [], [])] := hct
    rw [List.mem_singleton.mp hct]
    exact zyover hJ h1 h2 h3 h4 hen hme
  rw [zybeq_ne e1, zif_f] at hct
  cases hct
/-- over, mapped stay within the slots -/
theorem zgV_lt {E : zyEm} {r c s : Nat} {t : Int32} (h1 : 1 ≤ r) (h2 : r ≤ 4) (h3 : 1 ≤ c) (h4 : c ≤ 5) (hr : zgr E = r) (hc : zgc E = c) (hs : s < zgNS r c) : zgV E s t < zgNS r c := by
  unfold zgV
  rw [hr, hc]
  rcases (zgfacts h1 h2 h3 h4 hs).2.2 with e | ⟨-, e, -⟩
  · rw [if_pos e]; exact hs
  · split
    · exact hs
    · split
      · exact e
      · exact hs
theorem zgM_lt {E : zyEm} {r c s : Nat} {t : Int32} (h1 : 1 ≤ r) (h2 : r ≤ 4) (h3 : 1 ≤ c) (h4 : c ≤ 5) (hr : zgr E = r) (hc : zgc E = c) (hs : s < zgNS r c) : zgM E s t < zgNS r c := by
  unfold zgM
  refine zgV_lt h1 h2 h3 h4 hr hc ?_
  rw [hc]
  exact (zgfacts h1 h2 h3 h4 hs).1
/-- over is its own inverse; mapped takes different slots to different ones -/
theorem zgV_inv {E : zyEm} {r c s : Nat} {t : Int32} (h1 : 1 ≤ r) (h2 : r ≤ 4) (h3 : 1 ≤ c) (h4 : c ≤ 5) (hr : zgr E = r) (hc : zgc E = c) (hs : s < zgNS r c) : zgV E (zgV E s t) t = s := by
  rcases (zgfacts h1 h2 h3 h4 hs).2.2 with e | ⟨e0, e1, e2, e3⟩
  · have h : zgV E s t = s := by
      unfold zgV
      rw [hr, hc, if_pos e]
    rw [h, h]
  · have hne : ¬ zgG r c s = 4294967295 := by
      have := zgNG_le h2 h4
      omega
    by_cases hO : zgO E (zgG r c s) t = true
    · have h : zgV E s t = zgF r c s := by
        unfold zgV
        rw [hr, hc, if_neg hne, if_pos hO]
      rw [h]
      unfold zgV
      rw [hr, hc, e3, if_neg hne, if_pos hO, e2]
    · have h : zgV E s t = s := by
        unfold zgV
        rw [hr, hc, if_neg hne, if_neg hO]
      rw [h, h]
theorem zgM_inj {E : zyEm} {r c s s2 : Nat} {t : Int32} (h1 : 1 ≤ r) (h2 : r ≤ 4) (h3 : 1 ≤ c) (h4 : c ≤ 5) (hr : zgr E = r) (hc : zgc E = c) (hs : s < zgNS r c) (hs2 : s2 < zgNS r c) (h : zgM E s t = zgM E s2 t) : s = s2 := by
  unfold zgM at h
  rw [hc] at h
  have f1 := zgfacts h1 h2 h3 h4 hs
  have f2 := zgfacts h1 h2 h3 h4 hs2
  have e : zgT c s = zgT c s2 := by
    rw [← zgV_inv (t := t) h1 h2 h3 h4 hr hc f1.1, h, zgV_inv h1 h2 h3 h4 hr hc f2.1]
  rw [← f1.2.1, e, f2.2.1]
theorem zymapped {l : Launch} {J : zyJt} (hJ : zyJr J) {r c : Nat} (h1 : 1 ≤ r) (h2 : r ≤ 4) (h3 : 1 ≤ c) (h4 : c ≤ 5) {en : zEn} {me : zMe} (hen : zG zxMeta 212 = some en) (hme : zG zMeth 212 = some me) : zyCon l (zymr r c) J en me ([595, zyS r c, 34359738362], [], [zyS r c, 5], 7, [], []) := by
  have een : zG zxMeta 212 = some (zxi212, 3, 3, 11, 212, 0, 0, 1, 0) := rfl
  rw [een] at hen
  cases hen
  have hrc := zyrc20 h2 h4
  have hNS := zgNS_le h2 h4
  refine zyone2 hJ h2 h4 een hme rfl rfl (zyCm_ok hJ h1 h2 h3 h4) (by decide) zychM (zyAllP_iff zyrunM_all h1 h2 h3 h4) (by decide) zyno1 ?_
  intro X w v F x y z hJ2 hE hF hN hx hy hrr hcc ex hxs hch hz _
  obtain ⟨-, h⟩ := zand_iff hch
  obtain ⟨a, x1, y1, z1, a1, a2, a3, hrel, h⟩ := zqfn_iff (id := 0) hF h
  obtain ⟨ka, h⟩ := zand_iff h
  obtain ⟨b, x3, y3, z3, b1, b2, b3, hrel3, h⟩ := zqfn_iff (id := 4) hF h
  obtain ⟨kb, h⟩ := zand_iff h
  rw [hJ2] at hrel hrel3
  have e1 := zyv_one (zysym_k 1) (zysym_v (show 1 < zyN X by omega)) a1
  rw [hx] at e1
  have hz1 := zyRr0_0 (zyRr_get (by decide) hrel)
  rw [← e1, hcc] at hz1
  have e5 := zyv_one (zbleT ka) a3 b1
  have e6 := zyv_one (zysym_k 2) (zysym_v (show 2 < zyN X by omega)) b2
  rw [hy] at e6
  have hz3 := zyRr0_4 (zyRr_get (by decide) hrel3)
  have hT := (zgfacts h1 h2 h3 h4 hxs).1
  rw [← e5, ← e6, hz1, zyN1_of (by omega)] at hz3
  have hzv := hz _ (zylb_iff h)
  obtain ⟨z2, rfl⟩ := zyv_int hzv (by have : b % 8 ≤ 1 := zbleT kb; omega)
  have e9 := zyv_one (zbleT kb) hzv b3
  subst e9
  have hM : z2 = Int32.ofNat (zgM (zyres (zyE X)) (zyN1 x) y) := by
    unfold zgM
    rw [hcc]
    exact hz3
  refine ⟨z2, rfl, fun ρ N ad => ?_, Or.inr (Or.inr (Or.inr (Or.inr (Or.inr (Or.inl ⟨rfl, hM⟩)))))⟩
  rw [hM]
  exact zyS_mk hrc (zgM_lt h1 h2 h3 h4 hrr hcc hxs) ρ N ad
