/-! THE LAW'S LOOP -/
section ZLV
variable {p : Program} {l : Launch} {e : Env} {s : State} {mt : MethodId} {below : List Frame} {meth : Method} {c : Code} {b : Nat} {X : zCx}
theorem zl_disp (hC : zLc X p s mt meth c) {L i : Nat} {xs : Nat → Int32} (hS : zSc0 s X b L xs) {ls : Array Slot} (hl : zLl X b i ls) (hi : i + 5 < L) (hcl : ∀ i, i < 277 → zyCo l zymc zyJc zyic i) (hcw : ∀ i, i < 163 → zyCo l zymc zyJc zylwt i) {N j : Nat} (hj : j ≤ 45) {H : Heap} {locs : List Loc} (hI : zLI X s N (20 * j) H) (hN : N ≤ 1000000) (hlo : ∀ x ∈ locs, zbs X ≤ x.base)
    (kk : ∀ (H3 : Heap) (locs2 : List Loc) (j' : Nat), j' ≤ 45 → zLI X s (N + 100) (20 * j') H3 → (∀ x ∈ locs2, zbs X ≤ x.base) → zWL p l e s mt below meth c b H3 locs2 1479 ls []) {u : Nat} (hu : u < 64) : zWL p l e s mt below meth c b H locs 33 ls [.int (Int32.ofNat u)] := by
  have hexec := hC.1
  have hb := hC.2.1
  have k1 : ∀ (H3 : Heap) (locs2 : List Loc), zLI X s (N + 100) (20 * j) H3 → (∀ x ∈ locs2, zbs X ≤ x.base) → zWL p l e s mt below meth c b H3 locs2 1479 ls [] := fun H3 locs2 h h2 => kk H3 locs2 j hj h h2
  have k2 : ∀ (H3 : Heap) (locs2 : List Loc) (j' : Nat), j' ≤ 45 → zLI X s N (20 * j') H3 → (∀ x ∈ locs2, zbs X ≤ x.base) → zWL p l e s mt below meth c b H3 locs2 1479 ls [] := fun H3 locs2 j' h1 h h2 => kk H3 locs2 j' h1 (zLI_up h (by omega)) h2
  match u, hu with
  | 0, _ => exact lv_tableIn hexec hb (zdL (pc := 33) (k := 195) (ax := 0) rfl (fun q => by cases q)) (by decide) (by decide) (off := 195) rfl (tgt := 228) rfl (zl_uni (ks := []) hC hS hl hi (zUc_status hcl) zUr_status zUw_status zUm_status.1 zUm_status.2 hI hN hlo k1)
  | 1, _ => exact lv_tableIn hexec hb (zdL (pc := 33) (k := 195) (ax := 0) rfl (fun q => by cases q)) (by decide) (by decide) (off := 208) rfl (tgt := 241) rfl (zl_feed hC hS hl hi hcw hj hI hlo k2)
  | 2, _ => exact lv_tableIn hexec hb (zdL (pc := 33) (k := 195) (ax := 0) rfl (fun q => by cases q)) (by decide) (by decide) (off := 271) rfl (tgt := 304) rfl (zl_load hC hS hl hi hcw hj hI hlo k2)
  | 3, _ => exact lv_tableIn hexec hb (zdL (pc := 33) (k := 195) (ax := 0) rfl (fun q => by cases q)) (by decide) (by decide) (off := 294) rfl (tgt := 327) rfl (zl_uni (ks := [1]) hC hS hl hi (zUc_fault hcl) zUr_fault zUw_fault zUm_fault.1 zUm_fault.2 hI hN hlo k1)
  | 4, _ => exact lv_tableIn hexec hb (zdL (pc := 33) (k := 195) (ax := 0) rfl (fun q => by cases q)) (by decide) (by decide) (off := 317) rfl (tgt := 350) rfl (zl_uni (ks := [1]) hC hS hl hi (zUc_many hcl) zUr_many zUw_many zUm_many.1 zUm_many.2 hI hN hlo k1)
  | 5, _ => exact lv_tableIn hexec hb (zdL (pc := 33) (k := 195) (ax := 0) rfl (fun q => by cases q)) (by decide) (by decide) (off := 340) rfl (tgt := 373) rfl (zl_uni (ks := [1, 2]) hC hS hl hi (zUc_gate hcl) zUr_gate zUw_gate zUm_gate.1 zUm_gate.2 hI hN hlo k1)
  | 6, _ => exact lv_tableIn hexec hb (zdL (pc := 33) (k := 195) (ax := 0) rfl (fun q => by cases q)) (by decide) (by decide) (off := 373) rfl (tgt := 406) rfl (zl_trC (ks := [1, 2]) (enc := (zxi125, 3, 3, 10, 125, 0, 0, 1, 0)) (enr := (zxi264, 3, 3, 11, 264, 0, 0, 1, 0)) hC hS hl hi (zUc_bit hcl) zUr_bit (d1 := 4) (d18 := 4) (d2 := 4) (by decide) (by decide) (by decide) zUw_bit ⟨rfl, rfl, rfl, rfl, rfl, rfl⟩ ⟨rfl, rfl, rfl, rfl, rfl, rfl⟩ (fun me hme => xCbt1 rfl hme X) (fun me hme => xCbt18 rfl hme X) (fun me hme => xBt rfl hme X) (fun x E h => h) (fun x E h => h) (fun x E h => h) sbt1 sbt18 hI hN hlo k1)
  | 7, _ => exact lv_tableIn hexec hb (zdL (pc := 33) (k := 195) (ax := 0) rfl (fun q => by cases q)) (by decide) (by decide) (off := 406) rfl (tgt := 439) rfl (zl_uni (ks := [1, 2]) hC hS hl hi (zUc_bobbin hcl) zUr_bobbin zUw_bobbin zUm_bobbin.1 zUm_bobbin.2 hI hN hlo k1)
  | 8, _ => exact lv_tableIn hexec hb (zdL (pc := 33) (k := 195) (ax := 0) rfl (fun q => by cases q)) (by decide) (by decide) (off := 439) rfl (tgt := 472) rfl (zl_uni (ks := [1]) hC hS hl hi (zUc_at hcl) zUr_at zUw_at zUm_at.1 zUm_at.2 hI hN hlo k1)
  | 9, _ => exact lv_tableIn hexec hb (zdL (pc := 33) (k := 195) (ax := 0) rfl (fun q => by cases q)) (by decide) (by decide) (off := 462) rfl (tgt := 495) rfl (zl_uni (ks := [1]) hC hS hl hi (zUc_faces hcl) zUr_faces zUw_faces zUm_faces.1 zUm_faces.2 hI hN hlo k1)
  | 10, _ => exact lv_tableIn hexec hb (zdL (pc := 33) (k := 195) (ax := 0) rfl (fun q => by cases q)) (by decide) (by decide) (off := 485) rfl (tgt := 518) rfl (zl_trP (ks := [1, 2, 3]) (enc := (zxi129, 4, 4, 10, 129, 0, 0, 1, 0)) (enr := (zxi270, 4, 4, 11, 270, 0, 0, 1, 0)) hC hS hl hi (zUc_program hcl) zUr_program (d1 := 4) (d18 := 4) (d2 := 4) (by decide) (by decide) (by decide) zUw_program ⟨rfl, rfl, rfl, rfl, rfl, rfl⟩ ⟨rfl, rfl, rfl, rfl, rfl, rfl⟩ (fun me hme => xCpg1 rfl hme X) (fun me hme => xCpg18 rfl hme X) (fun me hme => xPg rfl hme X) (fun x E h => h) (fun x E h => h) (fun x E h => h) spg1 spg18 hI hN hlo k1)
  | 11, _ => exact lv_tableIn hexec hb (zdL (pc := 33) (k := 195) (ax := 0) rfl (fun q => by cases q)) (by decide) (by decide) (off := 528) rfl (tgt := 561) rfl (zl_trP (ks := [1, 2]) (enc := (zxi130, 3, 4, 10, 130, 0, 0, 1, 0)) (enr := (zxi271, 3, 4, 11, 271, 0, 0, 1, 0)) hC hS hl hi (zUc_stick hcl) zUr_stick (d1 := 4) (d18 := 4) (d2 := 4) (by decide) (by decide) (by decide) zUw_stick ⟨rfl, rfl, rfl, rfl, rfl, rfl⟩ ⟨rfl, rfl, rfl, rfl, rfl, rfl⟩ (fun me hme => xCst1 rfl hme X) (fun me hme => xCst18 rfl hme X) (fun me hme => xSk2 rfl hme X) (fun x E h => h) (fun x E h => h) (fun x E h => h) sst1 sst18 hI hN hlo k1)
  | 12, _ => exact lv_tableIn hexec hb (zdL (pc := 33) (k := 195) (ax := 0) rfl (fun q => by cases q)) (by decide) (by decide) (off := 561) rfl (tgt := 594) rfl (zl_free hC hS hl hi (zUc_free hcl) zUr_free hI hN hlo k1)
  | 13, _ => exact lv_tableIn hexec hb (zdL (pc := 33) (k := 195) (ax := 0) rfl (fun q => by cases q)) (by decide) (by decide) (off := 610) rfl (tgt := 643) rfl (zl_uni (ks := [1]) hC hS hl hi (zUc_put hcl) zUr_put zUw_put zUm_put.1 zUm_put.2 hI hN hlo k1)
  | 14, _ => exact lv_tableIn hexec hb (zdL (pc := 33) (k := 195) (ax := 0) rfl (fun q => by cases q)) (by decide) (by decide) (off := 633) rfl (tgt := 666) rfl (zl_uni (ks := [1]) hC hS hl hi (zUc_take hcl) zUr_take zUw_take zUm_take.1 zUm_take.2 hI hN hlo k1)
  | 15, _ => exact lv_tableIn hexec hb (zdL (pc := 33) (k := 195) (ax := 0) rfl (fun q => by cases q)) (by decide) (by decide) (off := 656) rfl (tgt := 689) rfl (zl_uni (ks := [1, 2]) hC hS hl hi (zUc_wish hcl) zUr_wish zUw_wish zUm_wish.1 zUm_wish.2 hI hN hlo k1)
  | 16, _ => exact lv_tableIn hexec hb (zdL (pc := 33) (k := 195) (ax := 0) rfl (fun q => by cases q)) (by decide) (by decide) (off := 689) rfl (tgt := 722) rfl (zl_uni (ks := [1]) hC hS hl hi (zUc_step hcl) zUr_step zUw_step zUm_step.1 zUm_step.2 hI hN hlo k1)
  | 17, _ => exact lv_tableIn hexec hb (zdL (pc := 33) (k := 195) (ax := 0) rfl (fun q => by cases q)) (by decide) (by decide) (off := 712) rfl (tgt := 745) rfl (zl_uni (ks := []) hC hS hl hi (zUc_reset hcl) zUr_reset zUw_reset zUm_reset.1 zUm_reset.2 hI hN hlo k1)
  | 18, _ => exact lv_tableIn hexec hb (zdL (pc := 33) (k := 195) (ax := 0) rfl (fun q => by cases q)) (by decide) (by decide) (off := 725) rfl (tgt := 758) rfl (zl_uni (ks := []) hC hS hl hi (zUc_cut hcl) zUr_cut zUw_cut zUm_cut.1 zUm_cut.2 hI hN hlo k1)
  | 19, _ => exact lv_tableIn hexec hb (zdL (pc := 33) (k := 195) (ax := 0) rfl (fun q => by cases q)) (by decide) (by decide) (off := 738) rfl (tgt := 771) rfl (zl_uni (ks := []) hC hS hl hi (zUc_print hcl) zUr_print zUw_print zUm_print.1 zUm_print.2 hI hN hlo k1)
  | 20, _ => exact lv_tableIn hexec hb (zdL (pc := 33) (k := 195) (ax := 0) rfl (fun q => by cases q)) (by decide) (by decide) (off := 751) rfl (tgt := 784) rfl (zl_uni (ks := [1]) hC hS hl hi (zUc_out hcl) zUr_out zUw_out zUm_out.1 zUm_out.2 hI hN hlo k1)
  | 21, _ => exact lv_tableIn hexec hb (zdL (pc := 33) (k := 195) (ax := 0) rfl (fun q => by cases q)) (by decide) (by decide) (off := 774) rfl (tgt := 807) rfl (zl_uni (ks := [1, 2]) hC hS hl hi (zUc_map hcl) zUr_map zUw_map zUm_map.1 zUm_map.2 hI hN hlo k1)
  | 22, _ => exact lv_tableIn hexec hb (zdL (pc := 33) (k := 195) (ax := 0) rfl (fun q => by cases q)) (by decide) (by decide) (off := 807) rfl (tgt := 840) rfl (zl_uni (ks := [1, 2, 3]) hC hS hl hi (zUc_ride hcl) zUr_ride zUw_ride zUm_ride.1 zUm_ride.2 hI hN hlo k1)
  | 23, _ => exact lv_tableIn hexec hb (zdL (pc := 33) (k := 195) (ax := 0) rfl (fun q => by cases q)) (by decide) (by decide) (off := 850) rfl (tgt := 883) rfl (zl_uni (ks := [1]) hC hS hl hi (zUc_round hcl) zUr_round zUw_round zUm_round.1 zUm_round.2 hI hN hlo k1)
  | 24, _ => exact lv_tableIn hexec hb (zdL (pc := 33) (k := 195) (ax := 0) rfl (fun q => by cases q)) (by decide) (by decide) (off := 873) rfl (tgt := 906) rfl (zl_uni (ks := [1, 2]) hC hS hl hi (zUc_track hcl) zUr_track zUw_track zUm_track.1 zUm_track.2 hI hN hlo k1)
  | 25, _ => exact lv_tableIn hexec hb (zdL (pc := 33) (k := 195) (ax := 0) rfl (fun q => by cases q)) (by decide) (by decide) (off := 906) rfl (tgt := 939) rfl (zl_uni (ks := [1]) hC hS hl hi (zUc_tracks hcl) zUr_tracks zUw_tracks zUm_tracks.1 zUm_tracks.2 hI hN hlo k1)
  | 26, _ => exact lv_tableIn hexec hb (zdL (pc := 33) (k := 195) (ax := 0) rfl (fun q => by cases q)) (by decide) (by decide) (off := 929) rfl (tgt := 962) rfl (zl_uni (ks := [1]) hC hS hl hi (zUc_ofLength hcl) zUr_ofLength zUw_ofLength zUm_ofLength.1 zUm_ofLength.2 hI hN hlo k1)
  | 27, _ => exact lv_tableIn hexec hb (zdL (pc := 33) (k := 195) (ax := 0) rfl (fun q => by cases q)) (by decide) (by decide) (off := 952) rfl (tgt := 985) rfl (zl_uni (ks := [1, 2, 3]) hC hS hl hi (zUc_meets hcl) zUr_meets zUw_meets zUm_meets.1 zUm_meets.2 hI hN hlo k1)
  | 28, _ => exact lv_tableIn hexec hb (zdL (pc := 33) (k := 195) (ax := 0) rfl (fun q => by cases q)) (by decide) (by decide) (off := 995) rfl (tgt := 1028) rfl (zl_uni (ks := [1]) hC hS hl hi (zUc_crash hcl) zUr_crash zUw_crash zUm_crash.1 zUm_crash.2 hI hN hlo k1)
  | 29, _ => exact lv_tableIn hexec hb (zdL (pc := 33) (k := 195) (ax := 0) rfl (fun q => by cases q)) (by decide) (by decide) (off := 1018) rfl (tgt := 1051) rfl (zl_uni (ks := []) hC hS hl hi (zUc_repeat hcl) zUr_repeat zUw_repeat zUm_repeat.1 zUm_repeat.2 hI hN hlo k1)
  | 30, _ => exact lv_tableIn hexec hb (zdL (pc := 33) (k := 195) (ax := 0) rfl (fun q => by cases q)) (by decide) (by decide) (off := 1031) rfl (tgt := 1064) rfl (zl_uni (ks := [1]) hC hS hl hi (zUc_laid hcl) zUr_laid zUw_laid zUm_laid.1 zUm_laid.2 hI hN hlo k1)
  | 31, _ => exact lv_tableIn hexec hb (zdL (pc := 33) (k := 195) (ax := 0) rfl (fun q => by cases q)) (by decide) (by decide) (off := 1054) rfl (tgt := 1087) rfl (zl_uni (ks := [1]) hC hS hl hi (zUc_letter hcl) zUr_letter zUw_letter zUm_letter.1 zUm_letter.2 hI hN hlo k1)
  | 32, _ => exact lv_tableIn hexec hb (zdL (pc := 33) (k := 195) (ax := 0) rfl (fun q => by cases q)) (by decide) (by decide) (off := 1077) rfl (tgt := 1110) rfl (zl_uni (ks := [1]) hC hS hl hi (zUc_wished hcl) zUr_wished zUw_wished zUm_wished.1 zUm_wished.2 hI hN hlo k1)
  | 33, _ => exact lv_tableIn hexec hb (zdL (pc := 33) (k := 195) (ax := 0) rfl (fun q => by cases q)) (by decide) (by decide) (off := 1100) rfl (tgt := 1133) rfl (zl_uni (ks := [1]) hC hS hl hi (zUc_braid hcl) zUr_braid zUw_braid zUm_braid.1 zUm_braid.2 hI hN hlo k1)
  | 34, _ => exact lv_tableIn hexec hb (zdL (pc := 33) (k := 195) (ax := 0) rfl (fun q => by cases q)) (by decide) (by decide) (off := 1123) rfl (tgt := 1156) rfl (zl_uni (ks := [1]) hC hS hl hi (zUc_ends hcl) zUr_ends zUw_ends zUm_ends.1 zUm_ends.2 hI hN hlo k1)
  | 35, _ => exact lv_tableIn hexec hb (zdL (pc := 33) (k := 195) (ax := 0) rfl (fun q => by cases q)) (by decide) (by decide) (off := 1146) rfl (tgt := 1179) rfl (zl_uni (ks := [1, 2]) hC hS hl hi (zUc_pair hcl) zUr_pair zUw_pair zUm_pair.1 zUm_pair.2 hI hN hlo k1)
  | 36, _ => exact lv_tableIn hexec hb (zdL (pc := 33) (k := 195) (ax := 0) rfl (fun q => by cases q)) (by decide) (by decide) (off := 1179) rfl (tgt := 1212) rfl (zl_uni (ks := [1, 2]) hC hS hl hi (zUc_thread hcl) zUr_thread zUw_thread zUm_thread.1 zUm_thread.2 hI hN hlo k1)
  | 37, _ => exact lv_tableIn hexec hb (zdL (pc := 33) (k := 195) (ax := 0) rfl (fun q => by cases q)) (by decide) (by decide) (off := 1212) rfl (tgt := 1245) rfl (zl_uni (ks := [1]) hC hS hl hi (zUc_times hcl) zUr_times zUw_times zUm_times.1 zUm_times.2 hI hN hlo k1)
  | 38, _ => exact lv_tableIn hexec hb (zdL (pc := 33) (k := 195) (ax := 0) rfl (fun q => by cases q)) (by decide) (by decide) (off := 1235) rfl (tgt := 1268) rfl (zl_uni (ks := [1]) hC hS hl hi (zUc_search hcl) zUr_search zUw_search zUm_search.1 zUm_search.2 hI hN hlo k1)
  | 39, _ => exact lv_tableIn hexec hb (zdL (pc := 33) (k := 195) (ax := 0) rfl (fun q => by cases q)) (by decide) (by decide) (off := 1258) rfl (tgt := 1291) rfl (zl_uni (ks := [1, 2, 3]) hC hS hl hi (zUc_refusal hcl) zUr_refusal zUw_refusal zUm_refusal.1 zUm_refusal.2 hI hN hlo k1)
  | 40, _ => exact lv_tableIn hexec hb (zdL (pc := 33) (k := 195) (ax := 0) rfl (fun q => by cases q)) (by decide) (by decide) (off := 1301) rfl (tgt := 1334) rfl (zl_uni (ks := [1, 2]) hC hS hl hi (zUc_refused hcl) zUr_refused zUw_refused zUm_refused.1 zUm_refused.2 hI hN hlo k1)
  | 41, _ => exact lv_tableIn hexec hb (zdL (pc := 33) (k := 195) (ax := 0) rfl (fun q => by cases q)) (by decide) (by decide) (off := 1334) rfl (tgt := 1367) rfl (zl_uni (ks := [1, 2, 3]) hC hS hl hi (zUc_seen hcl) zUr_seen zUw_seen zUm_seen.1 zUm_seen.2 hI hN hlo k1)
  | 42, _ => exact lv_tableIn hexec hb (zdL (pc := 33) (k := 195) (ax := 0) rfl (fun q => by cases q)) (by decide) (by decide) (off := 1377) rfl (tgt := 1410) rfl (zl_uni (ks := []) hC hS hl hi (zUc_forget hcl) zUr_forget zUw_forget zUm_forget.1 zUm_forget.2 hI hN hlo k1)
  | 43, _ => exact lv_tableIn hexec hb (zdL (pc := 33) (k := 195) (ax := 0) rfl (fun q => by cases q)) (by decide) (by decide) (off := 1390) rfl (tgt := 1423) rfl (zl_uni (ks := [1]) hC hS hl hi (zUc_name hcl) zUr_name zUw_name zUm_name.1 zUm_name.2 hI hN hlo k1)
  | 44, _ => exact lv_tableIn hexec hb (zdL (pc := 33) (k := 195) (ax := 0) rfl (fun q => by cases q)) (by decide) (by decide) (off := 1413) rfl (tgt := 1446) rfl (zl_uni (ks := [1, 2]) hC hS hl hi (zUc_named hcl) zUr_named zUw_named zUm_named.1 zUm_named.2 hI hN hlo k1)
  | u + 45, hu =>
    have e : (Int32.ofNat (u + 45)).toInt = ((u + 45 : Nat) : Int) := Int32.toInt_ofNat_of_lt (by omega)
    exact lv_tableOut hexec hb (zdL (pc := 33) (k := 195) (ax := 0) rfl (fun q => by cases q)) (Or.inr (by rw [e]; omega)) (tgt := 1479) rfl (kk H locs j hj (zLI_up hI (by omega)) hlo)
theorem zand63 (x : Int32) : ∃ u, u < 64 ∧ x &&& Int32.ofNat 63 = Int32.ofNat u := by
  refine ⟨(x &&& Int32.ofNat 63).toBitVec.toNat, ?_, ?_⟩
  · rw [Int32.toBitVec_and, BitVec.toNat_and]
    have h : (Int32.ofNat 63).toBitVec.toNat = 63 := by decide
    rw [h]
    exact Nat.lt_of_le_of_lt Nat.and_le_right (by decide)
  · refine Int32.toBitVec_inj.mp ?_
    show _ = BitVec.ofNat 32 _
    rw [BitVec.ofNat_toNat, BitVec.setWidth_eq]
theorem zl_head (hC : zLc X p s mt meth c) {L it : Nat} {xs : Nat → Int32} (hS : zSc0 s X b L xs) {N q0 : Nat} {H : Heap} {locs : List Loc} {ls : Array Slot} (hI : zLI X s N q0 H) (hl : zLl X b (6 * it) ls) (hlo : ∀ x ∈ locs, zbs X ≤ x.base) (h2 : 6 * it ≤ L) (kk : 6 * it + 5 < L → zWL p l e s mt below meth c b H locs 27 ls []) : zWL p l e s mt below meth c b H locs 18 ls [] := by
  have hexec := hC.1
  have hb := hC.2.1
  obtain ⟨⟨scr, g1, g2, g3, g4, g5⟩, hbl, hH0, hL⟩ := hS
  have hc : H[b]? = some scr := by rw [zLI_h hI b hbl, hH0]; exact g1
  refine lv_iload_n hexec hb (zdL (pc := 18) (k := 1) (ax := 0) rfl (fun q => by cases q)) rfl (lv_at hl 0 rfl) ?_
  refine lv_aload_n hexec hb (zdL (pc := 19) (k := 1) (ax := 0) rfl (fun q => by cases q)) rfl (lv_at hl 3 rfl) ?_
  refine W.alen (n := Int32.ofNat L) hexec hb hc g2 (by rw [g4]) rfl rfl (zdL (pc := 20) (k := 1) (ax := 0) rfl (fun q => by cases q)) ?_
  refine lv_bipush hexec hb (zdL (pc := 21) (k := 2) (ax := 0) rfl (fun q => by cases q)) (v := Int32.ofNat 6) rfl ?_
  refine lv_isub hexec hb (zdL (pc := 23) (k := 1) (ax := 0) rfl (fun q => by cases q)) ?_
  have b1 : zB (Int32.ofNat L) = L + 2147483648 := zyBn (by omega)
  have b2 : zB (Int32.ofNat 6) = 6 + 2147483648 := zyBn (by omega)
  have b3 : zB (Int32.ofNat (6 * it)) = 6 * it + 2147483648 := zyBn (by omega)
  have b4 := zB_sub2 (x := Int32.ofNat L) (y := Int32.ofNat 6) (by omega) (by omega)
  refine lv_icmp_gt hexec hb (zdL (pc := 24) (k := 3) (ax := 1485) rfl (fun q => by cases q)) (tgt := 1485) rfl (fun _ => ?_) (fun q => ?_)
  · refine lv_iconst hexec hb (zdL (pc := 1485) (k := 1) (ax := 0) rfl (fun q => by cases q)) (v := 1) rfl ?_
    refine W.widen (by decide) (by decide) (va_forget (fun q hq => ?_) (lw_ret hexec hb hC.2.2.1 hC.2.2.2.1 (zdL (pc := 1486) (k := 1) (ax := 0) rfl (fun q => by cases q))))
    rw [← hC.2.2.2.2.2.2.2]
    exact hlo q hq
  · rw [zB_slt, b4, b1, b2, b3] at q
    exact kk (by omega)
theorem zl_loop (hC : zLc X p s mt meth c) {L : Nat} {xs : Nat → Int32} (hS : zSc0 s X b L xs) (hcl : ∀ i, i < 277 → zyCo l zymc zyJc zyic i) (hcw : ∀ i, i < 163 → zyCo l zymc zyJc zylwt i) : ∀ (m it j : Nat) (H : Heap) (locs : List Loc) (ls : Array Slot), L ≤ 6 * it + 5 + 6 * m → 6 * it ≤ L → j ≤ 45 → zLI X s (100 * it) (20 * j) H → zLl X b (6 * it) ls → (∀ x ∈ locs, zbs X ≤ x.base) → zWL p l e s mt below meth c b H locs 18 ls [] := by
  have hexec := hC.1
  have hb := hC.2.1
  have hL := hS.2.2.2
  intro m
  induction m with
  | zero =>
    intro it j H locs ls h1 h2 hj hI hl hlo
    have := zl_head (it := it) hC hS hI hl hlo h2 (p := p) (l := l) (e := e) (mt := mt) (below := below) (meth := meth) (c := c)
    refine this (fun h => ?_)
    omega
  | succ m ih =>
    intro it j H locs ls h1 h2 hj hI hl hlo
    refine zl_head (it := it) hC hS hI hl hlo h2 (fun h => ?_)
    refine lv_aload_n hexec hb (zdL (pc := 27) (k := 1) (ax := 0) rfl (fun q => by cases q)) rfl (lv_at hl 3 rfl) ?_
    refine lv_iload_n hexec hb (zdL (pc := 28) (k := 1) (ax := 0) rfl (fun q => by cases q)) rfl (lv_at hl 0 rfl) ?_
    refine zl_ald (i := 6 * it) (k := 0) hC hS (zLI_h hI) (by omega) (pc := 29) rfl ?_
    refine lv_bipush hexec hb (zdL (pc := 30) (k := 2) (ax := 0) rfl (fun q => by cases q)) (v := Int32.ofNat 63) rfl ?_
    refine lv_iand hexec hb (zdL (pc := 32) (k := 1) (ax := 0) rfl (fun q => by cases q)) ?_
    obtain ⟨u, hu, eu⟩ := zand63 (xs (6 * it + 0))
    rw [eu]
    refine zl_disp hC hS hl (by omega) hcl hcw hj hI (by omega) hlo (fun H3 locs2 j' hj' hI3 hlo2 => ?_) hu
    refine lv_iinc hexec hb (zdL (pc := 1479) (k := 3) (ax := 0) rfl (fun q => by cases q)) hl (k := 0) rfl (v := Int32.ofNat (6 * (it + 1))) ?_ (by decide) rfl (fun ls' hl' => ?_)
    · rw [show Int32.ofInt 6 = Int32.ofNat 6 from rfl, zyOa]
      rfl
    · exact lv_goto hexec hb (zdL (pc := 1482) (k := 3) (ax := 18) rfl (fun q => by cases q)) (tgt := 18) rfl (ih (it + 1) j' H3 locs2 ls' (by omega) (by omega) hj' (zLI_up hI3 (by omega)) hl' hlo2)
end ZLV
