/-! IN THE LAW'S LOOP: which contract serves which call (printed by a program) -/
section ZLZ
variable {l : Launch}
theorem zUc_status (hcl : ∀ i, i < 277 → zyCo l zymc zyJc zyic i) : zUC l 119 0 (fun _ => True) := zUC_of (hcl 7 (by decide)) rfl rfl rfl (by decide) rfl (by show 1 ≤ 100; decide) rfl rfl rfl (fun _ => rfl) rfl
theorem zUr_status : zUR l 189 0 (fun _ => True) := zUR_of (dep := 1) (by decide) (fun r c h1 h2 h3 h4 en me he hm => zystatus_W h1 h2 h3 h4 he hm)
theorem zUw_status : zUr 228 [] 119 189 := ⟨rfl, trivial, ⟨_, _, rfl, rfl⟩, rfl, rfl, trivial, ⟨_, _, rfl, rfl⟩, rfl, _, _, rfl, rfl⟩
theorem zUm_status : zUm 119 0 10 ∧ zUm 189 0 11 := ⟨⟨rfl, _, rfl, rfl, rfl, rfl, rfl⟩, ⟨rfl, _, rfl, rfl, rfl, rfl, rfl⟩⟩
theorem zUc_fault (hcl : ∀ i, i < 277 → zyCo l zymc zyJc zyic i) : zUC l 122 1 (fun _ => True) := zUC_of (hcl 38 (by decide)) rfl rfl rfl (by decide) rfl (by show 1 ≤ 100; decide) rfl rfl rfl (fun _ => rfl) rfl
theorem zUr_fault : zUR l 330 1 (fun _ => True) := zUR_of (dep := 1) (by decide) (fun r c h1 h2 h3 h4 en me he hm => zyfault_W h1 h2 h3 h4 he hm)
theorem zUw_fault : zUr 327 [1] 122 330 := ⟨rfl, ⟨⟨rfl, rfl, rfl, rfl, rfl, by decide⟩, trivial⟩, ⟨_, _, rfl, rfl⟩, rfl, rfl, ⟨⟨rfl, rfl, rfl, rfl, rfl, by decide⟩, trivial⟩, ⟨_, _, rfl, rfl⟩, rfl, _, _, rfl, rfl⟩
theorem zUm_fault : zUm 122 1 10 ∧ zUm 330 1 11 := ⟨⟨rfl, _, rfl, rfl, rfl, rfl, rfl⟩, ⟨rfl, _, rfl, rfl, rfl, rfl, rfl⟩⟩
theorem zUc_many (hcl : ∀ i, i < 277 → zyCo l zymc zyJc zyic i) : zUC l 123 1 (fun _ => True) := zUC_of (hcl 41 (by decide)) rfl rfl rfl (by decide) rfl (by show 4 ≤ 100; decide) rfl rfl rfl (fun _ => rfl) rfl
theorem zUr_many : zUR l 262 1 (fun _ => True) := zUR_of (dep := 14) (by decide) (fun r c h1 h2 h3 h4 en me he hm => zymany_W h1 h2 h3 h4 he hm)
theorem zUw_many : zUr 350 [1] 123 262 := ⟨rfl, ⟨⟨rfl, rfl, rfl, rfl, rfl, by decide⟩, trivial⟩, ⟨_, _, rfl, rfl⟩, rfl, rfl, ⟨⟨rfl, rfl, rfl, rfl, rfl, by decide⟩, trivial⟩, ⟨_, _, rfl, rfl⟩, rfl, _, _, rfl, rfl⟩
theorem zUm_many : zUm 123 1 10 ∧ zUm 262 1 11 := ⟨⟨rfl, _, rfl, rfl, rfl, rfl, rfl⟩, ⟨rfl, _, rfl, rfl, rfl, rfl, rfl⟩⟩
theorem zUc_gate (hcl : ∀ i, i < 277 → zyCo l zymc zyJc zyic i) : zUC l 124 2 (fun _ => True) := zUC_of (hcl 42 (by decide)) rfl rfl rfl (by decide) rfl (by show 4 ≤ 100; decide) rfl rfl rfl (fun _ => rfl) rfl
theorem zUr_gate : zUR l 263 2 (fun _ => True) := zUR_of (dep := 5) (by decide) (fun r c h1 h2 h3 h4 en me he hm => zygate_W h1 h2 h3 h4 he hm)
theorem zUw_gate : zUr 373 [1, 2] 124 263 := ⟨rfl, ⟨⟨rfl, rfl, rfl, rfl, rfl, by decide⟩, ⟨rfl, rfl, rfl, rfl, rfl, by decide⟩, trivial⟩, ⟨_, _, rfl, rfl⟩, rfl, rfl, ⟨⟨rfl, rfl, rfl, rfl, rfl, by decide⟩, ⟨rfl, rfl, rfl, rfl, rfl, by decide⟩, trivial⟩, ⟨_, _, rfl, rfl⟩, rfl, _, _, rfl, rfl⟩
theorem zUm_gate : zUm 124 2 10 ∧ zUm 263 2 11 := ⟨⟨rfl, _, rfl, rfl, rfl, rfl, rfl⟩, ⟨rfl, _, rfl, rfl, rfl, rfl, rfl⟩⟩
theorem zUc_bit (hcl : ∀ i, i < 277 → zyCo l zymc zyJc zyic i) : zUCv l 125 2 (fun _ => True) := zUCv_of (hcl 43 (by decide)) rfl rfl rfl (by decide) rfl (by show 2 ≤ 100; decide) rfl rfl rfl (fun _ => rfl)
theorem zUr_bit : zURv l 264 2 (fun _ => True) := zURv_of (dep := 4) (by decide) (fun r c h1 h2 h3 h4 en me he hm => zybit_V h1 h2 h3 h4 he hm)
theorem zUw_bit : zUk 406 [1, 2] 125 264 := ⟨rfl, ⟨⟨rfl, rfl, rfl, rfl, rfl, by decide⟩, ⟨rfl, rfl, rfl, rfl, rfl, by decide⟩, trivial⟩, ⟨_, _, rfl, rfl⟩, rfl, ⟨⟨rfl, rfl, rfl, rfl, rfl, by decide⟩, ⟨rfl, rfl, rfl, rfl, rfl, by decide⟩, trivial⟩, ⟨_, _, rfl, rfl⟩, _, rfl, rfl⟩
theorem zUc_bobbin (hcl : ∀ i, i < 277 → zyCo l zymc zyJc zyic i) : zUC l 126 2 (fun _ => True) := zUC_of (hcl 45 (by decide)) rfl rfl rfl (by decide) rfl (by show 3 ≤ 100; decide) rfl rfl rfl (fun _ => rfl) rfl
theorem zUr_bobbin : zUR l 266 2 (fun _ => True) := zUR_of (dep := 7) (by decide) (fun r c h1 h2 h3 h4 en me he hm => zybobbin_W h1 h2 h3 h4 he hm)
theorem zUw_bobbin : zUr 439 [1, 2] 126 266 := ⟨rfl, ⟨⟨rfl, rfl, rfl, rfl, rfl, by decide⟩, ⟨rfl, rfl, rfl, rfl, rfl, by decide⟩, trivial⟩, ⟨_, _, rfl, rfl⟩, rfl, rfl, ⟨⟨rfl, rfl, rfl, rfl, rfl, by decide⟩, ⟨rfl, rfl, rfl, rfl, rfl, by decide⟩, trivial⟩, ⟨_, _, rfl, rfl⟩, rfl, _, _, rfl, rfl⟩
theorem zUm_bobbin : zUm 126 2 10 ∧ zUm 266 2 11 := ⟨⟨rfl, _, rfl, rfl, rfl, rfl, rfl⟩, ⟨rfl, _, rfl, rfl, rfl, rfl, rfl⟩⟩
theorem zUc_at (hcl : ∀ i, i < 277 → zyCo l zymc zyJc zyic i) : zUC l 127 1 (fun _ => True) := zUC_of (hcl 47 (by decide)) rfl rfl rfl (by decide) rfl (by show 3 ≤ 100; decide) rfl rfl rfl (fun _ => rfl) rfl
theorem zUr_at : zUR l 268 1 (fun _ => True) := zUR_of (dep := 3) (by decide) (fun r c h1 h2 h3 h4 en me he hm => zyat_W h1 h2 h3 h4 he hm)
theorem zUw_at : zUr 472 [1] 127 268 := ⟨rfl, ⟨⟨rfl, rfl, rfl, rfl, rfl, by decide⟩, trivial⟩, ⟨_, _, rfl, rfl⟩, rfl, rfl, ⟨⟨rfl, rfl, rfl, rfl, rfl, by decide⟩, trivial⟩, ⟨_, _, rfl, rfl⟩, rfl, _, _, rfl, rfl⟩
theorem zUm_at : zUm 127 1 10 ∧ zUm 268 1 11 := ⟨⟨rfl, _, rfl, rfl, rfl, rfl, rfl⟩, ⟨rfl, _, rfl, rfl, rfl, rfl, rfl⟩⟩
theorem zUc_faces (hcl : ∀ i, i < 277 → zyCo l zymc zyJc zyic i) : zUC l 128 1 (fun _ => True) := zUC_of (hcl 48 (by decide)) rfl rfl rfl (by decide) rfl (by show 2 ≤ 100; decide) rfl rfl rfl (fun _ => rfl) rfl
theorem zUr_faces : zUR l 269 1 (fun _ => True) := zUR_of (dep := 7) (by decide) (fun r c h1 h2 h3 h4 en me he hm => zyfaces_W h1 h2 h3 h4 he hm)
theorem zUw_faces : zUr 495 [1] 128 269 := ⟨rfl, ⟨⟨rfl, rfl, rfl, rfl, rfl, by decide⟩, trivial⟩, ⟨_, _, rfl, rfl⟩, rfl, rfl, ⟨⟨rfl, rfl, rfl, rfl, rfl, by decide⟩, trivial⟩, ⟨_, _, rfl, rfl⟩, rfl, _, _, rfl, rfl⟩
theorem zUm_faces : zUm 128 1 10 ∧ zUm 269 1 11 := ⟨⟨rfl, _, rfl, rfl, rfl, rfl, rfl⟩, ⟨rfl, _, rfl, rfl, rfl, rfl, rfl⟩⟩
theorem zUc_program (hcl : ∀ i, i < 277 → zyCo l zymc zyJc zyic i) : zUCv l 129 3 (fun _ => True) := zUCv_of (hcl 49 (by decide)) rfl rfl rfl (by decide) rfl (by show 2 ≤ 100; decide) rfl rfl rfl (fun _ => rfl)
theorem zUr_program : zURv l 270 3 (fun _ => True) := zURv_of (dep := 4) (by decide) (fun r c h1 h2 h3 h4 en me he hm => zyprogram_V h1 h2 h3 h4 he hm)
theorem zUw_program : zUr 518 [1, 2, 3] 129 270 := ⟨rfl, ⟨⟨rfl, rfl, rfl, rfl, rfl, by decide⟩, ⟨rfl, rfl, rfl, rfl, rfl, by decide⟩, ⟨rfl, rfl, rfl, rfl, rfl, by decide⟩, trivial⟩, ⟨_, _, rfl, rfl⟩, rfl, rfl, ⟨⟨rfl, rfl, rfl, rfl, rfl, by decide⟩, ⟨rfl, rfl, rfl, rfl, rfl, by decide⟩, ⟨rfl, rfl, rfl, rfl, rfl, by decide⟩, trivial⟩, ⟨_, _, rfl, rfl⟩, rfl, _, _, rfl, rfl⟩
theorem zUc_stick (hcl : ∀ i, i < 277 → zyCo l zymc zyJc zyic i) : zUCv l 130 2 (fun _ => True) := zUCv_of (hcl 50 (by decide)) rfl rfl rfl (by decide) rfl (by show 2 ≤ 100; decide) rfl rfl rfl (fun _ => rfl)
theorem zUr_stick : zURv l 271 2 (fun _ => True) := zURv_of (dep := 4) (by decide) (fun r c h1 h2 h3 h4 en me he hm => zystick_V h1 h2 h3 h4 he hm)
theorem zUw_stick : zUr 561 [1, 2] 130 271 := ⟨rfl, ⟨⟨rfl, rfl, rfl, rfl, rfl, by decide⟩, ⟨rfl, rfl, rfl, rfl, rfl, by decide⟩, trivial⟩, ⟨_, _, rfl, rfl⟩, rfl, rfl, ⟨⟨rfl, rfl, rfl, rfl, rfl, by decide⟩, ⟨rfl, rfl, rfl, rfl, rfl, by decide⟩, trivial⟩, ⟨_, _, rfl, rfl⟩, rfl, _, _, rfl, rfl⟩
theorem zUc_free (hcl : ∀ i, i < 277 → zyCo l zymc zyJc zyic i) : zUCv l 131 2 zyBo := ⟨(zyIg zyic 51).2.1, 34359738362, fun en me he hm => hcl 51 (by decide) en me he hm, fun B as _ hb => by
    obtain ⟨x, y, rfl, hy⟩ := hb
    exact ⟨zyC0, (zyagb (J := zyJc) B [x, y] rfl ⟨x, y, rfl, hy⟩).2⟩, rfl, by decide, rfl, by show 3 ≤ 100; decide, rfl, rfl, rfl, fun _ => rfl⟩
theorem zUr_free : zURv l 272 2 zyBo := ⟨5, by decide, fun r c hp en me he hm => zyfree_V hp.1 hp.2.1 hp.2.2.1 hp.2.2.2 he hm⟩
theorem zUc_put (hcl : ∀ i, i < 277 → zyCo l zymc zyJc zyic i) : zUC l 132 1 (fun _ => True) := zUC_of (hcl 52 (by decide)) rfl rfl rfl (by decide) rfl (by show 6 ≤ 100; decide) rfl rfl rfl (fun _ => rfl) rfl
theorem zUr_put : zUR l 275 1 (fun _ => True) := zUR_of (dep := 9) (by decide) (fun r c h1 h2 h3 h4 en me he hm => zyput_W h1 h2 h3 h4 he hm)
theorem zUw_put : zUr 643 [1] 132 275 := ⟨rfl, ⟨⟨rfl, rfl, rfl, rfl, rfl, by decide⟩, trivial⟩, ⟨_, _, rfl, rfl⟩, rfl, rfl, ⟨⟨rfl, rfl, rfl, rfl, rfl, by decide⟩, trivial⟩, ⟨_, _, rfl, rfl⟩, rfl, _, _, rfl, rfl⟩
theorem zUm_put : zUm 132 1 10 ∧ zUm 275 1 11 := ⟨⟨rfl, _, rfl, rfl, rfl, rfl, rfl⟩, ⟨rfl, _, rfl, rfl, rfl, rfl, rfl⟩⟩
theorem zUc_take (hcl : ∀ i, i < 277 → zyCo l zymc zyJc zyic i) : zUC l 133 1 (fun _ => True) := zUC_of (hcl 56 (by decide)) rfl rfl rfl (by decide) rfl (by show 6 ≤ 100; decide) rfl rfl rfl (fun _ => rfl) rfl
theorem zUr_take : zUR l 276 1 (fun _ => True) := zUR_of (dep := 3) (by decide) (fun r c h1 h2 h3 h4 en me he hm => zytake_W h1 h2 h3 h4 he hm)
theorem zUw_take : zUr 666 [1] 133 276 := ⟨rfl, ⟨⟨rfl, rfl, rfl, rfl, rfl, by decide⟩, trivial⟩, ⟨_, _, rfl, rfl⟩, rfl, rfl, ⟨⟨rfl, rfl, rfl, rfl, rfl, by decide⟩, trivial⟩, ⟨_, _, rfl, rfl⟩, rfl, _, _, rfl, rfl⟩
theorem zUm_take : zUm 133 1 10 ∧ zUm 276 1 11 := ⟨⟨rfl, _, rfl, rfl, rfl, rfl, rfl⟩, ⟨rfl, _, rfl, rfl, rfl, rfl, rfl⟩⟩
theorem zUc_wish (hcl : ∀ i, i < 277 → zyCo l zymc zyJc zyic i) : zUC l 134 2 (fun _ => True) := zUC_of (hcl 57 (by decide)) rfl rfl rfl (by decide) rfl (by show 2 ≤ 100; decide) rfl rfl rfl (fun _ => rfl) rfl
theorem zUr_wish : zUR l 277 2 (fun _ => True) := zUR_of (dep := 3) (by decide) (fun r c h1 h2 h3 h4 en me he hm => zywish_W h1 h2 h3 h4 he hm)
theorem zUw_wish : zUr 689 [1, 2] 134 277 := ⟨rfl, ⟨⟨rfl, rfl, rfl, rfl, rfl, by decide⟩, ⟨rfl, rfl, rfl, rfl, rfl, by decide⟩, trivial⟩, ⟨_, _, rfl, rfl⟩, rfl, rfl, ⟨⟨rfl, rfl, rfl, rfl, rfl, by decide⟩, ⟨rfl, rfl, rfl, rfl, rfl, by decide⟩, trivial⟩, ⟨_, _, rfl, rfl⟩, rfl, _, _, rfl, rfl⟩
theorem zUm_wish : zUm 134 2 10 ∧ zUm 277 2 11 := ⟨⟨rfl, _, rfl, rfl, rfl, rfl, rfl⟩, ⟨rfl, _, rfl, rfl, rfl, rfl, rfl⟩⟩
theorem zUc_step (hcl : ∀ i, i < 277 → zyCo l zymc zyJc zyic i) : zUC l 135 1 (fun _ => True) := zUC_of (hcl 98 (by decide)) rfl rfl rfl (by decide) rfl (by show 7 ≤ 100; decide) rfl rfl rfl (fun _ => rfl) rfl
theorem zUr_step : zUR l 279 1 (fun _ => True) := zUR_of (dep := 8) (by decide) (fun r c h1 h2 h3 h4 en me he hm => zystep_W h1 h2 h3 h4 he hm)
theorem zUw_step : zUr 722 [1] 135 279 := ⟨rfl, ⟨⟨rfl, rfl, rfl, rfl, rfl, by decide⟩, trivial⟩, ⟨_, _, rfl, rfl⟩, rfl, rfl, ⟨⟨rfl, rfl, rfl, rfl, rfl, by decide⟩, trivial⟩, ⟨_, _, rfl, rfl⟩, rfl, _, _, rfl, rfl⟩
theorem zUm_step : zUm 135 1 10 ∧ zUm 279 1 11 := ⟨⟨rfl, _, rfl, rfl, rfl, rfl, rfl⟩, ⟨rfl, _, rfl, rfl, rfl, rfl, rfl⟩⟩
theorem zUc_reset (hcl : ∀ i, i < 277 → zyCo l zymc zyJc zyic i) : zUC l 136 0 (fun _ => True) := zUC_of (hcl 99 (by decide)) rfl rfl rfl (by decide) rfl (by show 6 ≤ 100; decide) rfl rfl rfl (fun _ => rfl) rfl
theorem zUr_reset : zUR l 280 0 (fun _ => True) := zUR_of (dep := 8) (by decide) (fun r c h1 h2 h3 h4 en me he hm => zyreset_W h1 h2 h3 h4 he hm)
theorem zUw_reset : zUr 745 [] 136 280 := ⟨rfl, trivial, ⟨_, _, rfl, rfl⟩, rfl, rfl, trivial, ⟨_, _, rfl, rfl⟩, rfl, _, _, rfl, rfl⟩
theorem zUm_reset : zUm 136 0 10 ∧ zUm 280 0 11 := ⟨⟨rfl, _, rfl, rfl, rfl, rfl, rfl⟩, ⟨rfl, _, rfl, rfl, rfl, rfl, rfl⟩⟩
theorem zUc_cut (hcl : ∀ i, i < 277 → zyCo l zymc zyJc zyic i) : zUC l 137 0 (fun _ => True) := zUC_of (hcl 100 (by decide)) rfl rfl rfl (by decide) rfl (by show 2 ≤ 100; decide) rfl rfl rfl (fun _ => rfl) rfl
theorem zUr_cut : zUR l 281 0 (fun _ => True) := zUR_of (dep := 8) (by decide) (fun r c h1 h2 h3 h4 en me he hm => zycut_W h1 h2 h3 h4 he hm)
theorem zUw_cut : zUr 758 [] 137 281 := ⟨rfl, trivial, ⟨_, _, rfl, rfl⟩, rfl, rfl, trivial, ⟨_, _, rfl, rfl⟩, rfl, _, _, rfl, rfl⟩
theorem zUm_cut : zUm 137 0 10 ∧ zUm 281 0 11 := ⟨⟨rfl, _, rfl, rfl, rfl, rfl, rfl⟩, ⟨rfl, _, rfl, rfl, rfl, rfl, rfl⟩⟩
theorem zUc_print (hcl : ∀ i, i < 277 → zyCo l zymc zyJc zyic i) : zUC l 138 0 (fun _ => True) := zUC_of (hcl 101 (by decide)) rfl rfl rfl (by decide) rfl (by show 12 ≤ 100; decide) rfl rfl rfl (fun _ => rfl) rfl
theorem zUr_print : zUR l 338 0 (fun _ => True) := zUR_of (dep := 10) (by decide) (fun r c h1 h2 h3 h4 en me he hm => zyprint_W h1 h2 h3 h4 he hm)
theorem zUw_print : zUr 771 [] 138 338 := ⟨rfl, trivial, ⟨_, _, rfl, rfl⟩, rfl, rfl, trivial, ⟨_, _, rfl, rfl⟩, rfl, _, _, rfl, rfl⟩
theorem zUm_print : zUm 138 0 10 ∧ zUm 338 0 11 := ⟨⟨rfl, _, rfl, rfl, rfl, rfl, rfl⟩, ⟨rfl, _, rfl, rfl, rfl, rfl, rfl⟩⟩
theorem zUc_out (hcl : ∀ i, i < 277 → zyCo l zymc zyJc zyic i) : zUC l 139 1 (fun _ => True) := zUC_of (hcl 102 (by decide)) rfl rfl rfl (by decide) rfl (by show 2 ≤ 100; decide) rfl rfl rfl (fun _ => rfl) rfl
theorem zUr_out : zUR l 339 1 (fun _ => True) := zUR_of (dep := 2) (by decide) (fun r c h1 h2 h3 h4 en me he hm => zyout_W h1 h2 h3 h4 he hm)
theorem zUw_out : zUr 784 [1] 139 339 := ⟨rfl, ⟨⟨rfl, rfl, rfl, rfl, rfl, by decide⟩, trivial⟩, ⟨_, _, rfl, rfl⟩, rfl, rfl, ⟨⟨rfl, rfl, rfl, rfl, rfl, by decide⟩, trivial⟩, ⟨_, _, rfl, rfl⟩, rfl, _, _, rfl, rfl⟩
theorem zUm_out : zUm 139 1 10 ∧ zUm 339 1 11 := ⟨⟨rfl, _, rfl, rfl, rfl, rfl, rfl⟩, ⟨rfl, _, rfl, rfl, rfl, rfl, rfl⟩⟩
theorem zUc_map (hcl : ∀ i, i < 277 → zyCo l zymc zyJc zyic i) : zUC l 140 2 (fun _ => True) := zUC_of (hcl 105 (by decide)) rfl rfl rfl (by decide) rfl (by show 6 ≤ 100; decide) rfl rfl rfl (fun _ => rfl) rfl
theorem zUr_map : zUR l 282 2 (fun _ => True) := zUR_of (dep := 9) (by decide) (fun r c h1 h2 h3 h4 en me he hm => zymap_W h1 h2 h3 h4 he hm)
theorem zUw_map : zUr 807 [1, 2] 140 282 := ⟨rfl, ⟨⟨rfl, rfl, rfl, rfl, rfl, by decide⟩, ⟨rfl, rfl, rfl, rfl, rfl, by decide⟩, trivial⟩, ⟨_, _, rfl, rfl⟩, rfl, rfl, ⟨⟨rfl, rfl, rfl, rfl, rfl, by decide⟩, ⟨rfl, rfl, rfl, rfl, rfl, by decide⟩, trivial⟩, ⟨_, _, rfl, rfl⟩, rfl, _, _, rfl, rfl⟩
theorem zUm_map : zUm 140 2 10 ∧ zUm 282 2 11 := ⟨⟨rfl, _, rfl, rfl, rfl, rfl, rfl⟩, ⟨rfl, _, rfl, rfl, rfl, rfl, rfl⟩⟩
theorem zUc_ride (hcl : ∀ i, i < 277 → zyCo l zymc zyJc zyic i) : zUC l 141 3 (fun _ => True) := zUC_of (hcl 109 (by decide)) rfl rfl rfl (by decide) rfl (by show 7 ≤ 100; decide) rfl rfl rfl (fun _ => rfl) rfl
theorem zUr_ride : zUR l 283 3 (fun _ => True) := zUR_of (dep := 9) (by decide) (fun r c h1 h2 h3 h4 en me he hm => zyride_W h1 h2 h3 h4 he hm)
theorem zUw_ride : zUr 840 [1, 2, 3] 141 283 := ⟨rfl, ⟨⟨rfl, rfl, rfl, rfl, rfl, by decide⟩, ⟨rfl, rfl, rfl, rfl, rfl, by decide⟩, ⟨rfl, rfl, rfl, rfl, rfl, by decide⟩, trivial⟩, ⟨_, _, rfl, rfl⟩, rfl, rfl, ⟨⟨rfl, rfl, rfl, rfl, rfl, by decide⟩, ⟨rfl, rfl, rfl, rfl, rfl, by decide⟩, ⟨rfl, rfl, rfl, rfl, rfl, by decide⟩, trivial⟩, ⟨_, _, rfl, rfl⟩, rfl, _, _, rfl, rfl⟩
theorem zUm_ride : zUm 141 3 10 ∧ zUm 283 3 11 := ⟨⟨rfl, _, rfl, rfl, rfl, rfl, rfl⟩, ⟨rfl, _, rfl, rfl, rfl, rfl, rfl⟩⟩
theorem zUc_round (hcl : ∀ i, i < 277 → zyCo l zymc zyJc zyic i) : zUC l 142 1 (fun _ => True) := zUC_of (hcl 110 (by decide)) rfl rfl rfl (by decide) rfl (by show 7 ≤ 100; decide) rfl rfl rfl (fun _ => rfl) rfl
theorem zUr_round : zUR l 284 1 (fun _ => True) := zUR_of (dep := 15) (by decide) (fun r c h1 h2 h3 h4 en me he hm => zyround_W h1 h2 h3 h4 he hm)
theorem zUw_round : zUr 883 [1] 142 284 := ⟨rfl, ⟨⟨rfl, rfl, rfl, rfl, rfl, by decide⟩, trivial⟩, ⟨_, _, rfl, rfl⟩, rfl, rfl, ⟨⟨rfl, rfl, rfl, rfl, rfl, by decide⟩, trivial⟩, ⟨_, _, rfl, rfl⟩, rfl, _, _, rfl, rfl⟩
theorem zUm_round : zUm 142 1 10 ∧ zUm 284 1 11 := ⟨⟨rfl, _, rfl, rfl, rfl, rfl, rfl⟩, ⟨rfl, _, rfl, rfl, rfl, rfl, rfl⟩⟩
theorem zUc_track (hcl : ∀ i, i < 277 → zyCo l zymc zyJc zyic i) : zUC l 143 2 (fun _ => True) := zUC_of (hcl 112 (by decide)) rfl rfl rfl (by decide) rfl (by show 7 ≤ 100; decide) rfl rfl rfl (fun _ => rfl) rfl
theorem zUr_track : zUR l 287 2 (fun _ => True) := zUR_of (dep := 18) (by decide) (fun r c h1 h2 h3 h4 en me he hm => zytrack_W h1 h2 h3 h4 he hm)
theorem zUw_track : zUr 906 [1, 2] 143 287 := ⟨rfl, ⟨⟨rfl, rfl, rfl, rfl, rfl, by decide⟩, ⟨rfl, rfl, rfl, rfl, rfl, by decide⟩, trivial⟩, ⟨_, _, rfl, rfl⟩, rfl, rfl, ⟨⟨rfl, rfl, rfl, rfl, rfl, by decide⟩, ⟨rfl, rfl, rfl, rfl, rfl, by decide⟩, trivial⟩, ⟨_, _, rfl, rfl⟩, rfl, _, _, rfl, rfl⟩
theorem zUm_track : zUm 143 2 10 ∧ zUm 287 2 11 := ⟨⟨rfl, _, rfl, rfl, rfl, rfl, rfl⟩, ⟨rfl, _, rfl, rfl, rfl, rfl, rfl⟩⟩
theorem zUc_tracks (hcl : ∀ i, i < 277 → zyCo l zymc zyJc zyic i) : zUC l 144 1 (fun _ => True) := zUC_of (hcl 116 (by decide)) rfl rfl rfl (by decide) rfl (by show 7 ≤ 100; decide) rfl rfl rfl (fun _ => rfl) rfl
theorem zUr_tracks : zUR l 288 1 (fun _ => True) := zUR_of (dep := 92) (by decide) (fun r c h1 h2 h3 h4 en me he hm => zytracks_W h1 h2 h3 h4 he hm)
theorem zUw_tracks : zUr 939 [1] 144 288 := ⟨rfl, ⟨⟨rfl, rfl, rfl, rfl, rfl, by decide⟩, trivial⟩, ⟨_, _, rfl, rfl⟩, rfl, rfl, ⟨⟨rfl, rfl, rfl, rfl, rfl, by decide⟩, trivial⟩, ⟨_, _, rfl, rfl⟩, rfl, _, _, rfl, rfl⟩
theorem zUm_tracks : zUm 144 1 10 ∧ zUm 288 1 11 := ⟨⟨rfl, _, rfl, rfl, rfl, rfl, rfl⟩, ⟨rfl, _, rfl, rfl, rfl, rfl, rfl⟩⟩
theorem zUc_ofLength (hcl : ∀ i, i < 277 → zyCo l zymc zyJc zyic i) : zUC l 145 1 (fun _ => True) := zUC_of (hcl 117 (by decide)) rfl rfl rfl (by decide) rfl (by show 7 ≤ 100; decide) rfl rfl rfl (fun _ => rfl) rfl
theorem zUr_ofLength : zUR l 289 1 (fun _ => True) := zUR_of (dep := 16) (by decide) (fun r c h1 h2 h3 h4 en me he hm => zyofLength_W h1 h2 h3 h4 he hm)
theorem zUw_ofLength : zUr 962 [1] 145 289 := ⟨rfl, ⟨⟨rfl, rfl, rfl, rfl, rfl, by decide⟩, trivial⟩, ⟨_, _, rfl, rfl⟩, rfl, rfl, ⟨⟨rfl, rfl, rfl, rfl, rfl, by decide⟩, trivial⟩, ⟨_, _, rfl, rfl⟩, rfl, _, _, rfl, rfl⟩
theorem zUm_ofLength : zUm 145 1 10 ∧ zUm 289 1 11 := ⟨⟨rfl, _, rfl, rfl, rfl, rfl, rfl⟩, ⟨rfl, _, rfl, rfl, rfl, rfl, rfl⟩⟩
theorem zUc_meets (hcl : ∀ i, i < 277 → zyCo l zymc zyJc zyic i) : zUC l 146 3 (fun _ => True) := zUC_of (hcl 127 (by decide)) rfl rfl rfl (by decide) rfl (by show 7 ≤ 100; decide) rfl rfl rfl (fun _ => rfl) rfl
theorem zUr_meets : zUR l 291 3 (fun _ => True) := zUR_of (dep := 15) (by decide) (fun r c h1 h2 h3 h4 en me he hm => zymeets_W h1 h2 h3 h4 he hm)
theorem zUw_meets : zUr 985 [1, 2, 3] 146 291 := ⟨rfl, ⟨⟨rfl, rfl, rfl, rfl, rfl, by decide⟩, ⟨rfl, rfl, rfl, rfl, rfl, by decide⟩, ⟨rfl, rfl, rfl, rfl, rfl, by decide⟩, trivial⟩, ⟨_, _, rfl, rfl⟩, rfl, rfl, ⟨⟨rfl, rfl, rfl, rfl, rfl, by decide⟩, ⟨rfl, rfl, rfl, rfl, rfl, by decide⟩, ⟨rfl, rfl, rfl, rfl, rfl, by decide⟩, trivial⟩, ⟨_, _, rfl, rfl⟩, rfl, _, _, rfl, rfl⟩
theorem zUm_meets : zUm 146 3 10 ∧ zUm 291 3 11 := ⟨⟨rfl, _, rfl, rfl, rfl, rfl, rfl⟩, ⟨rfl, _, rfl, rfl, rfl, rfl, rfl⟩⟩
theorem zUc_crash (hcl : ∀ i, i < 277 → zyCo l zymc zyJc zyic i) : zUC l 147 1 (fun _ => True) := zUC_of (hcl 132 (by decide)) rfl rfl rfl (by decide) rfl (by show 7 ≤ 100; decide) rfl rfl rfl (fun _ => rfl) rfl
theorem zUr_crash : zUR l 292 1 (fun _ => True) := zUR_of (dep := 15) (by decide) (fun r c h1 h2 h3 h4 en me he hm => zycrash_W h1 h2 h3 h4 he hm)
theorem zUw_crash : zUr 1028 [1] 147 292 := ⟨rfl, ⟨⟨rfl, rfl, rfl, rfl, rfl, by decide⟩, trivial⟩, ⟨_, _, rfl, rfl⟩, rfl, rfl, ⟨⟨rfl, rfl, rfl, rfl, rfl, by decide⟩, trivial⟩, ⟨_, _, rfl, rfl⟩, rfl, _, _, rfl, rfl⟩
theorem zUm_crash : zUm 147 1 10 ∧ zUm 292 1 11 := ⟨⟨rfl, _, rfl, rfl, rfl, rfl, rfl⟩, ⟨rfl, _, rfl, rfl, rfl, rfl, rfl⟩⟩
theorem zUc_repeat (hcl : ∀ i, i < 277 → zyCo l zymc zyJc zyic i) : zUC l 148 0 (fun _ => True) := zUC_of (hcl 133 (by decide)) rfl rfl rfl (by decide) rfl (by show 7 ≤ 100; decide) rfl rfl rfl (fun _ => rfl) rfl
theorem zUr_repeat : zUR l 293 0 (fun _ => True) := zUR_of (dep := 92) (by decide) (fun r c h1 h2 h3 h4 en me he hm => zyrepeat_W h1 h2 h3 h4 he hm)
theorem zUw_repeat : zUr 1051 [] 148 293 := ⟨rfl, trivial, ⟨_, _, rfl, rfl⟩, rfl, rfl, trivial, ⟨_, _, rfl, rfl⟩, rfl, _, _, rfl, rfl⟩
theorem zUm_repeat : zUm 148 0 10 ∧ zUm 293 0 11 := ⟨⟨rfl, _, rfl, rfl, rfl, rfl, rfl⟩, ⟨rfl, _, rfl, rfl, rfl, rfl, rfl⟩⟩
theorem zUc_laid (hcl : ∀ i, i < 277 → zyCo l zymc zyJc zyic i) : zUC l 149 1 (fun _ => True) := zUC_of (hcl 136 (by decide)) rfl rfl rfl (by decide) rfl (by show 7 ≤ 100; decide) rfl rfl rfl (fun _ => rfl) rfl
theorem zUr_laid : zUR l 294 1 (fun _ => True) := zUR_of (dep := 15) (by decide) (fun r c h1 h2 h3 h4 en me he hm => zylaid_W h1 h2 h3 h4 he hm)
theorem zUw_laid : zUr 1064 [1] 149 294 := ⟨rfl, ⟨⟨rfl, rfl, rfl, rfl, rfl, by decide⟩, trivial⟩, ⟨_, _, rfl, rfl⟩, rfl, rfl, ⟨⟨rfl, rfl, rfl, rfl, rfl, by decide⟩, trivial⟩, ⟨_, _, rfl, rfl⟩, rfl, _, _, rfl, rfl⟩
theorem zUm_laid : zUm 149 1 10 ∧ zUm 294 1 11 := ⟨⟨rfl, _, rfl, rfl, rfl, rfl, rfl⟩, ⟨rfl, _, rfl, rfl, rfl, rfl, rfl⟩⟩
theorem zUc_letter (hcl : ∀ i, i < 277 → zyCo l zymc zyJc zyic i) : zUC l 150 1 (fun _ => True) := zUC_of (hcl 137 (by decide)) rfl rfl rfl (by decide) rfl (by show 4 ≤ 100; decide) rfl rfl rfl (fun _ => rfl) rfl
theorem zUr_letter : zUR l 259 1 (fun _ => True) := zUR_of (dep := 2) (by decide) (fun r c h1 h2 h3 h4 en me he hm => zyletter_W h1 h2 h3 h4 he hm)
theorem zUw_letter : zUr 1087 [1] 150 259 := ⟨rfl, ⟨⟨rfl, rfl, rfl, rfl, rfl, by decide⟩, trivial⟩, ⟨_, _, rfl, rfl⟩, rfl, rfl, ⟨⟨rfl, rfl, rfl, rfl, rfl, by decide⟩, trivial⟩, ⟨_, _, rfl, rfl⟩, rfl, _, _, rfl, rfl⟩
theorem zUm_letter : zUm 150 1 10 ∧ zUm 259 1 11 := ⟨⟨rfl, _, rfl, rfl, rfl, rfl, rfl⟩, ⟨rfl, _, rfl, rfl, rfl, rfl, rfl⟩⟩
theorem zUc_wished (hcl : ∀ i, i < 277 → zyCo l zymc zyJc zyic i) : zUC l 151 1 (fun _ => True) := zUC_of (hcl 138 (by decide)) rfl rfl rfl (by decide) rfl (by show 4 ≤ 100; decide) rfl rfl rfl (fun _ => rfl) rfl
theorem zUr_wished : zUR l 260 1 (fun _ => True) := zUR_of (dep := 2) (by decide) (fun r c h1 h2 h3 h4 en me he hm => zywished_W h1 h2 h3 h4 he hm)
theorem zUw_wished : zUr 1110 [1] 151 260 := ⟨rfl, ⟨⟨rfl, rfl, rfl, rfl, rfl, by decide⟩, trivial⟩, ⟨_, _, rfl, rfl⟩, rfl, rfl, ⟨⟨rfl, rfl, rfl, rfl, rfl, by decide⟩, trivial⟩, ⟨_, _, rfl, rfl⟩, rfl, _, _, rfl, rfl⟩
theorem zUm_wished : zUm 151 1 10 ∧ zUm 260 1 11 := ⟨⟨rfl, _, rfl, rfl, rfl, rfl, rfl⟩, ⟨rfl, _, rfl, rfl, rfl, rfl, rfl⟩⟩
theorem zUc_braid (hcl : ∀ i, i < 277 → zyCo l zymc zyJc zyic i) : zUC l 152 1 (fun _ => True) := zUC_of (hcl 172 (by decide)) rfl rfl rfl (by decide) rfl (by show 11 ≤ 100; decide) rfl rfl rfl (fun _ => rfl) rfl
theorem zUr_braid : zUR l 253 1 (fun _ => True) := zUR_of (dep := 9) (by decide) (fun r c h1 h2 h3 h4 en me he hm => zybraid_W h1 h2 h3 h4 he hm)
theorem zUw_braid : zUr 1133 [1] 152 253 := ⟨rfl, ⟨⟨rfl, rfl, rfl, rfl, rfl, by decide⟩, trivial⟩, ⟨_, _, rfl, rfl⟩, rfl, rfl, ⟨⟨rfl, rfl, rfl, rfl, rfl, by decide⟩, trivial⟩, ⟨_, _, rfl, rfl⟩, rfl, _, _, rfl, rfl⟩
theorem zUm_braid : zUm 152 1 10 ∧ zUm 253 1 11 := ⟨⟨rfl, _, rfl, rfl, rfl, rfl, rfl⟩, ⟨rfl, _, rfl, rfl, rfl, rfl, rfl⟩⟩
theorem zUc_ends (hcl : ∀ i, i < 277 → zyCo l zymc zyJc zyic i) : zUC l 153 1 (fun _ => True) := zUC_of (hcl 173 (by decide)) rfl rfl rfl (by decide) rfl (by show 6 ≤ 100; decide) rfl rfl rfl (fun _ => rfl) rfl
theorem zUr_ends : zUR l 255 1 (fun _ => True) := zUR_of (dep := 3) (by decide) (fun r c h1 h2 h3 h4 en me he hm => zyends_W h1 h2 h3 h4 he hm)
theorem zUw_ends : zUr 1156 [1] 153 255 := ⟨rfl, ⟨⟨rfl, rfl, rfl, rfl, rfl, by decide⟩, trivial⟩, ⟨_, _, rfl, rfl⟩, rfl, rfl, ⟨⟨rfl, rfl, rfl, rfl, rfl, by decide⟩, trivial⟩, ⟨_, _, rfl, rfl⟩, rfl, _, _, rfl, rfl⟩
theorem zUm_ends : zUm 153 1 10 ∧ zUm 255 1 11 := ⟨⟨rfl, _, rfl, rfl, rfl, rfl, rfl⟩, ⟨rfl, _, rfl, rfl, rfl, rfl, rfl⟩⟩
theorem zUc_pair (hcl : ∀ i, i < 277 → zyCo l zymc zyJc zyic i) : zUC l 154 2 (fun _ => True) := zUC_of (hcl 175 (by decide)) rfl rfl rfl (by decide) rfl (by show 6 ≤ 100; decide) rfl rfl rfl (fun _ => rfl) rfl
theorem zUr_pair : zUR l 256 2 (fun _ => True) := zUR_of (dep := 4) (by decide) (fun r c h1 h2 h3 h4 en me he hm => zypair_W h1 h2 h3 h4 he hm)
theorem zUw_pair : zUr 1179 [1, 2] 154 256 := ⟨rfl, ⟨⟨rfl, rfl, rfl, rfl, rfl, by decide⟩, ⟨rfl, rfl, rfl, rfl, rfl, by decide⟩, trivial⟩, ⟨_, _, rfl, rfl⟩, rfl, rfl, ⟨⟨rfl, rfl, rfl, rfl, rfl, by decide⟩, ⟨rfl, rfl, rfl, rfl, rfl, by decide⟩, trivial⟩, ⟨_, _, rfl, rfl⟩, rfl, _, _, rfl, rfl⟩
theorem zUm_pair : zUm 154 2 10 ∧ zUm 256 2 11 := ⟨⟨rfl, _, rfl, rfl, rfl, rfl, rfl⟩, ⟨rfl, _, rfl, rfl, rfl, rfl, rfl⟩⟩
theorem zUc_thread (hcl : ∀ i, i < 277 → zyCo l zymc zyJc zyic i) : zUC l 155 2 (fun _ => True) := zUC_of (hcl 179 (by decide)) rfl rfl rfl (by decide) rfl (by show 6 ≤ 100; decide) rfl rfl rfl (fun _ => rfl) rfl
theorem zUr_thread : zUR l 257 2 (fun _ => True) := zUR_of (dep := 3) (by decide) (fun r c h1 h2 h3 h4 en me he hm => zythread_W h1 h2 h3 h4 he hm)
theorem zUw_thread : zUr 1212 [1, 2] 155 257 := ⟨rfl, ⟨⟨rfl, rfl, rfl, rfl, rfl, by decide⟩, ⟨rfl, rfl, rfl, rfl, rfl, by decide⟩, trivial⟩, ⟨_, _, rfl, rfl⟩, rfl, rfl, ⟨⟨rfl, rfl, rfl, rfl, rfl, by decide⟩, ⟨rfl, rfl, rfl, rfl, rfl, by decide⟩, trivial⟩, ⟨_, _, rfl, rfl⟩, rfl, _, _, rfl, rfl⟩
theorem zUm_thread : zUm 155 2 10 ∧ zUm 257 2 11 := ⟨⟨rfl, _, rfl, rfl, rfl, rfl, rfl⟩, ⟨rfl, _, rfl, rfl, rfl, rfl, rfl⟩⟩
theorem zUc_times (hcl : ∀ i, i < 277 → zyCo l zymc zyJc zyic i) : zUC l 156 1 (fun _ => True) := zUC_of (hcl 180 (by decide)) rfl rfl rfl (by decide) rfl (by show 11 ≤ 100; decide) rfl rfl rfl (fun _ => rfl) rfl
theorem zUr_times : zUR l 258 1 (fun _ => True) := zUR_of (dep := 10) (by decide) (fun r c h1 h2 h3 h4 en me he hm => zytimes_W h1 h2 h3 h4 he hm)
theorem zUw_times : zUr 1245 [1] 156 258 := ⟨rfl, ⟨⟨rfl, rfl, rfl, rfl, rfl, by decide⟩, trivial⟩, ⟨_, _, rfl, rfl⟩, rfl, rfl, ⟨⟨rfl, rfl, rfl, rfl, rfl, by decide⟩, trivial⟩, ⟨_, _, rfl, rfl⟩, rfl, _, _, rfl, rfl⟩
theorem zUm_times : zUm 156 1 10 ∧ zUm 258 1 11 := ⟨⟨rfl, _, rfl, rfl, rfl, rfl, rfl⟩, ⟨rfl, _, rfl, rfl, rfl, rfl, rfl⟩⟩
theorem zUc_search (hcl : ∀ i, i < 277 → zyCo l zymc zyJc zyic i) : zUC l 157 1 (fun _ => True) := zUC_of (hcl 260 (by decide)) rfl rfl rfl (by decide) rfl (by show 11 ≤ 100; decide) rfl rfl rfl (fun _ => rfl) rfl
theorem zUr_search : zUR l 299 1 (fun _ => True) := zUR_of (dep := 11) (by decide) (fun r c h1 h2 h3 h4 en me he hm => zysearch_W h1 h2 h3 h4 he hm)
theorem zUw_search : zUr 1268 [1] 157 299 := ⟨rfl, ⟨⟨rfl, rfl, rfl, rfl, rfl, by decide⟩, trivial⟩, ⟨_, _, rfl, rfl⟩, rfl, rfl, ⟨⟨rfl, rfl, rfl, rfl, rfl, by decide⟩, trivial⟩, ⟨_, _, rfl, rfl⟩, rfl, _, _, rfl, rfl⟩
theorem zUm_search : zUm 157 1 10 ∧ zUm 299 1 11 := ⟨⟨rfl, _, rfl, rfl, rfl, rfl, rfl⟩, ⟨rfl, _, rfl, rfl, rfl, rfl, rfl⟩⟩
theorem zUc_refusal (hcl : ∀ i, i < 277 → zyCo l zymc zyJc zyic i) : zUC l 158 3 (fun _ => True) := zUC_of (hcl 261 (by decide)) rfl rfl rfl (by decide) rfl (by show 11 ≤ 100; decide) rfl rfl rfl (fun _ => rfl) rfl
theorem zUr_refusal : zUR l 300 3 (fun _ => True) := zUR_of (dep := 11) (by decide) (fun r c h1 h2 h3 h4 en me he hm => zyrefusal_W h1 h2 h3 h4 he hm)
theorem zUw_refusal : zUr 1291 [1, 2, 3] 158 300 := ⟨rfl, ⟨⟨rfl, rfl, rfl, rfl, rfl, by decide⟩, ⟨rfl, rfl, rfl, rfl, rfl, by decide⟩, ⟨rfl, rfl, rfl, rfl, rfl, by decide⟩, trivial⟩, ⟨_, _, rfl, rfl⟩, rfl, rfl, ⟨⟨rfl, rfl, rfl, rfl, rfl, by decide⟩, ⟨rfl, rfl, rfl, rfl, rfl, by decide⟩, ⟨rfl, rfl, rfl, rfl, rfl, by decide⟩, trivial⟩, ⟨_, _, rfl, rfl⟩, rfl, _, _, rfl, rfl⟩
theorem zUm_refusal : zUm 158 3 10 ∧ zUm 300 3 11 := ⟨⟨rfl, _, rfl, rfl, rfl, rfl, rfl⟩, ⟨rfl, _, rfl, rfl, rfl, rfl, rfl⟩⟩
theorem zUc_refused (hcl : ∀ i, i < 277 → zyCo l zymc zyJc zyic i) : zUC l 159 2 (fun _ => True) := zUC_of (hcl 262 (by decide)) rfl rfl rfl (by decide) rfl (by show 11 ≤ 100; decide) rfl rfl rfl (fun _ => rfl) rfl
theorem zUr_refused : zUR l 301 2 (fun _ => True) := zUR_of (dep := 11) (by decide) (fun r c h1 h2 h3 h4 en me he hm => zyrefused_W h1 h2 h3 h4 he hm)
theorem zUw_refused : zUr 1334 [1, 2] 159 301 := ⟨rfl, ⟨⟨rfl, rfl, rfl, rfl, rfl, by decide⟩, ⟨rfl, rfl, rfl, rfl, rfl, by decide⟩, trivial⟩, ⟨_, _, rfl, rfl⟩, rfl, rfl, ⟨⟨rfl, rfl, rfl, rfl, rfl, by decide⟩, ⟨rfl, rfl, rfl, rfl, rfl, by decide⟩, trivial⟩, ⟨_, _, rfl, rfl⟩, rfl, _, _, rfl, rfl⟩
theorem zUm_refused : zUm 159 2 10 ∧ zUm 301 2 11 := ⟨⟨rfl, _, rfl, rfl, rfl, rfl, rfl⟩, ⟨rfl, _, rfl, rfl, rfl, rfl, rfl⟩⟩
theorem zUc_seen (hcl : ∀ i, i < 277 → zyCo l zymc zyJc zyic i) : zUC l 160 3 (fun _ => True) := zUC_of (hcl 263 (by decide)) rfl rfl rfl (by decide) rfl (by show 2 ≤ 100; decide) rfl rfl rfl (fun _ => rfl) rfl
theorem zUr_seen : zUR l 302 3 (fun _ => True) := zUR_of (dep := 3) (by decide) (fun r c h1 h2 h3 h4 en me he hm => zyseen_W h1 h2 h3 h4 he hm)
theorem zUw_seen : zUr 1367 [1, 2, 3] 160 302 := ⟨rfl, ⟨⟨rfl, rfl, rfl, rfl, rfl, by decide⟩, ⟨rfl, rfl, rfl, rfl, rfl, by decide⟩, ⟨rfl, rfl, rfl, rfl, rfl, by decide⟩, trivial⟩, ⟨_, _, rfl, rfl⟩, rfl, rfl, ⟨⟨rfl, rfl, rfl, rfl, rfl, by decide⟩, ⟨rfl, rfl, rfl, rfl, rfl, by decide⟩, ⟨rfl, rfl, rfl, rfl, rfl, by decide⟩, trivial⟩, ⟨_, _, rfl, rfl⟩, rfl, _, _, rfl, rfl⟩
theorem zUm_seen : zUm 160 3 10 ∧ zUm 302 3 11 := ⟨⟨rfl, _, rfl, rfl, rfl, rfl, rfl⟩, ⟨rfl, _, rfl, rfl, rfl, rfl, rfl⟩⟩
theorem zUc_forget (hcl : ∀ i, i < 277 → zyCo l zymc zyJc zyic i) : zUC l 161 0 (fun _ => True) := zUC_of (hcl 264 (by decide)) rfl rfl rfl (by decide) rfl (by show 2 ≤ 100; decide) rfl rfl rfl (fun _ => rfl) rfl
theorem zUr_forget : zUR l 303 0 (fun _ => True) := zUR_of (dep := 2) (by decide) (fun r c h1 h2 h3 h4 en me he hm => zyforget_W h1 h2 h3 h4 he hm)
theorem zUw_forget : zUr 1410 [] 161 303 := ⟨rfl, trivial, ⟨_, _, rfl, rfl⟩, rfl, rfl, trivial, ⟨_, _, rfl, rfl⟩, rfl, _, _, rfl, rfl⟩
theorem zUm_forget : zUm 161 0 10 ∧ zUm 303 0 11 := ⟨⟨rfl, _, rfl, rfl, rfl, rfl, rfl⟩, ⟨rfl, _, rfl, rfl, rfl, rfl, rfl⟩⟩
theorem zUc_name (hcl : ∀ i, i < 277 → zyCo l zymc zyJc zyic i) : zUC l 162 1 (fun _ => True) := zUC_of (hcl 275 (by decide)) rfl rfl rfl (by decide) rfl (by show 12 ≤ 100; decide) rfl rfl rfl (fun _ => rfl) rfl
theorem zUr_name : zUR l 309 1 (fun _ => True) := zUR_of (dep := 15) (by decide) (fun r c h1 h2 h3 h4 en me he hm => zyname_W h1 h2 h3 h4 he hm)
theorem zUw_name : zUr 1423 [1] 162 309 := ⟨rfl, ⟨⟨rfl, rfl, rfl, rfl, rfl, by decide⟩, trivial⟩, ⟨_, _, rfl, rfl⟩, rfl, rfl, ⟨⟨rfl, rfl, rfl, rfl, rfl, by decide⟩, trivial⟩, ⟨_, _, rfl, rfl⟩, rfl, _, _, rfl, rfl⟩
theorem zUm_name : zUm 162 1 10 ∧ zUm 309 1 11 := ⟨⟨rfl, _, rfl, rfl, rfl, rfl, rfl⟩, ⟨rfl, _, rfl, rfl, rfl, rfl, rfl⟩⟩
theorem zUc_named (hcl : ∀ i, i < 277 → zyCo l zymc zyJc zyic i) : zUC l 163 2 (fun _ => True) := zUC_of (hcl 276 (by decide)) rfl rfl rfl (by decide) rfl (by show 12 ≤ 100; decide) rfl rfl rfl (fun _ => rfl) rfl
theorem zUr_named : zUR l 310 2 (fun _ => True) := zUR_of (dep := 15) (by decide) (fun r c h1 h2 h3 h4 en me he hm => zynamed_W h1 h2 h3 h4 he hm)
theorem zUw_named : zUr 1446 [1, 2] 163 310 := ⟨rfl, ⟨⟨rfl, rfl, rfl, rfl, rfl, by decide⟩, ⟨rfl, rfl, rfl, rfl, rfl, by decide⟩, trivial⟩, ⟨_, _, rfl, rfl⟩, rfl, rfl, ⟨⟨rfl, rfl, rfl, rfl, rfl, by decide⟩, ⟨rfl, rfl, rfl, rfl, rfl, by decide⟩, trivial⟩, ⟨_, _, rfl, rfl⟩, rfl, _, _, rfl, rfl⟩
theorem zUm_named : zUm 163 2 10 ∧ zUm 310 2 11 := ⟨⟨rfl, _, rfl, rfl, rfl, rfl, rfl⟩, ⟨rfl, _, rfl, rfl, rfl, rfl, rfl⟩⟩
end ZLZ
