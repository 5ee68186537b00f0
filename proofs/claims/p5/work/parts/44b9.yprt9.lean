/-! THE PRINTER: writeAll, write -/
noncomputable def zylb (a : List Nat) : List Nat → Bool := List.rec (motive := fun _ => List Nat → Bool) (fun b => zynil b) (fun x _ ih b => List.rec (motive := fun _ => Bool) false (fun y t _ => zand (Nat.beq x y) (ih t)) b) a
theorem zylb_iff : ∀ {a b : List Nat}, zylb a b = true → a = b := by
  intro a
  induction a with
  | nil => intro b h; exact (zynil_iff h).symm
  | cons x t ih =>
    intro b h
    cases b with
    | nil => cases h
    | cons y u =>
      have h : zand (Nat.beq x y) (zylb t u) = true := h
      obtain ⟨h1, h2⟩ := zand_iff h
      rw [zbeqT h1, ih h2]
noncomputable def zycA (o b0 pl pw : Nat) : Nat → List zyCt := fun y => zif (Nat.beq y 48) [([299, pl], zyfw, [zyc 0 1800, b0, 606210], 7, [(606210, zyc 0 1000)], [])] (zif (Nat.beq y 49) [([299, pl], zyfw, [zyc 0 2800, Nat.add b0 1, 606210], 7, [(606210, zyc 0 2000)], [])] (zif (Nat.beq y 50) [([299, pl], zyfw, [zyc 0 3800, Nat.add b0 2, 606210], 7, [(606210, zyc 0 3000)], [])] (zif (Nat.beq y 51) [([299, pl], zyfw, [zyc 0 4300, Nat.add b0 3, 606210], 7, [(606210, zyc 0 4000)], [])] (zif (Nat.beq y 52) [([299, pw], zyfw, [zyc 0 6600, Nat.add b0 4, 606210], 7, [(606210, zyc 0 5000)], [])] (zycC y)))))
theorem zybeq_ne {a b : Nat} (h : ¬ a = b) : Nat.beq a b = false := by
  cases hq : Nat.beq a b with
  | false => rfl
  | true => exact absurd (zbeqT hq) h
theorem zycA_ok {l : Launch} {o b0 pl pw : Nat} (hb0 : (b0 = 100 ∧ o = 0) ∨ (b0 = 200 ∧ o = 17)) (h0 : zyrsw o pl = true) (h1 : zyrst o pl = true) (h2 : zyrfr o pl = true) (h3 : zyrpl o pl = true) (h4 : zyrwo o pw = true) : ∀ y2 ct en2 me2, ct ∈ zycA o b0 pl pw y2 → zG zxMeta y2 = some en2 → zG zMeth y2 = some me2 → zyCon l zymc zyJc en2 me2 ct := by
  intro y2 ct en2 me2 hct hen hme
  unfold zycA at hct
  by_cases e0 : y2 = 48
  · subst e0
    have hct : ct ∈ [([299, pl], zyfw, [zyc 0 1800, b0, 606210], 7, [(606210, zyc 0 1000)], [])] := hct
    rw [List.mem_singleton.mp hct]
    exact zysw h0 hb0 hen hme
  rw [zybeq_ne e0, zif_f] at hct
  by_cases e1 : y2 = 49
  · subst e1
    have hct : ct ∈ [([299, pl], zyfw, [zyc 0 2800, Nat.add b0 1, 606210], 7, [(606210, zyc 0 2000)], [])] := hct
    rw [List.mem_singleton.mp hct]
    exact zyst h1 (by rcases hb0 with ⟨rfl, e⟩ | ⟨rfl, e⟩; exact Or.inl ⟨rfl, e⟩; exact Or.inr ⟨rfl, e⟩) hen hme
  rw [zybeq_ne e1, zif_f] at hct
  by_cases e2 : y2 = 50
  · subst e2
    have hct : ct ∈ [([299, pl], zyfw, [zyc 0 3800, Nat.add b0 2, 606210], 7, [(606210, zyc 0 3000)], [])] := hct
    rw [List.mem_singleton.mp hct]
    exact zyfree h2 (by rcases hb0 with ⟨rfl, e⟩ | ⟨rfl, e⟩; exact Or.inl ⟨rfl, e⟩; exact Or.inr ⟨rfl, e⟩) hen hme
  rw [zybeq_ne e2, zif_f] at hct
  by_cases e3 : y2 = 51
  · subst e3
    have hct : ct ∈ [([299, pl], zyfw, [zyc 0 4300, Nat.add b0 3, 606210], 7, [(606210, zyc 0 4000)], [])] := hct
    rw [List.mem_singleton.mp hct]
    exact zyplace h3 (by rcases hb0 with ⟨rfl, e⟩ | ⟨rfl, e⟩; exact Or.inl ⟨rfl, e⟩; exact Or.inr ⟨rfl, e⟩) hen hme
  rw [zybeq_ne e3, zif_f] at hct
  by_cases e4 : y2 = 52
  · subst e4
    have hct : ct ∈ [([299, pw], zyfw, [zyc 0 6600, Nat.add b0 4, 606210], 7, [(606210, zyc 0 5000)], [])] := hct
    rw [List.mem_singleton.mp hct]
    exact zywish h4 (by rcases hb0 with ⟨rfl, e⟩ | ⟨rfl, e⟩; exact Or.inl ⟨rfl, e⟩; exact Or.inr ⟨rfl, e⟩) hen hme
  rw [zybeq_ne e4, zif_f] at hct
  exact zycC_ok y2 ct en2 me2 hct hen hme
noncomputable def zyκA (pl : Nat) : zyKt := (0, 3, [299, pl, 13], [(0, 4294967295), (0, 4294967295), (0, 4294967295)], [], [])
noncomputable def zyκB (pl b : Nat) : zyKt := (46, 4, [299, pl, Nat.mul 8 b], zyfulls (2147483648, Nat.add 2147483648 (Nat.add 1800 (Nat.mul 25 b))) 3, [(606210, zysym 3)], [])
noncomputable def zybxbo (o s : Nat) (w : zW) (F : List zyF) (c u : Nat) : Bool := zand (zygo1 (Nat.add 1 o) 5 8 s w F) (zif (Nat.beq u 13) (zyfk w (Nat.add 14 o) s (fun lo hi => zif (Nat.ble hi 2147483657) (Nat.beq c 9) (zif (Nat.ble 2147483658 lo) (Nat.beq c 10) false)) F) (zand (Nat.beq c 7) (zyfkc w (Nat.add 14 o) s u F)))
theorem zybxbo_iff {X : zyX} {w : zW} {F : List zyF} {o s c u nu : Nat} (hs : s < 2147483648) (hE : zEnv (zyρ X) w.2) (hF : ∀ f ∈ F, zyFm X f) (h : zybxbo o s w F c u = true) (hu : zyund X u nu) : zyCbo (zyE X) o s = c + nu ∧ s < min (zyN1 (zyI (zyE X) (1 + o) 5)) 8 := by
  obtain ⟨h1, h2⟩ := zand_iff h
  refine ⟨?_, zygo1_iff (by decide) hE hF h1⟩
  unfold zyCbo
  rcases zif_iff h2 with ⟨u1, h3⟩ | ⟨u1, h3⟩
  · have u1 := zbeqT u1
    have e0 : nu = 0 := by
      rcases hu with ⟨-, e⟩ | ⟨y3, e, -⟩
      · exact e
      · rw [u1] at e
        exact absurd (zyv_ik e) (by decide)
    subst e0
    obtain ⟨x, lo, hi, e, b1, b2, hk⟩ := zyfk_iff hE hs hF h3
    have e2 : zyI (zyE X) (14 + o) s = x := by unfold zyI; rw [show 14 + o = Nat.add 14 o from rfl, e]
    rw [e2]
    rcases zif_iff hk with ⟨k5, k6⟩ | ⟨-, k6⟩
    · have k5 := zbleT k5
      have k6 := zbeqT k6
      rw [zyNm_lo (by omega), k6]
    · rcases zif_iff k6 with ⟨k7, k8⟩ | ⟨-, k8⟩
      · have k7 := zbleT k7
        have k8 := zbeqT k8
        rw [zyNm_hi (by omega), k8]
      · cases k8
  · have u1 := zbeqF u1
    obtain ⟨h4, h5⟩ := zand_iff h3
    have h4 := zbeqT h4
    rcases hu with ⟨e, -⟩ | ⟨y, hy, en⟩
    · exact absurd e u1
    · obtain ⟨e1, e2⟩ := zyfkc_iff hE hs hy hF h5
      have e3 : zyI (zyE X) (14 + o) s = y := by unfold zyI; rw [show 14 + o = Nat.add 14 o from rfl, e1]
      rw [e3, h4, en]
noncomputable def zystA (P : zyP) (o b0 pl : Nat) (κ : zyKt) : zyK := fun w _ _ pc ls st _ fs m => List.rec (motive := fun _ => Bool) (List.rec (motive := fun _ => Bool) (zif (Nat.beq pc 46)
  (zif (Nat.beq κ.1 0) (zand (zyincl P 3 w ls m.1 (zyκB pl 0)) (zylk false (fun cd => zand (Nat.ble (Nat.mod cd 8) 2) (zycha w 0 b0 (fun c ids u => zand (Nat.beq u 13) (zand (Nat.beq c 9) (zylb ids [0]))) m.2 cd 0 [] 13)) 606210 m.1))
    (zfr false (zysof κ) (fun s => zand (zyincl P 3 w ls m.1 (zyκB pl (Nat.succ s))) (zylk false (fun cd => zand (Nat.ble (Nat.mod cd 8) 2) (zycha w (zysym 3) b0 (fun c ids u => zand (zylb ids []) (zybxbo o s w m.2 c u)) m.2 cd 0 [] 13)) 606210 m.1)))) false) (fun _ _ _ => false) st) (fun _ _ _ => false) fs
noncomputable def zyends (o s : Nat) (w : zW) (F : List zyF) (c : Nat) (ids : List Nat) (u : Nat) : Bool := zand (zand (Nat.beq u 13) (Nat.beq c 0)) (zand (zyen1 (Nat.add 1 o) 5 8 s w F) (zyfk w (Nat.add 1 o) 8 (fun lo hi => zif (Nat.ble 2147483649 lo) (zylb ids [1, 2, 3, 4]) (zif (zand (Nat.beq lo 2147483648) (Nat.beq hi 2147483648)) (zylb ids [1, 2, 3]) false)) F))
noncomputable def zybtA (o b0 : Nat) (κ : zyKt) : zW → List Nat → zyM → Bool := fun w v m => zand (zynil v) (zif (Nat.beq κ.1 0) false (zfr false (zysof κ) (fun s => zylk false (fun cd => zand (Nat.ble (Nat.mod cd 8) 2) (zand (zysub w cd (zyc 0 6600)) (zycha w (zysym 3) b0 (zyends o s w m.2) m.2 cd 0 [] 13))) 606210 m.1)))
noncomputable def zyPA (o b0 pl pw : Nat) : zyP := (zymc, zycA o b0 pl pw, zyfw, zydc, 0)
noncomputable def zyrunA (o b0 pl pw : Nat) : Bool := zand (zywf 3 (zyκA pl)) (zand (zyAll (fun s => zywf 3 (zyκB pl s)) 9) (zand
  (zyok (fun w v m => zand (zyfitM w zymc m.1) (zand (zypre w zymc m.1 []) (zybtA o b0 (zyκA pl) w v m))) (zyPA o b0 pl pw) (zystA (zyPA o b0 pl pw) o b0 pl (zyκA pl)) 200000 (3, (zyκA pl).2.2.2.1) zxi47 (47, 0, 0, 0, 0) 0 (zyκA pl).2.2.1 [] (9, 0, 0) [] ([], []))
  (zand (zyAll (fun s => zyok (fun w v m => zand (zyfitM w zymc m.1) (zand (zypre w zymc m.1 []) (zybtA o b0 (zyκB pl s) w v m))) (zyPA o b0 pl pw) (zystA (zyPA o b0 pl pw) o b0 pl (zyκB pl s)) 200000 (4, (zyκB pl s).2.2.2.1) zxi47 (47, 0, 0, 0, 0) 46 (zyκB pl s).2.2.1 [] (9, 0, 0) [] ((zyκB pl s).2.2.2.2.1, [])) 9)
    (zpad 3 (zexp [299, pl]) (fun l2 => zyincl (zyPA o b0 pl pw) 3 (0, []) l2 [] (zyκA pl))))))
theorem zyrunA_1 : zyrunA 0 100 11 131 = true := by decide +kernel
theorem zyrunA_2 : zyrunA 17 200 147 267 = true := by decide +kernel
