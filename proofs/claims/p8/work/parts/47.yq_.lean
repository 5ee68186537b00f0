section
/-! WHAT FACTS SAY, asked one after the other. And contracts state by state -/
theorem zyMet_pt {l : Launch} {y : MethodName} {ws : List Cond} {rm : Room} {Pc : Array Value → State → Prop} {Qc : Array Value → State → Outcome → State → Prop} {mc ms : Nat} {free : Addr → Prop} (h : ∀ a s, Pc a s → ∃ (Pc2 : Array Value → State → Prop) (Qc2 : Array Value → State → Outcome → State → Prop), Met l y ws rm Pc2 Qc2 mc ms free ∧ Pc2 a s ∧ ∀ o t, Qc2 a s o t → Qc a s o t) : Met l y ws rm Pc Qc mc ms free := by
  intro p e ha hc hk s m args below hf happ hP hK
  obtain ⟨Pc2, Qc2, hM, hp, hq⟩ := h args s hP
  obtain ⟨n, o, h1, h2, h3, h4⟩ := hM p e ha hc hk s m args below hf happ hp hK
  exact ⟨n, o, h1, h2, h3, hq _ _ h4.1, h4.2⟩
/-- an element that was read -/
noncomputable def zqE (a j : Nat) (k : Nat → Bool) (F : List zyF) : Bool := List.rec (motive := fun _ => Bool) false (fun f _ ih => zif (zand (Nat.beq f.1 24) (zand (Nat.beq f.2.2.1 a) (Nat.beq f.2.2.2 j))) (k f.2.1) ih) F
/-- what came out of two ints, of a call -/
noncomputable def zqop (g a b : Nat) (k : Nat → Bool) (F : List zyF) : Bool := List.rec (motive := fun _ => Bool) false (fun f _ ih => zif (zand (Nat.beq f.1 g) (zand (Nat.beq f.2.2.1 a) (Nat.beq f.2.2.2 b))) (k f.2.1) ih) F
noncomputable def zqhas (g a b : Nat) (F : List zyF) : Bool := List.rec (motive := fun _ => Bool) false (fun f _ ih => zif (zand (Nat.beq f.1 g) (zand (Nat.beq f.2.2.1 a) (Nat.beq f.2.2.2 b))) true ih) F
/-- less, equal: by bounds, or as was met -/
noncomputable def zqlt (w : zW) (F : List zyF) (a b : Nat) (kt kf : Bool) : Bool := zbd w a (fun la ha => zbd w b (fun lb hb => zif (Nat.ble (Nat.succ ha) lb) kt (zif (Nat.ble hb la) kf (zif (zqhas 20 a b F) kt (zif (zqhas 21 a b F) kf false)))))
noncomputable def zqeq (w : zW) (F : List zyF) (a b : Nat) (kt kf : Bool) : Bool := zbd w a (fun la ha => zbd w b (fun lb hb => zif (zand (Nat.beq la ha) (zand (Nat.beq lb hb) (Nat.beq la lb))) kt (zif (Nat.ble (Nat.succ ha) lb) kf (zif (Nat.ble (Nat.succ hb) la) kf (zif (zqhas 22 a b F) kt (zif (zqhas 23 a b F) kf false))))))
theorem zqE_iff {X : zyX} {a j : Nat} {k : Nat → Bool} : ∀ {F : List zyF}, (∀ f ∈ F, zyFm X f) → zqE a j k F = true → ∃ (v jx : Nat) (x : Int32), zyV X v (.int x) ∧ zyV X j (.int (Int32.ofNat jx)) ∧ jx < 2147483648 ∧ zyE X a jx = some (.int x) ∧ k v = true := by
  intro F
  induction F with
  | nil => intro _ h; cases h
  | cons f t ih =>
    intro hF h
    have h : zif (zand (Nat.beq f.1 24) (zand (Nat.beq f.2.2.1 a) (Nat.beq f.2.2.2 j))) (k f.2.1) (zqE a j k t) = true := h
    rcases zif_iff h with ⟨h1, h2⟩ | ⟨-, h2⟩
    · obtain ⟨g1, g2⟩ := zand_iff h1
      obtain ⟨g2, g3⟩ := zand_iff g2
      have g1 := zbeqT g1
      have g2 := zbeqT g2
      have g3 := zbeqT g3
      have hf := hF f List.mem_cons_self
      unfold zyFm at hf
      rw [if_pos g1, g2, g3] at hf
      obtain ⟨z, j2, q1, q2, q3, q4⟩ := hf
      exact ⟨_, j2, z, q1, q2, q3, q4, h2⟩
    · exact ih (fun f2 hf2 => hF f2 (List.mem_cons_of_mem _ hf2)) h2
theorem zqop_mem {g a b : Nat} {k : Nat → Bool} : ∀ {F : List zyF}, zqop g a b k F = true → ∃ v, (g, v, a, b) ∈ F ∧ k v = true := by
  intro F
  induction F with
  | nil => intro h; cases h
  | cons f t ih =>
    intro h
    have h : zif (zand (Nat.beq f.1 g) (zand (Nat.beq f.2.2.1 a) (Nat.beq f.2.2.2 b))) (k f.2.1) (zqop g a b k t) = true := h
    rcases zif_iff h with ⟨h1, h2⟩ | ⟨-, h2⟩
    · obtain ⟨g1, g2⟩ := zand_iff h1
      obtain ⟨g2, g3⟩ := zand_iff g2
      have g1 := zbeqT g1
      have g2 := zbeqT g2
      have g3 := zbeqT g3
      obtain ⟨f0, f1, f2, f3⟩ := f
      dsimp only at g1 g2 g3 h2
      subst g1
      subst g2
      subst g3
      exact ⟨f1, List.mem_cons_self, h2⟩
    · obtain ⟨v, q1, q2⟩ := ih h2
      exact ⟨v, List.mem_cons_of_mem _ q1, q2⟩
theorem zqhas_mem {g a b : Nat} : ∀ {F : List zyF}, zqhas g a b F = true → ∃ v, (g, v, a, b) ∈ F := by
  intro F
  induction F with
  | nil => intro h; cases h
  | cons f t ih =>
    intro h
    have h : zif (zand (Nat.beq f.1 g) (zand (Nat.beq f.2.2.1 a) (Nat.beq f.2.2.2 b))) true (zqhas g a b t) = true := h
    rcases zif_iff h with ⟨h1, -⟩ | ⟨-, h2⟩
    · obtain ⟨g1, g2⟩ := zand_iff h1
      obtain ⟨g2, g3⟩ := zand_iff g2
      have g1 := zbeqT g1
      have g2 := zbeqT g2
      have g3 := zbeqT g3
      obtain ⟨f0, f1, f2, f3⟩ := f
      dsimp only at g1 g2 g3
      subst g1
      subst g2
      subst g3
      exact ⟨f1, List.mem_cons_self⟩
    · obtain ⟨v, q1⟩ := ih h2
      exact ⟨v, List.mem_cons_of_mem _ q1⟩
theorem zqop_iff {X : zyX} {g a b : Nat} {k : Nat → Bool} {F : List zyF} (hF : ∀ f ∈ F, zyFm X f) (hg : g < 12) (h : zqop g a b k F = true) : ∃ (v : Nat) (x y : Int32), zyV X a (.int x) ∧ zyV X b (.int y) ∧ zyV X v (.int (zyG g x y)) ∧ k v = true := by
  obtain ⟨v, h1, h2⟩ := zqop_mem h
  have hf := hF _ h1
  unfold zyFm at hf
  dsimp only at hf
  rw [if_neg (by omega), if_pos hg] at hf
  obtain ⟨x, y, z, q1, q2, q3, q4⟩ := hf
  exact ⟨v, x, y, q2, q3, by rw [← q4]; exact q1, h2⟩
theorem zqfn_iff {X : zyX} {id a b : Nat} {k : Nat → Bool} {F : List zyF} (hF : ∀ f ∈ F, zyFm X f) (h : zqop (1000 + id) a b k F = true) : ∃ (v : Nat) (x y z : Int32), zyV X a (.int x) ∧ zyV X b (.int y) ∧ zyV X v (.int z) ∧ (zyJ X).2 id (zyE X) x y z ∧ k v = true := by
  obtain ⟨v, h1, h2⟩ := zqop_mem h
  obtain ⟨x, y, z, q1, q2, q3, q4⟩ := zyFm_rel (hF _ h1)
  exact ⟨v, x, y, z, q2, q3, q1, q4, h2⟩
theorem zqhas_c {X : zyX} {g a b : Nat} {F : List zyF} (hF : ∀ f ∈ F, zyFm X f) (hg : 20 ≤ g ∧ g ≤ 23) (h : zqhas g a b F = true) : ∃ x y : Int32, zyV X a (.int x) ∧ zyV X b (.int y) ∧ (g = 20 → x < y) ∧ (g = 21 → ¬ x < y) ∧ (g = 22 → x = y) ∧ (g = 23 → ¬ x = y) := by
  obtain ⟨v, h1⟩ := zqhas_mem h
  have hf := hF _ h1
  unfold zyFm at hf
  dsimp only at hf
  rw [if_neg (by omega), if_neg (by omega), if_pos (by omega)] at hf
  exact hf
/-- over symbols and known ints alone: a code is one int -/
theorem zqlt_iff {X : zyX} {w : zW} {F : List zyF} {a b : Nat} {kt kf : Bool} {x y : Int32} (hE : zEnv (zyρ X) w.2) (hF : ∀ f ∈ F, zyFm X f) (ha : a % 8 ≤ 1) (hb : b % 8 ≤ 1) (hx : zyV X a (.int x)) (hy : zyV X b (.int y)) (h : zqlt w F a b kt kf = true) : (x < y ∧ kt = true) ∨ (¬ x < y ∧ kf = true) := by
  obtain ⟨x2, la, hha, e1, a1, a2, h⟩ := zybd_iff h hE hx
  have e1 := Value.int.inj e1
  subst e1
  obtain ⟨y2, lb, hhb, e2, b1, b2, h⟩ := zybd_iff h hE hy
  have e2 := Value.int.inj e2
  subst e2
  have bx := zB_int x
  have by' := zB_int y
  rcases zif_iff h with ⟨h1, h2⟩ | ⟨-, h⟩
  · have h1 : hha + 1 ≤ lb := zbleT h1
    exact Or.inl ⟨by rw [Int32.lt_iff_toInt_lt]; omega, h2⟩
  rcases zif_iff h with ⟨h1, h2⟩ | ⟨-, h⟩
  · have h1 := zbleT h1
    exact Or.inr ⟨by rw [Int32.lt_iff_toInt_lt]; omega, h2⟩
  rcases zif_iff h with ⟨h1, h2⟩ | ⟨-, h⟩
  · obtain ⟨x3, y3, q1, q2, q3, -⟩ := zqhas_c hF (by decide) h1
    rw [zyv_one ha hx q1, zyv_one hb hy q2]
    exact Or.inl ⟨q3 rfl, h2⟩
  rcases zif_iff h with ⟨h1, h2⟩ | ⟨-, h⟩
  · obtain ⟨x3, y3, q1, q2, -, q3, -⟩ := zqhas_c hF (by decide) h1
    rw [zyv_one ha hx q1, zyv_one hb hy q2]
    exact Or.inr ⟨q3 rfl, h2⟩
  · cases h
theorem zqeq_iff {X : zyX} {w : zW} {F : List zyF} {a b : Nat} {kt kf : Bool} {x y : Int32} (hE : zEnv (zyρ X) w.2) (hF : ∀ f ∈ F, zyFm X f) (ha : a % 8 ≤ 1) (hb : b % 8 ≤ 1) (hx : zyV X a (.int x)) (hy : zyV X b (.int y)) (h : zqeq w F a b kt kf = true) : (x = y ∧ kt = true) ∨ (¬ x = y ∧ kf = true) := by
  obtain ⟨x2, la, hha, e1, a1, a2, h⟩ := zybd_iff h hE hx
  have e1 := Value.int.inj e1
  subst e1
  obtain ⟨y2, lb, hhb, e2, b1, b2, h⟩ := zybd_iff h hE hy
  have e2 := Value.int.inj e2
  subst e2
  rcases zif_iff h with ⟨h1, h2⟩ | ⟨-, h⟩
  · obtain ⟨g1, g2⟩ := zand_iff h1
    obtain ⟨g2, g3⟩ := zand_iff g2
    have g1 := zbeqT g1
    have g2 := zbeqT g2
    have g3 := zbeqT g3
    refine Or.inl ⟨?_, h2⟩
    apply zN_inj
    have e3 := zB_eq x
    have e4 := zB_eq y
    have l1 := x.toBitVec.isLt
    have l2 := y.toBitVec.isLt
    omega
  rcases zif_iff h with ⟨h1, h2⟩ | ⟨-, h⟩
  · have h1 : hha + 1 ≤ lb := zbleT h1
    exact Or.inr ⟨fun q => by rw [q] at a2; omega, h2⟩
  rcases zif_iff h with ⟨h1, h2⟩ | ⟨-, h⟩
  · have h1 : hhb + 1 ≤ la := zbleT h1
    exact Or.inr ⟨fun q => by rw [q] at a1; omega, h2⟩
  rcases zif_iff h with ⟨h1, h2⟩ | ⟨-, h⟩
  · obtain ⟨x3, y3, q1, q2, -, -, q3, -⟩ := zqhas_c hF (by decide) h1
    rw [zyv_one ha hx q1, zyv_one hb hy q2]
    exact Or.inl ⟨q3 rfl, h2⟩
  rcases zif_iff h with ⟨h1, h2⟩ | ⟨-, h⟩
  · obtain ⟨x3, y3, q1, q2, -, -, -, q3⟩ := zqhas_c hF (by decide) h1
    rw [zyv_one ha hx q1, zyv_one hb hy q2]
    exact Or.inr ⟨q3 rfl, h2⟩
  · cases h
end
section
/-! THE REFERENCE: its base, for rows r and columns c (printed by a program, rows of c by hand) -/
noncomputable def zymr74 : zyCl := (11, 49, [(0, 0, 603), (1, 1, 611), (2, 2, 73786976312018075722), (3, 3, 0), (4, 4, 73786976277658337522), (5, 5, 73786976312018075666), (6, 6, 73786976277658337522), (7, 7, 73786976312018075666), (8, 8, 73786976294838206458), (9, 9, 73786976312018075658), (10, 10, 619), (11, 11, 627), (12, 12, 635), (13, 13, 643), (14, 14, 34359738362), (15, 15, 34359738362), (16, 16, 73786976312018075706), (17, 17, 73786976312018075706), (18, 18, 651), (19, 19, 73786976312018086042), (20, 20, 34359738362), (21, 21, 73786976312018075714), (22, 22, 659), (23, 23, 667), (24, 24, 34359738362), (25, 25, 34359738362), (26, 26, 34359738362), (27, 27, 34359738362), (28, 28, 34359738362), (29, 29, 34359738362), (30, 30, 34359738362), (31, 31, 34359738362), (32, 32, 675), (33, 33, 73786976312018082850), (34, 34, 34359738362), (35, 35, 34359738362), (36, 36, 73786976312018075722), (37, 37, 34359738362), (38, 38, 73786976312018082850), (39, 39, 73786976312018082858), (40, 40, 73786976312018075682), (41, 41, 73786976312018083642), (42, 42, 73786976312018082850), (43, 43, 147573952589676412932), (44, 44, 683), (45, 45, 691), (46, 46, 699), (47, 47, 73786976312018082850), (48, 48, 34359738362)])
/-- slots; slots and none -/
noncomputable def zyS (r c : Nat) : Nat := Nat.add (Nat.mul 8 (Nat.add 9223372036854775808 (Nat.add 2147483647 (Nat.mul 4 (Nat.mul r c))))) 2
noncomputable def zyS1 (r c : Nat) : Nat := Nat.add (Nat.mul 8 (Nat.add 9223372032559808512 (Nat.add 2147483647 (Nat.mul 4 (Nat.mul r c))))) 2
noncomputable def zymr75 (r c : Nat) : zyCl := (20, 556, [(0, 0, (Nat.mul 8 r)), (1, 1, (Nat.mul 8 c)), (2, 2, 73786976312018075714), (3, 3, 34359738362), (4, 4, 73786976312018078050), (5, 5, 73786976277658337762), (6, 6, 73786976312018075746), (7, 7, 0), (8, 39, 73786976329197944826), (40, 70, 73786976346377814050), (71, 71, 0), (72, 103, 73786976312018075666), (104, 135, 73786976312018075658), (136, 143, (zyS r c)), (144, 151, (zyS r c)), (152, 159, (zyS1 r c)), (160, 459, 73786976071499907130), (460, 519, 73786976071499907130), (520, 520, 73786976312018075706), (521, 521, 73786976312018076162), (522, 522, (zyS r c)), (523, 523, 73786976312018075706), (524, 524, 73786976312018076162), (525, 525, (zyS r c)), (526, 526, 73786976312018075706), (527, 527, 73786976312018076162), (528, 528, (zyS r c)), (529, 529, 73786976312018075706), (530, 530, 73786976312018076162), (531, 531, (zyS r c)), (532, 532, 73786976312018075706), (533, 533, 73786976312018076162), (534, 534, (zyS r c)), (535, 535, 73786976312018075706), (536, 536, 73786976312018076162), (537, 537, (zyS r c)), (538, 538, 73786976312018075706), (539, 539, 73786976312018076162), (540, 540, (zyS r c)), (541, 541, 73786976312018075706), (542, 542, 73786976312018076162), (543, 543, (zyS r c)), (544, 544, 73786976312018075706), (545, 545, 73786976312018076162), (546, 546, (zyS r c)), (547, 547, 73786976312018075706), (548, 548, 73786976312018076162), (549, 549, (zyS r c)), (550, 550, 73786976312018075706), (551, 551, 73786976312018076162), (552, 552, (zyS r c)), (553, 553, 73786976312018075706), (554, 554, 73786976312018076162), (555, 555, (zyS r c)), (520, 555, 73786976312018076282)])
noncomputable def zymr (r c : Nat) : zyB := [[], [[], [(20, 1860, [(0, 1859, 73786976312018108410)]), (20, 12, [(0, 11, 34359738362)]), zymr74, zymr75 r c, (20, 556, [(0, 555, 34359738362)]), (20, 8, [(0, 7, 73786976312018076282)]), (20, 8, [(0, 7, 73786976312018076282)]), (20, 8, [(0, 7, 73786976312018075706)])], [(20, 300, [(0, 299, 73786976071499907130)]), (20, 10400, [(0, 10399, 73786976312018075706)]), (20, 8, [(0, 7, 73786976312018075706)]), (20, 8, [(0, 7, 73786976312018075706)]), (22, 900, [(0, 899, 73786971913971565562)]), (21, 9, [(0, 8, 147573952589676412932)]), (20, 900, [(0, 899, 34359738362)]), (20, 900, [(0, 899, 34359738362)])]]]
/-- what is kept by contract alone: how many bobbins, steps, letters, the letters; the simple braids, how many, their width -/
noncomputable def zydr : zyR := [(75, 2, 5), (75, 160, 519), (81, 0, 10399), (74, 19, 19), (74, 21, 21)]
end
section
/-! THE REFERENCE's GEOMETRY: turned, the switch at a slot, the slot that faces; none is 2^32 - 1 -/
noncomputable def zgT (c s : Nat) : Nat := Nat.add (Nat.mul 4 (Nat.div s 4)) (Nat.mod (Nat.add s (zif (Nat.beq (Nat.mod (Nat.add (Nat.div (Nat.div s 4) c) (Nat.mod (Nat.div s 4) c)) 2) 0) 1 3)) 4)
noncomputable def zgU (c s : Nat) : Nat := Nat.add (Nat.mul 4 (Nat.div s 4)) (Nat.mod (Nat.add s (zif (Nat.beq (Nat.mod (Nat.add (Nat.div (Nat.div s 4) c) (Nat.mod (Nat.div s 4) c)) 2) 0) 3 1)) 4)
noncomputable def zgG4 (r c w row col k : Nat) : Nat := zif (Nat.beq k 0) (zif (Nat.beq row 0) 4294967295 (Nat.sub (Nat.add (Nat.mul r (Nat.sub c 1)) w) c)) (zif (Nat.beq k 1) (zif (Nat.beq (Nat.succ col) c) 4294967295 (Nat.add (Nat.mul row (Nat.sub c 1)) col)) (zif (Nat.beq k 2) (zif (Nat.beq (Nat.succ row) r) 4294967295 (Nat.add (Nat.mul r (Nat.sub c 1)) w)) (zif (Nat.beq col 0) 4294967295 (Nat.sub (Nat.add (Nat.mul row (Nat.sub c 1)) col) 1))))
noncomputable def zgG (r c s : Nat) : Nat := zgG4 r c (Nat.div s 4) (Nat.div (Nat.div s 4) c) (Nat.mod (Nat.div s 4) c) (Nat.mod s 4)
noncomputable def zgF (r c s : Nat) : Nat := zif (Nat.beq (zgG r c s) 4294967295) 4294967295 (zif (Nat.beq (Nat.mod s 4) 0) (Nat.add (Nat.mul 4 (Nat.sub (Nat.div s 4) c)) 2) (zif (Nat.beq (Nat.mod s 4) 1) (Nat.add (Nat.mul 4 (Nat.add (Nat.div s 4) 1)) 3) (zif (Nat.beq (Nat.mod s 4) 2) (Nat.mul 4 (Nat.add (Nat.div s 4) c)) (Nat.add (Nat.mul 4 (Nat.sub (Nat.div s 4) 1)) 1))))
noncomputable def zgNS (r c : Nat) : Nat := Nat.mul 4 (Nat.mul r c)
noncomputable def zgNG (r c : Nat) : Nat := Nat.add (Nat.mul r (Nat.sub c 1)) (Nat.mul (Nat.sub r 1) c)
noncomputable def zyAllP (f : Nat → Nat → Bool) : Bool := zyAll (fun r => zyAll (fun c => f (Nat.succ r) (Nat.succ c)) 5) 4
theorem zyAllP_iff {f : Nat → Nat → Bool} (h : zyAllP f = true) {r c : Nat} (h1 : 1 ≤ r) (h2 : r ≤ 4) (h3 : 1 ≤ c) (h4 : c ≤ 5) : f r c = true := by
  have e := zyAll_iff (zyAll_iff h (r - 1) (by omega)) (c - 1) (by omega)
  rw [show Nat.succ (r - 1) = r by omega, show Nat.succ (c - 1) = c by omega] at e
  exact e
/-- a slot's turn comes back by zgU; what faces faces back, at the same switch -/
theorem zgAll : zyAllP (fun r c => zyAll (fun s => zand (zand (Nat.ble (Nat.succ (zgT c s)) (zgNS r c)) (Nat.beq (zgU c (zgT c s)) s)) (zif (Nat.beq (zgG r c s) 4294967295) true (zand (zand (Nat.ble (Nat.succ (zgG r c s)) (zgNG r c)) (Nat.ble (Nat.succ (zgF r c s)) (zgNS r c))) (zand (Nat.beq (zgF r c (zgF r c s)) s) (Nat.beq (zgG r c (zgF r c s)) (zgG r c s)))))) (zgNS r c)) = true := by decide +kernel
/-- one run at known arguments -/
noncomputable def zyκ1 (nL : Nat) (as tl : List Nat) : zyKt := (0, nL, List.append as tl, Nat.rec (motive := fun _ => List (Nat × Nat)) [] (fun _ ih => (0, 4294967295) :: ih) nL, [], [])
noncomputable def zyI1 (y nL dep : Nat) (as tl : List Nat) (ans : Nat) : zyIn := (y, (as, [], [ans], dep, [], []), [zyκ1 nL as tl], 0, 0, [])
noncomputable def zyk1 (mi : zyB) (y nL dep : Nat) (as tl : List Nat) (ans : Nat) : Bool := zychk mi zydr [[[zyI1 y nL dep as tl ans]]] 0 (zyI1 y nL dep as tl ans)
theorem zyk1_ok {l : Launch} {J : zyJt} {mi : zyB} {y nL dep : Nat} {as tl : List Nat} {ans : Nat} (hJ : zyJp zydr J) (h : zyk1 mi y nL dep as tl ans = true) {en : zEn} {me : zMe} (hen : zG zxMeta y = some en) (hme : zG zMeth y = some me) : zyCon l mi J en me (as, [], [ans], dep, [], []) := by
  have hc : zyCo l mi J [[[zyI1 y nL dep as tl ans]]] 0 := zychk_ok (IT := [[[zyI1 y nL dep as tl ans]]]) (i := 0) h hJ (fun d hd => absurd hd (Nat.not_lt_zero d))
  exact hc en me hen hme
theorem zgrunT : zyAllP (fun r c => zyAll (fun s => zyk1 (zymr r c) 204 4 2 [595, Nat.mul 8 s] [13, 13] (Nat.mul 8 (zgT c s))) (zgNS r c)) = true := by decide +kernel
theorem zgrunG : zyAllP (fun r c => zyAll (fun s => zyk1 (zymr r c) 202 5 3 [595, Nat.mul 8 s] [13, 13, 13] (Nat.mul 8 (zgG r c s))) (zgNS r c)) = true := by decide +kernel
theorem zgrunF : zyAllP (fun r c => zyAll (fun s => zyk1 (zymr r c) 203 3 5 [595, Nat.mul 8 s] [13] (Nat.mul 8 (zgF r c s))) (zgNS r c)) = true := by decide +kernel
end
section
/-! THE REFERENCE's FUNCTIONS of what is told: over the elements of zyFd 0 alone -/
noncomputable def zyres (E : zyEm) : zyEm := fun a k => if zyin (zyFd 0) a k = true then E a k else none
theorem zyres_eq {E E2 : zyEm} (h : ∀ a k, zyin (zyFd 0) a k = true → E a k = E2 a k) : zyres E = zyres E2 := by
  funext a k
  unfold zyres
  by_cases hq : zyin (zyFd 0) a k = true
  · rw [if_pos hq, if_pos hq, h a k hq]
  · rw [if_neg hq, if_neg hq]
theorem zyFd_0 {id : Nat} (h : id < 100) : zyFd id = zyFd 0 := by
  unfold zyFd
  rw [show Nat.ble (Nat.succ id) 100 = true from Nat.ble_eq_true_of_le (by omega)]
  rfl
theorem zyFd0_in {a k : Nat} (h : (a = 74 ∧ 4 ≤ k ∧ k ≤ 9) ∨ (a = 75 ∧ k ≤ 1) ∨ (a = 75 ∧ 8 ≤ k ∧ k ≤ 135)) : zyin (zyFd 0) a k = true := by
  rw [show zyFd 0 = [(74, 4, 9), (75, 0, 1), (75, 8, 135)] from rfl, zyin_iff]
  rcases h with ⟨rfl, h1, h2⟩ | ⟨rfl, h2⟩ | ⟨rfl, h1, h2⟩
  · exact ⟨(74, 4, 9), by simp, rfl, h1, h2⟩
  · exact ⟨(75, 0, 1), by simp, rfl, Nat.zero_le _, h2⟩
  · exact ⟨(75, 8, 135), by simp, rfl, h1, h2⟩
theorem zyI_res {E : zyEm} {a k : Nat} (h : (a = 74 ∧ 4 ≤ k ∧ k ≤ 9) ∨ (a = 75 ∧ k ≤ 1) ∨ (a = 75 ∧ 8 ≤ k ∧ k ≤ 135)) : zyI (zyres E) a k = zyI E a k := by
  refine zyI_eq ?_
  unfold zyres
  rw [if_pos (zyFd0_in h)]
def zgr (E : zyEm) : Nat := zyN1 (zyI E 75 0)
def zgc (E : zyEm) : Nat := zyN1 (zyI E 75 1)
def zgHow (E : zyEm) (g : Nat) : Int32 := if zyI E 74 9 = 0 then zyI E 75 (72 + min g 31) else if Int32.ofNat g = zyI E 74 4 then zyI E 74 5 else if Int32.ofNat g = zyI E 74 6 then zyI E 74 7 else 0
def zgFn (E : zyEm) : Nat → Int32
  | 0 => 0
  | k + 1 => zgFn E k + zyI E 75 (104 + min k 31)
def zgO (E : zyEm) (g : Nat) (t : Int32) : Bool := if 0 < zgHow E g then decide (zgHow E g = 2) else if ¬ zyI E 74 8 < 0 ∧ zyI E 75 (104 + min g 31) = 1 then decide ((zyI E 74 8 >>> (zgFn E g &&& 31)) &&& 1 = 1) else decide ((zyI E 75 (8 + min g 31) >>> ((t - t / zyI E 75 (40 + min g 31) * zyI E 75 (40 + min g 31)) &&& 31)) &&& 1 = 1)
noncomputable def zgV (E : zyEm) (s : Nat) (t : Int32) : Nat := if zgG (zgr E) (zgc E) s = 4294967295 then s else if zgO E (zgG (zgr E) (zgc E) s) t = true then zgF (zgr E) (zgc E) s else s
noncomputable def zgM (E : zyEm) (s : Nat) (t : Int32) : Nat := zgV E (zgT (zgc E) s) t
def zgPk (E : zyEm) : Nat → Nat
  | 0 => 1
  | k + 1 => Nat.lcm (zgPk E k) (zyN1 (zyI E 75 (40 + min k 31)))
noncomputable def zgP (E : zyEm) : Nat := zgPk E (zgNG (zgr E) (zgc E))
noncomputable def zgRk (E : zyEm) (from_ : Int32) (s : Nat) : Nat → Nat
  | 0 => s
  | k + 1 => zgM E (zgRk E from_ s k) (from_ + Int32.ofNat k)
noncomputable def zgR (E : zyEm) (s : Nat) (from_ : Int32) : Nat := zgRk E from_ s (zgP E)
def zyRr0 (id : Nat) (E : zyEm) (x y z : Int32) : Prop :=
  (id = 0 ∧ z = Int32.ofNat (zgT (zgc E) (zyN1 x))) ∨ (id = 1 ∧ z = Int32.ofNat (zgG (zgr E) (zgc E) (zyN1 x))) ∨ (id = 2 ∧ z = Int32.ofNat (zgF (zgr E) (zgc E) (zyN1 x))) ∨ (id = 3 ∧ z = if zgO E (zyN1 x) y = true then 1 else 0) ∨
  (id = 4 ∧ z = Int32.ofNat (zgV E (zyN1 x) y)) ∨ (id = 5 ∧ z = Int32.ofNat (zgM E (zyN1 x) y)) ∨ (id = 6 ∧ z = Int32.ofNat (zgP E)) ∨ (id = 7 ∧ z = Int32.ofNat (zgR E (zyN1 x) y)) ∨ (id = 8 ∧ z = zgFn E (zyN1 x))
def zyRr (id : Nat) (E : zyEm) (x y z : Int32) : Prop := (id < 100 ∧ zyRr0 id (zyres E) x y z) ∨ (300 ≤ id ∧ zB x ≤ zB z ∧ zB z ≤ zB x + (id - 300))
theorem zyRr_congr {id : Nat} {E E2 : zyEm} {x y z : Int32} (h : ∀ a k, zyin (zyFd id) a k = true → E a k = E2 a k) (hr : zyRr id E x y z) : zyRr id E2 x y z := by
  rcases hr with ⟨h1, h2⟩ | h1
  · rw [zyFd_0 h1] at h
    rw [zyres_eq h] at h2
    exact Or.inl ⟨h1, h2⟩
  · exact Or.inr h1
theorem zyRr_grow {id : Nat} {E : zyEm} {x y z : Int32} (h : 300 ≤ id) (hr : zyRr id E x y z) : zB x ≤ zB z ∧ zB z ≤ zB x + (id - 300) := by
  rcases hr with ⟨h1, -⟩ | ⟨-, h1⟩
  · omega
  · exact h1
/-- such a J as the reference's contracts are shown for -/
def zyJr (J : zyJt) : Prop := zyJp zydr J ∧ J.2 = zyRr
theorem zyRr_get {id : Nat} {E : zyEm} {x y z : Int32} (hid : id < 100) (h : zyRr id E x y z) : zyRr0 id (zyres E) x y z := by
  rcases h with ⟨-, h2⟩ | ⟨h1, -⟩
  · exact h2
  · omega
theorem zyN1_of {n : Nat} (h : n < 4294967296) : zyN1 (Int32.ofNat n) = n := by
  unfold zyN1
  rw [zN_of]
  omega
/-! rows and columns are those of the base -/
theorem zyg75 (r c : Nat) : zG (zymr r c) 75 = some (zymr75 r c) := rfl
theorem zyL75 (r c : Nat) : zyLen (zymr75 r c) = 556 := by
  show (if (20 : Nat) < 12 then _ else 556) = 556
  rw [if_neg (by decide)]
theorem zyrc {r c : Nat} (hr : r < 2147483648) (hc : c < 2147483648) {B : zCx} {J : zyJt} {s : State} (hI : zyMI (zymr r c) B J s s.heap) : zgr (zyEl (zymr r c) B s.heap) = r ∧ zgc (zyEl (zymr r c) B s.heap) = c := by
  obtain ⟨w0, h1, h2⟩ := hI.2.1 75 _ 0 (zyg75 r c) (by rw [zyL75]; decide)
  obtain ⟨w1, h3, h4⟩ := hI.2.1 75 _ 1 (zyg75 r c) (by rw [zyL75]; decide)
  have e0 := zyv_0 (h2 (0, 0, Nat.mul 8 r) List.mem_cons_self (Nat.le_refl _) (Nat.le_refl _)).2 (show 8 * r % 8 = 0 by omega)
  have e1 := zyv_0 (h4 (1, 1, Nat.mul 8 c) (List.mem_cons_of_mem _ List.mem_cons_self) (Nat.le_refl _) (Nat.le_refl _)).2 (show 8 * c % 8 = 0 by omega)
  rw [show Nat.mul 8 r / 8 = r from by show 8 * r / 8 = r; omega] at e0
  rw [show Nat.mul 8 c / 8 = c from by show 8 * c / 8 = c; omega] at e1
  refine ⟨?_, ?_⟩
  · unfold zgr zyI
    rw [h1, e0]
    exact zyN1_of (by omega)
  · unfold zgc zyI
    rw [h3, e1]
    exact zyN1_of (by omega)
theorem zgr_res {E : zyEm} : zgr (zyres E) = zgr E ∧ zgc (zyres E) = zgc E := by
  unfold zgr zgc
  rw [zyI_res (by omega), zyI_res (by omega)]
  exact ⟨rfl, rfl⟩
theorem zyS_def (r c : Nat) : zyS r c = 8 * (2147483648 * 4294967296 + (2147483647 + 4 * (r * c))) + 2 := rfl
theorem zyS_iff {ρ : Nat → Int32} {N : Nat} {ad : Nat → Nat} {r c : Nat} {x : Int32} (hb : r * c ≤ 20) (h : zyv ρ N ad (zyS r c) (.int x)) : x = Int32.ofNat (zyN1 x) ∧ zyN1 x < zgNS r c := by
  rw [zyS_def] at h
  obtain ⟨x2, e, b1, b2⟩ := zv_2 (zyv_zv h (by omega) (by omega)) (by omega)
  have e := Value.int.inj e
  subst e
  have b1 : 2147483648 ≤ zB x := by omega
  have b2 : zB x ≤ 2147483647 + 4 * (r * c) := by omega
  have e1 := zyN1_lo b1
  have l1 := zB_lt x
  refine ⟨?_, ?_⟩
  · apply zN_inj
    rw [zN_of]
    unfold zyN1
    have := x.toBitVec.isLt
    omega
  · show zyN1 x < 4 * (r * c)
    omega
/-- a method of one slot, by its answers at each slot -/
theorem zyslot1 {l : Launch} {J : zyJt} (hJ : zyJr J) {r c : Nat} (hb : r * c ≤ 20) (hr : r < 2147483648) (hc : c < 2147483648) {y dep id res : Nat} {f : Nat → Nat} {en : zEn} {me : zMe} (hcon : ∀ s, s < zgNS r c → zyCon l (zymr r c) J en me ([595, 8 * s], [], [8 * f s], dep, [], []))
    (hres : ∀ s, s < zgNS r c → ∀ (B : zCx), zyv (fun _ => 0) 0 (zad B) res (.int (Int32.ofNat (f s)))) (hrel : ∀ (E : zyEm) (x y z : Int32), zgr E = r → zgc E = c → z = Int32.ofNat (f (zyN1 x)) → zyRr id E x y z) : zyCon l (zymr r c) J en me ([595, zyS r c], [], [res, id], dep, [], []) := by
  intro B AsV hA
  refine zyMet_pt (fun a s hp => ?_)
  obtain ⟨rfl, hK, hI, hPk⟩ := hp
  obtain ⟨v0, t0, rfl, a1, hA1⟩ := zySt_c hA
  obtain ⟨v1, t1, rfl, a2, hA2⟩ := zySt_c hA1
  have e2 := zySt_n hA2
  subst e2
  obtain ⟨x, rfl⟩ := zyv_int a2 (by rw [zyS_def]; omega)
  obtain ⟨ex, hx⟩ := zyS_iff hb a2
  have hm := hcon (zyN1 x) hx B [v0, .int x] ⟨a1, zyv_mk ex.symm, trivial⟩
  refine ⟨_, _, hm, ⟨rfl, hK, hI, fun p hp => by cases hp⟩, fun o t hq => ?_⟩
  obtain ⟨vo, e1, hv, k1, k2, k3, k4, k5⟩ := hq
  refine ⟨vo, e1, ?_, k1, k2, k3, k4, k5⟩
  cases vo with
  | none => exact hv.elim
  | some q =>
    have e3 := zyv_0 (show zyV (zyX0 B J) (8 * f (zyN1 x)) q from hv) (by omega)
    rw [show 8 * f (zyN1 x) / 8 = f (zyN1 x) by omega] at e3
    subst e3
    refine ⟨_, rfl, hres _ hx B, ?_⟩
    rw [hJ.2]
    obtain ⟨r1, r2⟩ := zyrc hr hc hI
    exact hrel _ _ _ _ r1 r2 rfl
end
section
/-! THE REFERENCE: turned, gateAt, facing as functions -/
noncomputable def zyGq (r c : Nat) : Nat := Nat.add (Nat.mul 8 (Nat.add 9223372032559808512 (Nat.add 2147483647 (zgNG r c)))) 2
theorem zyGq_def (r c : Nat) : zyGq r c = 8 * (2147483647 * 4294967296 + (2147483647 + zgNG r c)) + 2 := rfl
theorem zyS1_def (r c : Nat) : zyS1 r c = 8 * (2147483647 * 4294967296 + (2147483647 + 4 * (r * c))) + 2 := rfl
theorem zyrc20 {r c : Nat} (h2 : r ≤ 4) (h4 : c ≤ 5) : r * c ≤ 20 := Nat.mul_le_mul h2 h4
theorem zgNS_le {r c : Nat} (h2 : r ≤ 4) (h4 : c ≤ 5) : zgNS r c ≤ 80 := by
  have := zyrc20 h2 h4
  show 4 * (r * c) ≤ 80
  omega
theorem zgNG_le {r c : Nat} (h2 : r ≤ 4) (h4 : c ≤ 5) : zgNG r c ≤ 31 := by
  show r * (c - 1) + (r - 1) * c ≤ 31
  have h : ∀ r, r < 5 → ∀ c, c < 6 → r * (c - 1) + (r - 1) * c ≤ 31 := by decide
  exact h r (by omega) c (by omega)
theorem zgfacts {r c : Nat} (h1 : 1 ≤ r) (h2 : r ≤ 4) (h3 : 1 ≤ c) (h4 : c ≤ 5) {s : Nat} (hs : s < zgNS r c) : zgT c s < zgNS r c ∧ zgU c (zgT c s) = s ∧ (zgG r c s = 4294967295 ∨ (zgG r c s < zgNG r c ∧ zgF r c s < zgNS r c ∧ zgF r c (zgF r c s) = s ∧ zgG r c (zgF r c s) = zgG r c s)) := by
  have h := zyAll_iff (zyAllP_iff zgAll h1 h2 h3 h4) s hs
  obtain ⟨q1, q2⟩ := zand_iff h
  obtain ⟨q1, q3⟩ := zand_iff q1
  refine ⟨zbleT q1, zbeqT q3, ?_⟩
  rcases zif_iff q2 with ⟨q4, -⟩ | ⟨-, q4⟩
  · exact Or.inl (zbeqT q4)
  · obtain ⟨q5, q6⟩ := zand_iff q4
    obtain ⟨q5, q7⟩ := zand_iff q5
    obtain ⟨q6, q8⟩ := zand_iff q6
    exact Or.inr ⟨zbleT q5, zbleT q7, zbeqT q6, zbeqT q8⟩
theorem zB_of4 {n : Nat} (h : n < 2147483648) : zB (Int32.ofNat n) = n + 2147483648 := zB_nI h
theorem zB_none : zB (Int32.ofNat 4294967295) = 2147483647 := by decide
theorem zgF_none {r c s : Nat} (h : zgG r c s = 4294967295) : zgF r c s = 4294967295 := by
  unfold zgF
  rw [h]
  rfl
section ZYG
variable {l : Launch} {J : zyJt} {r c : Nat} {en : zEn} {me : zMe}
theorem zyturned (hJ : zyJr J) (h1 : 1 ≤ r) (h2 : r ≤ 4) (h3 : 1 ≤ c) (h4 : c ≤ 5) (hen : zG zxMeta 204 = some en) (hme : zG zMeth 204 = some me) : zyCon l (zymr r c) J en me ([595, zyS r c], [], [zyS r c, 0], 2, [], []) := by
  have hn := zgNS_le h2 h4
  refine zyslot1 (f := zgT c) (y := 204) hJ (zyrc20 h2 h4) (by omega) (by omega) (fun s hs => zyk1_ok hJ.1 (zyAll_iff (zyAllP_iff zgrunT h1 h2 h3 h4) s hs) hen hme) (fun s hs B => ?_) (fun E x y z hr hc hz => Or.inl ⟨by decide, Or.inl ⟨rfl, ?_⟩⟩)
  · have hb := (zgfacts h1 h2 h3 h4 hs).1
    have hb' : zgT c s < 4 * (r * c) := hb
    rw [zyS_def]
    exact zyv_bd (by rw [zB_of4 (by omega)]; omega) (by rw [zB_of4 (by omega)]; omega) (by have := zyrc20 h2 h4; omega)
  · rw [zgr_res.2, hc]
    exact hz
theorem zygateAt (hJ : zyJr J) (h1 : 1 ≤ r) (h2 : r ≤ 4) (h3 : 1 ≤ c) (h4 : c ≤ 5) (hen : zG zxMeta 202 = some en) (hme : zG zMeth 202 = some me) : zyCon l (zymr r c) J en me ([595, zyS r c], [], [zyGq r c, 1], 3, [], []) := by
  have hn := zgNS_le h2 h4
  have hg := zgNG_le h2 h4
  refine zyslot1 (f := zgG r c) (y := 202) hJ (zyrc20 h2 h4) (by omega) (by omega) (fun s hs => zyk1_ok hJ.1 (zyAll_iff (zyAllP_iff zgrunG h1 h2 h3 h4) s hs) hen hme) (fun s hs B => ?_) (fun E x y z hr hc hz => Or.inl ⟨by decide, Or.inr (Or.inl ⟨rfl, ?_⟩)⟩)
  · rw [zyGq_def]
    rcases (zgfacts h1 h2 h3 h4 hs).2.2 with e | ⟨e, -⟩
    · rw [e]
      exact zyv_bd (by rw [zB_none]; omega) (by rw [zB_none]; omega) (by omega)
    · exact zyv_bd (by rw [zB_of4 (by omega)]; omega) (by rw [zB_of4 (by omega)]; omega) (by omega)
  · rw [zgr_res.1, zgr_res.2, hr, hc]
    exact hz
theorem zyfacing (hJ : zyJr J) (h1 : 1 ≤ r) (h2 : r ≤ 4) (h3 : 1 ≤ c) (h4 : c ≤ 5) (hen : zG zxMeta 203 = some en) (hme : zG zMeth 203 = some me) : zyCon l (zymr r c) J en me ([595, zyS r c], [], [zyS1 r c, 2], 5, [], []) := by
  have hn := zgNS_le h2 h4
  have hrc := zyrc20 h2 h4
  refine zyslot1 (f := zgF r c) (y := 203) hJ (zyrc20 h2 h4) (by omega) (by omega) (fun s hs => zyk1_ok hJ.1 (zyAll_iff (zyAllP_iff zgrunF h1 h2 h3 h4) s hs) hen hme) (fun s hs B => ?_) (fun E x y z hr hc hz => Or.inl ⟨by decide, Or.inr (Or.inr (Or.inl ⟨rfl, ?_⟩))⟩)
  · rw [zyS1_def]
    rcases (zgfacts h1 h2 h3 h4 hs).2.2 with e | ⟨-, e, -⟩
    · rw [zgF_none e]
      exact zyv_bd (by rw [zB_none]; omega) (by rw [zB_none]; omega) (by omega)
    · have e : zgF r c s < 4 * (r * c) := e
      exact zyv_bd (by rw [zB_of4 (by omega)]; omega) (by rw [zB_of4 (by omega)]; omega) (by omega)
  · rw [zgr_res.1, zgr_res.2, hr, hc]
    exact hz
end ZYG
end
section
/-! THE REFERENCE: how many free switches are ahead of one -/
theorem zyag_get : ∀ {ls : List Nat} {i : Nat}, i < ls.length → ls[i]? = some (zyag ls i) := by
  intro ls
  induction ls with
  | nil => intro i h; exact absurd h (Nat.not_lt_zero i)
  | cons a t ih =>
    intro i h
    cases i with
    | zero => rfl
    | succ i =>
      rw [List.getElem?_cons_succ, zyag_c]
      exact ih (Nat.lt_of_succ_lt_succ h)
/-- the symbol of a local at a new cut -/
theorem zyrho_ag {X : zyX} {mi : zyB} {Y : zCx} {H : Heap} {nL i : Nat} {ls : List Nat} {lsA : Array Slot} {kc : List (Nat × Nat)} {x : Int32} (hL : zyLs X nL ls lsA) (hi : i < nL) (hk : (zyag ls i) % 8 ≤ 1) (hv : zyV X (zyag ls i) (.int x)) : zyrho mi Y H nL lsA kc i = x := by
  have hg := zyag_get (ls := ls) (i := i) (by rw [hL.1]; exact hi)
  obtain ⟨w, h1, h2⟩ := hL.2.2.2 i _ hg (fun q => by rw [q] at hk; exact absurd hk (by decide))
  obtain ⟨y, rfl⟩ := zyv_int h2 (by omega)
  have e := zyv_one hk hv h2
  subst e
  exact zyrho_l hi h1
theorem zysym_v {X : zyX} {i : Nat} (h : i < zyN X) : zyV X (zysym i) (.int (zyρ X i)) := zyv_sym h rfl
/-- a symbol and some more -/
theorem zysym_p {X : zyX} {i c : Nat} (h : i < zyN X) (hc : c < 4294967296) : zyV X (Nat.add (zysym i) (Nat.mul 8 c)) (.int (zyρ X i + Int32.ofNat c)) := by
  show zyv _ _ _ (i * 34359738368 + 1 + 8 * c) _
  refine Or.inl ⟨Or.inr (Or.inl ⟨by omega, ?_⟩), fun _ => by omega, fun q => by omega⟩
  rw [show (i * 34359738368 + 1 + 8 * c) / 34359738368 = i by omega, show (i * 34359738368 + 1 + 8 * c) / 8 % 4294967296 = c by omega]
theorem zysym_pk {i c : Nat} : (Nat.add (zysym i) (Nat.mul 8 c)) % 8 ≤ 1 := by
  show (i * 34359738368 + 1 + 8 * c) % 8 ≤ 1
  omega
/-- the int of a local at the entry -/
theorem zyarg1 {lsA : Array Slot} {n : Nat} {a0 : Addr} {x : Int32} {t : List Value} (h : lv_has lsA n (lv_args 0 (.ref a0 :: .int x :: t))) : lsA[1]? = some (.val (.int x)) := h.2.2 (1, .int x) (List.mem_cons_of_mem _ List.mem_cons_self)
theorem zyarg2 {lsA : Array Slot} {n : Nat} {a0 : Addr} {x y : Int32} {t : List Value} (h : lv_has lsA n (lv_args 0 (.ref a0 :: .int x :: .int y :: t))) : lsA[2]? = some (.val (.int y)) := h.2.2 (2, .int y) (List.mem_cons_of_mem _ (List.mem_cons_of_mem _ List.mem_cons_self))
theorem zyAi1 {a : Value} {x : Int32} {t : List Value} : zyAi (a :: .int x :: t).toArray 1 = x := by simp [zyAi]
theorem zyAi2 {a b : Value} {x : Int32} {t : List Value} : zyAi (a :: b :: .int x :: t).toArray 2 = x := by simp [zyAi]
/-- indices -/
theorem zyix {X : zyX} {i o jx : Nat} {B : zyB} (hi : i < zyN X) (h : zyV X (Nat.add (zysym i) (Nat.mul 8 o)) (.int (Int32.ofNat jx))) (hj : jx < 2147483648) (hlo : 2147483648 ≤ zB (zyρ X i)) (hhi : zB (zyρ X i) + o < 4294967296) (ho : o < 2147483648) : jx = zyN1 (zyρ X i) + o := by
  have e := zyaddB (x := zyρ X i) rfl h hhi ho
  rw [zB_of4 hj] at e
  have e2 := zyN1_lo hlo
  omega
noncomputable def zyκfe : zyKt := (0, 4, [595, zysym 1, 13, 13], [(0, 4294967295), (2147483648, 2147483678), (0, 4294967295), (0, 4294967295)], [], [])
noncomputable def zyκfl : zyKt := (4, 4, [595, zysym 1, zysym 2, zysym 3], [(0, 4294967295), (2147483648, 2147483678), (0, 4294967295), (2147483648, 2147483679)], [], [])
noncomputable def zystf (P : zyP) (κ : zyKt) : zyK := fun w _ _ pc ls st _ fs m => List.rec (motive := fun _ => Bool) (List.rec (motive := fun _ => Bool) (zand (Nat.beq pc 4) (zand (zyincl P 4 w ls m.1 zyκfl) (zand (Nat.beq (zyag ls 1) (zysym 1)) (zif (Nat.beq κ.1 0) (zand (Nat.beq (zyag ls 2) 0) (Nat.beq (zyag ls 3) 0))
  (zand (zqlt w m.2 (zysym 3) (zysym 1) true false) (zand (Nat.beq (zyag ls 3) (Nat.add (zysym 3) (Nat.mul 8 1))) (zqE 75 (Nat.add (zysym 3) (Nat.mul 8 104)) (fun x => zand (Nat.ble (Nat.mod x 8) 1) (zqop 1 (zysym 2) x (fun v => zand (Nat.ble (Nat.mod v 8) 1) (Nat.beq v (zyag ls 2))) m.2)) m.2))))))) (fun _ _ _ => false) st) (fun _ _ _ => false) fs
noncomputable def zybtf (κ : zyKt) : zW → List Nat → zyM → Bool := fun w v m => zand (Nat.beq κ.1 4) (zand (zylb v [zysym 2]) (zqlt w m.2 (zysym 3) (zysym 1) false true))
noncomputable def zyPf (r c : Nat) : zyP := (zymr r c, fun _ => [], [], zydr, 0)
noncomputable def zyrunf (r c : Nat) (κ : zyKt) : Bool := zyok (fun w v m => zand (zyfitM w (zymr r c) m.1) (zand (zypre w (zymr r c) m.1 []) (zybtf κ w v m))) (zyPf r c) (zystf (zyPf r c) κ) 200000 (4, κ.2.2.2.1) zxi209 (209, 0, 0, 1, 0) κ.1 κ.2.2.1 [] (1, 0, 0) [] ([], [])
theorem zyrunf_all : zyAllP (fun r c => zand (zyrunf r c zyκfe) (zand (zyrunf r c zyκfl) (zpad 4 (zexp [595, zyc 0 30]) (fun l2 => zyincl (zyPf r c) 4 (0, []) l2 [] zyκfe)))) = true := by decide +kernel
theorem zystf_iff {P : zyP} {κ : zyKt} {w : zW} {cf : Nat → zT} {y : zY} {pc : Nat} {ls st : List Nat} {q : zQ} {m : zyM} (h : zystf P κ w cf y pc ls st q [] m = true) : st = [] ∧ pc = 4 ∧ zyincl P 4 w ls m.1 zyκfl = true ∧ zyag ls 1 = zysym 1 ∧ ((κ.1 = 0 ∧ zyag ls 2 = 0 ∧ zyag ls 3 = 0) ∨ (¬ κ.1 = 0 ∧ zqlt w m.2 (zysym 3) (zysym 1) true false = true ∧ zyag ls 3 = Nat.add (zysym 3) (Nat.mul 8 1) ∧ zqE 75 (Nat.add (zysym 3) (Nat.mul 8 104)) (fun x => zand (Nat.ble (Nat.mod x 8) 1) (zqop 1 (zysym 2) x (fun v => zand (Nat.ble (Nat.mod v 8) 1) (Nat.beq v (zyag ls 2))) m.2)) m.2 = true)) := by
  cases st with
  | cons a t => cases h
  | nil =>
    obtain ⟨h1, h⟩ := zand_iff (show zand (Nat.beq pc 4) _ = true from h)
    obtain ⟨h2, h⟩ := zand_iff h
    obtain ⟨h3, h⟩ := zand_iff h
    refine ⟨rfl, zbeqT h1, h2, zbeqT h3, ?_⟩
    rcases zif_iff h with ⟨h4, h5⟩ | ⟨h4, h5⟩
    · obtain ⟨h6, h7⟩ := zand_iff h5
      exact Or.inl ⟨zbeqT h4, zbeqT h6, zbeqT h7⟩
    · obtain ⟨h6, h7⟩ := zand_iff h5
      obtain ⟨h7, h8⟩ := zand_iff h7
      exact Or.inr ⟨zbeqF h4, h6, zbeqT h7, h8⟩
theorem zyfreeN {l : Launch} {J : zyJt} (hJ : zyJr J) {r c : Nat} (h1 : 1 ≤ r) (h2 : r ≤ 4) (h3 : 1 ≤ c) (h4 : c ≤ 5) {en : zEn} {me : zMe} (hen : zG zxMeta 209 = some en) (hme : zG zMeth 209 = some me) : zyCon l (zymr r c) J en me ([595, zyc 0 30], [], [34359738362, 8], 1, [], []) := by
  have een : zG zxMeta 209 = some (zxi209, 2, 4, 11, 209, 0, 0, 1, 0) := rfl
  obtain ⟨me1, hme1, hOK⟩ := zall hen
  rw [hme] at hme1
  cases hme1
  rw [een] at hen
  cases hen
  obtain ⟨q1, hr⟩ := zand_iff (zyAllP_iff zyrunf_all h1 h2 h3 h4)
  obtain ⟨q2, q3⟩ := zand_iff hr
  have hK : ∀ κ, κ ∈ [zyκfe, zyκfl] → κ = zyκfe ∨ κ = zyκfl := fun κ hκ => by simpa using hκ
  have hw : zand (zywf 4 zyκfe) (zywf 4 zyκfl) = true := by decide +kernel
  refine zycutC (P := zyPf r c) (J := J) (K := [zyκfe, zyκfl]) (κ0 := zyκfe) (n := 200000) (bt := zybtf) (stp := zystf (zyPf r c)) hOK (zyno rfl) hJ.1 rfl rfl List.mem_cons_self rfl ?_ (fun _ _ _ _ _ _ _ _ _ _ _ => rfl) ?_ q3 (fun _ _ h => h)
    (fun B AsV κ s ρ H => ∃ g : Int32, AsV[1]? = some (.int g) ∧ ρ 1 = g ∧ 2147483648 ≤ zB g ∧ zB g ≤ 2147483678 ∧ (κ = zyκfe ∨ (κ = zyκfl ∧ 2147483648 ≤ zB (ρ 3) ∧ zB (ρ 3) ≤ zB g ∧ ρ 2 = zgFn (zyres (zyEl (zymr r c) B s.heap)) (zyN1 (ρ 3))))) (fun _ _ κ _ ρ _ => if κ.1 = 0 then 5000000000 else 4294967295 - zB (ρ 3)) ?_ ?_ ?_
  · intro κ hκ
    rcases hK κ hκ with e | e
    · rw [e]; exact (zand_iff hw).1
    · rw [e]; exact (zand_iff hw).2
  · intro κ hκ
    rcases hK κ hκ with e | e
    · rw [e]; exact q1
    · rw [e]; exact q2
  · intro B AsV hA s lsA hKn hI hPk hlv
    obtain ⟨v0, t0, rfl, a1, hA1⟩ := zySt_c hA
    obtain ⟨v1, t1, rfl, a2, hA2⟩ := zySt_c hA1
    have e0 : v0 = .ref (zad B 74) := zyv_3 (v := 595) a1 (by decide)
    subst e0
    obtain ⟨g, rfl⟩ := zyv_int a2 (by decide)
    have hb := zyc_iff (by decide) a2
    exact ⟨g, rfl, zyrho_l (by decide) (zyarg1 hlv), by omega, by omega, Or.inl rfl⟩
  · intro B AsV hA κ hκ s ρ H hPk hI hInv ρ2 N2 w pc ls st q m H2 locs2 lsB stA hs hag hR
    obtain ⟨g, hg, hρ1, b1, b2, hInv⟩ := hInv
    obtain ⟨est, hpc, hin, hl1, hcase⟩ := zystf_iff hs
    have hκ1 : κ.2.1 = 4 := by
      rcases hK κ hκ with e | e <;> rw [e] <;> rfl
    have hN : 4 ≤ N2 := by
      have := hR.1.2.2.1.1
      rw [← hκ1]
      exact this
    have hLs := hR.2.2.2.1
    have hr1 : ∀ kc, zyrho (zymr r c) B H2 4 lsB kc 1 = g := by
      intro kc
      refine zyrho_ag hLs (by decide) (by rw [hl1]; exact zysym_k 1) ?_
      rw [hl1, ← hρ1, ← hag 1 (by omega)]
      exact zysym_v (X := (B, ρ2, N2, ρ, κ.2.1, (zyEl (zymr r c) B s.heap, fun q => s.heap[q]?), J)) (show 1 < N2 by omega)
    rcases hcase with ⟨hk0, l2, l3⟩ | ⟨hk0, hlt, l3, hq⟩
    · refine ⟨zyκfl, by simp, est, hpc, ⟨w, rfl, hR.1.1, hin⟩, ⟨g, hg, hr1 _, b1, b2, Or.inr ⟨rfl, ?_⟩⟩, ?_⟩
      · have e3 : zyrho (zyPf r c).1 B H2 ((zxi209, 2, 4, 11, 209, 0, 0, 1, 0) : zEn).2.2.1 lsB zyκfl.2.2.2.2.1 3 = 0 := zyrho_ag hLs (by decide) (by rw [l3]; decide) (by rw [l3]; exact zyv_zero)
        have e2 : zyrho (zyPf r c).1 B H2 ((zxi209, 2, 4, 11, 209, 0, 0, 1, 0) : zEn).2.2.1 lsB zyκfl.2.2.2.2.1 2 = 0 := zyrho_ag hLs (by decide) (by rw [l2]; decide) (by rw [l2]; exact zyv_zero)
        have z0 : zB (0 : Int32) = 2147483648 := by decide
        have n0 : zyN1 (0 : Int32) = 0 := by decide
        refine ⟨?_, ?_, ?_⟩
        · rw [e3, z0]; omega
        · rw [e3, z0]; omega
        · rw [e3, e2, n0]
          rfl
      · rw [if_pos hk0, if_neg (show ¬ zyκfl.1 = 0 by decide)]
        omega
    · rcases hInv with e | ⟨eκ, k1, k2, k3⟩
      · rw [e] at hk0; exact absurd rfl hk0
      have hs3 : ρ2 3 = ρ 3 := hag 3 (by omega)
      have hs2 : ρ2 2 = ρ 2 := hag 2 (by omega)
      have hs1 : ρ2 1 = g := by rw [← hρ1]; exact hag 1 (by omega)
      have hlt2 := zqlt_iff hR.1.1 hR.1.2.2.2 (zysym_k 3) (zysym_k 1) (zysym_v (show 3 < N2 by omega)) (zysym_v (show 1 < N2 by omega)) hlt
      have hlt3 : ρ 3 < g := by
        rcases hlt2 with ⟨q1, -⟩ | ⟨-, q1⟩
        · have q1 : ρ2 3 < ρ2 1 := q1
          rw [hs3, hs1] at q1
          exact q1
        · cases q1
      have hlt4 : zB (ρ 3) < zB g := by
        have e1 := zB_int (ρ 3)
        have e2 := zB_int g
        rw [Int32.lt_iff_toInt_lt] at hlt3
        omega
      obtain ⟨xv, jx, x, p1, p2, p3, p4, p5⟩ := zqE_iff hR.1.2.2.2 hq
      obtain ⟨p6, p7⟩ := zand_iff p5
      have p6 := zbleT p6
      obtain ⟨v, x2, y2, r1, r2, r3, r4⟩ := zqop_iff hR.1.2.2.2 (by decide) p7
      obtain ⟨r5, r6⟩ := zand_iff r4
      have r5 := zbleT r5
      have r6 := zbeqT r6
      have ey := zyv_one (show xv % 8 ≤ 1 from p6) p1 r2
      subst ey
      have ex := zyv_one (zysym_k 2) (zysym_v (X := (B, ρ2, N2, ρ, κ.2.1, (zyEl (zymr r c) B s.heap, fun q => s.heap[q]?), J)) (show 2 < N2 by omega)) r1
      have ex : ρ2 2 = x2 := ex
      have r3 : zyV (B, ρ2, N2, ρ, κ.2.1, (zyEl (zymr r c) B s.heap, fun q => s.heap[q]?), J) v (.int (x2 + x)) := r3
      have hj := zyix (B := zymr r c) (show 3 < zyN (B, ρ2, N2, ρ, κ.2.1, (zyEl (zymr r c) B s.heap, fun q => s.heap[q]?), J) from (show 3 < N2 by omega)) p2 p3 (by show 2147483648 ≤ zB (ρ2 3); rw [hs3]; exact k1) (by show zB (ρ2 3) + 104 < 4294967296; rw [hs3]; omega) (by decide)
      have hj : jx = zyN1 (ρ2 3) + 104 := hj
      rw [hs3] at hj
      have p4 : zyEl (zymr r c) B s.heap 75 jx = some (.int x) := p4
      have e3 : zyrho (zyPf r c).1 B H2 ((zxi209, 2, 4, 11, 209, 0, 0, 1, 0) : zEn).2.2.1 lsB zyκfl.2.2.2.2.1 3 = ρ 3 + 1 := zyrho_ag hLs (by decide) (by rw [l3]; exact zysym_pk) (by
        rw [l3, ← hs3]
        exact zysym_p (X := (B, ρ2, N2, ρ, κ.2.1, (zyEl (zymr r c) B s.heap, fun q => s.heap[q]?), J)) (show 3 < N2 by omega) (by decide))
      have e2 : zyrho (zyPf r c).1 B H2 ((zxi209, 2, 4, 11, 209, 0, 0, 1, 0) : zEn).2.2.1 lsB zyκfl.2.2.2.2.1 2 = ρ 2 + x := zyrho_ag hLs (by decide) (by rw [← r6]; exact r5) (by rw [← r6, ← hs2, ex]; exact r3)
      have z1 : zB (ρ 3 + 1) = zB (ρ 3) + 1 := by
        have := zB_add2 (x := ρ 3) (y := 1) (by rw [show zB (1 : Int32) = 2147483649 by decide]; omega) (by rw [show zB (1 : Int32) = 2147483649 by decide]; omega)
        rw [this, show zB (1 : Int32) = 2147483649 by decide]
        omega
      have n1 : zyN1 (ρ 3 + 1) = zyN1 (ρ 3) + 1 := by
        rw [zyN1_lo (by omega), zyN1_lo k1, z1]
        omega
      have n3 := zyN1_lo k1
      refine ⟨zyκfl, by simp, est, hpc, ⟨w, rfl, hR.1.1, hin⟩, ⟨g, hg, hr1 _, b1, b2, Or.inr ⟨rfl, ?_, ?_, ?_⟩⟩, ?_⟩
      · rw [e3, z1]; omega
      · rw [e3, z1]; omega
      · rw [e3, e2, n1]
        show ρ 2 + x = zgFn (zyres (zyEl (zymr r c) B s.heap)) (zyN1 (ρ 3)) + zyI (zyres (zyEl (zymr r c) B s.heap)) 75 (104 + min (zyN1 (ρ 3)) 31)
        rw [← k3, zyI_res (by omega), show 104 + min (zyN1 (ρ 3)) 31 = jx by omega]
        unfold zyI
        rw [p4]
      · rw [if_neg hk0, if_neg (show ¬ zyκfl.1 = 0 by decide), e3, z1]
        omega
  · intro B AsV hA κ hκ s ρ H hPk hI hInv ρ2 w v m t vo hbt hag hE hF hM hvo
    obtain ⟨g, hg, hρ1, b1, b2, hInv⟩ := hInv
    obtain ⟨c1, hbt⟩ := zand_iff hbt
    obtain ⟨c2, c3⟩ := zand_iff hbt
    have c1 := zbeqT c1
    have ev := zylb_iff c2
    subst ev
    rcases hInv with e | ⟨eκ, k1, k2, k3⟩
    · rw [e] at c1; cases c1
    have hκ1 : κ.2.1 = 4 := by rw [eκ]; rfl
    have hN : 4 ≤ w.1 := by have := hag.1; omega
    have hs3 : ρ2 3 = ρ 3 := hag.2 3 (by omega)
    have hs2 : ρ2 2 = ρ 2 := hag.2 2 (by omega)
    have hs1 : ρ2 1 = g := by rw [← hρ1]; exact hag.2 1 (by omega)
    have hlt2 := zqlt_iff hE hF (zysym_k 3) (zysym_k 1) (zysym_v (show 3 < w.1 by omega)) (zysym_v (show 1 < w.1 by omega)) c3
    have hge : ¬ ρ 3 < g := by
      rcases hlt2 with ⟨-, q1⟩ | ⟨q1, -⟩
      · cases q1
      · have q1 : ¬ ρ2 3 < ρ2 1 := q1
        rw [hs3, hs1] at q1
        exact q1
    have heq : ρ 3 = g := by
      have e1 := zB_int (ρ 3)
      have e2 := zB_int g
      rw [Int32.lt_iff_toInt_lt] at hge
      have e9 := zyeqB (x := g) (z := ρ 3) (n := 0) (by omega)
      rw [e9]
      exact Int32.add_zero g
    cases vo with
    | none => exact hvo.elim
    | some z =>
      have hz := zysym_v (X := (B, ρ2, w.1, ρ, κ.2.1, (zyEl (zymr r c) B s.heap, fun q => s.heap[q]?), J)) (i := 2) (show 2 < w.1 by omega)
      have hvo : zyV (B, ρ2, w.1, ρ, κ.2.1, (zyEl (zymr r c) B s.heap, fun q => s.heap[q]?), J) (zysym 2) z := hvo
      obtain ⟨z2, rfl⟩ := zyv_int hvo (by have := zysym_k 2; omega)
      have ez : ρ2 2 = z2 := zyv_one (zysym_k 2) hz hvo
      have l1 := zB_lt z2
      refine ⟨z2, rfl, zyv_bd (lo := 0) (hi := 4294967295) (Nat.zero_le _) (by omega) (by omega), ?_⟩
      rw [hJ.2]
      have eA : zyAi AsV.toArray 1 = g := by
        unfold zyAi
        rw [show AsV.toArray.toList = AsV by simp, hg]
      refine Or.inl ⟨by decide, ?_⟩
      rw [eA, ← ez, hs2, k3, heq]
      exact Or.inr (Or.inr (Or.inr (Or.inr (Or.inr (Or.inr (Or.inr (Or.inr ⟨rfl, rfl⟩)))))))
end
section
/-! THE REFERENCE: whether a switch is open -/
noncomputable def zyk1b (x : Nat) : Bool := Nat.ble (Nat.mod x 8) 1
noncomputable def zygs (o : Nat) : Nat := Nat.add (zysym 1) (Nat.mul 8 o)
noncomputable def zyqP (w : zW) (v : List Nat) (F : List zyF) : Bool := zqE 75 (zygs 8) (fun p => zand (zyk1b p) (zqE 75 (zygs 40) (fun L => zand (zyk1b L) (zqop 5 (zysym 2) L (fun a => zand (zyk1b a) (zqop 9 p a (fun b => zand (zyk1b b) (zqop 4 b 8 (fun d => zand (zyk1b d) (zqeq w F d 8 (zylb v [8]) (zylb v [0]))) F)) F)) F)) F)) F
noncomputable def zyqS (w : zW) (v : List Nat) (F : List zyF) (st : Nat) : Bool := zqop 1008 (zysym 1) 0 (fun n => zand (zyk1b n) (zqop 9 st n (fun b => zand (zyk1b b) (zqop 4 b 8 (fun d => zand (zyk1b d) (zqeq w F d 8 (zylb v [8]) (zylb v [0]))) F)) F)) F
noncomputable def zyqR (w : zW) (v : List Nat) (F : List zyF) (h : Nat) : Bool := zqlt w F 0 h (zqeq w F h 16 (zylb v [8]) (zylb v [0])) (zqE 74 64 (fun st => zand (zyk1b st) (zqlt w F st 0 (zyqP w v F) (zqE 75 (zygs 104) (fun fr => zand (zyk1b fr) (zqeq w F fr 8 (zyqS w v F st) (zyqP w v F))) F))) F)
noncomputable def zyqO (w : zW) (v : List Nat) (F : List zyF) : Bool := zqE 74 72 (fun ip => zand (zyk1b ip) (zqeq w F ip 0 (zqE 75 (zygs 72) (fun h => zand (zyk1b h) (zyqR w v F h)) F) (zqE 74 32 (fun fs => zand (zyk1b fs) (zqeq w F (zysym 1) fs (zqE 74 40 (fun h => zand (zyk1b h) (zyqR w v F h)) F) (zqE 74 48 (fun os => zand (zyk1b os) (zqeq w F (zysym 1) os (zqE 74 56 (fun h => zand (zyk1b h) (zyqR w v F h)) F) (zyqR w v F 0))) F))) F))) F
noncomputable def zyκo : zyKt := (0, 4, [595, zysym 1, zysym 2, 13], [(0, 4294967295), (2147483648, 2147483678), (0, 4294967295), (0, 4294967295)], [], [])
noncomputable def zyPo (r c : Nat) : zyP := (zymr r c, fun y => zif (Nat.beq y 209) [([595, zyc 0 30], [], [34359738362, 8], 1, [], [])] [], [], zydr, 0)
theorem zyruno_all : zyAllP (fun r c => zand (zyok (fun w v m => zand (zyfitM w (zymr r c) m.1) (zand (zypre w (zymr r c) m.1 []) (zyqO w v m.2))) (zyPo r c) zystop0 200000 (4, zyκo.2.2.2.1) zxi210 (210, 0, 0, 2, 0) 0 zyκo.2.2.1 [] (3, 0, 0) [] ([], [])) (zpad 4 (zexp [595, zyc 0 30, 34359738362]) (fun l2 => zyincl (zyPo r c) 4 (0, []) l2 [] zyκo))) = true := by decide +kernel
section ZYO
variable {X : zyX} {w : zW} {v : List Nat} {F : List zyF} {g t : Int32}
/-- an element behind the switch's number -/
theorem zyix1 {o : Nat} {k : Nat → Bool} (hF : ∀ f ∈ F, zyFm X f) (h1 : 1 < zyN X) (hg : zyρ X 1 = g) (b1 : 2147483648 ≤ zB g) (b2 : zB g ≤ 2147483678) (ho : o = 8 ∨ o = 40 ∨ o = 72 ∨ o = 104) (h : zqE 75 (zygs o) k F = true) : ∃ e, zyV X e (.int (zyI (zyres (zyE X)) 75 (o + min (zyN1 g) 31))) ∧ k e = true := by
  obtain ⟨e, jx, x, p1, p2, p3, p4, p5⟩ := zqE_iff hF h
  have hj := zyix (B := []) h1 p2 p3 (by rw [hg]; exact b1) (by rw [hg]; omega) (by omega)
  rw [hg] at hj
  have n1 := zyN1_lo b1
  refine ⟨e, ?_, p5⟩
  rw [zyI_res (by omega), show o + min (zyN1 g) 31 = jx by omega]
  unfold zyI
  rw [p4]
  exact p1
theorem zyfld {j : Nat} {k : Nat → Bool} (hF : ∀ f ∈ F, zyFm X f) (hj : 4 ≤ j ∧ j ≤ 9) (h : zqE 74 (8 * j) k F = true) : ∃ e, zyV X e (.int (zyI (zyres (zyE X)) 74 j)) ∧ k e = true := by
  obtain ⟨e, jx, x, p1, p2, p3, p4, p5⟩ := zqE_iff hF h
  have e1 := Value.int.inj (zyv_0 p2 (by omega))
  rw [show 8 * j / 8 = j by omega] at e1
  have e3 : (Int32.ofNat jx).toBitVec.toNat = (Int32.ofNat j).toBitVec.toNat := by rw [e1]
  rw [zN_of, zN_of] at e3
  have e4 : jx = j := by omega
  refine ⟨e, ?_, p5⟩
  rw [zyI_res (by omega)]
  unfold zyI
  rw [← e4, p4]
  exact p1
theorem zyans1 {d : Nat} {x : Int32} (hE : zEnv (zyρ X) w.2) (hF : ∀ f ∈ F, zyFm X f) (hd : d % 8 ≤ 1) (hx : zyV X d (.int x)) (h : zqeq w F d 8 (zylb v [8]) (zylb v [0]) = true) : v = [8 * (if x = 1 then 1 else 0)] := by
  rcases zqeq_iff hE hF hd (by decide) hx (zyv_mk (u := 1) rfl) h with ⟨e, h2⟩ | ⟨e, h2⟩
  · have e : x = 1 := e
    rw [if_pos e]
    exact zylb_iff h2
  · have e : ¬ x = 1 := e
    rw [if_neg e]
    exact zylb_iff h2
theorem zyqP_iff (hE : zEnv (zyρ X) w.2) (hF : ∀ f ∈ F, zyFm X f) (h2 : 2 < zyN X) (hg : zyρ X 1 = g) (ht : zyρ X 2 = t) (b1 : 2147483648 ≤ zB g) (b2 : zB g ≤ 2147483678) (h : zyqP w v F = true) : v = [8 * (if (zyI (zyres (zyE X)) 75 (8 + min (zyN1 g) 31) >>> ((t - t / zyI (zyres (zyE X)) 75 (40 + min (zyN1 g) 31) * zyI (zyres (zyE X)) 75 (40 + min (zyN1 g) 31)) &&& 31)) &&& 1 = 1 then 1 else 0)] := by
  obtain ⟨p, hp, h⟩ := zyix1 hF (by omega) hg b1 b2 (Or.inl rfl) h
  obtain ⟨kp, h⟩ := zand_iff h
  obtain ⟨L, hL, h⟩ := zyix1 hF (by omega) hg b1 b2 (Or.inr (Or.inl rfl)) h
  obtain ⟨kL, h⟩ := zand_iff h
  obtain ⟨a, x1, y1, a1, a2, a3, h⟩ := zqop_iff hF (by decide) h
  obtain ⟨ka, h⟩ := zand_iff h
  obtain ⟨b, x3, y3, a4, a5, a6, h⟩ := zqop_iff hF (by decide) h
  obtain ⟨kb, h⟩ := zand_iff h
  obtain ⟨d, x5, y5, a7, a8, a9, h⟩ := zqop_iff hF (by decide) h
  obtain ⟨kd, h⟩ := zand_iff h
  have e1 := zyv_one (zysym_k 2) (zysym_v h2) a1
  rw [ht] at e1
  have e2 := zyv_one (zbleT kL) hL a2
  have e3 := zyv_one (zbleT kp) hp a4
  have e4 := zyv_one (zbleT ka) a3 a5
  have e5 := zyv_one (zbleT kb) a6 a7
  have e6 : (1 : Int32) = y5 := zyv_one (v := 8) (by decide) (zyv_mk (u := 1) rfl) a8
  have hr := zyans1 hE hF (zbleT kd) a9 h
  rw [hr, ← e5, ← e6, ← e3, ← e4, ← e1, ← e2]
  rfl
theorem zyqS_iff {st : Nat} {sv : Int32} (hJ : (zyJ X).2 = zyRr) (hE : zEnv (zyρ X) w.2) (hF : ∀ f ∈ F, zyFm X f) (h2 : 2 < zyN X) (hg : zyρ X 1 = g) (hst : st % 8 ≤ 1) (hsv : zyV X st (.int sv)) (h : zyqS w v F st = true) : v = [8 * (if (sv >>> (zgFn (zyres (zyE X)) (zyN1 g) &&& 31)) &&& 1 = 1 then 1 else 0)] := by
  obtain ⟨n, x1, y1, z1, a1, a2, a3, hrel, h⟩ := zqfn_iff (id := 8) hF h
  obtain ⟨kn, h⟩ := zand_iff h
  obtain ⟨b, x3, y3, a4, a5, a6, h⟩ := zqop_iff hF (by decide) h
  obtain ⟨kb, h⟩ := zand_iff h
  obtain ⟨d, x5, y5, a7, a8, a9, h⟩ := zqop_iff hF (by decide) h
  obtain ⟨kd, h⟩ := zand_iff h
  rw [hJ] at hrel
  have e1 := zyv_one (zysym_k 1) (zysym_v (show 1 < zyN X by omega)) a1
  rw [hg] at e1
  have hz : z1 = zgFn (zyres (zyE X)) (zyN1 g) := by
    have hrel := zyRr_get (by decide) hrel
    rw [← e1] at hrel
    rcases hrel with ⟨q, -⟩ | ⟨q, -⟩ | ⟨q, -⟩ | ⟨q, -⟩ | ⟨q, -⟩ | ⟨q, -⟩ | ⟨q, -⟩ | ⟨q, -⟩ | ⟨-, q⟩
    · omega
    · omega
    · omega
    · omega
    · omega
    · omega
    · omega
    · omega
    · exact q
  have e3 := zyv_one hst hsv a4
  have e4 := zyv_one (zbleT kn) a3 a5
  have e5 := zyv_one (zbleT kb) a6 a7
  have e6 : (1 : Int32) = y5 := zyv_one (v := 8) (by decide) (zyv_mk (u := 1) rfl) a8
  have hr := zyans1 hE hF (zbleT kd) a9 h
  rw [hr, ← e5, ← e6, ← e3, ← e4, hz]
  rfl
theorem zyqR_iff {h0 : Nat} (hJ : (zyJ X).2 = zyRr) (hE : zEnv (zyρ X) w.2) (hF : ∀ f ∈ F, zyFm X f) (h2 : 2 < zyN X) (hg : zyρ X 1 = g) (ht : zyρ X 2 = t) (b1 : 2147483648 ≤ zB g) (b2 : zB g ≤ 2147483678) (hk : h0 % 8 ≤ 1) (hh : zyV X h0 (.int (zgHow (zyres (zyE X)) (zyN1 g)))) (h : zyqR w v F h0 = true) : v = [8 * (if zgO (zyres (zyE X)) (zyN1 g) t = true then 1 else 0)] := by
  unfold zgO
  rcases zqlt_iff hE hF (by decide) hk zyv_zero hh h with ⟨q1, h⟩ | ⟨q1, h⟩
  · rw [if_pos q1]
    rcases zqeq_iff hE hF hk (by decide) hh (zyv_mk (u := 2) rfl) h with ⟨e, h3⟩ | ⟨e, h3⟩
    · have e : zgHow (zyres (zyE X)) (zyN1 g) = 2 := e
      rw [if_pos (by rw [decide_eq_true_eq]; exact e)]
      exact zylb_iff h3
    · have e : ¬ zgHow (zyres (zyE X)) (zyN1 g) = 2 := e
      rw [if_neg (by rw [decide_eq_true_eq]; exact e)]
      exact zylb_iff h3
  · rw [if_neg q1]
    obtain ⟨st, hst, h⟩ := zyfld (j := 8) hF (by decide) h
    obtain ⟨kst, h⟩ := zand_iff h
    rcases zqlt_iff hE hF (zbleT kst) (by decide) hst zyv_zero h with ⟨q2, h⟩ | ⟨q2, h⟩
    · rw [if_neg (show ¬ (¬ zyI (zyres (zyE X)) 74 8 < 0 ∧ zyI (zyres (zyE X)) 75 (104 + min (zyN1 g) 31) = 1) from fun q => q.1 q2), zyqP_iff hE hF h2 hg ht b1 b2 h]
      simp only [decide_eq_true_eq]
    · obtain ⟨fr, hfr, h⟩ := zyix1 hF (by omega) hg b1 b2 (Or.inr (Or.inr (Or.inr rfl))) h
      obtain ⟨kfr, h⟩ := zand_iff h
      rcases zqeq_iff hE hF (zbleT kfr) (by decide) hfr (zyv_mk (u := 1) rfl) h with ⟨e, h3⟩ | ⟨e, h3⟩
      · have e : zyI (zyres (zyE X)) 75 (104 + min (zyN1 g) 31) = 1 := e
        rw [if_pos (show ¬ zyI (zyres (zyE X)) 74 8 < 0 ∧ zyI (zyres (zyE X)) 75 (104 + min (zyN1 g) 31) = 1 from ⟨q2, e⟩), zyqS_iff hJ hE hF h2 hg (zbleT kst) hst h3]
        simp only [decide_eq_true_eq]
      · have e : ¬ zyI (zyres (zyE X)) 75 (104 + min (zyN1 g) 31) = 1 := e
        rw [if_neg (show ¬ (¬ zyI (zyres (zyE X)) 74 8 < 0 ∧ zyI (zyres (zyE X)) 75 (104 + min (zyN1 g) 31) = 1) from fun q => e q.2), zyqP_iff hE hF h2 hg ht b1 b2 h3]
        simp only [decide_eq_true_eq]
theorem zyqO_iff (hJ : (zyJ X).2 = zyRr) (hE : zEnv (zyρ X) w.2) (hF : ∀ f ∈ F, zyFm X f) (h2 : 2 < zyN X) (hg : zyρ X 1 = g) (ht : zyρ X 2 = t) (b1 : 2147483648 ≤ zB g) (b2 : zB g ≤ 2147483678) (h : zyqO w v F = true) : v = [8 * (if zgO (zyres (zyE X)) (zyN1 g) t = true then 1 else 0)] := by
  have hgn : Int32.ofNat (zyN1 g) = g := zN_self g
  have hs1 := zysym_v (show 1 < zyN X by omega)
  rw [hg] at hs1
  obtain ⟨ip, hip, h⟩ := zyfld (j := 9) hF (by decide) h
  obtain ⟨kip, h⟩ := zand_iff h
  rcases zqeq_iff hE hF (zbleT kip) (by decide) hip zyv_zero h with ⟨e, h⟩ | ⟨e, h⟩
  · obtain ⟨h0, hh0, h⟩ := zyix1 hF (by omega) hg b1 b2 (Or.inr (Or.inr (Or.inl rfl))) h
    obtain ⟨kh, h⟩ := zand_iff h
    refine zyqR_iff hJ hE hF h2 hg ht b1 b2 (zbleT kh) ?_ h
    unfold zgHow
    rw [if_pos e]
    exact hh0
  · obtain ⟨fs, hfs, h⟩ := zyfld (j := 4) hF (by decide) h
    obtain ⟨kfs, h⟩ := zand_iff h
    rcases zqeq_iff hE hF (zysym_k 1) (zbleT kfs) hs1 hfs h with ⟨e2, h⟩ | ⟨e2, h⟩
    · obtain ⟨h0, hh0, h⟩ := zyfld (j := 5) hF (by decide) h
      obtain ⟨kh, h⟩ := zand_iff h
      refine zyqR_iff hJ hE hF h2 hg ht b1 b2 (zbleT kh) ?_ h
      unfold zgHow
      rw [if_neg e, if_pos (hgn.trans e2)]
      exact hh0
    · obtain ⟨os, hos, h⟩ := zyfld (j := 6) hF (by decide) h
      obtain ⟨kos, h⟩ := zand_iff h
      rcases zqeq_iff hE hF (zysym_k 1) (zbleT kos) hs1 hos h with ⟨e3, h⟩ | ⟨e3, h⟩
      · obtain ⟨h0, hh0, h⟩ := zyfld (j := 7) hF (by decide) h
        obtain ⟨kh, h⟩ := zand_iff h
        refine zyqR_iff hJ hE hF h2 hg ht b1 b2 (zbleT kh) ?_ h
        unfold zgHow
        rw [if_neg e, if_neg (fun q => e2 (hgn.symm.trans q)), if_pos (hgn.trans e3)]
        exact hh0
      · refine zyqR_iff hJ hE hF h2 hg ht b1 b2 (by decide) ?_ h
        unfold zgHow
        rw [if_neg e, if_neg (fun q => e2 (hgn.symm.trans q)), if_neg (fun q => e3 (hgn.symm.trans q))]
        exact zyv_zero
end ZYO
theorem zyisOpen {l : Launch} {J : zyJt} (hJ : zyJr J) {r c : Nat} (h1 : 1 ≤ r) (h2 : r ≤ 4) (h3 : 1 ≤ c) (h4 : c ≤ 5) {en : zEn} {me : zMe} (hen : zG zxMeta 210 = some en) (hme : zG zMeth 210 = some me) : zyCon l (zymr r c) J en me ([595, zyc 0 30, 34359738362], [], [zyc 0 1, 3], 3, [], []) := by
  have een : zG zxMeta 210 = some (zxi210, 3, 4, 11, 210, 0, 0, 2, 0) := rfl
  obtain ⟨me1, hme1, hOK⟩ := zall hen
  rw [hme] at hme1
  cases hme1
  rw [een] at hen
  cases hen
  obtain ⟨q1, q2⟩ := zand_iff (zyAllP_iff zyruno_all h1 h2 h3 h4)
  have hw : zywf 4 zyκo = true := by decide +kernel
  have hCon : zyCons l (zyPo r c) J := by
    intro y2 ct en2 me2 hct hen2 hme2
    have hct : ct ∈ zif (Nat.beq y2 209) [([595, zyc 0 30], [], [34359738362, 8], 1, [], [])] [] := hct
    by_cases e : y2 = 209
    · subst e
      have hct : ct ∈ [([595, zyc 0 30], [], [34359738362, 8], 1, [], [])] := hct
      rw [List.mem_singleton.mp hct]
      exact zyfreeN hJ h1 h2 h3 h4 hen2 hme2
    · rw [zybeq_ne e] at hct
      cases hct
  refine zycutC (P := zyPo r c) (J := J) (K := [zyκo]) (κ0 := zyκo) (n := 200000) (bt := fun _ w v m => zyqO w v m.2) (stp := fun _ => zystop0) hOK hCon hJ.1 rfl rfl List.mem_cons_self rfl (fun κ hκ => by rw [List.mem_singleton.mp hκ]; exact hw) (fun _ _ _ _ _ _ _ _ _ _ _ => rfl) (fun κ hκ => by rw [List.mem_singleton.mp hκ]; exact q1) q2 (fun _ _ h => h)
    (fun B AsV κ s ρ H => ∃ g t : Int32, AsV[1]? = some (.int g) ∧ AsV[2]? = some (.int t) ∧ ρ 1 = g ∧ ρ 2 = t ∧ 2147483648 ≤ zB g ∧ zB g ≤ 2147483678) (fun _ _ _ _ _ _ => 0) ?_ (fun B AsV hA κ hκ s ρ H _ _ _ ρ2 N2 w pc ls st q m H2 locs2 lsB stA hs => by cases hs) ?_
  · intro B AsV hA s lsA hKn hI hPk hlv
    obtain ⟨v0, t0, rfl, a1, hA1⟩ := zySt_c hA
    obtain ⟨v1, t1, rfl, a2, hA2⟩ := zySt_c hA1
    obtain ⟨v2, t2, rfl, a3, hA3⟩ := zySt_c hA2
    have e0 : v0 = .ref (zad B 74) := zyv_3 (v := 595) a1 (by decide)
    subst e0
    obtain ⟨g, rfl⟩ := zyv_int a2 (by decide)
    obtain ⟨t, rfl⟩ := zyv_int a3 (by decide)
    have hb := zyc_iff (by decide) a2
    exact ⟨g, t, rfl, rfl, zyrho_l (by decide) (zyarg1 hlv), zyrho_l (by decide) (zyarg2 hlv), by omega, by omega⟩
  · intro B AsV hA κ hκ s ρ H hPk hI hInv ρ2 w v m t vo hbt hag hE hF hM hvo
    obtain ⟨g, t0, hg, ht, r1, r2, b1, b2⟩ := hInv
    have hκ1 : κ.2.1 = 4 := by rw [List.mem_singleton.mp hκ]; rfl
    have hv := zyqO_iff (X := (B, ρ2, w.1, ρ, κ.2.1, (zyEl (zymr r c) B s.heap, fun q => s.heap[q]?), J)) hJ.2 hE hF (show 2 < w.1 by have := hag.1; omega) (show ρ2 1 = g by rw [← r1]; exact hag.2 1 (by omega)) (show ρ2 2 = t0 by rw [← r2]; exact hag.2 2 (by omega)) b1 b2 hbt
    subst hv
    cases vo with
    | none => exact hvo.elim
    | some z =>
      have eA1 : zyAi AsV.toArray 1 = g := by
        unfold zyAi
        rw [show AsV.toArray.toList = AsV by simp, hg]
      have eA2 : zyAi AsV.toArray 2 = t0 := by
        unfold zyAi
        rw [show AsV.toArray.toList = AsV by simp, ht]
      have ez := zyv_0 (show zyV (B, ρ2, w.1, ρ, κ.2.1, (zyEl (zymr r c) B s.heap, fun q => s.heap[q]?), J) (8 * (if zgO (zyres (zyEl (zymr r c) B s.heap)) (zyN1 g) t0 = true then 1 else 0)) z from hvo) (by omega)
      rw [Nat.mul_div_cancel_left _ (by decide)] at ez
      subst ez
      refine ⟨_, rfl, ?_, ?_⟩
      · by_cases hq : zgO (zyres (zyEl (zymr r c) B s.heap)) (zyN1 g) t0 = true
        · rw [if_pos hq]
          exact zyv_bd (lo := 2147483648) (hi := 2147483649) (by decide) (by decide) (by decide)
        · rw [if_neg hq]
          exact zyv_bd (lo := 2147483648) (hi := 2147483649) (by decide) (by decide) (by decide)
      · rw [hJ.2, eA1, eA2]
        refine Or.inl ⟨by decide, Or.inr (Or.inr (Or.inr (Or.inl ⟨rfl, ?_⟩)))⟩
        show Int32.ofNat (if zgO (zyres (zyEl (zymr r c) B s.heap)) (zyN1 g) t0 = true then 1 else 0) = if zgO (zyres (zyEl (zymr r c) B s.heap)) (zyN1 g) t0 = true then 1 else 0
        by_cases hq : zgO (zyres (zyEl (zymr r c) B s.heap)) (zyN1 g) t0 = true
        · rw [if_pos hq, if_pos hq]; rfl
        · rw [if_neg hq, if_neg hq]; rfl
end
section
/-! THE REFERENCE: over, mapped -/
noncomputable def zyκ2 (r c : Nat) (nL : Nat) (tl : List Nat) : zyKt := (0, nL, 595 :: zysym 1 :: zysym 2 :: tl, (0, 4294967295) :: (2147483648, Nat.add 2147483647 (zgNS r c)) :: Nat.rec (motive := fun _ => List (Nat × Nat)) [] (fun _ ih => (0, 4294967295) :: ih) (Nat.sub nL 2), [], [])
noncomputable def zyP2 (r c : Nat) (C : Nat → List zyCt) : zyP := (zymr r c, C, [], zydr, 0)
noncomputable def zyrun2 (r c : Nat) (C : Nat → List zyCt) (cf : Nat → zT) (y : zY) (nL dep : Nat) (tl : List Nat) (chk : zW → List Nat → List zyF → Bool) : Bool := zand (zywf nL (zyκ2 r c nL tl)) (zand (zyok (fun w v m => zand (zyfitM w (zymr r c) m.1) (zand (zypre w (zymr r c) m.1 []) (chk w v m.2))) (zyP2 r c C) zystop0 200000 (nL, (zyκ2 r c nL tl).2.2.2.1) cf y 0 (zyκ2 r c nL tl).2.2.1 [] (dep, 0, 0) [] ([], [])) (zpad nL (zexp [595, zyS r c, 34359738362]) (fun l2 => zyincl (zyP2 r c C) nL (0, []) l2 [] (zyκ2 r c nL tl))))
theorem zyone2 {l : Launch} {J : zyJt} (hJ : zyJr J) {r c : Nat} (h2 : r ≤ 4) (h4 : c ≤ 5) {y0 : Nat} {en : zEn} {me : zMe} (hen : zG zxMeta y0 = some en) (hme : zG zMeth y0 = some me) (hc0 : en.2.2.2.2.2.1 = 0) (hs0 : en.2.2.2.2.2.2.1 = 0) {C : Nat → List zyCt} (hCon : ∀ y2 ct en2 me2, ct ∈ C y2 → zG zxMeta y2 = some en2 → zG zMeth y2 = some me2 → zyCon l (zymr r c) J en2 me2 ct) {dep id res : Nat} {tl : List Nat} (hnL : 3 ≤ en.2.2.1) (chk : zW → List Nat → List zyF → Bool) (hrun : zyrun2 r c C en.1 en.2.2.2.2 en.2.2.1 dep tl chk = true)
    (hid : id < 100) (hne : ∀ w F, chk w [] F = true → False) (hrel : ∀ (X : zyX) (w : zW) (v : List Nat) (F : List zyF) (x y : Int32) (z : Value), (zyJ X).2 = zyRr → zEnv (zyρ X) w.2 → (∀ f ∈ F, zyFm X f) → 2 < zyN X → zyρ X 1 = x → zyρ X 2 = y → zgr (zyres (zyE X)) = r → zgc (zyres (zyE X)) = c → x = Int32.ofNat (zyN1 x) → zyN1 x < zgNS r c → chk w v F = true → (∀ cd, v = [cd] → zyV X cd z) → (∃ cd, v = [cd]) → ∃ zz : Int32, z = .int zz ∧ (∀ (ρ : Nat → Int32) (N : Nat) (ad : Nat → Nat), zyv ρ N ad res (.int zz)) ∧ zyRr0 id (zyres (zyE X)) x y zz) : zyCon l (zymr r c) J en me ([595, zyS r c, 34359738362], [], [res, id], dep, [], []) := by
  obtain ⟨me1, hme1, hOK⟩ := zall hen
  rw [hme] at hme1
  cases hme1
  obtain ⟨hw, q1⟩ := zand_iff hrun
  obtain ⟨q1, q2⟩ := zand_iff q1
  have hb := zyrc20 h2 h4
  refine zycutC (P := zyP2 r c C) (J := J) (K := [zyκ2 r c en.2.2.1 tl]) (κ0 := zyκ2 r c en.2.2.1 tl) (n := 200000) (bt := fun _ w v m => chk w v m.2) (stp := fun _ => zystop0) hOK hCon hJ.1 hc0 hs0 List.mem_cons_self rfl (fun κ hκ => by rw [List.mem_singleton.mp hκ]; exact hw) (fun _ _ _ _ _ _ _ _ _ _ _ => rfl) (fun κ hκ => by rw [List.mem_singleton.mp hκ]; exact q1) q2 (fun _ _ h => h)
    (fun B AsV κ s ρ H => ∃ x y : Int32, AsV[1]? = some (.int x) ∧ AsV[2]? = some (.int y) ∧ ρ 1 = x ∧ ρ 2 = y ∧ x = Int32.ofNat (zyN1 x) ∧ zyN1 x < zgNS r c) (fun _ _ _ _ _ _ => 0) ?_ (fun B AsV hA κ hκ s ρ H _ _ _ ρ2 N2 w pc ls st q m H2 locs2 lsB stA hs => by cases hs) ?_
  · intro B AsV hA s lsA hKn hI hPk hlv
    obtain ⟨v0, t0, rfl, a1, hA1⟩ := zySt_c hA
    obtain ⟨v1, t1, rfl, a2, hA2⟩ := zySt_c hA1
    obtain ⟨v2, t2, rfl, a3, hA3⟩ := zySt_c hA2
    have e0 : v0 = .ref (zad B 74) := zyv_3 (v := 595) a1 (by decide)
    subst e0
    obtain ⟨x, rfl⟩ := zyv_int a2 (by rw [zyS_def]; omega)
    obtain ⟨y, rfl⟩ := zyv_int a3 (by decide)
    obtain ⟨ex, hx⟩ := zyS_iff hb a2
    exact ⟨x, y, rfl, rfl, zyrho_l (by omega) (zyarg1 hlv), zyrho_l (by omega) (zyarg2 hlv), ex, hx⟩
  · intro B AsV hA κ hκ s ρ H hPk hI hInv ρ2 w v m t vo hbt hag hE hF hM hvo
    obtain ⟨x, y, hx, hy, r1, r2, ex, hxs⟩ := hInv
    have hκ1 : κ.2.1 = en.2.2.1 := by rw [List.mem_singleton.mp hκ]; rfl
    obtain ⟨rr, cc⟩ := zyrc (show r < 2147483648 by omega) (show c < 2147483648 by omega) hI
    have eA1 : zyAi AsV.toArray 1 = x := by
      unfold zyAi
      rw [show AsV.toArray.toList = AsV by simp, hx]
    have eA2 : zyAi AsV.toArray 2 = y := by
      unfold zyAi
      rw [show AsV.toArray.toList = AsV by simp, hy]
    match v, vo, hvo with
    | [], none, _ =>
      exact (hne _ _ hbt).elim
    | [cd], some z, hz =>
      obtain ⟨zz, e, hres, hr0⟩ := hrel (B, ρ2, w.1, ρ, κ.2.1, (zyEl (zymr r c) B s.heap, fun q => s.heap[q]?), J) w [cd] m.2 x y z hJ.2 hE hF (show 2 < w.1 by have := hag.1; omega) (show ρ2 1 = x by rw [← r1]; exact hag.2 1 (by omega)) (show ρ2 2 = y by rw [← r2]; exact hag.2 2 (by omega)) (zgr_res.1.trans rr) (zgr_res.2.trans cc) ex hxs hbt (fun cd2 h => by cases h; exact hz) ⟨cd, rfl⟩
      subst e
      refine ⟨zz, rfl, hres _ _ _, ?_⟩
      rw [hJ.2, eA1, eA2]
      exact Or.inl ⟨hid, hr0⟩
noncomputable def zyone (v : List Nat) : Bool := List.rec (motive := fun _ => Bool) false (fun _ t _ => zynil t) v
theorem zyno1 {A : zW → List zyF → Bool} : ∀ w F, zand (zyone []) (A w F) = true → False := fun w F h => by cases (zand_iff h).1
noncomputable def zyCo2 (r c : Nat) : Nat → List zyCt := fun y => zif (Nat.beq y 202) [([595, zyS r c], [], [zyGq r c, 1], 3, [], [])] (zif (Nat.beq y 210) [([595, zyc 0 30, 34359738362], [], [zyc 0 1, 3], 3, [], [])] (zif (Nat.beq y 203) [([595, zyS r c], [], [zyS1 r c, 2], 5, [], [])] []))
noncomputable def zychO (w : zW) (v : List Nat) (F : List zyF) : Bool := zand (zyone v) (zqop 1001 (zysym 1) 0 (fun g => zand (zyk1b g) (zqlt w F g 0 (zylb v [zysym 1]) (zqop 1003 g (zysym 2) (fun o => zand (zyk1b o) (zqeq w F o 0 (zylb v [zysym 1]) (zqop 1002 (zysym 1) 0 (fun f => zand (zyk1b f) (zylb v [f])) F))) F))) F)
theorem zyrunO_all : zyAllP (fun r c => zyrun2 r c (zyCo2 r c) zxi211 (211, 0, 0, 1, 0) 4 6 [13] zychO) = true := by decide +kernel
theorem zyCo2_ok {l : Launch} {J : zyJt} (hJ : zyJr J) {r c : Nat} (h1 : 1 ≤ r) (h2 : r ≤ 4) (h3 : 1 ≤ c) (h4 : c ≤ 5) : ∀ y2 ct en2 me2, ct ∈ zyCo2 r c y2 → zG zxMeta y2 = some en2 → zG zMeth y2 = some me2 → zyCon l (zymr r c) J en2 me2 ct := by
  intro y2 ct en2 me2 hct hen hme
  unfold zyCo2 at hct
  by_cases e0 : y2 = 202
  · subst e0
    have hct : ct ∈ [([595, zyS r c], [], [zyGq r c, 1], 3, [], [])] := hct
    rw [List.mem_singleton.mp hct]
    exact zygateAt hJ h1 h2 h3 h4 hen hme
  rw [zybeq_ne e0, zif_f] at hct
  by_cases e1 : y2 = 210
  · subst e1
    have hct : ct ∈ [([595, zyc 0 30, 34359738362], [], [zyc 0 1, 3], 3, [], [])] := hct
    rw [List.mem_singleton.mp hct]
    exact zyisOpen hJ h1 h2 h3 h4 hen hme
  rw [zybeq_ne e1, zif_f] at hct
  by_cases e2 : y2 = 203
  · subst e2
    have hct : ct ∈ [([595, zyS r c], [], [zyS1 r c, 2], 5, [], [])] := hct
    rw [List.mem_singleton.mp hct]
    exact zyfacing hJ h1 h2 h3 h4 hen hme
  rw [zybeq_ne e2, zif_f] at hct
  cases hct
theorem zyS_mk {r c n : Nat} (hb : r * c ≤ 20) (h : n < zgNS r c) (ρ : Nat → Int32) (N : Nat) (ad : Nat → Nat) : zyv ρ N ad (zyS r c) (.int (Int32.ofNat n)) := by
  have h : n < 4 * (r * c) := h
  rw [zyS_def]
  exact zyv_bd (by rw [zB_of4 (by omega)]; omega) (by rw [zB_of4 (by omega)]; omega) (by omega)
theorem zyRr0_1 {E : zyEm} {x y z : Int32} (h : zyRr0 1 E x y z) : z = Int32.ofNat (zgG (zgr E) (zgc E) (zyN1 x)) := by
  rcases h with ⟨q, -⟩ | ⟨-, q⟩ | ⟨q, -⟩ | ⟨q, -⟩ | ⟨q, -⟩ | ⟨q, -⟩ | ⟨q, -⟩ | ⟨q, -⟩ | ⟨q, -⟩
  · omega
  · exact q
  · omega
  · omega
  · omega
  · omega
  · omega
  · omega
  · omega
theorem zyRr0_0 {E : zyEm} {x y z : Int32} (h : zyRr0 0 E x y z) : z = Int32.ofNat (zgT (zgc E) (zyN1 x)) := by
  rcases h with ⟨-, q⟩ | ⟨q, -⟩ | ⟨q, -⟩ | ⟨q, -⟩ | ⟨q, -⟩ | ⟨q, -⟩ | ⟨q, -⟩ | ⟨q, -⟩ | ⟨q, -⟩
  · exact q
  · omega
  · omega
  · omega
  · omega
  · omega
  · omega
  · omega
  · omega
theorem zyRr0_2 {E : zyEm} {x y z : Int32} (h : zyRr0 2 E x y z) : z = Int32.ofNat (zgF (zgr E) (zgc E) (zyN1 x)) := by
  rcases h with ⟨q, -⟩ | ⟨q, -⟩ | ⟨-, q⟩ | ⟨q, -⟩ | ⟨q, -⟩ | ⟨q, -⟩ | ⟨q, -⟩ | ⟨q, -⟩ | ⟨q, -⟩
  · omega
  · omega
  · exact q
  · omega
  · omega
  · omega
  · omega
  · omega
  · omega
theorem zyRr0_3 {E : zyEm} {x y z : Int32} (h : zyRr0 3 E x y z) : z = if zgO E (zyN1 x) y = true then 1 else 0 := by
  rcases h with ⟨q, -⟩ | ⟨q, -⟩ | ⟨q, -⟩ | ⟨-, q⟩ | ⟨q, -⟩ | ⟨q, -⟩ | ⟨q, -⟩ | ⟨q, -⟩ | ⟨q, -⟩
  · omega
  · omega
  · omega
  · exact q
  · omega
  · omega
  · omega
  · omega
  · omega
theorem zyRr0_4 {E : zyEm} {x y z : Int32} (h : zyRr0 4 E x y z) : z = Int32.ofNat (zgV E (zyN1 x) y) := by
  rcases h with ⟨q, -⟩ | ⟨q, -⟩ | ⟨q, -⟩ | ⟨q, -⟩ | ⟨-, q⟩ | ⟨q, -⟩ | ⟨q, -⟩ | ⟨q, -⟩ | ⟨q, -⟩
  · omega
  · omega
  · omega
  · omega
  · exact q
  · omega
  · omega
  · omega
  · omega
theorem zyover {l : Launch} {J : zyJt} (hJ : zyJr J) {r c : Nat} (h1 : 1 ≤ r) (h2 : r ≤ 4) (h3 : 1 ≤ c) (h4 : c ≤ 5) {en : zEn} {me : zMe} (hen : zG zxMeta 211 = some en) (hme : zG zMeth 211 = some me) : zyCon l (zymr r c) J en me ([595, zyS r c, 34359738362], [], [zyS r c, 4], 6, [], []) := by
  have een : zG zxMeta 211 = some (zxi211, 3, 4, 11, 211, 0, 0, 1, 0) := rfl
  rw [een] at hen
  cases hen
  have hrc := zyrc20 h2 h4
  have hNG := zgNG_le h2 h4
  have hNS := zgNS_le h2 h4
  refine zyone2 hJ h2 h4 een hme rfl rfl (zyCo2_ok hJ h1 h2 h3 h4) (by decide) zychO (zyAllP_iff zyrunO_all h1 h2 h3 h4) (by decide) zyno1 ?_
  intro X w v F x y z hJ2 hE hF hN hx hy hrr hcc ex hxs hch hz _
  obtain ⟨-, h⟩ := zand_iff hch
  obtain ⟨g, x1, y1, z1, a1, a2, a3, hrel, h⟩ := zqfn_iff (id := 1) hF h
  obtain ⟨kg, h⟩ := zand_iff h
  rw [hJ2] at hrel
  have e1 := zyv_one (zysym_k 1) (zysym_v (show 1 < zyN X by omega)) a1
  rw [hx] at e1
  have hz1 := zyRr0_1 (zyRr_get (by decide) hrel)
  rw [← e1, hrr, hcc] at hz1
  have hgf := zgfacts h1 h2 h3 h4 hxs
  have hsx : zyV X (zysym 1) (.int x) := by rw [← hx]; exact zysym_v (by omega)
  have stay : zylb v [zysym 1] = true → zgV (zyres (zyE X)) (zyN1 x) y = zyN1 x → ∃ zz : Int32, z = .int zz ∧ (∀ (ρ : Nat → Int32) (N : Nat) (ad : Nat → Nat), zyv ρ N ad (zyS r c) (.int zz)) ∧ zyRr0 4 (zyres (zyE X)) x y zz := by
    intro hv hV
    have hzv := hz _ (zylb_iff hv)
    obtain ⟨z2, rfl⟩ := zyv_int hzv (by have := zysym_k 1; omega)
    have e9 := zyv_one (zysym_k 1) hzv hsx
    subst e9
    refine ⟨z2, rfl, fun ρ N ad => ?_, Or.inr (Or.inr (Or.inr (Or.inr (Or.inl ⟨rfl, ?_⟩))))⟩
    · rw [ex]; exact zyS_mk hrc hxs ρ N ad
    · rw [hV]; exact ex
  have hgint : zyV X g (.int (Int32.ofNat (zgG r c (zyN1 x)))) := by rw [← hz1]; exact a3
  rcases zqlt_iff hE hF (zbleT kg) (by decide) hgint zyv_zero h with ⟨q1, h⟩ | ⟨q1, h⟩
  · refine stay h ?_
    unfold zgV
    rw [hrr, hcc]
    rcases hgf.2.2 with e | ⟨e, -⟩
    · rw [if_pos e]
    · exfalso
      rw [Int32.lt_iff_toInt_lt] at q1
      have b := zB_int (Int32.ofNat (zgG r c (zyN1 x)))
      rw [zB_of4 (by omega)] at b
      have e0 : (0 : Int32).toInt = 0 := by decide
      omega
  · rcases hgf.2.2 with e | ⟨e, e2, e3, e4⟩
    · exfalso
      apply q1
      rw [e]
      decide
    obtain ⟨o, x3, y3, z3, b1, b2, b3, hrel3, h⟩ := zqfn_iff (id := 3) hF h
    obtain ⟨ko, h⟩ := zand_iff h
    rw [hJ2] at hrel3
    have e5 := zyv_one (zbleT kg) hgint b1
    have e6 := zyv_one (zysym_k 2) (zysym_v (show 2 < zyN X by omega)) b2
    rw [hy] at e6
    have hz3 := zyRr0_3 (zyRr_get (by decide) hrel3)
    rw [← e5, ← e6, zyN1_of (by omega)] at hz3
    have hVne : ¬ zgG r c (zyN1 x) = 4294967295 := by omega
    rcases zqeq_iff hE hF (zbleT ko) (by decide) b3 zyv_zero h with ⟨q2, h⟩ | ⟨q2, h⟩
    · refine stay h ?_
      unfold zgV
      rw [hrr, hcc, if_neg hVne, if_neg (fun q => by rw [if_pos q] at hz3; rw [hz3] at q2; exact absurd q2 (by decide))]
    · obtain ⟨f, x5, y5, z5, c1, c2, c3, hrel5, h⟩ := zqfn_iff (id := 2) hF h
      obtain ⟨kf, h⟩ := zand_iff h
      rw [hJ2] at hrel5
      have e7 := zyv_one (zysym_k 1) hsx c1
      have hz5 := zyRr0_2 (zyRr_get (by decide) hrel5)
      rw [← e7, hrr, hcc] at hz5
      have hzv := hz _ (zylb_iff h)
      obtain ⟨z2, rfl⟩ := zyv_int hzv (by have : f % 8 ≤ 1 := zbleT kf; omega)
      have e9 := zyv_one (zbleT kf) hzv c3
      subst e9
      refine ⟨z2, rfl, fun ρ N ad => ?_, Or.inr (Or.inr (Or.inr (Or.inr (Or.inl ⟨rfl, ?_⟩))))⟩
      · rw [hz5]; exact zyS_mk hrc e2 ρ N ad
      · have hO : zgO (zyres (zyE X)) (zgG r c (zyN1 x)) y = true := by
          cases hq : zgO (zyres (zyE X)) (zgG r c (zyN1 x)) y with
          | true => rfl
          | false =>
            rw [hq] at hz3
            exact absurd hz3 q2
        unfold zgV
        rw [hrr, hcc, if_neg hVne, if_pos hO]
        exact hz5
end
section
/-! THE REFERENCE: mapped -/
noncomputable def zyCm (r c : Nat) : Nat → List zyCt := fun y => zif (Nat.beq y 204) [([595, zyS r c], [], [zyS r c, 0], 2, [], [])] (zif (Nat.beq y 211) [([595, zyS r c, 34359738362], [], [zyS r c, 4], 6, [], [])] [])
noncomputable def zychM (w : zW) (v : List Nat) (F : List zyF) : Bool := zand (zyone v) (zqop 1000 (zysym 1) 0 (fun x => zand (zyk1b x) (zqop 1004 x (zysym 2) (fun z => zand (zyk1b z) (zylb v [z])) F)) F)
theorem zyrunM_all : zyAllP (fun r c => zyrun2 r c (zyCm r c) zxi212 (212, 0, 0, 1, 0) 3 7 [] zychM) = true := by decide +kernel
theorem zyCm_ok {l : Launch} {J : zyJt} (hJ : zyJr J) {r c : Nat} (h1 : 1 ≤ r) (h2 : r ≤ 4) (h3 : 1 ≤ c) (h4 : c ≤ 5) : ∀ y2 ct en2 me2, ct ∈ zyCm r c y2 → zG zxMeta y2 = some en2 → zG zMeth y2 = some me2 → zyCon l (zymr r c) J en2 me2 ct := by
  intro y2 ct en2 me2 hct hen hme
  unfold zyCm at hct
  by_cases e0 : y2 = 204
  · subst e0
    have hct : ct ∈ [([595, zyS r c], [], [zyS r c, 0], 2, [], [])] := hct
    rw [List.mem_singleton.mp hct]
    exact zyturned hJ h1 h2 h3 h4 hen hme
  rw [zybeq_ne e0, zif_f] at hct
  by_cases e1 : y2 = 211
  · subst e1
    have hct : ct ∈ [([595, zyS r c, 34359738362], [], [zyS r c, 4], 6, [], [])] := hct
    rw [List.mem_singleton.mp hct]
    exact zyover hJ h1 h2 h3 h4 hen hme
  rw [zybeq_ne e1, zif_f] at hct
  cases hct
/-- over, mapped stay within the slots -/
theorem zgV_lt {E : zyEm} {r c s : Nat} {t : Int32} (h1 : 1 ≤ r) (h2 : r ≤ 4) (h3 : 1 ≤ c) (h4 : c ≤ 5) (hr : zgr E = r) (hc : zgc E = c) (hs : s < zgNS r c) : zgV E s t < zgNS r c := by
  unfold zgV
  rw [hr, hc]
  rcases (zgfacts h1 h2 h3 h4 hs).2.2 with e | ⟨-, e, -⟩
  · rw [if_pos e]; exact hs
  · split
    · exact hs
    · split
      · exact e
      · exact hs
theorem zgM_lt {E : zyEm} {r c s : Nat} {t : Int32} (h1 : 1 ≤ r) (h2 : r ≤ 4) (h3 : 1 ≤ c) (h4 : c ≤ 5) (hr : zgr E = r) (hc : zgc E = c) (hs : s < zgNS r c) : zgM E s t < zgNS r c := by
  unfold zgM
  refine zgV_lt h1 h2 h3 h4 hr hc ?_
  rw [hc]
  exact (zgfacts h1 h2 h3 h4 hs).1
/-- over is its own inverse; mapped takes different slots to different ones -/
theorem zgV_inv {E : zyEm} {r c s : Nat} {t : Int32} (h1 : 1 ≤ r) (h2 : r ≤ 4) (h3 : 1 ≤ c) (h4 : c ≤ 5) (hr : zgr E = r) (hc : zgc E = c) (hs : s < zgNS r c) : zgV E (zgV E s t) t = s := by
  rcases (zgfacts h1 h2 h3 h4 hs).2.2 with e | ⟨e0, e1, e2, e3⟩
  · have h : zgV E s t = s := by
      unfold zgV
      rw [hr, hc, if_pos e]
    rw [h, h]
  · have hne : ¬ zgG r c s = 4294967295 := by
      have := zgNG_le h2 h4
      omega
    by_cases hO : zgO E (zgG r c s) t = true
    · have h : zgV E s t = zgF r c s := by
        unfold zgV
        rw [hr, hc, if_neg hne, if_pos hO]
      rw [h]
      unfold zgV
      rw [hr, hc, e3, if_neg hne, if_pos hO, e2]
    · have h : zgV E s t = s := by
        unfold zgV
        rw [hr, hc, if_neg hne, if_neg hO]
      rw [h, h]
theorem zgM_inj {E : zyEm} {r c s s2 : Nat} {t : Int32} (h1 : 1 ≤ r) (h2 : r ≤ 4) (h3 : 1 ≤ c) (h4 : c ≤ 5) (hr : zgr E = r) (hc : zgc E = c) (hs : s < zgNS r c) (hs2 : s2 < zgNS r c) (h : zgM E s t = zgM E s2 t) : s = s2 := by
  unfold zgM at h
  rw [hc] at h
  have f1 := zgfacts h1 h2 h3 h4 hs
  have f2 := zgfacts h1 h2 h3 h4 hs2
  have e : zgT c s = zgT c s2 := by
    rw [← zgV_inv (t := t) h1 h2 h3 h4 hr hc f1.1, h, zgV_inv h1 h2 h3 h4 hr hc f2.1]
  rw [← f1.2.1, e, f2.2.1]
theorem zymapped {l : Launch} {J : zyJt} (hJ : zyJr J) {r c : Nat} (h1 : 1 ≤ r) (h2 : r ≤ 4) (h3 : 1 ≤ c) (h4 : c ≤ 5) {en : zEn} {me : zMe} (hen : zG zxMeta 212 = some en) (hme : zG zMeth 212 = some me) : zyCon l (zymr r c) J en me ([595, zyS r c, 34359738362], [], [zyS r c, 5], 7, [], []) := by
  have een : zG zxMeta 212 = some (zxi212, 3, 3, 11, 212, 0, 0, 1, 0) := rfl
  rw [een] at hen
  cases hen
  have hrc := zyrc20 h2 h4
  have hNS := zgNS_le h2 h4
  refine zyone2 hJ h2 h4 een hme rfl rfl (zyCm_ok hJ h1 h2 h3 h4) (by decide) zychM (zyAllP_iff zyrunM_all h1 h2 h3 h4) (by decide) zyno1 ?_
  intro X w v F x y z hJ2 hE hF hN hx hy hrr hcc ex hxs hch hz _
  obtain ⟨-, h⟩ := zand_iff hch
  obtain ⟨a, x1, y1, z1, a1, a2, a3, hrel, h⟩ := zqfn_iff (id := 0) hF h
  obtain ⟨ka, h⟩ := zand_iff h
  obtain ⟨b, x3, y3, z3, b1, b2, b3, hrel3, h⟩ := zqfn_iff (id := 4) hF h
  obtain ⟨kb, h⟩ := zand_iff h
  rw [hJ2] at hrel hrel3
  have e1 := zyv_one (zysym_k 1) (zysym_v (show 1 < zyN X by omega)) a1
  rw [hx] at e1
  have hz1 := zyRr0_0 (zyRr_get (by decide) hrel)
  rw [← e1, hcc] at hz1
  have e5 := zyv_one (zbleT ka) a3 b1
  have e6 := zyv_one (zysym_k 2) (zysym_v (show 2 < zyN X by omega)) b2
  rw [hy] at e6
  have hz3 := zyRr0_4 (zyRr_get (by decide) hrel3)
  have hT := (zgfacts h1 h2 h3 h4 hxs).1
  rw [← e5, ← e6, hz1, zyN1_of (by omega)] at hz3
  have hzv := hz _ (zylb_iff h)
  obtain ⟨z2, rfl⟩ := zyv_int hzv (by have : b % 8 ≤ 1 := zbleT kb; omega)
  have e9 := zyv_one (zbleT kb) hzv b3
  subst e9
  have hM : z2 = Int32.ofNat (zgM (zyres (zyE X)) (zyN1 x) y) := by
    unfold zgM
    rw [hcc]
    exact hz3
  refine ⟨z2, rfl, fun ρ N ad => ?_, Or.inr (Or.inr (Or.inr (Or.inr (Or.inr (Or.inl ⟨rfl, hM⟩)))))⟩
  rw [hM]
  exact zyS_mk hrc (zgM_lt h1 h2 h3 h4 hrr hcc hxs) ρ N ad
end
section
/-! THE REFERENCE: the period -/
noncomputable def zyκpe : zyKt := (0, 3, [595, 13, 13], [(0, 4294967295), (0, 4294967295), (0, 4294967295)], [], [])
noncomputable def zyκp (n : Nat) : zyKt := (4, 3, [595, Nat.mul 8 n, zysym 2], [(0, 4294967295), (0, 4294967295), (2147483648, 2147483679)], [], [])
noncomputable def zym6 (n : Nat) : Bool := zif (Nat.beq n 1) true (zif (Nat.beq n 2) true (zif (Nat.beq n 3) true (zif (Nat.beq n 4) true (zif (Nat.beq n 6) true (Nat.beq n 12)))))
theorem zym6_iff {n : Nat} (h : zym6 n = true) : n = 1 ∨ n = 2 ∨ n = 3 ∨ n = 4 ∨ n = 6 ∨ n = 12 := by
  unfold zym6 at h
  rcases zif_iff h with ⟨q, -⟩ | ⟨-, h⟩
  · exact Or.inl (zbeqT q)
  rcases zif_iff h with ⟨q, -⟩ | ⟨-, h⟩
  · exact Or.inr (Or.inl (zbeqT q))
  rcases zif_iff h with ⟨q, -⟩ | ⟨-, h⟩
  · exact Or.inr (Or.inr (Or.inl (zbeqT q)))
  rcases zif_iff h with ⟨q, -⟩ | ⟨-, h⟩
  · exact Or.inr (Or.inr (Or.inr (Or.inl (zbeqT q))))
  rcases zif_iff h with ⟨q, -⟩ | ⟨-, h⟩
  · exact Or.inr (Or.inr (Or.inr (Or.inr (Or.inl (zbeqT q)))))
  · exact Or.inr (Or.inr (Or.inr (Or.inr (Or.inr (zbeqT h)))))
noncomputable def zyPp (r c : Nat) : zyP := (zymr r c, fun _ => [], [], zydr, 3)
noncomputable def zynof (κ : zyKt) : Nat := Nat.div (zyag κ.2.2.1 1) 8
noncomputable def zypL (P : zyP) (n : Nat) (w : zW) (ls : List Nat) (m : zyM) (L : Nat) : Bool := zand (zyk1b L) (zbd w L (fun lo hi => zand (zand (Nat.beq lo hi) (Nat.ble 2147483649 lo)) (zfr false (Nat.lcm n (Nat.sub lo 2147483648)) (fun q => zand (zym6 q) (zyincl P 3 w ls m.1 (zyκp q))))))
noncomputable def zystp (P : zyP) (ng : Nat) (κ : zyKt) : zyK := fun w _ _ pc ls st _ fs m => List.rec (motive := fun _ => Bool) (List.rec (motive := fun _ => Bool) (zand (Nat.beq pc 4) (zif (Nat.beq κ.1 0) (zand (zyincl P 3 w ls m.1 (zyκp 1)) (Nat.beq (zyag ls 2) 0))
  (zand (Nat.beq (zyag ls 2) (Nat.add (zysym 2) (Nat.mul 8 1))) (zand (zbd w (zysym 2) (fun _ hi => Nat.ble (Nat.succ hi) (Nat.add 2147483648 ng))) (zif (zqE 75 (Nat.add (zysym 2) (Nat.mul 8 40)) (zypL P (zynof κ) w ls m) m.2) true (zbd w (zysym 2) (fun lo hi => zand (Nat.beq lo hi) (zqE 75 (Nat.mul 8 (Nat.sub (Nat.add 40 lo) 2147483648)) (zypL P (zynof κ) w ls m) m.2)))))))) (fun _ _ _ => false) st) (fun _ _ _ => false) fs
noncomputable def zybtp (ng : Nat) (κ : zyKt) : zW → List Nat → zyM → Bool := fun w v m => zand (Nat.beq κ.1 4) (zand (zylb v [Nat.mul 8 (zynof κ)]) (zbd w (zysym 2) (fun lo _ => Nat.ble (Nat.add 2147483648 ng) lo)))
noncomputable def zyrunp (r c : Nat) (κ : zyKt) : Bool := zyok (fun w v m => zand (zyfitM w (zymr r c) m.1) (zand (zypre w (zymr r c) m.1 []) (zybtp (zgNG r c) κ w v m))) (zyPp r c) (zystp (zyPp r c) (zgNG r c) κ) 200000 (3, κ.2.2.2.1) zxi215 (215, 0, 0, 1, 0) κ.1 κ.2.2.1 [] (12, 0, 0) [] ([], [])
theorem zyrunp_all : zyAllP (fun r c => zand (zyrunp r c zyκpe) (zand (zyAll (fun i => zif (zym6 i) (zyrunp r c (zyκp i)) true) 13) (zpad 3 (zexp [595]) (fun l2 => zyincl (zyPp r c) 3 (0, []) l2 [] zyκpe)))) = true := by decide +kernel
theorem zywfp : zand (zywf 3 zyκpe) (zyAll (fun i => zywf 3 (zyκp i)) 13) = true := by decide +kernel
theorem zynof_p {n : Nat} : zynof (zyκp n) = n := by
  show 8 * n / 8 = n
  omega
theorem zystp_iff {P : zyP} {ng : Nat} {κ : zyKt} {w : zW} {cf : Nat → zT} {y : zY} {pc : Nat} {ls st : List Nat} {q : zQ} {m : zyM} (h : zystp P ng κ w cf y pc ls st q [] m = true) : st = [] ∧ pc = 4 ∧ ((κ.1 = 0 ∧ zyincl P 3 w ls m.1 (zyκp 1) = true ∧ zyag ls 2 = 0) ∨ (¬ κ.1 = 0 ∧ zyag ls 2 = Nat.add (zysym 2) (Nat.mul 8 1) ∧ zbd w (zysym 2) (fun _ hi => Nat.ble (Nat.succ hi) (Nat.add 2147483648 ng)) = true ∧ (zqE 75 (Nat.add (zysym 2) (Nat.mul 8 40)) (zypL P (zynof κ) w ls m) m.2 = true ∨ zbd w (zysym 2) (fun lo hi => zand (Nat.beq lo hi) (zqE 75 (Nat.mul 8 (Nat.sub (Nat.add 40 lo) 2147483648)) (zypL P (zynof κ) w ls m) m.2)) = true))) := by
  cases st with
  | cons a t => cases h
  | nil =>
    obtain ⟨h1, h⟩ := zand_iff (show zand (Nat.beq pc 4) _ = true from h)
    refine ⟨rfl, zbeqT h1, ?_⟩
    rcases zif_iff h with ⟨h4, h5⟩ | ⟨h4, h5⟩
    · obtain ⟨h6, h7⟩ := zand_iff h5
      exact Or.inl ⟨zbeqT h4, h6, zbeqT h7⟩
    · obtain ⟨h6, h7⟩ := zand_iff h5
      obtain ⟨h7, h8⟩ := zand_iff h7
      refine Or.inr ⟨zbeqF h4, zbeqT h6, h7, ?_⟩
      rcases zif_iff h8 with ⟨h9, -⟩ | ⟨-, h9⟩
      · exact Or.inl h9
      · exact Or.inr h9
theorem zyperiod {l : Launch} {J : zyJt} (hJ : zyJr J) {r c : Nat} (h1 : 1 ≤ r) (h2 : r ≤ 4) (h3 : 1 ≤ c) (h4 : c ≤ 5) {en : zEn} {me : zMe} (hen : zG zxMeta 215 = some en) (hme : zG zMeth 215 = some me) : zyCon l (zymr r c) J en me ([595], [], [zyc 1 12, 6], 12, [], []) := by
  have een : zG zxMeta 215 = some (zxi215, 1, 3, 11, 215, 0, 0, 1, 0) := rfl
  obtain ⟨me1, hme1, hOK⟩ := zall hen
  rw [hme] at hme1
  cases hme1
  rw [een] at hen
  cases hen
  have hNG := zgNG_le h2 h4
  obtain ⟨q1, hr⟩ := zand_iff (zyAllP_iff zyrunp_all h1 h2 h3 h4)
  obtain ⟨q2, q3⟩ := zand_iff hr
  have hK : ∀ κ, κ ∈ [zyκpe, zyκp 1, zyκp 2, zyκp 3, zyκp 4, zyκp 6, zyκp 12] → κ = zyκpe ∨ ∃ n, zym6 n = true ∧ n < 13 ∧ κ = zyκp n := by
    intro κ hκ
    simp only [List.mem_cons, List.not_mem_nil, or_false] at hκ
    rcases hκ with e | e | e | e | e | e | e
    · exact Or.inl e
    · exact Or.inr ⟨1, rfl, by decide, e⟩
    · exact Or.inr ⟨2, rfl, by decide, e⟩
    · exact Or.inr ⟨3, rfl, by decide, e⟩
    · exact Or.inr ⟨4, rfl, by decide, e⟩
    · exact Or.inr ⟨6, rfl, by decide, e⟩
    · exact Or.inr ⟨12, rfl, by decide, e⟩
  have hKs : ∀ n, zym6 n = true → zyκp n ∈ [zyκpe, zyκp 1, zyκp 2, zyκp 3, zyκp 4, zyκp 6, zyκp 12] := by
    intro n hn
    rcases zym6_iff hn with rfl | rfl | rfl | rfl | rfl | rfl <;> simp
  refine zycutC (P := zyPp r c) (J := J) (K := [zyκpe, zyκp 1, zyκp 2, zyκp 3, zyκp 4, zyκp 6, zyκp 12]) (κ0 := zyκpe) (n := 200000) (bt := zybtp (zgNG r c)) (stp := zystp (zyPp r c) (zgNG r c)) hOK (zyno rfl) hJ.1 rfl rfl List.mem_cons_self rfl ?_ (fun _ _ _ _ _ _ _ _ _ _ _ => rfl) ?_ q3 (fun _ _ h => h)
    (fun B AsV κ s ρ H => κ = zyκpe ∨ ∃ n, zym6 n = true ∧ n < 13 ∧ κ = zyκp n ∧ 2147483648 ≤ zB (ρ 2) ∧ zB (ρ 2) ≤ 2147483648 + zgNG r c ∧ n = zgPk (zyres (zyEl (zymr r c) B s.heap)) (zyN1 (ρ 2))) (fun _ _ κ _ ρ _ => if κ.1 = 0 then 5000000000 else 4294967295 - zB (ρ 2)) ?_ ?_ ?_
  · intro κ hκ
    rcases hK κ hκ with e | ⟨n, -, hn, e⟩
    · rw [e]; exact (zand_iff zywfp).1
    · rw [e]; exact zyAll_iff (zand_iff zywfp).2 n hn
  · intro κ hκ
    rcases hK κ hκ with e | ⟨n, hm, hn, e⟩
    · rw [e]; exact q1
    · rw [e]
      have this : zif (zym6 n) (zyrunp r c (zyκp n)) true = true := zyAll_iff q2 n hn
      rcases zif_iff this with ⟨-, h⟩ | ⟨h, -⟩
      · exact h
      · rw [hm] at h
        cases h
  · intro B AsV hA s lsA hKn hI hPk hlv
    exact Or.inl rfl
  · intro B AsV hA κ hκ s ρ H hPk hI hInv ρ2 N2 w pc ls st q m H2 locs2 lsB stA hs hag hR
    obtain ⟨est, hpc, hcase⟩ := zystp_iff hs
    have hκ1 : κ.2.1 = 3 := by
      rcases hK κ hκ with e | ⟨n, -, -, e⟩ <;> rw [e] <;> rfl
    have hN : 3 ≤ N2 := by
      have := hR.1.2.2.1.1
      rw [← hκ1]
      exact this
    have hLs := hR.2.2.2.1
    rcases hcase with ⟨hk0, hin, l2⟩ | ⟨hk0, l2, hhi, hq⟩
    · refine ⟨zyκp 1, by simp, est, hpc, ⟨w, rfl, hR.1.1, hin⟩, Or.inr ⟨1, rfl, by decide, rfl, ?_⟩, ?_⟩
      · have e2 : zyrho (zyPp r c).1 B H2 ((zxi215, 1, 3, 11, 215, 0, 0, 1, 0) : zEn).2.2.1 lsB (zyκp 1).2.2.2.2.1 2 = 0 := zyrho_ag hLs (by decide) (by rw [l2]; decide) (by rw [l2]; exact zyv_zero)
        have z0 : zB (0 : Int32) = 2147483648 := by decide
        have n0 : zyN1 (0 : Int32) = 0 := by decide
        rw [e2, z0, n0]
        exact ⟨by omega, by omega, rfl⟩
      · rw [if_pos hk0, if_neg (show ¬ (zyκp 1).1 = 0 from fun q => by cases q)]
        omega
    · rcases hInv with e | ⟨n, hm, hn, eκ, k1, k2, k3⟩
      · rw [e] at hk0; exact absurd rfl hk0
      have hs2 : ρ2 2 = ρ 2 := hag 2 (by omega)
      have hsv : zyV (B, ρ2, N2, ρ, κ.2.1, (zyEl (zymr r c) B s.heap, fun q => s.heap[q]?), J) (zysym 2) (.int (ρ 2)) := by
        rw [← hs2]
        exact zysym_v (X := (B, ρ2, N2, ρ, κ.2.1, (zyEl (zymr r c) B s.heap, fun q => s.heap[q]?), J)) (show 2 < N2 by omega)
      obtain ⟨x9, lo9, hi9, e9, c1, c2, c3⟩ := zybd_iff hhi hR.1.1 hsv
      have e9 := Value.int.inj e9
      subst e9
      have c3 : hi9 + 1 ≤ 2147483648 + zgNG r c := zbleT c3
      have n3 := zyN1_lo k1
      have hL : ∃ L, zyV (B, ρ2, N2, ρ, κ.2.1, (zyEl (zymr r c) B s.heap, fun q => s.heap[q]?), J) L (.int (zyI (zyres (zyEl (zymr r c) B s.heap)) 75 (40 + min (zyN1 (ρ 2)) 31))) ∧ zypL (zyPp r c) (zynof κ) w ls m L = true := by
        have fin : ∀ (L jx : Nat) (x : Int32), zyV (B, ρ2, N2, ρ, κ.2.1, (zyEl (zymr r c) B s.heap, fun q => s.heap[q]?), J) L (.int x) → jx = zyN1 (ρ 2) + 40 → zyEl (zymr r c) B s.heap 75 jx = some (.int x) → zyV (B, ρ2, N2, ρ, κ.2.1, (zyEl (zymr r c) B s.heap, fun q => s.heap[q]?), J) L (.int (zyI (zyres (zyEl (zymr r c) B s.heap)) 75 (40 + min (zyN1 (ρ 2)) 31))) := by
          intro L jx x p1 hj p4
          rw [zyI_res (by omega), show 40 + min (zyN1 (ρ 2)) 31 = jx by omega]
          unfold zyI
          rw [p4]
          exact p1
        rcases hq with hq | hq
        · obtain ⟨L, jx, x, p1, p2, p3, p4, p5⟩ := zqE_iff hR.1.2.2.2 hq
          have hj := zyix (B := zymr r c) (show 2 < zyN (B, ρ2, N2, ρ, κ.2.1, (zyEl (zymr r c) B s.heap, fun q => s.heap[q]?), J) from (show 2 < N2 by omega)) p2 p3 (by show 2147483648 ≤ zB (ρ2 2); rw [hs2]; exact k1) (by show zB (ρ2 2) + 40 < 4294967296; rw [hs2]; omega) (by decide)
          have hj : jx = zyN1 (ρ2 2) + 40 := hj
          rw [hs2] at hj
          exact ⟨L, fin L jx x p1 hj p4, p5⟩
        · obtain ⟨x8, lo8, hi8, e8, d1, d2, hk⟩ := zybd_iff hq hR.1.1 hsv
          have e8 := Value.int.inj e8
          subst e8
          obtain ⟨d3, d4⟩ := zand_iff hk
          have d3 := zbeqT d3
          obtain ⟨L, jx, x, p1, p2, p3, p4, p5⟩ := zqE_iff hR.1.2.2.2 d4
          have p2 : zyV (B, ρ2, N2, ρ, κ.2.1, (zyEl (zymr r c) B s.heap, fun q => s.heap[q]?), J) (8 * (40 + lo8 - 2147483648)) (.int (Int32.ofNat jx)) := p2
          have e1 := Value.int.inj (zyv_0 p2 (by omega))
          rw [show 8 * (40 + lo8 - 2147483648) / 8 = 40 + lo8 - 2147483648 by omega] at e1
          have e3 : (Int32.ofNat jx).toBitVec.toNat = (Int32.ofNat (40 + lo8 - 2147483648)).toBitVec.toNat := by rw [e1]
          rw [zN_of, zN_of] at e3
          exact ⟨L, fin L jx x p1 (by omega) p4, p5⟩
      obtain ⟨L, hLv, hL⟩ := hL
      obtain ⟨kL, hL⟩ := zand_iff hL
      obtain ⟨xL, lo, hi, eL, b1, b2, hL⟩ := zybd_iff hL hR.1.1 hLv
      have eL := Value.int.inj eL
      obtain ⟨g1, hL⟩ := zand_iff hL
      obtain ⟨g1, g2⟩ := zand_iff g1
      have g1 := zbeqT g1
      have g2 := zbleT g2
      rw [zfr_eq] at hL
      obtain ⟨g3, hin⟩ := zand_iff hL
      have en : zynof κ = n := by rw [eκ]; exact zynof_p
      rw [en] at g3 hin
      rw [← eL] at b1 b2
      have hLn : zyN1 (zyI (zyres (zyEl (zymr r c) B s.heap)) 75 (40 + min (zyN1 (ρ 2)) 31)) = lo - 2147483648 := by
        rw [zyN1_lo (by omega)]
        omega
      have z1 : zB (ρ 2 + 1) = zB (ρ 2) + 1 := by
        have := zB_add2 (x := ρ 2) (y := 1) (by rw [show zB (1 : Int32) = 2147483649 by decide]; omega) (by rw [show zB (1 : Int32) = 2147483649 by decide]; omega)
        rw [this, show zB (1 : Int32) = 2147483649 by decide]
        omega
      have n1 : zyN1 (ρ 2 + 1) = zyN1 (ρ 2) + 1 := by
        rw [zyN1_lo (by omega), zyN1_lo k1, z1]
        omega
      have e2 : zyrho (zyPp r c).1 B H2 ((zxi215, 1, 3, 11, 215, 0, 0, 1, 0) : zEn).2.2.1 lsB (zyκp (Nat.lcm n (lo - 2147483648))).2.2.2.2.1 2 = ρ 2 + 1 := zyrho_ag hLs (by decide) (by rw [l2]; exact zysym_pk) (by
        rw [l2, ← hs2]
        exact zysym_p (X := (B, ρ2, N2, ρ, κ.2.1, (zyEl (zymr r c) B s.heap, fun q => s.heap[q]?), J)) (show 2 < N2 by omega) (by decide))
      have h13 : Nat.lcm n (lo - 2147483648) < 13 := by
        rcases zym6_iff g3 with e | e | e | e | e | e <;> rw [show Nat.lcm n (lo - 2147483648) = _ from e] <;> decide
      refine ⟨zyκp (Nat.lcm n (lo - 2147483648)), hKs _ g3, est, hpc, ⟨w, rfl, hR.1.1, hin⟩, Or.inr ⟨_, g3, h13, rfl, ?_, ?_, ?_⟩, ?_⟩
      · rw [e2, z1]; omega
      · rw [e2, z1]; omega
      · rw [e2, n1]
        show Nat.lcm n (lo - 2147483648) = Nat.lcm (zgPk (zyres (zyEl (zymr r c) B s.heap)) (zyN1 (ρ 2))) (zyN1 (zyI (zyres (zyEl (zymr r c) B s.heap)) 75 (40 + min (zyN1 (ρ 2)) 31)))
        rw [← k3, hLn]
      · rw [if_neg hk0, if_neg (show ¬ (zyκp (Nat.lcm n (lo - 2147483648))).1 = 0 from fun q => by cases q), e2, z1]
        omega
  · intro B AsV hA κ hκ s ρ H hPk hI hInv ρ2 w v m t vo hbt hag hE hF hM hvo
    obtain ⟨c1, hbt⟩ := zand_iff hbt
    obtain ⟨c2, c3⟩ := zand_iff hbt
    have c1 := zbeqT c1
    have ev := zylb_iff c2
    subst ev
    rcases hInv with e | ⟨n, hm, hn, eκ, k1, k2, k3⟩
    · rw [e] at c1; cases c1
    have hκ1 : κ.2.1 = 3 := by rw [eκ]; rfl
    have hN : 3 ≤ w.1 := by have := hag.1; omega
    have hs2 : ρ2 2 = ρ 2 := hag.2 2 (by omega)
    have hsv : zyV (B, ρ2, w.1, ρ, κ.2.1, (zyEl (zymr r c) B s.heap, fun q => s.heap[q]?), J) (zysym 2) (.int (ρ 2)) := by
      rw [← hs2]
      exact zysym_v (X := (B, ρ2, w.1, ρ, κ.2.1, (zyEl (zymr r c) B s.heap, fun q => s.heap[q]?), J)) (show 2 < w.1 by omega)
    obtain ⟨x9, lo9, hi9, e9, d1, d2, d3⟩ := zybd_iff c3 hE hsv
    have e9 := Value.int.inj e9
    subst e9
    have d3 : 2147483648 + zgNG r c ≤ lo9 := zbleT d3
    have n3 := zyN1_lo k1
    have en : zynof κ = n := by rw [eκ]; exact zynof_p
    have hkN : zyN1 (ρ 2) = zgNG r c := by omega
    obtain ⟨rr, cc⟩ := zyrc (show r < 2147483648 by omega) (show c < 2147483648 by omega) hI
    cases vo with
    | none => exact hvo.elim
    | some z =>
      rw [en] at hvo
      have hvo : zyV (B, ρ2, w.1, ρ, κ.2.1, (zyEl (zymr r c) B s.heap, fun q => s.heap[q]?), J) (8 * n) z := hvo
      have ez := zyv_0 hvo (by omega)
      rw [show 8 * n / 8 = n by omega] at ez
      subst ez
      refine ⟨Int32.ofNat n, rfl, ?_, ?_⟩
      · show zyv _ _ _ (8 * ((1 + 2147483648) * 4294967296 + (12 + 2147483648)) + 2) _
        have hn1 : 1 ≤ n := by rcases zym6_iff hm with e | e | e | e | e | e <;> omega
        exact zyv_bd (by rw [zB_of4 (by omega)]; omega) (by rw [zB_of4 (by omega)]; omega) (by decide)
      · rw [hJ.2]
        refine Or.inl ⟨by decide, Or.inr (Or.inr (Or.inr (Or.inr (Or.inr (Or.inr (Or.inl ⟨rfl, ?_⟩))))))⟩
        show Int32.ofNat n = Int32.ofNat (zgPk (zyres (zyEl (zymr r c) B s.heap)) (zgNG (zgr (zyres (zyEl (zymr r c) B s.heap))) (zgc (zyres (zyEl (zymr r c) B s.heap)))))
        rw [zgr_res.1, zgr_res.2, rr, cc, k3, hkN]
end
section
/-! THE REFERENCE: a round -/
theorem zyrow_i {r c k : Nat} {B : zCx} {J : zyJt} {s : State} {lo hi rl rh : Nat} (hI : zyMI (zymr r c) B J s s.heap) (hk : k < 556) (hrow : (lo, hi, zyc rl rh) ∈ (zymr75 r c).2.2) (h1 : lo ≤ k) (h2 : k ≤ hi) (h3 : rh < 2147483648) : ∃ x : Int32, zyEl (zymr r c) B s.heap 75 k = some (.int x) ∧ rl + 2147483648 ≤ zB x ∧ zB x ≤ rh + 2147483648 := by
  obtain ⟨w, g1, g2⟩ := hI.2.1 75 _ k (zyg75 r c) (by rw [zyL75]; exact hk)
  have g3 := (g2 _ hrow h1 h2).2
  have hz : zyc rl rh % 8 = 2 := by
    show (8 * ((rl + 2147483648) * 4294967296 + (rh + 2147483648)) + 2) % 8 = 2
    omega
  obtain ⟨x, rfl⟩ := zyv_int g3 (by dsimp only; omega)
  have hb := zyc_iff h3 g3
  exact ⟨x, g1, hb.1, hb.2⟩
theorem zylong {r c k : Nat} {B : zCx} {J : zyJt} {s : State} (hI : zyMI (zymr r c) B J s s.heap) (hk : k ≤ 30) : 1 ≤ zyN1 (zyI (zyres (zyEl (zymr r c) B s.heap)) 75 (40 + k)) ∧ zyN1 (zyI (zyres (zyEl (zymr r c) B s.heap)) 75 (40 + k)) ≤ 4 := by
  obtain ⟨x, e, b1, b2⟩ := zyrow_i (k := 40 + k) (lo := 40) (hi := 70) (rl := 1) (rh := 4) hI (by omega) (by
    have e : zyc 1 4 = 73786976346377814050 := rfl
    rw [e]
    simp [zymr75]) (by omega) (by omega) (by decide)
  rw [zyI_res (by omega)]
  have e2 : zyI (zyEl (zymr r c) B s.heap) 75 (40 + k) = x := by unfold zyI; rw [e]
  rw [e2, zyN1_lo (by omega)]
  omega
theorem zgPk_12 {r c : Nat} {B : zCx} {J : zyJt} {s : State} (hI : zyMI (zymr r c) B J s s.heap) : ∀ k, k ≤ 31 → zgPk (zyres (zyEl (zymr r c) B s.heap)) k ∣ 12 ∧ ∀ j, j < k → zyN1 (zyI (zyres (zyEl (zymr r c) B s.heap)) 75 (40 + j)) ∣ zgPk (zyres (zyEl (zymr r c) B s.heap)) k := by
  intro k
  induction k with
  | zero => intro _; exact ⟨⟨12, rfl⟩, fun j hj => absurd hj (Nat.not_lt_zero j)⟩
  | succ k ih =>
    intro hk
    obtain ⟨i1, i2⟩ := ih (by omega)
    obtain ⟨l1, l2⟩ := zylong hI (show k ≤ 30 by omega)
    have e : zgPk (zyres (zyEl (zymr r c) B s.heap)) (k + 1) = Nat.lcm (zgPk (zyres (zyEl (zymr r c) B s.heap)) k) (zyN1 (zyI (zyres (zyEl (zymr r c) B s.heap)) 75 (40 + min k 31))) := rfl
    rw [show min k 31 = k by omega] at e
    rw [e]
    refine ⟨Nat.lcm_dvd i1 ?_, fun j hj => ?_⟩
    · generalize zyN1 (zyI (zyres (zyEl (zymr r c) B s.heap)) 75 (40 + k)) = L at l1 l2
      have : L = 1 ∨ L = 2 ∨ L = 3 ∨ L = 4 := by omega
      rcases this with rfl | rfl | rfl | rfl <;> decide
    · by_cases ej : j = k
      · subst ej
        exact Nat.dvd_lcm_right _ _
      · exact Nat.dvd_trans (i2 j (by omega)) (Nat.dvd_lcm_left _ _)
theorem zgP_12 {r c : Nat} (h2 : r ≤ 4) (h4 : c ≤ 5) {B : zCx} {J : zyJt} {s : State} (hI : zyMI (zymr r c) B J s s.heap) : 1 ≤ zgP (zyres (zyEl (zymr r c) B s.heap)) ∧ zgP (zyres (zyEl (zymr r c) B s.heap)) ≤ 12 ∧ ∀ j, j < zgNG r c → zyN1 (zyI (zyres (zyEl (zymr r c) B s.heap)) 75 (40 + j)) ∣ zgP (zyres (zyEl (zymr r c) B s.heap)) := by
  obtain ⟨rr, cc⟩ := zyrc (show r < 2147483648 by omega) (show c < 2147483648 by omega) hI
  have e : zgP (zyres (zyEl (zymr r c) B s.heap)) = zgPk (zyres (zyEl (zymr r c) B s.heap)) (zgNG r c) := by
    unfold zgP
    rw [zgr_res.1, zgr_res.2, rr, cc]
  obtain ⟨d1, d2⟩ := zgPk_12 hI (zgNG r c) (zgNG_le h2 h4)
  rw [e]
  exact ⟨Nat.pos_of_dvd_of_pos d1 (by decide), Nat.le_of_dvd (by decide) d1, d2⟩
theorem zgRk_lt {E : zyEm} {r c s : Nat} {t : Int32} (h1 : 1 ≤ r) (h2 : r ≤ 4) (h3 : 1 ≤ c) (h4 : c ≤ 5) (hr : zgr E = r) (hc : zgc E = c) (hs : s < zgNS r c) : ∀ k, zgRk E t s k < zgNS r c := by
  intro k
  induction k with
  | zero => exact hs
  | succ k ih => exact zgM_lt h1 h2 h3 h4 hr hc ih
theorem zgRk_inj {E : zyEm} {r c s s2 : Nat} {t : Int32} (h1 : 1 ≤ r) (h2 : r ≤ 4) (h3 : 1 ≤ c) (h4 : c ≤ 5) (hr : zgr E = r) (hc : zgc E = c) (hs : s < zgNS r c) (hs2 : s2 < zgNS r c) : ∀ k, zgRk E t s k = zgRk E t s2 k → s = s2 := by
  intro k
  induction k with
  | zero => intro h; exact h
  | succ k ih => intro h; exact ih (zgM_inj h1 h2 h3 h4 hr hc (zgRk_lt h1 h2 h3 h4 hr hc hs k) (zgRk_lt h1 h2 h3 h4 hr hc hs2 k) h)
theorem zyRr0_5 {E : zyEm} {x y z : Int32} (h : zyRr0 5 E x y z) : z = Int32.ofNat (zgM E (zyN1 x) y) := by
  rcases h with ⟨q, -⟩ | ⟨q, -⟩ | ⟨q, -⟩ | ⟨q, -⟩ | ⟨q, -⟩ | ⟨-, q⟩ | ⟨q, -⟩ | ⟨q, -⟩ | ⟨q, -⟩
  · omega
  · omega
  · omega
  · omega
  · omega
  · exact q
  · omega
  · omega
  · omega
theorem zyRr0_6 {E : zyEm} {x y z : Int32} (h : zyRr0 6 E x y z) : z = Int32.ofNat (zgP E) := by
  rcases h with ⟨q, -⟩ | ⟨q, -⟩ | ⟨q, -⟩ | ⟨q, -⟩ | ⟨q, -⟩ | ⟨q, -⟩ | ⟨-, q⟩ | ⟨q, -⟩ | ⟨q, -⟩
  · omega
  · omega
  · omega
  · omega
  · omega
  · omega
  · exact q
  · omega
  · omega
theorem zyRr0_7 {E : zyEm} {x y z : Int32} (h : zyRr0 7 E x y z) : z = Int32.ofNat (zgR E (zyN1 x) y) := by
  rcases h with ⟨q, -⟩ | ⟨q, -⟩ | ⟨q, -⟩ | ⟨q, -⟩ | ⟨q, -⟩ | ⟨q, -⟩ | ⟨q, -⟩ | ⟨-, q⟩ | ⟨q, -⟩
  · omega
  · omega
  · omega
  · omega
  · omega
  · omega
  · omega
  · exact q
  · omega
noncomputable def zyκre (r c : Nat) : zyKt := (0, 5, [595, zysym 1, zysym 2, 13, 13], [(0, 4294967295), (2147483648, Nat.add 2147483647 (zgNS r c)), (0, 4294967295), (0, 4294967295), (0, 4294967295)], [], [])
noncomputable def zyκrl (r c : Nat) : zyKt := (5, 5, [595, zysym 1, zysym 2, zysym 3, zysym 4], [(0, 4294967295), (2147483648, Nat.add 2147483647 (zgNS r c)), (0, 4294967295), (2147483648, Nat.add 2147483647 (zgNS r c)), (2147483648, 2147483660)], [], [])
noncomputable def zyCr (r c : Nat) : Nat → List zyCt := fun y => zif (Nat.beq y 215) [([595], [], [zyc 1 12, 6], 12, [], [])] (zif (Nat.beq y 212) [([595, zyS r c, 34359738362], [], [zyS r c, 5], 7, [], [])] [])
noncomputable def zystr (r c : Nat) (κ : zyKt) : zyK := fun w _ _ pc ls st _ fs m => List.rec (motive := fun _ => Bool) (List.rec (motive := fun _ => Bool) (zand (Nat.beq pc 5) (zand (zyincl (zyP2 r c (zyCr r c)) 5 w ls m.1 (zyκrl r c)) (zand (zand (Nat.beq (zyag ls 1) (zysym 1)) (Nat.beq (zyag ls 2) (zysym 2))) (zif (Nat.beq κ.1 0) (zand (Nat.beq (zyag ls 3) (zysym 1)) (Nat.beq (zyag ls 4) 0))
  (zand (Nat.beq (zyag ls 4) (Nat.add (zysym 4) (Nat.mul 8 1))) (zand (zqop 1006 0 0 (fun p => zand (zyk1b p) (zqlt w m.2 (zysym 4) p true false)) m.2) (zqop 1 (zysym 2) (zysym 4) (fun t => zand (zyk1b t) (zqop 1005 (zysym 3) t (fun v => zand (zyk1b v) (Nat.beq v (zyag ls 3))) m.2)) m.2))))))) (fun _ _ _ => false) st) (fun _ _ _ => false) fs
noncomputable def zybtr (κ : zyKt) : zW → List Nat → zyM → Bool := fun w v m => zand (Nat.beq κ.1 5) (zand (zylb v [zysym 3]) (zqop 1006 0 0 (fun p => zand (zyk1b p) (zqlt w m.2 (zysym 4) p false true)) m.2))
noncomputable def zyrunr (r c : Nat) (κ : zyKt) : Bool := zyok (fun w v m => zand (zyfitM w (zymr r c) m.1) (zand (zypre w (zymr r c) m.1 []) (zybtr κ w v m))) (zyP2 r c (zyCr r c)) (zystr r c κ) 200000 (5, κ.2.2.2.1) zxi216 (216, 0, 0, 1, 0) κ.1 κ.2.2.1 [] (13, 0, 0) [] ([], [])
theorem zyrunr_all : zyAllP (fun r c => zand (zand (zywf 5 (zyκre r c)) (zywf 5 (zyκrl r c))) (zand (zyrunr r c (zyκre r c)) (zand (zyrunr r c (zyκrl r c)) (zpad 5 (zexp [595, zyS r c, 34359738362]) (fun l2 => zyincl (zyP2 r c (zyCr r c)) 5 (0, []) l2 [] (zyκre r c)))))) = true := by decide +kernel
end
section
/-! THE REFERENCE: rounded -/
theorem zystr_iff {r c : Nat} {κ : zyKt} {w : zW} {cf : Nat → zT} {y : zY} {pc : Nat} {ls st : List Nat} {q : zQ} {m : zyM} (h : zystr r c κ w cf y pc ls st q [] m = true) : st = [] ∧ pc = 5 ∧ zyincl (zyP2 r c (zyCr r c)) 5 w ls m.1 (zyκrl r c) = true ∧ zyag ls 1 = zysym 1 ∧ zyag ls 2 = zysym 2 ∧ ((κ.1 = 0 ∧ zyag ls 3 = zysym 1 ∧ zyag ls 4 = 0) ∨ (¬ κ.1 = 0 ∧ zyag ls 4 = Nat.add (zysym 4) (Nat.mul 8 1) ∧ zqop 1006 0 0 (fun p => zand (zyk1b p) (zqlt w m.2 (zysym 4) p true false)) m.2 = true ∧ zqop 1 (zysym 2) (zysym 4) (fun t => zand (zyk1b t) (zqop 1005 (zysym 3) t (fun v => zand (zyk1b v) (Nat.beq v (zyag ls 3))) m.2)) m.2 = true)) := by
  cases st with
  | cons a t => cases h
  | nil =>
    obtain ⟨h1, h⟩ := zand_iff (show zand (Nat.beq pc 5) _ = true from h)
    obtain ⟨h2, h⟩ := zand_iff h
    obtain ⟨h3, h⟩ := zand_iff h
    obtain ⟨h3, h3b⟩ := zand_iff h3
    refine ⟨rfl, zbeqT h1, h2, zbeqT h3, zbeqT h3b, ?_⟩
    rcases zif_iff h with ⟨h4, h5⟩ | ⟨h4, h5⟩
    · obtain ⟨h6, h7⟩ := zand_iff h5
      exact Or.inl ⟨zbeqT h4, zbeqT h6, zbeqT h7⟩
    · obtain ⟨h6, h7⟩ := zand_iff h5
      obtain ⟨h7, h8⟩ := zand_iff h7
      exact Or.inr ⟨zbeqF h4, zbeqT h6, h7, h8⟩
theorem zyCr_ok {l : Launch} {J : zyJt} (hJ : zyJr J) {r c : Nat} (h1 : 1 ≤ r) (h2 : r ≤ 4) (h3 : 1 ≤ c) (h4 : c ≤ 5) : ∀ y2 ct en2 me2, ct ∈ zyCr r c y2 → zG zxMeta y2 = some en2 → zG zMeth y2 = some me2 → zyCon l (zymr r c) J en2 me2 ct := by
  intro y2 ct en2 me2 hct hen hme
  unfold zyCr at hct
  by_cases e0 : y2 = 215
  · subst e0
    have hct : ct ∈ [([595], [], [zyc 1 12, 6], 12, [], [])] := hct
    rw [List.mem_singleton.mp hct]
    exact zyperiod hJ h1 h2 h3 h4 hen hme
  rw [zybeq_ne e0, zif_f] at hct
  by_cases e1 : y2 = 212
  · subst e1
    have hct : ct ∈ [([595, zyS r c, 34359738362], [], [zyS r c, 5], 7, [], [])] := hct
    rw [List.mem_singleton.mp hct]
    exact zymapped hJ h1 h2 h3 h4 hen hme
  rw [zybeq_ne e1, zif_f] at hct
  cases hct
theorem zyltB {x y : Int32} : x < y ↔ zB x < zB y := by
  rw [Int32.lt_iff_toInt_lt]
  have e1 := zB_int x
  have e2 := zB_int y
  omega
theorem zyrounded {l : Launch} {J : zyJt} (hJ : zyJr J) {r c : Nat} (h1 : 1 ≤ r) (h2 : r ≤ 4) (h3 : 1 ≤ c) (h4 : c ≤ 5) {en : zEn} {me : zMe} (hen : zG zxMeta 216 = some en) (hme : zG zMeth 216 = some me) : zyCon l (zymr r c) J en me ([595, zyS r c, 34359738362], [], [zyS r c, 7], 13, [], []) := by
  have een : zG zxMeta 216 = some (zxi216, 3, 5, 11, 216, 0, 0, 1, 0) := rfl
  obtain ⟨me1, hme1, hOK⟩ := zall hen
  rw [hme] at hme1
  cases hme1
  rw [een] at hen
  cases hen
  have hrc := zyrc20 h2 h4
  have hNS := zgNS_le h2 h4
  obtain ⟨hw, hr⟩ := zand_iff (zyAllP_iff zyrunr_all h1 h2 h3 h4)
  obtain ⟨q1, hr⟩ := zand_iff hr
  obtain ⟨q2, q3⟩ := zand_iff hr
  have hK : ∀ κ, κ ∈ [zyκre r c, zyκrl r c] → κ = zyκre r c ∨ κ = zyκrl r c := fun κ hκ => by simpa using hκ
  refine zycutC (P := zyP2 r c (zyCr r c)) (J := J) (K := [zyκre r c, zyκrl r c]) (κ0 := zyκre r c) (n := 200000) (bt := zybtr) (stp := zystr r c) hOK (zyCr_ok hJ h1 h2 h3 h4) hJ.1 rfl rfl List.mem_cons_self rfl ?_ (fun _ _ _ _ _ _ _ _ _ _ _ => rfl) ?_ q3 (fun _ _ h => h)
    (fun B AsV κ s ρ H => ∃ x y : Int32, AsV[1]? = some (.int x) ∧ AsV[2]? = some (.int y) ∧ ρ 1 = x ∧ ρ 2 = y ∧ x = Int32.ofNat (zyN1 x) ∧ zyN1 x < zgNS r c ∧ (κ = zyκre r c ∨ (κ = zyκrl r c ∧ ∃ k : Nat, ρ 4 = Int32.ofNat k ∧ k ≤ zgP (zyres (zyEl (zymr r c) B s.heap)) ∧ ρ 3 = Int32.ofNat (zgRk (zyres (zyEl (zymr r c) B s.heap)) y (zyN1 x) k)))) (fun _ _ κ _ ρ _ => if κ.1 = 0 then 5000000000 else 4294967295 - zB (ρ 4)) ?_ ?_ ?_
  · intro κ hκ
    rcases hK κ hκ with e | e
    · rw [e]; exact (zand_iff hw).1
    · rw [e]; exact (zand_iff hw).2
  · intro κ hκ
    rcases hK κ hκ with e | e
    · rw [e]; exact q1
    · rw [e]; exact q2
  · intro B AsV hA s lsA hKn hI hPk hlv
    obtain ⟨v0, t0, rfl, a1, hA1⟩ := zySt_c hA
    obtain ⟨v1, t1, rfl, a2, hA2⟩ := zySt_c hA1
    obtain ⟨v2, t2, rfl, a3, hA3⟩ := zySt_c hA2
    have e0 : v0 = .ref (zad B 74) := zyv_3 (v := 595) a1 (by decide)
    subst e0
    obtain ⟨x, rfl⟩ := zyv_int a2 (by rw [zyS_def]; omega)
    obtain ⟨y, rfl⟩ := zyv_int a3 (by decide)
    obtain ⟨ex, hx⟩ := zyS_iff hrc a2
    exact ⟨x, y, rfl, rfl, zyrho_l (show 1 < 5 by decide) (zyarg1 hlv), zyrho_l (show 2 < 5 by decide) (zyarg2 hlv), ex, hx, Or.inl rfl⟩
  · intro B AsV hA κ hκ s ρ H hPk hI hInv ρ2 N2 w pc ls st q m H2 locs2 lsB stA hs hag hR
    obtain ⟨x, y, hx, hy, r1, r2, ex, hxs, hInv⟩ := hInv
    obtain ⟨est, hpc, hin, l1, l2, hcase⟩ := zystr_iff hs
    obtain ⟨p12a, p12b, -⟩ := zgP_12 h2 h4 hI
    obtain ⟨rr, cc⟩ := zyrc (show r < 2147483648 by omega) (show c < 2147483648 by omega) hI
    have hκ1 : κ.2.1 = 5 := by
      rcases hK κ hκ with e | e <;> rw [e] <;> rfl
    have hN : 5 ≤ N2 := by
      have := hR.1.2.2.1.1
      rw [← hκ1]
      exact this
    have hLs := hR.2.2.2.1
    have hsv : ∀ i, i < 5 → zyV (B, ρ2, N2, ρ, κ.2.1, (zyEl (zymr r c) B s.heap, fun q => s.heap[q]?), J) (zysym i) (.int (ρ i)) := by
      intro i hi
      rw [← hag i (by omega)]
      exact zysym_v (X := (B, ρ2, N2, ρ, κ.2.1, (zyEl (zymr r c) B s.heap, fun q => s.heap[q]?), J)) (show i < N2 by omega)
    have hr1 : zyrho (zyP2 r c (zyCr r c)).1 B H2 ((zxi216, 3, 5, 11, 216, 0, 0, 1, 0) : zEn).2.2.1 lsB (zyκrl r c).2.2.2.2.1 1 = x := zyrho_ag hLs (by decide) (by rw [l1]; exact zysym_k 1) (by rw [l1, ← r1]; exact hsv 1 (by decide))
    have hr2 : zyrho (zyP2 r c (zyCr r c)).1 B H2 ((zxi216, 3, 5, 11, 216, 0, 0, 1, 0) : zEn).2.2.1 lsB (zyκrl r c).2.2.2.2.1 2 = y := zyrho_ag hLs (by decide) (by rw [l2]; exact zysym_k 2) (by rw [l2, ← r2]; exact hsv 2 (by decide))
    rcases hcase with ⟨hk0, l3, l4⟩ | ⟨hk0, l4, hlt, hq⟩
    · have e3 : zyrho (zyP2 r c (zyCr r c)).1 B H2 ((zxi216, 3, 5, 11, 216, 0, 0, 1, 0) : zEn).2.2.1 lsB (zyκrl r c).2.2.2.2.1 3 = x := zyrho_ag hLs (by decide) (by rw [l3]; exact zysym_k 1) (by rw [l3, ← r1]; exact hsv 1 (by decide))
      have e4 : zyrho (zyP2 r c (zyCr r c)).1 B H2 ((zxi216, 3, 5, 11, 216, 0, 0, 1, 0) : zEn).2.2.1 lsB (zyκrl r c).2.2.2.2.1 4 = 0 := zyrho_ag hLs (by decide) (by rw [l4]; decide) (by rw [l4]; exact zyv_zero)
      refine ⟨zyκrl r c, by simp, est, hpc, ⟨w, rfl, hR.1.1, hin⟩, ⟨x, y, hx, hy, hr1, hr2, ex, hxs, Or.inr ⟨rfl, 0, e4, Nat.zero_le _, ?_⟩⟩, ?_⟩
      · rw [e3]; exact ex
      · rw [if_pos hk0, if_neg (show ¬ (zyκrl r c).1 = 0 from fun q => by cases q)]
        omega
    · rcases hInv with e | ⟨eκ, k, hk4, hkP, hk3⟩
      · rw [e] at hk0; exact absurd rfl hk0
      obtain ⟨p, x6, y6, z6, -, -, a3, hrel6, h6⟩ := zqfn_iff (id := 6) hR.1.2.2.2 hlt
      obtain ⟨kp, h6⟩ := zand_iff h6
      have hrel6 : zyRr 6 (zyEl (zymr r c) B s.heap) x6 y6 z6 := by rw [← hJ.2]; exact hrel6
      have hz6 := zyRr0_6 (zyRr_get (by decide) hrel6)
      have hltB : ρ 4 < z6 := by
        rcases zqlt_iff hR.1.1 hR.1.2.2.2 (zysym_k 4) (zbleT kp) (hsv 4 (by decide)) a3 h6 with ⟨q1, -⟩ | ⟨-, q1⟩
        · exact q1
        · cases q1
      rw [zyltB, hk4, hz6, zB_of4 (by omega), zB_of4 (by omega)] at hltB
      obtain ⟨tv, xt, yt, t1, t2, t3, hq⟩ := zqop_iff hR.1.2.2.2 (by decide) hq
      obtain ⟨kt, hq⟩ := zand_iff hq
      obtain ⟨mv, x5, y5, z5, c1, c2, c3, hrel5, hq⟩ := zqfn_iff (id := 5) hR.1.2.2.2 hq
      obtain ⟨km, hq⟩ := zand_iff hq
      have hq := zbeqT hq
      have hrel5 : zyRr 5 (zyEl (zymr r c) B s.heap) x5 y5 z5 := by rw [← hJ.2]; exact hrel5
      have hz5 := zyRr0_5 (zyRr_get (by decide) hrel5)
      have g1 := zyv_one (zysym_k 2) (hsv 2 (by decide)) t1
      have g2 := zyv_one (zysym_k 4) (hsv 4 (by decide)) t2
      have g3 := zyv_one (zysym_k 3) (hsv 3 (by decide)) c1
      have g4 := zyv_one (zbleT kt) t3 c2
      have g4 : xt + yt = y5 := g4
      have hRk := zgRk_lt (t := y) h1 h2 h3 h4 (zgr_res.1.trans rr) (zgr_res.2.trans cc) hxs k
      rw [← g3, ← g4, ← g1, ← g2, hk3, r2, hk4, zyN1_of (by omega)] at hz5
      have e3 : zyrho (zyP2 r c (zyCr r c)).1 B H2 ((zxi216, 3, 5, 11, 216, 0, 0, 1, 0) : zEn).2.2.1 lsB (zyκrl r c).2.2.2.2.1 3 = z5 := zyrho_ag hLs (by decide) (by rw [← hq]; exact zbleT km) (by rw [← hq]; exact c3)
      have e4 : zyrho (zyP2 r c (zyCr r c)).1 B H2 ((zxi216, 3, 5, 11, 216, 0, 0, 1, 0) : zEn).2.2.1 lsB (zyκrl r c).2.2.2.2.1 4 = Int32.ofNat (k + 1) := by
        refine zyrho_ag hLs (by decide) (by rw [l4]; exact zysym_pk) ?_
        have hp := zysym_p (X := (B, ρ2, N2, ρ, κ.2.1, (zyEl (zymr r c) B s.heap, fun q => s.heap[q]?), J)) (i := 4) (c := 1) (show 4 < N2 by omega) (by decide)
        have e9 : zyρ (B, ρ2, N2, ρ, κ.2.1, (zyEl (zymr r c) B s.heap, fun q => s.heap[q]?), J) 4 + Int32.ofNat 1 = Int32.ofNat (k + 1) := by
          show ρ2 4 + Int32.ofNat 1 = _
          rw [hag 4 (by omega), hk4, ← zyofA]
        rw [e9] at hp
        rw [l4]
        exact hp
      refine ⟨zyκrl r c, by simp, est, hpc, ⟨w, rfl, hR.1.1, hin⟩, ⟨x, y, hx, hy, hr1, hr2, ex, hxs, Or.inr ⟨rfl, k + 1, e4, by omega, ?_⟩⟩, ?_⟩
      · rw [e3]
        exact hz5
      · rw [if_neg hk0, if_neg (show ¬ (zyκrl r c).1 = 0 from fun q => by cases q), e4, hk4, zB_of4 (by omega), zB_of4 (by omega)]
        omega
  · intro B AsV hA κ hκ s ρ H hPk hI hInv ρ2 w v m t vo hbt hag hE hF hM hvo
    obtain ⟨x, y, hx, hy, r1, r2, ex, hxs, hInv⟩ := hInv
    obtain ⟨p12a, p12b, -⟩ := zgP_12 h2 h4 hI
    obtain ⟨rr, cc⟩ := zyrc (show r < 2147483648 by omega) (show c < 2147483648 by omega) hI
    obtain ⟨c1, hbt⟩ := zand_iff hbt
    obtain ⟨c2, c3⟩ := zand_iff hbt
    have c1 := zbeqT c1
    have ev := zylb_iff c2
    subst ev
    rcases hInv with e | ⟨eκ, k, hk4, hkP, hk3⟩
    · rw [e] at c1; cases c1
    have hκ1 : κ.2.1 = 5 := by rw [eκ]; rfl
    have hN : 5 ≤ w.1 := by have := hag.1; omega
    have hsv : ∀ i, i < 5 → zyV (B, ρ2, w.1, ρ, κ.2.1, (zyEl (zymr r c) B s.heap, fun q => s.heap[q]?), J) (zysym i) (.int (ρ i)) := by
      intro i hi
      rw [← hag.2 i (by omega)]
      exact zysym_v (X := (B, ρ2, w.1, ρ, κ.2.1, (zyEl (zymr r c) B s.heap, fun q => s.heap[q]?), J)) (show i < w.1 by omega)
    obtain ⟨p, x6, y6, z6, -, -, a3, hrel6, h6⟩ := zqfn_iff (id := 6) hF c3
    obtain ⟨kp, h6⟩ := zand_iff h6
    have hrel6 : zyRr 6 (zyEl (zymr r c) B s.heap) x6 y6 z6 := by rw [← hJ.2]; exact hrel6
    have hz6 := zyRr0_6 (zyRr_get (by decide) hrel6)
    have hge : ¬ ρ 4 < z6 := by
      rcases zqlt_iff hE hF (zysym_k 4) (zbleT kp) (hsv 4 (by decide)) a3 h6 with ⟨-, q1⟩ | ⟨q1, -⟩
      · cases q1
      · exact q1
    rw [zyltB, hk4, hz6, zB_of4 (by omega), zB_of4 (by omega)] at hge
    have hkk : k = zgP (zyres (zyEl (zymr r c) B s.heap)) := by omega
    cases vo with
    | none => exact hvo.elim
    | some z =>
      have hvo : zyV (B, ρ2, w.1, ρ, κ.2.1, (zyEl (zymr r c) B s.heap, fun q => s.heap[q]?), J) (zysym 3) z := hvo
      obtain ⟨z2, rfl⟩ := zyv_int hvo (by have := zysym_k 3; omega)
      have ez := zyv_one (zysym_k 3) (hsv 3 (by decide)) hvo
      have eA1 : zyAi AsV.toArray 1 = x := by
        unfold zyAi
        rw [show AsV.toArray.toList = AsV by simp, hx]
      have eA2 : zyAi AsV.toArray 2 = y := by
        unfold zyAi
        rw [show AsV.toArray.toList = AsV by simp, hy]
      have hRk := zgRk_lt (t := y) h1 h2 h3 h4 (zgr_res.1.trans rr) (zgr_res.2.trans cc) hxs k
      refine ⟨z2, rfl, ?_, ?_⟩
      · rw [← ez, hk3]
        exact zyS_mk hrc hRk _ _ _
      · rw [hJ.2, eA1, eA2]
        refine Or.inl ⟨by decide, Or.inr (Or.inr (Or.inr (Or.inr (Or.inr (Or.inr (Or.inr (Or.inl ⟨rfl, ?_⟩)))))))⟩
        show z2 = Int32.ofNat (zgRk (zyres (zyEl (zymr r c) B s.heap)) y (zyN1 x) (zgP (zyres (zyEl (zymr r c) B s.heap))))
        rw [← ez, hk3, hkk]
end
