section ZE
variable {p : Program} {l : Launch} {e : Env} {s : State} {mt : MethodId} {below : List Frame} {meth : Method} {c : Code} {b : Nat} {X : zCx} {H : Heap} {locs : List Loc} {lsA : Array Slot} {stA : List Value}
/-- one of the switch's ways, by an evaluated run -/
theorem zgoE {v n : Nat} {en : List (Nat × Nat)} (hC : zLc X p s mt meth c) (hL : zLn X = 6) (hR : zRl X s 4 (1000, 600000, 7302250) (88, ze0) [799995, 3, 595, 0] [v] (1000, 88, 23815) zM0 H locs lsA stA) (hE : zEnv (zρ X) en) (h : zok zbtL 6 zstop0 n (88, en) zxi0 zy0 33 [799995, 3, 595, 0] [v] (1000, 88, 23815) [] zM0 = true) :
    W p l e room_1 s mt #[Value.ref b] below meth c H locs 88 23815 (lw_Z below #[Value.ref b] s) (F0 mt 33 lsA stA) :=
  zrun0 (q := (1000, 88, 23815)) (w := (88, en)) (n := n) hC (by rw [hL]; exact h) ⟨hE, hR.2.1, hR.2.2.1, hR.2.2.2.1, hR.2.2.2.2.1, hR.2.2.2.2.2⟩
theorem zcase16 (hC : zLc X p s mt meth c) (hL : zLn X = 6) (hR : zRl X s 4 (1000, 600000, 7302250) (88, ze0) [799995, 3, 595, 0] [128] (1000, 88, 23815) zM0 H locs lsA stA) :
    W p l e room_1 s mt #[Value.ref b] below meth c H locs 88 23815 (lw_Z below #[Value.ref b] s) (F0 mt 33 lsA stA) := by
  have f0 := zfull (zρ X 0)
  have f1 := zfull (zρ X 1)
  have f2 := zfull (zρ X 2)
  have f3 := zfull (zρ X 3)
  have f4 := zfull (zρ X 4)
  have f5 := zfull (zρ X 5)
  rcases Nat.lt_or_ge (zB (zρ X 1)) 2147483681 with g0 | g0
  · exact zgoE hC hL hR (zenv_mk f0 ⟨by show 0 ≤ _; omega, by show _ ≤ 2147483680; omega⟩ f2 f3 f4 f5) zh16_0
  rcases Nat.lt_or_ge (zB (zρ X 1)) 2147483694 with g1 | g1
  · exact zgoE hC hL hR (zenv_mk f0 ⟨by show 2147483681 ≤ _; omega, by show _ ≤ 2147483693; omega⟩ f2 f3 f4 f5) zh16_1
  rcases Nat.lt_or_ge (zB (zρ X 1)) 2147483704 with g2 | g2
  · exact zgoE hC hL hR (zenv_mk f0 ⟨by show 2147483694 ≤ _; omega, by show _ ≤ 2147483703; omega⟩ f2 f3 f4 f5) zh16_2
  rcases Nat.lt_or_ge (zB (zρ X 1)) 2147483712 with g3 | g3
  · exact zgoE hC hL hR (zenv_mk f0 ⟨by show 2147483704 ≤ _; omega, by show _ ≤ 2147483711; omega⟩ f2 f3 f4 f5) zh16_3
  rcases Nat.lt_or_ge (zB (zρ X 1)) 2147483719 with g4 | g4
  · exact zgoE hC hL hR (zenv_mk f0 ⟨by show 2147483712 ≤ _; omega, by show _ ≤ 2147483718; omega⟩ f2 f3 f4 f5) zh16_4
  rcases Nat.lt_or_ge (zB (zρ X 1)) 2147483726 with g5 | g5
  · exact zgoE hC hL hR (zenv_mk f0 ⟨by show 2147483719 ≤ _; omega, by show _ ≤ 2147483725; omega⟩ f2 f3 f4 f5) zh16_5
  rcases Nat.lt_or_ge (zB (zρ X 1)) 2147483732 with g6 | g6
  · exact zgoE hC hL hR (zenv_mk f0 ⟨by show 2147483726 ≤ _; omega, by show _ ≤ 2147483731; omega⟩ f2 f3 f4 f5) zh16_6
  rcases Nat.lt_or_ge (zB (zρ X 1)) 2147483737 with g7 | g7
  · exact zgoE hC hL hR (zenv_mk f0 ⟨by show 2147483732 ≤ _; omega, by show _ ≤ 2147483736; omega⟩ f2 f3 f4 f5) zh16_7
  rcases Nat.lt_or_ge (zB (zρ X 1)) 2147483742 with g8 | g8
  · exact zgoE hC hL hR (zenv_mk f0 ⟨by show 2147483737 ≤ _; omega, by show _ ≤ 2147483741; omega⟩ f2 f3 f4 f5) zh16_8
  rcases Nat.lt_or_ge (zB (zρ X 1)) 2147483747 with g9 | g9
  · exact zgoE hC hL hR (zenv_mk f0 ⟨by show 2147483742 ≤ _; omega, by show _ ≤ 2147483746; omega⟩ f2 f3 f4 f5) zh16_9
  exact zgoE hC hL hR (zenv_mk f0 ⟨by show 2147483747 ≤ _; omega, by show _ ≤ 4294967295; omega⟩ f2 f3 f4 f5) zh16_10
theorem zcase38 (hC : zLc X p s mt meth c) (hL : zLn X = 6) (hR : zRl X s 4 (1000, 600000, 7302250) (88, ze0) [799995, 3, 595, 0] [304] (1000, 88, 23815) zM0 H locs lsA stA) :
    W p l e room_1 s mt #[Value.ref b] below meth c H locs 88 23815 (lw_Z below #[Value.ref b] s) (F0 mt 33 lsA stA) := by
  have f0 := zfull (zρ X 0)
  have f1 := zfull (zρ X 1)
  have f2 := zfull (zρ X 2)
  have f3 := zfull (zρ X 3)
  have f4 := zfull (zρ X 4)
  have f5 := zfull (zρ X 5)
  rcases Nat.lt_or_ge (zB (zρ X 1)) 2147483685 with g0 | g0
  · exact zgoE hC hL hR (zenv_mk f0 ⟨by show 0 ≤ _; omega, by show _ ≤ 2147483684; omega⟩ f2 f3 f4 f5) zh38_0
  rcases Nat.lt_or_ge (zB (zρ X 1)) 2147483701 with g1 | g1
  · exact zgoE hC hL hR (zenv_mk f0 ⟨by show 2147483685 ≤ _; omega, by show _ ≤ 2147483700; omega⟩ f2 f3 f4 f5) zh38_1
  exact zgoE hC hL hR (zenv_mk f0 ⟨by show 2147483701 ≤ _; omega, by show _ ≤ 4294967295; omega⟩ f2 f3 f4 f5) zh38_2
theorem zcase39 (hC : zLc X p s mt meth c) (hL : zLn X = 6) (hR : zRl X s 4 (1000, 600000, 7302250) (88, ze0) [799995, 3, 595, 0] [312] (1000, 88, 23815) zM0 H locs lsA stA) :
    W p l e room_1 s mt #[Value.ref b] below meth c H locs 88 23815 (lw_Z below #[Value.ref b] s) (F0 mt 33 lsA stA) := by
  have f0 := zfull (zρ X 0)
  have f1 := zfull (zρ X 1)
  have f2 := zfull (zρ X 2)
  have f3 := zfull (zρ X 3)
  have f4 := zfull (zρ X 4)
  have f5 := zfull (zρ X 5)
  rcases Nat.lt_or_ge (zB (zρ X 1)) 2147483668 with g0 | g0
  · exact zgoE hC hL hR (zenv_mk f0 ⟨by show 0 ≤ _; omega, by show _ ≤ 2147483667; omega⟩ f2 f3 f4 f5) zh39_0
  rcases Nat.lt_or_ge (zB (zρ X 1)) 2147483677 with g1 | g1
  · exact zgoE hC hL hR (zenv_mk f0 ⟨by show 2147483668 ≤ _; omega, by show _ ≤ 2147483676; omega⟩ f2 f3 f4 f5) zh39_1
  rcases Nat.lt_or_ge (zB (zρ X 1)) 2147483684 with g2 | g2
  · exact zgoE hC hL hR (zenv_mk f0 ⟨by show 2147483677 ≤ _; omega, by show _ ≤ 2147483683; omega⟩ f2 f3 f4 f5) zh39_2
  rcases Nat.lt_or_ge (zB (zρ X 1)) 2147483690 with g3 | g3
  · exact zgoE hC hL hR (zenv_mk f0 ⟨by show 2147483684 ≤ _; omega, by show _ ≤ 2147483689; omega⟩ f2 f3 f4 f5) zh39_3
  rcases Nat.lt_or_ge (zB (zρ X 1)) 2147483695 with g4 | g4
  · exact zgoE hC hL hR (zenv_mk f0 ⟨by show 2147483690 ≤ _; omega, by show _ ≤ 2147483694; omega⟩ f2 f3 f4 f5) zh39_4
  rcases Nat.lt_or_ge (zB (zρ X 1)) 2147483699 with g5 | g5
  · exact zgoE hC hL hR (zenv_mk f0 ⟨by show 2147483695 ≤ _; omega, by show _ ≤ 2147483698; omega⟩ f2 f3 f4 f5) zh39_5
  rcases Nat.lt_or_ge (zB (zρ X 1)) 2147483703 with g6 | g6
  · exact zgoE hC hL hR (zenv_mk f0 ⟨by show 2147483699 ≤ _; omega, by show _ ≤ 2147483702; omega⟩ f2 f3 f4 f5) zh39_6
  rcases Nat.lt_or_ge (zB (zρ X 1)) 2147483706 with g7 | g7
  · exact zgoE hC hL hR (zenv_mk f0 ⟨by show 2147483703 ≤ _; omega, by show _ ≤ 2147483705; omega⟩ f2 f3 f4 f5) zh39_7
  rcases Nat.lt_or_ge (zB (zρ X 1)) 2147483709 with g8 | g8
  · exact zgoE hC hL hR (zenv_mk f0 ⟨by show 2147483706 ≤ _; omega, by show _ ≤ 2147483708; omega⟩ f2 f3 f4 f5) zh39_8
  rcases Nat.lt_or_ge (zB (zρ X 1)) 2147483712 with g9 | g9
  · exact zgoE hC hL hR (zenv_mk f0 ⟨by show 2147483709 ≤ _; omega, by show _ ≤ 2147483711; omega⟩ f2 f3 f4 f5) zh39_9
  exact zgoE hC hL hR (zenv_mk f0 ⟨by show 2147483712 ≤ _; omega, by show _ ≤ 4294967295; omega⟩ f2 f3 f4 f5) zh39_10
theorem zcase40 (hC : zLc X p s mt meth c) (hL : zLn X = 6) (hR : zRl X s 4 (1000, 600000, 7302250) (88, ze0) [799995, 3, 595, 0] [320] (1000, 88, 23815) zM0 H locs lsA stA) :
    W p l e room_1 s mt #[Value.ref b] below meth c H locs 88 23815 (lw_Z below #[Value.ref b] s) (F0 mt 33 lsA stA) := by
  have f0 := zfull (zρ X 0)
  have f1 := zfull (zρ X 1)
  have f2 := zfull (zρ X 2)
  have f3 := zfull (zρ X 3)
  have f4 := zfull (zρ X 4)
  have f5 := zfull (zρ X 5)
  rcases Nat.lt_or_ge (zB (zρ X 1)) 2147483677 with g0 | g0
  · exact zgoE hC hL hR (zenv_mk f0 ⟨by show 0 ≤ _; omega, by show _ ≤ 2147483676; omega⟩ f2 f3 f4 f5) zh40_0
  rcases Nat.lt_or_ge (zB (zρ X 1)) 2147483690 with g1 | g1
  · exact zgoE hC hL hR (zenv_mk f0 ⟨by show 2147483677 ≤ _; omega, by show _ ≤ 2147483689; omega⟩ f2 f3 f4 f5) zh40_1
  rcases Nat.lt_or_ge (zB (zρ X 1)) 2147483700 with g2 | g2
  · exact zgoE hC hL hR (zenv_mk f0 ⟨by show 2147483690 ≤ _; omega, by show _ ≤ 2147483699; omega⟩ f2 f3 f4 f5) zh40_2
  rcases Nat.lt_or_ge (zB (zρ X 1)) 2147483708 with g3 | g3
  · exact zgoE hC hL hR (zenv_mk f0 ⟨by show 2147483700 ≤ _; omega, by show _ ≤ 2147483707; omega⟩ f2 f3 f4 f5) zh40_3
  exact zgoE hC hL hR (zenv_mk f0 ⟨by show 2147483708 ≤ _; omega, by show _ ≤ 4294967295; omega⟩ f2 f3 f4 f5) zh40_4
theorem zsplit (hC : zLc X p s mt meth c) (hL6 : zLn X = 6) {u : Nat} (hu : u < 64) (hRu : zRl X s 4 (1000, 600000, 7302250) (88, ze0) [799995, 3, 595, 0] [8 * u] (1000, 88, 23815) zM0 H locs lsA stA) :
    W p l e room_1 s mt #[Value.ref b] below meth c H locs 88 23815 (lw_Z below #[Value.ref b] s) (F0 mt 33 lsA stA) := by
  rcases Nat.lt_or_ge u 45 with h45 | h45
  · match u, h45, hRu with
    | 0, hu, hRu => exact zgoE hC hL6 hRu (zenv0 _) zq0
    | 1, hu, hRu => exact zgoE hC hL6 hRu (zenv0 _) zq1
    | 2, hu, hRu => exact zgoE hC hL6 hRu (zenv0 _) zq2
    | 3, hu, hRu => exact zgoE hC hL6 hRu (zenv0 _) zq3
    | 4, hu, hRu => exact zgoE hC hL6 hRu (zenv0 _) zq4
    | 5, hu, hRu => exact zgoE hC hL6 hRu (zenv0 _) zq5
    | 6, hu, hRu => exact zgoE hC hL6 hRu (zenv0 _) zq6
    | 7, hu, hRu => exact zgoE hC hL6 hRu (zenv0 _) zq7
    | 8, hu, hRu => exact zgoE hC hL6 hRu (zenv0 _) zq8
    | 9, hu, hRu => exact zgoE hC hL6 hRu (zenv0 _) zq9
    | 10, hu, hRu => exact zgoE hC hL6 hRu (zenv0 _) zq10
    | 11, hu, hRu => exact zgoE hC hL6 hRu (zenv0 _) zq11
    | 12, hu, hRu => exact zgoE hC hL6 hRu (zenv0 _) zq12
    | 13, hu, hRu => exact zgoE hC hL6 hRu (zenv0 _) zq13
    | 14, hu, hRu => exact zgoE hC hL6 hRu (zenv0 _) zq14
    | 15, hu, hRu => exact zgoE hC hL6 hRu (zenv0 _) zq15
    | 16, hu, hRu => exact zcase16 hC hL6 hRu
    | 17, hu, hRu => exact zgoE hC hL6 hRu (zenv0 _) zq17
    | 18, hu, hRu => exact zgoE hC hL6 hRu (zenv0 _) zq18
    | 19, hu, hRu => exact zgoE hC hL6 hRu (zenv0 _) zq19
    | 20, hu, hRu => exact zgoE hC hL6 hRu (zenv0 _) zq20
    | 21, hu, hRu => exact zgoE hC hL6 hRu (zenv0 _) zq21
    | 22, hu, hRu => exact zcase22 hC hL6 hRu
    | 23, hu, hRu => exact zgoE hC hL6 hRu (zenv0 _) zq23
    | 24, hu, hRu => exact zgoE hC hL6 hRu (zenv0 _) zq24
    | 25, hu, hRu => exact zgoE hC hL6 hRu (zenv0 _) zq25
    | 26, hu, hRu => exact zgoE hC hL6 hRu (zenv0 _) zq26
    | 27, hu, hRu => exact zgoE hC hL6 hRu (zenv0 _) zq27
    | 28, hu, hRu => exact zgoE hC hL6 hRu (zenv0 _) zq28
    | 29, hu, hRu => exact zgoE hC hL6 hRu (zenv0 _) zq29
    | 30, hu, hRu => exact zgoE hC hL6 hRu (zenv0 _) zq30
    | 31, hu, hRu => exact zgoE hC hL6 hRu (zenv0 _) zq31
    | 32, hu, hRu => exact zgoE hC hL6 hRu (zenv0 _) zq32
    | 33, hu, hRu => exact zgoE hC hL6 hRu (zenv0 _) zq33
    | 34, hu, hRu => exact zgoE hC hL6 hRu (zenv0 _) zq34
    | 35, hu, hRu => exact zgoE hC hL6 hRu (zenv0 _) zq35
    | 36, hu, hRu => exact zgoE hC hL6 hRu (zenv0 _) zq36
    | 37, hu, hRu => exact zgoE hC hL6 hRu (zenv0 _) zq37
    | 38, hu, hRu => exact zcase38 hC hL6 hRu
    | 39, hu, hRu => exact zcase39 hC hL6 hRu
    | 40, hu, hRu => exact zcase40 hC hL6 hRu
    | 41, hu, hRu => exact zgoE hC hL6 hRu (zenv0 _) zq41
    | 42, hu, hRu => exact zgoE hC hL6 hRu (zenv0 _) zq42
    | 43, hu, hRu => exact zgoE hC hL6 hRu (zenv0 _) zq43
    | 44, hu, hRu => exact zgoE hC hL6 hRu (zenv0 _) zq44
    | n + 45, hu, _ => exact absurd hu (by omega)
  · obtain ⟨i, rfl⟩ : ∃ i, u = 45 + i := ⟨u - 45, by omega⟩
    exact zgoE hC hL6 hRu (zenv0 _) (zq45 i (by omega))
end ZE
/-- from the entry, for every script of at most 6 ints, the law comes to its end with true -/
theorem whole_start {p : Program} {e : Env} {s : State} {m : MethodId} {below : List Frame} {meth : Method} {c : Code} (l : Launch) (hflags : l.flags = flags0) {b L : Nat} {xs : Nat → Int32} (hL : L ≤ 6) (C0 : lw_At p s m meth c b L xs) : W p l e room_1 s m #[Value.ref b] below meth c s.heap [] 0 0 (lw_Z below #[Value.ref b] s) (entryFrame m ([Value.ref b] : List Value).toArray 4) := by
  obtain ⟨X, lsA, hLn, hρ, hC, hen, hR⟩ := zentry hL C0
  rw [hen]
  rcases Nat.lt_or_ge L 6 with h | h
  · exact zrun0 (q := (1000, 0, 0)) (n := 20000) hC (by rw [hLn]; exact zev0 L h) hR
  · have hL6 : zLn X = 6 := by omega
    refine zrun (q := (1000, 0, 0)) (stop := zst33) zst33_no (n := 20000) hC (by rw [hL6]; exact zev6) hR (fun w pc ls st q m2 H locs lsB stA hs hR2 => ?_)
    obtain ⟨rfl, rfl, rfl, rfl, rfl, rfl⟩ := zst33_iff hs
    obtain ⟨xv, stB, rfl, hv, hS⟩ := zSt_c hR2.2.2.2.2.1
    have e0 := zSt_n hS
    subst e0
    obtain ⟨x, rfl, h1, h2⟩ := zv_2 hv (by decide)
    have h1 : 2147483648 ≤ zB x := h1
    have h2 : zB x ≤ 2147483711 := h2
    obtain ⟨u, hu⟩ : ∃ u, zB x = 2147483648 + u := ⟨zB x - 2147483648, by omega⟩
    have ex := zB_nI hu (by omega)
    subst ex
    exact zsplit hC hL6 (u := u) (by omega) ⟨hR2.1, hR2.2.1, hR2.2.2.1, hR2.2.2.2.1, ⟨zv_mk rfl, trivial⟩, hR2.2.2.2.2.2⟩
set_option maxHeartbeats 4000000 in
theorem lw_walk (l : Launch) (hflags : l.flags = flags0) (b : Addr) (xs : List Int32) : MetFree l x (headSpec (Jvm.Cond.code x code maxLocals ret :: tables_1) room_1) (lw_P b xs) (fun _ _ _ _ _ => True) lw_Q := by
  refine MetFree.of_bodyS (code := code) (maxLocals := maxLocals) (ret := ret) (by decide) ?_ ?_
  · intro args s m h hn
    obtain ⟨meth, c, h1, h2, h3, h4, h5, h6, -, -⟩ := Cond.code_spec hn (atoms_spec (ws := Jvm.Cond.code x code maxLocals ret :: tables_1) h _ List.mem_cons_self)
    exact ⟨meth, c, h1, h2, h3, h4, h5, h6⟩
  · intro p e s m args below meth c s₁ B hml0 hP _
    obtain ⟨rfl, hx, hbd, hgv⟩ := hP
    obtain ⟨scr, harrAt, hlist, hof, hsmall⟩ := hx
    obtain ⟨hcb, hkn, -, -⟩ := State.arrayAt?_spec harrAt
    have hown : s.vm.findClass R_law = some m.cls := findClass_of_methodNamed B.named
    have hts0 : ∀ c ∈ (Jvm.Cond.code x code maxLocals ret :: tables_1), c.before #[Value.ref b] s = true := atoms_spec (ws := Jvm.Cond.code x code maxLocals ret :: tables_1) B.pre
    have hts : ∀ w ∈ lw_tbl, w.before #[Value.ref b] s = true := k2_hts_sels lw_privs (fun w hw => hts0 w (List.mem_cons_of_mem _ hw)) lw_privs_ok
    have hml : c.maxLocals = 4 := B.maxLocals_eq (hts0 _ List.mem_cons_self)
    have X₀ : Stand p l e room_1 s m #[Value.ref b] below meth c s₁ [] 0 0 := Stand.of_body B
    have hh0 : s₁.heap = s.heap := by rw [B.state]; rfl
    have hsz : scr.slots.size = xs.length := by rw [← Array.length_toList, hlist, List.length_map]
    have hval : ∀ j : Nat, j < xs.length → scr.slots[j]? = some (.int (xs.getD j 0)) := fun j hj => by
      rw [← Array.getElem?_toList, hlist]
      simp [hj]
    have hbl : b < s.heap.size := (Array.getElem?_eq_some_iff.mp hcb).1
    have hX : va_X b xs.length (fun j => xs.getD j 0) s s.heap := ⟨scr, hcb, hof, hkn, hsz, hval⟩
    have K : W p l e room_1 s m #[Value.ref b] below meth c s₁.heap [] 0 0 (lw_Z below #[Value.ref b] s) (entryFrame m ([Value.ref b] : List Value).toArray 4) := by
      rw [hh0]
      exact whole_start l hflags hbd ⟨B.exec, B.bytes, B.returns, hml, hown, hts, hX, hbl, B.notSynchronized, hgv⟩
    obtain ⟨t, a1, o, b1, b2, b3⟩ := K s₁ rfl X₀
    exact ⟨t, o, a1, b1, b2, b3⟩
theorem lw_pre_spec {args : Array Value} {s : State} (h : (Jvm.Cond.and given_1 narrow_1).before args s = true) (hr : rest_1_c.before args s = true) : ∃ (b : Addr) (xs : List Int32), lw_P b xs args s := by
  have hs := flat_of_before _ h
  have hq := flat_of_before _ hr
  have hc : (Cond.count 1).before args s = true := hs _ (by decide +kernel)
  have harr : (Cond.arrayOf (.arg 0) .int).before args s = true := hs _ (by decide +kernel)
  have hle : (Cond.le (.length (.arg 0)) (.int 6)).before args s = true := hs _ (by decide +kernel)
  have hlen : (Cond.isInt (.length (.arg 0))).before args s = true := hq _ (by decide +kernel)
  have hall : (Cond.all (.arg 0) (.isInt (.elem (.arg 0) (.index 0)))).before args s = true := hq _ (by decide +kernel)
  obtain ⟨b, xs, hb, hx⟩ := State.ints_of_pre rfl harr hlen hall
  have hsm : xs.length < 2 ^ 31 := hx.choose_spec.2.2.2
  have hev : (Term.length (.arg 0)).eval args s none [] s = some (.int xs.length.toInt32) := hx.length_eval hb
  have hv := Cond.le_ints hev (show (Term.int 6).eval args s none [] s = some (.int 6) from rfl)
  have hd : xs.length.toInt32 ≤ 6 := by
    simpa [Cond.before, Cond.holds, hv] using hle
  have hN : xs.length ≤ 6 := (Int32.ofNat_le_ofNat hsm (by decide)).mp (show Int32.ofNat xs.length ≤ Int32.ofNat 6 from hd)
  exact ⟨b, xs, Cond.one_arg hc (show args[0]? = some (.ref b) from hb), hx, hN, h⟩
theorem lw_comes (l : Launch) (hflags : l.flags = flags0) : Comes l x (Jvm.Cond.code x code maxLocals ret :: tables_1) room_1 (fun tb e args s => Calls_1 tb e args s ∧ rest_1 tb e args s ∧ Pre_1 tb e args s)
    (fun _ _ args s o t => lw_Q args s o t) := by
  intro p e ha hc hk s m args below hf hfit hheap happ hpre
  obtain ⟨b, xs, hP⟩ := lw_pre_spec hpre.2.2 hpre.2.1
  obtain ⟨k, o, h1, h2, h3, hQ⟩ := lw_walk l hflags b xs p e ha hc hk s m args below hf ((Spec.applies_iff_loose hf).mp happ).1 hP trivial
  exact ⟨k, o, h1, h2, h3, hQ⟩
theorem lw_frame {s t : State} {o : Outcome} {args : Array Value} (h : Framed s o t [] 600000 7302250) :
    Framed s o t (fieldLocs frame_1_writes args s ++ arrayLocs frame_1_arrays args s ++ staticLocs frame_1_statics s) 600000 7302250 := h
theorem lw_limb (L : Cond) (hL : ∀ (args : Array Value) (s t : State), L.after args s (.returned (some (.int 1))) t = true) :
    ArmFor flags0 classFile x code maxLocals ret World_1 tables_1 room_1 Calls_1 rest_1 Pre_1
      (fun tb e a s o t => postC L tb e a s o t ∧ Framed s o t (fieldLocs frame_1_writes a s ++ arrayLocs frame_1_arrays a s ++ staticLocs frame_1_statics s) 600000 7302250) := by
  intro l hflags _ _ p e ha hc hk s m args below hf hfit hheap happ hpre
  obtain ⟨k, o, h1, h2, h3, rfl, hF⟩ := lw_comes l hflags p e ha hc hk s m args below hf hfit hheap happ hpre
  exact ⟨k, _, h1, h2, h3, hL args s _, lw_frame hF⟩
theorem i_vc : Claimed_1_1 ∧ Claimed_1_2 := ⟨lw_limb limb_1_1 (fun args s t => by simp [limb_1_1, Cond.after, Cond.holds, Cond.value]), lw_limb limb_1_2 (fun args s t => Cond.after_iff.mpr (by
  first | (rw [show limb_1_2 = Cond.eq .result (.int 1) from rfl, Cond.eq_ints (x := 1) (y := 1) rfl rfl]; simp; done) | (simp [limb_1_2, Cond.value, Term.eval]; done)))⟩
