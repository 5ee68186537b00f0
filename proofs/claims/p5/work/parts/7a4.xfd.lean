/-! TWO CONTRACTS OF ONE METHOD HOLD TOGETHER -/
theorem zEnd_w {s : State} {below : List Frame} {o : Outcome} (h : Ended s below o) : ¬ Within s below := by
  rintro ⟨above, h1, h2, h3⟩
  have len : ∀ {f g : Frame} {r : List Frame}, s.frames = f :: r → s.frames = above ++ g :: r → False := by
    intro f g r e1 e2
    rw [e1] at e2
    have := congrArg List.length e2
    rw [List.length_cons, List.length_append, List.length_cons] at this
    exact h2 (List.eq_nil_of_length_eq_zero (by omega))
  cases o with
  | threw a =>
    have h : s.frames = .throwing a :: below := h
    rw [h] at h1
    have hl := congrArg List.length h1
    rw [List.length_cons, List.length_append] at hl
    obtain ⟨b, hb⟩ : ∃ b, above = [b] := List.length_eq_one_iff.mp (by omega)
    rw [hb] at h1
    have h4 := (List.cons.inj h1).1
    exact h3 a (by rw [hb, h4])
  | returned v =>
    cases below with
    | nil =>
      obtain ⟨-, e⟩ := (show v = none ∧ s.frames = [] from h)
      rw [e] at h1
      have := congrArg List.length h1
      rw [List.length_append] at this
      exact h2 (List.eq_nil_of_length_eq_zero (by simpa using this.symm))
    | cons f r =>
      cases f with
      | java g =>
        obtain ⟨c, i, le, -, -, e⟩ := h
        exact len e h1
      | native g => exact len h h1
      | proc g => exact len h h1
      | _ =>
        obtain ⟨-, e⟩ := h
        rw [e] at h1
        have := congrArg List.length h1
        rw [List.length_append] at this
        exact h2 (List.eq_nil_of_length_eq_zero (by omega))
theorem zEnd_u {s : State} {below : List Frame} {v1 v2 : Option Value} (h1 : Ended s below (.returned v1)) (h2 : Ended s below (.returned v2)) : v1 = v2 := by
  have tl : ∀ {a b : Option Value} {l : List Value}, a.toList ++ l = b.toList ++ l → a = b := by
    intro a b l e
    have e := List.append_cancel_right e
    cases a <;> cases b <;> first | rfl | cases e | skip
    all_goals first | rfl | (cases e; rfl)
  cases below with
  | nil =>
    have e1 : v1 = none := h1.1
    have e2 : v2 = none := h2.1
    rw [e1, e2]
  | cons f r =>
    cases f with
    | java g =>
      obtain ⟨c1, i1, l1, -, -, e1⟩ := h1
      obtain ⟨c2, i2, l2, -, -, e2⟩ := h2
      rw [e1] at e2
      have e3 := (List.cons.inj e2).1
      have e4 := congrArg JFrame.stack (Frame.java.inj e3)
      exact tl e4
    | native g =>
      have h1 : s.frames = _ := h1
      have h2 : s.frames = _ := h2
      rw [h1] at h2
      have e3 := (List.cons.inj h2).1
      have e4 := congrArg NFrame.answer (Frame.native.inj e3)
      exact Outcome.returned.inj (Option.some.inj e4)
    | proc g =>
      have h1 : s.frames = _ := h1
      have h2 : s.frames = _ := h2
      rw [h1] at h2
      have e3 := (List.cons.inj h2).1
      have e4 := congrArg PFrame.answer (Frame.proc.inj e3)
      exact Outcome.returned.inj (Option.some.inj e4)
    | _ =>
      have e1 : v1 = none := h1.1
      have e2 : v2 = none := h2.1
      rw [e1, e2]
theorem zMet_and {l : Launch} {y : MethodName} {ws : List Cond} {rm : Room} {P1 P2 : Array Value → State → Prop} {Q1 Q2 : Array Value → State → Outcome → State → Prop} {mc ms : Nat} {free : Addr → Prop} (h1 : Met l y ws rm P1 Q1 mc ms free) (h2 : Met l y ws rm P2 Q2 mc ms free) (hr1 : ∀ a s o t, Q1 a s o t → ∃ v, o = .returned v) (hr2 : ∀ a s o t, Q2 a s o t → ∃ v, o = .returned v) : Met l y ws rm (fun a s => P1 a s ∧ P2 a s) (fun a s o t => Q1 a s o t ∧ Q2 a s o t) mc ms free := by
  intro p e ha hc hk s m args below hf happ hP hK
  obtain ⟨n1, o1, a1, b1, c1, d1⟩ := h1 p e ha hc hk s m args below hf happ hP.1 hK
  obtain ⟨n2, o2, a2, b2, c2, d2⟩ := h2 p e ha hc hk s m args below hf happ hP.2 hK
  have en : n1 = n2 := by
    rcases Nat.lt_trichotomy n1 n2 with q | q | q
    · exact absurd (a2 n1 q) (zEnd_w c1)
    · exact q
    · exact absurd (a1 n2 q) (zEnd_w c2)
  subst en
  obtain ⟨v1, rfl⟩ := hr1 _ _ _ _ d1.1
  obtain ⟨v2, rfl⟩ := hr2 _ _ _ _ d2.1
  have ev := zEnd_u c1 c2
  subst ev
  exact ⟨n1, _, a1, b1, c1, ⟨d1.1, d2.1⟩, d1.2⟩
theorem zRoom_le {s : State} {pl : Platform} {r1 r2 : Room} (h : s.hasRoom pl r2 = true) (h1 : r1.frames ≤ r2.frames) (h2 : r1.cells ≤ r2.cells) (h3 : r1.slots ≤ r2.slots) (h4 : r1.locals ≤ r2.locals) : s.hasRoom pl r1 = true := by
  unfold State.hasRoom at h ⊢
  simp only [Bool.and_eq_true, decide_eq_true_eq] at h ⊢
  obtain ⟨⟨⟨⟨a1, a2, a3, a4, a5, a6⟩, a7⟩, a8⟩, a9⟩ := h
  refine ⟨⟨⟨⟨?_, ?_, ?_, ?_, ?_, a6⟩, ?_⟩, ?_⟩, a9⟩ <;> omega
theorem zMet_room {l : Launch} {y : MethodName} {ws : List Cond} {r1 r2 : Room} {P : Array Value → State → Prop} {Q : Array Value → State → Outcome → State → Prop} {mc ms : Nat} {free : Addr → Prop} (h : Met l y ws r1 P Q mc ms free) (h1 : r1.frames ≤ r2.frames) (h2 : r1.cells ≤ r2.cells) (h3 : r1.slots ≤ r2.slots) (h4 : r1.locals ≤ r2.locals) : Met l y ws r2 P Q mc ms free := by
  intro p e ha hc hk s m args below hf happ hP hK
  refine h p e ha hc hk s m args below hf ?_ hP hK
  unfold Spec.appliesLoose at happ ⊢
  rw [hf] at happ ⊢
  simp only [Bool.and_eq_true] at happ ⊢
  exact ⟨⟨happ.1.1, zRoom_le happ.1.2 h1 h2 h3 h4⟩, happ.2⟩
