/-! THE MACHINE's STEPS, op by op: 'the rest goes well' gives 'this goes well' -/
def zRl (X : zCx) (s : State) (nL : Nat) (d : Nat × Nat × Nat) (w : zW) (ls st : List Nat) (q : zQ) (m : zM) (H : Heap) (locs : List Loc) (lsA : Array Slot) (stA : List Value) : Prop :=
  zEnv (zρ X) w.2 ∧ zMem X s w.1 m H ∧ (∀ x ∈ locs, zbs X ≤ x.base) ∧ zLs X nL ls lsA ∧ zSt X st stA ∧ q.1 = d.1 ∧ q.2.1 ≤ d.2.1 ∧ q.2.2 ≤ d.2.2
def zKS (p : Program) (l : Launch) (e : Env) (R : Room) (s : State) (mt : MethodId) (args : Array Value) (below : List Frame) (meth : Method) (c : Code) (Q : State → Prop) (X : zCx) (cf : Nat → zT) (y : zY) (fs : List zFr) (nL : Nat) (d : Nat × Nat × Nat) (k : zK) : Prop :=
  ∀ (w : zW) (pc : Nat) (ls st : List Nat) (q : zQ) (m : zM) (H : Heap) (locs : List Loc) (lsA : Array Slot) (stA : List Value), k w cf y pc ls st q fs m = true → zRl X s nL d w ls st q m H locs lsA stA → W p l e R s mt args below meth c H locs q.2.1 q.2.2 Q (F0 mt pc lsA stA)
section ZR
variable {p : Program} {l : Launch} {e : Env} {R : Room} {s : State} {mt : MethodId} {args : Array Value} {below : List Frame} {meth : Method} {c : Code} {Q : State → Prop} {X : zCx} {cf : Nat → zT} {y : zY} {fs : List zFr} {nL : Nat} {d : Nat × Nat × Nat} {k : zK}
variable {w : zW} {pc nx ax : Nat} {ls st : List Nat} {q : zQ} {m : zM} {H : Heap} {locs : List Loc} {lsA : Array Slot} {stA : List Value}
theorem zgo (hKS : zKS p l e R s mt args below meth c Q X cf y fs nL d k) {w2 : zW} {pc2 : Nat} {st2 : List Nat} {stB : List Value} (h : k w2 cf y pc2 ls st2 q fs m = true) (hR : zRl X s nL d w ls st q m H locs lsA stA) (e1 : w2.1 = w.1) (hE : zEnv (zρ X) w2.2) (h2 : zSt X st2 stB) : W p l e R s mt args below meth c H locs q.2.1 q.2.2 Q (F0 mt pc2 lsA stB) :=
  hKS _ _ _ _ _ _ _ _ _ _ h ⟨hE, by rw [e1]; exact hR.2.1, hR.2.2.1, hR.2.2.2.1, h2, hR.2.2.2.2.2⟩
theorem zw_push {v : Nat} {x : Value} (hKS : zKS p l e R s mt args below meth c Q X cf y fs nL d k) (h : zo_push v nx ax k w cf y pc ls st q fs m = true) (hR : zRl X s nL d w ls st q m H locs lsA stA) (hv : zV X v x)
    (row : W p l e R s mt args below meth c H locs q.2.1 q.2.2 Q (F0 mt nx lsA (x :: stA)) → W p l e R s mt args below meth c H locs q.2.1 q.2.2 Q (F0 mt pc lsA stA)) : W p l e R s mt args below meth c H locs q.2.1 q.2.2 Q (F0 mt pc lsA stA) :=
  row (zgo hKS (st2 := v :: st) h hR rfl hR.1 ⟨hv, hR.2.2.2.2.1⟩)
theorem zkd_iff {g v : Nat} (h : zkd g v = true) : (g = 0 → v % 8 ≤ 2) ∧ (g = 1 → v % 8 = 4) ∧ (g = 2 → v % 8 = 3) ∧ ¬ v = 13 := by
  unfold zkd at h
  simp only [zn_m] at h
  rcases zif_iff h with ⟨h1, h2⟩ | ⟨h1, h2⟩
  · have e := zbeqT h1
    have g2 := zbleT h2
    exact ⟨fun _ => g2, fun q => by omega, fun q => by omega, by omega⟩
  rcases zif_iff h2 with ⟨h3, h4⟩ | ⟨h3, h4⟩
  · have e := zbeqT h3
    have g2 := zbeqT h4
    exact ⟨fun q => by omega, fun _ => g2, fun q => by omega, by omega⟩
  · have e := zbeqF h1
    have e2 := zbeqF h3
    have g2 := zbeqT h4
    exact ⟨fun q => absurd q e, fun q => absurd q e2, fun _ => g2, by omega⟩
theorem zw_load {g i : Nat} (hKS : zKS p l e R s mt args below meth c Q X cf y fs nL d k) (h : zo_load g i nx ax k w cf y pc ls st q fs m = true) (hR : zRl X s nL d w ls st q m H locs lsA stA)
    (row : ∀ x : Value, lsA[i]? = some (.val x) → (g = 0 → ∃ n, x = .int n) → (g = 1 → ∃ n, x = .long n) → (g = 2 → ∃ a, x = .ref a) → W p l e R s mt args below meth c H locs q.2.1 q.2.2 Q (F0 mt nx lsA (x :: stA)) → W p l e R s mt args below meth c H locs q.2.1 q.2.2 Q (F0 mt pc lsA stA)) : W p l e R s mt args below meth c H locs q.2.1 q.2.2 Q (F0 mt pc lsA stA) := by
  unfold zo_load at h
  obtain ⟨v, hv, h2⟩ := znth_iff h
  rcases zif_iff h2 with ⟨h3, h4⟩ | ⟨-, h4⟩
  · obtain ⟨k0, k1, k2, k3⟩ := zkd_iff h3
    obtain ⟨x, hx, hz⟩ := hR.2.2.2.1.2.2.2 i v hv k3
    exact row x hx (fun q => zv_int hz (k0 q)) (fun q => ⟨_, zv_4 hz (k1 q)⟩) (fun q => ⟨_, zv_3 hz (k2 q)⟩) (zgo hKS h4 hR rfl hR.1 ⟨hz, hR.2.2.2.2.1⟩)
  · cases h4
theorem zlow_iff {i : Nat} {b : Bool} (h : zlow ls i b = true) : b = true ∧ ∀ j c, j + 1 = i → ls[j]? = some c → ¬ c % 8 = 4 := by
  cases i with
  | zero => exact ⟨h, fun j c q => by omega⟩
  | succ i =>
    have h' : znth (fun v => zif (Nat.beq (Nat.mod v 8) 4) false b) ls i = true := h
    obtain ⟨v, hv, h2⟩ := znth_iff h'
    rcases zif_iff h2 with ⟨-, h4⟩ | ⟨h3, h4⟩
    · cases h4
    · refine ⟨h4, fun j c q hc => ?_⟩
      have : j = i := by omega
      subst this
      rw [hv] at hc
      cases hc
      exact zbeqF h3
theorem zw_store {g i : Nat} (hg : ¬ g = 1) (hKS : zKS p l e R s mt args below meth c Q X cf y fs nL d k) (h : zo_store g i nx ax k w cf y pc ls st q fs m = true) (hR : zRl X s nL d w ls st q m H locs lsA stA)
    (row : ∀ (x : Value) (r : List Value), stA = x :: r → i < nL → (g = 0 → ∃ n, x = .int n) → (g = 2 → ∃ a, x = .ref a) → (∀ lsB, lv_has lsB nL ((i, x) :: (zlv lsA).filter (fun q => !(q.1 == i) && !(q.1 + 1 == i && q.2.category == 2))) → W p l e R s mt args below meth c H locs q.2.1 q.2.2 Q (F0 mt nx lsB r)) → W p l e R s mt args below meth c H locs q.2.1 q.2.2 Q (F0 mt pc lsA stA)) : W p l e R s mt args below meth c H locs q.2.1 q.2.2 Q (F0 mt pc lsA stA) := by
  unfold zo_store at h
  obtain ⟨v, r, rfl, h2⟩ := zpop_iff h
  rcases zif_iff h2 with ⟨h3, h4⟩ | ⟨-, h4⟩
  · obtain ⟨k0, k1, k2, k3⟩ := zkd_iff h3
    obtain ⟨h5, hlow⟩ := zlow_iff h4
    rcases zif_iff h5 with ⟨h6, -⟩ | ⟨-, h7⟩
    · exact absurd (zbeqT h6) hg
    · obtain ⟨o, ho, h8⟩ := zupd_iff h7
      obtain ⟨hE, hM, hL, hLs, hS, hd⟩ := hR
      obtain ⟨x, t, rfl, hz, hS2⟩ := zSt_c hS
      have hi : i < nL := by rw [← hLs.1]; exact (List.getElem?_eq_some_iff.mp ho).1
      refine row x t rfl hi (fun q => zv_int hz (k0 q)) (fun q => ⟨_, zv_3 hz (k2 q)⟩) (fun lsB hB => ?_)
      exact hKS _ _ _ _ _ _ _ _ _ _ h8 ⟨hE, hM, hL, zLs_1 hLs hz hlow hB, hS2, hd⟩
  · cases h4
theorem zw_storeL {i : Nat} (hKS : zKS p l e R s mt args below meth c Q X cf y fs nL d k) (h : zo_store 1 i nx ax k w cf y pc ls st q fs m = true) (hR : zRl X s nL d w ls st q m H locs lsA stA)
    (row : ∀ (x : Int64) (r : List Value), stA = .long x :: r → i + 1 < nL → (∀ lsB, lv_has lsB nL ((i, .long x) :: (zlv lsA).filter (fun q => !(q.1 == i) && (!(q.1 == i + 1) && !(q.1 + 1 == i && q.2.category == 2)))) → W p l e R s mt args below meth c H locs q.2.1 q.2.2 Q (F0 mt nx lsB r)) → W p l e R s mt args below meth c H locs q.2.1 q.2.2 Q (F0 mt pc lsA stA)) : W p l e R s mt args below meth c H locs q.2.1 q.2.2 Q (F0 mt pc lsA stA) := by
  unfold zo_store at h
  obtain ⟨v, r, rfl, h2⟩ := zpop_iff h
  rcases zif_iff h2 with ⟨h3, h4⟩ | ⟨-, h4⟩
  · obtain ⟨k0, k1, k2, k3⟩ := zkd_iff h3
    obtain ⟨h5, hlow⟩ := zlow_iff h4
    rcases zif_iff h5 with ⟨-, h7⟩ | ⟨h6, -⟩
    · obtain ⟨o, ho, h8⟩ := zupd_iff h7
      obtain ⟨o2, ho2, h9⟩ := zupd_iff h8
      obtain ⟨hE, hM, hL, hLs, hS, hd⟩ := hR
      obtain ⟨x, t, rfl, hz, hS2⟩ := zSt_c hS
      have hz4 := zv_4 hz (k1 rfl)
      have hi : i + 1 < nL := by
        rw [← hLs.1]
        have h10 : i + 1 < (ls.set i v).length := (List.getElem?_eq_some_iff.mp ho2).1
        rwa [List.length_set] at h10
      rw [hz4] at hz
      refine row _ t (by rw [hz4]) hi (fun lsB hB => ?_)
      exact hKS _ _ _ _ _ _ _ _ _ _ h9 ⟨hE, hM, hL, zLs_2 hLs hz hlow hB, hS2, hd⟩
    · exact absurd rfl (zbeqF h6)
  · cases h4
theorem zw_iinc {i u : Nat} (hKS : zKS p l e R s mt args below meth c Q X cf y fs nL d k) (h : zo_iinc i u nx ax k w cf y pc ls st q fs m = true) (hR : zRl X s nL d w ls st q m H locs lsA stA)
    (row : ∀ (x : Int32), lsA[i]? = some (.val (.int x)) → i < nL → (∀ lsB, lv_has lsB nL ((i, .int (x + Int32.ofNat u)) :: (zlv lsA).filter (fun q => !(q.1 == i) && !(q.1 + 1 == i && q.2.category == 2))) → W p l e R s mt args below meth c H locs q.2.1 q.2.2 Q (F0 mt nx lsB stA)) → W p l e R s mt args below meth c H locs q.2.1 q.2.2 Q (F0 mt pc lsA stA)) : W p l e R s mt args below meth c H locs q.2.1 q.2.2 Q (F0 mt pc lsA stA) := by
  unfold zo_iinc at h
  simp only [zfr_eq, zn_m, zn_d, zn_a, zn_u] at h
  obtain ⟨v, hv, h2⟩ := znth_iff h
  obtain ⟨hE, hM, hL, hLs, hS, hd⟩ := hR
  have hi : i < nL := by rw [← hLs.1]; exact (List.getElem?_eq_some_iff.mp hv).1
  have fin : ∀ v2 : Nat, ¬ v = 13 → v % 8 ≤ 1 → (∀ x : Int32, zV X v (.int x) → zV X v2 (.int (x + Int32.ofNat u))) → zupd (fun _ k2 => k2 v2) ls i (fun l1 => k w cf y nx l1 st q fs m) = true → W p l e R s mt args below meth c H locs q.2.1 q.2.2 Q (F0 mt pc lsA stA) := by
    intro v2 hn h8 hx h5
    obtain ⟨o, ho, h6⟩ := zupd_iff h5
    obtain ⟨x', hx', hz⟩ := hLs.2.2.2 i v hv hn
    obtain ⟨x, rfl⟩ := zv_int hz (by omega)
    refine row x hx' hi (fun lsB hB => ?_)
    refine hKS _ _ _ _ _ _ _ _ _ _ h6 ⟨hE, hM, hL, zLs_1 hLs (hx x hz) (fun j c hj hc h4 => ?_) hB, hS, hd⟩
    obtain ⟨xj, hxj, hzj⟩ := hLs.2.2.2 j c hc (by omega)
    have hw := hLs.2.2.1.1 j xj hxj (by rw [zv_cat hzj, if_pos h4])
    rw [hj, hx'] at hw
    cases hw
  rcases zif_iff h2 with ⟨h3, h4⟩ | ⟨h3, h4⟩
  · have e8 := zbeqT h3
    refine fin _ (by omega) (by omega) (fun x hx => ?_) h4
    have e1 := Value.int.inj (zv_0 hx e8)
    rw [e1, ← zf_add_ok]
    exact zv_mk rfl
  rcases zif_iff h4 with ⟨h5, h6⟩ | ⟨h5, h6⟩
  · have e8 := zbeqT h5
    exact fin _ (by omega) (by omega) (fun x hx => zaff_ok e8 hx) h6
  · cases h6
theorem zw_bin {f : Nat → Nat → Nat} {g : Nat} {F : Int32 → Int32 → Int32} (hf : ∀ u v, Int32.ofNat (f u v) = F (Int32.ofNat u) (Int32.ofNat v)) (hg : zAbs g F) (hKS : zKS p l e R s mt args below meth c Q X cf y fs nL d k) (h : zo_bin f g nx ax k w cf y pc ls st q fs m = true) (hR : zRl X s nL d w ls st q m H locs lsA stA)
    (row : ∀ (x z : Int32) (r : List Value), stA = .int z :: .int x :: r → W p l e R s mt args below meth c H locs q.2.1 q.2.2 Q (F0 mt nx lsA (.int (F x z) :: r)) → W p l e R s mt args below meth c H locs q.2.1 q.2.2 Q (F0 mt pc lsA stA)) : W p l e R s mt args below meth c H locs q.2.1 q.2.2 Q (F0 mt pc lsA stA) := by
  unfold zo_bin at h
  simp only [zfr_eq, zn_m, zn_d, zn_u] at h
  obtain ⟨b, t, es, h'⟩ := zpop_iff h
  clear h
  have h := h'
  clear h'
  subst es
  obtain ⟨a, r, es, h'⟩ := zpop_iff h
  clear h
  have h := h'
  clear h'
  subst es
  obtain ⟨y', stB, rfl, hb, hS2⟩ := zSt_c hR.2.2.2.2.1
  obtain ⟨x', stC, rfl, ha, hS3⟩ := zSt_c hS2
  rcases zif_iff h with ⟨h1, h2⟩ | ⟨-, h2⟩
  · have e0 : (a ||| b) % 2 ^ 3 = 0 := zbeqT h1
    rw [Nat.or_mod_two_pow] at e0
    have e1 : a % 8 = 0 := by
      have := Nat.left_le_or (n := a % 2 ^ 3) (m := b % 2 ^ 3)
      omega
    have e2 : b % 8 = 0 := by
      have := Nat.right_le_or (n := a % 2 ^ 3) (m := b % 2 ^ 3)
      omega
    have ea := zv_0 ha e1
    have eb := zv_0 hb e2
    subst ea
    subst eb
    exact row _ _ stC rfl (zgo hKS h2 hR rfl hR.1 ⟨zv_mk (hf _ _), hS3⟩)
  · rcases zslow_iff (F := F) h2 hR.1 ha hb hf hg (fun q => by cases q) with ⟨w2, e1, E2, h3⟩ | ⟨x, z, v, rfl, rfl, -, hv, h3⟩
    · exact zgo hKS h3 hR e1 E2 hR.2.2.2.2.1
    · exact row _ _ stC rfl (zgo hKS h3 hR rfl hR.1 ⟨hv, hS3⟩)
theorem zw_div {f : Nat → Nat → Nat} {g : Nat} {F : Int32 → Int32 → Int32} (hf : ∀ u v, Int32.ofNat (f u v) = F (Int32.ofNat u) (Int32.ofNat v)) (hg : zAbs g F) (hg5 : g = 5 ∨ g = 0) (hKS : zKS p l e R s mt args below meth c Q X cf y fs nL d k) (h : zo_div f g nx ax k w cf y pc ls st q fs m = true) (hR : zRl X s nL d w ls st q m H locs lsA stA)
    (row : ∀ (x z : Int32) (r : List Value), stA = .int z :: .int x :: r → ¬ z = 0 → W p l e R s mt args below meth c H locs q.2.1 q.2.2 Q (F0 mt nx lsA (.int (F x z) :: r)) → W p l e R s mt args below meth c H locs q.2.1 q.2.2 Q (F0 mt pc lsA stA)) : W p l e R s mt args below meth c H locs q.2.1 q.2.2 Q (F0 mt pc lsA stA) := by
  unfold zo_div at h
  simp only [zfr_eq, zn_m, zn_d, zn_u] at h
  obtain ⟨b, t, es, h'⟩ := zpop_iff h
  clear h
  have h := h'
  clear h'
  subst es
  obtain ⟨a, r, es, h'⟩ := zpop_iff h
  clear h
  have h := h'
  clear h'
  subst es
  obtain ⟨y', stB, rfl, hb, hS2⟩ := zSt_c hR.2.2.2.2.1
  obtain ⟨x', stC, rfl, ha, hS3⟩ := zSt_c hS2
  rcases zif_iff h with ⟨h1, h2⟩ | ⟨-, h2⟩
  · obtain ⟨h1, h5⟩ := zand_iff h1
    have e0 : (a ||| b) % 2 ^ 3 = 0 := zbeqT h1
    rw [Nat.or_mod_two_pow] at e0
    have e1 : a % 8 = 0 := by
      have := Nat.left_le_or (n := a % 2 ^ 3) (m := b % 2 ^ 3)
      omega
    have e2 : b % 8 = 0 := by
      have := Nat.right_le_or (n := a % 2 ^ 3) (m := b % 2 ^ 3)
      omega
    have ea := zv_0 ha e1
    have eb := zv_0 hb e2
    subst ea
    subst eb
    refine row _ _ stC rfl (fun z => ?_) (zgo hKS h2 hR rfl hR.1 ⟨zv_mk (hf _ _), hS3⟩)
    have h6 := zbleT h5
    have e5 : (Int32.ofNat (b / 8)).toBitVec.toNat = (0 : Int32).toBitVec.toNat := by rw [z]
    rw [zN_of] at e5
    have e6 : (0 : Int32).toBitVec.toNat = 0 := by decide
    omega
  · rcases zslow_iff (F := F) h2 hR.1 ha hb hf hg (fun _ => hg5) with ⟨w2, e1, E2, h3⟩ | ⟨x, z, v, rfl, rfl, hz, hv, h3⟩
    · exact zgo hKS h3 hR e1 E2 hR.2.2.2.2.1
    · exact row _ _ stC rfl (hz rfl) (zgo hKS h3 hR rfl hR.1 ⟨hv, hS3⟩)
theorem zw_un {f : Nat → Nat} {g : Nat} {F : Int32 → Value} (hf : ∀ u, zV X (f u) (F (Int32.ofNat u))) (hg : g = 1 → ∀ x, ∃ z, F x = .int z) (hKS : zKS p l e R s mt args below meth c Q X cf y fs nL d k) (h : zo_un f g nx ax k w cf y pc ls st q fs m = true) (hR : zRl X s nL d w ls st q m H locs lsA stA)
    (row : ∀ (x : Int32) (r : List Value), stA = .int x :: r → W p l e R s mt args below meth c H locs q.2.1 q.2.2 Q (F0 mt nx lsA (F x :: r)) → W p l e R s mt args below meth c H locs q.2.1 q.2.2 Q (F0 mt pc lsA stA)) : W p l e R s mt args below meth c H locs q.2.1 q.2.2 Q (F0 mt pc lsA stA) := by
  unfold zo_un at h
  simp only [zfr_eq] at h
  obtain ⟨a, r, es, h'⟩ := zpop_iff h
  clear h
  have h := h'
  clear h'
  subst es
  obtain ⟨x', stB, rfl, ha, hS2⟩ := zSt_c hR.2.2.2.2.1
  rcases zhalf_iff h hR.1 ha with ⟨w2, e1, E2, h3⟩ | h
  · exact zgo hKS h3 hR e1 E2 hR.2.2.2.2.1
  rcases zkn_iff h hR.1 ha with ⟨u, rfl, h⟩ | h
  · exact row _ stB rfl (zgo hKS h hR rfl hR.1 ⟨hf u, hS2⟩)
  rcases zif_iff h with ⟨h1, h2⟩ | ⟨-, h2⟩
  · obtain ⟨x, lo, hi, rfl, -, -, h3⟩ := zbd_iff h2 hR.1 ha
    obtain ⟨z, hz⟩ := hg (zbeqT h1) x
    refine row x stB rfl ?_
    rw [hz]
    exact zgo hKS h3 hR rfl hR.1 ⟨zv_any z, hS2⟩
  · cases h2
theorem zw_lun {f : Nat → Nat} {F : Int64 → Value} (hf : ∀ u, zV X (f u) (F (Int64.ofNat u))) (hKS : zKS p l e R s mt args below meth c Q X cf y fs nL d k) (h : zo_lun f nx ax k w cf y pc ls st q fs m = true) (hR : zRl X s nL d w ls st q m H locs lsA stA)
    (row : ∀ (x : Int64) (r : List Value), stA = .long x :: r → W p l e R s mt args below meth c H locs q.2.1 q.2.2 Q (F0 mt nx lsA (F x :: r)) → W p l e R s mt args below meth c H locs q.2.1 q.2.2 Q (F0 mt pc lsA stA)) : W p l e R s mt args below meth c H locs q.2.1 q.2.2 Q (F0 mt pc lsA stA) := by
  unfold zo_lun at h
  simp only [zfr_eq, zn_m, zn_d] at h
  obtain ⟨a, r, es, h'⟩ := zpop_iff h
  clear h
  have h := h'
  clear h'
  subst es
  obtain ⟨x', stB, rfl, ha, hS2⟩ := zSt_c hR.2.2.2.2.1
  rcases zif_iff h with ⟨h1, h2⟩ | ⟨-, h2⟩
  · have e := zv_4 ha (zbeqT h1)
    subst e
    exact row _ stB rfl (zgo hKS h2 hR rfl hR.1 ⟨hf _, hS2⟩)
  · cases h2
theorem zw_lbin {f : Nat → Nat → Nat} {dv : Bool} {F : Int64 → Int64 → Value} (hf : ∀ u v, zV X (f u v) (F (Int64.ofNat u) (Int64.ofNat v))) (hKS : zKS p l e R s mt args below meth c Q X cf y fs nL d k) (h : zo_lbin dv f nx ax k w cf y pc ls st q fs m = true) (hR : zRl X s nL d w ls st q m H locs lsA stA)
    (row : ∀ (x z : Int64) (r : List Value), stA = .long z :: .long x :: r → (dv = true → ¬ z = 0) → W p l e R s mt args below meth c H locs q.2.1 q.2.2 Q (F0 mt nx lsA (F x z :: r)) → W p l e R s mt args below meth c H locs q.2.1 q.2.2 Q (F0 mt pc lsA stA)) : W p l e R s mt args below meth c H locs q.2.1 q.2.2 Q (F0 mt pc lsA stA) := by
  unfold zo_lbin at h
  simp only [zfr_eq, zn_m, zn_d] at h
  obtain ⟨b, t, es, h'⟩ := zpop_iff h
  clear h
  have h := h'
  clear h'
  subst es
  obtain ⟨a, r, es, h'⟩ := zpop_iff h
  clear h
  have h := h'
  clear h'
  subst es
  obtain ⟨y', stB, rfl, hb, hS2⟩ := zSt_c hR.2.2.2.2.1
  obtain ⟨x', stC, rfl, ha, hS3⟩ := zSt_c hS2
  rcases zif_iff h with ⟨h1, h2⟩ | ⟨-, h2⟩
  · obtain ⟨g1, g2⟩ := zand_iff h1
    have ea := zv_4 ha (zbeqT g1)
    have eb := zv_4 hb (zbeqT g2)
    subst ea
    subst eb
    rcases zif_iff h2 with ⟨-, h3⟩ | ⟨h4, h3⟩
    · cases h3
    · refine row _ _ stC rfl (fun z z0 => ?_) (zgo hKS h3 hR rfl hR.1 ⟨hf _ _, hS3⟩)
      rw [z] at h4
      have h5 : Nat.beq (b / 8 % 18446744073709551616) 0 = false := h4
      have e5 : (Int64.ofNat (b / 8)).toBitVec.toNat = (0 : Int64).toBitVec.toNat := by rw [z0]
      have e6 : (Int64.ofNat (b / 8)).toBitVec.toNat = b / 8 % 18446744073709551616 := by simp
      rw [e6] at e5
      exact zbeqF h5 e5
  · cases h2
theorem zw_lsh {f : Nat → Nat → Nat} {F : Int64 → Int32 → Value} (hf : ∀ u v, zV X (f u v) (F (Int64.ofNat u) (Int32.ofNat v))) (hKS : zKS p l e R s mt args below meth c Q X cf y fs nL d k) (h : zo_lsh f nx ax k w cf y pc ls st q fs m = true) (hR : zRl X s nL d w ls st q m H locs lsA stA)
    (row : ∀ (x : Int64) (z : Int32) (r : List Value), stA = .int z :: .long x :: r → W p l e R s mt args below meth c H locs q.2.1 q.2.2 Q (F0 mt nx lsA (F x z :: r)) → W p l e R s mt args below meth c H locs q.2.1 q.2.2 Q (F0 mt pc lsA stA)) : W p l e R s mt args below meth c H locs q.2.1 q.2.2 Q (F0 mt pc lsA stA) := by
  unfold zo_lsh at h
  simp only [zfr_eq, zn_m, zn_d] at h
  obtain ⟨b, t, es, h'⟩ := zpop_iff h
  clear h
  have h := h'
  clear h'
  subst es
  obtain ⟨a, r, es, h'⟩ := zpop_iff h
  clear h
  have h := h'
  clear h'
  subst es
  obtain ⟨y', stB, rfl, hb, hS2⟩ := zSt_c hR.2.2.2.2.1
  obtain ⟨x', stC, rfl, ha, hS3⟩ := zSt_c hS2
  rcases zif_iff h with ⟨h1, h2⟩ | ⟨-, h2⟩
  · obtain ⟨g1, g2⟩ := zand_iff h1
    have ea := zv_4 ha (zbeqT g1)
    have eb := zv_0 hb (zbeqT g2)
    subst ea
    subst eb
    exact row _ _ stC rfl (zgo hKS h2 hR rfl hR.1 ⟨hf _ _, hS3⟩)
  · cases h2
theorem z1_iff {v : Nat} {x : Value} (h : z1 v = true) (hv : zV X v x) : x.category = 1 := by
  have h2 : v % 8 ≤ 3 := zbleT h
  rw [zv_cat hv, if_neg (by omega)]
theorem zw_dup (hKS : zKS p l e R s mt args below meth c Q X cf y fs nL d k) (h : zo_dup nx ax k w cf y pc ls st q fs m = true) (hR : zRl X s nL d w ls st q m H locs lsA stA)
    (row : ∀ (x : Value) (r : List Value), stA = x :: r → x.category = 1 → W p l e R s mt args below meth c H locs q.2.1 q.2.2 Q (F0 mt nx lsA (x :: x :: r)) → W p l e R s mt args below meth c H locs q.2.1 q.2.2 Q (F0 mt pc lsA stA)) : W p l e R s mt args below meth c H locs q.2.1 q.2.2 Q (F0 mt pc lsA stA) := by
  unfold zo_dup at h
  obtain ⟨a, r, es, h'⟩ := zpop_iff h
  clear h
  have h := h'
  clear h'
  subst es
  obtain ⟨x', stB, rfl, ha, hS2⟩ := zSt_c hR.2.2.2.2.1
  rcases zif_iff h with ⟨h1, h2⟩ | ⟨-, h2⟩
  · exact row _ stB rfl (z1_iff h1 ha) (zgo hKS h2 hR rfl hR.1 ⟨ha, ha, hS2⟩)
  · cases h2
theorem zw_dup2 (hKS : zKS p l e R s mt args below meth c Q X cf y fs nL d k) (h : zo_dup2 nx ax k w cf y pc ls st q fs m = true) (hR : zRl X s nL d w ls st q m H locs lsA stA)
    (row : ∀ (x z : Value) (r : List Value), stA = x :: z :: r → x.category = 1 → z.category = 1 → W p l e R s mt args below meth c H locs q.2.1 q.2.2 Q (F0 mt nx lsA (x :: z :: x :: z :: r)) → W p l e R s mt args below meth c H locs q.2.1 q.2.2 Q (F0 mt pc lsA stA)) : W p l e R s mt args below meth c H locs q.2.1 q.2.2 Q (F0 mt pc lsA stA) := by
  unfold zo_dup2 at h
  obtain ⟨a, t, es, h'⟩ := zpop_iff h
  clear h
  have h := h'
  clear h'
  subst es
  obtain ⟨b, r, es, h'⟩ := zpop_iff h
  clear h
  have h := h'
  clear h'
  subst es
  obtain ⟨x', stB, rfl, ha, hS2⟩ := zSt_c hR.2.2.2.2.1
  obtain ⟨y', stC, rfl, hb, hS3⟩ := zSt_c hS2
  rcases zif_iff h with ⟨h1, h2⟩ | ⟨-, h2⟩
  · obtain ⟨g1, g2⟩ := zand_iff h1
    exact row _ _ stC rfl (z1_iff g1 ha) (z1_iff g2 hb) (zgo hKS h2 hR rfl hR.1 ⟨ha, hb, ha, hb, hS3⟩)
  · cases h2
theorem zw_pop (hKS : zKS p l e R s mt args below meth c Q X cf y fs nL d k) (h : zo_pop nx ax k w cf y pc ls st q fs m = true) (hR : zRl X s nL d w ls st q m H locs lsA stA)
    (row : ∀ (x : Value) (r : List Value), stA = x :: r → x.category = 1 → W p l e R s mt args below meth c H locs q.2.1 q.2.2 Q (F0 mt nx lsA r) → W p l e R s mt args below meth c H locs q.2.1 q.2.2 Q (F0 mt pc lsA stA)) : W p l e R s mt args below meth c H locs q.2.1 q.2.2 Q (F0 mt pc lsA stA) := by
  unfold zo_pop at h
  obtain ⟨a, r, es, h'⟩ := zpop_iff h
  clear h
  have h := h'
  clear h'
  subst es
  obtain ⟨x', stB, rfl, ha, hS2⟩ := zSt_c hR.2.2.2.2.1
  rcases zif_iff h with ⟨h1, h2⟩ | ⟨-, h2⟩
  · exact row _ stB rfl (z1_iff h1 ha) (zgo hKS h2 hR rfl hR.1 hS2)
  · cases h2
theorem zw_goto (hKS : zKS p l e R s mt args below meth c Q X cf y fs nL d k) (h : zo_goto nx ax k w cf y pc ls st q fs m = true) (hR : zRl X s nL d w ls st q m H locs lsA stA)
    (row : W p l e R s mt args below meth c H locs q.2.1 q.2.2 Q (F0 mt ax lsA stA) → W p l e R s mt args below meth c H locs q.2.1 q.2.2 Q (F0 mt pc lsA stA)) : W p l e R s mt args below meth c H locs q.2.1 q.2.2 Q (F0 mt pc lsA stA) :=
  row (zgo hKS (st2 := st) h hR rfl hR.1 hR.2.2.2.2.1)
/-- a branch's two ways, by what holds: P (as it stands) or not -/
theorem zbr {o tn : Bool} {w2 : zW} {r : List Nat} {stB : List Value} (hKS : zKS p l e R s mt args below meth c Q X cf y fs nL d k) (h : zif (zif tn (zif o false true) o) (k w2 cf y ax ls r q fs m) (k w2 cf y nx ls r q fs m) = true) (hR : zRl X s nL d w ls st q m H locs lsA stA) (e1 : w2.1 = w.1) (hE : zEnv (zρ X) w2.2) (h2 : zSt X r stB) :
    (o = !tn → W p l e R s mt args below meth c H locs q.2.1 q.2.2 Q (F0 mt ax lsA stB)) ∧ (o = tn → W p l e R s mt args below meth c H locs q.2.1 q.2.2 Q (F0 mt nx lsA stB)) := by
  cases o <;> cases tn
  · exact ⟨fun z => absurd z (by decide), fun _ => zgo hKS (st2 := r) h hR e1 hE h2⟩
  · exact ⟨fun _ => zgo hKS (st2 := r) h hR e1 hE h2, fun z => absurd z (by decide)⟩
  · exact ⟨fun _ => zgo hKS (st2 := r) h hR e1 hE h2, fun z => absurd z (by decide)⟩
  · exact ⟨fun z => absurd z (by decide), fun _ => zgo hKS (st2 := r) h hR e1 hE h2⟩
theorem zw_cmp {g sw tn : Bool} (hKS : zKS p l e R s mt args below meth c Q X cf y fs nL d k) (h : zo_cmp g sw tn nx ax k w cf y pc ls st q fs m = true) (hR : zRl X s nL d w ls st q m H locs lsA stA)
    (row : ∀ (x z : Int32) (r : List Value), stA = .int z :: .int x :: r → ((if g then x = z else if sw then z < x else x < z) → W p l e R s mt args below meth c H locs q.2.1 q.2.2 Q (F0 mt (if tn then nx else ax) lsA r)) → (¬ (if g then x = z else if sw then z < x else x < z) → W p l e R s mt args below meth c H locs q.2.1 q.2.2 Q (F0 mt (if tn then ax else nx) lsA r)) → W p l e R s mt args below meth c H locs q.2.1 q.2.2 Q (F0 mt pc lsA stA)) : W p l e R s mt args below meth c H locs q.2.1 q.2.2 Q (F0 mt pc lsA stA) := by
  unfold zo_cmp at h
  obtain ⟨b, t, es, h'⟩ := zpop_iff h
  clear h
  have h := h'
  clear h'
  subst es
  obtain ⟨a, r, es, h'⟩ := zpop_iff h
  clear h
  have h := h'
  clear h'
  subst es
  obtain ⟨y', stB, rfl, hb, hS2⟩ := zSt_c hR.2.2.2.2.1
  obtain ⟨x', stC, rfl, ha, hS3⟩ := zSt_c hS2
  have fin : ∀ (P : Prop) (x z : Int32), x' = .int x → y' = .int z → (P ↔ (if g then x = z else if sw then z < x else x < z)) → ((P ∧ ∃ w2 : zW, w2.1 = w.1 ∧ zEnv (zρ X) w2.2 ∧ zif (zif tn (zif true false true) true) (k w2 cf y ax ls r q fs m) (k w2 cf y nx ls r q fs m) = true) ∨ (¬ P ∧ ∃ w2 : zW, w2.1 = w.1 ∧ zEnv (zρ X) w2.2 ∧ zif (zif tn (zif false false true) false) (k w2 cf y ax ls r q fs m) (k w2 cf y nx ls r q fs m) = true)) → W p l e R s mt args below meth c H locs q.2.1 q.2.2 Q (F0 mt pc lsA (y' :: x' :: stC)) := by
    intro P x z ex ez hP hh
    subst ex
    subst ez
    rcases hh with ⟨hp, w2, e1, E2, h3⟩ | ⟨hp, w2, e1, E2, h3⟩
    · obtain ⟨b1, b2⟩ := zbr (o := true) hKS h3 hR e1 E2 hS3
      refine row x z stC rfl (fun _ => ?_) (fun n => absurd (hP.mp hp) n)
      cases tn
      · exact b1 rfl
      · exact b2 rfl
    · obtain ⟨b1, b2⟩ := zbr (o := false) hKS h3 hR e1 E2 hS3
      refine row x z stC rfl (fun n => absurd (hP.mpr n) hp) (fun _ => ?_)
      cases tn
      · exact b2 rfl
      · exact b1 rfl
  cases g with
  | true =>
    rw [zif_t] at h
    obtain ⟨x, z, e1, e2, hh⟩ := zeq_iff h hR.1 ha hb
    exact fin (x = z) x z e1 e2 (by rw [if_pos rfl]) hh
  | false =>
    cases sw with
    | true =>
      simp only [zif_t, zif_f] at h
      obtain ⟨z, x, e2, e1, hh⟩ := zlt_iff h hR.1 hb ha
      exact fin (z < x) x z e1 e2 (by rw [if_neg (by decide), if_pos rfl]) hh
    | false =>
      simp only [zif_f] at h
      obtain ⟨x, z, e1, e2, hh⟩ := zlt_iff h hR.1 ha hb
      exact fin (x < z) x z e1 e2 (by rw [if_neg (by decide), if_neg (by decide)]) hh
theorem zv_zero : zV X 0 (.int 0) := Or.inl ⟨by omega, rfl⟩
theorem zw_cmp0 {g sw tn : Bool} (hKS : zKS p l e R s mt args below meth c Q X cf y fs nL d k) (h : zo_cmp0 g sw tn nx ax k w cf y pc ls st q fs m = true) (hR : zRl X s nL d w ls st q m H locs lsA stA)
    (row : ∀ (x : Int32) (r : List Value), stA = .int x :: r → ((if g then x = 0 else if sw then 0 < x else x < 0) → W p l e R s mt args below meth c H locs q.2.1 q.2.2 Q (F0 mt (if tn then nx else ax) lsA r)) → (¬ (if g then x = 0 else if sw then 0 < x else x < 0) → W p l e R s mt args below meth c H locs q.2.1 q.2.2 Q (F0 mt (if tn then ax else nx) lsA r)) → W p l e R s mt args below meth c H locs q.2.1 q.2.2 Q (F0 mt pc lsA stA)) : W p l e R s mt args below meth c H locs q.2.1 q.2.2 Q (F0 mt pc lsA stA) := by
  unfold zo_cmp0 at h
  obtain ⟨a, r, es, h'⟩ := zpop_iff h
  clear h
  have h := h'
  clear h'
  subst es
  obtain ⟨x', stC, rfl, ha, hS3⟩ := zSt_c hR.2.2.2.2.1
  have hb : zV X 0 (.int 0) := zv_zero
  have fin : ∀ (P : Prop) (x : Int32), x' = .int x → (P ↔ (if g then x = 0 else if sw then 0 < x else x < 0)) → ((P ∧ ∃ w2 : zW, w2.1 = w.1 ∧ zEnv (zρ X) w2.2 ∧ zif (zif tn (zif true false true) true) (k w2 cf y ax ls r q fs m) (k w2 cf y nx ls r q fs m) = true) ∨ (¬ P ∧ ∃ w2 : zW, w2.1 = w.1 ∧ zEnv (zρ X) w2.2 ∧ zif (zif tn (zif false false true) false) (k w2 cf y ax ls r q fs m) (k w2 cf y nx ls r q fs m) = true)) → W p l e R s mt args below meth c H locs q.2.1 q.2.2 Q (F0 mt pc lsA (x' :: stC)) := by
    intro P x ex hP hh
    subst ex
    rcases hh with ⟨hp, w2, e1, E2, h3⟩ | ⟨hp, w2, e1, E2, h3⟩
    · obtain ⟨b1, b2⟩ := zbr (o := true) hKS h3 hR e1 E2 hS3
      refine row x stC rfl (fun _ => ?_) (fun n => absurd (hP.mp hp) n)
      cases tn
      · exact b1 rfl
      · exact b2 rfl
    · obtain ⟨b1, b2⟩ := zbr (o := false) hKS h3 hR e1 E2 hS3
      refine row x stC rfl (fun n => absurd (hP.mpr n) hp) (fun _ => ?_)
      cases tn
      · exact b2 rfl
      · exact b1 rfl
  cases g with
  | true =>
    rw [zif_t] at h
    obtain ⟨x, z, e1, e2, hh⟩ := zeq_iff h hR.1 ha hb
    have e3 := (Value.int.inj e2).symm
    subst e3
    exact fin (x = 0) x e1 (by rw [if_pos rfl]) hh
  | false =>
    cases sw with
    | true =>
      simp only [zif_t, zif_f] at h
      obtain ⟨z, x, e2, e1, hh⟩ := zlt_iff h hR.1 hb ha
      have e3 := (Value.int.inj e2).symm
      subst e3
      exact fin (0 < x) x e1 (by rw [if_neg (by decide), if_pos rfl]) hh
    | false =>
      simp only [zif_f] at h
      obtain ⟨x, z, e1, e2, hh⟩ := zlt_iff h hR.1 ha hb
      have e3 := (Value.int.inj e2).symm
      subst e3
      exact fin (x < 0) x e1 (by rw [if_neg (by decide), if_neg (by decide)]) hh
end ZR
