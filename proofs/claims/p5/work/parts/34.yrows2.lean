/-! THE MACHINE's STEPS for the second executor -/
def zyRl (P : zyP) (X : zyX) (s : State) (nL : Nat) (d : Nat × Nat × Nat) (w : zW) (ls st : List Nat) (q : zQ) (m : zyM) (H : Heap) (locs : List Loc) (lsA : Array Slot) (stA : List Value) : Prop :=
  (zEnv (zyρ X) w.2 ∧ w.1 = zyN X ∧ zyXt X ∧ ∀ f ∈ m.2, zyFm X f) ∧ zyMem P X s m.1 H ∧ (∀ x ∈ locs, zbs (zyb X) ≤ x.base) ∧ zyLs X nL ls lsA ∧ zySt X st stA ∧ q.1 = d.1 ∧ q.2.1 ≤ d.2.1 ∧ q.2.2 ≤ d.2.2
def zyKS (p : Program) (l : Launch) (e : Env) (R : Room) (s : State) (mt : MethodId) (args : Array Value) (below : List Frame) (meth : Method) (c : Code) (Q : State → Prop) (P : zyP) (X : zyX) (cf : Nat → zT) (y : zY) (fs : List zFr) (nL : Nat) (d : Nat × Nat × Nat) (k : zyK) : Prop :=
  ∀ (ρ2 : Nat → Int32) (N2 : Nat) (w : zW) (pc : Nat) (ls st : List Nat) (q : zQ) (m : zyM) (H : Heap) (locs : List Loc) (lsA : Array Slot) (stA : List Value), k w cf y pc ls st q fs m = true → zyRl P (zyre X ρ2 N2) s nL d w ls st q m H locs lsA stA → W p l e R s mt args below meth c H locs q.2.1 q.2.2 Q (F0 mt pc lsA stA)
theorem zyXt.up {X : zyX} {ρ2 : Nat → Int32} {N2 : Nat} (hN : zyN X ≤ N2) (hr : ∀ k, k < zyN X → ρ2 k = zyρ X k) (h : zyXt X) : zyXt (zyre X ρ2 N2) := ⟨Nat.le_trans h.1 hN, fun k hk => (hr k (Nat.lt_of_lt_of_le hk h.1)).trans (h.2 k hk)⟩
theorem zyv_ik {ρ : Nat → Int32} {N : Nat} {ad : Nat → Nat} {v : Nat} {x : Int32} (h : zyv ρ N ad v (.int x)) : v % 8 ≤ 2 := by
  rcases h with ⟨h, -, -⟩ | ⟨-, -, z, h⟩ | ⟨-, h | h⟩
  · rcases h with ⟨h, -⟩ | ⟨h, -⟩ | ⟨h, -⟩ | ⟨-, z⟩ | ⟨-, z⟩ | ⟨-, z⟩ | ⟨-, z | ⟨_, z⟩⟩
    · omega
    · omega
    · omega
    · cases z
    · cases z
    · cases z
    · cases z
    · cases z
  · cases h
  · cases h
  · cases h
section ZYR
variable {p : Program} {l : Launch} {e : Env} {R : Room} {s : State} {mt : MethodId} {args : Array Value} {below : List Frame} {meth : Method} {c : Code} {Q : State → Prop} {P : zyP} {X : zyX} {cf : Nat → zT} {y : zY} {fs : List zFr} {nL : Nat} {d : Nat × Nat × Nat} {k : zyK}
variable {w : zW} {pc nx ax : Nat} {ls st : List Nat} {q : zQ} {m : zyM} {H : Heap} {locs : List Loc} {lsA : Array Slot} {stA : List Value}
theorem zygo (hKS : zyKS p l e R s mt args below meth c Q P X cf y fs nL d k) {w2 : zW} {pc2 : Nat} {st2 : List Nat} {stB : List Value} (h : k w2 cf y pc2 ls st2 q fs m = true) (hR : zyRl P X s nL d w ls st q m H locs lsA stA) (e1 : w2.1 = w.1) (hE : zEnv (zyρ X) w2.2) (h2 : zySt X st2 stB) : W p l e R s mt args below meth c H locs q.2.1 q.2.2 Q (F0 mt pc2 lsA stB) :=
  hKS (zyρ X) (zyN X) _ _ _ _ _ _ _ _ _ _ h ⟨⟨hE, e1.trans hR.1.2.1, hR.1.2.2⟩, hR.2.1, hR.2.2.1, hR.2.2.2.1, h2, hR.2.2.2.2.2⟩
/-- with a fact more -/
theorem zygoM (hKS : zyKS p l e R s mt args below meth c Q P X cf y fs nL d k) {w2 : zW} {pc2 : Nat} {st2 : List Nat} {stB : List Value} {f : zyF} (h : k w2 cf y pc2 ls st2 q fs (m.1, f :: m.2) = true) (hR : zyRl P X s nL d w ls st q m H locs lsA stA) (e1 : w2.1 = w.1) (hE : zEnv (zyρ X) w2.2) (h2 : zySt X st2 stB) (hf : zyFm X f) : W p l e R s mt args below meth c H locs q.2.1 q.2.2 Q (F0 mt pc2 lsA stB) :=
  hKS (zyρ X) (zyN X) _ _ _ _ _ _ _ _ _ _ h ⟨⟨hE, e1.trans hR.1.2.1, hR.1.2.2.1, fun g hg => by
    rcases List.mem_cons.mp hg with z | z
    · rw [z]; exact hf
    · exact hR.1.2.2.2 g z⟩, hR.2.1, hR.2.2.1, hR.2.2.2.1, h2, hR.2.2.2.2.2⟩
/-- with a new symbol -/
theorem zygoU (hKS : zyKS p l e R s mt args below meth c Q P X cf y fs nL d k) {ρ2 : Nat → Int32} {N2 : Nat} {e2 : List (Nat × Nat)} {pc2 : Nat} {st2 : List Nat} {stB : List Value} {m2 : zyM} (h : k (N2, e2) cf y pc2 ls st2 q fs m2 = true) (hR : zyRl P X s nL d w ls st q m H locs lsA stA) (hN : zyN X ≤ N2) (hr : ∀ k, k < zyN X → ρ2 k = zyρ X k) (hE : zEnv ρ2 e2) (h2 : zySt (zyre X ρ2 N2) st2 stB)
    (hM : zyMem P (zyre X ρ2 N2) s m2.1 H) (hf : ∀ f ∈ m2.2, zyFm (zyre X ρ2 N2) f) : W p l e R s mt args below meth c H locs q.2.1 q.2.2 Q (F0 mt pc2 lsA stB) :=
  hKS ρ2 N2 _ _ _ _ _ _ _ _ _ _ h ⟨⟨hE, rfl, hR.1.2.2.1.up hN hr, hf⟩, hM, hR.2.2.1, hR.2.2.2.1.up hN hr, h2, hR.2.2.2.2.2⟩
/-- a new symbol's value on the stack -/
theorem zygoV (hKS : zyKS p l e R s mt args below meth c Q P X cf y fs nL d k) {lo hi : Nat} {pc2 : Nat} {r : List Nat} {stB : List Value} {F : Nat → List zyF} (h : zyfresh w lo hi (fun w2 v => k w2 cf y pc2 ls (v :: r) q fs (m.1, F v ++ m.2)) = true) (hR : zyRl P X s nL d w ls st q m H locs lsA stA) {x : Int32} (h1 : lo ≤ zB x) (h2 : zB x ≤ hi) (hS : zySt X r stB)
    (hF : ∀ (ρ2 : Nat → Int32) (v : Nat), (∀ k, k < zyN X → ρ2 k = zyρ X k) → zyV (zyre X ρ2 (zyN X + 1)) v (.int x) → ∀ f ∈ F v, zyFm (zyre X ρ2 (zyN X + 1)) f) : W p l e R s mt args below meth c H locs q.2.1 q.2.2 Q (F0 mt pc2 lsA (.int x :: stB)) := by
  obtain ⟨E2, g⟩ := zyfresh_iff h hR.1.1 hR.1.2.1 h1 h2
  have hr : ∀ k, k < zyN X → zyρ2 (zyρ X) (zyN X) x k = zyρ X k := fun k hk => zyρ2_lt hk
  refine zygoU hKS g hR (Nat.le_succ _) hr E2 ⟨zyv_new x, hS.up (Nat.le_succ _) hr⟩ (hR.2.1.up (Nat.le_succ _) hr) (fun f hf => ?_)
  rcases List.mem_append.mp hf with z | z
  · exact hF _ _ hr (zyv_new x) f z
  · exact (hR.1.2.2.2 f z).up (Nat.le_succ _) hr
theorem zyw_push {v : Nat} {x : Value} (hKS : zyKS p l e R s mt args below meth c Q P X cf y fs nL d k) (h : zyo_push v nx ax k w cf y pc ls st q fs m = true) (hR : zyRl P X s nL d w ls st q m H locs lsA stA) (hv : zyV X v x)
    (row : W p l e R s mt args below meth c H locs q.2.1 q.2.2 Q (F0 mt nx lsA (x :: stA)) → W p l e R s mt args below meth c H locs q.2.1 q.2.2 Q (F0 mt pc lsA stA)) : W p l e R s mt args below meth c H locs q.2.1 q.2.2 Q (F0 mt pc lsA stA) :=
  row (zygo hKS (st2 := v :: st) h hR rfl hR.1.1 ⟨hv, hR.2.2.2.2.1⟩)
theorem zyw_load {g i : Nat} (hKS : zyKS p l e R s mt args below meth c Q P X cf y fs nL d k) (h : zyo_load g i nx ax k w cf y pc ls st q fs m = true) (hR : zyRl P X s nL d w ls st q m H locs lsA stA)
    (row : ∀ x : Value, lsA[i]? = some (.val x) → (g = 0 → ∃ n, x = .int n) → (g = 1 → ∃ n, x = .long n) → (g = 2 → ∃ a, x = .ref a) → W p l e R s mt args below meth c H locs q.2.1 q.2.2 Q (F0 mt nx lsA (x :: stA)) → W p l e R s mt args below meth c H locs q.2.1 q.2.2 Q (F0 mt pc lsA stA)) : W p l e R s mt args below meth c H locs q.2.1 q.2.2 Q (F0 mt pc lsA stA) := by
  unfold zyo_load at h
  obtain ⟨v, hv, h2⟩ := znth_iff h
  rcases zif_iff h2 with ⟨h3, h4⟩ | ⟨-, h4⟩
  · obtain ⟨k0, k1, k2, k3⟩ := zkd_iff h3
    obtain ⟨x, hx, hz⟩ := hR.2.2.2.1.2.2.2 i v hv k3
    exact row x hx (fun q => zyv_int hz (k0 q)) (fun q => (zyv_4 hz (k1 q)).elim fun n hn => ⟨n, hn.1⟩) (fun q => ⟨_, zyv_3 hz (k2 q)⟩) (zygo hKS h4 hR rfl hR.1.1 ⟨hz, hR.2.2.2.2.1⟩)
  · cases h4
theorem zyw_store {g i : Nat} (hg : ¬ g = 1) (hKS : zyKS p l e R s mt args below meth c Q P X cf y fs nL d k) (h : zyo_store g i nx ax k w cf y pc ls st q fs m = true) (hR : zyRl P X s nL d w ls st q m H locs lsA stA)
    (row : ∀ (x : Value) (r : List Value), stA = x :: r → i < nL → (g = 0 → ∃ n, x = .int n) → (g = 2 → ∃ a, x = .ref a) → (∀ lsB, lv_has lsB nL ((i, x) :: (zlv lsA).filter (fun q => !(q.1 == i) && !(q.1 + 1 == i && q.2.category == 2))) → W p l e R s mt args below meth c H locs q.2.1 q.2.2 Q (F0 mt nx lsB r)) → W p l e R s mt args below meth c H locs q.2.1 q.2.2 Q (F0 mt pc lsA stA)) : W p l e R s mt args below meth c H locs q.2.1 q.2.2 Q (F0 mt pc lsA stA) := by
  unfold zyo_store at h
  obtain ⟨v, r, rfl, h2⟩ := zpop_iff h
  rcases zif_iff h2 with ⟨h3, h4⟩ | ⟨-, h4⟩
  · obtain ⟨k0, k1, k2, k3⟩ := zkd_iff h3
    obtain ⟨h5, hlow⟩ := zlow_iff h4
    rcases zif_iff h5 with ⟨h6, -⟩ | ⟨-, h7⟩
    · exact absurd (zbeqT h6) hg
    · obtain ⟨o, ho, h8⟩ := zupd_iff h7
      obtain ⟨hE, hM, hL, hLs, hS, hd⟩ := hR
      obtain ⟨x, t, rfl, hz, hS2⟩ := zySt_c hS
      have hi : i < nL := by rw [← hLs.1]; exact (List.getElem?_eq_some_iff.mp ho).1
      refine row x t rfl hi (fun q => zyv_int hz (k0 q)) (fun q => ⟨_, zyv_3 hz (k2 q)⟩) (fun lsB hB => ?_)
      exact hKS (zyρ X) (zyN X) _ _ _ _ _ _ _ _ _ _ h8 ⟨hE, hM, hL, zyLs_1 hLs hz hlow hB, hS2, hd⟩
  · cases h4
theorem zyw_storeL {i : Nat} (hKS : zyKS p l e R s mt args below meth c Q P X cf y fs nL d k) (h : zyo_store 1 i nx ax k w cf y pc ls st q fs m = true) (hR : zyRl P X s nL d w ls st q m H locs lsA stA)
    (row : ∀ (x : Int64) (r : List Value), stA = .long x :: r → i + 1 < nL → (∀ lsB, lv_has lsB nL ((i, .long x) :: (zlv lsA).filter (fun q => !(q.1 == i) && (!(q.1 == i + 1) && !(q.1 + 1 == i && q.2.category == 2)))) → W p l e R s mt args below meth c H locs q.2.1 q.2.2 Q (F0 mt nx lsB r)) → W p l e R s mt args below meth c H locs q.2.1 q.2.2 Q (F0 mt pc lsA stA)) : W p l e R s mt args below meth c H locs q.2.1 q.2.2 Q (F0 mt pc lsA stA) := by
  unfold zyo_store at h
  obtain ⟨v, r, rfl, h2⟩ := zpop_iff h
  rcases zif_iff h2 with ⟨h3, h4⟩ | ⟨-, h4⟩
  · obtain ⟨k0, k1, k2, k3⟩ := zkd_iff h3
    obtain ⟨h5, hlow⟩ := zlow_iff h4
    rcases zif_iff h5 with ⟨-, h7⟩ | ⟨h6, -⟩
    · obtain ⟨o, ho, h8⟩ := zupd_iff h7
      obtain ⟨o2, ho2, h9⟩ := zupd_iff h8
      obtain ⟨hE, hM, hL, hLs, hS, hd⟩ := hR
      obtain ⟨x, t, rfl, hz, hS2⟩ := zySt_c hS
      obtain ⟨xl, hz4, -⟩ := zyv_4 hz (k1 rfl)
      have hi : i + 1 < nL := by
        rw [← hLs.1]
        have h10 : i + 1 < (ls.set i v).length := (List.getElem?_eq_some_iff.mp ho2).1
        rwa [List.length_set] at h10
      rw [hz4] at hz
      refine row xl t (by rw [hz4]) hi (fun lsB hB => ?_)
      exact hKS (zyρ X) (zyN X) _ _ _ _ _ _ _ _ _ _ h9 ⟨hE, hM, hL, zyLs_2 hLs hz hlow hB, hS2, hd⟩
    · exact absurd rfl (zbeqF h6)
  · cases h4
theorem zyw_iinc {i u : Nat} (hKS : zyKS p l e R s mt args below meth c Q P X cf y fs nL d k) (h : zyo_iinc i u nx ax k w cf y pc ls st q fs m = true) (hR : zyRl P X s nL d w ls st q m H locs lsA stA)
    (row : ∀ (x : Int32), lsA[i]? = some (.val (.int x)) → i < nL → (∀ lsB, lv_has lsB nL ((i, .int (x + Int32.ofNat u)) :: (zlv lsA).filter (fun q => !(q.1 == i) && !(q.1 + 1 == i && q.2.category == 2))) → W p l e R s mt args below meth c H locs q.2.1 q.2.2 Q (F0 mt nx lsB stA)) → W p l e R s mt args below meth c H locs q.2.1 q.2.2 Q (F0 mt pc lsA stA)) : W p l e R s mt args below meth c H locs q.2.1 q.2.2 Q (F0 mt pc lsA stA) := by
  unfold zyo_iinc at h
  simp only [zfr_eq, zn_m, zn_d, zn_a, zn_u] at h
  obtain ⟨v, hv, h2⟩ := znth_iff h
  obtain ⟨hE, hM, hL, hLs, hS, hd⟩ := hR
  have hi : i < nL := by rw [← hLs.1]; exact (List.getElem?_eq_some_iff.mp hv).1
  have fin : ∀ v2 : Nat, ¬ v = 13 → v % 8 ≤ 1 → (∀ x : Int32, zyV X v (.int x) → zyV X v2 (.int (x + Int32.ofNat u))) → zupd (fun _ k2 => k2 v2) ls i (fun l1 => k w cf y nx l1 st q fs m) = true → W p l e R s mt args below meth c H locs q.2.1 q.2.2 Q (F0 mt pc lsA stA) := by
    intro v2 hn h8 hx h5
    obtain ⟨o, ho, h6⟩ := zupd_iff h5
    obtain ⟨x', hx', hz⟩ := hLs.2.2.2 i v hv hn
    obtain ⟨x, rfl⟩ := zyv_int hz (by omega)
    refine row x hx' hi (fun lsB hB => ?_)
    refine hKS (zyρ X) (zyN X) _ _ _ _ _ _ _ _ _ _ h6 ⟨hE, hM, hL, zyLs_1 hLs (hx x hz) (fun j c hj hc h4 => ?_) hB, hS, hd⟩
    obtain ⟨xj, hxj, hzj⟩ := hLs.2.2.2 j c hc (by omega)
    have hw := hLs.2.2.1.1 j xj hxj (by rw [zyv_cat hzj, if_pos h4])
    rw [hj, hx'] at hw
    cases hw
  rcases zif_iff h2 with ⟨h3, h4⟩ | ⟨h3, h4⟩
  · have e8 := zbeqT h3
    refine fin _ (by omega) (by omega) (fun x hx => ?_) h4
    have e1 := Value.int.inj (zyv_0 hx e8)
    rw [e1, ← zf_add_ok]
    exact zyv_mk rfl
  rcases zif_iff h4 with ⟨h5, h6⟩ | ⟨h5, h6⟩
  · have e8 := zbeqT h5
    exact fin _ (by omega) (by omega) (fun x hx => zyaff_ok e8 hx) h6
  · cases h6
theorem zy1_iff {v : Nat} {x : Value} (h : z1 v = true) (hv : zyV X v x) : x.category = 1 := by
  have h2 : v % 8 ≤ 3 := zbleT h
  rw [zyv_cat hv, if_neg (by omega)]
theorem zyw_dup (hKS : zyKS p l e R s mt args below meth c Q P X cf y fs nL d k) (h : zyo_dup nx ax k w cf y pc ls st q fs m = true) (hR : zyRl P X s nL d w ls st q m H locs lsA stA)
    (row : ∀ (x : Value) (r : List Value), stA = x :: r → x.category = 1 → W p l e R s mt args below meth c H locs q.2.1 q.2.2 Q (F0 mt nx lsA (x :: x :: r)) → W p l e R s mt args below meth c H locs q.2.1 q.2.2 Q (F0 mt pc lsA stA)) : W p l e R s mt args below meth c H locs q.2.1 q.2.2 Q (F0 mt pc lsA stA) := by
  unfold zyo_dup at h
  obtain ⟨a, r, es, h'⟩ := zpop_iff h
  clear h
  have h := h'
  clear h'
  subst es
  obtain ⟨x', stB, rfl, ha, hS2⟩ := zySt_c hR.2.2.2.2.1
  rcases zif_iff h with ⟨h1, h2⟩ | ⟨-, h2⟩
  · exact row _ stB rfl (zy1_iff h1 ha) (zygo hKS h2 hR rfl hR.1.1 ⟨ha, ha, hS2⟩)
  · cases h2
theorem zyw_dup2 (hKS : zyKS p l e R s mt args below meth c Q P X cf y fs nL d k) (h : zyo_dup2 nx ax k w cf y pc ls st q fs m = true) (hR : zyRl P X s nL d w ls st q m H locs lsA stA)
    (row : ∀ (x z : Value) (r : List Value), stA = x :: z :: r → x.category = 1 → z.category = 1 → W p l e R s mt args below meth c H locs q.2.1 q.2.2 Q (F0 mt nx lsA (x :: z :: x :: z :: r)) → W p l e R s mt args below meth c H locs q.2.1 q.2.2 Q (F0 mt pc lsA stA)) : W p l e R s mt args below meth c H locs q.2.1 q.2.2 Q (F0 mt pc lsA stA) := by
  unfold zyo_dup2 at h
  obtain ⟨a, t, es, h'⟩ := zpop_iff h
  clear h
  have h := h'
  clear h'
  subst es
  obtain ⟨b, r, es, h'⟩ := zpop_iff h
  clear h
  have h := h'
  clear h'
  subst es
  obtain ⟨x', stB, rfl, ha, hS2⟩ := zySt_c hR.2.2.2.2.1
  obtain ⟨y', stC, rfl, hb, hS3⟩ := zySt_c hS2
  rcases zif_iff h with ⟨h1, h2⟩ | ⟨-, h2⟩
  · obtain ⟨g1, g2⟩ := zand_iff h1
    exact row _ _ stC rfl (zy1_iff g1 ha) (zy1_iff g2 hb) (zygo hKS h2 hR rfl hR.1.1 ⟨ha, hb, ha, hb, hS3⟩)
  · cases h2
theorem zyw_pop (hKS : zyKS p l e R s mt args below meth c Q P X cf y fs nL d k) (h : zyo_pop nx ax k w cf y pc ls st q fs m = true) (hR : zyRl P X s nL d w ls st q m H locs lsA stA)
    (row : ∀ (x : Value) (r : List Value), stA = x :: r → x.category = 1 → W p l e R s mt args below meth c H locs q.2.1 q.2.2 Q (F0 mt nx lsA r) → W p l e R s mt args below meth c H locs q.2.1 q.2.2 Q (F0 mt pc lsA stA)) : W p l e R s mt args below meth c H locs q.2.1 q.2.2 Q (F0 mt pc lsA stA) := by
  unfold zyo_pop at h
  obtain ⟨a, r, es, h'⟩ := zpop_iff h
  clear h
  have h := h'
  clear h'
  subst es
  obtain ⟨x', stB, rfl, ha, hS2⟩ := zySt_c hR.2.2.2.2.1
  rcases zif_iff h with ⟨h1, h2⟩ | ⟨-, h2⟩
  · exact row _ stB rfl (zy1_iff h1 ha) (zygo hKS h2 hR rfl hR.1.1 hS2)
  · cases h2
theorem zyw_goto (hKS : zyKS p l e R s mt args below meth c Q P X cf y fs nL d k) (h : zyo_goto nx ax k w cf y pc ls st q fs m = true) (hR : zyRl P X s nL d w ls st q m H locs lsA stA)
    (row : W p l e R s mt args below meth c H locs q.2.1 q.2.2 Q (F0 mt ax lsA stA) → W p l e R s mt args below meth c H locs q.2.1 q.2.2 Q (F0 mt pc lsA stA)) : W p l e R s mt args below meth c H locs q.2.1 q.2.2 Q (F0 mt pc lsA stA) :=
  row (zygo hKS (st2 := st) h hR rfl hR.1.1 hR.2.2.2.2.1)
theorem zyabs_iff {g a b : Nat} {kk : zW → Nat → zyM → Bool} {ρ : Nat → Int32} {N : Nat} {ad : Nat → Nat} {x y : Int32} (h : zyabs g a b w m kk = true) (hE : zEnv ρ w.2) (hN : w.1 = N) (ha : zyv ρ N ad a (.int x)) (hb : zyv ρ N ad b (.int y)) (hg : zyItv g) :
    (g = 5 ∨ g = 10 → ¬ y = 0) ∧ ((∃ v, zyv ρ N ad v (.int (zyG g x y)) ∧ kk w v m = true) ∨ ∃ e2, zEnv (zyρ2 ρ N (zyG g x y)) e2 ∧ kk (N + 1, e2) (N * 34359738368 + 1) (m.1, (g, N * 34359738368 + 1, a, b) :: m.2) = true) := by
  unfold zyabs at h
  simp only [zfr_eq, zn_m, zn_d, zn_s] at h
  rcases zif_iff h with ⟨h1, hfin⟩ | ⟨-, h⟩
  · obtain ⟨h1, h2⟩ := zand_iff h1
    obtain ⟨h2, h3⟩ := zand_iff h2
    have e1 := zbeqT h1
    subst e1
    have e := Value.int.inj (zyv_0 hb (zbeqT h3))
    refine ⟨fun z => by omega, Or.inl ⟨_, ?_, hfin⟩⟩
    show zyv ρ N ad _ (.int (x + y))
    rw [e]
    exact zyaff_ok (zbeqT h2) ha
  rcases zif_iff h with ⟨h1, hfin⟩ | ⟨-, h⟩
  · obtain ⟨h1, h2⟩ := zand_iff h1
    obtain ⟨h2, h3⟩ := zand_iff h2
    have e1 := zbeqT h1
    subst e1
    have e := Value.int.inj (zyv_0 ha (zbeqT h2))
    refine ⟨fun z => by omega, Or.inl ⟨_, ?_, hfin⟩⟩
    show zyv ρ N ad _ (.int (x + y))
    rw [e, Int32.add_comm]
    exact zyaff_ok (zbeqT h3) hb
  rcases zif_iff h with ⟨h1, hfin⟩ | ⟨-, h⟩
  · obtain ⟨h1, h2⟩ := zand_iff h1
    obtain ⟨h2, h3⟩ := zand_iff h2
    have e1 := zbeqT h1
    subst e1
    have e := Value.int.inj (zyv_0 hb (zbeqT h3))
    have e2 : x - y = x + Int32.ofNat (4294967296 - b / 8 % 4294967296) := by
      rw [e]
      apply zN_inj
      rw [zN_sub, zN_add, zN_of, zN_of]
      omega
    refine ⟨fun z => by omega, Or.inl ⟨_, ?_, hfin⟩⟩
    show zyv ρ N ad _ (.int (x - y))
    rw [e2]
    exact zyaff_ok (zbeqT h2) ha
  obtain ⟨x2, la, ha', ex, a1, a2, h⟩ := zybd_iff h hE ha
  have ex := Value.int.inj ex
  subst ex
  obtain ⟨y2, lb, hb', ey, b1, b2, h⟩ := zybd_iff h hE hb
  have ey := Value.int.inj ey
  subst ey
  obtain ⟨g1, lo, hi, g2, g3, h⟩ := hg x y la ha' lb hb' _ h a1 a2 b1 b2
  obtain ⟨E2, h⟩ := zyfresh_iff h hE hN g2 g3
  exact ⟨g1, Or.inr ⟨_, E2, h⟩⟩
theorem zyslow_iff {f : Nat → Nat → Nat} {g : Nat} {dv : Bool} {a b : Nat} {again : zW → Bool} {kk : zW → Nat → zyM → Bool} {ρ : Nat → Int32} {N : Nat} {ad : Nat → Nat} {x' y' : Value} (h : zyslow P f g dv a b w m again kk = true) (hE : zEnv ρ w.2) (hN : w.1 = N) (ha : zyv ρ N ad a x') (hb : zyv ρ N ad b y') (hf : ∀ u v, Int32.ofNat (f u v) = zyG g (Int32.ofNat u) (Int32.ofNat v)) (hg : zyItv g) (hdv : dv = true → g = 5 ∨ g = 10) (ka : a % 8 ≤ 2) (kb : b % 8 ≤ 2) :
    (∃ w2 : zW, w2.1 = w.1 ∧ zEnv ρ w2.2 ∧ again w2 = true) ∨ ∃ x y : Int32, x' = .int x ∧ y' = .int y ∧ (dv = true → ¬ y = 0) ∧ ((∃ v, zyv ρ N ad v (.int (zyG g x y)) ∧ kk w v m = true) ∨ ∃ e2 a2 b2, zyv ρ N ad a2 (.int x) ∧ zyv ρ N ad b2 (.int y) ∧ zEnv (zyρ2 ρ N (zyG g x y)) e2 ∧ kk (N + 1, e2) (N * 34359738368 + 1) (m.1, (g, N * 34359738368 + 1, a2, b2) :: m.2) = true) := by
  unfold zyslow at h
  simp only [zfr_eq, zn_m, zn_u] at h
  obtain ⟨x, rfl⟩ := zyv_int ha ka
  obtain ⟨y, rfl⟩ := zyv_int hb kb
  have slow : ∀ a2 b2, zyv ρ N ad a2 (.int x) → zyv ρ N ad b2 (.int y) → zyabs g a2 b2 w m kk = true → ∃ x1 y1 : Int32, Value.int x = .int x1 ∧ Value.int y = .int y1 ∧ (dv = true → ¬ y1 = 0) ∧ ((∃ v, zyv ρ N ad v (.int (zyG g x1 y1)) ∧ kk w v m = true) ∨ ∃ e2 a2 b2, zyv ρ N ad a2 (.int x1) ∧ zyv ρ N ad b2 (.int y1) ∧ zEnv (zyρ2 ρ N (zyG g x1 y1)) e2 ∧ kk (N + 1, e2) (N * 34359738368 + 1) (m.1, (g, N * 34359738368 + 1, a2, b2) :: m.2) = true) := by
    intro a2 b2 ha2 hb2 h
    obtain ⟨q1, q2⟩ := zyabs_iff h hE hN ha2 hb2 hg
    refine ⟨x, y, rfl, rfl, fun z => q1 (hdv z), ?_⟩
    rcases q2 with q2 | ⟨e2, q3, q4⟩
    · exact Or.inl q2
    · exact Or.inr ⟨e2, a2, b2, ha2, hb2, q3, q4⟩
  rcases zyhalf_iff h hE ha with q | h
  · exact Or.inl q
  rcases zyhalf_iff h hE hb with q | h
  · exact Or.inl q
  rcases zykn_iff h hE ha with ⟨ua, e1, h⟩ | h
  · have e1 := Value.int.inj e1
    rcases zykn_iff h hE hb with ⟨ub, e2, h⟩ | h
    · have e2 := Value.int.inj e2
      subst e1
      subst e2
      rcases zif_iff h with ⟨-, h2⟩ | ⟨h1, h2⟩
      · cases h2
      · refine Or.inr ⟨_, _, rfl, rfl, fun q z => ?_, Or.inl ⟨_, zyv_mk (hf ua ub), h2⟩⟩
        rw [q] at h1
        have h3 : Nat.beq (ub % 4294967296) 0 = false := h1
        have e5 : (Int32.ofNat ub).toBitVec.toNat = (0 : Int32).toBitVec.toNat := by rw [z]
        rw [zN_of] at e5
        exact zbeqF h3 e5
    · exact Or.inr (slow _ _ (zyv_mk e1.symm) hb h)
  · rcases zykn_iff h hE hb with ⟨ub, e2, h⟩ | h
    · exact Or.inr (slow _ _ ha (zyv_mk (Value.int.inj e2).symm) h)
    · exact Or.inr (slow _ _ ha hb h)
theorem zyw_bin {f : Nat → Nat → Nat} {g : Nat} {dv : Bool} (hg12 : g < 12) (hf : ∀ u v, Int32.ofNat (f u v) = zyG g (Int32.ofNat u) (Int32.ofNat v)) (hg : zyItv g) (hdv : dv = true → g = 5 ∨ g = 10) (hKS : zyKS p l e R s mt args below meth c Q P X cf y fs nL d k) (h : zyo_bin P dv f g nx ax k w cf y pc ls st q fs m = true) (hR : zyRl P X s nL d w ls st q m H locs lsA stA)
    (row : ∀ (x z : Int32) (r : List Value), stA = .int z :: .int x :: r → (dv = true → ¬ z = 0) → W p l e R s mt args below meth c H locs q.2.1 q.2.2 Q (F0 mt nx lsA (.int (zyG g x z) :: r)) → W p l e R s mt args below meth c H locs q.2.1 q.2.2 Q (F0 mt pc lsA stA)) : W p l e R s mt args below meth c H locs q.2.1 q.2.2 Q (F0 mt pc lsA stA) := by
  unfold zyo_bin at h
  simp only [zfr_eq, zn_m, zn_d, zn_u] at h
  obtain ⟨b, t, es, h'⟩ := zpop_iff h
  clear h
  have h := h'
  clear h'
  subst es
  obtain ⟨a, r, es, h'⟩ := zpop_iff h
  clear h
  have h := h'
  clear h'
  subst es
  obtain ⟨y', stB, rfl, hb, hS2⟩ := zySt_c hR.2.2.2.2.1
  obtain ⟨x', stC, rfl, ha, hS3⟩ := zySt_c hS2
  rcases zif_iff h with ⟨h1, h2⟩ | ⟨-, h2⟩
  · obtain ⟨h1, h5⟩ := zand_iff h1
    have e0 : (a ||| b) % 2 ^ 3 = 0 := zbeqT h1
    rw [Nat.or_mod_two_pow] at e0
    have e1 : a % 8 = 0 := by
      have := Nat.left_le_or (n := a % 2 ^ 3) (m := b % 2 ^ 3)
      omega
    have e2 : b % 8 = 0 := by
      have := Nat.right_le_or (n := a % 2 ^ 3) (m := b % 2 ^ 3)
      omega
    have ea := zyv_0 ha e1
    have eb := zyv_0 hb e2
    subst ea
    subst eb
    refine row _ _ stC rfl (fun q z => ?_) (zygo hKS h2 hR rfl hR.1.1 ⟨zyv_mk (hf _ _), hS3⟩)
    rw [q] at h5
    have h6 : 1 ≤ b / 8 % 4294967296 := zbleT h5
    have e5 : (Int32.ofNat (b / 8)).toBitVec.toNat = (0 : Int32).toBitVec.toNat := by rw [z]
    rw [zN_of] at e5
    have e6 : (0 : Int32).toBitVec.toNat = 0 := by decide
    omega
  · have kk : a % 8 ≤ 2 ∧ b % 8 ≤ 2 ∨ ∃ w2 : zW, w2.1 = w.1 ∧ zEnv (zyρ X) w2.2 ∧ k w2 cf y pc ls (b :: a :: r) q fs m = true := by
      unfold zyslow at h2
      rcases zyhalf_iff h2 hR.1.1 ha with z | h3
      · exact Or.inr z
      rcases zyhalf_iff h3 hR.1.1 hb with z | h4
      · exact Or.inr z
      have ab : ∀ a2 b2, zyV X a2 x' → zyV X b2 y' → zyabs g a2 b2 w m (fun w2 v m2 => k w2 cf y nx ls (v :: r) q fs m2) = true → a2 % 8 ≤ 2 ∧ b2 % 8 ≤ 2 := by
        intro a2 b2 ha2 hb2 h
        unfold zyabs at h
        simp only [zn_m, zn_d, zn_s, zfr_eq] at h
        rcases zif_iff h with ⟨h1, -⟩ | ⟨-, h⟩
        · obtain ⟨-, h2⟩ := zand_iff h1
          obtain ⟨h2, h3⟩ := zand_iff h2
          have := zbeqT h2
          have := zbeqT h3
          omega
        rcases zif_iff h with ⟨h1, -⟩ | ⟨-, h⟩
        · obtain ⟨-, h2⟩ := zand_iff h1
          obtain ⟨h2, h3⟩ := zand_iff h2
          have := zbeqT h2
          have := zbeqT h3
          omega
        rcases zif_iff h with ⟨h1, -⟩ | ⟨-, h⟩
        · obtain ⟨-, h2⟩ := zand_iff h1
          obtain ⟨h2, h3⟩ := zand_iff h2
          have := zbeqT h2
          have := zbeqT h3
          omega
        have k1 := zybd_k h
        obtain ⟨_, _, _, -, -, -, h⟩ := zybd_iff h hR.1.1 ha2
        exact ⟨k1, zybd_k h⟩
      simp only [zfr_eq, zn_u] at h4
      rcases zykn_iff h4 hR.1.1 ha with ⟨ua, e1, h5⟩ | h5
      · have k1 : a % 8 ≤ 2 := zyv_ik (by rw [e1] at ha; exact ha)
        rcases zykn_iff h5 hR.1.1 hb with ⟨ub, e2, h6⟩ | h6
        · exact Or.inl ⟨k1, zyv_ik (by rw [e2] at hb; exact hb)⟩
        · exact Or.inl ⟨k1, (ab _ _ (by rw [e1]; exact zyv_mk rfl) hb h6).2⟩
      · rcases zykn_iff h5 hR.1.1 hb with ⟨ub, e2, h6⟩ | h6
        · exact Or.inl ⟨(ab _ _ ha (by rw [e2]; exact zyv_mk rfl) h6).1, zyv_ik (by rw [e2] at hb; exact hb)⟩
        · exact Or.inl (ab _ _ ha hb h6)
    rcases kk with ⟨ka, kb⟩ | ⟨w2, e1, E2, h3⟩
    rotate_left
    · exact zygo hKS h3 hR e1 E2 hR.2.2.2.2.1
    rcases zyslow_iff h2 hR.1.1 hR.1.2.1 ha hb hf hg hdv ka kb with ⟨w2, e1, E2, h3⟩ | ⟨x, z, rfl, rfl, hz, hh⟩
    · exact zygo hKS h3 hR e1 E2 hR.2.2.2.2.1
    · refine row _ _ stC rfl hz ?_
      rcases hh with ⟨v, hv, h3⟩ | ⟨e2, a2, b2, ha2, hb2, E2, h3⟩
      · exact zygo hKS h3 hR rfl hR.1.1 ⟨hv, hS3⟩
      · have hr : ∀ k, k < zyN X → zyρ2 (zyρ X) (zyN X) (zyG g x z) k = zyρ X k := fun k hk => zyρ2_lt hk
        refine zygoU hKS h3 hR (Nat.le_succ _) hr E2 ⟨zyv_new _, hS3.up (Nat.le_succ _) hr⟩ (hR.2.1.up (Nat.le_succ _) hr) (fun f hf => ?_)
        rcases List.mem_cons.mp hf with q | q
        · rw [q]
          unfold zyFm
          rw [if_neg (by dsimp only; omega), if_pos (by dsimp only; omega)]
          exact ⟨x, z, _, zyv_new _, zyv_up ha2 hr (Nat.le_succ _), zyv_up hb2 hr (Nat.le_succ _), rfl⟩
        · exact (hR.1.2.2.2 f q).up (Nat.le_succ _) hr
theorem zyw_un {f : Nat → Nat} {g : Nat} {F : Int32 → Int32} (hf : ∀ u, Int32.ofNat (f u / 8) = F (Int32.ofNat u) ∧ f u % 8 = 0) (hg : (g = 1 ∧ F = fun x => -x) ∨ (g = 2 ∧ F = fun x => x.toInt8.toInt32) ∨ (g = 3 ∧ F = fun x => (x.toUInt32 % 65536).toInt32)) (hKS : zyKS p l e R s mt args below meth c Q P X cf y fs nL d k) (h : zyo_un P f g nx ax k w cf y pc ls st q fs m = true) (hR : zyRl P X s nL d w ls st q m H locs lsA stA)
    (row : ∀ (x : Int32) (r : List Value), stA = .int x :: r → W p l e R s mt args below meth c H locs q.2.1 q.2.2 Q (F0 mt nx lsA (.int (F x) :: r)) → W p l e R s mt args below meth c H locs q.2.1 q.2.2 Q (F0 mt pc lsA stA)) : W p l e R s mt args below meth c H locs q.2.1 q.2.2 Q (F0 mt pc lsA stA) := by
  unfold zyo_un at h
  simp only [zfr_eq, zn_s] at h
  obtain ⟨a, r, es, h'⟩ := zpop_iff h
  clear h
  have h := h'
  clear h'
  subst es
  obtain ⟨x', stB, rfl, ha, hS2⟩ := zySt_c hR.2.2.2.2.1
  rcases zyhalf_iff h hR.1.1 ha with ⟨w2, e1, E2, h3⟩ | h
  · exact zygo hKS h3 hR e1 E2 hR.2.2.2.2.1
  rcases zykn_iff h hR.1.1 ha with ⟨u, rfl, h⟩ | h
  · refine row _ stB rfl (zygo hKS h hR rfl hR.1.1 ⟨?_, hS2⟩)
    obtain ⟨q1, q2⟩ := hf u
    rw [← q1]
    exact zyv_c (Or.inl ⟨q2, rfl⟩) (by omega) (by omega)
  obtain ⟨x, lo, hi, rfl, b1, b2, h⟩ := zybd_iff h hR.1.1 ha
  refine row x stB rfl ?_
  have nof : ∀ {lo2 hi2 : Nat}, zyfresh w lo2 hi2 (fun w2 v => k w2 cf y nx ls (v :: r) q fs m) = true → lo2 ≤ zB (F x) → zB (F x) ≤ hi2 → W p l e R s mt args below meth c H locs q.2.1 q.2.2 Q (F0 mt nx lsA (.int (F x) :: stB)) := fun h3 q1 q2 => zygoV (F := fun _ => []) hKS h3 hR q1 q2 hS2 (fun _ _ _ _ f hf => by cases hf)
  rcases zif_iff h with ⟨h1, h⟩ | ⟨h1, h⟩
  · have e1 := zbeqT h1
    have eF : F = fun x => -x := by
      rcases hg with ⟨-, q⟩ | ⟨q, -⟩ | ⟨q, -⟩
      · exact q
      · omega
      · omega
    rcases zif_iff h with ⟨h2, h⟩ | ⟨-, h⟩
    · have h2 := zbleT h2
      have bx := zB_int x
      have bz := zB_int (-x)
      have hn : (-x).toInt = -x.toInt := by
        rw [Int32.toInt_neg]
        have := zB_lt x
        apply Int.bmod_eq_of_le
        · omega
        · omega
      have e2 : zB (F x) = 4294967296 - zB x := by
        rw [eF]
        show zB (-x) = _
        omega
      refine zygoV (F := fun v => [(11, v, a, a)]) hKS h hR (x := F x) (by omega) (by omega) hS2 (fun ρ2 v hr hv f hf => ?_)
      rw [List.mem_singleton] at hf
      rw [hf]
      unfold zyFm
      rw [if_neg (by dsimp only; omega), if_pos (by dsimp only; omega)]
      exact ⟨x, x, _, hv, zyv_up ha hr (Nat.le_succ _), zyv_up ha hr (Nat.le_succ _), by rw [eF]; rfl⟩
    · exact nof h (zyfull _).1 (zyfull _).2
  rcases zif_iff h with ⟨h2, h⟩ | ⟨h2, h⟩
  · have e1 := zbeqT h2
    have eF : F = fun x => x.toInt8.toInt32 := by
      rcases hg with ⟨q, -⟩ | ⟨-, q⟩ | ⟨q, -⟩
      · omega
      · exact q
      · omega
    have bz := zB_int (F x)
    have l1 := Int8.le_toInt x.toInt8
    have l2 := Int8.toInt_lt x.toInt8
    have e2 : (F x).toInt = x.toInt8.toInt := by
      rw [eF]
      exact Int8.toInt_toInt32 _
    rcases zif_iff h with ⟨h3, h⟩ | ⟨-, h⟩
    · obtain ⟨g1, g2⟩ := zand_iff h3
      have g1 := zbleT g1
      have g2 := zbleT g2
      have bx := zB_int x
      have e3 : F x = x := by
        apply Int32.toInt_inj.mp
        rw [e2, Int32.toInt_toInt8]
        apply Int.bmod_eq_of_le
        · omega
        · omega
      rw [e3]
      exact zygo hKS h hR rfl hR.1.1 ⟨ha, hS2⟩
    · exact nof h (by omega) (by omega)
  rcases zif_iff h with ⟨h3, h⟩ | ⟨h3, h⟩
  · have e1 := zbeqT h3
    have eF : F = fun x => (x.toUInt32 % 65536).toInt32 := by
      rcases hg with ⟨q, -⟩ | ⟨q, -⟩ | ⟨-, q⟩
      · omega
      · omega
      · exact q
    have e2 : (F x).toBitVec.toNat = x.toBitVec.toNat % 65536 := by
      rw [eF]
      rfl
    have e3 := zB_eq (F x)
    rcases zif_iff h with ⟨h4, h⟩ | ⟨-, h⟩
    · obtain ⟨g1, g2⟩ := zand_iff h4
      have g1 := zbleT g1
      have g2 := zbleT g2
      have e4 := zB_eq x
      have l4 := x.toBitVec.isLt
      have e5 : F x = x := zN_inj (by omega)
      rw [e5]
      exact zygo hKS h hR rfl hR.1.1 ⟨ha, hS2⟩
    · exact nof h (by omega) (by omega)
  · cases h
theorem zykL_iff {v : Nat} (h : zykL v = true) : v % 8 = 4 ∧ v / 8 < 18446744073709551616 := by
  obtain ⟨h1, h2⟩ := zand_iff h
  have h2 := zbleT h2
  exact ⟨zbeqT h1, h2⟩
theorem zykL_n {v : Nat} (h : zykL v = false) (h4 : v % 8 = 4) : 18446744073709551616 ≤ v / 8 := by
  unfold zykL at h
  simp only [zn_m, zn_d, zn_c] at h
  rw [h4] at h
  have h : Nat.ble (v / 8 + 1) 18446744073709551616 = false := h
  have := zbleF h
  omega
theorem zyw_i2l {f : Nat → Nat} (hf : ∀ u, f u = 8 * (Int32.ofNat u).toInt64.toBitVec.toNat + 4) (hKS : zyKS p l e R s mt args below meth c Q P X cf y fs nL d k) (h : zyo_i2l P f nx ax k w cf y pc ls st q fs m = true) (hR : zyRl P X s nL d w ls st q m H locs lsA stA)
    (row : ∀ (x : Int32) (r : List Value), stA = .int x :: r → W p l e R s mt args below meth c H locs q.2.1 q.2.2 Q (F0 mt nx lsA (.long x.toInt64 :: r)) → W p l e R s mt args below meth c H locs q.2.1 q.2.2 Q (F0 mt pc lsA stA)) : W p l e R s mt args below meth c H locs q.2.1 q.2.2 Q (F0 mt pc lsA stA) := by
  unfold zyo_i2l at h
  simp only [zfr_eq] at h
  obtain ⟨a, r, es, h'⟩ := zpop_iff h
  clear h
  have h := h'
  clear h'
  subst es
  obtain ⟨x', stB, rfl, ha, hS2⟩ := zySt_c hR.2.2.2.2.1
  rcases zyhalf_iff h hR.1.1 ha with ⟨w2, e1, E2, h3⟩ | h
  · exact zygo hKS h3 hR e1 E2 hR.2.2.2.2.1
  rcases zykn_iff h hR.1.1 ha with ⟨u, rfl, h⟩ | h
  · refine row _ stB rfl (zygo hKS h hR rfl hR.1.1 ⟨?_, hS2⟩)
    rw [hf]
    exact zyv_mklx _
  · obtain ⟨x, lo, hi, rfl, -, -, h3⟩ := zybd_iff h hR.1.1 ha
    exact row x stB rfl (zygo hKS h3 hR rfl hR.1.1 ⟨zyv_anyL _, hS2⟩)
theorem zyw_l2i {f : Nat → Nat} (hf : ∀ u, f u = 8 * (Int64.ofNat u).toInt32.toBitVec.toNat) (hKS : zyKS p l e R s mt args below meth c Q P X cf y fs nL d k) (h : zyo_l2i f nx ax k w cf y pc ls st q fs m = true) (hR : zyRl P X s nL d w ls st q m H locs lsA stA)
    (row : ∀ (x : Int64) (r : List Value), stA = .long x :: r → W p l e R s mt args below meth c H locs q.2.1 q.2.2 Q (F0 mt nx lsA (.int x.toInt32 :: r)) → W p l e R s mt args below meth c H locs q.2.1 q.2.2 Q (F0 mt pc lsA stA)) : W p l e R s mt args below meth c H locs q.2.1 q.2.2 Q (F0 mt pc lsA stA) := by
  unfold zyo_l2i at h
  simp only [zfr_eq, zn_m, zn_d] at h
  obtain ⟨a, r, es, h'⟩ := zpop_iff h
  clear h
  have h := h'
  clear h'
  subst es
  obtain ⟨x', stB, rfl, ha, hS2⟩ := zySt_c hR.2.2.2.2.1
  rcases zif_iff h with ⟨h1, h2⟩ | ⟨-, h2⟩
  · obtain ⟨q1, q2⟩ := zykL_iff h1
    obtain ⟨z, rfl, ez⟩ := zyv_4 ha q1
    have ez := ez q2
    subst ez
    refine row _ stB rfl (zygo hKS h2 hR rfl hR.1.1 ⟨?_, hS2⟩)
    rw [hf]
    exact zyv_mkx _
  rcases zif_iff h2 with ⟨h1, h3⟩ | ⟨-, h3⟩
  · obtain ⟨z, rfl, -⟩ := zyv_4 ha (zbeqT h1)
    exact row _ stB rfl (zygoV (F := fun _ => []) hKS h3 hR (zyfull _).1 (zyfull _).2 hS2 (fun _ _ _ _ f hf => by cases hf))
  · cases h3
theorem zyw_lneg {f : Nat → Nat} (hf : ∀ u, f u = 8 * (-(Int64.ofNat u)).toBitVec.toNat + 4) (hKS : zyKS p l e R s mt args below meth c Q P X cf y fs nL d k) (h : zyo_lneg f nx ax k w cf y pc ls st q fs m = true) (hR : zyRl P X s nL d w ls st q m H locs lsA stA)
    (row : ∀ (x : Int64) (r : List Value), stA = .long x :: r → W p l e R s mt args below meth c H locs q.2.1 q.2.2 Q (F0 mt nx lsA (.long (-x) :: r)) → W p l e R s mt args below meth c H locs q.2.1 q.2.2 Q (F0 mt pc lsA stA)) : W p l e R s mt args below meth c H locs q.2.1 q.2.2 Q (F0 mt pc lsA stA) := by
  unfold zyo_lneg at h
  simp only [zfr_eq, zn_m, zn_d] at h
  obtain ⟨a, r, es, h'⟩ := zpop_iff h
  clear h
  have h := h'
  clear h'
  subst es
  obtain ⟨x', stB, rfl, ha, hS2⟩ := zySt_c hR.2.2.2.2.1
  rcases zif_iff h with ⟨h1, h2⟩ | ⟨-, h2⟩
  · obtain ⟨q1, q2⟩ := zykL_iff h1
    obtain ⟨z, rfl, ez⟩ := zyv_4 ha q1
    have ez := ez q2
    subst ez
    refine row _ stB rfl (zygo hKS h2 hR rfl hR.1.1 ⟨?_, hS2⟩)
    rw [hf]
    exact zyv_mklx _
  rcases zif_iff h2 with ⟨h1, h3⟩ | ⟨-, h3⟩
  · obtain ⟨z, rfl, -⟩ := zyv_4 ha (zbeqT h1)
    exact row _ stB rfl (zygo hKS h3 hR rfl hR.1.1 ⟨zyv_anyL _, hS2⟩)
  · cases h3
theorem zyw_lbin {f : Nat → Nat → Nat} {dv : Bool} {F : Int64 → Int64 → Int64} (hf : ∀ u v, f u v = 8 * (F (Int64.ofNat u) (Int64.ofNat v)).toBitVec.toNat + 4) (hKS : zyKS p l e R s mt args below meth c Q P X cf y fs nL d k) (h : zyo_lbin dv f nx ax k w cf y pc ls st q fs m = true) (hR : zyRl P X s nL d w ls st q m H locs lsA stA)
    (row : ∀ (x z : Int64) (r : List Value), stA = .long z :: .long x :: r → (dv = true → ¬ z = 0) → W p l e R s mt args below meth c H locs q.2.1 q.2.2 Q (F0 mt nx lsA (.long (F x z) :: r)) → W p l e R s mt args below meth c H locs q.2.1 q.2.2 Q (F0 mt pc lsA stA)) : W p l e R s mt args below meth c H locs q.2.1 q.2.2 Q (F0 mt pc lsA stA) := by
  unfold zyo_lbin at h
  simp only [zfr_eq, zn_m, zn_d] at h
  obtain ⟨b, t, es, h'⟩ := zpop_iff h
  clear h
  have h := h'
  clear h'
  subst es
  obtain ⟨a, r, es, h'⟩ := zpop_iff h
  clear h
  have h := h'
  clear h'
  subst es
  obtain ⟨y', stB, rfl, hb, hS2⟩ := zySt_c hR.2.2.2.2.1
  obtain ⟨x', stC, rfl, ha, hS3⟩ := zySt_c hS2
  rcases zif_iff h with ⟨h1, h2⟩ | ⟨-, h2⟩
  rotate_left
  · cases h2
  obtain ⟨g1, g2⟩ := zand_iff h1
  obtain ⟨xa, rfl, ea⟩ := zyv_4 ha (zbeqT g1)
  obtain ⟨xb, rfl, eb⟩ := zyv_4 hb (zbeqT g2)
  rcases zif_iff h2 with ⟨-, h3⟩ | ⟨h4, h3⟩
  · cases h3
  refine row _ _ stC rfl (fun z z0 => ?_) ?_
  · rw [z] at h4
    have h4 : zif (zykL b) (Nat.beq (b / 8) 0) true = false := h4
    cases hq : zykL b with
    | false => rw [hq] at h4; cases h4
    | true =>
      rw [hq] at h4
      have h5 : Nat.beq (b / 8) 0 = false := h4
      have e1 := eb (zykL_iff hq).2
      have e5 : (Int64.ofNat (b / 8)).toBitVec.toNat = (0 : Int64).toBitVec.toNat := by rw [← e1, z0]
      have e6 : (Int64.ofNat (b / 8)).toBitVec.toNat = b / 8 % 18446744073709551616 := by simp
      rw [e6, Nat.mod_eq_of_lt (zykL_iff hq).2] at e5
      exact zbeqF h5 e5
  rcases zif_iff h3 with ⟨h5, h6⟩ | ⟨-, h6⟩
  · obtain ⟨q1, q2⟩ := zand_iff h5
    rw [ea (zykL_iff q1).2, eb (zykL_iff q2).2]
    refine zygo hKS h6 hR rfl hR.1.1 ⟨?_, hS3⟩
    rw [hf]
    exact zyv_mklx _
  · exact zygo hKS h6 hR rfl hR.1.1 ⟨zyv_anyL _, hS3⟩
theorem zyw_lcmp (hKS : zyKS p l e R s mt args below meth c Q P X cf y fs nL d k) (h : zyo_lcmp nx ax k w cf y pc ls st q fs m = true) (hR : zyRl P X s nL d w ls st q m H locs lsA stA)
    (row : ∀ (x z : Int64) (r : List Value), stA = .long z :: .long x :: r → W p l e R s mt args below meth c H locs q.2.1 q.2.2 Q (F0 mt nx lsA (.int (lg_cmp x z) :: r)) → W p l e R s mt args below meth c H locs q.2.1 q.2.2 Q (F0 mt pc lsA stA)) : W p l e R s mt args below meth c H locs q.2.1 q.2.2 Q (F0 mt pc lsA stA) := by
  unfold zyo_lcmp at h
  simp only [zfr_eq, zn_m, zn_d] at h
  obtain ⟨b, t, es, h'⟩ := zpop_iff h
  clear h
  have h := h'
  clear h'
  subst es
  obtain ⟨a, r, es, h'⟩ := zpop_iff h
  clear h
  have h := h'
  clear h'
  subst es
  obtain ⟨y', stB, rfl, hb, hS2⟩ := zySt_c hR.2.2.2.2.1
  obtain ⟨x', stC, rfl, ha, hS3⟩ := zySt_c hS2
  rcases zif_iff h with ⟨h1, h2⟩ | ⟨-, h2⟩
  rotate_left
  · cases h2
  obtain ⟨g1, g2⟩ := zand_iff h1
  obtain ⟨xa, rfl, ea⟩ := zyv_4 ha (zbeqT g1)
  obtain ⟨xb, rfl, eb⟩ := zyv_4 hb (zbeqT g2)
  refine row _ _ stC rfl ?_
  rcases zif_iff h2 with ⟨h5, h6⟩ | ⟨-, h6⟩
  · obtain ⟨q1, q2⟩ := zand_iff h5
    rw [ea (zykL_iff q1).2, eb (zykL_iff q2).2]
    exact zygo hKS h6 hR rfl hR.1.1 ⟨zyv_mkx _, hS3⟩
  · have hc : 2147483647 ≤ zB (lg_cmp xa xb) ∧ zB (lg_cmp xa xb) ≤ 2147483649 := by
      unfold lg_cmp
      split
      · decide
      · split <;> decide
    exact zygoV (F := fun _ => []) hKS h6 hR hc.1 hc.2 hS3 (fun _ _ _ _ f hf => by cases hf)
theorem zyw_lsh {f : Nat → Nat → Nat} {F : Int64 → Int32 → Int64} (hf : ∀ u v, f u v = 8 * (F (Int64.ofNat u) (Int32.ofNat v)).toBitVec.toNat + 4) (hKS : zyKS p l e R s mt args below meth c Q P X cf y fs nL d k) (h : zyo_lsh f nx ax k w cf y pc ls st q fs m = true) (hR : zyRl P X s nL d w ls st q m H locs lsA stA)
    (row : ∀ (x : Int64) (z : Int32) (r : List Value), stA = .int z :: .long x :: r → W p l e R s mt args below meth c H locs q.2.1 q.2.2 Q (F0 mt nx lsA (.long (F x z) :: r)) → W p l e R s mt args below meth c H locs q.2.1 q.2.2 Q (F0 mt pc lsA stA)) : W p l e R s mt args below meth c H locs q.2.1 q.2.2 Q (F0 mt pc lsA stA) := by
  unfold zyo_lsh at h
  simp only [zfr_eq, zn_m, zn_d] at h
  obtain ⟨b, t, es, h'⟩ := zpop_iff h
  clear h
  have h := h'
  clear h'
  subst es
  obtain ⟨a, r, es, h'⟩ := zpop_iff h
  clear h
  have h := h'
  clear h'
  subst es
  obtain ⟨y', stB, rfl, hb, hS2⟩ := zySt_c hR.2.2.2.2.1
  obtain ⟨x', stC, rfl, ha, hS3⟩ := zySt_c hS2
  rcases zif_iff h with ⟨h1, h2⟩ | ⟨-, h2⟩
  rotate_left
  · cases h2
  obtain ⟨g1, g2⟩ := zand_iff h1
  obtain ⟨xa, rfl, ea⟩ := zyv_4 ha (zbeqT g1)
  obtain ⟨xb, rfl⟩ := zyv_int hb (zbleT g2)
  refine row _ _ stC rfl ?_
  rcases zif_iff h2 with ⟨h5, h6⟩ | ⟨-, h6⟩
  · obtain ⟨q1, q2⟩ := zand_iff h5
    have eb := Value.int.inj (zyv_0 hb (zbeqT q2))
    rw [ea (zykL_iff q1).2, eb]
    refine zygo hKS h6 hR rfl hR.1.1 ⟨?_, hS3⟩
    rw [hf]
    exact zyv_mklx _
  · exact zygo hKS h6 hR rfl hR.1.1 ⟨zyv_anyL _, hS3⟩
/-- a branch's two ways -/
theorem zybr {o tn : Bool} {w2 : zW} {r : List Nat} {stB : List Value} {f : zyF} (hKS : zyKS p l e R s mt args below meth c Q P X cf y fs nL d k) (h : zif (zif tn (zif o false true) o) (k w2 cf y ax ls r q fs (m.1, f :: m.2)) (k w2 cf y nx ls r q fs (m.1, f :: m.2)) = true) (hR : zyRl P X s nL d w ls st q m H locs lsA stA) (e1 : w2.1 = w.1) (hE : zEnv (zyρ X) w2.2) (h2 : zySt X r stB) (hf : zyFm X f) :
    (o = !tn → W p l e R s mt args below meth c H locs q.2.1 q.2.2 Q (F0 mt ax lsA stB)) ∧ (o = tn → W p l e R s mt args below meth c H locs q.2.1 q.2.2 Q (F0 mt nx lsA stB)) := by
  cases o <;> cases tn
  · exact ⟨fun z => absurd z (by decide), fun _ => zygoM hKS (st2 := r) h hR e1 hE h2 hf⟩
  · exact ⟨fun _ => zygoM hKS (st2 := r) h hR e1 hE h2 hf, fun z => absurd z (by decide)⟩
  · exact ⟨fun _ => zygoM hKS (st2 := r) h hR e1 hE h2 hf, fun z => absurd z (by decide)⟩
  · exact ⟨fun z => absurd z (by decide), fun _ => zygoM hKS (st2 := r) h hR e1 hE h2 hf⟩
theorem zyeqr_iff {a : Nat} {kk : zW → Bool} {w2 : zW} (hE : zEnv (zyρ X) w2.2) : ∀ {F : List zyF}, (∀ f ∈ F, zyFm X f) → zyeqr w2 a kk F = true → ∃ w3 : zW, w3.1 = w2.1 ∧ zEnv (zyρ X) w3.2 ∧ kk w3 = true := by
  intro F
  induction F with
  | nil => intro _ h; exact ⟨w2, rfl, hE, h⟩
  | cons f t ih =>
    intro hF h
    have e : zyeqr w2 a kk (f :: t) = zif (zand (Nat.beq f.1 2) (Nat.beq f.2.1 a)) (zbd w2 a (fun ld hd => zbd w2 f.2.2.1 (fun lx hx => zbd w2 f.2.2.2 (fun ly hy => zif (zand (Nat.ble hy (lx + 2147483648)) (Nat.ble (hx + 2147483648) (ly + 4294967295))) (zcut w2 f.2.2.2 (lx + 2147483648 - hd) (hx + 2147483648 - ld) kk) (kk w2))))) (zyeqr w2 a kk t) := rfl
    rw [e] at h
    rcases zif_iff h with ⟨h1, h⟩ | ⟨-, h⟩
    · obtain ⟨g1, g2⟩ := zand_iff h1
      have g1 := zbeqT g1
      have g2 := zbeqT g2
      have hf := hF f List.mem_cons_self
      unfold zyFm at hf
      rw [if_neg (by omega), if_pos (by omega), g1, g2] at hf
      obtain ⟨x, y0, z, z1, z2, z3, z4⟩ := hf
      obtain ⟨z5, ld, hd, ez, d1, d2, h⟩ := zybd_iff h hE z1
      have ez := Value.int.inj ez
      subst ez
      obtain ⟨x5, lx, hx, ex, a1, a2, h⟩ := zybd_iff h hE z2
      have ex := Value.int.inj ex
      subst ex
      obtain ⟨y5, ly, hy, ey, b1, b2, h⟩ := zybd_iff h hE z3
      have ey := Value.int.inj ey
      subst ey
      rcases zif_iff h with ⟨h2, h⟩ | ⟨-, h⟩
      · obtain ⟨q1, q2⟩ := zand_iff h2
        have q1 := zbleT q1
        have q2 := zbleT q2
        have e2 := zB_sub2 (x := x) (y := y0) (by omega) (by omega)
        have e3 : zB z = zB x + 2147483648 - zB y0 := by
          rw [z4]
          exact e2
        exact zycut_iff h hE z3 (by omega) (by omega)
      · exact ⟨w2, rfl, hE, h⟩
    · exact ih (fun f2 hf2 => hF f2 (List.mem_cons_of_mem _ hf2)) h
theorem zyw_cmpG {g sw tn : Bool} {b a : Nat} {r : List Nat} {y' x' : Value} {stC : List Value} (hb : zyV X b y') (ha : zyV X a x') (hS3 : zySt X r stC) (hKS : zyKS p l e R s mt args below meth c Q P X cf y fs nL d k) (h : zyo_cmp g sw tn nx ax k w cf y pc ls (b :: a :: r) q fs m = true) (hR : zyRl P X s nL d w ls st q m H locs lsA stA)
    (row : ∀ (x z : Int32), x' = .int x → y' = .int z → ((if g then x = z else if sw then z < x else x < z) → W p l e R s mt args below meth c H locs q.2.1 q.2.2 Q (F0 mt (if tn then nx else ax) lsA stC)) → (¬ (if g then x = z else if sw then z < x else x < z) → W p l e R s mt args below meth c H locs q.2.1 q.2.2 Q (F0 mt (if tn then ax else nx) lsA stC)) → W p l e R s mt args below meth c H locs q.2.1 q.2.2 Q (F0 mt pc lsA stA)) : W p l e R s mt args below meth c H locs q.2.1 q.2.2 Q (F0 mt pc lsA stA) := by
  have h : zif g (zeq w a b (fun o w2 => zif o (zyeqr w2 a (fun w3 => zif (zif tn false true) (k w3 cf y ax ls r q fs (m.1, (22, 0, a, b) :: m.2)) (k w3 cf y nx ls r q fs (m.1, (22, 0, a, b) :: m.2))) m.2) (zif (zif tn true false) (k w2 cf y ax ls r q fs (m.1, (23, 0, a, b) :: m.2)) (k w2 cf y nx ls r q fs (m.1, (23, 0, a, b) :: m.2)))))
    (zlt w (zif sw b a) (zif sw a b) (fun o w2 => zif (zif tn (zif o false true) o) (k w2 cf y ax ls r q fs (m.1, (zif o 20 21, 0, zif sw b a, zif sw a b) :: m.2)) (k w2 cf y nx ls r q fs (m.1, (zif o 20 21, 0, zif sw b a, zif sw a b) :: m.2)))) = true := h
  have fin : ∀ (Pr : Prop) (x z : Int32) (ft ff : zyF), x' = .int x → y' = .int z → (Pr ↔ (if g then x = z else if sw then z < x else x < z)) → (Pr → zyFm X ft) → (¬ Pr → zyFm X ff) → ((Pr ∧ ∃ w2 : zW, w2.1 = w.1 ∧ zEnv (zyρ X) w2.2 ∧ zif (zif tn (zif true false true) true) (k w2 cf y ax ls r q fs (m.1, ft :: m.2)) (k w2 cf y nx ls r q fs (m.1, ft :: m.2)) = true) ∨ (¬ Pr ∧ ∃ w2 : zW, w2.1 = w.1 ∧ zEnv (zyρ X) w2.2 ∧ zif (zif tn (zif false false true) false) (k w2 cf y ax ls r q fs (m.1, ff :: m.2)) (k w2 cf y nx ls r q fs (m.1, ff :: m.2)) = true)) → W p l e R s mt args below meth c H locs q.2.1 q.2.2 Q (F0 mt pc lsA stA) := by
    intro Pr x z ft ff ex ez hP h1 h2 hh
    rcases hh with ⟨hp, w2, e1, E2, h3⟩ | ⟨hp, w2, e1, E2, h3⟩
    · obtain ⟨b1, b2⟩ := zybr (o := true) hKS h3 hR e1 E2 hS3 (h1 hp)
      refine row x z ex ez (fun _ => ?_) (fun n => absurd (hP.mp hp) n)
      cases tn
      · exact b1 rfl
      · exact b2 rfl
    · obtain ⟨b1, b2⟩ := zybr (o := false) hKS h3 hR e1 E2 hS3 (h2 hp)
      refine row x z ex ez (fun n => absurd (hP.mpr n) hp) (fun _ => ?_)
      cases tn
      · exact b2 rfl
      · exact b1 rfl
  have mkf : ∀ (g a b : Nat) (x z : Int32), ¬ g = 24 → ¬ g < 12 ∧ g < 1000 → zyV X a (.int x) → zyV X b (.int z) → (g = 20 → x < z) → (g = 21 → ¬ x < z) → (g = 22 → x = z) → (g = 23 → ¬ x = z) → zyFm X (g, 0, a, b) := by
    intro g a b x z n1 n2 h1 h2 h3 h4 h5 h6
    unfold zyFm
    rw [if_neg n1, if_neg n2.1, if_pos n2.2]
    exact ⟨x, z, h1, h2, h3, h4, h5, h6⟩
  cases g with
  | true =>
    rw [zif_t] at h
    obtain ⟨x, z, e1, e2, hh⟩ := zyeq_iff h hR.1.1 ha hb
    subst e1
    subst e2
    have hh : (x = z ∧ ∃ w2 : zW, w2.1 = w.1 ∧ zEnv (zyρ X) w2.2 ∧ zif (zif tn (zif true false true) true) (k w2 cf y ax ls r q fs (m.1, (22, 0, a, b) :: m.2)) (k w2 cf y nx ls r q fs (m.1, (22, 0, a, b) :: m.2)) = true) ∨ (¬ x = z ∧ ∃ w2 : zW, w2.1 = w.1 ∧ zEnv (zyρ X) w2.2 ∧ zif (zif tn (zif false false true) false) (k w2 cf y ax ls r q fs (m.1, (23, 0, a, b) :: m.2)) (k w2 cf y nx ls r q fs (m.1, (23, 0, a, b) :: m.2)) = true) := by
      rcases hh with ⟨q1, w2, q2, q3, q4⟩ | ⟨q1, w2, q2, q3, q4⟩
      · rw [zif_t] at q4
        obtain ⟨w3, q5, q6, q7⟩ := zyeqr_iff q3 hR.1.2.2.2 q4
        exact Or.inl ⟨q1, w3, q5.trans q2, q6, q7⟩
      · rw [zif_f] at q4
        exact Or.inr ⟨q1, w2, q2, q3, q4⟩
    exact fin (x = z) x z (22, 0, a, b) (23, 0, a, b) rfl rfl (by rw [if_pos rfl]) (fun q => mkf 22 a b x z (by decide) (by decide) ha hb (fun z => by omega) (fun z => by omega) (fun _ => q) (fun z => by omega)) (fun q => mkf 23 a b x z (by decide) (by decide) ha hb (fun z => by omega) (fun z => by omega) (fun z => by omega) (fun _ => q)) hh
  | false =>
    cases sw with
    | true =>
      simp only [zif_t, zif_f] at h
      obtain ⟨z, x, e2, e1, hh⟩ := zylt_iff h hR.1.1 hb ha
      subst e1
      subst e2
      exact fin (z < x) x z (20, 0, b, a) (21, 0, b, a) rfl rfl (by rw [if_neg (by decide), if_pos rfl]) (fun q => mkf 20 b a z x (by decide) (by decide) hb ha (fun _ => q) (fun z => by omega) (fun z => by omega) (fun z => by omega)) (fun q => mkf 21 b a z x (by decide) (by decide) hb ha (fun z => by omega) (fun _ => q) (fun z => by omega) (fun z => by omega)) hh
    | false =>
      simp only [zif_f] at h
      obtain ⟨x, z, e1, e2, hh⟩ := zylt_iff h hR.1.1 ha hb
      subst e1
      subst e2
      exact fin (x < z) x z (20, 0, a, b) (21, 0, a, b) rfl rfl (by rw [if_neg (by decide), if_neg (by decide)]) (fun q => mkf 20 a b x z (by decide) (by decide) ha hb (fun _ => q) (fun z => by omega) (fun z => by omega) (fun z => by omega)) (fun q => mkf 21 a b x z (by decide) (by decide) ha hb (fun z => by omega) (fun _ => q) (fun z => by omega) (fun z => by omega)) hh
theorem zyw_cmp {g sw tn : Bool} (hKS : zyKS p l e R s mt args below meth c Q P X cf y fs nL d k) (h : zyo_cmp g sw tn nx ax k w cf y pc ls st q fs m = true) (hR : zyRl P X s nL d w ls st q m H locs lsA stA)
    (row : ∀ (x z : Int32) (r : List Value), stA = .int z :: .int x :: r → ((if g then x = z else if sw then z < x else x < z) → W p l e R s mt args below meth c H locs q.2.1 q.2.2 Q (F0 mt (if tn then nx else ax) lsA r)) → (¬ (if g then x = z else if sw then z < x else x < z) → W p l e R s mt args below meth c H locs q.2.1 q.2.2 Q (F0 mt (if tn then ax else nx) lsA r)) → W p l e R s mt args below meth c H locs q.2.1 q.2.2 Q (F0 mt pc lsA stA)) : W p l e R s mt args below meth c H locs q.2.1 q.2.2 Q (F0 mt pc lsA stA) := by
  have h0 := h
  unfold zyo_cmp at h0
  obtain ⟨b, t, es, h'⟩ := zpop_iff h0
  subst es
  obtain ⟨a, r, es, h''⟩ := zpop_iff h'
  subst es
  obtain ⟨y', stB, rfl, hb, hS2⟩ := zySt_c hR.2.2.2.2.1
  obtain ⟨x', stC, rfl, ha, hS3⟩ := zySt_c hS2
  exact zyw_cmpG hb ha hS3 hKS h hR (fun x z ex ez => row x z stC (by rw [ex, ez]))
theorem zyw_cmp0 {g sw tn : Bool} (hKS : zyKS p l e R s mt args below meth c Q P X cf y fs nL d k) (h : zyo_cmp0 g sw tn nx ax k w cf y pc ls st q fs m = true) (hR : zyRl P X s nL d w ls st q m H locs lsA stA)
    (row : ∀ (x : Int32) (r : List Value), stA = .int x :: r → ((if g then x = 0 else if sw then 0 < x else x < 0) → W p l e R s mt args below meth c H locs q.2.1 q.2.2 Q (F0 mt (if tn then nx else ax) lsA r)) → (¬ (if g then x = 0 else if sw then 0 < x else x < 0) → W p l e R s mt args below meth c H locs q.2.1 q.2.2 Q (F0 mt (if tn then ax else nx) lsA r)) → W p l e R s mt args below meth c H locs q.2.1 q.2.2 Q (F0 mt pc lsA stA)) : W p l e R s mt args below meth c H locs q.2.1 q.2.2 Q (F0 mt pc lsA stA) := by
  have h : zyo_cmp g sw tn nx ax k w cf y pc ls (0 :: st) q fs m = true := h
  have h0 := h
  unfold zyo_cmp at h0
  obtain ⟨b, t, es, h'⟩ := zpop_iff h0
  cases es
  obtain ⟨a, r, es, h''⟩ := zpop_iff h'
  subst es
  obtain ⟨x', stC, rfl, ha, hS3⟩ := zySt_c hR.2.2.2.2.1
  exact zyw_cmpG zyv_zero ha hS3 hKS h hR (fun x z ex ez => by
    have ez := (Value.int.inj ez).symm
    subst ez
    exact row x stC (by rw [ex]))
end ZYR
